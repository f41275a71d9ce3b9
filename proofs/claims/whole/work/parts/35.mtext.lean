/-! ===== the reference's readers: tests, clauses, texts ===== -/
section MTEXT
variable {E : Nat × (Nat → Int32)} {d : Nat} {A : xH} {fl : Nat → Int32} {ar : Nat → Nat → Int32} {al : Nat → Nat → Int64} {bs : Nat → Nat} {n : Nat} {o : Bool} {x : PX} {f : PX → PR} {br : Int32}
theorem MO.map {r : PR} {res : xO} {g : PX → PX} (hg : ∀ z, (g z).1 = z.1 ∧ (g z).2.1 = z.2.1) (h : MO A ar al bs n fl r res) : MO A ar al bs n fl (rb r fun z => .inr (g z)) res := by
  obtain ⟨f1, h1, h2, h3⟩ := h
  refine ⟨f1, h1, h2, ?_⟩
  cases r with
  | inl t => exact h3
  | inr z => obtain ⟨a, b⟩ := hg z; exact ⟨by rw [a]; exact h3.1, by rw [b]; exact h3.2.1, h3.2.2⟩
theorem mnot_loop (hA : 69 ≤ A.length) (hn : n ≤ 400) (hbs : ∀ j, bs j < 256) (hk : mkR bs n ar) : ∀ (c : Nat) (b : Bool) (fl : Nat → Int32) (x : PX) (w3 : Value), mok (tkN bs n) x → tkN bs n ≤ x.1 + c → mpR x fl → ∃ f1, xD E (d + 3) 209 2 [.ref 48, .int br, .int 1, w3] [] (mw A fl ar al) = xD E (d + 3) 209 2 [.ref 48, .int br, .int 0, xJ] [] (mw A f1 ar al) ∧ mpR ((nts (tok bs n) c x.1 b).1, x.2) f1 ∧ mF3 fl f1 ∧ (nts (tok bs n) c x.1 b).1 ≤ tkN bs n
  | 0, b, fl, x, w3, hx, hc, h => by
    have ht := tok_end (bs := bs) (n := n) (i := x.1) (by omega)
    refine ⟨fl, ?_, h, mF3.rf, hx.1⟩
    rw [e209_2, i_if, m_takes0 (c := 6) (cc := 6) hA hn hbs hk hx.1 h rfl (by omega) (by rw [ht]; simp), xI_s, Option.bind_some]
  | c + 1, b, fl, x, w3, hx, hc, h => by
    unfold nts
    by_cases e : (tok bs n x.1).1 = 6
    · obtain ⟨k1, k2⟩ := m_takes1 (E := E) (d := d) (al := al) (c := 6) (cc := 6) hA hn hk hx.1 h rfl e
      have hlt := tok_lt (bs := bs) (n := n) (i := x.1) (by omega)
      obtain ⟨f1, q1, q2, q3, q4⟩ := mnot_loop hA hn hbs hk c (!b) _ (adv x) xJ ⟨hlt, hx.2⟩ (by simp only [adv]; omega) k2
      rw [if_pos e]
      refine ⟨f1, ?_, q2, mf19.tr q3, q4⟩
      rw [e209_2, i_if, k1, xI_s, Option.bind_some]; exact q1
    · rw [if_neg e]
      refine ⟨fl, ?_, h, mF3.rf, hx.1⟩
      rw [e209_2, i_if, m_takes0 (c := 6) (cc := 6) hA hn hbs hk hx.1 h rfl (by omega) e, xI_s, Option.bind_some]
theorem m_cmp (hA : 69 ≤ A.length) (hn : n ≤ 400) (hbs : ∀ j, bs j < 256) (hk : mkR bs n ar) (hf : gd (tkN bs n) f) (hs : MT A ar al bs n (mst o) (pSum (tok bs n) f) (xC E (d + 3) 210 [.ref 48, .int br])) (hP : mst o fl) (hx : mok (tkN bs n) x) (h : mpR x fl) (ht : ¬ (tok bs n x.1).1 = 140) : MO A ar al bs n fl (pCmp (tok bs n) f x) (xD E (d + 4) 209 2 [.ref 48, .int br, .int 0, xJ] [] (mw A fl ar al)) := by
  have hN := tkN_le (bs := bs) (n := n)
  have hxN := hx.1
  have htc := tok_c (bs := bs) (n := n) hbs x.1
  have hgs := gd_sum (T := tok bs n) hTk hf
  rw [e209_2, i_if0, m_fine1 hA h.2.2, xI_s, Option.bind_some]
  dsimp only
  rw [i_if, m_r48_15 hA, Option.bind_some, m_g48_19 hA, Option.bind_some, h.1, m_a57 hA (by omega), Option.bind_some, (hk _ hx.1).1, m_sign (c := 40) (cc := 40) rfl, xI_s, Option.bind_some]
  dsimp only
  rw [if_neg (fun q => ht ((nI_eq (by omega) (by omega)).mp q))]
  refine mo_bd hn (P := mst o) (fun f1 h3 => hP.f3 h3) (gd_ok hgs hx) (hs.2 fl x hP hx h) (fun f1 h1 => ?_) (fun f1 y hP1 hy hR => ?_)
  · rw [m_sign (c := 60) (cc := 60) rfl, xI_s, Option.bind_some]
    dsimp only
    rw [m_takesX hA h1, xI_s, Option.bind_some]
    dsimp only
    rw [i_if0, m_sign (c := 62) (cc := 62) rfl, xI_s, Option.bind_some]
    dsimp only
    rw [m_takesX hA h1, xI_s, Option.bind_some]
    dsimp only
    rw [i_if0, m_sign (c := 61) (cc := 61) rfl, xI_s, Option.bind_some]
    dsimp only
    have hm := mt_must (E := E) (d := d) (al := al) (P := mst o) hA hn hbs hk (c := 161) (cc := nI 161) rfl (by omega)
    rw [hm.1 f1 h1, xV_s, Option.bind_some, hs.1 f1 h1, xV_s, Option.bind_some]
  · have hyN := hy.1
    rw [m_sign (c := 60) (cc := 60) rfl, xI_s, Option.bind_some]
    dsimp only
    have go : (tok bs n y.1).1 ≠ 0 → MO A ar al bs n f1 (rb (pSum (tok bs n) f (adv y)) fun z => .inr (emi z (opC (tok bs n y.1).1) 0)) ((xV (xC E (d + 3) 210 [.ref 48, .int br] (mw A (upd f1 19 (nI (y.1 + 1))) ar al))).bind fun A14 => some (none, A14)) := by
      intro h0
      have hlt := tok_lt (bs := bs) (n := n) h0
      have hR1 : mpR (adv y) (upd f1 19 (nI (y.1 + 1))) := ⟨upd_s, by rw [upd_n (by omega)]; exact hR.2.1, by rw [upd_n (by omega)]; exact hR.2.2⟩
      refine MO.map (fun z => emi_p _ _ z) (MO.tr (mf19 (v := nI (y.1 + 1))) ?_)
      obtain ⟨f2, z1, z2, z3⟩ := hs.2 _ _ (hP1.f3 mf19) (⟨hlt, hy.2⟩ : mok (tkN bs n) (adv y)) hR1
      exact ⟨f2, by rw [z1, xV_s, Option.bind_some], z2, z3⟩
    by_cases q1 : (tok bs n y.1).1 = 160
    · rw [if_pos (Or.inl q1), (m_takes1 (E := E) (d := d + 1) (al := al) hA hn hk hy.1 hR rfl q1).1, xI_s, Option.bind_some]
      dsimp only
      rw [i_if]; exact go (by omega)
    rw [m_takes0 hA hn hbs hk hy.1 hR rfl (by omega) q1, xI_s, Option.bind_some]
    dsimp only
    rw [i_if0, m_sign (c := 62) (cc := 62) rfl, xI_s, Option.bind_some]
    dsimp only
    by_cases q2 : (tok bs n y.1).1 = 162
    · rw [if_pos (Or.inr (Or.inl q2)), (m_takes1 (E := E) (d := d + 1) (al := al) hA hn hk hy.1 hR rfl q2).1, xI_s, Option.bind_some]
      dsimp only
      rw [i_if]; exact go (by omega)
    rw [m_takes0 hA hn hbs hk hy.1 hR rfl (by omega) q2, xI_s, Option.bind_some]
    dsimp only
    rw [i_if0, m_sign (c := 61) (cc := 61) rfl, xI_s, Option.bind_some]
    dsimp only
    have hm := mt_must (E := E) (d := d) (al := al) (P := mst o) hA hn hbs hk (c := 161) (cc := nI 161) rfl (by omega)
    obtain ⟨f2, z1, z2, z3⟩ := hm.2 f1 y hP1 hy hR
    rw [show (100 : Nat) + 61 = 161 from rfl, z1, xV_s, Option.bind_some]
    unfold eat at z3
    by_cases q3 : (tok bs n y.1).1 = 161
    · rw [if_pos q3] at z3
      rw [if_pos (Or.inr (Or.inr q3))]
      have hlt := tok_lt (bs := bs) (n := n) (i := y.1) (by omega)
      refine MO.map (fun z => emi_p _ _ z) (MO.tr z2 ?_)
      obtain ⟨f3, w1, w2, w3⟩ := hs.2 f2 (adv y) (hP1.f3 z2) ⟨hlt, hy.2⟩ z3
      exact ⟨f3, by rw [w1, xV_s, Option.bind_some], w2, w3⟩
    · rw [if_neg q3] at z3
      rw [if_neg (fun q => q.elim q1 (fun q => q.elim q2 q3))]
      refine ⟨f2, ?_, z2, z3⟩
      rw [hs.1 f2 (by rw [z3.1]; exact ps_n1 hn _), xV_s, Option.bind_some]
theorem mt_plain (hA : 69 ≤ A.length) (hn : n ≤ 400) (hbs : ∀ j, bs j < 256) (hk : mkR bs n ar) : ∀ (k d : Nat), k ≤ 8 → MT A ar al bs n (mst o) (pPlain (tok bs n) o k) (xC E (d + 7 + 3 * k) 209 [.ref 48, .int (nI (8 - k))]) := by
  have hN := tkN_le (bs := bs) (n := n)
  have start : ∀ (k d : Nat), k ≤ 8 → (∀ (fl : Nat → Int32) (x : PX), mst o fl → mok (tkN bs n) x → mpR x fl → (tok bs n x.1).1 = 140 → MO A ar al bs n fl (pPos (tok bs n) o k x) (xD E (d + 7 + 3 * k) 209 2 [.ref 48, .int (nI (8 - k)), .int 0, xJ] [] (mw A fl ar al))) → MT A ar al bs n (mst o) (pPlain (tok bs n) o k) (xC E (d + 7 + 3 * k) 209 [.ref 48, .int (nI (8 - k))]) := by
    intro k d hk8 hpar
    have hs : MT A ar al bs n (mst o) (pSum (tok bs n) (pPart (tok bs n) o k)) (xC E (d + 3 + 3 * k + 3) 210 [.ref 48, .int (nI (8 - k))]) := by
      have h0 := mt_part (E := E) (o := o) (al := al) hA hn hbs hk k d (by omega)
      rw [show d + 4 + 3 * k = d + 2 + 3 * k + 2 by omega] at h0
      have h1 := mt_sum (d := d + 2 + 3 * k) hA hn hbs hk (gd_part hTk k) h0
      rw [show d + 3 + 3 * k + 3 = d + 2 + 3 * k + 4 by omega]; exact h1
    refine ⟨fun fl h => ?_, fun fl x hP hx h => ?_⟩
    · rw [show d + 7 + 3 * k = d + 4 + 3 * k + 2 + 1 by omega, k209 _ _ _ _ _ (m_k48 hA), e209_2, i_if, m_takesX hA h, xI_s, Option.bind_some]
      dsimp only
      rw [e209_2, i_if0, m_fine0 hA h, xI_s, Option.bind_some]; exact i_if0
    · obtain ⟨f1, n1, n2, n3, n4⟩ := mnot_loop (E := E) (d := d + 4 + 3 * k) (br := nI (8 - k)) (al := al) hA hn hbs hk 400 false fl x xJ hx (by have := hx.1; omega) h
      rw [pPlain_eq]
      unfold pNot
      rw [show d + 7 + 3 * k = d + 4 + 3 * k + 2 + 1 by omega, k209 _ _ _ _ _ (m_k48 hA), show xD E (d + 4 + 3 * k + 2 + 1) 209 2 [.ref 48, .int (nI (8 - k)), .int (1 : Int32), xJ] [] (mw A fl ar al) = _ from n1]
      refine MO.tr n3 (MO.map (fun z => by split <;> exact ⟨rfl, rfl⟩) ?_)
      generalize nts (tok bs n) 400 x.1 false = w at n1 n2 n4 ⊢
      have hw : mok (tkN bs n) (w.1, x.2) := ⟨n4, hx.2⟩
      by_cases e : (tok bs n w.1).1 = 140
      · have := hpar f1 (w.1, x.2) (hP.f3 n3) hw n2 e
        rw [show d + 7 + 3 * k = d + 4 + 3 * k + 3 by omega] at this; exact this
      · have hp : pPos (tok bs n) o k (w.1, x.2) = pCmp (tok bs n) (pPart (tok bs n) o k) (w.1, x.2) := by cases k <;> exact if_neg e
        rw [hp]
        have := m_cmp (d := d + 3 + 3 * k) hA hn hbs hk (gd_part hTk k) hs (hP.f3 n3) hw n2 e
        rw [show d + 3 + 3 * k + 4 = d + 4 + 3 * k + 3 by omega] at this; exact this
  intro k
  induction k with
  | zero =>
    intro d hk8
    refine start 0 d hk8 (fun fl x hP hx h e => ?_)
    have hxN := hx.1
    have h1 : upd fl 21 (nI (ps bs n x.1)) 21 ≠ -1 := by rw [upd_s]; exact ps_n1 hn _
    rw [show pPos (tok bs n) o 0 x = _ from if_pos e, e209_2, i_if0, m_fine1 hA h.2.2, xI_s, Option.bind_some]
    dsimp only
    rw [i_if, m_r48_15 hA, Option.bind_some, m_g48_19 hA, Option.bind_some, h.1, m_a57 hA (by omega), Option.bind_some, (hk _ hx.1).1, m_sign (c := 40) (cc := 40) rfl, xI_s, Option.bind_some]
    dsimp only
    rw [if_pos (by rw [e]), if_pos (by decide), m_faults1 hA hn hk hx.1 h, xV_s, Option.bind_some, e209_53, m_fine0 hA h1, xI_s, Option.bind_some]
    dsimp only
    rw [i_if0]; exact MO.bad hx.1
  | succ k ihk =>
    intro d hk8
    refine start (k + 1) d hk8 (fun fl x hP hx h e => ?_)
    have hxN := hx.1
    have hp := ihk d (by omega)
    rw [show d + 7 + 3 * k = d + 5 + 3 * k + 2 by omega] at hp
    have ht := mt_test (d := d + 5 + 3 * k) hA hn hbs hk (gd_plain hTk k) hp
    have hlt := tok_lt (bs := bs) (n := n) (i := x.1) (by omega)
    have hx1 : mok (tkN bs n) (adv x) := ⟨hlt, hx.2⟩
    have hR : mpR (adv x) (upd fl 19 (nI (x.1 + 1))) := ⟨upd_s, by rw [upd_n (by omega)]; exact h.2.1, by rw [upd_n (by omega)]; exact h.2.2⟩
    rw [show pPos (tok bs n) o (k + 1) x = _ from if_pos e, show d + 7 + 3 * (k + 1) = d + 8 + 3 * k + 1 + 1 by omega, e209_2, i_if0, m_fine1 hA h.2.2, xI_s, Option.bind_some]
    dsimp only
    rw [i_if, m_r48_15 hA, Option.bind_some, m_g48_19 hA, Option.bind_some, h.1, m_a57 hA (by omega), Option.bind_some, (hk _ hx.1).1, m_sign (c := 40) (cc := 40) rfl, xI_s, Option.bind_some]
    dsimp only
    rw [if_pos (by rw [e]), if_neg (show ¬ nI (8 - (k + 1)) = (8 : Int32) from fun q => by have := (nI_eq (b := 8) (by omega) (by omega)).mp q; omega), e209_53, m_fine1 hA h.2.2, xI_s, Option.bind_some]
    dsimp only
    rw [i_if, m_g48_19 hA, Option.bind_some, h.1, nI_1, m_p48_19 hA, Option.bind_some, nI_1, show 8 - (k + 1) + 1 = 8 - k by omega]
    refine MO.tr (mf19 (v := nI (x.1 + 1))) ?_
    have hm := mt_must (E := E) (d := d + 6 + 3 * k) (al := al) (P := mst o) hA hn hbs hk (c := 141) (cc := nI 141) rfl (by omega)
    have hmo := mo_bd (K := fun A4 => (xI (xC E (d + 8 + 3 * k + 1) 202 [.int (41 : Int32)] A4)).bind fun q5 => (xV (xC E (d + 8 + 3 * k + 1) 200 [.ref 48, .int q5.1] q5.2)).bind fun A6 => some (none, A6)) (g := eat (tok bs n) 141) hn (P := mst o) (fun f1 h3 => (hP.f3 mf19).f3 h3) (gd_ok (gd_test hTk (gd_plain (o := o) hTk k)) hx1) (ht.2 _ _ (hP.f3 mf19) hx1 hR) (fun f1 h1 => by
      rw [m_sign (c := 41) (cc := 41) rfl, xI_s, Option.bind_some]
      dsimp only
      have := hm.1 f1 h1
      rw [show d + 6 + 3 * k + 3 = d + 8 + 3 * k + 1 by omega] at this
      rw [this, xV_s, Option.bind_some]) (fun f1 y a b c => by
      rw [m_sign (c := 41) (cc := 41) rfl, xI_s, Option.bind_some]
      dsimp only
      have := hm.2 f1 y a b c
      rw [show d + 6 + 3 * k + 3 = d + 8 + 3 * k + 1 by omega] at this
      obtain ⟨f2, z1, z2, z3⟩ := this
      exact ⟨f2, by rw [z1, xV_s, Option.bind_some], z2, z3⟩)
    rw [show d + 5 + 3 * k + 4 = d + 8 + 3 * k + 1 by omega] at hmo
    exact hmo
theorem mt_sums (hA : 69 ≤ A.length) (hn : n ≤ 400) (hbs : ∀ j, bs j < 256) (hk : mkR bs n ar) : MT A ar al bs n (mst o) (pSums (tok bs n) o) (xC E (d + 30) 210 [.ref 48, .int (0 : Int32)]) := by
  have h0 := mt_part (E := E) (o := o) (al := al) hA hn hbs hk 8 d (by omega)
  exact mt_sum (d := d + 26) hA hn hbs hk (gd_part hTk 8) h0
theorem mt_tests (hA : 69 ≤ A.length) (hn : n ≤ 400) (hbs : ∀ j, bs j < 256) (hk : mkR bs n ar) : MT A ar al bs n (mst o) (pTests (tok bs n) o) (xC E (d + 33) 207 [.ref 48, .int (0 : Int32)]) := by
  have h0 := mt_plain (E := E) (o := o) (al := al) hA hn hbs hk 8 d (by omega)
  exact mt_test (d := d + 29) hA hn hbs hk (gd_plain hTk 8) h0
end MTEXT
