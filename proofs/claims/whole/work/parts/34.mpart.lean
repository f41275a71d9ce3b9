/-! ===== the reference's readers: parts, tests, clauses ===== -/
section MPART
variable {E : Nat × (Nat → Int32)} {d : Nat} {A : xH} {fl : Nat → Int32} {ar : Nat → Nat → Int32} {al : Nat → Nat → Int64} {bs : Nat → Nat} {n : Nat} {o : Bool} {x : PX} {f : PX → PR} {br : Int32}
theorem m_lies {w lo hi : Nat} (h1 : w < 2 ^ 31) (h2 : lo < 2 ^ 31) (h3 : hi < 2 ^ 31) {H : xH} {a b : Int32} (ha : a = nI lo) (hb : b = nI hi) : xC E (d + 1) 154 [.int (nI w), .int a, .int b] H = some (some (.int (if lo ≤ w ∧ w ≤ hi then 1 else 0)), H) := by
  rw [k154, ha, hb]
  simp (disch := omega) only [nI_ltI]
  by_cases e1 : w < lo
  · rw [if_pos e1, if_neg (by omega)]
  · rw [if_neg e1]
    by_cases e2 : hi < w
    · rw [if_pos e2, if_neg (by omega)]
    · rw [if_neg e2, if_pos (by omega)]
/-- a leaf -/
theorem m_leaf1 (hA : 69 ≤ A.length) (h : mpR x fl) (hp : x.2.1 < 50) : xC E (d + 3) 201 [.ref 48] (mw A fl ar al) = some (none, mw A (upd (upd fl 20 (nI (x.2.1 + 1))) 19 (nI (x.1 + 1))) ar al) ∧ mpR (x.1 + 1, x.2.1 + 1, x.2.2) (upd (upd fl 20 (nI (x.2.1 + 1))) 19 (nI (x.1 + 1))) := by
  refine ⟨?_, upd_s, by rw [upd_n (by omega)]; exact upd_s, by rw [upd_n (by omega), upd_n (by omega)]; exact h.2.2⟩
  have h1 : upd fl 20 (nI (x.2.1 + 1)) 21 = -1 := by rw [upd_n (by omega)]; exact h.2.2
  rw [k201 _ _ _ _ (m_k48 hA), m_g48_20 hA, Option.bind_some, h.2.1, if_neg (show ¬ nI x.2.1 = (50 : Int32) from fun q => by have := (nI_eq (b := 50) (by omega) (by omega)).mp q; omega), e201_13, m_g48_20 hA, Option.bind_some, h.2.1, nI_1, m_p48_20 hA, Option.bind_some, m_fine1 hA h1, xI_s, Option.bind_some]
  dsimp only
  rw [i_if, m_g48_19 hA, Option.bind_some, upd_n (by omega), h.1, nI_1, m_p48_19 hA, Option.bind_some]
theorem m_leaf0 (hA : 69 ≤ A.length) (hn : n ≤ 400) (hk : mkR bs n ar) (hx : x.1 ≤ tkN bs n) (h : mpR x fl) (hp : x.2.1 = 50) : ∃ f1, xC E (d + 3) 201 [.ref 48] (mw A fl ar al) = some (none, mw A f1 ar al) ∧ mF3 fl f1 ∧ f1 21 = nI (ps bs n x.1) := by
  refine ⟨upd (upd fl 21 (nI (ps bs n x.1))) 20 (nI 51), ?_, mf21.tr mf20, by rw [upd_n (by omega)]; exact upd_s⟩
  have h1 : upd (upd fl 21 (nI (ps bs n x.1))) 20 (nI 51) 21 ≠ -1 := by rw [upd_n (by omega), upd_s]; exact ps_n1 hn _
  rw [k201 _ _ _ _ (m_k48 hA), m_g48_20 hA, Option.bind_some, h.2.1, hp, if_pos (show nI 50 = (50 : Int32) from rfl), m_faults1 hA hn hk hx h, xV_s, Option.bind_some, e201_13, m_g48_20 hA, Option.bind_some, upd_n (by omega), h.2.1, hp, nI_1, m_p48_20 hA, Option.bind_some, m_fine0 hA h1, xI_s, Option.bind_some]
  exact i_if0
/-- a number that is no part -/
theorem m_mustN (hA : 69 ≤ A.length) (hn : n ≤ 400) (hbs : ∀ j, bs j < 256) (hk : mkR bs n ar) (hx : mok (tkN bs n) x) (h : mpR x fl) {lo hi : Nat} {a b : Int32} (ha : a = nI lo) (hb : b = nI hi) (hl : lo ≤ 1000) (hh : hi ≤ 1000) : MO A ar al bs n fl (if (tok bs n x.1).1 = 50 ∧ lo ≤ (tok bs n x.1).2 ∧ (tok bs n x.1).2 ≤ hi then .inr (adv x) else .inl x.1) (xC E (d + 3) 203 [.ref 48, .int a, .int b] (mw A fl ar al)) := by
  have hN := tkN_le (bs := bs) (n := n)
  have htc := tok_c (bs := bs) (n := n) hbs x.1
  have hxN := hx.1
  obtain ⟨c1, c2, w, c3, c4, c5⟩ := hk _ hx.1
  have bad : MO A ar al bs n fl (.inl x.1) ((xV (xC E (d + 2) 198 [.ref 48] (mw A fl ar al))).bind fun A10 => xD E (d + 3) 203 42 [.ref 48, .int a, .int b] [] A10) := by
    have h1 : upd fl 21 (nI (ps bs n x.1)) 21 ≠ -1 := by rw [upd_s]; exact ps_n1 hn _
    rw [m_faults1 hA hn hk hx.1 h, xV_s, Option.bind_some, e203_42, m_fine0 hA h1, xI_s, Option.bind_some]
    dsimp only
    rw [i_if0]; exact MO.bad hx.1
  rw [k203 _ _ _ _ _ _ (m_k48 hA), m_fine1 hA h.2.2, xI_s, Option.bind_some]
  dsimp only
  rw [i_if, m_r48_15 hA, Option.bind_some, m_g48_19 hA, Option.bind_some, h.1, m_a57 hA (by omega), Option.bind_some, c1]
  by_cases e : (tok bs n x.1).1 = 50
  · rw [if_pos (show nI (tok bs n x.1).1 = (50 : Int32) by rw [e]; rfl), m_r48_16 hA, Option.bind_some, Option.bind_some, m_a58 hA (by omega), Option.bind_some, c3, m_lies (by omega) (by omega) (by omega) ha hb, xI_s, Option.bind_some]
    dsimp only
    by_cases e2 : lo ≤ w ∧ w ≤ hi
    · rw [if_pos e2, i_if, if_pos (by omega), e203_42, m_fine1 hA h.2.2, xI_s, Option.bind_some]
      dsimp only
      rw [i_if, m_g48_19 hA, Option.bind_some, h.1, nI_1, m_p48_19 hA, Option.bind_some]
      exact MO.tr mf19 (MO.ok (x := adv x) ⟨upd_s, by rw [upd_n (by omega)]; exact h.2.1, by rw [upd_n (by omega)]; exact h.2.2⟩)
    · rw [if_neg e2, i_if0, if_neg (by omega)]; exact bad
  · rw [if_neg (show ¬ nI (tok bs n x.1).1 = (50 : Int32) from fun q => e ((nI_eq (b := 50) (by omega) (by omega)).mp q)), if_neg (fun q => e q.1)]; exact bad
theorem m_mustNX (hA : 69 ≤ A.length) (h : fl 21 ≠ -1) {a b : Int32} : xC E (d + 3) 203 [.ref 48, .int a, .int b] (mw A fl ar al) = some (none, mw A fl ar al) := by
  rw [k203 _ _ _ _ _ _ (m_k48 hA), m_fine0 hA h, xI_s, Option.bind_some]
  dsimp only
  rw [i_if0, e203_42, m_fine0 hA h, xI_s, Option.bind_some]
  exact i_if0
/-- a part that is no bracket -/
theorem m_pleaf (hA : 69 ≤ A.length) (hn : n ≤ 400) (hbs : ∀ j, bs j < 256) (hk : mkR bs n ar) (hP : mst o fl) (hx : mok (tkN bs n) x) (h : mpR x fl) (ht : ¬ (tok bs n x.1).1 = 191) : MO A ar al bs n fl (pLeaf (tok bs n) o x) (xC E (d + 4) 212 [.ref 48, .int br] (mw A fl ar al)) := by
  have hN := tkN_le (bs := bs) (n := n)
  have htc := tok_c (bs := bs) (n := n) hbs x.1
  have hxN := hx.1
  obtain ⟨c1, c2, w, c3, c4, c5⟩ := hk _ hx.1
  obtain ⟨p10, p8, p9⟩ := hP
  rw [k212 _ _ _ _ _ (m_k48 hA), m_fine1 hA h.2.2, xI_s, Option.bind_some]
  dsimp only
  rw [i_if, m_r48_15 hA, Option.bind_some, m_g48_19 hA, Option.bind_some, h.1, m_a57 hA (by omega), Option.bind_some, c1, m_sign (c := 91) (cc := 91) rfl, xI_s, Option.bind_some]
  dsimp only
  rw [if_neg (fun q => ht ((nI_eq (by omega) (by omega)).mp q))]
  have hlt : ∀ {w : Nat}, (tok bs n x.1).1 = w → w ≠ 0 → x.1 < tkN bs n := fun e e2 => tok_lt (by omega)
  -- a good leaf
  have leaf : ∀ (v : Nat) (w1 : Value), (tok bs n x.1).1 = v → v ≠ 0 → (∀ y, y = v → True) → MO A ar al bs n fl (if x.2.1 = 50 then .inl x.1 else if o = true ∧ v = 19 then pAsk (tok bs n) 0 1000 (x.1 + 1, x.2.1 + 1, x.2.2) else if o = true ∧ v = 12 then pAsk (tok bs n) 1000 24 (x.1 + 1, x.2.1 + 1, x.2.2) else .inr (x.1 + 1, x.2.1 + 1, x.2.2)) (xD E (d + 4) 212 111 [.ref 48, w1, .int (nI v)] [] (mw A fl ar al)) := by
    intro v w1 hv h0 _
    have hv2 : v ≤ 355 := by omega
    rw [e212_111]
    by_cases e0 : x.2.1 = 50
    · obtain ⟨f1, k1, k2, k3⟩ := m_leaf0 (E := E) (d := d) (al := al) hA hn hk hx.1 h e0
      have k4 : f1 21 ≠ -1 := by rw [k3]; exact ps_n1 hn _
      have g10 : f1 10 = (if o = true then 1 else 0) := by rw [k2 10 (by omega) (by omega) (by omega)]; exact p10
      have fin : xD E (d + 4) 212 135 [.ref 48, xJ, .int (nI v)] [] (mw A f1 ar al) = some (none, mw A f1 ar al) := by
        rw [e212_135, m_g48_10 hA, Option.bind_some]
        split
        · rfl
        · split
          · rw [m_mustNX hA k4, xV_s, Option.bind_some]
          · rfl
      rw [if_pos e0, k1, xV_s, Option.bind_some, m_g48_10 hA, Option.bind_some]
      refine ⟨f1, ?_, k2, k3, hx.1⟩
      split
      · exact fin
      · split
        · rw [m_mustNX hA k4, xV_s, Option.bind_some]; exact fin
        · exact fin
    · obtain ⟨k1, k2⟩ := m_leaf1 (E := E) (d := d) (al := al) (ar := ar) hA h (by have := hx.2; omega)
      have hlx := hlt hv h0
      have hx1 : mok (tkN bs n) (x.1 + 1, x.2.1 + 1, x.2.2) := ⟨hlx, by have := hx.2; dsimp only; omega⟩
      have g10 : upd (upd fl 20 (nI (x.2.1 + 1))) 19 (nI (x.1 + 1)) 10 = (if o = true then 1 else 0) := by rw [upd_n (by omega), upd_n (by omega)]; exact p10
      rw [if_neg e0, k1, xV_s, Option.bind_some, m_g48_10 hA, Option.bind_some, g10]
      refine MO.tr ((mf20 (v := nI (x.2.1 + 1))).tr (mf19 (v := nI (x.1 + 1)))) ?_
      generalize upd (upd fl 20 (nI (x.2.1 + 1))) 19 (nI (x.1 + 1)) = f1 at k1 k2 g10 ⊢
      cases o with
      | false =>
        simp only [Bool.false_eq_true, false_and, if_false] at g10 ⊢
        rw [if_pos trivial, e212_135, m_g48_10 hA, Option.bind_some, g10, if_pos rfl]
        exact MO.ok k2
      | true =>
        simp only [true_and, if_true] at g10 ⊢
        rw [i_if]
        have v19 : nI v = (19 : Int32) ↔ v = 19 := nI_eq (b := 19) (by omega) (by omega)
        have v12 : nI v = (12 : Int32) ↔ v = 12 := nI_eq (b := 12) (by omega) (by omega)
        by_cases e12 : v = 12
        · rw [if_pos (v12.mpr e12), if_neg (by omega), if_pos e12]
          have hm := m_mustN (E := E) (d := d) (al := al) hA hn hbs hk hx1 k2 (lo := 0) (hi := 23) (a := 0) (b := 23) rfl rfl (by omega) (by omega)
          have ef : ∀ f2, xD E (d + 4) 212 135 [.ref 48, xJ, .int (nI v)] [] (mw A f2 ar al) = (if f2 10 = 0 then some (none, mw A f2 ar al) else some (none, mw A f2 ar al)) := by
            intro f2
            rw [e212_135, m_g48_10 hA, Option.bind_some, if_neg (show ¬ nI v = (19 : Int32) from fun q => by have := v19.mp q; omega)]
          obtain ⟨f2, m1, m2, m3⟩ := hm
          refine ⟨f2, ?_, m2, ?_⟩
          · rw [m1, xV_s, Option.bind_some, ef]; split <;> rfl
          · unfold pAsk
            dsimp only at m3 ⊢
            by_cases q : (tok bs n (x.1 + 1)).1 = 50 ∧ (tok bs n (x.1 + 1)).2 < 24
            · rw [if_pos (by omega)] at m3; rw [if_pos q]; exact m3
            · rw [if_neg (by omega)] at m3; rw [if_neg q]; exact m3
        · rw [if_neg (fun q => e12 (v12.mp q)), if_neg e12, e212_135, m_g48_10 hA, Option.bind_some, g10, i_if]
          by_cases e19 : v = 19
          · rw [if_pos (v19.mpr e19), if_pos e19]
            have hm := m_mustN (E := E) (d := d) (al := al) hA hn hbs hk hx1 k2 (lo := 0) (hi := 999) (a := 0) (b := 999) rfl rfl (by omega) (by omega)
            obtain ⟨f2, m1, m2, m3⟩ := hm
            refine ⟨f2, ?_, m2, ?_⟩
            · rw [m1, xV_s, Option.bind_some]
            · unfold pAsk
              dsimp only at m3 ⊢
              by_cases q : (tok bs n (x.1 + 1)).1 = 50 ∧ (tok bs n (x.1 + 1)).2 < 1000
              · rw [if_pos (by omega)] at m3; rw [if_pos q]; exact m3
              · rw [if_neg (by omega)] at m3; rw [if_neg q]; exact m3
          · rw [if_neg (fun q => e19 (v19.mp q)), if_neg e19]
            exact MO.ok k2
  have badl : MO A ar al bs n fl (.inl x.1) ((xV (xC E (d + 3) 198 [.ref 48] (mw A fl ar al))).bind fun A2 => some (none, A2)) := by
    rw [m_faults1 hA hn hk hx.1 h, xV_s, Option.bind_some]; exact MO.bad hx.1
  -- words
  have words : ¬ ((tok bs n x.1).1 = 50 ∧ (tok bs n x.1).2 ≤ 1000) → ∀ w1 : Value, MO A ar al bs n fl (pLeaf (tok bs n) o x) (xD E (d + 4) 212 95 [.ref 48, w1, .int (nI (tok bs n x.1).1)] [] (mw A fl ar al)) := by
    intro hnn w1
    rw [e212_95, m_g48_8 hA, Option.bind_some, m_g48_9 hA, Option.bind_some, p8, p9]
    unfold pLeaf
    rw [if_neg hnn]
    have hv := leaf (tok bs n x.1).1 xJ rfl
    cases o with
    | false =>
      simp only [Bool.false_eq_true, false_and, if_false] at hv ⊢
      by_cases q1 : (tok bs n x.1).1 < 7
      · rw [if_pos (nI_lt q1 (by omega))]
        have : wdL (tok bs n x.1).1 = none := by unfold wdL; repeat (rw [if_neg (by omega)])
        rw [this]
        split <;> exact badl
      · rw [if_neg (nI_nlt (by omega) (by omega))]
        by_cases q2 : 13 < (tok bs n x.1).1
        · rw [if_pos (nI_lt q2 (by omega))]
          have : wdL (tok bs n x.1).1 = none := by unfold wdL; repeat (rw [if_neg (by omega)])
          rw [this]
          split <;> exact badl
        · rw [if_neg (nI_nlt (by omega) (by omega))]
          obtain ⟨w2, hw2⟩ : ∃ w2, wdL (tok bs n x.1).1 = some w2 := by
            rcases (show (tok bs n x.1).1 = 7 ∨ (tok bs n x.1).1 = 8 ∨ (tok bs n x.1).1 = 9 ∨ (tok bs n x.1).1 = 10 ∨ (tok bs n x.1).1 = 11 ∨ (tok bs n x.1).1 = 12 ∨ (tok bs n x.1).1 = 13 by omega) with e | e | e | e | e | e | e <;> rw [e] <;> exact ⟨_, rfl⟩
          rw [hw2]
          have h3 := hv (by omega) (fun _ _ => trivial)
          split
          · rename_i e0; rw [if_pos e0] at h3; exact h3
          · rename_i e0; rw [if_neg e0] at h3; exact h3
    | true =>
      simp only [true_and, if_true] at hv ⊢
      by_cases q1 : (tok bs n x.1).1 < 12
      · rw [if_pos (nI_lt q1 (by omega)), if_neg (show ¬ (tok bs n x.1).1 = 19 by omega), if_neg (show ¬ (tok bs n x.1).1 = 12 by omega)]
        have : wdO (tok bs n x.1).1 = none := by unfold wdO; repeat (rw [if_neg (by omega)])
        rw [this]
        split <;> exact badl
      · rw [if_neg (nI_nlt (by omega) (by omega))]
        by_cases q2 : 19 < (tok bs n x.1).1
        · rw [if_pos (nI_lt q2 (by omega)), if_neg (show ¬ (tok bs n x.1).1 = 19 by omega), if_neg (show ¬ (tok bs n x.1).1 = 12 by omega)]
          have : wdO (tok bs n x.1).1 = none := by unfold wdO; repeat (rw [if_neg (by omega)])
          rw [this]
          split <;> exact badl
        · rw [if_neg (nI_nlt (by omega) (by omega))]
          have h3 := hv (by omega) (fun _ _ => trivial)
          by_cases e0 : x.2.1 = 50
          · rw [if_pos e0] at h3 ⊢; exact h3
          · rw [if_neg e0] at h3 ⊢
            by_cases e19 : (tok bs n x.1).1 = 19
            · rw [if_pos e19] at h3 ⊢; exact h3
            · rw [if_neg e19] at h3 ⊢
              by_cases e12 : (tok bs n x.1).1 = 12
              · rw [if_pos e12] at h3 ⊢; exact h3
              · rw [if_neg e12] at h3 ⊢
                obtain ⟨w2, hw2⟩ : ∃ w2, wdO (tok bs n x.1).1 = some w2 := by
                  rcases (show (tok bs n x.1).1 = 13 ∨ (tok bs n x.1).1 = 14 ∨ (tok bs n x.1).1 = 15 ∨ (tok bs n x.1).1 = 16 ∨ (tok bs n x.1).1 = 17 ∨ (tok bs n x.1).1 = 18 by omega) with e | e | e | e | e | e <;> rw [e] <;> exact ⟨_, rfl⟩
                rw [hw2]; exact h3
  by_cases e : (tok bs n x.1).1 = 50
  · rw [if_pos (show nI (tok bs n x.1).1 = (50 : Int32) by rw [e]; rfl), m_r48_16 hA, Option.bind_some, m_g48_19 hA, Option.bind_some, h.1, m_a58 hA (by omega), Option.bind_some, c3]
    by_cases e2 : w ≤ 1000
    · rw [if_pos (show nI w ≤ (1000 : Int32) from nI_le (b := 1000) e2 (by omega))]
      have h3 := leaf (tok bs n x.1).1 (.int br) rfl (by omega) (fun _ _ => trivial)
      unfold pLeaf
      by_cases e0 : x.2.1 = 50
      · rw [if_pos e0] at h3 ⊢; exact h3
      · rw [if_neg e0, if_neg (by omega), if_neg (by omega)] at h3
        rw [if_neg e0, if_pos (by omega)]; exact h3
    · rw [if_neg (show ¬ nI w ≤ (1000 : Int32) from nI_ge (a := 1000) (by omega) (by omega))]
      exact words (by omega) _
  · rw [if_neg (show ¬ nI (tok bs n x.1).1 = (50 : Int32) from fun q => e ((nI_eq (b := 50) (by omega) (by omega)).mp q))]
    exact words (fun q => e q.1) _
theorem mt_part (hA : 69 ≤ A.length) (hn : n ≤ 400) (hbs : ∀ j, bs j < 256) (hk : mkR bs n ar) : ∀ (k d : Nat), k ≤ 8 → MT A ar al bs n (mst o) (pPart (tok bs n) o k) (xC E (d + 4 + 3 * k) 212 [.ref 48, .int (nI (8 - k))]) := by
  have hN := tkN_le (bs := bs) (n := n)
  intro k
  induction k with
  | zero =>
    intro d hk8
    refine ⟨fun fl h => ?_, fun fl x hP hx h => ?_⟩
    · rw [k212 _ _ _ _ _ (m_k48 hA), m_fine0 hA h, xI_s, Option.bind_some]; exact i_if0
    · unfold pPart
      have htc := tok_c (bs := bs) (n := n) hbs x.1
      by_cases e : (tok bs n x.1).1 = 191
      · have h1 : upd fl 21 (nI (ps bs n x.1)) 21 ≠ -1 := by rw [upd_s]; exact ps_n1 hn _
        rw [if_pos e, k212 _ _ _ _ _ (m_k48 hA), m_fine1 hA h.2.2, xI_s, Option.bind_some]
        dsimp only
        rw [i_if, m_r48_15 hA, Option.bind_some, m_g48_19 hA, Option.bind_some, h.1, m_a57 hA (by have := hx.1; omega), Option.bind_some, (hk _ hx.1).1, m_sign (c := 91) (cc := 91) rfl, xI_s, Option.bind_some]
        dsimp only
        rw [if_pos (by rw [e]), if_pos (by decide), m_faults1 hA hn hk hx.1 h, xV_s, Option.bind_some, e212_37, m_fine0 hA h1, xI_s, Option.bind_some]
        dsimp only
        rw [i_if0]; exact MO.bad hx.1
      · rw [if_neg e]; exact m_pleaf hA hn hbs hk hP hx h e
  | succ k ihk =>
    intro d hk8
    have hs : MT A ar al bs n (mst o) (pSum (tok bs n) (pPart (tok bs n) o k)) (xC E (d + 6 + 3 * k) 210 [.ref 48, .int (nI (8 - k))]) := by
      have h0 := ihk d (by omega)
      rw [show d + 4 + 3 * k = d + 2 + 3 * k + 2 by omega] at h0
      have h1 := mt_sum (d := d + 2 + 3 * k) hA hn hbs hk (gd_part hTk k) h0
      rw [show d + 6 + 3 * k = d + 2 + 3 * k + 4 by omega]; exact h1
    refine ⟨fun fl h => ?_, fun fl x hP hx h => ?_⟩
    · rw [show d + 4 + 3 * (k + 1) = d + 6 + 3 * k + 1 by omega, k212 _ _ _ _ _ (m_k48 hA), show d + 6 + 3 * k = d + 5 + 3 * k + 1 by omega, m_fine0 hA h, xI_s, Option.bind_some]; exact i_if0
    · unfold pPart
      have htc := tok_c (bs := bs) (n := n) hbs x.1
      by_cases e : (tok bs n x.1).1 = 191
      · have hlt := tok_lt (bs := bs) (n := n) (i := x.1) (by omega)
        have hx1 : mok (tkN bs n) (adv x) := ⟨hlt, hx.2⟩
        have hR : mpR (adv x) (upd fl 19 (nI (x.1 + 1))) := ⟨upd_s, by rw [upd_n (by omega)]; exact h.2.1, by rw [upd_n (by omega)]; exact h.2.2⟩
        rw [if_pos e, show d + 4 + 3 * (k + 1) = d + 6 + 3 * k + 1 by omega, k212 _ _ _ _ _ (m_k48 hA), show d + 6 + 3 * k = d + 5 + 3 * k + 1 by omega, m_fine1 hA h.2.2, xI_s, Option.bind_some]
        dsimp only
        rw [i_if, m_r48_15 hA, Option.bind_some, m_g48_19 hA, Option.bind_some, h.1, m_a57 hA (by have := hx.1; omega), Option.bind_some, (hk _ hx.1).1, m_sign (c := 91) (cc := 91) rfl, xI_s, Option.bind_some]
        dsimp only
        rw [if_pos (by rw [e]), if_neg (show ¬ nI (8 - (k + 1)) = (8 : Int32) from fun q => by have := (nI_eq (b := 8) (by omega) (by omega)).mp q; omega), e212_37, m_fine1 hA h.2.2, xI_s, Option.bind_some]
        dsimp only
        rw [i_if, m_g48_19 hA, Option.bind_some, h.1, nI_1, m_p48_19 hA, Option.bind_some, nI_1, show 8 - (k + 1) + 1 = 8 - k by omega]
        refine MO.tr (mf19 (v := nI (x.1 + 1))) ?_
        have hm := mt_must (E := E) (d := d + 3 + 3 * k) (al := al) (P := mst o) hA hn hbs hk (c := 193) (cc := nI 193) rfl (by omega)
        have hmo := mo_bd (K := fun A4 => (xI (xC E (d + 5 + 3 * k + 1) 202 [.int (93 : Int32)] A4)).bind fun q5 => (xV (xC E (d + 5 + 3 * k + 1) 200 [.ref 48, .int q5.1] q5.2)).bind fun A6 => some (none, A6)) (g := eat (tok bs n) 193) hn (P := mst o) (fun f1 h3 => (hP.f3 mf19).f3 h3) (gd_ok (gd_sum hTk (gd_part (o := o) hTk k)) hx1) (hs.2 _ _ (hP.f3 mf19) hx1 hR) (fun f1 h1 => by
          rw [m_sign (c := 93) (cc := 93) rfl, xI_s, Option.bind_some]
          dsimp only
          have := hm.1 f1 h1
          rw [show d + 3 + 3 * k + 3 = d + 5 + 3 * k + 1 by omega] at this
          rw [this, xV_s, Option.bind_some]) (fun f1 y a b c => by
          rw [m_sign (c := 93) (cc := 93) rfl, xI_s, Option.bind_some]
          dsimp only
          have := hm.2 f1 y a b c
          rw [show d + 3 + 3 * k + 3 = d + 5 + 3 * k + 1 by omega] at this
          obtain ⟨f2, z1, z2, z3⟩ := this
          exact ⟨f2, by rw [z1, xV_s, Option.bind_some], z2, z3⟩)
        rw [show d + 6 + 3 * k = d + 5 + 3 * k + 1 by omega] at hmo
        exact hmo
      · rw [if_neg e, show d + 4 + 3 * (k + 1) = d + 3 + 3 * k + 4 by omega]
        exact m_pleaf hA hn hbs hk hP hx h e
end MPART
