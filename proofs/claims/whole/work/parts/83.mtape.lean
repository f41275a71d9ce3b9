/-! ===== the reference: the tape is fed, rows are read ===== -/
/-- one pair of a row, all pairs -/
noncomputable def rw1 (R : Ru) (a b : Nat) (p : St × Nat) : St × Nat := if 100 ≤ b then p else if (putS R a b p.1).1 < 0 then p else ((putS R a b p.1).2, p.2 + 1)
noncomputable def rwN (R : Ru) (bs : Nat → Nat) : Nat → Nat → St × Nat → St × Nat
  | 0, _, p => p
  | c + 1, i, p => rwN R bs c (i + 1) (rw1 R (bs (2 * i)) (bs (2 * i + 1)) p)
def Xrw (X : Xs) (S : St) (t : Int32) : Xs := ((S, X.1.2), X.2.1, X.2.2.1, (X.2.2.2.1.1, 0), (X.2.2.2.2.1.1, t, X.2.2.2.2.1.2.2), X.2.2.2.2.2)
noncomputable def aRow (X : Xs) : Int32 × Xs := if X.2.2.2.1.2 = 0 then (-6, Xrf (Xtp X X.2.2.2.1.1 0) 6) else (nI (rwN X.1.2.1 X.2.2.2.1.1 (X.2.2.2.1.2 / 2) 0 (X.1.1, 0)).2, Xgr (Xcl (Xrw X (rwN X.1.2.1 X.2.2.2.1.1 (X.2.2.2.1.2 / 2) 0 (X.1.1, 0)).1 (nI ((X.2.2.2.1.2 + 1) / 2 - (rwN X.1.2.1 X.2.2.2.1.1 (X.2.2.2.1.2 / 2) 0 (X.1.1, 0)).2)))))
theorem rw1_R {R : Ru} {a b : Nat} {p : St × Nat} (ha : a < 1000) (h : SI R.2.2.2 p.1) : SI R.2.2.2 (rw1 R a b p).1 ∧ p.2 ≤ (rw1 R a b p).2 ∧ (rw1 R a b p).2 ≤ p.2 + 1 := by
  unfold rw1
  split
  · exact ⟨h, by omega, by omega⟩
  · split
    · exact ⟨h, by omega, by omega⟩
    · exact ⟨putS_SI ha (by omega) h, by show p.2 ≤ p.2 + 1; omega, by show p.2 + 1 ≤ p.2 + 1; omega⟩
theorem rwN_R {R : Ru} {bs : Nat → Nat} (hb : ∀ j, bs j < 256) : ∀ (c i : Nat) (p : St × Nat), SI R.2.2.2 p.1 → SI R.2.2.2 (rwN R bs c i p).1 ∧ (rwN R bs c i p).2 ≤ p.2 + c
  | 0, i, p, h => ⟨h, Nat.le_refl _⟩
  | c + 1, i, p, h => by
    obtain ⟨h1, h2, h3⟩ := rw1_R (R := R) (a := bs (2 * i)) (b := bs (2 * i + 1)) (by have := hb (2 * i); omega) h
    obtain ⟨h4, h5⟩ := rwN_R hb c (i + 1) _ h1
    exact ⟨h4, by show (rwN R bs c (i + 1) _).2 ≤ _; omega⟩
theorem aRow_R {X : Xs} (hX : XI X) : XI (aRow X).2 := by
  unfold aRow
  split
  · exact ⟨hX.1, hX.2.1, hX.2.2.1, hX.2.2.2.1, Nat.zero_le _, hX.2.2.2.2.2⟩
  · obtain ⟨h1, -⟩ := rwN_R (R := X.1.2.1) hX.2.2.2.2.2 (X.2.2.2.1.2 / 2) 0 (X.1.1, 0) hX.1.1
    exact ⟨⟨h1, hX.1.2⟩, Nat.zero_le _, fun q hq => by simp [Xcl, Xgr, Xrw] at hq, hX.2.2.2.1, Nat.zero_le _, hX.2.2.2.2.2⟩
section MTAPE
variable {E : Nat × (Nat → Int32)} {d : Nat} {A : xH} {al : Nat → Nat → Int64} {fl : Nat → Int32} {ar : Nat → Nat → Int32} {X : Xs}
theorem MI.tp (h : MI fl ar X) {fl' : Nat → Int32} {ar' : Nat → Nat → Int32} {bs : Nat → Nat} {n : Nat} (h13 : fl' 13 = nI n) (hf : ∀ j, j ≠ 13 → fl' j = fl j) (ha : ∀ j, j ≠ 11 → j ≠ 12 → ar' j = ar j) (ht : tbR bs n ar') : MI fl' ar' (Xtp X bs n) := by
  obtain ⟨h1, ⟨h3, h4⟩, h5, ⟨h6, h7⟩, ⟨h8, h9, h10, h11⟩, h12, h13', h14⟩ := h
  refine ⟨by rw [ha 2 (by omega) (by omega)]; exact h1, ⟨(hf 32 (by omega)).trans h3, by rw [ha 30 (by omega) (by omega)]; exact h4⟩, by rw [ha 3 (by omega) (by omega), ha 4 (by omega) (by omega)]; exact h5, ⟨h13, ht⟩, ⟨(hf 0 (by omega)).trans h8, (hf 6 (by omega)).trans h9, (hf 14 (by omega)).trans h10, (hf 36 (by omega)).trans h11⟩, by rw [ha 1 (by omega) (by omega)]; exact h12, by rw [hf 44 (by omega), ha 43 (by omega) (by omega)]; exact h13', by unfold wdR; rw [ha 7 (by omega) (by omega)]; exact h14⟩
theorem m_fd55 (hA : 69 ≤ A.length) {n : Nat} {bs : Nat → Nat} {g : Nat → Int32} (hn : n ≤ 380) (h13 : fl 13 = nI n) : ∀ (c i : Nat) (ar : Nat → Nat → Int32) (w1 w2 w3 w4 w5 : Value), i + c = 20 → (∀ q, q < 5 → ar 12 q = g q) → tbR (fdB bs n g i) (n + i) ar → ∃ ar', xD E (d + 1) 191 55 [.ref 48, w1, w2, w3, w4, w5, .int (nI i)] [] (mw A fl ar al) = some (some (.int (nI (n + 20))), mw A (upd fl 13 (nI (n + 20))) ar' al) ∧ tbR (fdB bs n g 20) (n + 20) ar' ∧ ∀ j, j ≠ 11 → ar' j = ar j
  | 0, i, ar, w1, w2, w3, w4, w5, hi, h12, ht => by
    refine ⟨ar, ?_, by rw [show i = 20 by omega] at ht; exact ht, fun _ _ => rfl⟩
    rw [e191_55, if_pos (by rw [zl]; exact nI_le (by omega) (by omega)), m_g48_13 hA, Option.bind_some, h13, show (20 : Int32) = nI 20 from rfl, nI_add, m_p48_13 hA, Option.bind_some, m_g48_13 hA, Option.bind_some, upd_s]
  | c + 1, i, ar, w1, w2, w3, w4, w5, hi, h12, ht => by
    have hq : i / 4 < 5 := by omega
    have hs1 : ∀ k, k < 31 → ((nI k &&& 31).toBitVec.smod 32).toNat = k := by decide +kernel
    have hv := shr_byte (x := g (i / 4)) (s := nI (24 - 8 * (i % 4)) &&& 31) (k := 24 - 8 * (i % 4)) (by omega) (hs1 _ (by omega))
    obtain ⟨ar', i1, i2, i3⟩ := m_fd55 hA hn h13 (g := g) (bs := bs) c (i + 1) (sar ar 11 (upd (ar 11) (n + i) (sb (fb (g (i / 4)) (24 - 8 * (i % 4)))))) xJ xJ xJ xJ xJ (by omega) (fun q hq => by rw [sar_n (by omega)]; exact h12 q hq) (fun j hj => by
      rw [sar_s]
      by_cases e : j = n + i
      · subst e
        rw [upd_s]
        unfold fdB
        rw [if_pos (by omega), Nat.add_sub_cancel_left]
      · rw [upd_n e, ht j (by omega)]
        unfold fdB
        by_cases e2 : n ≤ j ∧ j < n + i
        · rw [if_pos e2, if_pos (by omega)]
        · rw [if_neg e2, if_neg (by omega)])
    refine ⟨ar', ?_, i2, fun j hj => (i3 j hj).trans (sar_n hj)⟩
    rw [e191_55, if_neg (by rw [zl]; exact nI_ge (by omega) (by omega)), m_r48_11 hA, Option.bind_some, m_g48_13 hA, Option.bind_some, h13, m_r48_12 hA, Option.bind_some, show (4 : Int32) = nI 4 from rfl, n_div (by omega) (by omega) (by omega), m_a56 hA hq, Option.bind_some, h12 _ hq, n_rem (by omega) (by omega) (by omega), show (8 : Int32) = nI 8 from rfl, pk_mul, show (24 : Int32) = nI 24 from rfl, pk_sub (by omega), nI_add, m_s55 hA (by omega), Option.bind_some, hv, nI_1]
    exact i1
theorem m_feed (hA : 69 ≤ A.length) (h : MI fl ar X) (hX : XI X) {a b c e f : Int32} : ∃ fl' ar', xC E (d + 1) 191 [.ref 48, .int a, .int b, .int c, .int e, .int f] (mw A fl ar al) = some (some (.int (aFeed X a b c e f).1), mw A fl' ar' al) ∧ MI fl' ar' (aFeed X a b c e f).2 := by
  have h4 := hX.2.2.2.2.1
  rw [k191 _ _ _ _ _ _ _ _ _ (m_k48 hA), m_g48_13 hA, Option.bind_some, h.2.2.2.1.1, show (20 : Int32) = nI 20 from rfl, nI_add]
  unfold aFeed
  by_cases q : X.2.2.2.1.2 ≤ 380
  · rw [if_pos (show nI (X.2.2.2.1.2 + 20) ≤ (400 : Int32) from nI_le (b := 400) (by omega) (by omega)), if_pos q]
    obtain ⟨ar', i1, i2, i3⟩ := m_fd55 (E := E) (d := d) (fl := fl) (al := al) (n := X.2.2.2.1.2) (bs := X.2.2.2.1.1) (g := five a b c e f) hA q h.2.2.2.1.1 20 0 (sar ar 12 (upd (upd (upd (upd (upd (ar 12) 0 a) 1 b) 2 c) 3 e) 4 f)) (.int a) (.int b) (.int c) (.int e) (.int f) rfl (fun j hj => by
      rw [sar_s]
      rcases (show j = 0 ∨ j = 1 ∨ j = 2 ∨ j = 3 ∨ j = 4 by omega) with rfl | rfl | rfl | rfl | rfl
      · rw [upd_n (by omega), upd_n (by omega), upd_n (by omega), upd_n (by omega)]; exact upd_s
      · rw [upd_n (by omega), upd_n (by omega), upd_n (by omega)]; exact upd_s
      · rw [upd_n (by omega), upd_n (by omega)]; exact upd_s
      · rw [upd_n (by omega)]; exact upd_s
      · exact upd_s) (fun j hj => by
      rw [sar_n (by omega), h.2.2.2.1.2 j (by omega)]
      unfold fdB
      rw [if_neg (by omega)])
    refine ⟨_, ar', ?_, h.tp (fl' := upd fl 13 (nI (X.2.2.2.1.2 + 20))) upd_s (fun j hj => upd_n hj) (fun j q1 q2 => (i3 j q1).trans (sar_n q2)) i2⟩
    rw [m_r48_12 hA, Option.bind_some, show (0 : Int32) = nI 0 from rfl, m_s56 hA (by omega), Option.bind_some, m_r48_12 hA, Option.bind_some, show (1 : Int32) = nI 1 from rfl, m_s56 hA (by omega), Option.bind_some, m_r48_12 hA, Option.bind_some, show (2 : Int32) = nI 2 from rfl, m_s56 hA (by omega), Option.bind_some, m_r48_12 hA, Option.bind_some, show (3 : Int32) = nI 3 from rfl, m_s56 hA (by omega), Option.bind_some, m_r48_12 hA, Option.bind_some, show (4 : Int32) = nI 4 from rfl, m_s56 hA (by omega), Option.bind_some]
    simp only [sar_sar, sar_s]
    exact i1
  · rw [if_neg (show ¬ nI (X.2.2.2.1.2 + 20) ≤ (400 : Int32) from nI_ge (a := 400) (by omega) (by omega)), if_neg q]
    exact ⟨fl, ar, rfl, h⟩
theorem m_end (hA : 69 ≤ A.length) (h : MI fl ar X) (hX : XI X) {x : Int32} : ∃ fl' ar', xC E (d + 2) 192 [.ref 48, .int x] (mw A fl ar al) = some (some (.int (aEnd X x).1), mw A fl' ar' al) ∧ MI fl' ar' (aEnd X x).2 := by
  have h4 := hX.2.2.2.2.1
  rw [k192 _ _ _ _ _ (m_k48 hA), m_g48_13 hA, Option.bind_some, h.2.2.2.1.1, show (0 : Int32) = nI 0 from rfl, m_liesI, xI_s, Option.bind_some]
  dsimp only
  unfold aEnd
  by_cases hx : x < 0 ∨ nI (X.2.2.2.1.2 + 1) ≤ x
  · rw [if_pos (n_liesI (by omega) hx), if_pos rfl, if_pos hx]
    exact ⟨fl, ar, rfl, h⟩
  · obtain ⟨n, hn, rfl⟩ : ∃ n, n < X.2.2.2.1.2 + 1 ∧ x = nI n := by
      rcases pk_ix x (show X.2.2.2.1.2 + 1 < 2 ^ 31 by omega) with q | q | q
      · exact absurd (Or.inl q) hx
      · exact absurd (Or.inr q) hx
      · exact q
    rw [if_neg (n_liesN (by omega) (by omega)), if_neg (show ¬ nI 1 = nI 0 by decide), if_neg hx, nI_clamp (by omega), m_p48_13 hA, Option.bind_some]
    exact ⟨_, ar, rfl, h.tp (fl' := upd fl 13 (nI n)) upd_s (fun j hj => upd_n hj) (fun _ _ _ => rfl) (fun j hj => h.2.2.2.1.2 j (by omega))⟩
theorem sb_v : ∀ b, b < 256 → (b < 100 → sb b = nI b) ∧ (100 ≤ b → sb b < nI 0 ∨ nI 99 < sb b) := by decide +kernel
theorem sb_k : ∀ b, b < 256 → sb b &&& 255 = nI b := by decide +kernel
theorem MI.f6 (h : MI fl ar X) {x : Int32} : MI (upd fl 6 x) ar (X.1, X.2.1, X.2.2.1, X.2.2.2.1, (X.2.2.2.2.1.1, x, X.2.2.2.2.1.2.2), X.2.2.2.2.2) := by
  obtain ⟨h1, h3, h5, h6, ⟨h8, h9, h10, h11⟩, h12, h13, h14⟩ := h
  exact ⟨h1, h3, h5, h6, ⟨h8, upd_s, h10, h11⟩, h12, h13, h14⟩
theorem m_rw32 (hA : 69 ≤ A.length) {n : Nat} {bs : Nat → Nat} (hX : XI X) (hn : n ≤ 400) (hbs : ∀ j, bs j < 256) (hX0 : X.2.2.2.1.2 = 0) : ∀ (c i : Nat) (p : St × Nat) (fl : Nat → Int32) (ar : Nat → Nat → Int32) (w4 : Value), i + c = n / 2 → p.2 ≤ i → SI X.1.2.1.2.2.2 p.1 → MI fl ar (Xrw X p.1 (nI (n % 2 + (i - p.2)))) → (∀ j, j < n → ar 11 j = sb (bs j)) → ∃ fl' ar' w4', xD E (d + 52) 189 32 [.ref 48, .int (nI n), .int (nI p.2), .int (nI (2 * i)), w4] [] (mw A fl ar al) = xD E (d + 52) 189 32 [.ref 48, .int (nI n), .int (nI (rwN X.1.2.1 bs c i p).2), .int (nI (2 * (n / 2))), w4'] [] (mw A fl' ar' al) ∧ MI fl' ar' (Xrw X (rwN X.1.2.1 bs c i p).1 (nI (n % 2 + (n / 2 - (rwN X.1.2.1 bs c i p).2))))
  | 0, i, p, fl, ar, w4, hi, hp, hS, h, hb => ⟨fl, ar, w4, by rw [show i = n / 2 by omega]; rfl, by rw [show i = n / 2 by omega] at h; exact h⟩
  | c + 1, i, p, fl, ar, w4, hi, hp, hS, h, hb => by
    have b0 := hbs (2 * i)
    have b1 := hbs (2 * i + 1)
    have hR := h.mr
    have hM := h.ms
    obtain ⟨v1, v2⟩ := sb_v _ b1
    have hrun : xD E (d + 52) 189 32 [.ref 48, .int (nI n), .int (nI p.2), .int (nI (2 * i)), w4] [] (mw A fl ar al) = (xI (xC E (d + 51) 243 [.ref 48, .int (nI (bs (2 * i))), .int (sb (bs (2 * i + 1)))] (mw A fl ar al))).bind fun q6 => if q6.1 < 0 then xD E (d + 52) 189 82 [.ref 48, .int (nI n), .int (nI p.2), .int (nI (2 * i)), .int (0 : Int32)] [.int (0 : Int32), .int (nI p.2)] q6.2 else xD E (d + 52) 189 82 [.ref 48, .int (nI n), .int (nI p.2), .int (nI (2 * i)), .int (1 : Int32)] [.int (1 : Int32), .int (nI p.2)] q6.2 := by
      rw [e189_32, show (2 : Int32) = nI 2 from rfl, nI_add, if_neg (nI_nlt (by omega) (by omega)), m_r48_11 hA, Option.bind_some, m_a55 hA (by omega), Option.bind_some, hb _ (by omega), Option.bind_some, nI_1, m_a55 hA (by omega), Option.bind_some, hb _ (by omega), sb_k _ b0]
      congr 1
    have st82 : ∀ (fl1 : Nat → Int32) (ar1 : Nat → Nat → Int32) (z t : Nat), z ≤ 1 → fl1 6 = nI t → xD E (d + 52) 189 82 [.ref 48, .int (nI n), .int (nI p.2), .int (nI (2 * i)), .int (nI z)] [.int (nI z), .int (nI p.2)] (mw A fl1 ar1 al) = xD E (d + 52) 189 32 [.ref 48, .int (nI n), .int (nI (p.2 + z)), .int (nI (2 * (i + 1))), .int (nI z)] [] (mw A (upd fl1 6 (nI (t + (1 - z)))) ar1 al) := by
      intro fl1 ar1 z t hz h6
      rw [e189_82, m_g48_6 hA, Option.bind_some, h6]
      rcases (show z = 0 ∨ z = 1 by omega) with rfl | rfl
      · rw [if_pos (by rfl), nI_1, m_p48_6 hA, Option.bind_some, show (2 : Int32) = nI 2 from rfl, nI_add, nI_add, show 2 * i + 2 = 2 * (i + 1) by omega]
      · rw [if_neg (by decide), show (0 : Int32) = nI 0 from rfl, nI_add, m_p48_6 hA, Option.bind_some, show (2 : Int32) = nI 2 from rfl, nI_add, nI_add, show 2 * i + 2 = 2 * (i + 1) by omega]
    have h6 : fl 6 = nI (n % 2 + (i - p.2)) := h.2.2.2.2.1.2.1
    show ∃ fl' ar' w4', _ = xD E (d + 52) 189 32 [.ref 48, .int (nI n), .int (nI (rwN X.1.2.1 bs c (i + 1) (rw1 X.1.2.1 (bs (2 * i)) (bs (2 * i + 1)) p)).2), .int (nI (2 * (n / 2))), w4'] [] (mw A fl' ar' al) ∧ MI fl' ar' (Xrw X (rwN X.1.2.1 bs c (i + 1) (rw1 X.1.2.1 (bs (2 * i)) (bs (2 * i + 1)) p)).1 (nI (n % 2 + (n / 2 - (rwN X.1.2.1 bs c (i + 1) (rw1 X.1.2.1 (bs (2 * i)) (bs (2 * i + 1)) p)).2))))
    rw [hrun]
    by_cases e : 100 ≤ bs (2 * i + 1)
    · have hr1 : rw1 X.1.2.1 (bs (2 * i)) (bs (2 * i + 1)) p = p := if_pos e
      rw [hr1, m_puts_bad hA (Or.inr (v2 e)), xI_s, Option.bind_some]
      dsimp only
      rw [if_pos (by decide)]
      have hM1 := h.f6 (x := nI (n % 2 + (i - p.2) + (1 - 0)))
      obtain ⟨fl', ar', w4', i1, i2⟩ := m_rw32 hA hX hn hbs hX0 c (i + 1) p (upd fl 6 (nI (n % 2 + (i - p.2) + (1 - 0)))) ar (.int (nI 0)) (by omega) (by omega) hS (by rw [show n % 2 + (i + 1 - p.2) = n % 2 + (i - p.2) + (1 - 0) by omega]; exact hM1) hb
      refine ⟨fl', ar', w4', ?_, i2⟩
      exact (st82 fl ar 0 _ (by omega) h6).trans i1
    · rw [v1 (by omega)]
      obtain ⟨fl1, ar1, p1, p2, p3⟩ := m_puts (E := E) (d := d) (fl := fl) (al := al) (R := X.1.2.1) (S := p.1) hA (k := bs (2 * i)) (v := bs (2 * i + 1)) (by omega) (by omega) hM hR hS
      have hMI : MI fl1 ar1 (Xrw X (putS X.1.2.1 (bs (2 * i)) (bs (2 * i + 1)) p.1).2 (nI (n % 2 + (i - p.2)))) := h.st p2 p3.1 p3.2.2.1 (fun j q1 q2 q3 q4 _ _ => p3.2.1 j q1 q2 q3 q4)
      have hb1 : ∀ j, j < n → ar1 11 j = sb (bs j) := fun j hj => by rw [p3.2.1 11 (by omega) (by omega) (by omega) (by omega)]; exact hb j hj
      have h61 : fl1 6 = nI (n % 2 + (i - p.2)) := hMI.2.2.2.2.1.2.1
      rw [show xC E (d + 51) 243 [.ref 48, .int (nI (bs (2 * i))), .int (nI (bs (2 * i + 1)))] (mw A fl ar al) = _ from p1, xI_s, Option.bind_some]
      dsimp only
      rcases putS_R (R := X.1.2.1) (k := bs (2 * i)) (v := bs (2 * i + 1)) hS.1.1 with ⟨hv2, hs2⟩ | ⟨m, hm, hv2⟩
      · have hneg : (putS X.1.2.1 (bs (2 * i)) (bs (2 * i + 1)) p.1).1 < 0 := by rcases hv2 with z | z <;> rw [z] <;> decide
        have hr1 : rw1 X.1.2.1 (bs (2 * i)) (bs (2 * i + 1)) p = p := by unfold rw1; rw [if_neg e, if_pos hneg]
        rw [hr1]
        rw [hs2] at hMI
        have hM1 := hMI.f6 (x := nI (n % 2 + (i - p.2) + (1 - 0)))
        obtain ⟨fl', ar', w4', i1, i2⟩ := m_rw32 hA hX hn hbs hX0 c (i + 1) p (upd fl1 6 (nI (n % 2 + (i - p.2) + (1 - 0)))) ar1 (.int (nI 0)) (by omega) (by omega) hS (by rw [show n % 2 + (i + 1 - p.2) = n % 2 + (i - p.2) + (1 - 0) by omega]; exact hM1) hb1
        refine ⟨fl', ar', w4', ?_, i2⟩
        rw [if_pos hneg]
        exact (st82 fl1 ar1 0 _ (by omega) h61).trans i1
      · have hneg : ¬ (putS X.1.2.1 (bs (2 * i)) (bs (2 * i + 1)) p.1).1 < 0 := by rw [hv2]; exact nI_pos hm
        have hr1 : rw1 X.1.2.1 (bs (2 * i)) (bs (2 * i + 1)) p = ((putS X.1.2.1 (bs (2 * i)) (bs (2 * i + 1)) p.1).2, p.2 + 1) := by unfold rw1; rw [if_neg e, if_neg hneg]
        rw [hr1]
        have hM1 := hMI.f6 (x := nI (n % 2 + (i - p.2) + (1 - 1)))
        obtain ⟨fl', ar', w4', i1, i2⟩ := m_rw32 hA hX hn hbs hX0 c (i + 1) ((putS X.1.2.1 (bs (2 * i)) (bs (2 * i + 1)) p.1).2, p.2 + 1) (upd fl1 6 (nI (n % 2 + (i - p.2) + (1 - 1)))) ar1 (.int (nI 1)) (by omega) (by show p.2 + 1 ≤ i + 1; omega) (putS_SI (by omega) (by omega) hS) (by show MI _ _ (Xrw X _ (nI (n % 2 + (i + 1 - (p.2 + 1))))); rw [show n % 2 + (i + 1 - (p.2 + 1)) = n % 2 + (i - p.2) + (1 - 1) by omega]; exact hM1) hb1
        refine ⟨fl', ar', w4', ?_, i2⟩
        rw [if_neg hneg]
        exact (st82 fl1 ar1 1 _ (by omega) h61).trans i1
theorem m_row (hA : 69 ≤ A.length) (h : MI fl ar X) (hX : XI X) : ∃ fl' ar', xC E (d + 52) 189 [.ref 48] (mw A fl ar al) = some (some (.int (aRow X).1), mw A fl' ar' al) ∧ MI fl' ar' (aRow X).2 := by
  have h4 := hX.2.2.2.2.1
  have ht0 := h.tp (fl' := upd fl 13 (nI 0)) (ar' := ar) (bs := X.2.2.2.1.1) upd_s (fun j hj => upd_n hj) (fun _ _ _ => rfl) (fun j hj => by omega)
  rw [k189 _ _ _ _ (m_k48 hA), m_g48_13 hA, Option.bind_some, h.2.2.2.1.1, show (0 : Int32) = nI 0 from rfl, m_p48_13 hA, Option.bind_some]
  unfold aRow
  by_cases e : X.2.2.2.1.2 = 0
  · obtain ⟨f6, a6, r1, r2, -⟩ := m_refuses (E := E) (d := d + 50) (al := al) (c := 6) (x := -6) hA ht0 (by omega) rfl (by decide)
    rw [if_pos (by rw [e]), if_pos e, r1, xI_s, Option.bind_some]
    exact ⟨f6, a6, rfl, r2⟩
  · rw [if_neg (fun z => e ((nI_eq (by omega) (by omega)).mp z)), if_neg e, show (2 : Int32) = nI 2 from rfl, n_rem (by omega) (by omega) (by omega), m_p48_6 hA, Option.bind_some]
    have hM1 := ht0.f6 (x := nI (X.2.2.2.1.2 % 2))
    obtain ⟨fl1, ar1, w4', i1, i2⟩ := m_rw32 (E := E) (d := d) (al := al) (X := Xtp X X.2.2.2.1.1 0) (n := X.2.2.2.1.2) (bs := X.2.2.2.1.1) hA ⟨hX.1, hX.2.1, hX.2.2.1, hX.2.2.2.1, Nat.zero_le _, hX.2.2.2.2.2⟩ h4 hX.2.2.2.2.2 rfl (X.2.2.2.1.2 / 2) 0 (X.1.1, 0) (upd (upd fl 13 (nI 0)) 6 (nI (X.2.2.2.1.2 % 2))) ar xJ (by omega) (Nat.le_refl _) hX.1.1 hM1 (fun j hj => h.2.2.2.1.2 j hj)
    obtain ⟨hSI, hle⟩ := rwN_R (R := X.1.2.1) hX.2.2.2.2.2 (X.2.2.2.1.2 / 2) 0 (X.1.1, 0) hX.1.1
    have hle' : (rwN X.1.2.1 X.2.2.2.1.1 (X.2.2.2.1.2 / 2) 0 (X.1.1, 0)).2 ≤ X.2.2.2.1.2 / 2 := by have : (rwN X.1.2.1 X.2.2.2.1.1 (X.2.2.2.1.2 / 2) 0 (X.1.1, 0)).2 ≤ 0 + X.2.2.2.1.2 / 2 := hle; omega
    obtain ⟨fl2, s1, s2⟩ := m_settled (E := E) (d := d + 49) (al := al) (x := nI (rwN X.1.2.1 X.2.2.2.1.1 (X.2.2.2.1.2 / 2) 0 (X.1.1, 0)).2) hA i2
    refine ⟨fl2, ar1, ?_, ?_⟩
    · refine Eq.trans i1 ?_
      rw [e189_32, show (2 : Int32) = nI 2 from rfl, nI_add, if_pos (nI_lt (by omega) (by omega))]
      show (xI (xC E (d + 51) 159 [.ref 48, .int (nI (rwN X.1.2.1 X.2.2.2.1.1 (X.2.2.2.1.2 / 2) 0 (X.1.1, 0)).2)] (mw A fl1 ar1 al))).bind _ = _
      rw [s1, xI_s, Option.bind_some]
    · rw [show (X.2.2.2.1.2 + 1) / 2 - (rwN X.1.2.1 X.2.2.2.1.1 (X.2.2.2.1.2 / 2) 0 (X.1.1, 0)).2 = X.2.2.2.1.2 % 2 + (X.2.2.2.1.2 / 2 - (rwN X.1.2.1 X.2.2.2.1.1 (X.2.2.2.1.2 / 2) 0 (X.1.1, 0)).2) by omega]
      exact s2
end MTAPE
