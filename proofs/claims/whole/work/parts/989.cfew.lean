/-! ===== the class: counts, few ===== -/
section CFEW
variable {E : Nat × (Nat → Int32)} {d : Nat} {A A' : xH} {X : Xs} {Lo : List (St × Nat)} {n : NM}
theorem c_count (h : CIo A X Lo n) (x : Int32) : xC E (d + 4) 137 [.ref 0, .int x] A = some (some (.int (aCount X x)), A) := by
  obtain ⟨s, hS, hRS⟩ := h.2.2.1.1
  obtain ⟨u, hu, hu5, hut, htx⟩ := h.2.2.1.2.1
  obtain ⟨g1, -⟩ := h.2.2.1.2.2
  obtain ⟨pl, -, h1, -⟩ := h.2.2.2.1
  obtain ⟨fl, tl, ar, hw, t2, -⟩ := h.tpw
  obtain ⟨f, f1, f2⟩ := h.2.2.2.2.2.1.1
  have hA := h.1
  have ht2 : gI A 36 6 2 = some (nI X.2.2.2.1.2) := by rw [← hw, t_g36_2 (by omega), t2]
  have rf : ∀ i, i < 7 → ∀ y : Int32, y = nI i → aI 0 A 44 y = some (X.2.2.2.2.2.1 i) := fun i hi y hy => by rw [hy, h_aI f1 hi (by omega), f2 i hi]
  rw [k137 _ _ _ _ _ h.cls]
  unfold aCount
  by_cases e0 : x = 0
  · rw [if_pos e0, if_pos e0, h.g0, Option.bind_some, hS.g6, Option.bind_some, hRS.2.2.2.2.2.1]
  rw [if_neg e0, if_neg e0]
  by_cases e1 : x = 1
  · rw [if_pos e1, if_pos e1, h.g0, Option.bind_some, hS.g0, Option.bind_some, c_usedCount hS.2.1 hRS.1, xI_s, Option.bind_some]
  rw [if_neg e1, if_neg e1]
  by_cases e2 : x = 2
  · rw [if_pos e2, if_pos e2, h.g0, Option.bind_some, c_keysThere hS hRS.1, xI_s, Option.bind_some]
  rw [if_neg e2, if_neg e2]
  by_cases e3 : x = 3
  · rw [if_pos e3, if_pos e3, h.g0, Option.bind_some, hS.g5, Option.bind_some, hRS.2.2.2.2.1]
  rw [if_neg e3, if_neg e3]
  by_cases e4 : x = 4
  · rw [if_pos e4, if_pos e4, h.g4, Option.bind_some, h_gI g1 rfl, Option.bind_some]
  rw [if_neg e4, if_neg e4]
  by_cases e5 : x = 5
  · rw [if_pos e5, if_pos e5, h.g3, Option.bind_some, hu.1.g3, Option.bind_some, hu.2.1.2.1]
  rw [if_neg e5, if_neg e5]
  by_cases e6 : x = 6
  · rw [if_pos e6, if_pos e6, h.g5, Option.bind_some, h_gI h1.1 rfl, Option.bind_some]
  rw [if_neg e6, if_neg e6]
  by_cases e7 : x = 7
  · rw [if_pos e7, if_pos e7, h.g8, Option.bind_some, ht2, Option.bind_some]
  rw [if_neg e7, if_neg e7]
  by_cases e8 : x = 8
  · rw [if_pos e8, if_pos e8, h.g10, Option.bind_some, rf 1 (by omega) (1 : Int32) rfl, Option.bind_some]
  rw [if_neg e8, if_neg e8]
  by_cases e9 : x = 9
  · rw [if_pos e9, if_pos e9, h.g10, Option.bind_some, rf 2 (by omega) (2 : Int32) rfl, Option.bind_some]
  rw [if_neg e9, if_neg e9]
  by_cases e10 : x = 10
  · rw [if_pos e10, if_pos e10, h.g10, Option.bind_some, rf 3 (by omega) (3 : Int32) rfl, Option.bind_some]
  rw [if_neg e10, if_neg e10]
  by_cases e11 : x = 11
  · rw [if_pos e11, if_pos e11, h.g10, Option.bind_some, rf 5 (by omega) (5 : Int32) rfl, Option.bind_some]
  rw [if_neg e11, if_neg e11]
  by_cases e12 : x = 12
  · rw [if_pos e12, if_pos e12, h.g10, Option.bind_some, rf 6 (by omega) (6 : Int32) rfl, Option.bind_some]
  rw [if_neg e12, if_neg e12]
  by_cases e13 : x = 13
  · rw [if_pos e13, if_pos e13, h.g3, Option.bind_some, hu.1.g4, Option.bind_some, hu.2.2.2.1]
  rw [if_neg e13, if_neg e13]
  by_cases e14 : x = 14
  · rw [if_pos e14, if_pos e14, e14, show (14 : Int32) - (14 : Int32) = nI 0 by decide, c_termNow h (by omega), xI_s, Option.bind_some]
  rw [if_neg e14, if_neg e14]
  by_cases e15 : x = 15
  · rw [if_pos e15, if_pos e15, e15, show (15 : Int32) - (14 : Int32) = nI 1 by decide, c_termNow h (by omega), xI_s, Option.bind_some]
  rw [if_neg e15, if_neg e15]
  by_cases e16 : x = 16
  · rw [if_pos e16, if_pos e16, e16, show (16 : Int32) - (14 : Int32) = nI 2 by decide, c_termNow h (by omega), xI_s, Option.bind_some]
  rw [if_neg e16, if_neg e16]
  by_cases e17 : x = 17
  · rw [if_pos e17, if_pos e17, e17, show (17 : Int32) - (14 : Int32) = nI 3 by decide, c_termNow h (by omega), xI_s, Option.bind_some]
  rw [if_neg e17, if_neg e17]
/-- chances have changed -/
theorem CIo.ch (h : CIo A X Lo n) {z : Nat → Int64} : CIo (A.set 47 (.inl (3, 20, .inr (.inl z)))) X Lo n := by
  have hA := h.1
  have kp : ∀ q, q ≠ 47 → (A.set 47 (.inl (3, 20, .inr (.inl z))))[q]? = A[q]? := fun q hq => List.getElem?_set_ne (fun z => hq z.symm)
  obtain ⟨w1, w2, ⟨w, w3⟩, ⟨g, w4⟩, -⟩ := h.2.2.2.2.2.2
  exact h.wk1 (P := fun q => q = 47) (sm.set _ rfl) (fun q z => by unfold wkc; omega) (S := X.1.1) (h.2.2.1.1.eq (fun q q1 q2 => kp q (by omega))) (h.2.2.1.2.1.eq (fun q q1 q2 => kp q (by omega)) (fun q q1 q2 => kp q (by omega))) ⟨w1.eq (fun q q1 q2 => kp q (by omega)), w2.eq (fun q q1 q2 => kp q (by omega)), ⟨w, (kp 43 (by omega)).trans w3⟩, ⟨g, (kp 46 (by omega)).trans w4⟩, ⟨z, List.getElem?_set_self (by omega)⟩⟩
theorem c_fill0 {v : Int64} : ∀ (c i : Nat) (A : xH) (z : Nat → Int64), i + c = 20 → A[47]? = some (.inl (3, 20, .inr (.inl z))) → (∀ j, j < i → z j = v) → ∃ z', xD E (d + 1) 296 6 [.ref 47, .long v, xJ, .int (nI i), .int (nI 20)] [] A = some (none, A.set 47 (.inl (3, 20, .inr (.inl z')))) ∧ ∀ j, j < 20 → z' j = v
  | 0, i, A, z, hi, h, hz => by
    refine ⟨z, ?_, fun j hj => hz j (by omega)⟩
    rw [e296_6, if_pos (nI_le (by omega) (by omega))]
    congr 2
    exact (xh_ext fun q => by
      by_cases e : q = 47
      · rw [e, List.getElem?_set_self (List.getElem?_eq_some_iff.mp h).1, h]
      · rw [List.getElem?_set_ne (fun w => e w.symm)])
  | c + 1, i, A, z, hi, h, hz => by
    have hl := (List.getElem?_eq_some_iff.mp h).1
    obtain ⟨z', g1, g2⟩ := c_fill0 c (i + 1) (A.set 47 (.inl (3, 20, .inr (.inl (vp_updL z i v))))) _ (by omega) (List.getElem?_set_self hl) (fun j hj => by
      by_cases e : j = i
      · rw [e, updL_s]
      · rw [updL_n e]; exact hz j (by omega))
    refine ⟨z', ?_, g2⟩
    rw [e296_6, if_neg (nI_ge (by omega) (by omega)), h_sL h (by omega) (by omega), Option.bind_some, nI_1, g1, List.set_set]
/-- one write more -/
theorem c_ow {k : Nat} {f : Int32} {c : Nat → Int64} (hk : k ≤ 20) : ∀ (m : Nat) (A : xH) (z : Nat → Int64) (w1 w3 w4 w5 w6 : Value), m ≤ k → CIo A X Lo n → nI X.1.2.2.1 = f → A[47]? = some (.inl (3, 20, .inr (.inl z))) → (∀ j, j < m → z j = c j) → (∀ j, m ≤ j → j < k → z j = fwS f c j) → ∃ z', xD E (d + 1) 151 4 [.ref 0, w1, .int (dI m), w3, w4, w5, w6] [] A = some (none, A.set 47 (.inl (3, 20, .inr (.inl z')))) ∧ ∀ j, j < k → z' j = fwS f c j
  | 0, A, z, w1, w3, w4, w5, w6, hm, h, hf, h47, h1, h2 => by
    refine ⟨z, ?_, fun j hj => h2 j (by omega) hj⟩
    rw [e151_4, if_pos (show dI 0 < 0 by decide)]
    congr 2
    exact (xh_ext fun q => by
      by_cases e : q = 47
      · rw [e, List.getElem?_set_self (List.getElem?_eq_some_iff.mp h47).1, h47]
      · rw [List.getElem?_set_ne (fun w => e w.symm)])
  | m + 1, A, z, w1, w3, w4, w5, w6, hm, h, hf, h47, h1, h2 => by
    have hl := (List.getElem?_eq_some_iff.mp h47).1
    obtain ⟨u, hu, hu5, hut, htx⟩ := h.2.2.1.2.1
    have g5 : gI A 22 3 5 = some f := by rw [hu.1.g5, hu5, hf]
    have go : ∀ (v : Int64) (w3 w5 : Value), v = fwS f c m → ∃ z', xD E (d + 1) 151 4 [.ref 0, xJ, .int (nI m + (-1 : Int32)), w3, xJ, w5, xJ] [] (A.set 47 (.inl (3, 20, .inr (.inl (vp_updL z m v))))) = some (none, A.set 47 (.inl (3, 20, .inr (.inl z')))) ∧ ∀ j, j < k → z' j = fwS f c j := by
      intro v w3 w5 hv
      obtain ⟨z', g1, g2⟩ := c_ow (c := c) hk m (A.set 47 (.inl (3, 20, .inr (.inl (vp_updL z m v))))) _ xJ w3 xJ w5 xJ (by omega) h.ch hf (List.getElem?_set_self hl) (fun j hj => by rw [updL_n (by omega)]; exact h1 j (by omega)) (fun j j1 j2 => by
        by_cases e : j = m
        · rw [e, updL_s, hv]
        · rw [updL_n e]; exact h2 j (by omega) j2)
      refine ⟨z', ?_, g2⟩
      rw [dI_dn, g1, List.set_set]
    show ∃ z', xD E (d + 1) 151 4 [.ref 0, w1, .int (nI m), w3, w4, w5, w6] [] A = _ ∧ _
    rw [e151_4, if_neg (show ¬ nI m < 0 from nI_pos (by omega)), h.g13, Option.bind_some, h_aL h47 (by omega) (by omega), Option.bind_some, h.g3, Option.bind_some, g5, Option.bind_some, h1 m (by omega)]
    by_cases e : m = 0
    · subst e
      rw [if_pos (show nI 0 = 0 from rfl), Option.bind_some, h_sL h47 (by omega) (by omega), Option.bind_some]
      exact go _ _ _ (by unfold fwS; rw [if_pos rfl])
    · rw [if_neg (show ¬ nI m = 0 from nI_ne0 (by omega) (by omega)), Option.bind_some, show (1 : Int32) = nI 1 from rfl, pk_sub (by omega), h_aL h47 (by omega) (by omega), Option.bind_some, Option.bind_some, g5, Option.bind_some, Option.bind_some, h_sL h47 (by omega) (by omega), Option.bind_some, h1 (m - 1) (by omega)]
      exact go _ _ _ (by unfold fwS; rw [if_neg e])
theorem c_fw44 {k y : Nat} {f : Int32} (hk : k ≤ 20) (hy : y < 100) (hf : nI X.1.2.2.1 = f) : ∀ (c i : Nat) (A : xH) (z : Nat → Int64) (w4 w5 : Value), i + c = y → CIo A X Lo n → A[47]? = some (.inl (3, 20, .inr (.inl z))) → (∀ j, j < k → z j = fwN f i j) → ∃ A' z' w4' w5', xD E (d + 2) 131 44 [.ref 0, .int (nI k), .int (nI y), .int (nI i), w4, w5] [] A = xD E (d + 2) 131 44 [.ref 0, .int (nI k), .int (nI y), .int (nI y), w4', w5'] [] A' ∧ CIo A' X Lo n ∧ A'[47]? = some (.inl (3, 20, .inr (.inl z'))) ∧ ∀ j, j < k → z' j = fwN f y j
  | 0, i, A, z, w4, w5, hi, h, h47, hz => by
    have : i = y := by omega
    subst this
    exact ⟨A, z, w4, w5, rfl, h, h47, hz⟩
  | c + 1, i, A, z, w4, w5, hi, h, h47, hz => by
    obtain ⟨z1, g1, g2⟩ := c_ow (E := E) (d := d) (k := k) (f := f) (c := fwN f i) hk k A z (.int (nI k)) xJ xJ xJ xJ (Nat.le_refl _) h hf h47 hz (fun j j1 j2 => by omega)
    obtain ⟨A2, z2, v4, v5, b1, b2, b3, b4⟩ := c_fw44 hk hy hf c (i + 1) _ z1 xJ xJ (by omega) (h.ch (z := z1)) (List.getElem?_set_self (List.getElem?_eq_some_iff.mp h47).1) g2
    refine ⟨A2, z2, v4, v5, ?_, b2, b3, b4⟩
    rw [e131_44, if_neg (nI_ge (by omega) (by omega)), k151 _ _ _ _ _ h.cls, dI_m, g1, xV_s, Option.bind_some, nI_1]
    exact b1
theorem c_fw65 (h : CIo A X Lo n) {k : Nat} {z : Nat → Int64} (hk : k ≤ 20) (h47 : A[47]? = some (.inl (3, 20, .inr (.inl z)))) : ∀ (c i : Nat) (w2 : Value), i + c = k → xD E (d + 1) 131 65 [.ref 0, .int (nI k), w2, .long (fwT z i), xJ, .int (nI i)] [] A = some (some (.long (fwT z k)), A)
  | 0, i, w2, hi => by
    have : i = k := by omega
    subst this
    rw [e131_65, if_pos (nI_le (Nat.le_refl _) (by omega))]
  | c + 1, i, w2, hi => by
    rw [e131_65, if_neg (nI_ge (by omega) (by omega)), h.g13, Option.bind_some, h_aL h47 (by omega) (by omega), Option.bind_some, nI_1]
    exact c_fw65 h hk h47 c (i + 1) xJ (by omega)
theorem c_few (h : CIo A X Lo n) (x y : Int32) : ∃ A', xC E (d + 2) 131 [.ref 0, .int x, .int y] A = some (some (.long (aFew X x y)), A') ∧ CIo A' X Lo n := by
  rw [k131 _ _ _ _ _ _ h.cls]
  unfold aFew
  rcases pk_ix x (show 21 < 2 ^ 31 by omega) with hx | hx | ⟨k, hk, rfl⟩
  · have hz : x < 1 := Int32.lt_trans hx (by decide)
    rw [if_pos hz, if_pos (Or.inl (Or.inl hz))]; exact ⟨A, rfl, h⟩
  · rw [if_neg (show ¬ x < (1 : Int32) from fun z => Int32.lt_irrefl (Int32.lt_of_lt_of_le z (Int32.le_trans (by decide) hx))), if_pos (show (20 : Int32) < x from Int32.lt_of_lt_of_le (by decide) hx), if_pos (Or.inl (Or.inr hx))]; exact ⟨A, rfl, h⟩
  · by_cases e0 : k = 0
    · subst e0
      rw [if_pos (show nI 0 < (1 : Int32) by decide), if_pos (Or.inl (Or.inl (by decide)))]; exact ⟨A, rfl, h⟩
    · rw [if_neg (show ¬ nI k < (1 : Int32) from nI_nlt (b := 1) (by omega) (by omega)), if_neg (show ¬ (20 : Int32) < nI k from nI_nlt (a := 20) (by omega) (by omega))]
      rcases pk_ix y (show 100 < 2 ^ 31 by omega) with hy | hy | ⟨m, hm, rfl⟩
      · rw [if_pos hy, if_pos (Or.inr (Or.inl hy))]; exact ⟨A, rfl, h⟩
      · rw [if_neg (n_nn (by omega) hy), if_neg (show ¬ y ≤ (99 : Int32) from Int32.not_le.mpr (Int32.lt_of_lt_of_le (by decide) hy)), if_pos (Or.inr (Or.inr hy))]; exact ⟨A, rfl, h⟩
      · obtain ⟨z0, h47⟩ := h.2.2.2.2.2.2.2.2.2.2
        have hl := (List.getElem?_eq_some_iff.mp h47).1
        obtain ⟨z1, g1, g2⟩ := c_fill0 (E := E) (d := d) (v := 0) 20 0 A z0 rfl h47 (fun j hj => by omega)
        have h1 := h.ch (z := z1)
        have h471 : (A.set 47 (.inl (3, 20, .inr (.inl z1))))[47]? = some (.inl (3, 20, .inr (.inl z1))) := List.getElem?_set_self hl
        have h2 := h1.ch (z := vp_updL z1 0 1000000000000)
        obtain ⟨A2, z2, w4', w5', b1, b2, b3, b4⟩ := c_fw44 (E := E) (d := d) (k := k) (y := m) (f := nI X.1.2.2.1) (by omega) hm rfl m 0 _ _ xJ xJ (by omega) h2 (List.getElem?_set_self (by rw [List.length_set]; exact hl)) (fun j hj => by
          show _ = fw0 j
          unfold fw0
          by_cases e : j = 0
          · rw [e, updL_s, if_pos rfl]
          · rw [updL_n e, if_neg e]; exact g2 j (by omega))
        have hs := c_fw65 (E := E) (d := d + 1) b2 (k := k) (by omega) b3 k 0 (.int (nI m)) (by omega)
        refine ⟨A2, ?_, b2⟩
        rw [if_neg (show ¬ nI m < 0 from nI_pos (by omega)), if_pos (show nI m ≤ (99 : Int32) from nI_le (b := 99) (by omega) (by omega)), if_neg (show ¬ ((nI k < 1 ∨ nI 21 ≤ nI k) ∨ nI m < 0 ∨ nI 100 ≤ nI m) from fun z => z.elim (fun z => z.elim (nI_nlt (b := 1) (by omega) (by omega)) (nI_ge hk (by omega))) (n_out (by omega) hm)), nI_clamp (by omega), nI_clamp (by omega), h.g13, Option.bind_some, k296, h_lA h47, Option.bind_some]
        rw [show xD E (d + 1) 296 6 [.ref 47, .long (0 : Int64), xJ, .int (0 : Int32), .int (nI 20)] [] A = _ from g1, xV_s, Option.bind_some, h1.g13, Option.bind_some, show (0 : Int32) = nI 0 from rfl, h_sL h471 (by omega) (by omega), Option.bind_some]
        refine Eq.trans b1 ?_
        rw [e131_44, if_pos (nI_le (by omega) (by omega))]
        refine Eq.trans (show _ = _ from hs) ?_
        rw [fwT_cong k (fun j hj => b4 j hj)]
end CFEW
