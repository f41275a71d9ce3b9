/-! ===== the class: what it can be ===== -/
section CCAN
variable {E : Nat × (Nat → Int32)} {d : Nat} {A A' : xH} {X : Xs} {Lo : List (St × Nat)} {n : NM}
theorem c_fits2 (h : CIo A X Lo n) (hX : XI X) {b : Nat} (hb : b < 24) : ∀ (rest pre : List (Nat × Nat)) (w4 : Value), X.1.2.2.2 = pre ++ rest → xD E (d + 2) 39 2 [.ref 26, .ref 1, .int (nI b), .int (nI pre.length), w4] [] A = some (some (.int (if rest.all (sob X.1.1 b) = true then 1 else 0)), A)
  | [], pre, w4, he => by
    obtain ⟨g1, -⟩ := h.2.2.1.2.2
    have h6 := hX.1.2.2.1
    have hl : X.1.2.2.2.length = pre.length := by rw [he, List.append_nil]
    rw [e39_2, h_gI g1 rfl, Option.bind_some, hl, if_pos (nI_le (Nat.le_refl _) (by omega))]; rfl
  | q :: rest, pre, w4, he => by
    obtain ⟨s, hS, hRS⟩ := h.2.2.1.1
    obtain ⟨g1, f1, f2, g2, g3, g4⟩ := h.2.2.1.2.2
    have h6 := hX.1.2.2.1
    have hd := hX.deep
    have h64 := pow6 hd
    have hl : X.1.2.2.2.length = pre.length + (rest.length + 1) := by rw [he, List.length_append]; rfl
    have hq : X.1.2.2.2[pre.length]? = some q := by rw [he, List.getElem?_append_right (Nat.le_refl _), Nat.sub_self]; rfl
    obtain ⟨v1, v2⟩ := g4 _ _ hq
    obtain ⟨q1, q2⟩ := hX.1.2.2.2.1 q (by rw [he]; simp)
    have hol := own_lt X.1.1.1 q.1
    have ih := fun w => c_fits2 h hX hb rest (pre ++ [q]) w (by rw [he, List.append_assoc]; rfl)
    rw [List.length_append] at ih
    have sl : (if slI X.1.1 (nI q.1) = nI b then 1 else 0 : Nat) = if q.1 < 2 ^ X.1.1.2.2.2.1 ∧ own X.1.1.1 q.1 = b then 1 else 0 := by
      unfold slI
      by_cases z : q.1 < 2 ^ X.1.1.2.2.2.1
      · rw [if_neg (n_out (by omega) z), nI_clamp (by omega)]
        by_cases z2 : own X.1.1.1 q.1 = b
        · rw [if_pos (by rw [z2]), if_pos ⟨z, z2⟩]
        · rw [if_neg (fun w => z2 ((nI_eq (by omega) (by omega)).mp w)), if_neg (fun w => z2 w.2)]
      · rw [if_pos (Or.inr (nI_le (by omega) (by omega))), if_neg (fun w => n_m1ne (show b < 2 ^ 31 by omega) w.symm), if_neg (fun w => z w.1)]
    -- the end of one sighting
    have fin : ∀ (v : Nat), v ≤ 1 → v = (if q.1 < 2 ^ X.1.1.2.2.2.1 ∧ own X.1.1.1 q.1 = b then 1 else 0) → xD E (d + 2) 39 42 [.ref 26, .ref 1, .int (nI b), .int (nI pre.length), xJ] [.int (nI v)] A = some (some (.int (if (q :: rest).all (sob X.1.1 b) = true then 1 else 0)), A) := by
      intro v hv hv2
      have hsob : sob X.1.1 b q = (v == q.2) := by
        unfold sob
        rw [sl, ← hv2]
      rw [e39_42, h_gN g1 rfl, Option.bind_some, h_aI g3 (by omega) (by omega), Option.bind_some, v2, List.all_cons, hsob]
      rcases (show q.2 = 0 ∨ q.2 = 1 by omega) with e | e
      · rw [e, if_neg (show ¬ nI 0 = (1 : Int32) by decide)]
        rcases (show v = 0 ∨ v = 1 by omega) with z | z
        · rw [z, if_pos (show nI 0 = (0 : Int32) from rfl), nI_1]; exact ih _
        · rw [z, if_neg (show ¬ nI 1 = (0 : Int32) by decide)]; rfl
      · rw [e, if_pos (show nI 1 = (1 : Int32) from rfl)]
        rcases (show v = 0 ∨ v = 1 by omega) with z | z
        · rw [z, if_neg (show ¬ nI 0 = (1 : Int32) by decide)]; rfl
        · rw [z, if_pos (show nI 1 = (1 : Int32) from rfl), nI_1]; exact ih _
    rw [e39_2, h_gI g1 rfl, Option.bind_some, if_neg (nI_ge (by omega) (by omega)), h_gN g1 rfl, Option.bind_some, h_aI g2 (by omega) (by omega), Option.bind_some, v1, c_slotsThere hS hRS.2.2.2.2.2.1 hd, xI_s, Option.bind_some]
    dsimp only
    by_cases z : q.1 < 2 ^ X.1.1.2.2.2.1
    · rw [if_neg (nI_ge z (by omega)), h_gN g1 rfl, Option.bind_some, h_aI g2 (by omega) (by omega), Option.bind_some, v1, c_ownerOf hS (by omega), xI_s, Option.bind_some]
      dsimp only
      rw [hRS.2.2.1 _ (by omega)]
      by_cases z2 : own X.1.1.1 q.1 = b
      · rw [if_pos (by rw [z2])]
        exact fin 1 (by omega) (by rw [if_pos ⟨z, z2⟩])
      · rw [if_neg (fun w => z2 ((nI_eq (by omega) (by omega)).mp w))]
        exact fin 0 (by omega) (by rw [if_neg (fun w => z2 w.2)])
    · rw [if_pos (nI_le (by omega) (by omega))]
      exact fin 0 (by omega) (by rw [if_neg (fun w => z w.1)])
theorem c_fits (h : CIo A X Lo n) (hX : XI X) {b : Nat} (hb : b < 24) : xC E (d + 2) 39 [.ref 26, .ref 1, .int (nI b)] A = some (some (.int (if X.1.2.2.2.all (sob X.1.1 b) = true then 1 else 0)), A) := by
  obtain ⟨g1, -⟩ := h.2.2.1.2.2
  rw [k39 _ _ _ _ _ _ (h_cls g1)]
  exact c_fits2 h hX hb X.1.2.2.2 [] xJ rfl
theorem c_cd4 (h : CIo A X Lo n) (hX : XI X) : ∀ (c i : Nat), i + c = 24 → xD E (d + 3) 38 4 [.ref 26, .ref 1, .int (nI (cbN (cand X.1.1 X.1.2.2.2) i)), .int (nI i)] [] A = some (some (.int (nI (aCan X))), A)
  | 0, i, hi => by
    rw [e38_4, if_pos (by rw [zl]; exact nI_le (by omega) (by omega)), show i = 24 by omega]; rfl
  | c + 1, i, hi => by
    obtain ⟨s, hS, hRS⟩ := h.2.2.1.1
    have ih := c_cd4 h hX c (i + 1) (by omega)
    rw [show cbN (cand X.1.1 X.1.2.2.2) (i + 1) = cbN (cand X.1.1 X.1.2.2.2) i ||| (if cand X.1.1 X.1.2.2.2 i = true then 2 ^ i else 0) from rfl] at ih
    rw [e38_4, if_neg (by rw [zl]; exact nI_ge (by omega) (by omega)), hS.g0, Option.bind_some, c_used hS.2.1 hRS.1 (by omega), xI_s, Option.bind_some]
    dsimp only
    cases hB : X.1.1.1 i with
    | none =>
      have hc : cand X.1.1 X.1.2.2.2 i = false := by unfold cand; rw [hB]; rfl
      rw [hc, if_neg (by decide), Nat.or_zero] at ih
      rw [if_pos (by rfl), nI_1]
      exact ih
    | some q =>
      rw [if_neg (show ¬ nI (pus (some q)) = 0 by show ¬ nI 1 = 0; decide), c_fits h hX (by omega), xI_s, Option.bind_some]
      dsimp only
      have hc : cand X.1.1 X.1.2.2.2 i = X.1.2.2.2.all (sob X.1.1 i) := by unfold cand; rw [hB]; rfl
      rw [hc] at ih
      cases ha : X.1.2.2.2.all (sob X.1.1 i) with
      | false =>
        rw [ha, if_neg (by decide), Nat.or_zero] at ih
        rw [if_pos (show (if false = true then (1 : Int32) else 0) = 0 by decide), nI_1]
        exact ih
      | true =>
        rw [ha, if_pos rfl] at ih
        rw [if_neg (show ¬ (if true = true then (1 : Int32) else 0) = 0 by decide), n_shl _ (by omega), n_or, nI_1]
        exact ih
theorem c_cands (h : CIo A X Lo n) (hX : XI X) : xC E (d + 3) 38 [.ref 26, .ref 1] A = some (some (.int (nI (aCan X))), A) := by
  obtain ⟨g1, -⟩ := h.2.2.1.2.2
  rw [k38 _ _ _ _ _ (h_cls g1)]
  exact c_cd4 h hX 24 0 rfl
theorem c_canBe (h : CIo A X Lo n) (hX : XI X) : xC E (d + 4) 129 [.ref 0] A = some (some (.int (nI (aCan X))), A) := by
  rw [k129 _ _ _ _ h.cls, h.g4, Option.bind_some, h.g0, Option.bind_some, c_cands h hX, xI_s, Option.bind_some]
end CCAN
