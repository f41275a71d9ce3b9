/-! ===== the class: what was seen, rules are copied; orders keep the state whole ===== -/
theorem oAll_R {F : List (Nat × Nat)} {ask : List Nat} : ∀ (cs : List (List Nat)) (i : Nat) (Z Z' : OS), (∀ l ∈ cs, l.getD 0 0 ≤ 3 ∧ l.getD 1 0 ≤ 20) → OI Z → Z.2.1 + 20 * cs.length ≤ 1000 → oAll F ask i cs Z = .inr Z' → OI Z'
  | [], i, Z, Z', hc, hZ, hd, h => by cases h; exact hZ
  | l :: r, i, Z, Z', hc, hZ, hd, h => by
    unfold oAll at h
    have hl := hc l (List.mem_cons_self ..)
    have hdl : (l :: r).length = r.length + 1 := rfl
    cases ho : oRep F ask l (l.getD 1 0) Z with
    | none => rw [ho] at h; cases h
    | some Z1 =>
      rw [ho] at h
      obtain ⟨a, b⟩ := oRep_R hl.1 (l.getD 1 0) Z Z1 hZ (by omega) ho
      exact oAll_R r (i + 1) Z1 Z' (fun l' hl' => hc l' (List.mem_cons_of_mem _ hl')) a (by omega) h
section CCOPY
variable {E : Nat × (Nat → Int32)} {d : Nat} {A A' : xH}
theorem c_sgCopy {g g2 : Nat} {L L1 : List (Nat × Nat)} (h : SG A g L1) (h2 : SG A g2 L) (hd : g + 3 ≤ g2 ∨ g2 + 3 ≤ g) (hl : L.length ≤ 6) : ∃ A', xC E (d + 1) 36 [.ref g, .ref g2] A = some (none, A') ∧ SG A' g L ∧ sm (fun q => g ≤ q ∧ q < g + 3) A A' := by
  obtain ⟨a0, f1, f2, a1, a2, -⟩ := h
  obtain ⟨b0, e1, e2, b1, b2, b3⟩ := h2
  have hlen : g + 2 < A.length := (List.getElem?_eq_some_iff.mp a2).1
  generalize hA1 : A.set (g + 1) (ia 6 (va_cpy e1 f1 0 0 6)) = A1
  have k1 : ∀ q, q ≠ g + 1 → A1[q]? = A[q]? := fun q hq => by rw [← hA1]; exact List.getElem?_set_ne (fun z => hq z.symm)
  have l1 : A1.length = A.length := by rw [← hA1, List.length_set]
  generalize hA2 : A1.set (g + 2) (ia 6 (va_cpy e2 f2 0 0 6)) = A2
  have k2 : ∀ q, q ≠ g + 2 → A2[q]? = A1[q]? := fun q hq => by rw [← hA2]; exact List.getElem?_set_ne (fun z => hq z.symm)
  have l2 : A2.length = A.length := by rw [← hA2, List.length_set, l1]
  have c0 : A2[g]? = some (.inr (4, [.ref (g + 1), .ref (g + 2), .int (nI L1.length)])) := by rw [k2 _ (by omega), k1 _ (by omega)]; exact a0
  have k3 : ∀ q, q ≠ g → (A2.set g (.inr (4, [Value.ref (g + 1), .ref (g + 2), .int (nI L.length)])))[q]? = A2[q]? := fun q hq => List.getElem?_set_ne (fun z => hq z.symm)
  have i1 : A1[g + 1]? = some (ia 6 (va_cpy e1 f1 0 0 6)) := by rw [← hA1]; exact List.getElem?_set_self (by omega)
  have i2 : A2[g + 2]? = some (ia 6 (va_cpy e2 f2 0 0 6)) := by rw [← hA2]; exact List.getElem?_set_self (by omega)
  refine ⟨A2.set g (.inr (4, [.ref (g + 1), .ref (g + 2), .int (nI L.length)])), ?_, ⟨List.getElem?_set_self (by omega), va_cpy e1 f1 0 0 6, va_cpy e2 f2 0 0 6, by rw [k3 _ (by omega), k2 _ (by omega)]; exact i1, by rw [k3 _ (by omega)]; exact i2, fun i q hq => ?_⟩, ⟨by rw [List.length_set, l2], fun q hq => by rw [k3 q (by omega), k2 q (by omega), k1 q (by omega)]⟩⟩
  · have b0' : A1[g2]? = some (.inr (4, [.ref (g2 + 1), .ref (g2 + 2), .int (nI L.length)])) := (k1 _ (by omega)).trans b0
    have a0' : A1[g]? = some (.inr (4, [.ref (g + 1), .ref (g + 2), .int (nI L1.length)])) := (k1 _ (by omega)).trans a0
    have b0'' : A2[g2]? = some (.inr (4, [.ref (g2 + 1), .ref (g2 + 2), .int (nI L.length)])) := (k2 _ (by omega)).trans b0'
    rw [k36 _ _ _ _ _ (h_cls a0), h_gN b0 rfl, Option.bind_some, h_gN a0 rfl, Option.bind_some, show (0 : Int32) = nI 0 from rfl, show (6 : Int32) = nI 6 from rfl, h_copy b1 a1 (by omega) (by omega) (by omega) (by omega), Option.bind_some, hA1, h_gN b0' rfl, Option.bind_some, h_gN a0' rfl, Option.bind_some, h_copy ((k1 _ (by omega)).trans b2) ((k1 _ (by omega)).trans a2) (by omega) (by omega) (by omega) (by omega), Option.bind_some, hA2, h_gI b0'' rfl, Option.bind_some, h_pF c0 (show 2 < 3 by omega), Option.bind_some]
    rfl
  · have hi : i < L.length := (List.getElem?_eq_some_iff.mp hq).1
    obtain ⟨z1, z2⟩ := b3 i q hq
    have cp : ∀ (e f : Nat → Int32), va_cpy e f 0 0 6 i = e i := fun e f => by
      unfold va_cpy
      rw [if_pos (by omega)]
      congr 1
      omega
    rw [cp, cp]; exact ⟨z1, z2⟩
end CCOPY
