/-! ===== the class: rules are copied ===== -/
section CRULE
variable {E : Nat × (Nat → Int32)} {d : Nat} {A A' : xH}
theorem c_rc2 {r r2 : Nat} {u2 : xU} (hd : r + 4 ≤ r2 ∨ r2 + 4 ≤ r) : ∀ (c i : Nat) (A : xH) (u : xU), i + c = 6 → RU A r u → RU A r2 u2 → (∀ j, j < 6 → xelok A 4 (u2.1 j) = true) → (∀ j q, j < 6 → u2.1 j = some q → q ≠ r + 1) → (∀ j, j < i → u.1 j = u2.1 j) → ∃ A' k, xD E (d + 1) 27 2 [.ref r, .ref r2, .int (nI i)] [] A = xD E (d + 1) 27 2 [.ref r, .ref r2, .int (nI 6)] [] A' ∧ RU A' r (k, u.2) ∧ (∀ j, j < 6 → k j = u2.1 j) ∧ sm (fun q => q = r + 1) A A'
  | 0, i, A, u, hi, h, h2, ho, hq, hk => by
    have : i = 6 := by omega
    subst this
    exact ⟨A, u.1, rfl, h, hk, sm.refl _ _⟩
  | c + 1, i, A, u, hi, h, h2, ho, hq, hk => by
    have hl : r + 1 < A.length := (List.getElem?_eq_some_iff.mp h.2.1).1
    have kp : ∀ q, q ≠ r + 1 → (A.set (r + 1) (.inl (4, 6, .inr (.inr (va_up u.1 i (u2.1 i))))))[q]? = A[q]? := fun q hq => List.getElem?_set_ne (fun z => hq z.symm)
    have h' : RU (A.set (r + 1) (.inl (4, 6, .inr (.inr (va_up u.1 i (u2.1 i)))))) r (va_up u.1 i (u2.1 i), u.2) := ⟨(kp r (by omega)).trans h.1, List.getElem?_set_self hl, by rw [kp _ (by omega)]; exact h.2.2.1, by rw [kp _ (by omega)]; exact h.2.2.2⟩
    have h2' := h2.eq (A' := A.set (r + 1) (.inl (4, 6, .inr (.inr (va_up u.1 i (u2.1 i)))))) (fun q q1 q2 => kp q (by omega))
    obtain ⟨A2, k, g1, g2, g3, g4⟩ := c_rc2 hd c (i + 1) _ (va_up u.1 i (u2.1 i), u.2) (by omega) h' h2' (fun j hj => by
      have := ho j hj
      cases hu : u2.1 j with
      | none => rfl
      | some q =>
        rw [hu] at this
        unfold xelok at this ⊢
        dsimp only at this ⊢
        unfold xcls at this ⊢
        rw [kp q (hq j q hj hu)]; exact this) hq (fun j hj => by
      by_cases e : j = i
      · rw [e]; exact vu_s
      · show va_up u.1 i (u2.1 i) j = _
        rw [vu_n e]; exact hk j (by omega))
    refine ⟨A2, k, ?_, g2, g3, (sm.set (P := fun q => q = r + 1) _ rfl).trans g4⟩
    rw [e27_2, if_neg (show ¬ (6 : Int32) ≤ nI i from nI_ge (b := 6) (by omega) (by omega)), h.g0, Option.bind_some, h2.g0, Option.bind_some, h_aR h2.2.1 (by omega) (by omega), Option.bind_some]
    cases hu : u2.1 i with
    | none =>
      dsimp only
      rw [h_sR h.2.1 (by omega) (by omega) rfl, Option.bind_some, nI_1]
      rw [hu] at g1; exact g1
    | some q =>
      have := ho i (by omega)
      rw [hu] at this
      dsimp only
      rw [h_sR h.2.1 (by omega) (by omega) this, Option.bind_some, nI_1]
      rw [hu] at g1; exact g1
end CRULE
