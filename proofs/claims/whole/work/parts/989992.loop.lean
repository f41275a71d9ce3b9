/-! ===== law: the loop over the script; the room ===== -/
section LOOP
variable {E : Nat × (Nat → Int32)} {A : xH} {X : Xs} {m i : Nat}
theorem n_end (hE : E.1 ≤ 3072) (hi : i ≤ 4000) : ((Int32.ofNat E.1) - (6 : Int32) < nI i) ↔ E.1 < i + 6 := by
  have e : Int32.ofNat E.1 = nI E.1 := rfl
  rw [e]
  by_cases h6 : 6 ≤ E.1
  · rw [show (6 : Int32) = nI 6 from rfl, pk_sub h6]
    constructor
    · intro z
      by_cases h : E.1 < i + 6
      · exact h
      · exact absurd z (Int32.not_lt.mpr (nI_le (by omega) (by omega)))
    · intro z
      exact nI_lt (by omega) (by omega)
  · refine ⟨fun _ => by omega, fun _ => ?_⟩
    have hn : nI E.1 - (6 : Int32) < 0 := by
      rcases (show E.1 = 0 ∨ E.1 = 1 ∨ E.1 = 2 ∨ E.1 = 3 ∨ E.1 = 4 ∨ E.1 = 5 by omega) with h | h | h | h | h | h <;> (rw [h]; decide)
    exact Int32.lt_of_lt_of_le hn (nI_le (a := 0) (Nat.zero_le _) (by omega))
theorem l_all (hE : E.1 ≤ 3072) : ∀ (c i : Nat) (A : xH) (X : Xs) (m : Nat), E.1 < i + 6 * c → i ≤ 3078 → LI A X m → ∃ A' X', xD E 60 302 18 [.float 0, .ref 0, .ref 48, .int (nI i)] [] A = some (some (.int 1), A') ∧ LI A' X' (m + c)
  | 0, i, A, X, m, hc, hi, h => by
    refine ⟨A, X, ?_, h⟩
    rw [e302_18, if_pos ((n_end hE (by omega)).mpr (by omega))]
  | c + 1, i, A, X, m, hc, hi, h => by
    by_cases e : E.1 < i + 6
    · refine ⟨A, X, ?_, h.up (by omega)⟩
      rw [e302_18, if_pos ((n_end hE (by omega)).mpr e)]
    · obtain ⟨A1, X1, a1, a2⟩ := l_disp (E := E) (i := i) h (by omega) hE (E.2 (nI i).toNatClampNeg &&& (63 : Int32))
      obtain ⟨A2, X2, b1, b2⟩ := l_all hE c (i + 6) A1 X1 (m + 1) (by omega) (by omega) a2
      refine ⟨A2, X2, ?_, b2.up (by omega)⟩
      have l0 : ¬ (nI i < 0 ∨ E.1 ≤ (nI i).toNatClampNeg) := fun z => by
        rw [nI_clamp (by omega)] at z
        rcases z with z | z
        · exact nI_pos (by omega) z
        · omega
      rw [e302_18, if_neg (fun z => e ((n_end hE (by omega)).mp z)), if_neg l0]
      refine a1.trans ?_
      rw [e302_1149, show (6 : Int32) = nI 6 from rfl, nI_add]
      exact b1
end LOOP
/-! the room -/
theorem xsl_le {c : Nat} : ∀ (A : xH), (∀ (q : Nat) (a : xA), A[q]? = some a → xsz a ≤ c) → xsl A ≤ c * A.length
  | [], _ => Nat.zero_le _
  | a :: A, h => by
    have h1 := h 0 a rfl
    have h2 := xsl_le A (fun q b hb => h (q + 1) b hb)
    show xsz a + xsl A ≤ c * (A.length + 1)
    rw [Nat.mul_succ]; omega
theorem xsl_ap : ∀ (A B : xH), xsl (A ++ B) = xsl A + xsl B
  | [], B => by show xsl B = 0 + xsl B; omega
  | a :: A, B => by
    show xsz a + xsl (A ++ B) = xsz a + xsl A + xsl B
    rw [xsl_ap A B]; omega
theorem LI.room {A : xH} {X : Xs} {m : Nat} (h : LI A X m) (hm : m ≤ 520) : A.length ≤ 600000 ∧ xsl A ≤ 7302250 := by
  obtain ⟨hX, Lo, n, fl, ar, al, hC, hn, hs, hM⟩ := h
  have h69 := hC.1
  obtain ⟨a, b, c, ⟨pl, hD, hS, hO, ⟨k, c1, c2⟩, e1, e2, e3⟩, ⟨tf, tt, ta, f1, -⟩, ⟨⟨g1, g2, g3⟩, i1, i2, i3⟩, w8, w15, ⟨ww, w43⟩, ⟨cg, w46⟩, ⟨z, w47⟩⟩ := hC
  have s1 : ∀ o : Option Nat, sO o ≤ 1 := fun o => by unfold sO; split <;> omega
  have hcnt : ∀ N, cnt (fun i => sO (pl i)) N ≤ N := fun N => by
    induction N with
    | zero => exact Nat.le_refl _
    | succ N ih =>
      show cnt (fun i => sO (pl i)) N + sO (pl N) ≤ N + 1
      have := s1 (pl N)
      omega
  have hlen : A.length ≤ 3000 := by
    have h1 := hcnt 34
    have h2 := s1 (pl 34)
    have h3 := s1 (pl 35)
    rw [e1]; omega
  refine ⟨by omega, ?_⟩
  have sp : A = A.take 69 ++ A.drop 69 := (List.take_append_drop 69 A).symm
  have l1 : (A.take 69).length = 69 := by rw [List.length_take]; omega
  have l2 : (A.drop 69).length = A.length - 69 := List.length_drop
  have hi : xsl (A.drop 69) ≤ 500 * (A.drop 69).length := xsl_le _ (fun q a ha => by
    rw [List.getElem?_drop] at ha
    exact e2 (69 + q) a (by omega) ha)
  have lo : xsl (A.take 69) ≤ 16000 * (A.take 69).length := xsl_le _ (fun q v hv => by
    have hq : q < 69 := by
      have := (List.getElem?_eq_some_iff.mp hv).1
      omega
    rw [List.getElem?_take_of_lt hq] at hv
    obtain ⟨u, ⟨⟨u0, u1, ⟨uw, u2⟩, ut, u3⟩, -⟩, -⟩ := c.2.1
    obtain ⟨v0, v1, v2, v3, v4, -⟩ := c.2.2
    obtain ⟨p0, ⟨pk, p1, -⟩, ⟨pf, p2, -⟩, -⟩ := hS
    obtain ⟨q0, ⟨qk, q1, -⟩, ⟨qf, q2, -⟩, -⟩ := hO
    have fin : ∀ {x : xA} {q' : Nat}, A[q']? = some x → q = q' → xsz x ≤ 16000 → xsz v ≤ 16000 := fun hx e hz => by
      rw [← e, hv] at hx
      cases hx; exact hz
    have fs : ∀ p, SX A p → p ≤ q → q < p + 7 → xsz v ≤ 16000 := fun p hp h1 h2 => by
      have := hp.sz h1 h2 hv
      omega
    by_cases z0 : q = 0
    · exact fin b z0 (show 18 ≤ 16000 by omega)
    by_cases z1 : q < 8
    · exact fs 1 c.1.x (by omega) (by omega)
    by_cases z2 : q < 15
    · exact fs 8 w8 (by omega) (by omega)
    by_cases z3 : q < 22
    · exact fs 15 w15 (by omega) (by omega)
    by_cases z4 : q < 36
    · rcases (show q = 22 ∨ q = 22 + 1 ∨ q = 22 + 2 ∨ q = 22 + 3 ∨ q = 26 ∨ q = 26 + 1 ∨ q = 26 + 2 ∨ q = 29 ∨ q = 29 + 1 ∨ q = 29 + 2 ∨ q = 32 ∨ q = 32 + 1 ∨ q = 32 + 2 ∨ q = 35 by omega) with e | e | e | e | e | e | e | e | e | e | e | e | e | e
      · exact fin u0 e (show 8 ≤ 16000 by omega)
      · exact fin u1 e (show 6 ≤ 16000 by omega)
      · exact fin u2 e (show 7 ≤ 16000 by omega)
      · exact fin u3 e (show 64 ≤ 16000 by omega)
      · exact fin v0 e (show 3 ≤ 16000 by omega)
      · exact fin v3 e (show 6 ≤ 16000 by omega)
      · exact fin v4 e (show 6 ≤ 16000 by omega)
      · exact fin p0 e (show 4 ≤ 16000 by omega)
      · exact fin p1 e (show 16 ≤ 16000 by omega)
      · exact fin p2 e (show 16 ≤ 16000 by omega)
      · exact fin q0 e (show 4 ≤ 16000 by omega)
      · exact fin q1 e (show 16 ≤ 16000 by omega)
      · exact fin q2 e (show 16 ≤ 16000 by omega)
      · exact fin c1 e (show 2 ≤ 16000 by omega)
    by_cases z5 : q < 43
    · have ht := f1 (q - 36) (by omega)
      rw [show 36 + (q - 36) = q by omega, hv] at ht
      have key : ∀ j, j < 7 → ∀ x, (tcs tf tt ta)[j]? = some x → xsz x ≤ 16000 := fun j hj x hx => by
        rcases (show j = 0 ∨ j = 1 ∨ j = 2 ∨ j = 3 ∨ j = 4 ∨ j = 5 ∨ j = 6 by omega) with rfl | rfl | rfl | rfl | rfl | rfl | rfl
        · cases hx; exact (show 10 ≤ 16000 by omega)
        · cases hx; exact (show 7 ≤ 16000 by omega)
        · cases hx; exact (show 400 ≤ 16000 by omega)
        · cases hx; exact (show 400 ≤ 16000 by omega)
        · cases hx; exact (show 96 ≤ 16000 by omega)
        · cases hx; exact (show 50 ≤ 16000 by omega)
        · cases hx; exact (show 400 ≤ 16000 by omega)
      exact key (q - 36) (by omega) v ht.symm
    by_cases z6 : q < 48
    · rcases (show q = 43 ∨ q = 44 ∨ q = 45 ∨ q = 46 ∨ q = 47 by omega) with e | e | e | e | e
      · exact fin w43 e (show 56 ≤ 16000 by omega)
      · exact fin g2 e (show 7 ≤ 16000 by omega)
      · exact fin i2 e (show 40 ≤ 16000 by omega)
      · exact fin w46 e (show 64 ≤ 16000 by omega)
      · exact fin w47 e (show 20 ≤ 16000 by omega)
    have hw := mw_in (fl := fl) (ar := ar) (al := al) h69 (q - 48) (by omega)
    rw [hs, show 48 + (q - 48) = q by omega, hv] at hw
    have key : ∀ j, j < 21 → ∀ x, (mcs fl ar al)[j]? = some x → xsz x ≤ 16000 := fun j hj x hx => by
      rcases (show j = 0 ∨ j = 1 ∨ j = 2 ∨ j = 3 ∨ j = 4 ∨ j = 5 ∨ j = 6 ∨ j = 7 ∨ j = 8 ∨ j = 9 ∨ j = 10 ∨ j = 11 ∨ j = 12 ∨ j = 13 ∨ j = 14 ∨ j = 15 ∨ j = 16 ∨ j = 17 ∨ j = 18 ∨ j = 19 ∨ j = 20 by omega) with rfl | rfl | rfl | rfl | rfl | rfl | rfl | rfl | rfl | rfl | rfl | rfl | rfl | rfl | rfl | rfl | rfl | rfl | rfl | rfl | rfl
      all_goals (cases hx; exact Nat.le_of_ble_eq_true rfl)
    exact key (q - 48) (by omega) v hw.symm)
  rw [sp, xsl_ap]
  omega
