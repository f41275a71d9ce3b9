/-! ===== the class's store: power is lost, to the end ===== -/
/-- the file after the first n buckets are built anew -/
def rebN (t : Nat) (D : Bk) (n : Nat) : Bk := fun b => if b < n then (if D b = none then none else reb t D b) else D b
def rebB (t : Nat) (D : Bk) : Bk := rebN t D 24
theorem rebN_no {t : Nat} {D : Bk} {n : Nat} (h : D n = none) : rebN t D (n + 1) = rebN t D n := by
  funext b
  unfold rebN
  by_cases e : b = n
  · subst e; rw [if_pos (show b < b + 1 by omega), if_pos h, if_neg (show ¬ b < b by omega), h]
  · by_cases e2 : b < n
    · rw [if_pos (by omega), if_pos e2]
    · rw [if_neg (by omega), if_neg e2]
theorem rebN_ub {t : Nat} {D : Bk} {n : Nat} (h : D n ≠ none) : ub (rebN t D n) n (reb t D n) = rebN t D (n + 1) := by
  funext b
  unfold rebN ub
  by_cases e : b = n
  · subst e; rw [if_pos rfl, if_pos (by omega), if_neg h]
  · rw [if_neg e]
    dsimp only
    by_cases e2 : b < n
    · rw [if_pos e2, if_pos (show b < n + 1 by omega)]
    · rw [if_neg e2, if_neg (show ¬ b < n + 1 by omega)]
theorem reb_dp (t : Nat) (D : Bk) (b : Nat) : pdp (reb t D b) ≤ 6 := by
  unfold reb
  split
  · simp [pdp]
  · simp only [pdp]; omega
theorem rebB_dp {t : Nat} {D : Bk} (h : ∀ q, pdp (D q) ≤ 6) (b : Nat) : pdp (rebB t D b) ≤ 6 := by
  unfold rebB rebN
  split
  · split
    · simp [pdp]
    · exact reb_dp t D b
  · exact h b
section POWER
variable {E : Nat × (Nat → Int32)} {d a r : Nat} {u : xU} {R : Ru}
theorem c_lp_loop {D : Bk} {t : Nat} (hd : a + 7 ≤ r ∨ r + 4 ≤ a) (ht : t < 1000) (hs : u.2.2.2.2.2 = nI t) (hW : ∀ q, pgW (D q)) : ∀ (n b : Nat) (A : xH) (s : xS) (w1 w3 : Value), ST A a s → RU A r u → pgs s.1 0 (rebN t D b) → pgs s.2.1 0 D → (∀ j, j < 64 → s.2.2.1 j = oI (dow D j)) → b + n = 24 → ∃ A' f, xD E (d + 5) 61 35 [.ref a, w1, .ref r, w3, .int (nI b)] [] A = xD E (d + 5) 61 35 [.ref a, xJ, .ref r, xJ, .int (nI 24)] [] A' ∧ ST A' a (f, s.2) ∧ pgs f 0 (rebB t D) ∧ sm (inS a) A A'
  | 0, b, A, s, w1, w3, h, hu, hB, hD, ho, hn => by
    obtain rfl : b = 24 := by omega
    exact ⟨A, s.1, (e61_35 ..).trans (e61_35 ..).symm, h, hB, sm.refl _ _⟩
  | n + 1, b, A, s, w1, w3, h, hu, hB, hD, ho, hn => by
    have hb : b < 24 := by omega
    rw [e61_35, if_neg (show ¬ (24 : Int32) ≤ nI b from nI_ge (b := 24) hb (by omega)), h.g1, Option.bind_some, c_used h.2.2.1 hD hb, xI_s, Option.bind_some]
    dsimp only
    by_cases hu2 : D b = none
    · rw [hu2, if_pos (by rfl), nI_1]
      exact c_lp_loop hd ht hs hW n (b + 1) A s xJ xJ h hu (by rw [rebN_no hu2]; exact hB) hD ho (by omega)
    · have hus : pus (D b) = 1 := by
        cases hB : D b with
        | none => exact absurd hB hu2
        | some w => rfl
      obtain ⟨A1, f, p1, p2, p3, p4⟩ := c_rebuildBucket (E := E) (d := d) hb hd ht hs h hu hB hD (hW b) hu2 ho
      rw [rebN_ub hu2] at p3
      obtain ⟨A2, f2, i1, i2, i3, i4⟩ := c_lp_loop hd ht hs hW n (b + 1) A1 _ xJ xJ p2 (hu.kp p4 (fun q q1 q2 q3 => by have := q3.1; have := q3.2; omega)) p3 hD ho (by omega)
      refine ⟨A2, f2, ?_, i2, i3, p4.trans i4⟩
      rw [hus, if_neg (by decide), p1, xV_s, Option.bind_some, nI_1]
      exact i1
theorem c_losePower {A : xH} {s : xS} {S : St} {n : Nat} (hd : a + 7 ≤ r ∨ r + 4 ≤ a) (ha : sepL u R.1 a 7) (h : ST A a s) (hR : RUR A r u R) (hS : RS s S) (hn : n ≤ S.2.2.1.length) (hW : ∀ q, pgW ((eldN n S).2.1 q)) (hG : ∀ i, i < 64 → dow (eldN n S).2.1 i = some (own (rebB R.2.2.2 (eldN n S).2.1) i)) : ∃ A' s', xC E (d + 5) 61 [.ref a, .int (nI n), .ref r] A = some (some (.int (nI (keysN (rebB R.2.2.2 (eldN n S).2.1)))), A') ∧ ST A' a s' ∧ RS s' (rebB R.2.2.2 (eldN n S).2.1, rebB R.2.2.2 (eldN n S).2.1, [], deepN (rebB R.2.2.2 (eldN n S).2.1), (eldN n S).2.2.2.2) ∧ RUR A' r u R ∧ sm (inS a) A A' := by
  have h40 : S.2.2.1.length ≤ 40 := by
    obtain ⟨-, -, -, ⟨e, -, -, r6, -⟩, -⟩ := hS
    exact r6
  have hsl := hR.2.2.2.2.2.2.2.2
  have hsl2 := hR.2.2.2.2.2.2.2.1
  obtain ⟨A1, s1, p1, p2, p3, p4⟩ := c_doWrites (E := E) (d := d + 1) h hS hn
  generalize eldN n S = S1 at *
  obtain ⟨A2, e1, e2, e3⟩ := p2.p5 (0 : Int32)
  obtain ⟨A3, o, f1, f2, f3, f4⟩ := c_findOwners (E := E) (d := d + 1) e2 p3.2.1 (fun q => (hW q).2.2.1) (fun q => (hW q).2.2.2)
  obtain ⟨a4, m4⟩ := f2.sF (va_cpy s1.2.1 s1.1 0 0 240)
  have mA := ((p4.trans e3).trans f4).trans m4
  have hRU : ∀ {A' : xH}, sm (inS a) A A' → RU A' r u := fun k => hR.1.kp k (fun q q1 q2 q3 => by have := q3.1; have := q3.2; omega)
  have hB0 : rebN R.2.2.2 S1.2.1 0 = S1.2.1 := funext fun b => if_neg (by omega)
  obtain ⟨A5, f, l1, l2, l3, l4⟩ := c_lp_loop (E := E) (d := d) hd hsl hsl2 hW 24 0 _ _ (.int (nI n)) (.int (nI (S.2.2.1.length - n))) a4 (hRU mA) (by rw [hB0]; exact pgs_cong p3.2.1 (fun j _ hj => cpy_at (by omega))) p3.2.1 f3 rfl
  obtain ⟨a6, m6⟩ := l2.sG (va_cpy f s1.2.1 0 0 240)
  obtain ⟨A7, g1, g2, g3⟩ := a6.p6 (nI (deepN (rebB R.2.2.2 S1.2.1)))
  have mB := ((mA.trans l4).trans m6).trans g3
  have hdisk : pgs (va_cpy f s1.2.1 0 0 240) 0 (rebB R.2.2.2 S1.2.1) := pgs_cong l3 (fun j _ hj => cpy_at (by omega))
  refine ⟨A7, _, ?_, g2, ⟨l3, hdisk, fun i hi => ?_, ?_, rfl, rfl, p3.2.2.2.2.2.2⟩, hR.sS hd ha mB, mB⟩
  · rw [k61 _ _ _ _ _ _ h.cls, p1, xI_s, Option.bind_some]
    dsimp only
    rw [if_pos (nI_pos' (by omega)), e1, Option.bind_some, f1, xV_s, Option.bind_some, f2.g0, Option.bind_some, f2.g1, Option.bind_some, c_copy f2.2.1 f2.2.2.1, xV_s, Option.bind_some]
    refine Eq.trans l1 ?_
    rw [e61_35, if_pos (show (24 : Int32) ≤ nI 24 by decide), l2.g1, Option.bind_some, l2.g0, Option.bind_some, c_copy l2.2.2.1 l2.2.1, xV_s, Option.bind_some, a6.g0, Option.bind_some, c_greatestDepth a6.2.1 l3 (rebB_dp (fun q => (hW q).2.2.1)), xI_s, Option.bind_some]
    dsimp only
    rw [g1, Option.bind_some, c_keysThere g2 l3, xI_s, Option.bind_some]
  · show o i = _
    rw [f3 i hi, hG i hi]; rfl
  · obtain ⟨-, -, -, ⟨e, r4, r5, r6, r7⟩, -⟩ := p3
    exact ⟨e, r4, r5, by simp, fun i q hq => by simp at hq⟩
end POWER
