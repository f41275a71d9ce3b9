/-! ===== bits are counted, to the end (pure) ===== -/
section POP
variable {a b c : Nat}
theorem pop1 (ha : a < 256) (hb : b < 256) (hc : c < 256) : (a + 256 * (b + 256 * c)) - ((a + 256 * (b + 256 * c)) / 2 &&& 1431655765) = by1 a + 256 * (by1 b + 256 * by1 c) := by
  obtain ⟨a1, a2, -⟩ := by_ok a ha
  obtain ⟨b1, b2, -⟩ := by_ok b hb
  obtain ⟨c1, c2, -⟩ := by_ok c hc
  have e1 := a1 (b % 2) (by omega)
  have e2 := b1 (c % 2) (by omega)
  rw [show (a + 256 * (b + 256 * c)) / 2 = (a / 2 + 128 * (b % 2)) + 256 * ((b / 2 + 128 * (c % 2)) + 256 * (c / 2)) by omega, show 1431655765 = 85 + 256 * (85 + 256 * (85 + 256 * 85)) from rfl, and3 (by omega) (by omega) (by omega) (by omega), e1, e2]
  unfold by1
  omega
theorem pop2 (ha : a < 256) (hb : b < 256) (hc : c < 256) : ((by1 a + 256 * (by1 b + 256 * by1 c)) &&& 858993459) + ((by1 a + 256 * (by1 b + 256 * by1 c)) / 4 &&& 858993459) = by2 a + 256 * (by2 b + 256 * by2 c) := by
  obtain ⟨-, -, a3, a4, -⟩ := by_ok a ha
  obtain ⟨-, -, b3, b4, -⟩ := by_ok b hb
  obtain ⟨-, -, c3, c4, -⟩ := by_ok c hc
  have e1 := a4 (by1 b % 4) (by omega)
  have e2 := b4 (by1 c % 4) (by omega)
  rw [show (by1 a + 256 * (by1 b + 256 * by1 c)) / 4 = (by1 a / 4 + 64 * (by1 b % 4)) + 256 * ((by1 b / 4 + 64 * (by1 c % 4)) + 256 * (by1 c / 4)) by omega, show 858993459 = 51 + 256 * (51 + 256 * (51 + 256 * 51)) from rfl, and3 a3 b3 c3 (by omega), and3 (by omega) (by omega) (by omega) (by omega), e1, e2]
  unfold by2
  omega
theorem pop3 (ha : a < 256) (hb : b < 256) (hc : c < 256) : (((by2 a + 256 * (by2 b + 256 * by2 c)) + (by2 a + 256 * (by2 b + 256 * by2 c)) / 16) &&& 252645135) = by3 a + 256 * (by3 b + 256 * by3 c) := by
  obtain ⟨-, -, -, -, a5, a6, a7, -⟩ := by_ok a ha
  obtain ⟨-, -, -, -, b5, b6, b7, -⟩ := by_ok b hb
  obtain ⟨-, -, -, -, c5, c6, c7, -⟩ := by_ok c hc
  have e1 := a7 (by2 b % 16) (by omega)
  have e2 := b7 (by2 c % 16) (by omega)
  have e3 := c7 0 (by omega)
  rw [Nat.mul_zero, Nat.add_zero] at e3
  rw [show (by2 a + 256 * (by2 b + 256 * by2 c)) + (by2 a + 256 * (by2 b + 256 * by2 c)) / 16 = (by2 a + (by2 a / 16 + 16 * (by2 b % 16))) + 256 * ((by2 b + (by2 b / 16 + 16 * (by2 c % 16))) + 256 * (by2 c + by2 c / 16)) by omega, show 252645135 = 15 + 256 * (15 + 256 * (15 + 256 * 15)) from rfl, and3 (by omega) (by omega) (by omega) (by omega), e1, e2, e3]
theorem by3_le (ha : a < 256) : by3 a ≤ 15 := by unfold by3; omega
theorem pop4 (ha : a < 256) (hb : b < 256) (hc : c < 256) : ((((by3 a + 256 * (by3 b + 256 * by3 c)) + (by3 a + 256 * (by3 b + 256 * by3 c)) / 256) + ((by3 a + 256 * (by3 b + 256 * by3 c)) + (by3 a + 256 * (by3 b + 256 * by3 c)) / 256) / 65536) &&& 63) = by3 a + by3 b + by3 c := by
  have h1 := by3_le ha
  have h2 := by3_le hb
  have h3 := by3_le hc
  rw [show (63 : Nat) = 2 ^ 6 - 1 from rfl, Nat.and_two_pow_sub_one_eq_mod]
  show _ % 64 = _
  generalize by3 a = x at *
  generalize by3 b = y at *
  generalize by3 c = z at *
  have e1 : (x + 256 * (y + 256 * z)) / 256 = y + 256 * z := by omega
  rw [e1]
  have e2 : (x + 256 * (y + 256 * z) + (y + 256 * z)) / 65536 = z := by omega
  rw [e2]
  omega
theorem popN_by (ha : a < 256) (hb : b < 256) (hc : c < 256) : popN (a + 256 * (b + 256 * c)) = by3 a + by3 b + by3 c := by
  obtain ⟨-, -, -, -, -, -, -, a8⟩ := by_ok a ha
  obtain ⟨-, -, -, -, -, -, -, b8⟩ := by_ok b hb
  obtain ⟨-, -, -, -, -, -, -, c8⟩ := by_ok c hc
  have k : ∀ (x : Nat) (k : Nat), k < 8 → bitN (x + 256 * (b + 256 * c)) k = bitN x k ∨ 256 ≤ x := fun x k hk => by
    by_cases e : x < 256
    · refine Or.inl ?_
      unfold bitN
      rcases (show k = 0 ∨ k = 1 ∨ k = 2 ∨ k = 3 ∨ k = 4 ∨ k = 5 ∨ k = 6 ∨ k = 7 by omega) with rfl | rfl | rfl | rfl | rfl | rfl | rfl | rfl <;> simp only [Nat.reducePow] <;> omega
    · exact Or.inr (by omega)
  have k2 : ∀ k, k < 8 → bitN (a + 256 * (b + 256 * c)) (8 + k) = bitN b k := fun k hk => by
    unfold bitN
    rcases (show k = 0 ∨ k = 1 ∨ k = 2 ∨ k = 3 ∨ k = 4 ∨ k = 5 ∨ k = 6 ∨ k = 7 by omega) with rfl | rfl | rfl | rfl | rfl | rfl | rfl | rfl <;> simp only [Nat.reducePow, Nat.reduceAdd] <;> omega
  have k3 : ∀ k, k < 8 → bitN (a + 256 * (b + 256 * c)) (16 + k) = bitN c k := fun k hk => by
    unfold bitN
    rcases (show k = 0 ∨ k = 1 ∨ k = 2 ∨ k = 3 ∨ k = 4 ∨ k = 5 ∨ k = 6 ∨ k = 7 by omega) with rfl | rfl | rfl | rfl | rfl | rfl | rfl | rfl <;> simp only [Nat.reducePow, Nat.reduceAdd] <;> omega
  unfold popN
  rw [show (24 : Nat) = 16 + 8 from rfl, cnt_ap _ 16 8, show (16 : Nat) = 8 + 8 from rfl, cnt_ap _ 8 8, a8, b8, c8, cnt_cong 8 (fun i hi => (k a i hi).resolve_right (by omega)), cnt_cong 8 (fun i hi => k2 i hi), cnt_cong 8 (g := bitN c) (fun i hi => k3 i hi)]
end POP
