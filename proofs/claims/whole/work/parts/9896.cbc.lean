/-! ===== Integer.bitCount ===== -/
theorem ush_n {x k : Nat} (hx : x < 2 ^ 31) (hk : k < 31) : xushr (nI x) (nI k) = nI (x / 2 ^ k) := by
  apply Int32.toBitVec_inj.mp
  apply BitVec.eq_of_toNat_eq
  have hd := Nat.div_le_self x (2 ^ k)
  have t : ∀ m, m < 2 ^ 31 → (nI m).toBitVec.toNat = m := fun m hm => by
    show (BitVec.ofNat 32 m).toNat = m
    rw [BitVec.toNat_ofNat]; exact Nat.mod_eq_of_lt (by omega)
  have hh : ∀ k, k < 31 → ((nI k).toUInt32 &&& Int32.toUInt32 31).toNat % 32 = k := by decide +kernel
  rw [t _ (by omega)]
  show ((nI x).toUInt32 >>> ((nI k).toUInt32 &&& Int32.toUInt32 31)).toNat = _
  rw [UInt32.toNat_shiftRight, hh k hk, Nat.shiftRight_eq_div_pow]
  show (nI x).toBitVec.toNat / 2 ^ k = _
  rw [t x hx]
theorem n_and {x y : Nat} : nI x &&& nI y = nI (x &&& y) := by
  apply Int32.toBitVec_inj.mp
  show BitVec.ofNat 32 x &&& BitVec.ofNat 32 y = BitVec.ofNat 32 (x &&& y)
  rw [BitVec.ofNat_and]
theorem c_bitCount {E : Nat × (Nat → Int32)} {d : Nat} {A : xH} {x : Nat} (hx : x < 2 ^ 24) : xC E (d + 1) 294 [.int (nI x)] A = some (some (.int (nI (popN x))), A) := by
  obtain ⟨a, b, c, ha, hb, hc, rfl⟩ : ∃ a b c, a < 256 ∧ b < 256 ∧ c < 256 ∧ x = a + 256 * (b + 256 * c) := ⟨x % 256, x / 256 % 256, x / 65536, by omega, by omega, by omega, by omega⟩
  have h1 := pop1 ha hb hc
  have h2 := pop2 ha hb hc
  have h3 := pop3 ha hb hc
  have h4 := pop4 ha hb hc
  obtain ⟨-, l1, l2, -, l3, -⟩ := by_ok a ha
  obtain ⟨-, m1, m2, -, m3, -⟩ := by_ok b hb
  obtain ⟨-, k1, k2, -, k3, -⟩ := by_ok c hc
  have n1 := by3_le ha
  have n2 := by3_le hb
  have n3 := by3_le hc
  have hle : ((a + 256 * (b + 256 * c)) / 2 &&& 1431655765) ≤ a + 256 * (b + 256 * c) := Nat.le_trans Nat.and_le_left (Nat.div_le_self _ _)
  have s1 : nI (a + 256 * (b + 256 * c)) - ((xushr (nI (a + 256 * (b + 256 * c))) (1 : Int32)) &&& (1431655765 : Int32)) = nI (by1 a + 256 * (by1 b + 256 * by1 c)) := by
    rw [show (1 : Int32) = nI 1 from rfl, ush_n (by omega) (by omega), show (1431655765 : Int32) = nI 1431655765 from rfl, n_and, Nat.pow_one, pk_sub hle, h1]
  have s2 : (nI (by1 a + 256 * (by1 b + 256 * by1 c)) &&& (858993459 : Int32)) + ((xushr (nI (by1 a + 256 * (by1 b + 256 * by1 c))) (2 : Int32)) &&& (858993459 : Int32)) = nI (by2 a + 256 * (by2 b + 256 * by2 c)) := by
    rw [show (2 : Int32) = nI 2 from rfl, ush_n (by omega) (by omega), show (858993459 : Int32) = nI 858993459 from rfl, n_and, n_and, nI_add, show (2 : Nat) ^ 2 = 4 from rfl, h2]
  have s3 : (nI (by2 a + 256 * (by2 b + 256 * by2 c)) + xushr (nI (by2 a + 256 * (by2 b + 256 * by2 c))) (4 : Int32)) &&& (252645135 : Int32) = nI (by3 a + 256 * (by3 b + 256 * by3 c)) := by
    rw [show (4 : Int32) = nI 4 from rfl, ush_n (by omega) (by omega), show (252645135 : Int32) = nI 252645135 from rfl, nI_add, n_and, show (2 : Nat) ^ 4 = 16 from rfl, h3]
  rw [k294]
  simp only [s1, s2, s3]
  rw [show (8 : Int32) = nI 8 from rfl, show (16 : Int32) = nI 16 from rfl, show (63 : Int32) = nI 63 from rfl, ush_n (by omega) (by omega), nI_add, ush_n (by omega) (by omega), nI_add, n_and, show (2 : Nat) ^ 8 = 256 from rfl, show (2 : Nat) ^ 16 = 65536 from rfl, h4, popN_by ha hb hc]
