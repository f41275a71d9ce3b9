/-! ===== bits are counted (pure) ===== -/
theorem and_blk (u v : Nat) : u &&& v = (u % 256 &&& v % 256) + 256 * (u / 256 &&& v / 256) := by
  have h1 : (u &&& v) % 2 ^ 8 = u % 2 ^ 8 &&& v % 2 ^ 8 := Nat.and_mod_two_pow
  have h2 : (u &&& v) / 2 ^ 8 = u / 2 ^ 8 &&& v / 2 ^ 8 := Nat.and_div_two_pow
  have h3 := Nat.div_add_mod (u &&& v) 256
  rw [show (2 : Nat) ^ 8 = 256 from rfl] at h1 h2
  omega
theorem and3 {p q r m : Nat} (hp : p < 256) (hq : q < 256) (hr : r < 256) (hm : m < 256) : (p + 256 * (q + 256 * r)) &&& (m + 256 * (m + 256 * (m + 256 * m))) = (p &&& m) + 256 * ((q &&& m) + 256 * (r &&& m)) := by
  rw [and_blk, show (p + 256 * (q + 256 * r)) % 256 = p by omega, show (p + 256 * (q + 256 * r)) / 256 = q + 256 * r by omega, show (m + 256 * (m + 256 * (m + 256 * m))) % 256 = m by omega, show (m + 256 * (m + 256 * (m + 256 * m))) / 256 = m + 256 * (m + 256 * m) by omega]
  rw [and_blk (q + 256 * r), show (q + 256 * r) % 256 = q by omega, show (q + 256 * r) / 256 = r by omega, show (m + 256 * (m + 256 * m)) % 256 = m by omega, show (m + 256 * (m + 256 * m)) / 256 = m + 256 * m by omega]
  rw [and_blk r, show r % 256 = r by omega, show r / 256 = 0 by omega, show (m + 256 * m) % 256 = m by omega, Nat.zero_and, Nat.mul_zero, Nat.add_zero]
/-- one byte, stage by stage -/
def by1 (a : Nat) : Nat := a - (a / 2 &&& 85)
def by2 (a : Nat) : Nat := (by1 a &&& 51) + (by1 a / 4 &&& 51)
def by3 (a : Nat) : Nat := (by2 a + by2 a / 16) % 16
theorem by_ok : ∀ a, a < 256 → (∀ e, e < 2 → (a / 2 + 128 * e &&& 85) = (a / 2 &&& 85)) ∧ (a / 2 &&& 85) ≤ a ∧ by1 a < 256 ∧ (∀ e, e < 4 → (by1 a / 4 + 64 * e &&& 51) = (by1 a / 4 &&& 51)) ∧ by2 a ≤ 68 ∧ by2 a % 16 ≤ 4 ∧ (∀ e, e < 5 → (by2 a + (by2 a / 16 + 16 * e) &&& 15) = by3 a) ∧ by3 a = cnt (bitN a) 8 := by decide +kernel
