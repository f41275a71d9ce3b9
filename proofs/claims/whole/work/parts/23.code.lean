/-! ===== sums and tests: their arithmetic ===== -/
/-- an Int as a long, as an int -/
def lI (v : Int) : Int64 := Int64.ofInt v
def tI (v : Int) : Int32 := Int32.ofInt v
theorem lI_toInt {v : Int} (h1 : -4000000000000000000 ≤ v) (h2 : v ≤ 4000000000000000000) : (lI v).toInt = v := Int64.toInt_ofInt_of_le (by omega) (by omega)
theorem tI_toInt {v : Int} (h1 : -2000000000 ≤ v) (h2 : v ≤ 2000000000) : (tI v).toInt = v := Int32.toInt_ofInt_of_le (by omega) (by omega)
theorem l_inj {x y : Int64} : x = y ↔ x.toInt = y.toInt := Int64.toInt_inj.symm
theorem tI_l {v : Int} (h1 : -2000000000 ≤ v) (h2 : v ≤ 2000000000) : (tI v).toInt64 = lI v := by
  apply Int64.toInt_inj.mp
  rw [Int32.toInt_toInt64, tI_toInt h1 h2, lI_toInt (by omega) (by omega)]
/-- what stands within bounds -/
def bd (v : Int) : Option Int := if -1000000000 ≤ v ∧ v ≤ 1000000000 then some v else none
def comb (op : Nat) (x y : Int) : Option Int := if op = 5 then bd (x + y) else if op = 6 then bd (x - y) else if op = 7 then bd (x * y) else if op = 8 then (if y = 0 then none else bd (x.tdiv y)) else if op = 9 then (if y = 0 then none else bd (x.tmod y)) else if op = 10 then some (if x < y then 1 else 0) else if op = 11 then some (if y < x then 1 else 0) else some (if x = y then 1 else 0)
def bI (o : Option Int) : Int32 := match o with
  | none => -2000000000
  | some v => tI v
section COMB
variable {E : Nat × (Nat → Int32)} {d : Nat} {A : xH}
theorem l_le {x y : Int} (h1 : -4000000000000000000 ≤ x) (h2 : x ≤ 4000000000000000000) (h3 : -4000000000000000000 ≤ y) (h4 : y ≤ 4000000000000000000) : lI x ≤ lI y ↔ x ≤ y := by
  rw [Int64.le_iff_toInt_le, lI_toInt h1 h2, lI_toInt h3 h4]
theorem l_lt {x y : Int} (h1 : -4000000000000000000 ≤ x) (h2 : x ≤ 4000000000000000000) (h3 : -4000000000000000000 ≤ y) (h4 : y ≤ 4000000000000000000) : lI x < lI y ↔ x < y := by
  rw [Int64.lt_iff_toInt_lt, lI_toInt h1 h2, lI_toInt h3 h4]
theorem l_eq {x y : Int} (h1 : -4000000000000000000 ≤ x) (h2 : x ≤ 4000000000000000000) (h3 : -4000000000000000000 ≤ y) (h4 : y ≤ 4000000000000000000) : lI x = lI y ↔ x = y := by
  rw [l_inj, lI_toInt h1 h2, lI_toInt h3 h4]
theorem l_toInt32 {v : Int} (h1 : -1000000000 ≤ v) (h2 : v ≤ 1000000000) : (lI v).toInt32 = tI v := by
  rw [← tI_l (by omega) (by omega)]; exact Int32.toInt32_toInt64 _
theorem comb_end {v : Int} (h1 : -4000000000000000000 ≤ v) (h2 : v ≤ 4000000000000000000) (w0 w1 w2 w3 w4 : Value) : xD E (d + 1) 97 153 [w0, w1, w2, w3, w4, .long (lI v), xJ] [] A = some (some (.int (bI (bd v))), A) := by
  have e1 : (-1000000000 : Int64) = lI (-1000000000) := by decide +kernel
  have e2 : (1000000000 : Int64) = lI 1000000000 := by decide +kernel
  rw [e97_153]
  simp only [lg_cmp_lt, lg_cmp_le]
  rw [e1, e2]
  unfold bd
  by_cases q : v < -1000000000
  · rw [if_pos ((l_lt h1 h2 (by omega) (by omega)).mpr q), if_neg (by omega)]; rfl
  · rw [if_neg (fun w => q ((l_lt h1 h2 (by omega) (by omega)).mp w))]
    by_cases q2 : v ≤ 1000000000
    · rw [if_pos ((l_le h1 h2 (by omega) (by omega)).mpr q2), if_pos (by omega), l_toInt32 (by omega) q2]; rfl
    · rw [if_neg (fun w => q2 ((l_le h1 h2 (by omega) (by omega)).mp w)), if_neg (by omega)]; rfl
theorem i_mul {x y : Int} (h1 : -1000000000 ≤ x) (h2 : x ≤ 1000000000) (h3 : -1000000000 ≤ y) (h4 : y ≤ 1000000000) : -1000000000000000000 ≤ x * y ∧ x * y ≤ 1000000000000000000 := by
  have h := Int.natAbs_mul x y
  have hx : x.natAbs ≤ 1000000000 := by omega
  have hy : y.natAbs ≤ 1000000000 := by omega
  have := Nat.mul_le_mul hx hy
  omega
theorem l_div {x y : Int} (h1 : -1000000000 ≤ x) (h2 : x ≤ 1000000000) (h3 : -1000000000 ≤ y) (h4 : y ≤ 1000000000) : lI x / lI y = lI (x.tdiv y) ∧ -1000000000 ≤ x.tdiv y ∧ x.tdiv y ≤ 1000000000 := by
  have h := Int.natAbs_tdiv_le_natAbs x y
  refine ⟨?_, by omega, by omega⟩
  rw [l_inj, Int64.toInt_div_of_ne_left, lI_toInt (by omega) (by omega), lI_toInt (by omega) (by omega), lI_toInt (by omega) (by omega)]
  intro q
  have := congrArg Int64.toInt q
  rw [lI_toInt (by omega) (by omega)] at this
  have h5 : Int64.minValue.toInt = -9223372036854775808 := by decide +kernel
  omega
theorem l_rem {x y : Int} (h1 : -1000000000 ≤ x) (h2 : x ≤ 1000000000) (h3 : -1000000000 ≤ y) (h4 : y ≤ 1000000000) : xlrem (lI x) (lI y) = lI (x.tmod y) ∧ -1000000000 ≤ x.tmod y ∧ x.tmod y ≤ 1000000000 := by
  obtain ⟨e, _, _⟩ := l_div h1 h2 h3 h4
  have h := Int.natAbs_tmod x y
  have h5 := Nat.mod_le x.natAbs y.natAbs
  refine ⟨?_, by omega, by omega⟩
  unfold xlrem
  rw [e]
  have m : lI (x.tdiv y) * lI y = lI (x.tdiv y * y) := (Int64.ofInt_mul _ _).symm
  have s : lI x - lI (x.tdiv y * y) = lI (x - x.tdiv y * y) := (Int64.ofInt_sub _ _).symm
  rw [m, s, Int.tmod_def, Int.mul_comm]
theorem comb_ok {op : Nat} (ho : 5 ≤ op) (ho2 : op ≤ 12) {x y : Int} (h1 : -1000000000 ≤ x) (h2 : x ≤ 1000000000) (h3 : -1000000000 ≤ y) (h4 : y ≤ 1000000000) : xC E (d + 1) 97 [.int (nI op), .long (lI x), .long (lI y)] A = some (some (.int (bI (comb op x y))), A) := by
  have e0 : (0 : Int64) = lI 0 := by decide +kernel
  have e1 : (1 : Int64) = lI 1 := by decide +kernel
  have e2 : (-2000000000 : Int64) = lI (-2000000000) := by decide +kernel
  have add : lI x + lI y = lI (x + y) := (Int64.ofInt_add x y).symm
  have sub : lI x - lI y = lI (x - y) := (Int64.ofInt_sub x y).symm
  have mul : lI x * lI y = lI (x * y) := (Int64.ofInt_mul x y).symm
  have hm := i_mul h1 h2 h3 h4
  have hd := l_div h1 h2 h3 h4
  have hr := l_rem h1 h2 h3 h4
  have q0 : lI y = lI 0 ↔ y = 0 := l_eq (by omega) (by omega) (by omega) (by omega)
  have bn : bd (-2000000000) = none := if_neg (by omega)
  have b0 : bd 0 = some 0 := if_pos (by omega)
  have b1 : bd 1 = some 1 := if_pos (by omega)
  rw [k97]
  simp only [lg_cmp_eq, lg_cmp_ge, lg_cmp_le]
  rcases (show op = 5 ∨ op = 6 ∨ op = 7 ∨ op = 8 ∨ op = 9 ∨ op = 10 ∨ op = 11 ∨ op = 12 by omega) with rfl | rfl | rfl | rfl | rfl | rfl | rfl | rfl
  · rw [if_pos (by decide), add, comb_end (by omega) (by omega)]; rfl
  · rw [if_neg (by decide), if_pos (by decide), sub, comb_end (by omega) (by omega)]; rfl
  · rw [if_neg (by decide), if_neg (by decide), if_pos (by decide), mul, comb_end (by omega) (by omega)]; rfl
  · rw [if_neg (by decide), if_neg (by decide), if_neg (by decide), if_pos (by decide), e0, e2]
    rw [show comb 8 x y = (if y = 0 then none else bd (x.tdiv y)) from rfl]
    by_cases q : y = 0
    · rw [if_pos (q0.mpr q), comb_end (by omega) (by omega), if_pos q, bn]
    · rw [if_neg (fun w => q (q0.mp w)), if_neg (fun w => q (q0.mp w)), if_neg q, hd.1, comb_end (by omega) (by omega)]
  · rw [if_neg (by decide), if_neg (by decide), if_neg (by decide), if_neg (by decide), if_pos (by decide), e0, e2]
    rw [show comb 9 x y = (if y = 0 then none else bd (x.tmod y)) from rfl]
    by_cases q : y = 0
    · rw [if_pos (q0.mpr q), comb_end (by omega) (by omega), if_pos q, bn]
    · rw [if_neg (fun w => q (q0.mp w)), if_neg (fun w => q (q0.mp w)), if_neg q, hr.1, comb_end (by omega) (by omega)]
  · rw [if_neg (by decide), if_neg (by decide), if_neg (by decide), if_neg (by decide), if_neg (by decide), if_pos (by decide), e0, e1]
    rw [show comb 10 x y = some (if x < y then 1 else 0) from rfl]
    by_cases q : x < y
    · rw [if_neg (fun w => by have := (l_le (by omega) (by omega) (by omega) (by omega)).mp w; omega), if_pos q, comb_end (by omega) (by omega), b1]
    · rw [if_pos ((l_le (by omega) (by omega) (by omega) (by omega)).mpr (by omega)), if_neg q, comb_end (by omega) (by omega), b0]
  · rw [if_neg (by decide), if_neg (by decide), if_neg (by decide), if_neg (by decide), if_neg (by decide), if_neg (by decide), if_pos (by decide), e0, e1]
    rw [show comb 11 x y = some (if y < x then 1 else 0) from rfl]
    by_cases q : y < x
    · rw [if_neg (fun w => by have := (l_le (by omega) (by omega) (by omega) (by omega)).mp w; omega), if_pos q, comb_end (by omega) (by omega), b1]
    · rw [if_pos ((l_le (by omega) (by omega) (by omega) (by omega)).mpr (by omega)), if_neg q, comb_end (by omega) (by omega), b0]
  · rw [if_neg (by decide), if_neg (by decide), if_neg (by decide), if_neg (by decide), if_neg (by decide), if_neg (by decide), if_neg (by decide), e0, e1]
    rw [show comb 12 x y = some (if x = y then 1 else 0) from rfl]
    by_cases q : x = y
    · rw [if_pos ((l_eq (by omega) (by omega) (by omega) (by omega)).mpr q), if_pos q, comb_end (by omega) (by omega), b1]
    · rw [if_neg (fun w => q ((l_eq (by omega) (by omega) (by omega) (by omega)).mp w)), if_neg q, comb_end (by omega) (by omega), b0]
end COMB
