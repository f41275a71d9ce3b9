/-- an array of a block is another one -/
def sar (ar : Nat → Nat → Int32) (k : Nat) (f : Nat → Int32) : Nat → Nat → Int32 := fun q => if q = k then f else ar q
def sal (al : Nat → Nat → Int64) (k : Nat) (f : Nat → Int64) : Nat → Nat → Int64 := fun q => if q = k then f else al q
theorem sar_s {ar : Nat → Nat → Int32} {k : Nat} {f : Nat → Int32} : sar ar k f k = f := if_pos rfl
theorem sar_n {ar : Nat → Nat → Int32} {k q : Nat} {f : Nat → Int32} (h : q ≠ k) : sar ar k f q = ar q := if_neg h
theorem sar_self {ar : Nat → Nat → Int32} {k : Nat} : sar ar k (ar k) = ar := by
  funext q; unfold sar; split
  · rename_i h; rw [h]
  · rfl
theorem sar_sar {ar : Nat → Nat → Int32} {k : Nat} {f g : Nat → Int32} : sar (sar ar k f) k g = sar ar k g := by
  funext q; unfold sar; split <;> rfl
theorem sal_s {al : Nat → Nat → Int64} {k : Nat} {f : Nat → Int64} : sal al k f k = f := if_pos rfl
theorem sal_n {al : Nat → Nat → Int64} {k q : Nat} {f : Nat → Int64} (h : q ≠ k) : sal al k f q = al q := if_neg h
theorem sal_self {al : Nat → Nat → Int64} {k : Nat} : sal al k (al k) = al := by
  funext q; unfold sal; split
  · rename_i h; rw [h]
  · rfl
theorem sal_sal {al : Nat → Nat → Int64} {k : Nat} {f g : Nat → Int64} : sal (sal al k f) k g = sal al k g := by
  funext q; unfold sal; split <;> rfl
theorem upd_upd {f : Nat → Int32} {k : Nat} {x y : Int32} : upd (upd f k x) k y = upd f k y := by
  funext q; unfold upd; split <;> rfl
theorem upd_self {f : Nat → Int32} {k : Nat} : upd f k (f k) = f := by
  funext q; unfold upd; split
  · rename_i h; rw [h]
  · rfl
/-! ===== blocks of cells at fixed places: the class's tape, 36 .. 42 ===== -/
def tfs0 (fl : Nat → Int32) : List Value := [.ref 37, .ref 42, .int (fl 2), .int (fl 3), .int (fl 4), .int (fl 5), .int (fl 6), .int (fl 7), .int (fl 8), .int (fl 9)]
def tfs1 (tl : Nat → Int32) : List Value := [.ref 38, .ref 39, .ref 40, .ref 41, .int (tl 4), .int (tl 5), .int (tl 6)]
def tcs (fl : Nat → Int32) (tl : Nat → Int32) (ar : Nat → Nat → Int32) : xH := [.inr (6, tfs0 fl), .inr (7, tfs1 tl), .inl (0, 400, .inl (ar 0)), .inl (0, 400, .inl (ar 1)), .inl (0, 96, .inl (ar 2)), .inl (0, 50, .inl (ar 3)), .inl (0, 400, .inl (ar 4))]
def tw (A : xH) (fl : Nat → Int32) (tl : Nat → Int32) (ar : Nat → Nat → Int32) : xH := wr A 36 (tcs fl tl ar)
section BLKT
variable {A : xH} {fl : Nat → Int32} {tl : Nat → Int32} {ar : Nat → Nat → Int32} {x : Int32} {y : Int64} {i : Nat}
theorem t_len (hA : 43 ≤ A.length) : (tw A fl tl ar).length = A.length := wr_len (show 36 + 7 ≤ A.length by omega)
theorem t_out (hA : 43 ≤ A.length) {q : Nat} (h : q < 36 ∨ 43 ≤ q) : (tw A fl tl ar)[q]? = A[q]? := wr_out (show 36 + 7 ≤ A.length by omega) (show q < 36 ∨ 36 + 7 ≤ q by omega)
theorem t_self (hA : 43 ≤ A.length) (h : ∀ j, j < 7 → A[36 + j]? = (tcs fl tl ar)[j]?) : (tw A fl tl ar) = A := wr_self (show 36 + 7 ≤ A.length by omega) h
theorem t_len2 {A : xH}  {B : xH} (h : B.length = A.length) (hA : 43 ≤ A.length) (ho : ∀ q, (q < 36 ∨ 43 ≤ q) → B[q]? = A[q]?) : tw B fl tl ar = tw A fl tl ar := by
  apply xh_ext; intro q
  unfold tw
  rw [wr_at (show 36 + 7 ≤ B.length by omega), wr_at (show 36 + 7 ≤ A.length by omega)]
  by_cases e : 36 ≤ q ∧ q < 36 + (tcs fl tl ar).length
  · rw [if_pos e, if_pos e]
  · rw [if_neg e, if_neg e]
    have : (tcs fl tl ar).length = 7 := rfl
    exact ho q (by omega)
theorem t_c36 (hA : 43 ≤ A.length) : (tw A fl tl ar)[36]? = some (.inr (6, tfs0 fl)) := wr_in0 (show 36 + 7 ≤ A.length by omega) (show 0 < 7 by omega)
theorem t_k36 (hA : 43 ≤ A.length) : xcls (tw A fl tl ar) 36 = some 6 := h_cls (t_c36 hA)
theorem t_r36_0 (hA : 43 ≤ A.length) : gN (tw A fl tl ar) 36 6 0 = some 37 := h_gN (t_c36 hA) rfl
theorem t_r36_1 (hA : 43 ≤ A.length) : gN (tw A fl tl ar) 36 6 1 = some 42 := h_gN (t_c36 hA) rfl
theorem t_g36_2 (hA : 43 ≤ A.length) : gI (tw A fl tl ar) 36 6 2 = some (fl 2) := h_gI (t_c36 hA) rfl
theorem t_p36_2 (hA : 43 ≤ A.length) : pF (tw A fl tl ar) 36 6 2 (.int x) = some (tw A (upd fl 2 x) tl ar) := (h_pF (t_c36 hA) (show 2 < 10 by omega)).trans (congrArg some ((wr_set0 (cs := tcs fl tl ar) (show 36 + 7 ≤ A.length by omega) (show 0 < 7 by omega)).trans rfl))
theorem t_g36_3 (hA : 43 ≤ A.length) : gI (tw A fl tl ar) 36 6 3 = some (fl 3) := h_gI (t_c36 hA) rfl
theorem t_p36_3 (hA : 43 ≤ A.length) : pF (tw A fl tl ar) 36 6 3 (.int x) = some (tw A (upd fl 3 x) tl ar) := (h_pF (t_c36 hA) (show 3 < 10 by omega)).trans (congrArg some ((wr_set0 (cs := tcs fl tl ar) (show 36 + 7 ≤ A.length by omega) (show 0 < 7 by omega)).trans rfl))
theorem t_g36_4 (hA : 43 ≤ A.length) : gI (tw A fl tl ar) 36 6 4 = some (fl 4) := h_gI (t_c36 hA) rfl
theorem t_p36_4 (hA : 43 ≤ A.length) : pF (tw A fl tl ar) 36 6 4 (.int x) = some (tw A (upd fl 4 x) tl ar) := (h_pF (t_c36 hA) (show 4 < 10 by omega)).trans (congrArg some ((wr_set0 (cs := tcs fl tl ar) (show 36 + 7 ≤ A.length by omega) (show 0 < 7 by omega)).trans rfl))
theorem t_g36_5 (hA : 43 ≤ A.length) : gI (tw A fl tl ar) 36 6 5 = some (fl 5) := h_gI (t_c36 hA) rfl
theorem t_p36_5 (hA : 43 ≤ A.length) : pF (tw A fl tl ar) 36 6 5 (.int x) = some (tw A (upd fl 5 x) tl ar) := (h_pF (t_c36 hA) (show 5 < 10 by omega)).trans (congrArg some ((wr_set0 (cs := tcs fl tl ar) (show 36 + 7 ≤ A.length by omega) (show 0 < 7 by omega)).trans rfl))
theorem t_g36_6 (hA : 43 ≤ A.length) : gI (tw A fl tl ar) 36 6 6 = some (fl 6) := h_gI (t_c36 hA) rfl
theorem t_p36_6 (hA : 43 ≤ A.length) : pF (tw A fl tl ar) 36 6 6 (.int x) = some (tw A (upd fl 6 x) tl ar) := (h_pF (t_c36 hA) (show 6 < 10 by omega)).trans (congrArg some ((wr_set0 (cs := tcs fl tl ar) (show 36 + 7 ≤ A.length by omega) (show 0 < 7 by omega)).trans rfl))
theorem t_g36_7 (hA : 43 ≤ A.length) : gI (tw A fl tl ar) 36 6 7 = some (fl 7) := h_gI (t_c36 hA) rfl
theorem t_p36_7 (hA : 43 ≤ A.length) : pF (tw A fl tl ar) 36 6 7 (.int x) = some (tw A (upd fl 7 x) tl ar) := (h_pF (t_c36 hA) (show 7 < 10 by omega)).trans (congrArg some ((wr_set0 (cs := tcs fl tl ar) (show 36 + 7 ≤ A.length by omega) (show 0 < 7 by omega)).trans rfl))
theorem t_g36_8 (hA : 43 ≤ A.length) : gI (tw A fl tl ar) 36 6 8 = some (fl 8) := h_gI (t_c36 hA) rfl
theorem t_p36_8 (hA : 43 ≤ A.length) : pF (tw A fl tl ar) 36 6 8 (.int x) = some (tw A (upd fl 8 x) tl ar) := (h_pF (t_c36 hA) (show 8 < 10 by omega)).trans (congrArg some ((wr_set0 (cs := tcs fl tl ar) (show 36 + 7 ≤ A.length by omega) (show 0 < 7 by omega)).trans rfl))
theorem t_g36_9 (hA : 43 ≤ A.length) : gI (tw A fl tl ar) 36 6 9 = some (fl 9) := h_gI (t_c36 hA) rfl
theorem t_p36_9 (hA : 43 ≤ A.length) : pF (tw A fl tl ar) 36 6 9 (.int x) = some (tw A (upd fl 9 x) tl ar) := (h_pF (t_c36 hA) (show 9 < 10 by omega)).trans (congrArg some ((wr_set0 (cs := tcs fl tl ar) (show 36 + 7 ≤ A.length by omega) (show 0 < 7 by omega)).trans rfl))
theorem t_c37 (hA : 43 ≤ A.length) : (tw A fl tl ar)[37]? = some (.inr (7, tfs1 tl)) := wr_in (j := 1) (show 36 + 7 ≤ A.length by omega) (show 1 < 7 by omega)
theorem t_k37 (hA : 43 ≤ A.length) : xcls (tw A fl tl ar) 37 = some 7 := h_cls (t_c37 hA)
theorem t_r37_0 (hA : 43 ≤ A.length) : gN (tw A fl tl ar) 37 7 0 = some 38 := h_gN (t_c37 hA) rfl
theorem t_r37_1 (hA : 43 ≤ A.length) : gN (tw A fl tl ar) 37 7 1 = some 39 := h_gN (t_c37 hA) rfl
theorem t_r37_2 (hA : 43 ≤ A.length) : gN (tw A fl tl ar) 37 7 2 = some 40 := h_gN (t_c37 hA) rfl
theorem t_r37_3 (hA : 43 ≤ A.length) : gN (tw A fl tl ar) 37 7 3 = some 41 := h_gN (t_c37 hA) rfl
theorem t_g37_4 (hA : 43 ≤ A.length) : gI (tw A fl tl ar) 37 7 4 = some (tl 4) := h_gI (t_c37 hA) rfl
theorem t_p37_4 (hA : 43 ≤ A.length) : pF (tw A fl tl ar) 37 7 4 (.int x) = some (tw A fl (upd tl 4 x) ar) := (h_pF (t_c37 hA) (show 4 < 7 by omega)).trans (congrArg some ((wr_set (cs := tcs fl tl ar) (j := 1) (show 36 + 7 ≤ A.length by omega) (show 1 < 7 by omega)).trans rfl))
theorem t_g37_5 (hA : 43 ≤ A.length) : gI (tw A fl tl ar) 37 7 5 = some (tl 5) := h_gI (t_c37 hA) rfl
theorem t_p37_5 (hA : 43 ≤ A.length) : pF (tw A fl tl ar) 37 7 5 (.int x) = some (tw A fl (upd tl 5 x) ar) := (h_pF (t_c37 hA) (show 5 < 7 by omega)).trans (congrArg some ((wr_set (cs := tcs fl tl ar) (j := 1) (show 36 + 7 ≤ A.length by omega) (show 1 < 7 by omega)).trans rfl))
theorem t_g37_6 (hA : 43 ≤ A.length) : gI (tw A fl tl ar) 37 7 6 = some (tl 6) := h_gI (t_c37 hA) rfl
theorem t_p37_6 (hA : 43 ≤ A.length) : pF (tw A fl tl ar) 37 7 6 (.int x) = some (tw A fl (upd tl 6 x) ar) := (h_pF (t_c37 hA) (show 6 < 7 by omega)).trans (congrArg some ((wr_set (cs := tcs fl tl ar) (j := 1) (show 36 + 7 ≤ A.length by omega) (show 1 < 7 by omega)).trans rfl))
theorem t_c38 (hA : 43 ≤ A.length) : (tw A fl tl ar)[38]? = some (.inl (0, 400, .inl (ar 0))) := wr_in (j := 2) (show 36 + 7 ≤ A.length by omega) (show 2 < 7 by omega)
theorem t_a38 (hA : 43 ≤ A.length) (hi : i < 400) : aI 0 (tw A fl tl ar) 38 (nI i) = some (ar 0 i) := h_aI (t_c38 hA) hi (by omega)
theorem t_s38 (hA : 43 ≤ A.length) (hi : i < 400) : sI 0 (tw A fl tl ar) 38 (nI i) x = some (tw A fl tl (sar ar 0 (upd (ar 0) i x))) := (h_sI (t_c38 hA) hi (by omega)).trans (congrArg some ((wr_set (cs := tcs fl tl ar) (j := 2) (show 36 + 7 ≤ A.length by omega) (show 2 < 7 by omega)).trans rfl))
theorem t_l38 (hA : 43 ≤ A.length) : lA (tw A fl tl ar) 38 = some (nI 400) := h_lA (t_c38 hA)
theorem t_c39 (hA : 43 ≤ A.length) : (tw A fl tl ar)[39]? = some (.inl (0, 400, .inl (ar 1))) := wr_in (j := 3) (show 36 + 7 ≤ A.length by omega) (show 3 < 7 by omega)
theorem t_a39 (hA : 43 ≤ A.length) (hi : i < 400) : aI 0 (tw A fl tl ar) 39 (nI i) = some (ar 1 i) := h_aI (t_c39 hA) hi (by omega)
theorem t_s39 (hA : 43 ≤ A.length) (hi : i < 400) : sI 0 (tw A fl tl ar) 39 (nI i) x = some (tw A fl tl (sar ar 1 (upd (ar 1) i x))) := (h_sI (t_c39 hA) hi (by omega)).trans (congrArg some ((wr_set (cs := tcs fl tl ar) (j := 3) (show 36 + 7 ≤ A.length by omega) (show 3 < 7 by omega)).trans rfl))
theorem t_l39 (hA : 43 ≤ A.length) : lA (tw A fl tl ar) 39 = some (nI 400) := h_lA (t_c39 hA)
theorem t_c40 (hA : 43 ≤ A.length) : (tw A fl tl ar)[40]? = some (.inl (0, 96, .inl (ar 2))) := wr_in (j := 4) (show 36 + 7 ≤ A.length by omega) (show 4 < 7 by omega)
theorem t_a40 (hA : 43 ≤ A.length) (hi : i < 96) : aI 0 (tw A fl tl ar) 40 (nI i) = some (ar 2 i) := h_aI (t_c40 hA) hi (by omega)
theorem t_s40 (hA : 43 ≤ A.length) (hi : i < 96) : sI 0 (tw A fl tl ar) 40 (nI i) x = some (tw A fl tl (sar ar 2 (upd (ar 2) i x))) := (h_sI (t_c40 hA) hi (by omega)).trans (congrArg some ((wr_set (cs := tcs fl tl ar) (j := 4) (show 36 + 7 ≤ A.length by omega) (show 4 < 7 by omega)).trans rfl))
theorem t_l40 (hA : 43 ≤ A.length) : lA (tw A fl tl ar) 40 = some (nI 96) := h_lA (t_c40 hA)
theorem t_c41 (hA : 43 ≤ A.length) : (tw A fl tl ar)[41]? = some (.inl (0, 50, .inl (ar 3))) := wr_in (j := 5) (show 36 + 7 ≤ A.length by omega) (show 5 < 7 by omega)
theorem t_a41 (hA : 43 ≤ A.length) (hi : i < 50) : aI 0 (tw A fl tl ar) 41 (nI i) = some (ar 3 i) := h_aI (t_c41 hA) hi (by omega)
theorem t_s41 (hA : 43 ≤ A.length) (hi : i < 50) : sI 0 (tw A fl tl ar) 41 (nI i) x = some (tw A fl tl (sar ar 3 (upd (ar 3) i x))) := (h_sI (t_c41 hA) hi (by omega)).trans (congrArg some ((wr_set (cs := tcs fl tl ar) (j := 5) (show 36 + 7 ≤ A.length by omega) (show 5 < 7 by omega)).trans rfl))
theorem t_l41 (hA : 43 ≤ A.length) : lA (tw A fl tl ar) 41 = some (nI 50) := h_lA (t_c41 hA)
theorem t_c42 (hA : 43 ≤ A.length) : (tw A fl tl ar)[42]? = some (.inl (0, 400, .inl (ar 4))) := wr_in (j := 6) (show 36 + 7 ≤ A.length by omega) (show 6 < 7 by omega)
theorem t_a42 (hA : 43 ≤ A.length) (hi : i < 400) : aI 0 (tw A fl tl ar) 42 (nI i) = some (ar 4 i) := h_aI (t_c42 hA) hi (by omega)
theorem t_s42 (hA : 43 ≤ A.length) (hi : i < 400) : sI 0 (tw A fl tl ar) 42 (nI i) x = some (tw A fl tl (sar ar 4 (upd (ar 4) i x))) := (h_sI (t_c42 hA) hi (by omega)).trans (congrArg some ((wr_set (cs := tcs fl tl ar) (j := 6) (show 36 + 7 ≤ A.length by omega) (show 6 < 7 by omega)).trans rfl))
theorem t_l42 (hA : 43 ≤ A.length) : lA (tw A fl tl ar) 42 = some (nI 400) := h_lA (t_c42 hA)
end BLKT
/-! ===== blocks of cells at fixed places: the reference's, 48 .. 68 ===== -/
def mfs0 (fl : Nat → Int32) : List Value := [.int (fl 0), .ref 49, .ref 50, .ref 51, .ref 52, .ref 53, .int (fl 6), .ref 54, .int (fl 8), .int (fl 9), .int (fl 10), .ref 55, .ref 56, .int (fl 13), .int (fl 14), .ref 57, .ref 58, .ref 59, .int (fl 18), .int (fl 19), .int (fl 20), .int (fl 21), .int (fl 22), .int (fl 23), .int (fl 24), .int (fl 25), .ref 60, .int (fl 27), .int (fl 28), .ref 61, .ref 62, .ref 63, .int (fl 32), .ref 64, .ref 65, .ref 66, .int (fl 36), .int (fl 37), .int (fl 38), .int (fl 39), .int (fl 40), .int (fl 41), .ref 67, .ref 68, .int (fl 44), .int (fl 45)]
def mcs (fl : Nat → Int32) (ar : Nat → Nat → Int32) (al : Nat → Nat → Int64) : xH := [.inr (9, mfs0 fl), .inl (0, 7, .inl (ar 1)), .inl (0, 6588, .inl (ar 2)), .inl (0, 13176, .inl (ar 3)), .inl (2, 2, .inl (ar 4)), .inl (0, 3852, .inl (ar 5)), .inl (1, 126, .inl (ar 7)), .inl (1, 400, .inl (ar 11)), .inl (0, 5, .inl (ar 12)), .inl (0, 401, .inl (ar 15)), .inl (0, 401, .inl (ar 16)), .inl (0, 401, .inl (ar 17)), .inl (0, 7, .inl (ar 26)), .inl (0, 64, .inl (ar 29)), .inl (0, 15424, .inl (ar 30)), .inl (0, 15424, .inl (ar 31)), .inl (0, 1000, .inl (ar 33)), .inl (0, 64, .inl (ar 34)), .inl (3, 21, .inr (.inl (al 35))), .inl (3, 2, .inr (.inl (al 42))), .inl (0, 40, .inl (ar 43))]
def mw (A : xH) (fl : Nat → Int32) (ar : Nat → Nat → Int32) (al : Nat → Nat → Int64) : xH := wr A 48 (mcs fl ar al)
section BLKM
variable {A : xH} {fl : Nat → Int32} {ar : Nat → Nat → Int32} {al : Nat → Nat → Int64} {x : Int32} {y : Int64} {i : Nat}
theorem m_len (hA : 69 ≤ A.length) : (mw A fl ar al).length = A.length := wr_len (show 48 + 21 ≤ A.length by omega)
theorem m_out (hA : 69 ≤ A.length) {q : Nat} (h : q < 48 ∨ 69 ≤ q) : (mw A fl ar al)[q]? = A[q]? := wr_out (show 48 + 21 ≤ A.length by omega) (show q < 48 ∨ 48 + 21 ≤ q by omega)
theorem m_self (hA : 69 ≤ A.length) (h : ∀ j, j < 21 → A[48 + j]? = (mcs fl ar al)[j]?) : (mw A fl ar al) = A := wr_self (show 48 + 21 ≤ A.length by omega) h
theorem m_len2 {A : xH}  {B : xH} (h : B.length = A.length) (hA : 69 ≤ A.length) (ho : ∀ q, (q < 48 ∨ 69 ≤ q) → B[q]? = A[q]?) : mw B fl ar al = mw A fl ar al := by
  apply xh_ext; intro q
  unfold mw
  rw [wr_at (show 48 + 21 ≤ B.length by omega), wr_at (show 48 + 21 ≤ A.length by omega)]
  by_cases e : 48 ≤ q ∧ q < 48 + (mcs fl ar al).length
  · rw [if_pos e, if_pos e]
  · rw [if_neg e, if_neg e]
    have : (mcs fl ar al).length = 21 := rfl
    exact ho q (by omega)
theorem m_c48 (hA : 69 ≤ A.length) : (mw A fl ar al)[48]? = some (.inr (9, mfs0 fl)) := wr_in0 (show 48 + 21 ≤ A.length by omega) (show 0 < 21 by omega)
theorem m_k48 (hA : 69 ≤ A.length) : xcls (mw A fl ar al) 48 = some 9 := h_cls (m_c48 hA)
theorem m_g48_0 (hA : 69 ≤ A.length) : gI (mw A fl ar al) 48 9 0 = some (fl 0) := h_gI (m_c48 hA) rfl
theorem m_p48_0 (hA : 69 ≤ A.length) : pF (mw A fl ar al) 48 9 0 (.int x) = some (mw A (upd fl 0 x) ar al) := (h_pF (m_c48 hA) (show 0 < 46 by omega)).trans (congrArg some ((wr_set0 (cs := mcs fl ar al) (show 48 + 21 ≤ A.length by omega) (show 0 < 21 by omega)).trans rfl))
theorem m_r48_1 (hA : 69 ≤ A.length) : gN (mw A fl ar al) 48 9 1 = some 49 := h_gN (m_c48 hA) rfl
theorem m_r48_2 (hA : 69 ≤ A.length) : gN (mw A fl ar al) 48 9 2 = some 50 := h_gN (m_c48 hA) rfl
theorem m_r48_3 (hA : 69 ≤ A.length) : gN (mw A fl ar al) 48 9 3 = some 51 := h_gN (m_c48 hA) rfl
theorem m_r48_4 (hA : 69 ≤ A.length) : gN (mw A fl ar al) 48 9 4 = some 52 := h_gN (m_c48 hA) rfl
theorem m_r48_5 (hA : 69 ≤ A.length) : gN (mw A fl ar al) 48 9 5 = some 53 := h_gN (m_c48 hA) rfl
theorem m_g48_6 (hA : 69 ≤ A.length) : gI (mw A fl ar al) 48 9 6 = some (fl 6) := h_gI (m_c48 hA) rfl
theorem m_p48_6 (hA : 69 ≤ A.length) : pF (mw A fl ar al) 48 9 6 (.int x) = some (mw A (upd fl 6 x) ar al) := (h_pF (m_c48 hA) (show 6 < 46 by omega)).trans (congrArg some ((wr_set0 (cs := mcs fl ar al) (show 48 + 21 ≤ A.length by omega) (show 0 < 21 by omega)).trans rfl))
theorem m_r48_7 (hA : 69 ≤ A.length) : gN (mw A fl ar al) 48 9 7 = some 54 := h_gN (m_c48 hA) rfl
theorem m_g48_8 (hA : 69 ≤ A.length) : gI (mw A fl ar al) 48 9 8 = some (fl 8) := h_gI (m_c48 hA) rfl
theorem m_p48_8 (hA : 69 ≤ A.length) : pF (mw A fl ar al) 48 9 8 (.int x) = some (mw A (upd fl 8 x) ar al) := (h_pF (m_c48 hA) (show 8 < 46 by omega)).trans (congrArg some ((wr_set0 (cs := mcs fl ar al) (show 48 + 21 ≤ A.length by omega) (show 0 < 21 by omega)).trans rfl))
theorem m_g48_9 (hA : 69 ≤ A.length) : gI (mw A fl ar al) 48 9 9 = some (fl 9) := h_gI (m_c48 hA) rfl
theorem m_p48_9 (hA : 69 ≤ A.length) : pF (mw A fl ar al) 48 9 9 (.int x) = some (mw A (upd fl 9 x) ar al) := (h_pF (m_c48 hA) (show 9 < 46 by omega)).trans (congrArg some ((wr_set0 (cs := mcs fl ar al) (show 48 + 21 ≤ A.length by omega) (show 0 < 21 by omega)).trans rfl))
theorem m_g48_10 (hA : 69 ≤ A.length) : gI (mw A fl ar al) 48 9 10 = some (fl 10) := h_gI (m_c48 hA) rfl
theorem m_p48_10 (hA : 69 ≤ A.length) : pF (mw A fl ar al) 48 9 10 (.int x) = some (mw A (upd fl 10 x) ar al) := (h_pF (m_c48 hA) (show 10 < 46 by omega)).trans (congrArg some ((wr_set0 (cs := mcs fl ar al) (show 48 + 21 ≤ A.length by omega) (show 0 < 21 by omega)).trans rfl))
theorem m_r48_11 (hA : 69 ≤ A.length) : gN (mw A fl ar al) 48 9 11 = some 55 := h_gN (m_c48 hA) rfl
theorem m_r48_12 (hA : 69 ≤ A.length) : gN (mw A fl ar al) 48 9 12 = some 56 := h_gN (m_c48 hA) rfl
theorem m_g48_13 (hA : 69 ≤ A.length) : gI (mw A fl ar al) 48 9 13 = some (fl 13) := h_gI (m_c48 hA) rfl
theorem m_p48_13 (hA : 69 ≤ A.length) : pF (mw A fl ar al) 48 9 13 (.int x) = some (mw A (upd fl 13 x) ar al) := (h_pF (m_c48 hA) (show 13 < 46 by omega)).trans (congrArg some ((wr_set0 (cs := mcs fl ar al) (show 48 + 21 ≤ A.length by omega) (show 0 < 21 by omega)).trans rfl))
theorem m_g48_14 (hA : 69 ≤ A.length) : gI (mw A fl ar al) 48 9 14 = some (fl 14) := h_gI (m_c48 hA) rfl
theorem m_p48_14 (hA : 69 ≤ A.length) : pF (mw A fl ar al) 48 9 14 (.int x) = some (mw A (upd fl 14 x) ar al) := (h_pF (m_c48 hA) (show 14 < 46 by omega)).trans (congrArg some ((wr_set0 (cs := mcs fl ar al) (show 48 + 21 ≤ A.length by omega) (show 0 < 21 by omega)).trans rfl))
theorem m_r48_15 (hA : 69 ≤ A.length) : gN (mw A fl ar al) 48 9 15 = some 57 := h_gN (m_c48 hA) rfl
theorem m_r48_16 (hA : 69 ≤ A.length) : gN (mw A fl ar al) 48 9 16 = some 58 := h_gN (m_c48 hA) rfl
theorem m_r48_17 (hA : 69 ≤ A.length) : gN (mw A fl ar al) 48 9 17 = some 59 := h_gN (m_c48 hA) rfl
theorem m_g48_18 (hA : 69 ≤ A.length) : gI (mw A fl ar al) 48 9 18 = some (fl 18) := h_gI (m_c48 hA) rfl
theorem m_p48_18 (hA : 69 ≤ A.length) : pF (mw A fl ar al) 48 9 18 (.int x) = some (mw A (upd fl 18 x) ar al) := (h_pF (m_c48 hA) (show 18 < 46 by omega)).trans (congrArg some ((wr_set0 (cs := mcs fl ar al) (show 48 + 21 ≤ A.length by omega) (show 0 < 21 by omega)).trans rfl))
theorem m_g48_19 (hA : 69 ≤ A.length) : gI (mw A fl ar al) 48 9 19 = some (fl 19) := h_gI (m_c48 hA) rfl
theorem m_p48_19 (hA : 69 ≤ A.length) : pF (mw A fl ar al) 48 9 19 (.int x) = some (mw A (upd fl 19 x) ar al) := (h_pF (m_c48 hA) (show 19 < 46 by omega)).trans (congrArg some ((wr_set0 (cs := mcs fl ar al) (show 48 + 21 ≤ A.length by omega) (show 0 < 21 by omega)).trans rfl))
theorem m_g48_20 (hA : 69 ≤ A.length) : gI (mw A fl ar al) 48 9 20 = some (fl 20) := h_gI (m_c48 hA) rfl
theorem m_p48_20 (hA : 69 ≤ A.length) : pF (mw A fl ar al) 48 9 20 (.int x) = some (mw A (upd fl 20 x) ar al) := (h_pF (m_c48 hA) (show 20 < 46 by omega)).trans (congrArg some ((wr_set0 (cs := mcs fl ar al) (show 48 + 21 ≤ A.length by omega) (show 0 < 21 by omega)).trans rfl))
theorem m_g48_21 (hA : 69 ≤ A.length) : gI (mw A fl ar al) 48 9 21 = some (fl 21) := h_gI (m_c48 hA) rfl
theorem m_p48_21 (hA : 69 ≤ A.length) : pF (mw A fl ar al) 48 9 21 (.int x) = some (mw A (upd fl 21 x) ar al) := (h_pF (m_c48 hA) (show 21 < 46 by omega)).trans (congrArg some ((wr_set0 (cs := mcs fl ar al) (show 48 + 21 ≤ A.length by omega) (show 0 < 21 by omega)).trans rfl))
theorem m_g48_22 (hA : 69 ≤ A.length) : gI (mw A fl ar al) 48 9 22 = some (fl 22) := h_gI (m_c48 hA) rfl
theorem m_p48_22 (hA : 69 ≤ A.length) : pF (mw A fl ar al) 48 9 22 (.int x) = some (mw A (upd fl 22 x) ar al) := (h_pF (m_c48 hA) (show 22 < 46 by omega)).trans (congrArg some ((wr_set0 (cs := mcs fl ar al) (show 48 + 21 ≤ A.length by omega) (show 0 < 21 by omega)).trans rfl))
theorem m_g48_23 (hA : 69 ≤ A.length) : gI (mw A fl ar al) 48 9 23 = some (fl 23) := h_gI (m_c48 hA) rfl
theorem m_p48_23 (hA : 69 ≤ A.length) : pF (mw A fl ar al) 48 9 23 (.int x) = some (mw A (upd fl 23 x) ar al) := (h_pF (m_c48 hA) (show 23 < 46 by omega)).trans (congrArg some ((wr_set0 (cs := mcs fl ar al) (show 48 + 21 ≤ A.length by omega) (show 0 < 21 by omega)).trans rfl))
theorem m_g48_24 (hA : 69 ≤ A.length) : gI (mw A fl ar al) 48 9 24 = some (fl 24) := h_gI (m_c48 hA) rfl
theorem m_p48_24 (hA : 69 ≤ A.length) : pF (mw A fl ar al) 48 9 24 (.int x) = some (mw A (upd fl 24 x) ar al) := (h_pF (m_c48 hA) (show 24 < 46 by omega)).trans (congrArg some ((wr_set0 (cs := mcs fl ar al) (show 48 + 21 ≤ A.length by omega) (show 0 < 21 by omega)).trans rfl))
theorem m_g48_25 (hA : 69 ≤ A.length) : gI (mw A fl ar al) 48 9 25 = some (fl 25) := h_gI (m_c48 hA) rfl
theorem m_p48_25 (hA : 69 ≤ A.length) : pF (mw A fl ar al) 48 9 25 (.int x) = some (mw A (upd fl 25 x) ar al) := (h_pF (m_c48 hA) (show 25 < 46 by omega)).trans (congrArg some ((wr_set0 (cs := mcs fl ar al) (show 48 + 21 ≤ A.length by omega) (show 0 < 21 by omega)).trans rfl))
theorem m_r48_26 (hA : 69 ≤ A.length) : gN (mw A fl ar al) 48 9 26 = some 60 := h_gN (m_c48 hA) rfl
theorem m_g48_27 (hA : 69 ≤ A.length) : gI (mw A fl ar al) 48 9 27 = some (fl 27) := h_gI (m_c48 hA) rfl
theorem m_p48_27 (hA : 69 ≤ A.length) : pF (mw A fl ar al) 48 9 27 (.int x) = some (mw A (upd fl 27 x) ar al) := (h_pF (m_c48 hA) (show 27 < 46 by omega)).trans (congrArg some ((wr_set0 (cs := mcs fl ar al) (show 48 + 21 ≤ A.length by omega) (show 0 < 21 by omega)).trans rfl))
theorem m_g48_28 (hA : 69 ≤ A.length) : gI (mw A fl ar al) 48 9 28 = some (fl 28) := h_gI (m_c48 hA) rfl
theorem m_p48_28 (hA : 69 ≤ A.length) : pF (mw A fl ar al) 48 9 28 (.int x) = some (mw A (upd fl 28 x) ar al) := (h_pF (m_c48 hA) (show 28 < 46 by omega)).trans (congrArg some ((wr_set0 (cs := mcs fl ar al) (show 48 + 21 ≤ A.length by omega) (show 0 < 21 by omega)).trans rfl))
theorem m_r48_29 (hA : 69 ≤ A.length) : gN (mw A fl ar al) 48 9 29 = some 61 := h_gN (m_c48 hA) rfl
theorem m_r48_30 (hA : 69 ≤ A.length) : gN (mw A fl ar al) 48 9 30 = some 62 := h_gN (m_c48 hA) rfl
theorem m_r48_31 (hA : 69 ≤ A.length) : gN (mw A fl ar al) 48 9 31 = some 63 := h_gN (m_c48 hA) rfl
theorem m_g48_32 (hA : 69 ≤ A.length) : gI (mw A fl ar al) 48 9 32 = some (fl 32) := h_gI (m_c48 hA) rfl
theorem m_p48_32 (hA : 69 ≤ A.length) : pF (mw A fl ar al) 48 9 32 (.int x) = some (mw A (upd fl 32 x) ar al) := (h_pF (m_c48 hA) (show 32 < 46 by omega)).trans (congrArg some ((wr_set0 (cs := mcs fl ar al) (show 48 + 21 ≤ A.length by omega) (show 0 < 21 by omega)).trans rfl))
theorem m_r48_33 (hA : 69 ≤ A.length) : gN (mw A fl ar al) 48 9 33 = some 64 := h_gN (m_c48 hA) rfl
theorem m_r48_34 (hA : 69 ≤ A.length) : gN (mw A fl ar al) 48 9 34 = some 65 := h_gN (m_c48 hA) rfl
theorem m_r48_35 (hA : 69 ≤ A.length) : gN (mw A fl ar al) 48 9 35 = some 66 := h_gN (m_c48 hA) rfl
theorem m_g48_36 (hA : 69 ≤ A.length) : gI (mw A fl ar al) 48 9 36 = some (fl 36) := h_gI (m_c48 hA) rfl
theorem m_p48_36 (hA : 69 ≤ A.length) : pF (mw A fl ar al) 48 9 36 (.int x) = some (mw A (upd fl 36 x) ar al) := (h_pF (m_c48 hA) (show 36 < 46 by omega)).trans (congrArg some ((wr_set0 (cs := mcs fl ar al) (show 48 + 21 ≤ A.length by omega) (show 0 < 21 by omega)).trans rfl))
theorem m_g48_37 (hA : 69 ≤ A.length) : gI (mw A fl ar al) 48 9 37 = some (fl 37) := h_gI (m_c48 hA) rfl
theorem m_p48_37 (hA : 69 ≤ A.length) : pF (mw A fl ar al) 48 9 37 (.int x) = some (mw A (upd fl 37 x) ar al) := (h_pF (m_c48 hA) (show 37 < 46 by omega)).trans (congrArg some ((wr_set0 (cs := mcs fl ar al) (show 48 + 21 ≤ A.length by omega) (show 0 < 21 by omega)).trans rfl))
theorem m_g48_38 (hA : 69 ≤ A.length) : gI (mw A fl ar al) 48 9 38 = some (fl 38) := h_gI (m_c48 hA) rfl
theorem m_p48_38 (hA : 69 ≤ A.length) : pF (mw A fl ar al) 48 9 38 (.int x) = some (mw A (upd fl 38 x) ar al) := (h_pF (m_c48 hA) (show 38 < 46 by omega)).trans (congrArg some ((wr_set0 (cs := mcs fl ar al) (show 48 + 21 ≤ A.length by omega) (show 0 < 21 by omega)).trans rfl))
theorem m_g48_39 (hA : 69 ≤ A.length) : gI (mw A fl ar al) 48 9 39 = some (fl 39) := h_gI (m_c48 hA) rfl
theorem m_p48_39 (hA : 69 ≤ A.length) : pF (mw A fl ar al) 48 9 39 (.int x) = some (mw A (upd fl 39 x) ar al) := (h_pF (m_c48 hA) (show 39 < 46 by omega)).trans (congrArg some ((wr_set0 (cs := mcs fl ar al) (show 48 + 21 ≤ A.length by omega) (show 0 < 21 by omega)).trans rfl))
theorem m_g48_40 (hA : 69 ≤ A.length) : gI (mw A fl ar al) 48 9 40 = some (fl 40) := h_gI (m_c48 hA) rfl
theorem m_p48_40 (hA : 69 ≤ A.length) : pF (mw A fl ar al) 48 9 40 (.int x) = some (mw A (upd fl 40 x) ar al) := (h_pF (m_c48 hA) (show 40 < 46 by omega)).trans (congrArg some ((wr_set0 (cs := mcs fl ar al) (show 48 + 21 ≤ A.length by omega) (show 0 < 21 by omega)).trans rfl))
theorem m_g48_41 (hA : 69 ≤ A.length) : gI (mw A fl ar al) 48 9 41 = some (fl 41) := h_gI (m_c48 hA) rfl
theorem m_p48_41 (hA : 69 ≤ A.length) : pF (mw A fl ar al) 48 9 41 (.int x) = some (mw A (upd fl 41 x) ar al) := (h_pF (m_c48 hA) (show 41 < 46 by omega)).trans (congrArg some ((wr_set0 (cs := mcs fl ar al) (show 48 + 21 ≤ A.length by omega) (show 0 < 21 by omega)).trans rfl))
theorem m_r48_42 (hA : 69 ≤ A.length) : gN (mw A fl ar al) 48 9 42 = some 67 := h_gN (m_c48 hA) rfl
theorem m_r48_43 (hA : 69 ≤ A.length) : gN (mw A fl ar al) 48 9 43 = some 68 := h_gN (m_c48 hA) rfl
theorem m_g48_44 (hA : 69 ≤ A.length) : gI (mw A fl ar al) 48 9 44 = some (fl 44) := h_gI (m_c48 hA) rfl
theorem m_p48_44 (hA : 69 ≤ A.length) : pF (mw A fl ar al) 48 9 44 (.int x) = some (mw A (upd fl 44 x) ar al) := (h_pF (m_c48 hA) (show 44 < 46 by omega)).trans (congrArg some ((wr_set0 (cs := mcs fl ar al) (show 48 + 21 ≤ A.length by omega) (show 0 < 21 by omega)).trans rfl))
theorem m_g48_45 (hA : 69 ≤ A.length) : gI (mw A fl ar al) 48 9 45 = some (fl 45) := h_gI (m_c48 hA) rfl
theorem m_p48_45 (hA : 69 ≤ A.length) : pF (mw A fl ar al) 48 9 45 (.int x) = some (mw A (upd fl 45 x) ar al) := (h_pF (m_c48 hA) (show 45 < 46 by omega)).trans (congrArg some ((wr_set0 (cs := mcs fl ar al) (show 48 + 21 ≤ A.length by omega) (show 0 < 21 by omega)).trans rfl))
theorem m_c49 (hA : 69 ≤ A.length) : (mw A fl ar al)[49]? = some (.inl (0, 7, .inl (ar 1))) := wr_in (j := 1) (show 48 + 21 ≤ A.length by omega) (show 1 < 21 by omega)
theorem m_a49 (hA : 69 ≤ A.length) (hi : i < 7) : aI 0 (mw A fl ar al) 49 (nI i) = some (ar 1 i) := h_aI (m_c49 hA) hi (by omega)
theorem m_s49 (hA : 69 ≤ A.length) (hi : i < 7) : sI 0 (mw A fl ar al) 49 (nI i) x = some (mw A fl (sar ar 1 (upd (ar 1) i x)) al) := (h_sI (m_c49 hA) hi (by omega)).trans (congrArg some ((wr_set (cs := mcs fl ar al) (j := 1) (show 48 + 21 ≤ A.length by omega) (show 1 < 21 by omega)).trans rfl))
theorem m_l49 (hA : 69 ≤ A.length) : lA (mw A fl ar al) 49 = some (nI 7) := h_lA (m_c49 hA)
theorem m_c50 (hA : 69 ≤ A.length) : (mw A fl ar al)[50]? = some (.inl (0, 6588, .inl (ar 2))) := wr_in (j := 2) (show 48 + 21 ≤ A.length by omega) (show 2 < 21 by omega)
theorem m_a50 (hA : 69 ≤ A.length) (hi : i < 6588) : aI 0 (mw A fl ar al) 50 (nI i) = some (ar 2 i) := h_aI (m_c50 hA) hi (by omega)
theorem m_s50 (hA : 69 ≤ A.length) (hi : i < 6588) : sI 0 (mw A fl ar al) 50 (nI i) x = some (mw A fl (sar ar 2 (upd (ar 2) i x)) al) := (h_sI (m_c50 hA) hi (by omega)).trans (congrArg some ((wr_set (cs := mcs fl ar al) (j := 2) (show 48 + 21 ≤ A.length by omega) (show 2 < 21 by omega)).trans rfl))
theorem m_l50 (hA : 69 ≤ A.length) : lA (mw A fl ar al) 50 = some (nI 6588) := h_lA (m_c50 hA)
theorem m_c51 (hA : 69 ≤ A.length) : (mw A fl ar al)[51]? = some (.inl (0, 13176, .inl (ar 3))) := wr_in (j := 3) (show 48 + 21 ≤ A.length by omega) (show 3 < 21 by omega)
theorem m_a51 (hA : 69 ≤ A.length) (hi : i < 13176) : aI 0 (mw A fl ar al) 51 (nI i) = some (ar 3 i) := h_aI (m_c51 hA) hi (by omega)
theorem m_s51 (hA : 69 ≤ A.length) (hi : i < 13176) : sI 0 (mw A fl ar al) 51 (nI i) x = some (mw A fl (sar ar 3 (upd (ar 3) i x)) al) := (h_sI (m_c51 hA) hi (by omega)).trans (congrArg some ((wr_set (cs := mcs fl ar al) (j := 3) (show 48 + 21 ≤ A.length by omega) (show 3 < 21 by omega)).trans rfl))
theorem m_l51 (hA : 69 ≤ A.length) : lA (mw A fl ar al) 51 = some (nI 13176) := h_lA (m_c51 hA)
theorem m_c52 (hA : 69 ≤ A.length) : (mw A fl ar al)[52]? = some (.inl (2, 2, .inl (ar 4))) := wr_in (j := 4) (show 48 + 21 ≤ A.length by omega) (show 4 < 21 by omega)
theorem m_a52 (hA : 69 ≤ A.length) (hi : i < 2) : aI 2 (mw A fl ar al) 52 (nI i) = some (ar 4 i) := h_aI (m_c52 hA) hi (by omega)
theorem m_s52 (hA : 69 ≤ A.length) (hi : i < 2) : sI 2 (mw A fl ar al) 52 (nI i) x = some (mw A fl (sar ar 4 (upd (ar 4) i (xnar 2 x))) al) := (h_sI (m_c52 hA) hi (by omega)).trans (congrArg some ((wr_set (cs := mcs fl ar al) (j := 4) (show 48 + 21 ≤ A.length by omega) (show 4 < 21 by omega)).trans rfl))
theorem m_l52 (hA : 69 ≤ A.length) : lA (mw A fl ar al) 52 = some (nI 2) := h_lA (m_c52 hA)
theorem m_c53 (hA : 69 ≤ A.length) : (mw A fl ar al)[53]? = some (.inl (0, 3852, .inl (ar 5))) := wr_in (j := 5) (show 48 + 21 ≤ A.length by omega) (show 5 < 21 by omega)
theorem m_a53 (hA : 69 ≤ A.length) (hi : i < 3852) : aI 0 (mw A fl ar al) 53 (nI i) = some (ar 5 i) := h_aI (m_c53 hA) hi (by omega)
theorem m_s53 (hA : 69 ≤ A.length) (hi : i < 3852) : sI 0 (mw A fl ar al) 53 (nI i) x = some (mw A fl (sar ar 5 (upd (ar 5) i x)) al) := (h_sI (m_c53 hA) hi (by omega)).trans (congrArg some ((wr_set (cs := mcs fl ar al) (j := 5) (show 48 + 21 ≤ A.length by omega) (show 5 < 21 by omega)).trans rfl))
theorem m_l53 (hA : 69 ≤ A.length) : lA (mw A fl ar al) 53 = some (nI 3852) := h_lA (m_c53 hA)
theorem m_c54 (hA : 69 ≤ A.length) : (mw A fl ar al)[54]? = some (.inl (1, 126, .inl (ar 7))) := wr_in (j := 6) (show 48 + 21 ≤ A.length by omega) (show 6 < 21 by omega)
theorem m_a54 (hA : 69 ≤ A.length) (hi : i < 126) : aI 1 (mw A fl ar al) 54 (nI i) = some (ar 7 i) := h_aI (m_c54 hA) hi (by omega)
theorem m_s54 (hA : 69 ≤ A.length) (hi : i < 126) : sI 1 (mw A fl ar al) 54 (nI i) x = some (mw A fl (sar ar 7 (upd (ar 7) i (xnar 1 x))) al) := (h_sI (m_c54 hA) hi (by omega)).trans (congrArg some ((wr_set (cs := mcs fl ar al) (j := 6) (show 48 + 21 ≤ A.length by omega) (show 6 < 21 by omega)).trans rfl))
theorem m_l54 (hA : 69 ≤ A.length) : lA (mw A fl ar al) 54 = some (nI 126) := h_lA (m_c54 hA)
theorem m_c55 (hA : 69 ≤ A.length) : (mw A fl ar al)[55]? = some (.inl (1, 400, .inl (ar 11))) := wr_in (j := 7) (show 48 + 21 ≤ A.length by omega) (show 7 < 21 by omega)
theorem m_a55 (hA : 69 ≤ A.length) (hi : i < 400) : aI 1 (mw A fl ar al) 55 (nI i) = some (ar 11 i) := h_aI (m_c55 hA) hi (by omega)
theorem m_s55 (hA : 69 ≤ A.length) (hi : i < 400) : sI 1 (mw A fl ar al) 55 (nI i) x = some (mw A fl (sar ar 11 (upd (ar 11) i (xnar 1 x))) al) := (h_sI (m_c55 hA) hi (by omega)).trans (congrArg some ((wr_set (cs := mcs fl ar al) (j := 7) (show 48 + 21 ≤ A.length by omega) (show 7 < 21 by omega)).trans rfl))
theorem m_l55 (hA : 69 ≤ A.length) : lA (mw A fl ar al) 55 = some (nI 400) := h_lA (m_c55 hA)
theorem m_c56 (hA : 69 ≤ A.length) : (mw A fl ar al)[56]? = some (.inl (0, 5, .inl (ar 12))) := wr_in (j := 8) (show 48 + 21 ≤ A.length by omega) (show 8 < 21 by omega)
theorem m_a56 (hA : 69 ≤ A.length) (hi : i < 5) : aI 0 (mw A fl ar al) 56 (nI i) = some (ar 12 i) := h_aI (m_c56 hA) hi (by omega)
theorem m_s56 (hA : 69 ≤ A.length) (hi : i < 5) : sI 0 (mw A fl ar al) 56 (nI i) x = some (mw A fl (sar ar 12 (upd (ar 12) i x)) al) := (h_sI (m_c56 hA) hi (by omega)).trans (congrArg some ((wr_set (cs := mcs fl ar al) (j := 8) (show 48 + 21 ≤ A.length by omega) (show 8 < 21 by omega)).trans rfl))
theorem m_l56 (hA : 69 ≤ A.length) : lA (mw A fl ar al) 56 = some (nI 5) := h_lA (m_c56 hA)
theorem m_c57 (hA : 69 ≤ A.length) : (mw A fl ar al)[57]? = some (.inl (0, 401, .inl (ar 15))) := wr_in (j := 9) (show 48 + 21 ≤ A.length by omega) (show 9 < 21 by omega)
theorem m_a57 (hA : 69 ≤ A.length) (hi : i < 401) : aI 0 (mw A fl ar al) 57 (nI i) = some (ar 15 i) := h_aI (m_c57 hA) hi (by omega)
theorem m_s57 (hA : 69 ≤ A.length) (hi : i < 401) : sI 0 (mw A fl ar al) 57 (nI i) x = some (mw A fl (sar ar 15 (upd (ar 15) i x)) al) := (h_sI (m_c57 hA) hi (by omega)).trans (congrArg some ((wr_set (cs := mcs fl ar al) (j := 9) (show 48 + 21 ≤ A.length by omega) (show 9 < 21 by omega)).trans rfl))
theorem m_l57 (hA : 69 ≤ A.length) : lA (mw A fl ar al) 57 = some (nI 401) := h_lA (m_c57 hA)
theorem m_c58 (hA : 69 ≤ A.length) : (mw A fl ar al)[58]? = some (.inl (0, 401, .inl (ar 16))) := wr_in (j := 10) (show 48 + 21 ≤ A.length by omega) (show 10 < 21 by omega)
theorem m_a58 (hA : 69 ≤ A.length) (hi : i < 401) : aI 0 (mw A fl ar al) 58 (nI i) = some (ar 16 i) := h_aI (m_c58 hA) hi (by omega)
theorem m_s58 (hA : 69 ≤ A.length) (hi : i < 401) : sI 0 (mw A fl ar al) 58 (nI i) x = some (mw A fl (sar ar 16 (upd (ar 16) i x)) al) := (h_sI (m_c58 hA) hi (by omega)).trans (congrArg some ((wr_set (cs := mcs fl ar al) (j := 10) (show 48 + 21 ≤ A.length by omega) (show 10 < 21 by omega)).trans rfl))
theorem m_l58 (hA : 69 ≤ A.length) : lA (mw A fl ar al) 58 = some (nI 401) := h_lA (m_c58 hA)
theorem m_c59 (hA : 69 ≤ A.length) : (mw A fl ar al)[59]? = some (.inl (0, 401, .inl (ar 17))) := wr_in (j := 11) (show 48 + 21 ≤ A.length by omega) (show 11 < 21 by omega)
theorem m_a59 (hA : 69 ≤ A.length) (hi : i < 401) : aI 0 (mw A fl ar al) 59 (nI i) = some (ar 17 i) := h_aI (m_c59 hA) hi (by omega)
theorem m_s59 (hA : 69 ≤ A.length) (hi : i < 401) : sI 0 (mw A fl ar al) 59 (nI i) x = some (mw A fl (sar ar 17 (upd (ar 17) i x)) al) := (h_sI (m_c59 hA) hi (by omega)).trans (congrArg some ((wr_set (cs := mcs fl ar al) (j := 11) (show 48 + 21 ≤ A.length by omega) (show 11 < 21 by omega)).trans rfl))
theorem m_l59 (hA : 69 ≤ A.length) : lA (mw A fl ar al) 59 = some (nI 401) := h_lA (m_c59 hA)
theorem m_c60 (hA : 69 ≤ A.length) : (mw A fl ar al)[60]? = some (.inl (0, 7, .inl (ar 26))) := wr_in (j := 12) (show 48 + 21 ≤ A.length by omega) (show 12 < 21 by omega)
theorem m_a60 (hA : 69 ≤ A.length) (hi : i < 7) : aI 0 (mw A fl ar al) 60 (nI i) = some (ar 26 i) := h_aI (m_c60 hA) hi (by omega)
theorem m_s60 (hA : 69 ≤ A.length) (hi : i < 7) : sI 0 (mw A fl ar al) 60 (nI i) x = some (mw A fl (sar ar 26 (upd (ar 26) i x)) al) := (h_sI (m_c60 hA) hi (by omega)).trans (congrArg some ((wr_set (cs := mcs fl ar al) (j := 12) (show 48 + 21 ≤ A.length by omega) (show 12 < 21 by omega)).trans rfl))
theorem m_l60 (hA : 69 ≤ A.length) : lA (mw A fl ar al) 60 = some (nI 7) := h_lA (m_c60 hA)
theorem m_c61 (hA : 69 ≤ A.length) : (mw A fl ar al)[61]? = some (.inl (0, 64, .inl (ar 29))) := wr_in (j := 13) (show 48 + 21 ≤ A.length by omega) (show 13 < 21 by omega)
theorem m_a61 (hA : 69 ≤ A.length) (hi : i < 64) : aI 0 (mw A fl ar al) 61 (nI i) = some (ar 29 i) := h_aI (m_c61 hA) hi (by omega)
theorem m_s61 (hA : 69 ≤ A.length) (hi : i < 64) : sI 0 (mw A fl ar al) 61 (nI i) x = some (mw A fl (sar ar 29 (upd (ar 29) i x)) al) := (h_sI (m_c61 hA) hi (by omega)).trans (congrArg some ((wr_set (cs := mcs fl ar al) (j := 13) (show 48 + 21 ≤ A.length by omega) (show 13 < 21 by omega)).trans rfl))
theorem m_l61 (hA : 69 ≤ A.length) : lA (mw A fl ar al) 61 = some (nI 64) := h_lA (m_c61 hA)
theorem m_c62 (hA : 69 ≤ A.length) : (mw A fl ar al)[62]? = some (.inl (0, 15424, .inl (ar 30))) := wr_in (j := 14) (show 48 + 21 ≤ A.length by omega) (show 14 < 21 by omega)
theorem m_a62 (hA : 69 ≤ A.length) (hi : i < 15424) : aI 0 (mw A fl ar al) 62 (nI i) = some (ar 30 i) := h_aI (m_c62 hA) hi (by omega)
theorem m_s62 (hA : 69 ≤ A.length) (hi : i < 15424) : sI 0 (mw A fl ar al) 62 (nI i) x = some (mw A fl (sar ar 30 (upd (ar 30) i x)) al) := (h_sI (m_c62 hA) hi (by omega)).trans (congrArg some ((wr_set (cs := mcs fl ar al) (j := 14) (show 48 + 21 ≤ A.length by omega) (show 14 < 21 by omega)).trans rfl))
theorem m_l62 (hA : 69 ≤ A.length) : lA (mw A fl ar al) 62 = some (nI 15424) := h_lA (m_c62 hA)
theorem m_c63 (hA : 69 ≤ A.length) : (mw A fl ar al)[63]? = some (.inl (0, 15424, .inl (ar 31))) := wr_in (j := 15) (show 48 + 21 ≤ A.length by omega) (show 15 < 21 by omega)
theorem m_a63 (hA : 69 ≤ A.length) (hi : i < 15424) : aI 0 (mw A fl ar al) 63 (nI i) = some (ar 31 i) := h_aI (m_c63 hA) hi (by omega)
theorem m_s63 (hA : 69 ≤ A.length) (hi : i < 15424) : sI 0 (mw A fl ar al) 63 (nI i) x = some (mw A fl (sar ar 31 (upd (ar 31) i x)) al) := (h_sI (m_c63 hA) hi (by omega)).trans (congrArg some ((wr_set (cs := mcs fl ar al) (j := 15) (show 48 + 21 ≤ A.length by omega) (show 15 < 21 by omega)).trans rfl))
theorem m_l63 (hA : 69 ≤ A.length) : lA (mw A fl ar al) 63 = some (nI 15424) := h_lA (m_c63 hA)
theorem m_c64 (hA : 69 ≤ A.length) : (mw A fl ar al)[64]? = some (.inl (0, 1000, .inl (ar 33))) := wr_in (j := 16) (show 48 + 21 ≤ A.length by omega) (show 16 < 21 by omega)
theorem m_a64 (hA : 69 ≤ A.length) (hi : i < 1000) : aI 0 (mw A fl ar al) 64 (nI i) = some (ar 33 i) := h_aI (m_c64 hA) hi (by omega)
theorem m_s64 (hA : 69 ≤ A.length) (hi : i < 1000) : sI 0 (mw A fl ar al) 64 (nI i) x = some (mw A fl (sar ar 33 (upd (ar 33) i x)) al) := (h_sI (m_c64 hA) hi (by omega)).trans (congrArg some ((wr_set (cs := mcs fl ar al) (j := 16) (show 48 + 21 ≤ A.length by omega) (show 16 < 21 by omega)).trans rfl))
theorem m_l64 (hA : 69 ≤ A.length) : lA (mw A fl ar al) 64 = some (nI 1000) := h_lA (m_c64 hA)
theorem m_c65 (hA : 69 ≤ A.length) : (mw A fl ar al)[65]? = some (.inl (0, 64, .inl (ar 34))) := wr_in (j := 17) (show 48 + 21 ≤ A.length by omega) (show 17 < 21 by omega)
theorem m_a65 (hA : 69 ≤ A.length) (hi : i < 64) : aI 0 (mw A fl ar al) 65 (nI i) = some (ar 34 i) := h_aI (m_c65 hA) hi (by omega)
theorem m_s65 (hA : 69 ≤ A.length) (hi : i < 64) : sI 0 (mw A fl ar al) 65 (nI i) x = some (mw A fl (sar ar 34 (upd (ar 34) i x)) al) := (h_sI (m_c65 hA) hi (by omega)).trans (congrArg some ((wr_set (cs := mcs fl ar al) (j := 17) (show 48 + 21 ≤ A.length by omega) (show 17 < 21 by omega)).trans rfl))
theorem m_l65 (hA : 69 ≤ A.length) : lA (mw A fl ar al) 65 = some (nI 64) := h_lA (m_c65 hA)
theorem m_c66 (hA : 69 ≤ A.length) : (mw A fl ar al)[66]? = some (.inl (3, 21, .inr (.inl (al 35)))) := wr_in (j := 18) (show 48 + 21 ≤ A.length by omega) (show 18 < 21 by omega)
theorem m_a66 (hA : 69 ≤ A.length) (hi : i < 21) : aL (mw A fl ar al) 66 (nI i) = some (al 35 i) := h_aL (m_c66 hA) hi (by omega)
theorem m_s66 (hA : 69 ≤ A.length) (hi : i < 21) : sL (mw A fl ar al) 66 (nI i) y = some (mw A fl ar (sal al 35 (vp_updL (al 35) i y))) := (h_sL (m_c66 hA) hi (by omega)).trans (congrArg some ((wr_set (cs := mcs fl ar al) (j := 18) (show 48 + 21 ≤ A.length by omega) (show 18 < 21 by omega)).trans rfl))
theorem m_c67 (hA : 69 ≤ A.length) : (mw A fl ar al)[67]? = some (.inl (3, 2, .inr (.inl (al 42)))) := wr_in (j := 19) (show 48 + 21 ≤ A.length by omega) (show 19 < 21 by omega)
theorem m_a67 (hA : 69 ≤ A.length) (hi : i < 2) : aL (mw A fl ar al) 67 (nI i) = some (al 42 i) := h_aL (m_c67 hA) hi (by omega)
theorem m_s67 (hA : 69 ≤ A.length) (hi : i < 2) : sL (mw A fl ar al) 67 (nI i) y = some (mw A fl ar (sal al 42 (vp_updL (al 42) i y))) := (h_sL (m_c67 hA) hi (by omega)).trans (congrArg some ((wr_set (cs := mcs fl ar al) (j := 19) (show 48 + 21 ≤ A.length by omega) (show 19 < 21 by omega)).trans rfl))
theorem m_c68 (hA : 69 ≤ A.length) : (mw A fl ar al)[68]? = some (.inl (0, 40, .inl (ar 43))) := wr_in (j := 20) (show 48 + 21 ≤ A.length by omega) (show 20 < 21 by omega)
theorem m_a68 (hA : 69 ≤ A.length) (hi : i < 40) : aI 0 (mw A fl ar al) 68 (nI i) = some (ar 43 i) := h_aI (m_c68 hA) hi (by omega)
theorem m_s68 (hA : 69 ≤ A.length) (hi : i < 40) : sI 0 (mw A fl ar al) 68 (nI i) x = some (mw A fl (sar ar 43 (upd (ar 43) i x)) al) := (h_sI (m_c68 hA) hi (by omega)).trans (congrArg some ((wr_set (cs := mcs fl ar al) (j := 20) (show 48 + 21 ≤ A.length by omega) (show 20 < 21 by omega)).trans rfl))
theorem m_l68 (hA : 69 ≤ A.length) : lA (mw A fl ar al) 68 = some (nI 40) := h_lA (m_c68 hA)
end BLKM
