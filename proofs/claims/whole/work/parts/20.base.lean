/-! ===== STAGE B, base: heaps with stretches of cells written in, ints that are natural numbers ===== -/
theorem zl (n : Nat) : (OfNat.ofNat n : Int32) = nI (OfNat.ofNat n) := Eq.trans (Eq.symm (Eq.refl _)) (id (Eq.refl _))
abbrev ia (n : Nat) (f : Nat → Int32) : xA := .inl (0, n, .inl f)
/-- a stretch of cells written into a heap -/
def wr (A : xH) (a : Nat) (cs : xH) : xH := A.take a ++ (cs ++ A.drop (a + cs.length))
section WR
variable {A cs ds : xH} {a b j : Nat} {w : xA}
theorem wr_len (h : a + cs.length ≤ A.length) : (wr A a cs).length = A.length := by
  simp only [wr, List.length_append, List.length_take, List.length_drop]; omega
theorem wr_in (h : a + cs.length ≤ A.length) (hj : j < cs.length) : (wr A a cs)[a + j]? = cs[j]? := by
  have h1 : (A.take a).length = a := by rw [List.length_take]; omega
  rw [wr, List.getElem?_append_right (by omega), h1, show a + j - a = j by omega, List.getElem?_append_left hj]
theorem wr_in0 (h : a + cs.length ≤ A.length) (hj : 0 < cs.length) : (wr A a cs)[a]? = cs[0]? := wr_in (j := 0) h hj
theorem wr_out (h : a + cs.length ≤ A.length) (hb : b < a ∨ a + cs.length ≤ b) : (wr A a cs)[b]? = A[b]? := by
  have h1 : (A.take a).length = a := by rw [List.length_take]; omega
  rcases hb with hb | hb
  · rw [wr, List.getElem?_append_left (by omega), List.getElem?_take_of_lt hb]
  · rw [wr, List.getElem?_append_right (by omega), h1, List.getElem?_append_right (by omega), List.getElem?_drop]
    congr 1; omega
theorem xh_ext {A B : xH} (h : ∀ b : Nat, A[b]? = B[b]?) : A = B := List.ext_getElem? h
theorem wr_at (h : a + cs.length ≤ A.length) (b : Nat) : (wr A a cs)[b]? = if a ≤ b ∧ b < a + cs.length then cs[b - a]? else A[b]? := by
  by_cases hb : a ≤ b ∧ b < a + cs.length
  · rw [if_pos hb, show b = a + (b - a) by omega, wr_in h (by omega)]; congr 1; omega
  · rw [if_neg hb, wr_out h (by omega)]
theorem wr_set (h : a + cs.length ≤ A.length) (hj : j < cs.length) : (wr A a cs).set (a + j) w = wr A a (cs.set j w) := by
  apply xh_ext
  intro q
  rw [List.getElem?_set, wr_at h, wr_at (by rw [List.length_set]; exact h), wr_len h, List.length_set, List.getElem?_set]
  by_cases e : a + j = q
  · subst e
    rw [if_pos rfl, if_pos (by omega), if_pos (by omega), if_pos (by omega), if_pos (by omega)]
  · rw [if_neg e]
    by_cases hb : a ≤ q ∧ q < a + cs.length
    · rw [if_pos hb, if_pos hb, if_neg (by omega)]
    · rw [if_neg hb, if_neg hb]
theorem wr_set0 (h : a + cs.length ≤ A.length) (hj : 0 < cs.length) : (wr A a cs).set a w = wr A a (cs.set 0 w) := wr_set (j := 0) h hj
theorem wr_sout (h : a + cs.length ≤ A.length) (hb : b < a ∨ a + cs.length ≤ b) : (wr A a cs).set b w = wr (A.set b w) a cs := by
  apply xh_ext
  intro q
  rw [List.getElem?_set, wr_at h, wr_at (by rw [List.length_set]; exact h), wr_len h, List.getElem?_set]
  by_cases e : b = q
  · subst e
    rw [if_pos rfl, if_neg (by omega : ¬ (a ≤ b ∧ b < a + cs.length)), if_pos rfl]
  · rw [if_neg e, if_neg e]
theorem wr_wr (h : a + cs.length ≤ A.length) (he : ds.length = cs.length) : wr (wr A a cs) a ds = wr A a ds := by
  apply xh_ext
  intro q
  rw [wr_at (by rw [wr_len h]; omega), wr_at h, wr_at (by omega)]
  by_cases hb : a ≤ q ∧ q < a + ds.length
  · rw [if_pos hb, if_pos hb]
  · rw [if_neg hb, if_neg hb, if_neg (by omega)]
theorem wr_comm (h : a + cs.length ≤ A.length) (h2 : b + ds.length ≤ A.length) (hd : a + cs.length ≤ b ∨ b + ds.length ≤ a) : wr (wr A a cs) b ds = wr (wr A b ds) a cs := by
  apply xh_ext
  intro q
  rw [wr_at (by rw [wr_len h]; omega), wr_at h, wr_at (by rw [wr_len h2]; omega), wr_at h2]
  by_cases hb : a ≤ q ∧ q < a + cs.length
  · rw [if_pos hb, if_neg (by omega), if_pos hb]
  · rw [if_neg hb, if_neg hb]
theorem wr_self (h : a + cs.length ≤ A.length) (he : ∀ j, j < cs.length → A[a + j]? = cs[j]?) : wr A a cs = A := by
  apply xh_ext
  intro q
  rw [wr_at h]
  by_cases hb : a ≤ q ∧ q < a + cs.length
  · rw [if_pos hb, ← he _ (by omega)]; congr 1; omega
  · rw [if_neg hb]
end WR
/-! reads and writes of a cell that is known -/
section RW
variable {A : xH} {a b ci k n i sp dp c : Nat} {fs : List Value} {v : Value} {x : Int32} {f g : Nat → Int32} {y : Int64} {fl : Nat → Int64}
theorem h_gI (h : A[a]? = some (.inr (ci, fs))) (hk : fs[k]? = some (.int x)) : gI A a ci k = some x := by
  simp only [gI, gV, h, hk, if_true]
theorem h_gN (h : A[a]? = some (.inr (ci, fs))) (hk : fs[k]? = some (.ref b)) : gN A a ci k = some b := by
  simp only [gN, gV, h, hk, if_true]
theorem h_gOs (h : A[a]? = some (.inr (ci, fs))) (hk : fs[k]? = some (.ref b)) : gO A a ci k = some (some b) := by
  simp only [gO, gV, h, hk, if_true]
theorem h_gOn (h : A[a]? = some (.inr (ci, fs))) (hk : fs[k]? = some .null) : gO A a ci k = some none := by
  simp only [gO, gV, h, hk, if_true]
theorem h_pF (h : A[a]? = some (.inr (ci, fs))) (hk : k < fs.length) : pF A a ci k v = some (A.set a (.inr (ci, fs.set k v))) := by
  simp only [pF, h, hk, and_self, if_true]
theorem h_cls (h : A[a]? = some (.inr (ci, fs))) : xcls A a = some ci := by
  simp only [xcls, h]
theorem h_lA {t : Nat} {u} (h : A[a]? = some (.inl (t, n, u))) : lA A a = some (nI n) := by
  simp only [lA, h]; rfl
theorem h_ix (hi : i < n) (hn : n < 2 ^ 31) : ¬ (nI i < 0 ∨ n ≤ i) := fun q => q.elim (nI_pos (Nat.lt_trans hi hn)) (by omega)
theorem h_aI {t : Nat} (h : A[a]? = some (.inl (t, n, .inl f))) (hi : i < n) (hn : n < 2 ^ 31) : aI t A a (nI i) = some (f i) := by
  simp only [aI, h, if_true, h_ix hi hn, if_false, nI_clamp (Nat.lt_trans hi hn)]
theorem h_sI {t : Nat} (h : A[a]? = some (.inl (t, n, .inl f))) (hi : i < n) (hn : n < 2 ^ 31) : sI t A a (nI i) x = some (A.set a (.inl (t, n, .inl (upd f i (xnar t x))))) := by
  simp only [sI, h, if_true, h_ix hi hn, if_false, nI_clamp (Nat.lt_trans hi hn)]
theorem h_sI0 (h : A[a]? = some (ia n f)) (hi : i < n) (hn : n < 2 ^ 31) : sI 0 A a (nI i) x = some (A.set a (ia n (upd f i x))) := h_sI h hi hn
theorem h_aL (h : A[a]? = some (.inl (3, n, .inr (.inl fl)))) (hi : i < n) (hn : n < 2 ^ 31) : aL A a (nI i) = some (fl i) := by
  simp only [aL, h, if_true, h_ix hi hn, if_false, nI_clamp (Nat.lt_trans hi hn)]
theorem h_sL (h : A[a]? = some (.inl (3, n, .inr (.inl fl)))) (hi : i < n) (hn : n < 2 ^ 31) : sL A a (nI i) y = some (A.set a (.inl (3, n, .inr (.inl (vp_updL fl i y))))) := by
  simp only [sL, h, if_true, h_ix hi hn, if_false, nI_clamp (Nat.lt_trans hi hn)]
theorem h_copy {n1 : Nat} (h : A[a]? = some (ia n f)) (h2 : A[b]? = some (ia n1 g)) (hs : sp + c ≤ n) (hd : dp + c ≤ n1) (hn : n < 2 ^ 31) (hn1 : n1 < 2 ^ 31) : xcopy A a (nI sp) b (nI dp) (nI c) = some (A.set b (ia n1 (va_cpy f g sp dp c))) := by
  have h3 : sp < 2 ^ 31 := by omega
  have h4 : dp < 2 ^ 31 := by omega
  have h5 : c < 2 ^ 31 := by omega
  simp only [xcopy, h, h2, nI_clamp h3, nI_clamp h4, nI_clamp h5, nI_pos h3, nI_pos h4, nI_pos h5, hs, hd, not_false_eq_true, and_self, if_true]
end RW
theorem n_div {a d : Nat} (ha : a < 2 ^ 31) (h0 : 0 < d) (hd : d < 2 ^ 31) : nI a / nI d = nI (a / d) := pk_div ha h0 hd
theorem n_rem {a d : Nat} (ha : a < 2 ^ 31) (h0 : 0 < d) (hd : d < 2 ^ 31) : xrem (nI a) (nI d) = nI (a % d) := pk_rem ha h0 hd
theorem n_max {a b : Nat} (ha : a < 2 ^ 31) (hb : b < 2 ^ 31) : xmax (nI a) (nI b) = nI (max a b) := by
  unfold xmax
  rw [Nat.max_def]
  by_cases h : a ≤ b
  · rw [if_pos h]
    by_cases h2 : a < b
    · rw [if_pos ((nI_ltI ha hb).mpr h2)]
    · rw [if_neg (fun q => h2 ((nI_ltI ha hb).mp q)), show a = b by omega]
  · rw [if_neg h, if_neg (fun q => h (by have := (nI_ltI ha hb).mp q; omega))]
theorem n_min {a b : Nat} (ha : a < 2 ^ 31) (hb : b < 2 ^ 31) : xmin (nI a) (nI b) = nI (min a b) := by
  unfold xmin
  rw [Nat.min_def]
  by_cases h : a ≤ b
  · rw [if_pos h, if_neg (fun q => by have := (nI_ltI hb ha).mp q; omega)]
  · rw [if_neg h, if_pos ((nI_ltI hb ha).mpr (by omega))]
theorem n_m1ne {a : Nat} (ha : a < 2 ^ 31) : ¬ nI a = (-1 : Int32) := fun h => by
  have h1 := congrArg Int32.toInt h
  rw [nI_toInt ha] at h1
  have h2 : (-1 : Int32).toInt = -1 := by decide +kernel
  rw [h2] at h1; omega
