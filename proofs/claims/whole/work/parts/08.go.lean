/-! ===== what an effect of the abstract machine says of the stack it began with ===== -/
section XI
variable {T : xT} {E : Nat × (Nat → Int32)} {own rt ini : Nat} {pc : Nat} {ls st : List Value} {A : xH} {n : xN}
theorem i_bin {f : Int32 → Int32 → Int32} (h : xbin xgo0 pc ls st A f = some n) : ∃ x y s, st = .int y :: .int x :: s ∧ n = .inl (pc + 1, ls, .int (f x y) :: s, A) := by
  unfold xbin at h
  split at h
  · exact ⟨_, _, _, rfl, (Option.some.inj h).symm⟩
  · cases h
theorem i_lbin {f : Int64 → Int64 → Int64} (h : xlbin xgo0 pc ls st A f = some n) : ∃ x y s, st = .long y :: .long x :: s ∧ n = .inl (pc + 1, ls, .long (f x y) :: s, A) := by
  unfold xlbin at h
  split at h
  · exact ⟨_, _, _, rfl, (Option.some.inj h).symm⟩
  · cases h
theorem i_binz {f : Int32 → Int32 → Int32} (h : xbinz xgo0 pc ls st A f = some n) : ∃ x y s, st = .int y :: .int x :: s ∧ ¬ y = 0 ∧ n = .inl (pc + 1, ls, .int (f x y) :: s, A) := by
  unfold xbinz at h
  split at h
  · split at h
    · cases h
    · rename_i hz
      exact ⟨_, _, _, rfl, hz, (Option.some.inj h).symm⟩
  · cases h
theorem i_lbinz {f : Int64 → Int64 → Int64} (h : xlbinz xgo0 pc ls st A f = some n) : ∃ x y s, st = .long y :: .long x :: s ∧ ¬ y = 0 ∧ n = .inl (pc + 1, ls, .long (f x y) :: s, A) := by
  unfold xlbinz at h
  split at h
  · split at h
    · cases h
    · rename_i hz
      exact ⟨_, _, _, rfl, hz, (Option.some.inj h).symm⟩
  · cases h
theorem i_ldI {v : Value} {k : Value → Option xN} (h : xldI v k = some n) : ∃ x, v = .int x ∧ k (.int x) = some n := by
  unfold xldI at h
  split at h
  · exact ⟨_, rfl, h⟩
  · cases h
theorem i_ldL {v : Value} {k : Value → Option xN} (h : xldL v k = some n) : ∃ x, v = .long x ∧ k (.long x) = some n := by
  unfold xldL at h
  split at h
  · exact ⟨_, rfl, h⟩
  · cases h
theorem i_ldA {v : Value} {k : Value → Option xN} (h : xldA v k = some n) : ((∃ x, v = .ref x) ∨ v = .null ∨ ∃ x, v = .float x) ∧ k v = some n := by
  unfold xldA at h
  split at h
  · exact ⟨Or.inl ⟨_, rfl⟩, h⟩
  · exact ⟨Or.inr (Or.inl rfl), h⟩
  · exact ⟨Or.inr (Or.inr ⟨_, rfl⟩), h⟩
  · cases h
theorem i_st1 {i : Nat} {v : Value} {k : List Value → Option xN} (h : xst1 ls i v k = some n) : i < ls.length ∧ (∀ j, i = j + 1 → (xg ls j).category ≠ 2) ∧ k (xs ls i v) = some n := by
  unfold xst1 at h
  split at h
  · rename_i hi
    refine ⟨hi, ?_⟩
    split at h
    · exact ⟨fun j e => by omega, h⟩
    · rename_i j
      split at h
      · cases h
      · rename_i hc
        exact ⟨fun j' e => by have : j' = j := by omega
                              subst this; exact hc, h⟩
  · cases h
theorem i_st2 {i : Nat} {v : Value} {k : List Value → Option xN} (h : xst2 ls i v k = some n) : i + 1 < ls.length ∧ (∀ j, i = j + 1 → (xg ls j).category ≠ 2) ∧ k (xs (xs ls i v) (i + 1) xJ) = some n := by
  unfold xst2 at h
  split at h
  · rename_i hi
    refine ⟨hi, ?_⟩
    split at h
    · exact ⟨fun j e => by omega, h⟩
    · rename_i j
      split at h
      · cases h
      · rename_i hc
        exact ⟨fun j' e => by have : j' = j := by omega
                              subst this; exact hc, h⟩
  · cases h
theorem i_bind {α : Type} {o : Option α} {k : α → Option xN} (h : o.bind k = some n) : ∃ x, o = some x ∧ k x = some n := Option.bind_eq_some_iff.mp h
end XI
/-! heap reads and writes, taken apart -/
theorem j_gI {A : xH} {a ci k : Nat} {x : Int32} (h : gI A a ci k = some x) : ∃ fs, A[a]? = some (.inr (ci, fs)) ∧ fs[k]? = some (.int x) := by
  unfold gI gV at h
  cases hA : A[a]? with
  | none => simp [hA] at h
  | some c =>
    obtain c | ⟨c, fs⟩ := c
    · simp [hA] at h
    · simp only [hA] at h
      by_cases e : c = ci
      · subst e
        simp only [if_true] at h
        split at h
        · rename_i y hy
          cases h
          exact ⟨fs, rfl, hy⟩
        · cases h
      · simp [e] at h
theorem j_gN {A : xH} {a ci k b : Nat} (h : gN A a ci k = some b) : ∃ fs, A[a]? = some (.inr (ci, fs)) ∧ fs[k]? = some (.ref b) := by
  unfold gN gV at h
  cases hA : A[a]? with
  | none => simp [hA] at h
  | some c =>
    obtain c | ⟨c, fs⟩ := c
    · simp [hA] at h
    · simp only [hA] at h
      by_cases e : c = ci
      · subst e
        simp only [if_true] at h
        split at h
        · rename_i y hy
          cases h
          exact ⟨fs, rfl, hy⟩
        · cases h
      · simp [e] at h
theorem j_gO {A : xH} {a ci k : Nat} {o : Option Nat} (h : gO A a ci k = some o) : ∃ fs, A[a]? = some (.inr (ci, fs)) ∧ fs[k]? = some (va_rf o) := by
  unfold gO gV at h
  cases hA : A[a]? with
  | none => simp [hA] at h
  | some c =>
    obtain c | ⟨c, fs⟩ := c
    · simp [hA] at h
    · simp only [hA] at h
      by_cases e : c = ci
      · subst e
        simp only [if_true] at h
        split at h
        · rename_i y hy
          cases h
          exact ⟨fs, rfl, hy⟩
        · rename_i hy
          cases h
          exact ⟨fs, rfl, hy⟩
        · cases h
      · simp [e] at h
theorem j_pF {A B : xH} {a ci k : Nat} {v : Value} (h : pF A a ci k v = some B) : ∃ fs, A[a]? = some (.inr (ci, fs)) ∧ k < fs.length ∧ B = A.set a (.inr (ci, fs.set k v)) := by
  unfold pF at h
  cases hA : A[a]? with
  | none => simp [hA] at h
  | some c =>
    obtain c | ⟨c, fs⟩ := c
    · simp [hA] at h
    · simp only [hA] at h
      split at h
      · rename_i e
        obtain ⟨e1, e2⟩ := e
        subst e1
        cases h
        exact ⟨fs, rfl, e2, rfl⟩
      · cases h
theorem j_lA {A : xH} {a : Nat} {x : Int32} (h : lA A a = some x) : ∃ t n f, A[a]? = some (.inl (t, n, f)) ∧ x = Int32.ofNat n := by
  unfold lA at h
  split at h
  · rename_i t n f hA
    cases h
    exact ⟨t, n, f, hA, rfl⟩
  · cases h
theorem j_tag {A : xH} {a t : Nat} (h : xtag A a = some t) : ∃ n f, A[a]? = some (.inl (t, n, f)) := by
  unfold xtag at h
  split at h
  · rename_i t n f hA
    cases h
    exact ⟨n, f, hA⟩
  · cases h
theorem j_cls {A : xH} {a c : Nat} (h : xcls A a = some c) : ∃ fs, A[a]? = some (.inr (c, fs)) := by
  unfold xcls at h
  split at h
  · rename_i c fs hA
    cases h
    exact ⟨fs, hA⟩
  · cases h
theorem j_aI {t : Nat} {A : xH} {a : Nat} {i x : Int32} (h : aI t A a i = some x) : ∃ n f, A[a]? = some (.inl (t, n, .inl f)) ∧ vp_in i n ∧ x = f i.toNatClampNeg := by
  unfold aI at h
  split at h
  · rename_i t' n f hA
    split at h
    · rename_i e
      subst e
      split at h
      · cases h
      · rename_i hi
        cases h
        exact ⟨n, f, hA, hi, rfl⟩
    · cases h
  · cases h
theorem j_sI {t : Nat} {A B : xH} {a : Nat} {i x : Int32} (h : sI t A a i x = some B) : ∃ n f, A[a]? = some (.inl (t, n, .inl f)) ∧ vp_in i n ∧ B = A.set a (.inl (t, n, .inl (upd f i.toNatClampNeg (xnar t x)))) := by
  unfold sI at h
  split at h
  · rename_i t' n f hA
    split at h
    · rename_i e
      subst e
      split at h
      · cases h
      · rename_i hi
        cases h
        exact ⟨n, f, hA, hi, rfl⟩
    · cases h
  · cases h
theorem j_aL {A : xH} {a : Nat} {i : Int32} {x : Int64} (h : aL A a i = some x) : ∃ n f, A[a]? = some (.inl (3, n, .inr (.inl f))) ∧ vp_in i n ∧ x = f i.toNatClampNeg := by
  unfold aL at h
  split at h
  · rename_i t' n f hA
    split at h
    · rename_i e
      subst e
      split at h
      · cases h
      · rename_i hi
        cases h
        exact ⟨n, f, hA, hi, rfl⟩
    · cases h
  · cases h
theorem j_sL {A B : xH} {a : Nat} {i : Int32} {x : Int64} (h : sL A a i x = some B) : ∃ n f, A[a]? = some (.inl (3, n, .inr (.inl f))) ∧ vp_in i n ∧ B = A.set a (.inl (3, n, .inr (.inl (vp_updL f i.toNatClampNeg x)))) := by
  unfold sL at h
  split at h
  · rename_i t' n f hA
    split at h
    · rename_i e
      subst e
      split at h
      · cases h
      · rename_i hi
        cases h
        exact ⟨n, f, hA, hi, rfl⟩
    · cases h
  · cases h
theorem j_aR {t : Nat} {A : xH} {a : Nat} {i : Int32} {o : Option Nat} (h : aR t A a i = some o) : ∃ n f, A[a]? = some (.inl (t, n, .inr (.inr f))) ∧ vp_in i n ∧ o = f i.toNatClampNeg := by
  unfold aR at h
  split at h
  · rename_i t' n f hA
    split at h
    · rename_i e
      subst e
      split at h
      · cases h
      · rename_i hi
        cases h
        exact ⟨n, f, hA, hi, rfl⟩
    · cases h
  · cases h
theorem j_sR {t : Nat} {A B : xH} {a : Nat} {i : Int32} {o : Option Nat} (h : sR t A a i o = some B) : ∃ n f, A[a]? = some (.inl (t, n, .inr (.inr f))) ∧ xelok A t o = true ∧ vp_in i n ∧ B = A.set a (.inl (t, n, .inr (.inr (va_up f i.toNatClampNeg o)))) := by
  unfold sR at h
  split at h
  · rename_i t' n f hA
    split at h
    · rename_i e
      obtain ⟨e, e2⟩ := e
      subst e
      split at h
      · cases h
      · rename_i hi
        cases h
        exact ⟨n, f, hA, e2, hi, rfl⟩
    · cases h
  · cases h
theorem j_copy {A B : xH} {a b : Nat} {sp dp n : Int32} (h : xcopy A a sp b dp n = some B) : ∃ n0 f n1 g, A[a]? = some (.inl (0, n0, .inl f)) ∧ A[b]? = some (.inl (0, n1, .inl g)) ∧ ¬ sp < 0 ∧ ¬ dp < 0 ∧ ¬ n < 0 ∧ sp.toNatClampNeg + n.toNatClampNeg ≤ n0 ∧ dp.toNatClampNeg + n.toNatClampNeg ≤ n1 ∧ B = A.set b (.inl (0, n1, .inl (va_cpy f g sp.toNatClampNeg dp.toNatClampNeg n.toNatClampNeg))) := by
  unfold xcopy at h
  split at h
  · rename_i t n0 f t' n1 g hA hB
    split at h
    · rename_i e
      obtain ⟨e1, e2, e3, e4, e5, e6, e7⟩ := e
      subst e1; subst e2
      cases h
      exact ⟨n0, f, n1, g, hA, hB, e3, e4, e5, e6, e7, rfl⟩
    · cases h
  · cases h
theorem j_clone {A B : xH} {a : Nat} (h : xclone A a = some B) : ∃ n f, A[a]? = some (.inl (0, n, .inl f)) ∧ B = A ++ [.inl (0, n, .inl f)] := by
  unfold xclone at h
  split at h
  · rename_i t n f hA
    split at h
    · rename_i e
      subst e
      cases h
      exact ⟨n, f, hA, rfl⟩
    · cases h
  · cases h
/-! what a set or a push leaves as it was -/
theorem xtok_set {A : xH} {k : Nat} {c : xA} (h : xtok A) (hc : ∀ t n f, c = .inl (t, n, f) → t < 7) : xtok (A.set k c) := by
  intro j t n f hj
  rw [List.getElem?_set] at hj
  split at hj
  · split at hj
    · exact hc t n f (Option.some.inj hj)
    · cases hj
  · exact h j t n f hj
theorem xtok_app {A : xH} {c : xA} (h : xtok A) (hc : ∀ t n f, c = .inl (t, n, f) → t < 7) : xtok (A ++ [c]) := by
  intro j t n f hj
  rw [List.getElem?_append] at hj
  split at hj
  · exact h j t n f hj
  · have : [c][j - A.length]? = some (.inl (t, n, f)) := hj
    cases hz : j - A.length with
    | zero => rw [hz] at this; exact hc t n f (Option.some.inj this)
    | succ z => rw [hz] at this; simp at this
section XM
variable {base : Nat} {old : Nat → Nat} {dA : Nat → ClassId} {D : va_G} {E : Nat × (Nat → Int32)}
/-- a cell was set -/
theorem xRel.set {A : xH} {H H1 : Heap} {k : Nat} {c : xA} (h : xRel base old dA D A H) (hc : ∀ t n f, c = .inl (t, n, f) → t < 7) (hz : H1.size = H.size) (hP : va_P D xclasses ((xw base old dA A).set k (base + k, xce base old dA c)) H1) : xRel base old dA D (A.set k c) H1 := by
  refine ⟨?_, by rw [xw_set]; exact hP, xtok_set h.2.2 hc⟩
  rw [List.length_set, hz]
  exact h.1
theorem xEnv_same {U U' : State} (hv : U'.vm = U.vm) (hh : U'.heap = U.heap) (h : xEnv base old dA D E U) : xEnv base old dA D E U' := by
  obtain ⟨h1, h2, ⟨h3, h4, h5⟩, h6, h7, h8, h9, h10, h11, h12, h13⟩ := h
  have al : U.vm.Alike U'.vm := by rw [hv]; exact Vm.Alike.refl U.vm
  have nw : ∀ w ∈ xnest, w.onTables = true := by
    intro w hw
    revert w
    unfold xnest
    decide
  refine ⟨va_K.moved al h1, fun w hw => (h2 w hw).same (nw w hw) hv.symm, ⟨?_, ?_, ?_⟩, h6.same rfl hv.symm, by rw [hh]; exact va_X.moved al h7, h8, by rw [hh]; exact h9, by rw [hh]; exact vk_S.moved al h10, fun e he => ?_, by rw [hh]; exact va_Z.moved al h12, by rw [hh]; exact va_Zq.moved al h13⟩
  · exact va_AO.moved al h3
  · exact va_AO.moved al h4
  · exact va_AO.moved al h5
  · obtain ⟨tx, ht⟩ := h11 e he
    exact ⟨tx, ht.same hv⟩
/-- at a callee's entry -/
theorem xEnv_warm {s U : State} {H : Heap} {locs : List Loc} (hU : U.heap = H) (hW : s.WarmedH U.vm) (hS : va_S (fun q => base ≤ q) s.heap H locs) (h : xEnv base old dA D E s) : xEnv base old dA D E U := by
  obtain ⟨h1, h2, ⟨h3, h4, h5⟩, h6, h7, h8, h9, h10, h11, h12, h13⟩ := h
  have al := hW.alike
  have kp : ∀ q : Nat, q < s.heap.size → ¬ base ≤ q → U.heap[q]? = s.heap[q]? := fun q a b => by rw [hU]; exact hS.2.1 q a b
  have nw : ∀ w ∈ xnest, ∃ a i y hh, w = .methodLinkNest a i y hh := by
    intro w hw
    revert w
    unfold xnest
    simp
  refine ⟨va_K.moved al h1, fun w hw => ?_, ⟨va_AO.moved al h3, va_AO.moved al h4, va_AO.moved al h5⟩, ?_, (va_X.moved al h7).kept (kp _ (by omega) (by omega)), h8, ?_, (vk_S.moved al h10).kept kp, fun e he => ?_, ?_, ?_⟩
  · obtain ⟨a, i, y, hh, e⟩ := nw w hw
    have := h2 w hw
    rw [e] at this ⊢
    exact this.warmM hW
  · exact h6.warmC hW
  · rw [hU]
    exact Nat.le_trans h9 hS.1
  · obtain ⟨tx, ht⟩ := h11 e he
    exact ⟨tx, ht.warm hW⟩
  · exact (va_Z.moved al h12).kept kp
  · exact (va_Zq.moved al h13).kept kp
end XM
