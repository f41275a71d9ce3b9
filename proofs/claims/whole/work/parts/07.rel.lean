/-! ===== THE ABSTRACT MACHINE IS RIGHT: how its cells, values and locals stand for the machine's ===== -/
def xv (base : Nat) (old : Nat → Nat) : Value → Value
  | .ref k => .ref (base + k)
  | .float k => .ref (old k.toNat)
  | v => v
def xce (base : Nat) (old : Nat → Nat) (dA : Nat → ClassId) : xA → va_E
  | .inl (t, n, .inl f) => .inl (dA t, n, .inl f)
  | .inl (t, n, .inr (.inl f)) => .inl (dA t, n, .inr (.inl f))
  | .inl (t, n, .inr (.inr f)) => .inl (dA t, n, .inr (.inr (.inr (.inr fun j => (f j).map (base + ·)))))
  | .inr (ci, fs) => .inr (ci, fs.map (xv base old))
def xw (base : Nat) (old : Nat → Nat) (dA : Nat → ClassId) (A : xH) : va_W := A.mapIdx fun k c => (base + k, xce base old dA c)
theorem xw_get {base : Nat} {old : Nat → Nat} {dA : Nat → ClassId} {A : xH} {k : Nat} {c : xA} (h : A[k]? = some c) : (xw base old dA A)[k]? = some (base + k, xce base old dA c) := by
  unfold xw
  rw [List.getElem?_mapIdx, h]
  rfl
theorem xw_inv {base : Nat} {old : Nat → Nat} {dA : Nat → ClassId} {A : xH} {k : Nat} {q : Nat × va_E} (h : (xw base old dA A)[k]? = some q) : ∃ c, A[k]? = some c ∧ q = (base + k, xce base old dA c) := by
  unfold xw at h
  rw [List.getElem?_mapIdx] at h
  cases hc : A[k]? with
  | none => rw [hc] at h; cases h
  | some c => rw [hc] at h; exact ⟨c, rfl, (Option.some.inj h).symm⟩
theorem xw_set {base : Nat} {old : Nat → Nat} {dA : Nat → ClassId} {A : xH} {k : Nat} {c : xA} : xw base old dA (A.set k c) = (xw base old dA A).set k (base + k, xce base old dA c) := by
  apply List.ext_getElem?
  intro j
  unfold xw
  rw [List.getElem?_mapIdx, List.getElem?_set, List.getElem?_set, List.getElem?_mapIdx]
  simp only [List.length_mapIdx]
  split
  · rename_i e
    subst e
    split <;> rfl
  · rfl
theorem xw_app {base : Nat} {old : Nat → Nat} {dA : Nat → ClassId} {A : xH} {c : xA} : xw base old dA (A ++ [c]) = xw base old dA A ++ [(base + A.length, xce base old dA c)] := by
  unfold xw
  rw [List.mapIdx_append]
  simp
theorem xw_D {base : Nat} {old : Nat → Nat} {dA : Nat → ClassId} {A : xH} : va_D (fun q => base ≤ q) (xw base old dA A) := by
  refine ⟨fun i j p q hi hj e => ?_, fun k q hk => ?_⟩
  · obtain ⟨c1, -, rfl⟩ := xw_inv hi
    obtain ⟨c2, -, rfl⟩ := xw_inv hj
    have : base + i = base + j := e
    omega
  · obtain ⟨c1, -, rfl⟩ := xw_inv hk
    exact Nat.le_add_right _ _
/-- sizes -/
def xsz : xA → Nat
  | .inl (_, n, _) => n
  | .inr (_, fs) => fs.length
def xsl : xH → Nat
  | [] => 0
  | c :: l => xsz c + xsl l
theorem xsl_app : ∀ (A : xH) (c : xA), xsl (A ++ [c]) = xsl A + xsz c
  | [], c => by simp [xsl]
  | a :: A, c => by
    show xsz a + xsl (A ++ [c]) = xsz a + xsl A + xsz c
    rw [xsl_app A c]
    omega
theorem xsl_set : ∀ (A : xH) (k : Nat) (c c0 : xA), A[k]? = some c0 → xsz c = xsz c0 → xsl (A.set k c) = xsl A
  | [], k, c, c0, h, _ => by simp at h
  | a :: A, 0, c, c0, h, e => by
    have : a = c0 := by simpa using h
    subst this
    show xsz c + xsl A = xsz a + xsl A
    rw [e]
  | a :: A, k + 1, c, c0, h, e => by
    show xsz a + xsl (A.set k c) = xsz a + xsl A
    rw [xsl_set A k c c0 (by simpa using h) e]
def xtok (A : xH) : Prop := ∀ (k t n : Nat) (f : (Nat → Int32) ⊕ (Nat → Int64) ⊕ (Nat → Option Nat)), A[k]? = some (.inl (t, n, f)) → t < 7
def xtyT (t : Nat) : FieldType := match t with
  | 0 => .int
  | 1 => .byte
  | 2 => .boolean
  | 3 => .long
  | t => .object (xelC t)
def xtys (dA : Nat → ClassId) : List (ClassId × FieldType) := [(dA 0, xtyT 0), (dA 1, xtyT 1), (dA 2, xtyT 2), (dA 3, xtyT 3), (dA 4, xtyT 4), (dA 5, xtyT 5), (dA 6, xtyT 6)]
theorem xtys_at (dA : Nat → ClassId) {t : Nat} (h : t < 7) : (xtys dA)[t]? = some (dA t, xtyT t) := by
  match t, h with
  | 0, _ => rfl
  | 1, _ => rfl
  | 2, _ => rfl
  | 3, _ => rfl
  | 4, _ => rfl
  | 5, _ => rfl
  | 6, _ => rfl
/-- the heap holds the cells, and nothing else is new -/
def xRel (base : Nat) (old : Nat → Nat) (dA : Nat → ClassId) (D : va_G) (A : xH) (H : Heap) : Prop := H.size = base + A.length ∧ va_P D xclasses (xw base old dA A) H ∧ xtok A
/-- what is older than the law's entry, and what the tables say -/
def xEnv (base : Nat) (old : Nat → Nat) (dA : Nat → ClassId) (D : va_G) (E : Nat × (Nat → Int32)) (U : State) : Prop :=
  va_K D xclasses (xtys dA) U ∧ (∀ w ∈ xnest, va_Nw w U) ∧ (va_AO "TwinBuckets$Text" U ∧ va_AO "TwinBuckets$Store" U ∧ va_AO "TwinBuckets$Image" U) ∧ va_Nw (.castable "[I" "java/lang/Cloneable") U ∧ va_X (old 0) E.1 E.2 U U.heap ∧ old 0 < base ∧ base ≤ U.heap.size ∧ vk_S xSTR.length (xSTR.map List.length) xSTR (fun i => old (1 + i)) (fun i => old (100 + i)) (fun q => base ≤ q) U U.heap ∧ (∀ e ∈ xSL, ∃ tx : String, vk_R (xcn e.1) e.2.1 tx (old e.2.2) U) ∧ va_Z "java/lang/String" "COMPACT_STRINGS" "Z" (.int 1) (fun q => base ≤ q) U U.heap ∧ va_Zq "jdk/internal/util/Preconditions" "SIOOBE_FORMATTER" "Ljava/util/function/BiFunction;" (fun q => base ≤ q) U U.heap
/-- the locals -/
def xLoc (base : Nat) (old : Nat → Nat) (als : List Value) (ls : Array Slot) : Prop := ls.size = als.length ∧ lv_wf ls ∧ ∀ i, (∀ k, xg als i ≠ .retAddr k) → ls[i]? = some (.val (xv base old (xg als i)))
theorem xg_lt : ∀ (l : List Value) (i : Nat), (∀ k, xg l i ≠ .retAddr k) → i < l.length
  | [], i, h => absurd rfl (h 0)
  | _ :: l, 0, _ => Nat.succ_pos _
  | _ :: l, i + 1, h => Nat.succ_lt_succ (xg_lt l i h)
theorem xs_len : ∀ (l : List Value) (i : Nat) (v : Value), (xs l i v).length = l.length
  | [], _, _ => rfl
  | _ :: l, 0, _ => rfl
  | _ :: l, i + 1, v => by
    show (xs l i v).length + 1 = l.length + 1
    rw [xs_len l i v]
theorem xg_xs : ∀ (l : List Value) (i j : Nat) (v : Value), xg (xs l i v) j = if j = i ∧ i < l.length then v else xg l j
  | [], i, j, v => by simp [xs]
  | a :: l, 0, 0, v => by simp [xs, xg]
  | a :: l, 0, j + 1, v => by simp [xs, xg]
  | a :: l, i + 1, 0, v => by simp [xs, xg]
  | a :: l, i + 1, j + 1, v => by
    show xg (xs l i v) j = _
    rw [xg_xs l i j v]
    simp [xg]
def xlv (base : Nat) (old : Nat → Nat) (als : List Value) : List (Nat × Value) := (List.range als.length).filterMap fun i => match xg als i with
  | .retAddr _ => none
  | v => some (i, xv base old v)
theorem xlv_mem {base : Nat} {old : Nat → Nat} {als : List Value} {i : Nat} (h : ∀ k, xg als i ≠ .retAddr k) : (i, xv base old (xg als i)) ∈ xlv base old als := by
  unfold xlv
  refine List.mem_filterMap.mpr ⟨i, List.mem_range.mpr (xg_lt _ _ h), ?_⟩
  split
  · rename_i k e
    exact absurd e (h k)
  · rfl
theorem xlv_inv {base : Nat} {old : Nat → Nat} {als : List Value} {q : Nat × Value} (h : q ∈ xlv base old als) : (∀ k, xg als q.1 ≠ .retAddr k) ∧ q.2 = xv base old (xg als q.1) := by
  unfold xlv at h
  obtain ⟨i, -, hi⟩ := List.mem_filterMap.mp h
  split at hi
  · cases hi
  · rename_i hn
    cases hi
    exact ⟨hn, rfl⟩
theorem xLoc.has {base : Nat} {old : Nat → Nat} {als : List Value} {ls : Array Slot} (h : xLoc base old als ls) : lv_has ls als.length (xlv base old als) := by
  refine ⟨h.1, h.2.1, fun q hq => ?_⟩
  obtain ⟨h1, h2⟩ := xlv_inv hq
  rw [h2]
  exact h.2.2 q.1 h1
theorem xLoc.at {base : Nat} {old : Nat → Nat} {als : List Value} {ls : Array Slot} (h : xLoc base old als ls) {i : Nat} {v : Value} (e : xg als i = v) (hv : ∀ k, v ≠ .retAddr k) : ls[i]? = some (.val (xv base old v)) := by
  subst e
  exact h.2.2 i hv
theorem xLoc.mask {base : Nat} {old : Nat → Nat} {ls : Array Slot} : ∀ (is : List Nat) (als : List Value), xLoc base old als ls → xLoc base old (xmask is als) ls
  | [], _, h => h
  | i :: is, als, h => by
    refine xLoc.mask is _ ⟨h.1.trans (xs_len als i xJ).symm, h.2.1, fun j hj => ?_⟩
    rw [xg_xs] at hj ⊢
    split
    · rename_i e
      rw [if_pos e] at hj
      exact absurd rfl (hj 0)
    · rename_i e
      rw [if_neg e] at hj
      exact h.2.2 j hj
theorem xv_cat (base : Nat) (old : Nat → Nat) (v : Value) : (xv base old v).category = v.category := by
  cases v <;> rfl
theorem xLoc.st1 {base : Nat} {old : Nat → Nat} {als : List Value} {i : Nat} {v : Value} (hi : i < als.length) (hp : ∀ j, i = j + 1 → (xg als j).category ≠ 2) {ls' : Array Slot} (h : lv_has ls' als.length ((i, xv base old v) :: (xlv base old als).filter (fun q => !(q.1 == i) && !(q.1 + 1 == i && q.2.category == 2)))) : xLoc base old (xs als i v) ls' := by
  obtain ⟨h1, h2, h3⟩ := h
  refine ⟨h1.trans (xs_len als i v).symm, h2, fun j hj => ?_⟩
  rw [xg_xs] at hj ⊢
  by_cases e : j = i
  · subst e
    rw [if_pos ⟨rfl, hi⟩]
    exact h3 _ List.mem_cons_self
  · have ne : ¬ (j = i ∧ i < als.length) := fun q => e q.1
    rw [if_neg ne] at hj ⊢
    refine h3 (j, xv base old (xg als j)) (List.mem_cons_of_mem _ (List.mem_filter.mpr ⟨xlv_mem hj, ?_⟩))
    simp only [Bool.and_eq_true, Bool.not_eq_true', beq_eq_false_iff_ne, ne_eq, Bool.and_eq_false_iff]
    refine ⟨e, ?_⟩
    by_cases e2 : j + 1 = i
    · right
      rw [xv_cat]
      exact hp j e2.symm
    · left
      exact e2
theorem xLoc.st2 {base : Nat} {old : Nat → Nat} {als : List Value} {i : Nat} {v : Value} (hi : i + 1 < als.length) (hp : ∀ j, i = j + 1 → (xg als j).category ≠ 2) {ls' : Array Slot} (h : lv_has ls' als.length ((i, xv base old v) :: (xlv base old als).filter (fun q => !(q.1 == i) && (!(q.1 == i + 1) && !(q.1 + 1 == i && q.2.category == 2))))) : xLoc base old (xs (xs als i v) (i + 1) xJ) ls' := by
  obtain ⟨h1, h2, h3⟩ := h
  refine ⟨h1.trans (by rw [xs_len, xs_len]), h2, fun j hj => ?_⟩
  rw [xg_xs, xg_xs, xs_len] at hj ⊢
  by_cases e1 : j = i + 1
  · rw [if_pos ⟨e1, hi⟩] at hj
    exact absurd rfl (hj 0)
  · have n1 : ¬ (j = i + 1 ∧ i + 1 < als.length) := fun q => e1 q.1
    rw [if_neg n1] at hj ⊢
    by_cases e : j = i
    · subst e
      rw [if_pos ⟨rfl, by omega⟩]
      exact h3 _ List.mem_cons_self
    · have ne : ¬ (j = i ∧ i < als.length) := fun q => e q.1
      rw [if_neg ne] at hj ⊢
      refine h3 (j, xv base old (xg als j)) (List.mem_cons_of_mem _ (List.mem_filter.mpr ⟨xlv_mem hj, ?_⟩))
      simp only [Bool.and_eq_true, Bool.not_eq_true', beq_eq_false_iff_ne, ne_eq, Bool.and_eq_false_iff]
      refine ⟨e, e1, ?_⟩
      by_cases e2 : j + 1 = i
      · right
        rw [xv_cat]
        exact hp j e2.symm
      · left
        exact e2
