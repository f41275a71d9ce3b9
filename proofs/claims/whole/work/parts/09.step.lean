/-! ===== one instruction of the abstract machine is one of the machine's ===== -/
section XS
variable {base : Nat} {old : Nat → Nat} {dA : Nat → ClassId} {D : va_G} {E : Nat × (Nat → Int32)}
variable {p : Program} {l : Launch} {e : Env} {R : Room} {s : State} {m : MethodId} {args : Array Value} {below : List Frame} {meth : Method} {c : Code} {Q : State → Prop}
theorem W.bound {H : Heap} {locs : List Loc} {cells slots : Nat} {g : JFrame} (k : H.size ≤ s.heap.size + cells → W p l e R s m args below meth c H locs cells slots Q g) : W p l e R s m args below meth c H locs cells slots Q g := by
  intro T hT X
  have h : T.heap.size ≤ s.heap.size + cells := X.same.2.2.1
  rw [hT] at h
  exact k h T hT X
/-- the cells are there -/
def xAt (base : Nat) (old : Nat → Nat) (dA : Nat → ClassId) (D : va_G) (s : State) (A : xH) (H : Heap) (locs : List Loc) : Prop := va_P D xclasses (xw base old dA A) H ∧ xtok A ∧ va_S (fun q => base ≤ q) s.heap H locs
/-- from this state of the abstract machine the machine comes to Q -/
def xK (base : Nat) (old : Nat → Nat) (dA : Nat → ClassId) (D : va_G) (p : Program) (l : Launch) (e : Env) (R : Room) (s : State) (m : MethodId) (args : Array Value) (below : List Frame) (meth : Method) (c : Code) (Q : State → Prop) (a0 s0 pc : Nat) (als st : List Value) (A : xH) : Prop :=
  ∀ (H : Heap) (locs : List Loc) (ls : Array Slot), xAt base old dA D s A H locs → xLoc base old als ls → W p l e R s m args below meth c H locs (A.length - a0) (xsl A - s0) Q (F0 m pc ls (st.map (xv base old)))
/-- what holds in a method's body -/
def xCx (base : Nat) (old : Nat → Nat) (dA : Nat → ClassId) (D : va_G) (E : Nat × (Nat → Int32)) (p : Program) (s : State) (m : MethodId) (args : Array Value) (meth : Method) (c : Code) (M : xM) (b : ByteArray) (a0 : Nat) : Prop :=
  p.tables.exec = Jvm.exec ∧ c.code = b ∧ c.maxLocals = M.2.2.2.1 ∧ s.vm.findClass (xcn M.1) = some m.cls ∧ (∀ w ∈ gw, w.before args s = true) ∧ xEnv base old dA D E s ∧ (M.2.2.1 = 2 → meth.name = "<init>") ∧ s.heap.size = base + a0
theorem xAt.lo {A : xH} {H : Heap} {locs : List Loc} {a0 : Nat} (h : xAt base old dA D s A H locs) (hz : s.heap.size = base + a0) (ha : a0 ≤ A.length) : base + A.length ≤ H.size := by
  by_cases h0 : A.length = 0
  · have := h.2.2.1
    omega
  · have hlt : A.length - 1 < A.length := by omega
    have hg : A[A.length - 1]? = some A[A.length - 1] := List.getElem?_eq_getElem hlt
    have := (h.1 _ _ (xw_get hg)).lt
    have h2 : base + (A.length - 1) < H.size := this
    omega
/-- the heap's size is known -/
theorem xK.size {a0 s0 pc : Nat} {als st : List Value} {A : xH} (hz : s.heap.size = base + a0) (ha : a0 ≤ A.length)
    (k : ∀ (H : Heap) (locs : List Loc) (ls : Array Slot), xAt base old dA D s A H locs → H.size = base + A.length → xLoc base old als ls → W p l e R s m args below meth c H locs (A.length - a0) (xsl A - s0) Q (F0 m pc ls (st.map (xv base old)))) :
    xK base old dA D p l e R s m args below meth c Q a0 s0 pc als st A := by
  intro H locs ls hX hl
  refine W.bound (fun hb => ?_)
  have h1 := hX.lo hz ha
  exact k H locs ls hX (by omega) hl
/-- a new cell stands where it must -/
theorem xnew_at {A : xH} {H1 : Heap} {a0 q n : Nat} {cE : va_E} {D : va_G} (hz : s.heap.size = base + a0) (ha : a0 ≤ A.length) (hP : va_P D xclasses (xw base old dA A ++ [(q, cE)]) H1) (hD : va_D (fun q => base ≤ q) (xw base old dA A ++ [(q, cE)])) (hb : H1.size ≤ s.heap.size + (A.length - a0 + 1)) : q = base + A.length := by
  have hlen : (xw base old dA A).length = A.length := by unfold xw; simp
  have hlast : (xw base old dA A ++ [(q, cE)])[A.length]? = some (q, cE) := by
    rw [List.getElem?_append_right (by omega), hlen, Nat.sub_self]
    rfl
  have h1 : base ≤ q := hD.2 _ _ hlast
  have h2 : q < H1.size := (hP _ _ hlast).lt
  by_cases h3 : q < base + A.length
  · exfalso
    have hk : q - base < A.length := by omega
    have hg : A[q - base]? = some A[q - base] := List.getElem?_eq_getElem hk
    have h4 : (xw base old dA A ++ [(q, cE)])[q - base]? = some (base + (q - base), xce base old dA A[q - base]) := by
      rw [List.getElem?_append_left (by omega)]
      exact xw_get hg
    have := hD.1 _ _ _ _ h4 hlast (by show base + (q - base) = q; omega)
    omega
  · omega
theorem cat_sum (base : Nat) (old : Nat → Nat) : ∀ (st : List Value), ((st.map (xv base old)).map fun v => v.category).sum = xcat st
  | [] => rfl
  | v :: st => by
    show (xv base old v).category + ((st.map (xv base old)).map fun v => v.category).sum = v.category + xcat st
    rw [cat_sum base old st, xv_cat]
variable {M : xM} {b : ByteArray} {a0 s0 : Nat}
/-- getfield -/
theorem i_get {T : xT} {own lk idx pc : Nat} {ls st : List Value} {A : xH} {n : xN} (h : xget T own xgo0 lk idx pc ls st A = some n) : ∃ o i ci k kd a s1 fs v, T.1[lk]? = some (o, i, ci, k, kd) ∧ o = own ∧ i = idx ∧ st = .ref a :: s1 ∧ A[a]? = some (.inr (ci, fs)) ∧ fs[k]? = some v ∧ n = .inl (pc + 3, ls, v :: s1, A) := by
  unfold xget at h
  split at h
  · cases h
  · rename_i o i ci k kd hT
    split at h
    · rename_i ho
      split at h
      · rename_i a s1
        split at h
        · obtain ⟨x, h1, h2⟩ := i_bind h
          obtain ⟨fs, g1, g2⟩ := j_gI h1
          exact ⟨o, i, ci, k, _, a, s1, fs, _, hT, ho.1, ho.2, rfl, g1, g2, (Option.some.inj h2).symm⟩
        · obtain ⟨x, h1, h2⟩ := i_bind h
          obtain ⟨fs, g1, g2⟩ := j_gI h1
          exact ⟨o, i, ci, k, _, a, s1, fs, _, hT, ho.1, ho.2, rfl, g1, g2, (Option.some.inj h2).symm⟩
        · obtain ⟨x, h1, h2⟩ := i_bind h
          obtain ⟨fs, g1, g2⟩ := j_gO h1
          refine ⟨o, i, ci, k, _, a, s1, fs, va_rf x, hT, ho.1, ho.2, rfl, g1, g2, ?_⟩
          cases x <;> exact (Option.some.inj h2).symm
        · obtain ⟨x, h1, h2⟩ := i_bind h
          obtain ⟨fs, g1, g2⟩ := j_gN h1
          exact ⟨o, i, ci, k, _, a, s1, fs, _, hT, ho.1, ho.2, rfl, g1, g2, (Option.some.inj h2).symm⟩
      · cases h
    · cases h
theorem go_get {lk idx pc : Nat} {als st : List Value} {A : xH} {pc' : Nat} {als' st' : List Value} {A' : xH} (C : xCx base old dA D E p s m args meth c M b a0) (hdg : decode b pc = .ok (.getfield idx, 3)) (h : xget xtabs M.1 xgo0 lk idx pc als st A = some (.inl (pc', als', st', A'))) (kk : xK base old dA D p l e R s m args below meth c Q a0 s0 pc' als' st' A') : xK base old dA D p l e R s m args below meth c Q a0 s0 pc als st A := by
  obtain ⟨hx, hb, hml, hown, hts, henv, hini, hz⟩ := C
  obtain ⟨o, i, ci, k, kd, a, s1, fs, v, hT, rfl, rfl, rfl, hA, hv, e⟩ := i_get h
  cases e
  obtain ⟨hci, hF⟩ := fl_all _ (List.mem_of_getElem? hT)
  obtain ⟨C, T, N, ty, hc, hty, hCn, hws, htyok, hnm, hinst, hini2, hT1⟩ := xk_all ci hci
  obtain ⟨hk, hlink, -⟩ := hF C T N ty hc hty
  intro H locs ls hX hl
  refine va_get (D := D) (ci := ci) (v := xv base old v) (C := C) (T := T) (N := N) (ref := C) hx hb hts hws hown henv.1 hX.1 a (xw_get hA) hc k hk (hts _ hlink) (by rw [hT1 k hk]; exact fun _ h => h) (by rw [List.getElem?_map, hv]; rfl) hdg (kk H locs ls hX hl)
/-- putfield -/
theorem i_put {T : xT} {own ini lk idx pc : Nat} {ls st : List Value} {A : xH} {n : xN} (h : xput T own ini xgo0 lk idx pc ls st A = some n) : ∃ o i ci k kd a s1 fs v, T.1[lk]? = some (o, i, ci, k, kd) ∧ o = own ∧ i = idx ∧ st = v :: .ref a :: s1 ∧ A[a]? = some (.inr (ci, fs)) ∧ k < fs.length ∧ n = .inl (pc + 3, ls, s1, A.set a (.inr (ci, fs.set k v))) ∧ ((kd = 0 ∧ ∃ x, v = .int x) ∨ (kd = 1 ∧ ∃ x, v = .int x ∧ x01 x = true) ∨ (kd = 2 ∧ (ini = 2 ∧ ci = own) ∧ ∃ b, v = .ref b) ∨ (kd = 3 ∧ ((∃ b, v = .ref b) ∨ v = .null))) := by
  unfold xput at h
  split at h
  · cases h
  · rename_i o i ci k kd hT
    split at h
    · rename_i ho
      split at h
      · rename_i v a s1
        split at h
        · split at h
          · rename_i x
            obtain ⟨B, h1, h2⟩ := i_bind h
            obtain ⟨fs, g1, g2, g3⟩ := j_pF h1
            subst g3
            exact ⟨o, i, ci, k, _, a, s1, fs, _, hT, ho.1, ho.2, rfl, g1, g2, (Option.some.inj h2).symm, Or.inl ⟨rfl, _, rfl⟩⟩
          · cases h
        · split at h
          · rename_i x
            split at h
            · rename_i h01
              obtain ⟨B, h1, h2⟩ := i_bind h
              obtain ⟨fs, g1, g2, g3⟩ := j_pF h1
              subst g3
              exact ⟨o, i, ci, k, _, a, s1, fs, _, hT, ho.1, ho.2, rfl, g1, g2, (Option.some.inj h2).symm, Or.inr (Or.inl ⟨rfl, _, rfl, h01⟩)⟩
            · cases h
          · cases h
        · split at h
          · rename_i hini
            split at h
            · obtain ⟨B, h1, h2⟩ := i_bind h
              obtain ⟨fs, g1, g2, g3⟩ := j_pF h1
              subst g3
              exact ⟨o, i, ci, k, _, a, s1, fs, _, hT, ho.1, ho.2, rfl, g1, g2, (Option.some.inj h2).symm, Or.inr (Or.inr (Or.inl ⟨rfl, hini, _, rfl⟩))⟩
            · cases h
          · cases h
        · split at h
          · obtain ⟨B, h1, h2⟩ := i_bind h
            obtain ⟨fs, g1, g2, g3⟩ := j_pF h1
            subst g3
            exact ⟨o, i, ci, k, _, a, s1, fs, _, hT, ho.1, ho.2, rfl, g1, g2, (Option.some.inj h2).symm, Or.inr (Or.inr (Or.inr ⟨rfl, Or.inl ⟨_, rfl⟩⟩))⟩
          · obtain ⟨B, h1, h2⟩ := i_bind h
            obtain ⟨fs, g1, g2, g3⟩ := j_pF h1
            subst g3
            exact ⟨o, i, ci, k, _, a, s1, fs, _, hT, ho.1, ho.2, rfl, g1, g2, (Option.some.inj h2).symm, Or.inr (Or.inr (Or.inr ⟨rfl, Or.inr rfl⟩))⟩
          · cases h
        · cases h
      · cases h
    · cases h
theorem obj_lt {k : Nat} {fs : List Value} {ci : Nat} : ∀ t n f, (.inr (ci, fs) : xA) = .inl (t, n, f) → t < 7 := fun _ _ _ h => by cases h
theorem nar01 {x : Int32} (h : x01 x = true) : narrow .boolean (.int x) = .int x := by
  unfold x01 at h
  rcases (Bool.or_eq_true _ _).mp h with h | h
  · have : x = 0 := by simpa using h
    subst this; rfl
  · have : x = 1 := by simpa using h
    subst this; rfl
theorem put_fits {kd : Nat} {ty : FieldType} {v : Value} (hk : (kd = 0 ∧ ty = .int ∧ ∃ x, v = .int x) ∨ (kd = 1 ∧ ty = .boolean ∧ ∃ x, v = .int x ∧ x01 x = true) ∨ (((∃ n, ty = .object n) ∨ ∃ t, ty = .array t) ∧ ((∃ b, v = .ref b) ∨ v = .null))) : narrow ty (xv base old v) = xv base old v ∧ fits ty (xv base old v) = true := by
  rcases hk with ⟨-, rfl, x, rfl⟩ | ⟨-, rfl, x, rfl, h⟩ | ⟨⟨n, rfl⟩ | ⟨t, rfl⟩, ⟨b, rfl⟩ | rfl⟩
  · exact ⟨rfl, rfl⟩
  · exact ⟨nar01 h, h⟩
  · exact ⟨rfl, rfl⟩
  · exact ⟨rfl, rfl⟩
  · exact ⟨rfl, rfl⟩
  · exact ⟨rfl, rfl⟩
theorem xsl_obj {A : xH} {a ci k : Nat} {fs : List Value} {v : Value} (hA : A[a]? = some (.inr (ci, fs))) : xsl (A.set a (.inr (ci, fs.set k v))) = xsl A := xsl_set A a _ _ hA (by show (fs.set k v).length = fs.length; simp)
theorem go_put {lk idx pc : Nat} {als st : List Value} {A : xH} {pc' : Nat} {als' st' : List Value} {A' : xH} (C : xCx base old dA D E p s m args meth c M b a0) (hdg : decode b pc = .ok (.putfield idx, 3)) (h : xput xtabs M.1 M.2.2.1 xgo0 lk idx pc als st A = some (.inl (pc', als', st', A'))) (kk : xK base old dA D p l e R s m args below meth c Q a0 s0 pc' als' st' A') : xK base old dA D p l e R s m args below meth c Q a0 s0 pc als st A := by
  obtain ⟨hx, hb, hml, hown, hts, henv, hini, hz⟩ := C
  obtain ⟨o, i, ci, k, kd, a, s1, fs, v, hT, rfl, rfl, rfl, hA, hl, e, hk⟩ := i_put h
  cases e
  obtain ⟨hci, hF⟩ := fl_all _ (List.mem_of_getElem? hT)
  obtain ⟨C, T, N, ty, hc, hty, hCn, hws, htyok, hnm, hinst, hini2, hT1⟩ := xk_all ci hci
  obtain ⟨hkN, hlink, hkk⟩ := hF C T N ty hc hty
  intro H locs ls hX hlo
  have kk2 : ∀ (H1 : Heap) (locs1 : List Loc), va_P D xclasses ((xw base old dA A).set a (base + a, .inr (ci, (fs.map (xv base old)).set k (xv base old v)))) H1 → va_D (fun q => base ≤ q) ((xw base old dA A).set a (base + a, .inr (ci, (fs.map (xv base old)).set k (xv base old v)))) → va_S (fun q => base ≤ q) s.heap H1 locs1 → W p l e R s m args below meth c H1 locs1 (A.length - a0) (xsl A - s0) Q (F0 m (pc + 3) ls (st'.map (xv base old))) := by
    intro H1 locs1 hP _ hS
    have hP' : va_P D xclasses (xw base old dA (A.set a (.inr (ci, fs.set k v)))) H1 := by
      rw [xw_set]
      show va_P D xclasses ((xw base old dA A).set a (base + a, .inr (ci, (fs.set k v).map (xv base old)))) H1
      rw [List.map_set]
      exact hP
    have := kk H1 locs1 ls ⟨hP', xtok_set hX.2.1 (fun _ _ _ h => by cases h), hS⟩ hlo
    rw [List.length_set, xsl_obj hA] at this
    exact this
  have hl' : k < (fs.map (xv base old)).length := by simpa using hl
  have hsame : ∀ x, s.fieldFound? (T k).1 (T k).2.1 (T k).2.2.1 = some x → s.fieldFound? C (T k).2.1 (T k).2.2.1 = some x := by rw [hT1 k hkN]; exact fun _ h => h
  rcases hk with ⟨rfl, x, rfl⟩ | ⟨rfl, x, rfl, h01⟩ | ⟨rfl, ⟨hi2, hio⟩, b1, rfl⟩ | ⟨rfl, hv⟩
  · obtain ⟨ht, hf⟩ := hkk
    obtain ⟨n1, n2⟩ := put_fits (base := base) (old := old) (kd := 0) (ty := ty k) (v := .int x) (Or.inl ⟨rfl, ht, x, rfl⟩)
    exact va_put (D := D) (ci := ci) (C := C) (T := T) (N := N) (ref := C) (ty := ty k) hx hb hts hws ty htyok hnm hown henv.1 hX.1 xw_D hX.2.2 a (xw_get hA) hc k hkN (hts _ hlink) hsame hf (htyok k hkN) n1 n2 hl' hdg kk2
  · obtain ⟨ht, hf⟩ := hkk
    obtain ⟨n1, n2⟩ := put_fits (base := base) (old := old) (kd := 1) (ty := ty k) (v := .int x) (Or.inr (Or.inl ⟨rfl, ht, x, rfl, h01⟩))
    exact va_put (D := D) (ci := ci) (C := C) (T := T) (N := N) (ref := C) (ty := ty k) hx hb hts hws ty htyok hnm hown henv.1 hX.1 xw_D hX.2.2 a (xw_get hA) hc k hkN (hts _ hlink) hsame hf (htyok k hkN) n1 n2 hl' hdg kk2
  · obtain ⟨ht, hf⟩ := hkk
    obtain ⟨n1, n2⟩ := put_fits (base := base) (old := old) (kd := 2) (ty := ty k) (v := .ref b1) (Or.inr (Or.inr ⟨ht, Or.inl ⟨b1, rfl⟩⟩))
    refine va_putF (D := D) (ci := ci) (C := C) (T := T) (N := N) (ref := C) (ty := ty k) hx hb hts hws ty htyok hnm hown henv.1 hX.1 xw_D hX.2.2 a (xw_get hA) hc k hkN (hts _ hlink) hsame hf (hini hi2) (by rw [hT1 k hkN, hCn, hio]) (htyok k hkN) n1 n2 hl' hdg kk2
  · obtain ⟨ht, hf⟩ := hkk
    obtain ⟨n1, n2⟩ := put_fits (base := base) (old := old) (kd := 3) (ty := ty k) (v := v) (Or.inr (Or.inr ⟨ht, hv⟩))
    exact va_put (D := D) (ci := ci) (C := C) (T := T) (N := N) (ref := C) (ty := ty k) hx hb hts hws ty htyok hnm hown henv.1 hX.1 xw_D hX.2.2 a (xw_get hA) hc k hkN (hts _ hlink) hsame hf (htyok k hkN) n1 n2 hl' hdg kk2
end XS
