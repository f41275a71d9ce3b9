/-! ===== arrays, new cells ===== -/
section XS2
variable {base : Nat} {old : Nat → Nat} {dA : Nat → ClassId} {D : va_G} {E : Nat × (Nat → Int32)}
variable {p : Program} {l : Launch} {e : Env} {R : Room} {s : State} {m : MethodId} {args : Array Value} {below : List Frame} {meth : Method} {c : Code} {Q : State → Prop}
variable {M : xM} {b : ByteArray} {a0 s0 : Nat}
/-- behind a store into cell a -/
theorem st_done {A : xH} {a pc : Nat} {cN c0 : xA} {als st : List Value} {H : Heap} {locs : List Loc} {ls : Array Slot} (hX : xAt base old dA D s A H locs) (hlo : xLoc base old als ls) (hA : A[a]? = some c0) (kk : xK base old dA D p l e R s m args below meth c Q a0 s0 pc als st (A.set a cN)) (hsz : xsz cN = xsz c0) (ht : ∀ t n f, cN = .inl (t, n, f) → t < 7) :
    ∀ (H1 : Heap) (locs1 : List Loc), va_P D xclasses ((xw base old dA A).set a (base + a, xce base old dA cN)) H1 → va_D (fun q => base ≤ q) ((xw base old dA A).set a (base + a, xce base old dA cN)) → va_S (fun q => base ≤ q) s.heap H1 locs1 → W p l e R s m args below meth c H1 locs1 (A.length - a0) (xsl A - s0) Q (F0 m pc ls (st.map (xv base old))) := by
  intro H1 locs1 hP _ hS
  have := kk H1 locs1 ls ⟨by rw [xw_set]; exact hP, xtok_set hX.2.1 ht, hS⟩ hlo
  rw [List.length_set, xsl_set A a _ _ hA hsz] at this
  exact this
/-- behind a new cell -/
theorem new_done {A : xH} {pc n : Nat} {cN : xA} {als st : List Value} {H : Heap} {locs : List Loc} {ls : Array Slot} (hz : s.heap.size = base + a0) (ha : a0 ≤ A.length) (hs : s0 ≤ xsl A) (hX : xAt base old dA D s A H locs) (hlo : xLoc base old als ls) (kk : xK base old dA D p l e R s m args below meth c Q a0 s0 pc als (.ref A.length :: st) (A ++ [cN])) (hsz : xsz cN = n) (ht : ∀ t n f, cN = .inl (t, n, f) → t < 7) :
    ∀ (q : Nat) (H1 : Heap), va_P D xclasses (xw base old dA A ++ [(q, xce base old dA cN)]) H1 → va_D (fun q => base ≤ q) (xw base old dA A ++ [(q, xce base old dA cN)]) → va_S (fun q => base ≤ q) s.heap H1 locs → W p l e R s m args below meth c H1 locs (A.length - a0 + 1) (xsl A - s0 + n) Q (F0 m pc ls (.ref q :: st.map (xv base old))) := by
  intro q H1 hP hD hS
  refine W.bound (fun hb => ?_)
  have hq : q = base + A.length := xnew_at (n := 0) hz ha hP hD hb
  subst hq
  have := kk H1 locs ls ⟨by rw [xw_app]; exact hP, xtok_app hX.2.1 ht, hS⟩ hlo
  rw [List.length_append, xsl_app, hsz] at this
  have e1 : A.length + [cN].length - a0 = A.length - a0 + 1 := by simp; omega
  have e2 : xsl A + n - s0 = xsl A - s0 + n := by omega
  rw [e1, e2] at this
  exact this
theorem ra_prim {cA : ClassId} {t : FieldType} {ty : FieldType} (e : ty = t) (hp : t = .int ∨ t = .byte ∨ t = .boolean ∨ t = .long) (h : va_RA s cA ty) : s.vm.findClass ("[" ++ t.toString) = some cA := by
  subst e
  rcases hp with rfl | rfl | rfl | rfl <;> exact h
theorem ra_obj {cA : ClassId} {C : String} {ty : FieldType} (e : ty = .object C) (h : va_RA s cA ty) : s.vm.findClass ("[" ++ (FieldType.object C).toString) = some cA := by
  subst e
  obtain ⟨_, _, -, -, -, g⟩ := h
  exact g
theorem cls_at {t : Nat} {cA : ClassId} (ht : t < 7) (hK : va_K D xclasses (xtys dA) s) (hK' : va_K D xclasses (xtys dA ++ [(cA, xtyT t)]) s) : cA = dA t := by
  have h1 : va_RA s (dA t) (xtyT t) := (hK.2 t _ (xtys_at dA ht)).2
  have h2 : va_RA s cA (xtyT t) := (hK'.2 7 (cA, xtyT t) rfl).2
  generalize hty : xtyT t = ty at h1 h2
  rcases (show t = 0 ∨ t = 1 ∨ t = 2 ∨ t = 3 ∨ t = 4 ∨ t = 5 ∨ t = 6 by omega) with rfl | rfl | rfl | rfl | rfl | rfl | rfl
  · exact Option.some.inj ((ra_prim hty.symm (Or.inl rfl) h2).symm.trans (ra_prim hty.symm (Or.inl rfl) h1))
  · exact Option.some.inj ((ra_prim hty.symm (Or.inr (Or.inl rfl)) h2).symm.trans (ra_prim hty.symm (Or.inr (Or.inl rfl)) h1))
  · exact Option.some.inj ((ra_prim hty.symm (Or.inr (Or.inr (Or.inl rfl))) h2).symm.trans (ra_prim hty.symm (Or.inr (Or.inr (Or.inl rfl))) h1))
  · exact Option.some.inj ((ra_prim hty.symm (Or.inr (Or.inr (Or.inr rfl))) h2).symm.trans (ra_prim hty.symm (Or.inr (Or.inr (Or.inr rfl))) h1))
  · exact Option.some.inj ((ra_obj hty.symm h2).symm.trans (ra_obj hty.symm h1))
  · exact Option.some.inj ((ra_obj hty.symm h2).symm.trans (ra_obj hty.symm h1))
  · exact Option.some.inj ((ra_obj hty.symm h2).symm.trans (ra_obj hty.symm h1))
theorem i_iald {t pc : Nat} {ls st : List Value} {A : xH} {n : xN} (h : xiald E xgo0 t pc ls st A = some n) : (∃ i a s1 x, st = .int i :: .ref a :: s1 ∧ aI t A a i = some x ∧ n = .inl (pc + 1, ls, .int x :: s1, A)) ∨ ∃ i s1, t = 0 ∧ st = .int i :: .float 0 :: s1 ∧ vp_in i E.1 ∧ n = .inl (pc + 1, ls, .int (E.2 i.toNatClampNeg) :: s1, A) := by
  unfold xiald at h
  split at h
  · obtain ⟨x, h1, h2⟩ := i_bind h
    exact Or.inl ⟨_, _, _, x, rfl, h1, (Option.some.inj h2).symm⟩
  · split at h
    · rename_i hb
      obtain ⟨rfl, rfl⟩ := hb
      split at h
      · cases h
      · rename_i hi
        exact Or.inr ⟨_, _, rfl, rfl, hi, (Option.some.inj h).symm⟩
    · cases h
  · cases h
theorem go_iald {pc : Nat} {als st : List Value} {A : xH} {pc' : Nat} {als' st' : List Value} {A' : xH} (C : xCx base old dA D E p s m args meth c M b a0) (hdg : decode b pc = .ok (.iaload, 1)) (h : xiald E xgo0 0 pc als st A = some (.inl (pc', als', st', A'))) (kk : xK base old dA D p l e R s m args below meth c Q a0 s0 pc' als' st' A') : xK base old dA D p l e R s m args below meth c Q a0 s0 pc als st A := by
  obtain ⟨hx, hb, hml, hown, hts, henv, hini, hz⟩ := C
  intro H locs ls hX hl
  rcases i_iald h with ⟨i, a, s1, x, rfl, h1, e⟩ | ⟨i, s1, -, rfl, hi, e⟩
  · cases e
    obtain ⟨n, f, hA, hi, rfl⟩ := j_aI h1
    exact va_iald hx hb henv.1 hX.1 a 0 (xw_get hA) rfl hi hdg (kk H locs ls hX hl)
  · cases e
    obtain ⟨-, -, -, -, hXs, hbl, hbs, -⟩ := henv
    exact va_sld (b := old 0) hx hb hXs (by omega) (by omega) hX.2.2 hi hdg (kk H locs ls hX hl)
theorem go_bald {t pc : Nat} {als st : List Value} {A : xH} {pc' : Nat} {als' st' : List Value} {A' : xH} (C : xCx base old dA D E p s m args meth c M b a0) (hdg : decode b pc = .ok (.baload, 1)) (ht : t = 1 ∨ t = 2) (h : xiald E xgo0 t pc als st A = some (.inl (pc', als', st', A'))) (kk : xK base old dA D p l e R s m args below meth c Q a0 s0 pc' als' st' A') : xK base old dA D p l e R s m args below meth c Q a0 s0 pc als st A := by
  obtain ⟨hx, hb, hml, hown, hts, henv, hini, hz⟩ := C
  intro H locs ls hX hl
  rcases i_iald h with ⟨i, a, s1, x, rfl, h1, e⟩ | ⟨i, s1, h0, rfl, hi, e⟩
  · cases e
    obtain ⟨n, f, hA, hi, rfl⟩ := j_aI h1
    rcases ht with rfl | rfl
    · exact va_bald hx hb henv.1 hX.1 a 1 (xw_get hA) rfl hi hdg (kk H locs ls hX hl)
    · exact va_zald hx hb henv.1 hX.1 a 2 (xw_get hA) rfl hi hdg (kk H locs ls hX hl)
  · omega
theorem i_iast {t pc : Nat} {ls st : List Value} {A : xH} {n : xN} (h : xiast xgo0 t pc ls st A = some n) : ∃ x i a s1 B, st = .int x :: .int i :: .ref a :: s1 ∧ sI t A a i x = some B ∧ n = .inl (pc + 1, ls, s1, B) := by
  unfold xiast at h
  split at h
  · obtain ⟨x, h1, h2⟩ := i_bind h
    exact ⟨_, _, _, _, x, rfl, h1, (Option.some.inj h2).symm⟩
  · cases h
theorem arr_lt {t n : Nat} {f : (Nat → Int32) ⊕ (Nat → Int64) ⊕ (Nat → Option Nat)} (h : t < 7) : ∀ t' n' f', (.inl (t, n, f) : xA) = .inl (t', n', f') → t' < 7 := fun _ _ _ e => by cases e; exact h
theorem go_iast {pc : Nat} {als st : List Value} {A : xH} {pc' : Nat} {als' st' : List Value} {A' : xH} (C : xCx base old dA D E p s m args meth c M b a0) (hdg : decode b pc = .ok (.iastore, 1)) (h : xiast xgo0 0 pc als st A = some (.inl (pc', als', st', A'))) (kk : xK base old dA D p l e R s m args below meth c Q a0 s0 pc' als' st' A') : xK base old dA D p l e R s m args below meth c Q a0 s0 pc als st A := by
  obtain ⟨hx, hb, hml, hown, hts, henv, hini, hz⟩ := C
  intro H locs ls hX hl
  obtain ⟨x, i, a, s1, B, rfl, h1, e⟩ := i_iast h
  cases e
  obtain ⟨n, f, hA, hi, rfl⟩ := j_sI h1
  exact va_iast (x := x) hx hb henv.1 hX.1 xw_D hX.2.2 a 0 (xw_get hA) rfl hi hdg (st_done hX hl hA kk rfl (arr_lt (by decide)))
theorem go_bast {t pc : Nat} {als st : List Value} {A : xH} {pc' : Nat} {als' st' : List Value} {A' : xH} (C : xCx base old dA D E p s m args meth c M b a0) (hdg : decode b pc = .ok (.bastore, 1)) (ht : t = 1 ∨ t = 2) (h : xiast xgo0 t pc als st A = some (.inl (pc', als', st', A'))) (kk : xK base old dA D p l e R s m args below meth c Q a0 s0 pc' als' st' A') : xK base old dA D p l e R s m args below meth c Q a0 s0 pc als st A := by
  obtain ⟨hx, hb, hml, hown, hts, henv, hini, hz⟩ := C
  intro H locs ls hX hl
  obtain ⟨x, i, a, s1, B, rfl, h1, e⟩ := i_iast h
  cases e
  obtain ⟨n, f, hA, hi, rfl⟩ := j_sI h1
  rcases ht with rfl | rfl
  · exact va_bast (x := x) hx hb henv.1 hX.1 xw_D hX.2.2 a 1 (xw_get hA) rfl hi hdg (st_done hX hl hA kk rfl (arr_lt (by decide)))
  · exact va_zast (x := x) hx hb henv.1 hX.1 xw_D hX.2.2 a 2 (xw_get hA) rfl hi hdg (st_done hX hl hA kk rfl (arr_lt (by decide)))
theorem go_lald {pc : Nat} {als s1 : List Value} {A : xH} {i : Int32} {a : Nat} {x : Int64} (C : xCx base old dA D E p s m args meth c M b a0) (hdg : decode b pc = .ok (.laload, 1)) (h : aL A a i = some x) (kk : xK base old dA D p l e R s m args below meth c Q a0 s0 (pc + 1) als (.long x :: s1) A) : xK base old dA D p l e R s m args below meth c Q a0 s0 pc als (.int i :: .ref a :: s1) A := by
  obtain ⟨hx, hb, hml, hown, hts, henv, hini, hz⟩ := C
  intro H locs ls hX hl
  obtain ⟨n, f, hA, hi, rfl⟩ := j_aL h
  exact va_lald hx hb henv.1 hX.1 a 3 (xw_get hA) rfl hi hdg (kk H locs ls hX hl)
theorem go_last {pc : Nat} {als s1 : List Value} {A B : xH} {i : Int32} {a : Nat} {x : Int64} (C : xCx base old dA D E p s m args meth c M b a0) (hdg : decode b pc = .ok (.lastore, 1)) (h : sL A a i x = some B) (kk : xK base old dA D p l e R s m args below meth c Q a0 s0 (pc + 1) als s1 B) : xK base old dA D p l e R s m args below meth c Q a0 s0 pc als (.long x :: .int i :: .ref a :: s1) A := by
  obtain ⟨hx, hb, hml, hown, hts, henv, hini, hz⟩ := C
  intro H locs ls hX hl
  obtain ⟨n, f, hA, hi, rfl⟩ := j_sL h
  exact va_last (x := x) hx hb henv.1 hX.1 xw_D hX.2.2 a 3 (xw_get hA) rfl hi hdg (st_done hX hl hA kk rfl (arr_lt (by decide)))
theorem tyT_obj {t : Nat} (h : t = 4 ∨ t = 5 ∨ t = 6) : xtyT t = .object (xelC t) ∧ t < 7 := by
  rcases h with rfl | rfl | rfl <;> exact ⟨rfl, by decide⟩
theorem go_aald {t pc : Nat} {als s1 : List Value} {A : xH} {i : Int32} {a : Nat} {o : Option Nat} (C : xCx base old dA D E p s m args meth c M b a0) (hdg : decode b pc = .ok (.aaload, 1)) (ht : t = 4 ∨ t = 5 ∨ t = 6) (h : aR t A a i = some o) (kk : xK base old dA D p l e R s m args below meth c Q a0 s0 (pc + 1) als (va_rf o :: s1) A) : xK base old dA D p l e R s m args below meth c Q a0 s0 pc als (.int i :: .ref a :: s1) A := by
  obtain ⟨hx, hb, hml, hown, hts, henv, hini, hz⟩ := C
  intro H locs ls hX hl
  obtain ⟨n, f, hA, hi, rfl⟩ := j_aR h
  obtain ⟨t1, t2⟩ := tyT_obj ht
  have hk := kk H locs ls hX hl
  have e9 : xv base old (va_rf (f i.toNatClampNeg)) = va_rf ((f i.toNatClampNeg).map (base + ·)) := by
    cases f i.toNatClampNeg <;> rfl
  refine va_aldq (C := xelC t) hx hb henv.1 hX.1 a t (xw_get hA) (by rw [← t1]; exact xtys_at dA t2) hi hdg ?_
  show W p l e R s m args below meth c H locs _ _ Q (F0 m (pc + 1) ls (va_rf ((f i.toNatClampNeg).map (base + ·)) :: s1.map (xv base old)))
  rw [← e9]
  exact hk
theorem el_cls {t : Nat} (h : t = 4 ∨ t = 5 ∨ t = 6) : ∃ r : vw_C, xclasses[xelem t]? = some r ∧ r.1 = xelC t := by
  rcases h with rfl | rfl | rfl
  · exact ⟨_, rfl, rfl⟩
  · exact ⟨_, rfl, rfl⟩
  · exact ⟨_, rfl, rfl⟩
theorem map_up {f : Nat → Option Nat} {k : Nat} {o : Option Nat} {g : Nat → Nat} : (fun j => (va_up f k o j).map g) = va_up (fun j => (f j).map g) k (o.map g) := by
  funext j
  unfold va_up
  by_cases h : j = k
  · simp [h]
  · simp [h]
theorem go_aast {t pc : Nat} {als s1 : List Value} {A B : xH} {i : Int32} {a : Nat} {o : Option Nat} (C : xCx base old dA D E p s m args meth c M b a0) (hdg : decode b pc = .ok (.aastore, 1)) (ht : t = 4 ∨ t = 5 ∨ t = 6) (h : sR t A a i o = some B) (kk : xK base old dA D p l e R s m args below meth c Q a0 s0 (pc + 1) als s1 B) : xK base old dA D p l e R s m args below meth c Q a0 s0 pc als (va_rf o :: .int i :: .ref a :: s1) A := by
  obtain ⟨hx, hb, hml, hown, hts, henv, hini, hz⟩ := C
  intro H locs ls hX hl
  obtain ⟨n, f, hA, hel, hi, rfl⟩ := j_sR h
  obtain ⟨t1, t2⟩ := tyT_obj ht
  obtain ⟨r, hr, hrn⟩ := el_cls ht
  have fin := st_done (p := p) (l := l) (e := e) (R := R) (m := m) (args := args) (below := below) (meth := meth) (c := c) (Q := Q) (a0 := a0) (s0 := s0) hX hl hA kk rfl (arr_lt t2)
  have e3 : xce base old dA (.inl (t, n, .inr (.inr (va_up f i.toNatClampNeg o)))) = .inl (dA t, n, .inr (.inr (.inr (.inr (va_up (fun j => (f j).map (base + ·)) i.toNatClampNeg (o.map (base + ·))))))) := by
    show (.inl (dA t, n, .inr (.inr (.inr (.inr (fun j => (va_up f i.toNatClampNeg o j).map (base + ·)))))) : va_E) = _
    rw [map_up]
  rw [e3] at fin
  cases o with
  | none => exact va_astqN (C := xelC t) hx hb henv.1 hX.1 xw_D hX.2.2 a t (xw_get hA) (by rw [← t1]; exact xtys_at dA t2) hi hdg fin
  | some bb =>
    have hcl : xcls A bb = some (xelem t) := by simpa [xelok] using hel
    obtain ⟨vs, hB⟩ := j_cls hcl
    exact va_astq (r := r) hx hb henv.1 hX.1 xw_D hX.2.2 a t bb (xelem t) (xw_get hA) (by rw [hrn, ← t1]; exact xtys_at dA t2) (xw_get hB) hr hi hdg fin
theorem go_alen {pc : Nat} {als s1 : List Value} {A : xH} {a : Nat} {x : Int32} (C : xCx base old dA D E p s m args meth c M b a0) (hdg : decode b pc = .ok (.arraylength, 1)) (h : lA A a = some x) (kk : xK base old dA D p l e R s m args below meth c Q a0 s0 (pc + 1) als (.int x :: s1) A) : xK base old dA D p l e R s m args below meth c Q a0 s0 pc als (.ref a :: s1) A := by
  obtain ⟨hx, hb, hml, hown, hts, henv, hini, hz⟩ := C
  intro H locs ls hX hl
  obtain ⟨t, n, f, hA, rfl⟩ := j_lA h
  have ht := hX.2.1 a t n f hA
  have hw := xw_get (base := base) (old := old) (dA := dA) hA
  obtain f | f | f := f
  · exact va_alen (x := (n, .inl f)) (ty := xtyT t) hx hb henv.1 hX.1 a t hw (xtys_at dA ht) rfl hdg (kk H locs ls hX hl)
  · exact va_alen (x := (n, .inr (.inl f))) (ty := xtyT t) hx hb henv.1 hX.1 a t hw (xtys_at dA ht) rfl hdg (kk H locs ls hX hl)
  · exact va_alen (x := (n, .inr (.inr (.inr (.inr fun j => (f j).map (base + ·)))))) (ty := xtyT t) hx hb henv.1 hX.1 a t hw (xtys_at dA ht) rfl hdg (kk H locs ls hX hl)
theorem go_slen {pc : Nat} {als s1 : List Value} {A : xH} (C : xCx base old dA D E p s m args meth c M b a0) (hdg : decode b pc = .ok (.arraylength, 1)) (kk : xK base old dA D p l e R s m args below meth c Q a0 s0 (pc + 1) als (.int (Int32.ofNat E.1) :: s1) A) : xK base old dA D p l e R s m args below meth c Q a0 s0 pc als (.float 0 :: s1) A := by
  obtain ⟨hx, hb, hml, hown, hts, henv, hini, hz⟩ := C
  intro H locs ls hX hl
  obtain ⟨-, -, -, -, hXs, hbl, hbs, -⟩ := henv
  exact va_slen (b := old 0) hx hb hXs (by omega) (by omega) hX.2.2 hdg (kk H locs ls hX hl)
theorem i_newa {t : ArrayType} {pc : Nat} {ls st : List Value} {A : xH} {n : xN} (h : xnewa xgo0 t pc ls st A = some n) : ∃ k s1 tg cN, st = .int k :: s1 ∧ ¬ k < 0 ∧ k.toNatClampNeg ≤ 100000 ∧ n = .inl (pc + 2, ls, .ref A.length :: s1, A ++ [cN]) ∧ ((t = .int ∧ tg = 0 ∧ cN = .inl (0, k.toNatClampNeg, .inl fun _ => 0)) ∨ (t = .byte ∧ tg = 1 ∧ cN = .inl (1, k.toNatClampNeg, .inl fun _ => 0)) ∨ (t = .boolean ∧ tg = 2 ∧ cN = .inl (2, k.toNatClampNeg, .inl fun _ => 0)) ∨ (t = .long ∧ tg = 3 ∧ cN = .inl (3, k.toNatClampNeg, .inr (.inl fun _ => 0)))) := by
  unfold xnewa at h
  split at h
  · split at h
    · cases h
    · rename_i hk
      have h1 := fun q => hk (Or.inl q)
      have h2 := Nat.not_lt.mp (fun q => hk (Or.inr q))
      split at h
      · exact ⟨_, _, 0, _, rfl, h1, h2, (Option.some.inj h).symm, Or.inl ⟨rfl, rfl, rfl⟩⟩
      · exact ⟨_, _, 1, _, rfl, h1, h2, (Option.some.inj h).symm, Or.inr (Or.inl ⟨rfl, rfl, rfl⟩)⟩
      · exact ⟨_, _, 2, _, rfl, h1, h2, (Option.some.inj h).symm, Or.inr (Or.inr (Or.inl ⟨rfl, rfl, rfl⟩))⟩
      · exact ⟨_, _, 3, _, rfl, h1, h2, (Option.some.inj h).symm, Or.inr (Or.inr (Or.inr ⟨rfl, rfl, rfl⟩))⟩
      · cases h
  · cases h
/-- room for a new cell -/
theorem new_room {A : xH} {cN : xA} {R : Room} (ha : a0 ≤ A.length) (hs : s0 ≤ xsl A) (h1 : (A ++ [cN]).length - a0 ≤ R.cells) (h2 : xsl (A ++ [cN]) - s0 ≤ R.slots) : A.length - a0 + 1 ≤ R.cells ∧ xsl A - s0 + xsz cN ≤ R.slots := by
  rw [List.length_append] at h1
  rw [xsl_app] at h2
  simp at h1
  omega
theorem go_newa {t : ArrayType} {pc : Nat} {als st : List Value} {A : xH} {pc' : Nat} {als' st' : List Value} {A' : xH} (C : xCx base old dA D E p s m args meth c M b a0) (ha : a0 ≤ A.length) (hs : s0 ≤ xsl A) (h1 : A'.length - a0 ≤ R.cells) (h2 : xsl A' - s0 ≤ R.slots) (hdg : decode b pc = .ok (.newarray t, 2)) (h : xnewa xgo0 t pc als st A = some (.inl (pc', als', st', A'))) (kk : xK base old dA D p l e R s m args below meth c Q a0 s0 pc' als' st' A') : xK base old dA D p l e R s m args below meth c Q a0 s0 pc als st A := by
  obtain ⟨hx, hb, hml, hown, hts, henv, hini, hz⟩ := C
  intro H locs ls hX hl
  obtain ⟨k, s1, tg, cN, rfl, hk0, hk1, e, hc⟩ := i_newa h
  cases e
  obtain ⟨r1, r2⟩ := new_room ha hs h1 h2
  have hA : ∀ q, s.heap.size ≤ q → (fun q => base ≤ q) q := fun q hq => by show base ≤ q; omega
  rcases hc with ⟨rfl, rfl, rfl⟩ | ⟨rfl, rfl, rfl⟩ | ⟨rfl, rfl, rfl⟩ | ⟨rfl, rfl, rfl⟩
  · refine va_newa (atype := .int) (ty := xtyT 0) (a0 := (k.toNatClampNeg, .inl fun _ => 0)) hx hb (hts _ wy_int) rfl henv.1 hX.1 xw_D hX.2.2 hA (fun cA => rfl) hk0 rfl (by show k.toNatClampNeg * 4 ≤ _; omega) r1 r2 hdg (fun q cA H1 hK' hP hD hS => ?_)
    have := cls_at (by decide) henv.1 hK'
    subst this
    exact new_done hz ha hs hX hl kk rfl (arr_lt (by decide)) q H1 hP hD hS
  · refine va_newa (atype := .byte) (ty := xtyT 1) (a0 := (k.toNatClampNeg, .inl fun _ => 0)) hx hb (hts _ wy_byte) rfl henv.1 hX.1 xw_D hX.2.2 hA (fun cA => rfl) hk0 rfl (by show k.toNatClampNeg * 1 ≤ _; omega) r1 r2 hdg (fun q cA H1 hK' hP hD hS => ?_)
    have := cls_at (by decide) henv.1 hK'
    subst this
    exact new_done hz ha hs hX hl kk rfl (arr_lt (by decide)) q H1 hP hD hS
  · refine va_newa (atype := .boolean) (ty := xtyT 2) (a0 := (k.toNatClampNeg, .inl fun _ => 0)) hx hb (hts _ wy_boolean) rfl henv.1 hX.1 xw_D hX.2.2 hA (fun cA => rfl) hk0 rfl (by show k.toNatClampNeg * 1 ≤ _; omega) r1 r2 hdg (fun q cA H1 hK' hP hD hS => ?_)
    have := cls_at (by decide) henv.1 hK'
    subst this
    exact new_done hz ha hs hX hl kk rfl (arr_lt (by decide)) q H1 hP hD hS
  · refine va_newa (atype := .long) (ty := xtyT 3) (a0 := (k.toNatClampNeg, .inr (.inl fun _ => 0))) hx hb (hts _ wy_long) rfl henv.1 hX.1 xw_D hX.2.2 hA (fun cA => rfl) hk0 rfl (by show k.toNatClampNeg * 8 ≤ _; omega) r1 r2 hdg (fun q cA H1 hK' hP hD hS => ?_)
    have := cls_at (by decide) henv.1 hK'
    subst this
    exact new_done hz ha hs hX hl kk rfl (arr_lt (by decide)) q H1 hP hD hS
theorem go_anew {lk idx pc : Nat} {als s1 : List Value} {A : xH} {o i t : Nat} {fs : List Value} {k : Int32} (C : xCx base old dA D E p s m args meth c M b a0) (ha : a0 ≤ A.length) (hs : s0 ≤ xsl A) (h1 : (A ++ [(.inl (t, k.toNatClampNeg, .inr (.inr fun _ => none)) : xA)]).length - a0 ≤ R.cells) (h2 : xsl (A ++ [.inl (t, k.toNatClampNeg, .inr (.inr fun _ => none))]) - s0 ≤ R.slots) (hdg : decode b pc = .ok (.anewarray idx, 3)) (hT : xKL[lk]? = some (o, i, t, fs)) (ho : o = M.1 ∧ i = idx ∧ 4 ≤ t ∧ t ≤ 6) (hk : ¬ (k < 0 ∨ 100000 < k.toNatClampNeg)) (kk : xK base old dA D p l e R s m args below meth c Q a0 s0 (pc + 3) als (.ref A.length :: s1) (A ++ [.inl (t, k.toNatClampNeg, .inr (.inr fun _ => none))])) : xK base old dA D p l e R s m args below meth c Q a0 s0 pc als (.int k :: s1) A := by
  obtain ⟨hx, hb, hml, hown, hts, henv, hini, hz⟩ := C
  intro H locs ls hX hl
  obtain ⟨rfl, rfl, h4, h6⟩ := ho
  obtain ⟨r1, r2⟩ := new_room ha hs h1 h2
  have hA : ∀ q, s.heap.size ≤ q → (fun q => base ≤ q) q := fun q hq => by show base ≤ q; omega
  have hk0 := fun q => hk (Or.inl q)
  have hk1 := Nat.not_lt.mp (fun q => hk (Or.inr q))
  have hlink : Cond.classLink (xcn M.1) i (xelC t) ∈ gw := by
    rcases kl_all _ (List.mem_of_getElem? hT) with ⟨q, -⟩ | ⟨-, -, q⟩ | ⟨q, -⟩
    · exfalso; have : t = 0 := q; omega
    · exact q
    · exfalso; have : 100 ≤ t := q; omega
  have ht : t = 4 ∨ t = 5 ∨ t = 6 := by omega
  obtain ⟨t1, t2⟩ := tyT_obj ht
  have hover : va_AO (xelC t) s := by
    obtain ⟨-, -, ⟨o1, o2, o3⟩, -⟩ := henv
    rcases ht with rfl | rfl | rfl
    · exact o1
    · exact o2
    · exact o3
  refine va_newq (C := xelC t) hx hb hown (hts _ hlink) hover henv.1 hX.1 xw_D hX.2.2 hA hk0 rfl (by omega) r1 r2 hdg (fun q cA H1 hK' hP hD hS => ?_)
  rw [← t1] at hK'
  have := cls_at t2 henv.1 hK'
  subst this
  exact new_done hz ha hs hX hl kk rfl (arr_lt t2) q H1 hP hD hS
theorem map_dflt {fs : List Value} (h : ∀ v ∈ fs, v = .null ∨ v = .int 0) : fs.map (xv base old) = fs := by
  induction fs with
  | nil => rfl
  | cons v fs ih =>
    rw [List.map_cons, ih (fun w hw => h w (List.mem_cons_of_mem _ hw))]
    rcases h v List.mem_cons_self with rfl | rfl <;> rfl
theorem kl_plain : ∀ e ∈ xKL, ∀ v ∈ e.2.2.2, v = .null ∨ v = .int 0 := by
  unfold xKL
  decide
theorem go_new {lk idx pc : Nat} {als st : List Value} {A : xH} {o i t : Nat} {fs : List Value} (C : xCx base old dA D E p s m args meth c M b a0) (ha : a0 ≤ A.length) (hs : s0 ≤ xsl A) (h1 : (A ++ [(.inr (t - 100, fs) : xA)]).length - a0 ≤ R.cells) (h2 : xsl (A ++ [.inr (t - 100, fs)]) - s0 ≤ R.slots) (hdg : decode b pc = .ok (.new idx, 3)) (hT : xKL[lk]? = some (o, i, t, fs)) (ho : o = M.1 ∧ i = idx) (h100 : 100 ≤ t) (kk : xK base old dA D p l e R s m args below meth c Q a0 s0 (pc + 3) als (.ref A.length :: st) (A ++ [.inr (t - 100, fs)])) : xK base old dA D p l e R s m args below meth c Q a0 s0 pc als st A := by
  obtain ⟨hx, hb, hml, hown, hts, henv, hini, hz⟩ := C
  intro H locs ls hX hl
  obtain ⟨rfl, rfl⟩ := ho
  obtain ⟨r1, r2⟩ := new_room ha hs h1 h2
  have hA : ∀ q, s.heap.size ≤ q → (fun q => base ≤ q) q := fun q hq => by show base ≤ q; omega
  rcases kl_all _ (List.mem_of_getElem? hT) with ⟨q, -⟩ | ⟨-, q, -⟩ | ⟨-, hlt, hlink, hF⟩
  · exfalso; have : t = 0 := q; omega
  · exfalso; have : t ≤ 6 := q; omega
  · have hlt' : t - 100 < 10 := by have : t < 110 := hlt; omega
    obtain ⟨C, T, N, ty, hc, hty, hCn, hws, htyok, hnm, hinst, hini2, hT1⟩ := xk_all (t - 100) hlt'
    obtain ⟨hlen, hdf⟩ := hF C T N ty hc hty
    have hlen' : fs.length = N := hlen
    have hmap := map_dflt (base := base) (old := old) (kl_plain _ (List.mem_of_getElem? hT))
    have hlink' : Cond.classLink (xcn M.1) i C ∈ gw := by rw [hCn]; exact hlink
    refine va_new (D := D) (ci := t - 100) (C := C) (T := T) (N := N) (fs := fs) hx hb hts hws ty htyok hown (hts _ hlink') (hts _ hinst) (hts _ hini2) henv.1 hX.1 xw_D hX.2.2 hA hc (fun j hj => (hdf j hj).1) r1 (by rw [← hlen']; exact r2) hdg (fun q H1 hP hD hS => ?_)
    have e9 : xce base old dA (.inr (t - 100, fs)) = .inr (t - 100, fs) := by
      show (.inr (t - 100, fs.map (xv base old)) : va_E) = _
      rw [hmap]
    have := new_done (cN := .inr (t - 100, fs)) hz ha hs hX hl kk (n := N) hlen' (fun _ _ _ h => by cases h) q H1
    rw [e9] at this
    exact this hP hD hS
end XS2
