/-! ===== calls, returns, and the whole: what the abstract machine comes to, the machine comes to ===== -/
theorem xpop_inv : ∀ (n : Nat) (acc st as s1 : List Value), xpop n acc st = some (as, s1) → ∃ pre, st = pre ++ s1 ∧ as = pre.reverse ++ acc ∧ pre.length = n
  | 0, acc, st, as, s1, h => by
    cases h
    exact ⟨[], rfl, rfl, rfl⟩
  | n + 1, acc, [], as, s1, h => by cases h
  | n + 1, acc, v :: st, as, s1, h => by
    obtain ⟨pre, h1, h2, h3⟩ := xpop_inv n (v :: acc) st as s1 h
    exact ⟨v :: pre, by rw [h1]; rfl, by rw [h2]; simp, by rw [← h3]; rfl⟩
/-- the locals with which a method begins -/
theorem sl_len (base : Nat) (old : Nat → Nat) : ∀ as : List Value, (lg_sl (as.map (xv base old))).length = (xspread as).length
  | [] => rfl
  | v :: as => by
    have ih := sl_len base old as
    have e : lg_sl ((v :: as).map (xv base old)) = (if (xv base old v).category = 2 then [.val (xv base old v), .second] else [.val (xv base old v)]) ++ lg_sl (as.map (xv base old)) := by
      simp [lg_sl]
    rw [e, List.length_append, ih, xv_cat]
    cases v <;> simp [Value.category, xspread] <;> omega
theorem args_mem (base : Nat) (old : Nat → Nat) : ∀ (as : List Value) (i k : Nat), (∀ z, xg (xspread as) i ≠ .retAddr z) → (k + i, xv base old (xg (xspread as) i)) ∈ lv_args k (as.map (xv base old))
  | [], i, k, h => absurd rfl (h 0)
  | v :: as, i, k, h => by
    show _ ∈ (k, xv base old v) :: lv_args (if (xv base old v).category = 2 then k + 2 else k + 1) (as.map (xv base old))
    rw [xv_cat]
    cases v with
    | long x =>
      match i, h with
      | 0, _ => exact List.mem_cons_self
      | 1, h => exact absurd rfl (h 0)
      | j + 2, h =>
        have := args_mem base old as j (k + 2) h
        rw [show k + (j + 2) = k + 2 + j by omega]
        exact List.mem_cons_of_mem _ this
    | double x =>
      match i, h with
      | 0, h => exact absurd rfl (h 0)
      | 1, h => exact absurd rfl (h 0)
      | j + 2, h =>
        have := args_mem base old as j (k + 2) h
        rw [show k + (j + 2) = k + 2 + j by omega]
        exact List.mem_cons_of_mem _ this
    | int x =>
      match i, h with
      | 0, _ => exact List.mem_cons_self
      | j + 1, h =>
        have := args_mem base old as j (k + 1) h
        rw [show k + (j + 1) = k + 1 + j by omega]
        exact List.mem_cons_of_mem _ this
    | float x =>
      match i, h with
      | 0, _ => exact List.mem_cons_self
      | j + 1, h =>
        have := args_mem base old as j (k + 1) h
        rw [show k + (j + 1) = k + 1 + j by omega]
        exact List.mem_cons_of_mem _ this
    | null =>
      match i, h with
      | 0, _ => exact List.mem_cons_self
      | j + 1, h =>
        have := args_mem base old as j (k + 1) h
        rw [show k + (j + 1) = k + 1 + j by omega]
        exact List.mem_cons_of_mem _ this
    | ref x =>
      match i, h with
      | 0, _ => exact List.mem_cons_self
      | j + 1, h =>
        have := args_mem base old as j (k + 1) h
        rw [show k + (j + 1) = k + 1 + j by omega]
        exact List.mem_cons_of_mem _ this
    | retAddr x =>
      match i, h with
      | 0, h => exact absurd rfl (h x)
      | j + 1, h =>
        have := args_mem base old as j (k + 1) h
        rw [show k + (j + 1) = k + 1 + j by omega]
        exact List.mem_cons_of_mem _ this
theorem xpad_len : ∀ (n : Nat) (l : List Value), l.length ≤ n → (xpad n l).length = n
  | 0, l, h => by
    have : l = [] := List.length_eq_zero_iff.mp (by omega)
    subst this; rfl
  | n + 1, [], _ => by
    show (xpad n []).length + 1 = n + 1
    rw [xpad_len n [] (Nat.zero_le _)]
  | n + 1, v :: l, h => by
    show (xpad n l).length + 1 = n + 1
    rw [xpad_len n l (by simpa using h)]
theorem xpad_get : ∀ (n : Nat) (l : List Value) (i : Nat), l.length ≤ n → xg (xpad n l) i = xg l i
  | 0, l, i, _ => rfl
  | n + 1, [], i, _ => by
    cases i with
    | zero => rfl
    | succ i => exact xpad_get n [] i (Nat.zero_le _)
  | n + 1, v :: l, i, h => by
    cases i with
    | zero => rfl
    | succ i => exact xpad_get n l i (by simpa using h)
theorem xLoc_entry {base : Nat} {old : Nat → Nat} {as : List Value} {n : Nat} (h : (xspread as).length ≤ n) : xLoc base old (xpad n (xspread as)) ((lg_sl (as.map (xv base old)) ++ List.replicate (n - (lg_sl (as.map (xv base old))).length) Slot.unset).toArray) := by
  have hl := lv_entry (as.map (xv base old)) (n := n) (by rw [sl_len]; exact h)
  refine ⟨hl.1.trans (xpad_len n _ h).symm, hl.2.1, fun i hi => ?_⟩
  rw [xpad_get n _ i h] at hi ⊢
  have := args_mem base old as i 0 hi
  rw [Nat.zero_add] at this
  exact hl.2.2 _ this
set_option maxRecDepth 100000 in
theorem xprog_len : xprog.length = 303 := by decide +kernel
set_option maxRecDepth 100000 in
theorem xmeta_len : xmeta.length = 303 := by decide +kernel
theorem xprog_some {mid : Nat} (h : mid < 303) : ∃ M, xprog[mid]? = some M := by
  cases hq : xprog[mid]? with
  | none =>
    have := List.getElem?_eq_none_iff.mp hq
    rw [xprog_len] at this
    omega
  | some M => exact ⟨M, rfl⟩
theorem xmeta_some {mid : Nat} (h : mid < 303) : ∃ y, xmeta[mid]? = some y := by
  cases hq : xmeta[mid]? with
  | none =>
    have := List.getElem?_eq_none_iff.mp hq
    rw [xmeta_len] at this
    omega
  | some M => exact ⟨M, rfl⟩
section XMAIN
variable {base : Nat} {old : Nat → Nat} {dA : Nat → ClassId} {D : va_G} {E : Nat × (Nat → Int32)}
def xPc (base : Nat) (old : Nat → Nat) (dA : Nat → ClassId) (D : va_G) (E : Nat × (Nat → Int32)) (as : List Value) (A : xH) : Array Value → State → Prop := fun a U => a = (as.map (xv base old)).toArray ∧ U.heap.size = base + A.length ∧ va_P D xclasses (xw base old dA A) U.heap ∧ xtok A ∧ xEnv base old dA D E U
def xQc (base : Nat) (old : Nat → Nat) (dA : Nat → ClassId) (D : va_G) (v : Option Value) (A' : xH) : Array Value → State → Outcome → State → Prop := fun _ st o t => o = .returned (v.map (xv base old)) ∧ va_P D xclasses (xw base old dA A') t.heap ∧ xtok A' ∧ va_F (fun q => base ≤ q) st t
def xrm (d : Nat) (A A' : xH) : Room := { frames := d + 4, cells := A'.length - A.length, slots := xsl A' - xsl A, locals := 64 * d + 100 }
/-- the contract of a run of the abstract machine -/
def xMet (base : Nat) (old : Nat → Nat) (dA : Nat → ClassId) (D : va_G) (E : Nat × (Nat → Int32)) (l : Launch) (d : Nat) (y : MethodName) (b : ByteArray) (mx : Nat) (rt : Option FieldType) (as : List Value) (A : xH) (v : Option Value) (A' : xH) : Prop :=
  Met l y (.code y b mx rt :: gw) (xrm d A A') (xPc base old dA D E as A) (xQc base old dA D v A') (A'.length - A.length) (xsl A' - xsl A) (fun q => base ≤ q)
variable {p : Program} {l : Launch} {e : Env} {R : Room} {s : State} {m : MethodId} {args : Array Value} {below : List Frame} {meth : Method} {c : Code} {Q : State → Prop}
variable {M : xM} {b : ByteArray} {a0 s0 : Nat}
theorem run_done {pc : Nat} {als s1 : List Value} {A A' : xH} {v : Option Value} {H : Heap} {locs : List Loc} {ls : Array Slot} {st0 : List Value} {a : Array Value} (ha : a0 ≤ A.length) (hs : s0 ≤ xsl A) (hg : A.length ≤ A'.length ∧ xsl A ≤ xsl A') (hX : xAt base old dA D s A H locs) (hl : xLoc base old als ls)
    (hr : va_Run p l e R s m args below meth c H locs (A.length - a0) (xsl A - s0) (A'.length - A.length) (xsl A' - xsl A) (F0 m pc ls st0) (s1.map (xv base old)) (xQc base old dA D v A' a) (fun q => base ≤ q)) (kk : xK base old dA D p l e R s m args below meth c Q a0 s0 (pc + 3) als (v.toList ++ s1) A') :
    W p l e R s m args below meth c H locs (A.length - a0) (xsl A - s0) Q (F0 m pc ls st0) := by
  intro T hT X
  obtain ⟨v', st₀, t, T', L, h0, X', hL, e1, e2, ⟨hv, hP, htk, hF⟩, st⟩ := hr T hT X
  cases hv
  have hS : va_S (fun q => base ≤ q) s.heap T'.heap (locs ++ L) := by
    obtain ⟨hF1, hF2⟩ := hF
    rw [h0] at hF1 hF2
    refine ⟨?_, fun q h1 h2 => ?_, fun q hq => ?_⟩
    · rw [e1]
      exact Nat.le_trans hX.2.2.1 hF1
    · rw [e1, hF2 q (Nat.lt_of_lt_of_le h1 hX.2.2.1) h2]
      exact hX.2.2.2.1 q h1 h2
    · rcases List.mem_append.mp hq with h | h
      · exact hX.2.2.2.2 q h
      · exact hL q h
  have hk := kk T'.heap (locs ++ L) ls ⟨by rw [e1]; exact hP, htk, hS⟩ hl
  have c1 : A.length - a0 + (A'.length - A.length) = A'.length - a0 := by omega
  have c2 : xsl A - s0 + (xsl A' - xsl A) = xsl A' - s0 := by omega
  rw [c1, c2] at X'
  obtain ⟨t2, a1, b1⟩ := hk T' rfl X'
  refine ⟨t2, st t2 ?_, b1⟩
  have e3 : (v.toList ++ s1).map (xv base old) = (v.map (xv base old)).toList ++ s1.map (xv base old) := by
    cases v <;> rfl
  rw [e3] at a1
  exact a1
theorem call_ok {ik idx lk pc : Nat} {als st : List Value} {A A' : xH} {v : Option Value} {w : (Nat × List Value × Nat) × (Nat × List Value × List Value × xH)} {d : Nat} (C : xCx base old dA D E p s m args meth c M b a0) (hal : als.length = M.2.2.2.1) (ha : a0 ≤ A.length) (hs : s0 ≤ xsl A) (hg : A.length ≤ A'.length ∧ xsl A ≤ xsl A') (h1 : A'.length - a0 ≤ R.cells) (h2 : xsl A' - s0 ≤ R.slots) (hfr : d + 5 ≤ R.frames) (hlo : 64 * (d + 1) + 100 ≤ R.locals) (hik : ik < 3)
    (hdg : (ik = 0 → decode b pc = .ok (.invokevirtual idx, 3)) ∧ (ik = 1 → decode b pc = .ok (.invokespecial idx, 3)) ∧ (ik = 2 → decode b pc = .ok (.invokestatic idx, 3))) (h : xinv xtabs M.1 xgo0 xcl0 ik idx lk pc als st A = some (.inr (.inl w)))
    (hrec : ∀ M', xprog[w.1.1]? = some M' → xrecv M' w.1.2.1 A = true)
    (hM : ∀ (M' : xM) (y : MethodName) (b' : ByteArray) (rt : Option FieldType), w.1.1 < 302 → xprog[w.1.1]? = some M' → xmeta[w.1.1]? = some (y, b', rt) → xMet base old dA D E l d y b' M'.2.2.2.1 rt w.1.2.1 A v A')
    (kk : xK base old dA D p l e R s m args below meth c Q a0 s0 w.2.1 w.2.2.1 (v.toList ++ w.2.2.2.1) A') : xK base old dA D p l e R s m args below meth c Q a0 s0 pc als st A := by
  obtain ⟨hx, hb, hml, hown, hts, henv, hini, hz⟩ := C
  obtain ⟨kd, mid, na, rk, hT, hkd, hc⟩ := i_inv h
  have hlink := ml_all _ (List.mem_of_getElem? (show xML[lk]? = some _ from hT))
  rcases hc with ⟨_, _, _, -, -, q⟩ | ⟨_, _, _, _, -, -, q⟩ | ⟨_, _, _, _, -, -, q⟩ | ⟨_, _, _, _, _, _, _, _, -, -, -, q⟩ | ⟨_, _, _, _, -, -, -, q⟩ | ⟨_, _, _, _, _, -, -, -, q⟩ | ⟨_, _, _, _, -, -, -, q⟩ | ⟨hk6, as, s1, hpop, hcat, q⟩
  · cases q
  · cases q
  · cases q
  · cases q
  · cases q
  · cases q
  · cases q
  cases q
  dsimp only at hrec hM kk
  obtain ⟨pre, rfl, has, hlen⟩ := xpop_inv _ _ _ _ _ hpop
  rw [List.append_nil] at has
  have hst : ((pre ++ s1).map (xv base old)) = (as.map (xv base old)).reverse ++ s1.map (xv base old) := by
    rw [has, List.map_append, List.map_reverse, List.reverse_reverse]
  have hasl : as.length = na := by rw [has, List.length_reverse, hlen]
  refine xK.size hz ha (fun H locs ls hX hsz hl => ?_)
  rw [hst]
  have hmlL : c.maxLocals = ls.size := by rw [hml, ← hal]; exact hl.1.symm
  have hroom : A.length - a0 + (A'.length - A.length) ≤ R.cells ∧ xsl A - s0 + (xsl A' - xsl A) ≤ R.slots := by omega
  have hW8 : ((s1.map (xv base old)).map fun v => v.category).sum ≤ 8 := by rw [cat_sum]; exact hcat
  have hpreS : ∀ U : State, U.heap = H → s.WarmedH U.vm → xPc base old dA D E as A (as.map (xv base old)).toArray U := fun U hU hW => ⟨rfl, by rw [hU]; exact hsz, by rw [hU]; exact hX.1, hX.2.1, xEnv_warm hU hW hX.2.2 henv⟩
  have hblind : FrameBlind (xPc base old dA D E as A) := fun a U g mk q => ⟨q.1, q.2.1, q.2.2.1, q.2.2.2.1, xEnv_same (U := U) (U' := U.calling g mk a) rfl rfl q.2.2.2.2⟩
  have main : ∀ (k0 : Nat) (nst : Bool), xLk M.1 idx k0 mid na nst → k0 < 3 → (k0 = 0 → ik = 0) → (k0 = 1 → ik = 2) → (k0 = 2 → ik = 1) → W p l e R s m args below meth c H locs (A.length - a0) (xsl A - s0) Q (F0 m pc ls ((as.map (xv base old)).reverse ++ s1.map (xv base old))) := by
    intro k0 nst hL hk0 hi0 hi1 hi2
    obtain ⟨hmid, hL⟩ := hL
    obtain ⟨M', hP⟩ := xprog_some (mid := mid) (by omega)
    obtain ⟨⟨y, b', rt⟩, hY⟩ := xmeta_some (mid := mid) (by omega)
    obtain ⟨hl1, hl2, hl3, hl4⟩ := hL M' y b' rt hP hY
    obtain ⟨g1, g2, g3, g4, g5, g6, g7, g8⟩ := mk_all mid hmid M' y b' rt hP hY
    have hMet := hM M' y b' rt hmid hP hY
    have hrc := hrec M' hP
    have hroom2 : (xrm d A A').frames + 1 ≤ R.frames ∧ 8 + (M'.2.2.2.1 + 11) + (xrm d A A').locals ≤ R.locals := by
      refine ⟨hfr, ?_⟩
      show 8 + (M'.2.2.2.1 + 11) + (64 * d + 100) ≤ R.locals
      omega
    have recv : ∀ a as', as = .ref a :: as' → M'.1 < 10 → (M'.2.2.1 = 0 ∨ M'.2.2.1 = 2) → ∃ cellB : Cell, H[base + a]? = some cellB ∧ cellB.vm.isStatics = false ∧ s.vm.findClass y.cls = some cellB.cls := by
      intro a as' e hlt hst
      rw [e] at hrc
      have hcl : xcls A a = some M'.1 := by
        unfold xrecv at hrc
        rcases hst with q | q <;> rw [q] at hrc <;> simpa using hrc
      obtain ⟨fs, hA⟩ := j_cls hcl
      obtain ⟨C, T, N, ty, hc, hty, hCn, -⟩ := xk_all M'.1 hlt
      have := va_recv henv.1 hX.1 hc (xw_get hA)
      rw [g2, ← hCn]
      exact this
    have hcons : k0 ≠ 1 → ∃ a as', as = .ref a :: as' := by
      intro hne
      unfold xrecv at hrc
      have hn1 : M'.2.2.1 ≠ 1 := by rw [hl2]; exact hne
      split at hrc
      · rename_i q; exact absurd q hn1
      · split at hrc
        · exact ⟨_, _, rfl⟩
        · cases hrc
    match k0, hk0 with
    | 0, _ =>
      obtain ⟨a, as', e⟩ := hcons (by decide)
      rw [hl2] at g7
      obtain ⟨hlt, gi, gs⟩ := g7
      have hrcv := recv a as' e hlt (Or.inl hl2)
      subst e
      have hn : (as'.map (xv base old)).length = na - 1 := by rw [List.length_map, ← hasl]; simp
      have hl3' : (parseMethodDescriptor y.desc).map (fun d => d.parameters.length) = some (na - 1) := hl3
      have hstk : (((Value.ref a :: as').map (xv base old)).reverse ++ s1.map (xv base old)) = (as'.map (xv base old)).reverse ++ .ref (base + a) :: s1.map (xv base old) := by
        simp [xv]
      rw [hstk]
      cases nst with
      | false =>
        refine run_done ha hs hg hX hl (va_runV (Ts := gw) (nL := ls.size) (C := y.cls) (b := base + a) (As := as'.map (xv base old)) ⟨hx, hb, hmlL, hown, hts⟩ hMet ⟨callB_of (na - 1) hts (gw_goodIn g1) rfl rfl rfl (hts _ g5) (hts _ (by simpa using hl1)) ⟨g4.1, g4.2, hl3'⟩ hroom2, hts _ gi, hts _ gs⟩ ⟨hblind, hrcv, hpreS⟩ rfl hn rfl rfl (lv_room hW8) (hdg.1 (hi0 rfl)) hroom) kk
      | true =>
        refine run_done ha hs hg hX hl (va_runVN (Ts := gw) (nL := ls.size) (C := y.cls) (host := "TwinBuckets") (b := base + a) (As := as'.map (xv base old)) ⟨hx, hb, hmlL, hown, hts⟩ hMet ⟨va_cnB (na - 1) hts (gw_goodIn g1) rfl rfl rfl (henv.2.1 _ (by simpa using hl1)) (hts _ g5) ⟨g4.1, g4.2, hl3'⟩ hroom2, hts _ gi, hts _ gs⟩ ⟨hblind, hrcv, hpreS⟩ rfl hn rfl rfl (lv_room hW8) (hdg.1 (hi0 rfl)) hroom) kk
    | 1, _ =>
      rw [hl2] at g7
      have hn : (as.map (xv base old)).length = na := by rw [List.length_map, ← hasl]
      have hl3' : (parseMethodDescriptor y.desc).map (fun d => d.parameters.length) = some na := hl3
      cases nst with
      | false =>
        refine run_done ha hs hg hX hl (va_runS (Ts := gw) (nL := ls.size) (As := as.map (xv base old)) ⟨hx, hb, hmlL, hown, hts⟩ hMet ⟨callB_of na hts (gw_goodIn g1) rfl rfl rfl (hts _ g5) (hts _ (by simpa using hl1)) ⟨g4.1, g4.2, hl3'⟩ hroom2, hts _ g7⟩ ⟨hblind, hpreS⟩ rfl hn rfl rfl (lv_room hW8) (hdg.2.2 (hi1 rfl)) hroom) kk
      | true =>
        refine run_done ha hs hg hX hl (va_runSN (Ts := gw) (nL := ls.size) (host := "TwinBuckets") (As := as.map (xv base old)) ⟨hx, hb, hmlL, hown, hts⟩ hMet ⟨va_cnB na hts (gw_goodIn g1) rfl rfl rfl (henv.2.1 _ (by simpa using hl1)) (hts _ g5) ⟨g4.1, g4.2, hl3'⟩ hroom2, hts _ g7, trivial⟩ ⟨hblind, hpreS⟩ rfl hn rfl rfl (lv_room hW8) (hdg.2.2 (hi1 rfl)) hroom) kk
    | 2, _ =>
      obtain ⟨a, as', e⟩ := hcons (by decide)
      rw [hl2] at g7
      obtain ⟨hlt, -, gi, gn, hrt⟩ := g7
      subst e
      have hn : (as'.map (xv base old)).length = na - 1 := by rw [List.length_map, ← hasl]; simp
      have hl3' : (parseMethodDescriptor y.desc).map (fun d => d.parameters.length) = some (na - 1) := hl3
      have hstk : (((Value.ref a :: as').map (xv base old)).reverse ++ s1.map (xv base old)) = (as'.map (xv base old)).reverse ++ .ref (base + a) :: s1.map (xv base old) := by
        simp [xv]
      rw [hstk]
      subst hrt
      cases nst with
      | false =>
        refine run_done ha hs hg hX hl (va_runI (Ts := gw) (nL := ls.size) (b := base + a) (As := as'.map (xv base old)) ⟨hx, hb, hmlL, hown, hts⟩ hMet ⟨callB_of (na - 1) hts (gw_goodIn g1) rfl rfl rfl (hts _ g5) (hts _ (by simpa using hl1)) ⟨g4.1, g4.2, hl3'⟩ hroom2, gn, hts _ gi⟩ ⟨hblind, hpreS⟩ rfl hn rfl rfl (lv_room hW8) (hdg.2.1 (hi2 rfl)) hroom) kk
      | true =>
        refine run_done ha hs hg hX hl (va_runIN (Ts := gw) (nL := ls.size) (host := "TwinBuckets") (b := base + a) (As := as'.map (xv base old)) ⟨hx, hb, hmlL, hown, hts⟩ hMet ⟨va_cnB (na - 1) hts (gw_goodIn g1) rfl rfl rfl (henv.2.1 _ (by simpa using hl1)) (hts _ g5) ⟨g4.1, g4.2, hl3'⟩ hroom2, gn, hts _ gi⟩ ⟨hblind, hpreS⟩ rfl hn rfl rfl (lv_room hW8) (hdg.2.1 (hi2 rfl)) hroom) kk
  unfold xMLok at hlink
  dsimp only at hlink
  match kd, hk6 with
  | 0, _ => exact main 0 false hlink (by decide) (fun _ => by match ik, hik, hkd with | 0, _, _ => rfl | 1, _, q => exact absurd q (by decide) | 2, _, q => exact absurd q (by decide)) (fun q => absurd q (by decide)) (fun q => absurd q (by decide))
  | 1, _ => exact main 1 false hlink (by decide) (fun q => absurd q (by decide)) (fun _ => by match ik, hik, hkd with | 0, _, q => exact absurd q (by decide) | 1, _, q => exact absurd q (by decide) | 2, _, _ => rfl) (fun q => absurd q (by decide))
  | 2, _ => exact main 2 false hlink (by decide) (fun q => absurd q (by decide)) (fun q => absurd q (by decide)) (fun _ => by match ik, hik, hkd with | 0, _, q => exact absurd q (by decide) | 1, _, _ => rfl | 2, _, q => exact absurd q (by decide))
  | 3, _ => exact main 0 true hlink (by decide) (fun _ => by match ik, hik, hkd with | 0, _, _ => rfl | 1, _, q => exact absurd q (by decide) | 2, _, q => exact absurd q (by decide)) (fun q => absurd q (by decide)) (fun q => absurd q (by decide))
  | 4, _ => exact main 1 true hlink (by decide) (fun q => absurd q (by decide)) (fun _ => by match ik, hik, hkd with | 0, _, q => exact absurd q (by decide) | 1, _, q => exact absurd q (by decide) | 2, _, _ => rfl) (fun q => absurd q (by decide))
  | 5, _ => exact main 2 true hlink (by decide) (fun q => absurd q (by decide)) (fun q => absurd q (by decide)) (fun _ => by match ik, hik, hkd with | 0, _, q => exact absurd q (by decide) | 1, _, _ => rfl | 2, _, q => exact absurd q (by decide))
/-- the end of a method with a contract -/
theorem ret_ok {pc lk : Nat} {ins : Instr} {dead : List Nat} {als st : List Value} {A' : xH} {v : Option Value} {rt : Option FieldType} (C : xCx base old dA D E p s m args meth c M b a0) (hr : xrok b (pc, ins, lk, dead) = true) (hret : meth.sig.returnType = rt) (hlocks : meth.locks = false) (hrk : match M.2.1 with
    | 0 => rt = none
    | 1 => rt = some .int
    | 2 => rt = some .boolean
    | 3 => rt = some .long
    | _ => ∃ r, rt = some r ∧ ((∃ n, r = .object n) ∨ ∃ t, r = .array t)) (h : xeff xtabs E M.1 M.2.1 M.2.2.1 (pc, ins, lk, dead) als st A' = some (.inr (.inr (v, A')))) :
    xK base old dA D p l e R s m args below meth c (MQ below (xQc base old dA D v A') args s (A'.length - a0) (xsl A' - s0) (fun q => base ≤ q)) a0 s0 pc als st A' := by
  obtain ⟨n, hdec, hlen, -, -⟩ := row_dec hr
  obtain ⟨hx, hb, hml, hown, hts, henv, hini, hz⟩ := C
  intro H locs ls hX hl
  have post : ∀ (v : Option Value) (t : State), t.heap = H → s.WarmedH t.vm → xQc base old dA D v A' args s (.returned (v.map (xv base old))) t := fun v t ht hW => ⟨rfl, by rw [ht]; exact hX.1, hX.2.1, hX.2.2.F ht⟩
  unfold xeff at h
  by_cases hi : ins = .ireturn ∨ ins = .lreturn ∨ ins = .areturn ∨ ins = .return_
  · rcases hi with rfl | rfl | rfl | rfl
    · have hd := hlen rfl (by simp [xlen]); subst hd
      unfold xG at h; dsimp only at h
      split at h
      · rename_i x
        split at h
        · rename_i q
          cases h
          rw [q] at hrk
          exact W.iret (v := x) hx hb (hret.trans hrk) (post (some (.int x))) hX.2.2.2.2 hdec hlocks
        · rename_i q
          split at h
          · rename_i h01
            cases h
            rw [q] at hrk
            exact W.zret (ty := .boolean) (v := x) hx hb (hret.trans hrk) (nar01 h01) (post (some (.int x))) hX.2.2.2.2 hdec hlocks
          · cases h
        · cases h
      · cases h
    · have hd := hlen rfl (by simp [xlen]); subst hd
      unfold xG at h; dsimp only at h
      split at h
      · rename_i x
        split at h
        · rename_i q
          cases h
          rw [q] at hrk
          exact W.lret (v := x) hx hb (hret.trans hrk) (post (some (.long x))) hX.2.2.2.2 hdec hlocks
        · cases h
      · cases h
    · have hd := hlen rfl (by simp [xlen]); subst hd
      unfold xG at h; dsimp only at h
      split at h
      · rename_i a
        split at h
        · rename_i q
          cases h
          rw [q] at hrk
          obtain ⟨r, hr1, hr2⟩ := hrk
          exact W.aret (v := .ref (base + a)) hx hb (hret.trans hr1) hr2 (Or.inr ⟨_, rfl⟩) (post (some (.ref a))) hX.2.2.2.2 hdec hlocks
        · cases h
      · split at h
        · rename_i q
          cases h
          rw [q] at hrk
          obtain ⟨r, hr1, hr2⟩ := hrk
          exact W.aret (v := .null) hx hb (hret.trans hr1) hr2 (Or.inl rfl) (post (some .null)) hX.2.2.2.2 hdec hlocks
        · cases h
      · cases h
    · have hd := hlen rfl (by simp [xlen]); subst hd
      unfold xG at h; dsimp only at h
      split at h
      · split at h
        · rename_i q
          cases h
          rw [q] at hrk
          exact W.vret hx hb (hret.trans hrk) (post none) hX.2.2.2.2 hdec hlocks
        · cases h
      · cases h
  · rcases xeff_kind (show xeff xtabs E M.1 M.2.1 M.2.2.1 (pc, ins, lk, dead) als st A' = _ from h) with ⟨q, hq⟩ | ⟨i, hq⟩ | hq
    · cases hq
    · exfalso
      rcases hq with rfl | rfl | rfl
      · exact inv_noret (show xinv xtabs M.1 xgo0 xcl0 0 i lk pc als st A' = _ from h)
      · exact inv_noret (show xinv xtabs M.1 xgo0 xcl0 1 i lk pc als st A' = _ from h)
      · exact inv_noret (show xinv xtabs M.1 xgo0 xcl0 2 i lk pc als st A' = _ from h)
    · exact absurd hq hi
theorem xmask_len : ∀ (is : List Nat) (l : List Value), (xmask is l).length = l.length
  | [], _ => rfl
  | i :: is, l => by
    show (xmask is (xs l i xJ)).length = l.length
    rw [xmask_len is, xs_len]
def xSnd (base : Nat) (old : Nat → Nat) (dA : Nat → ClassId) (D : va_G) (E : Nat × (Nat → Int32)) (n : Nat) : Prop :=
  ∀ (d mid pc : Nat) (als st : List Value) (A : xH) (v : Option Value) (A' : xH), xexec xprog xtabs E n d mid pc als st A = some (v, A') →
  ∀ (p : Program) (l : Launch) (e : Env) (R : Room) (s : State) (m : MethodId) (args : Array Value) (below : List Frame) (meth : Method) (c : Code) (Q : State → Prop) (M : xM) (y : MethodName) (b : ByteArray) (rt : Option FieldType) (a0 s0 : Nat), xprog[mid]? = some M → xmeta[mid]? = some (y, b, rt) → xCx base old dA D E p s m args meth c M b a0 → als.length = M.2.2.2.1 → a0 ≤ A.length → s0 ≤ xsl A → A'.length - a0 ≤ R.cells → xsl A' - s0 ≤ R.slots → d + 4 ≤ R.frames → 64 * d + 100 ≤ R.locals →
  (∀ (pc lk : Nat) (ins : Instr) (dead : List Nat) (als st : List Value), xrok b (pc, ins, lk, dead) = true → xeff xtabs E M.1 M.2.1 M.2.2.1 (pc, ins, lk, dead) als st A' = some (.inr (.inr (v, A'))) → xK base old dA D p l e R s m args below meth c Q a0 s0 pc als st A') → xK base old dA D p l e R s m args below meth c Q a0 s0 pc als st A
/-- a run's contract, by what is known of shorter runs -/
theorem xmet_of {n : Nat} (IH : xSnd base old dA D E n) {d mid : Nat} {as : List Value} {A A' : xH} {v : Option Value} (h : xinto xprog mid as A (fun l => xexec xprog xtabs E n d mid 0 l [] A) = some (v, A')) (hmid : mid < 302) {M : xM} {y : MethodName} {b : ByteArray} {rt : Option FieldType} (hM : xprog[mid]? = some M) (hY : xmeta[mid]? = some (y, b, rt)) : xMet base old dA D E l d y b M.2.2.2.1 rt as A v A' := by
  obtain ⟨g1, g2, g3, g4, g5, g6, g7, g8⟩ := mk_all mid hmid M y b rt hM hY
  unfold xinto at h
  rw [hM] at h
  dsimp only at h
  split at h
  · rename_i hc
    obtain ⟨hrc, hsp⟩ := hc
    have hgr := xexec_grow _ _ _ _ _ _ _ _ _ _ _ h
    refine Met.ofW (cc := b) (maxL := M.2.2.2.1) (ret := rt) g3 rfl ?_
    intro p e s m args below meth c s₁ B hml hv
    obtain ⟨rfl, hsz, hP, htk, henv⟩ := hv
    have hown : s.vm.findClass (xcn M.1) = some m.cls := by rw [← g2]; exact findClass_of_methodNamed B.named
    have hts : ∀ w ∈ gw, w.before _ s = true := fun w hw => atoms_spec B.pre w (List.mem_cons_of_mem _ hw)
    have hin : M.2.2.1 = 2 → meth.name = "<init>" := by
      intro q
      rw [q] at g7
      rw [(name_of_methodNamed B.named B.method).1]
      exact g7.2.2.2.1
    have C : xCx base old dA D E p s m (as.map (xv base old)).toArray meth c M b A.length := ⟨B.exec, B.bytes, hml, hown, hts, henv, hin, hsz⟩
    have hK := IH d mid 0 _ [] A v A' h p l e (xrm d A A') s m _ below meth c (MQ below (xQc base old dA D v A') (as.map (xv base old)).toArray s (A'.length - A.length) (xsl A' - xsl A) (fun q => base ≤ q)) M y b rt A.length (xsl A) hM hY C (xpad_len _ _ hsp) (Nat.le_refl _) (Nat.le_refl _) (Nat.le_refl _) (Nat.le_refl _) (Nat.le_refl _) (Nat.le_refl _) (fun pc lk ins dead als st hr hh => ret_ok C hr B.returns B.notSynchronized g6 hh)
    rw [lg_entry_eq]
    have := hK s.heap [] _ ⟨hP, htk, va_S.rf⟩ (xLoc_entry hsp)
    rw [Nat.sub_self, Nat.sub_self] at this
    exact this
  · cases h
theorem xsound : ∀ n, xSnd base old dA D E n
  | 0 => fun d mid pc als st A v A' h => by cases h
  | n + 1 => by
    have IH := xsound n
    intro d mid pc als st A v A' h p l e R s m args below meth c Q M y b rt a0 s0 hM hY C hal ha hs h1 h2 hfr hlo hend
    have hmid : mid < 303 := by
      have := (List.getElem?_eq_some_iff.mp hM).1
      rw [xprog_len] at this
      exact this
    rw [xexec_s] at h
    obtain ⟨M', r, hM', hr, hpc, hc⟩ := xon_inv h
    cases hM.symm.trans hM'
    have hrow : xrok b r = true := List.all_eq_true.mp (dk_all mid hmid M y b rt hM hY) r hr
    obtain ⟨pc', ins, lk, dead⟩ := r
    have hpc' : pc' = pc := hpc
    subst hpc'
    dsimp only at hc
    have hal' : (xmask dead als).length = M.2.2.2.1 := by rw [xmask_len]; exact hal
    suffices hK : xK base old dA D p l e R s m args below meth c Q a0 s0 pc' (xmask dead als) st A from fun H locs ls hX hl => hK H locs ls hX (xLoc.mask dead als hl)
    rcases hc with ⟨w, g1, g2⟩ | ⟨w, v1, A1, g1, g2, g3⟩ | g1
    · have k1 : A.length ≤ w.2.2.2.length ∧ xsl A ≤ xsl w.2.2.2 ∧ w.2.1.length = (xmask dead als).length := xeff_grow g1
      have k2 := xexec_grow _ _ _ _ _ _ _ _ _ _ _ g2
      dsimp only at k2
      obtain ⟨wp, wl, ws, wA⟩ := w
      dsimp only at k1 k2 g2
      exact xgo C hal' ha hs (by omega) (by omega) (by omega) (by omega) hrow g1 (IH d mid wp wl ws wA v A' g2 p l e R s m args below meth c Q M y b rt a0 s0 hM hY C (k1.2.2.trans hal') (by omega) (by omega) h1 h2 hfr hlo hend)
    · have k1 : w.2.2.2.2 = A ∧ w.2.2.1.length = (xmask dead als).length := xeff_grow g1
      have k3 := xexec_grow _ _ _ _ _ _ _ _ _ _ _ g3
      dsimp only at k3
      cases d with
      | zero => cases g2
      | succ d =>
        rw [k1.1] at g2
        have g2' : xinto xprog w.1.1 w.1.2.1 A (fun l => xexec xprog xtabs E n d w.1.1 0 l [] A) = some (v1, A1) := g2
        have hinto : ∀ M', xprog[w.1.1]? = some M' → xrecv M' w.1.2.1 A = true ∧ (A.length ≤ A1.length ∧ xsl A ≤ xsl A1) := by
          intro M' hM1
          have q := g2'
          unfold xinto at q
          rw [hM1] at q
          dsimp only at q
          split at q
          · rename_i hcc
            have := xexec_grow _ _ _ _ _ _ _ _ _ _ _ q
            exact ⟨hcc.1, this⟩
          · cases q
        have hA1 : A.length ≤ A1.length ∧ xsl A ≤ xsl A1 := by
          cases hq : xprog[w.1.1]? with
          | none => rw [xinto, hq] at g2'; cases g2'
          | some M' => exact (hinto M' hq).2
        have kont : xK base old dA D p l e R s m args below meth c Q a0 s0 w.2.1 w.2.2.1 (v1.toList ++ w.2.2.2.1) A1 := IH (d + 1) mid _ _ _ A1 v A' g3 p l e R s m args below meth c Q M y b rt a0 s0 hM hY C (k1.2.trans hal') (by omega) (by omega) h1 h2 hfr hlo hend
        obtain ⟨nn, hdec, hlen, -, -⟩ := row_dec hrow
        rcases xeff_kind g1 with ⟨q, hq⟩ | ⟨i, hq⟩ | hq
        · cases hq
        · rcases hq with rfl | rfl | rfl
          · have hd := hlen rfl (by simp [xlen]); subst hd
            exact call_ok (ik := 0) (d := d) C hal' ha hs hA1 (by omega) (by omega) (by omega) (by omega) (by decide) ⟨fun _ => hdec, fun q => absurd q (by decide), fun q => absurd q (by decide)⟩ (show xinv xtabs M.1 xgo0 xcl0 0 i lk pc' (xmask dead als) st A = _ from g1) (fun M' hM1 => (hinto M' hM1).1) (fun M' y' b' rt' hlt hM1 hY1 => xmet_of IH g2' hlt hM1 hY1) kont
          · have hd := hlen rfl (by simp [xlen]); subst hd
            exact call_ok (ik := 1) (d := d) C hal' ha hs hA1 (by omega) (by omega) (by omega) (by omega) (by decide) ⟨fun q => absurd q (by decide), fun _ => hdec, fun q => absurd q (by decide)⟩ (show xinv xtabs M.1 xgo0 xcl0 1 i lk pc' (xmask dead als) st A = _ from g1) (fun M' hM1 => (hinto M' hM1).1) (fun M' y' b' rt' hlt hM1 hY1 => xmet_of IH g2' hlt hM1 hY1) kont
          · have hd := hlen rfl (by simp [xlen]); subst hd
            exact call_ok (ik := 2) (d := d) C hal' ha hs hA1 (by omega) (by omega) (by omega) (by omega) (by decide) ⟨fun q => absurd q (by decide), fun q => absurd q (by decide), fun _ => hdec⟩ (show xinv xtabs M.1 xgo0 xcl0 2 i lk pc' (xmask dead als) st A = _ from g1) (fun M' hM1 => (hinto M' hM1).1) (fun M' y' b' rt' hlt hM1 hY1 => xmet_of IH g2' hlt hM1 hY1) kont
        · exfalso
          rcases hq with rfl | rfl | rfl | rfl <;> (unfold xeff at g1; unfold xG at g1; dsimp only at g1; split at g1 <;> first | cases g1 | (split at g1 <;> first | cases g1 | (split at g1 <;> cases g1)))
    · have k1 : A' = A := xeff_grow g1
      subst k1
      exact hend pc' lk ins dead _ st hrow g1
end XMAIN
