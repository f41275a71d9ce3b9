def R_law : String := "TwinBucketsLaw"
def lw_P (b : Addr) (xs : List Int32) (args : Array Value) (s : State) : Prop := args = #[.ref b] ∧ s.IntsAt b xs ∧ xs.length ≤ 3072 ∧ (Jvm.Cond.and given_1 narrow_1).before args s = true
def lw_Q (_ : Array Value) (s : State) (o : Outcome) (t : State) : Prop := o = .returned (some (.int 1)) ∧ Framed s o t [] 600000 7302250
def lw_Z (below : List Frame) (a : Array Value) (s : State) : State → Prop := fun t => ∃ o, t.status = .running ∧ Ended t below o ∧ lw_Q a s o t
/-- the law's own end, with 1 on the stack, nothing written that was there before, its room as the claim has it -/
theorem lw_ret {p : Program} {l : Launch} {e : Env} {s : State} {m : MethodId} {below : List Frame} {meth : Method} {c : Code} {b : Nat} (hx : p.tables.exec = Jvm.exec) (hb : c.code = code) (hr : meth.sig.returnType = ret) (hlocks : meth.locks = false) {pc : Nat} {H : Heap} {ls : Array Slot} (hdg : decode code pc = .ok (.ireturn, 1)) : W p l e room_1 s m #[Value.ref b] below meth c H [] 600000 7302250 (lw_Z below #[Value.ref b] s) (F0 m pc ls [.int 1]) := by
  intro T hT X
  obtain ⟨fs, hret, hrun, hended, hW, hframe⟩ := X.leave (v := some (.int 1)) (hlocks := hlocks) (fun h => by rw [hr] at h; cases h)
  have hmeth' : T.vm.method? m = some meth := X.method'
  refine ⟨T.setFrames fs, ?_, .returned (some (.int 1)), hrun, hended, rfl, ⟨_, rfl⟩, hW, hframe⟩
  jvm_step X.here [X.here.top, hx, hb, hdg, hmeth', hr, ret, narrow_b1]
  (try refine ⟨rfl, ?_⟩); (try refine ⟨rfl, ?_⟩)
  first | (intro acts; rw [hret _ acts rfl rfl rfl]) | rw [hret _ _ rfl rfl rfl]
  exact Steps.refl _
/-- what holds at the law's entry: the machine, the code, the tables' words (any of lw_tbl by 'hts w (by decide +kernel)'), the script of L ints xs at the cell b, what the Statement gives of the start (any of its parts by flat_of_before) -/
def lw_At (p : Program) (s : State) (m : MethodId) (meth : Method) (c : Code) (b L : Nat) (xs : Nat → Int32) : Prop :=
  p.tables.exec = Jvm.exec ∧ c.code = code ∧ meth.sig.returnType = ret ∧ c.maxLocals = 4 ∧ s.vm.findClass R_law = some m.cls ∧ (∀ w ∈ lw_tbl, w.before #[Value.ref b] s = true) ∧ va_X b L xs s s.heap ∧ b < s.heap.size ∧ meth.locks = false ∧ (Jvm.Cond.and given_1 narrow_1).before #[Value.ref b] s = true
/-! ===== the law's entry: what the Statement gives is what the abstract machine needs ===== -/
theorem xs_of {args : Array Value} {s : State} {A : Nat → Prop} {tm : Term} {n : Nat} {by_ : List Int32} (hN : n < 2 ^ 31) (hex : (Cond.exactly tm "java/lang/String").before args s = true) (hco : (Cond.eq (.field tm "java/lang/String" "coder" "B") (.int 0)).before args s = true) (har : (Cond.arrayOf (.field tm "java/lang/String" "value" "[B") .byte).before args s = true) (hle : (Cond.eq (.length (.field tm "java/lang/String" "value" "[B")) (.int (Int32.ofNat n))).before args s = true) (hel : ∀ j : Nat, j < n → (Cond.eq (.elem (.field tm "java/lang/String" "value" "[B") (.int (Int32.ofNat j))) (.int (by_.getD j 0))).before args s = true) (hA : ∀ a : Nat, a < s.heap.size → ¬ A a) :
    ∃ a t : Nat, tm.eval args s none [] s = some (.ref a) ∧ va_O "java/lang/String" a A s s.heap ∧ va_OF "java/lang/String" "coder" "B" (.int 0) a A s s.heap ∧ va_OF "java/lang/String" "value" "[B" (.ref t) a A s s.heap ∧ va_T .byte t n (fun j => .int (by_.getD j 0)) A s s.heap := by
  obtain ⟨a, c, cA, kA, q1, q2, q3, q4, q5, q6, -⟩ := Cond.exactly_spec (args := args) (first := s) (o := none) (s := s) (idx := []) (t := tm) (cls := "java/lang/String") hex
  obtain ⟨t, ht, hT⟩ := va_Tof (f := fun j => .int (by_.getD j 0)) (A := A) hN har (va_eqt hle) (fun j hj => va_eqt (hel j hj)) hA
  exact ⟨a, t, q1, ⟨cA, q3, q5, by rw [q6]; exact q2, hA a (Array.getElem?_eq_some_iff.mp q3).1⟩, vk_OFof q1 (va_eqt hco) hA, vk_OFof q1 ht hA, hT⟩
def zidx : List Nat := xSL.map fun e => e.2.1
abbrev ztm (i : Nat) : Term := Term.string "TwinBuckets$Tape" (zidx.getD i 0)
abbrev nrw : List Cond := flatC (Cond.and given_1 narrow_1)
def zneed (i : Nat) : List Cond := [.exactly (ztm i) "java/lang/String", .eq (.field (ztm i) "java/lang/String" "coder" "B") (.int 0), .arrayOf (.field (ztm i) "java/lang/String" "value" "[B") .byte, .eq (.length (.field (ztm i) "java/lang/String" "value" "[B")) (.int (Int32.ofNat (xSTR.getD i []).length))] ++ (List.range (xSTR.getD i []).length).map fun j => .eq (.elem (.field (ztm i) "java/lang/String" "value" "[B") (.int (Int32.ofNat j))) (.int ((xSTR.getD i []).getD j 0))
set_option maxRecDepth 100000 in
theorem zneed_ok : ∀ i, i < 25 → ∀ w ∈ zneed i, w ∈ nrw := by decide +kernel
def zq (w : Cond) : Option ((String × Nat) × (String × Nat)) := match w with
  | .not (.eq (.string a i) (.string b j)) => some ((a, i), (b, j))
  | _ => none
theorem zq_inj {w : Cond} {a b : String} {i j : Nat} (h : zq w = some ((a, i), (b, j))) : w = .not (.eq (.string a i) (.string b j)) := by
  unfold zq at h
  split at h
  · cases h; rfl
  · cases h
set_option maxRecDepth 100000 in
theorem zflt : nrw.filterMap zq = (List.range 25).flatMap (fun j => (List.range j).map fun i => (("TwinBuckets$Tape", zidx.getD i 0), ("TwinBuckets$Tape", zidx.getD j 0))) := by rfl
theorem zne_one {i j : Nat} (h : i < j) (hj : j < 25) : Cond.not (.eq (ztm i) (ztm j)) ∈ nrw := by
  have hm : (("TwinBuckets$Tape", zidx.getD i 0), ("TwinBuckets$Tape", zidx.getD j 0)) ∈ nrw.filterMap zq := by
    rw [zflt]
    exact List.mem_flatMap.mpr ⟨j, List.mem_range.mpr hj, List.mem_map.mpr ⟨i, List.mem_range.mpr h, rfl⟩⟩
  obtain ⟨w, hw, hq⟩ := List.mem_filterMap.mp hm
  rw [zq_inj hq] at hw
  exact hw
theorem zne_ok : ∀ i, i < 25 → ∀ j, j < 25 → i ≠ j → (Cond.not (.eq (ztm i) (ztm j)) ∈ nrw ∨ Cond.not (.eq (ztm j) (ztm i)) ∈ nrw) := by
  intro i hi j hj hne
  rcases Nat.lt_or_gt_of_ne hne with h | h
  · exact Or.inl (zne_one h hj)
  · exact Or.inr (zne_one h hi)
theorem zsl : xSL = (List.range 25).map fun i => (6, zidx.getD i 0, 1 + i) := by decide +kernel
set_option maxRecDepth 100000 in
theorem zstat : Cond.eq (.static "java/lang/String" "COMPACT_STRINGS" "Z") (.int 1) ∈ nrw ∧ Cond.isRef (.static "jdk/internal/util/Preconditions" "SIOOBE_FORMATTER" "Ljava/util/function/BiFunction;") ∈ nrw := by decide +kernel
theorem zsr_0 : Cond.stringRef "TwinBuckets$Tape" 109 "put" ∈ lw_tbl := tb3 (List.mem_of_getElem? (i := 117) rfl)
theorem zsr_1 : Cond.stringRef "TwinBuckets$Tape" 153 "value" ∈ lw_tbl := tb3 (List.mem_of_getElem? (i := 198) rfl)
theorem zsr_2 : Cond.stringRef "TwinBuckets$Tape" 159 "many" ∈ lw_tbl := tb3 (List.mem_of_getElem? (i := 203) rfl)
theorem zsr_3 : Cond.stringRef "TwinBuckets$Tape" 181 "time" ∈ lw_tbl := tb3 (List.mem_of_getElem? (i := 208) rfl)
theorem zsr_4 : Cond.stringRef "TwinBuckets$Tape" 185 "done" ∈ lw_tbl := tb3 (List.mem_of_getElem? (i := 209) rfl)
theorem zsr_5 : Cond.stringRef "TwinBuckets$Tape" 187 "latest" ∈ lw_tbl := tb3 (List.mem_of_getElem? (i := 210) rfl)
theorem zsr_6 : Cond.stringRef "TwinBuckets$Tape" 189 "deep" ∈ lw_tbl := tb3 (List.mem_of_getElem? (i := 211) rfl)
theorem zsr_7 : Cond.stringRef "TwinBuckets$Tape" 191 "waits" ∈ lw_tbl := tb3 (List.mem_of_getElem? (i := 212) rfl)
theorem zsr_8 : Cond.stringRef "TwinBuckets$Tape" 193 "keys" ∈ lw_tbl := tb3 (List.mem_of_getElem? (i := 213) rfl)
theorem zsr_9 : Cond.stringRef "TwinBuckets$Tape" 173 "bucket" ∈ lw_tbl := tb3 (List.mem_of_getElem? (i := 218) rfl)
theorem zsr_10 : Cond.stringRef "TwinBuckets$Tape" 175 "depth" ∈ lw_tbl := tb3 (List.mem_of_getElem? (i := 219) rfl)
theorem zsr_11 : Cond.stringRef "TwinBuckets$Tape" 177 "key" ∈ lw_tbl := tb3 (List.mem_of_getElem? (i := 220) rfl)
theorem zsr_12 : Cond.stringRef "TwinBuckets$Tape" 179 "hash" ∈ lw_tbl := tb3 (List.mem_of_getElem? (i := 221) rfl)
theorem zsr_13 : Cond.stringRef "TwinBuckets$Tape" 183 "mood" ∈ lw_tbl := tb3 (List.mem_of_getElem? (i := 222) rfl)
theorem zsr_14 : Cond.stringRef "TwinBuckets$Tape" 111 "as" ∈ lw_tbl := tb3 (List.mem_of_getElem? (i := 223) rfl)
theorem zsr_15 : Cond.stringRef "TwinBuckets$Tape" 113 "drop" ∈ lw_tbl := tb3 (List.mem_of_getElem? (i := 224) rfl)
theorem zsr_16 : Cond.stringRef "TwinBuckets$Tape" 115 "flush" ∈ lw_tbl := tb3 (List.mem_of_getElem? (i := 225) rfl)
theorem zsr_17 : Cond.stringRef "TwinBuckets$Tape" 117 "crash" ∈ lw_tbl := tb3 (List.mem_of_getElem? (i := 226) rfl)
theorem zsr_18 : Cond.stringRef "TwinBuckets$Tape" 119 "times" ∈ lw_tbl := tb3 (List.mem_of_getElem? (i := 227) rfl)
theorem zsr_19 : Cond.stringRef "TwinBuckets$Tape" 102 "bars" ∈ lw_tbl := tb3 (List.mem_of_getElem? (i := 232) rfl)
theorem zsr_20 : Cond.stringRef "TwinBuckets$Tape" 104 "costs" ∈ lw_tbl := tb3 (List.mem_of_getElem? (i := 233) rfl)
theorem zsr_21 : Cond.stringRef "TwinBuckets$Tape" 87 "if" ∈ lw_tbl := tb3 (List.mem_of_getElem? (i := 234) rfl)
theorem zsr_22 : Cond.stringRef "TwinBuckets$Tape" 141 "not" ∈ lw_tbl := tb4 (List.mem_of_getElem? (i := 7) rfl)
theorem zsr_23 : Cond.stringRef "TwinBuckets$Tape" 139 "and" ∈ lw_tbl := tb4 (List.mem_of_getElem? (i := 8) rfl)
theorem zsr_24 : Cond.stringRef "TwinBuckets$Tape" 127 "or" ∈ lw_tbl := tb4 (List.mem_of_getElem? (i := 13) rfl)
theorem zsr_all : ∀ i, i < 25 → ∃ tx, Cond.stringRef "TwinBuckets$Tape" (zidx.getD i 0) tx ∈ lw_tbl := by
  intro i h
  match i, h with
  | 0, _ => exact ⟨_, zsr_0⟩
  | 1, _ => exact ⟨_, zsr_1⟩
  | 2, _ => exact ⟨_, zsr_2⟩
  | 3, _ => exact ⟨_, zsr_3⟩
  | 4, _ => exact ⟨_, zsr_4⟩
  | 5, _ => exact ⟨_, zsr_5⟩
  | 6, _ => exact ⟨_, zsr_6⟩
  | 7, _ => exact ⟨_, zsr_7⟩
  | 8, _ => exact ⟨_, zsr_8⟩
  | 9, _ => exact ⟨_, zsr_9⟩
  | 10, _ => exact ⟨_, zsr_10⟩
  | 11, _ => exact ⟨_, zsr_11⟩
  | 12, _ => exact ⟨_, zsr_12⟩
  | 13, _ => exact ⟨_, zsr_13⟩
  | 14, _ => exact ⟨_, zsr_14⟩
  | 15, _ => exact ⟨_, zsr_15⟩
  | 16, _ => exact ⟨_, zsr_16⟩
  | 17, _ => exact ⟨_, zsr_17⟩
  | 18, _ => exact ⟨_, zsr_18⟩
  | 19, _ => exact ⟨_, zsr_19⟩
  | 20, _ => exact ⟨_, zsr_20⟩
  | 21, _ => exact ⟨_, zsr_21⟩
  | 22, _ => exact ⟨_, zsr_22⟩
  | 23, _ => exact ⟨_, zsr_23⟩
  | 24, _ => exact ⟨_, zsr_24⟩
  | n + 25, h => exact absurd h (by omega)
theorem zao_4 : Cond.arrayOver (.object "TwinBuckets$Text") ∈ lw_tbl := tb1 (List.mem_of_getElem? (i := 85) rfl)
theorem zao_5 : Cond.arrayOver (.object "TwinBuckets$Store") ∈ lw_tbl := tb1 (List.mem_of_getElem? (i := 142) rfl)
theorem zao_6 : Cond.arrayOver (.object "TwinBuckets$Image") ∈ lw_tbl := tb1 (List.mem_of_getElem? (i := 158) rfl)
theorem zst_1 : Cond.laysStatic "java/lang/String" "COMPACT_STRINGS" "Z" ∈ lw_tbl := tb3 (List.mem_of_getElem? (i := 135) rfl)
theorem zst_2 : Cond.initialized "java/lang/String" ∈ lw_tbl := tb1 (List.mem_of_getElem? (i := 13) rfl)
theorem zst_3 : Cond.laysStatic "jdk/internal/util/Preconditions" "SIOOBE_FORMATTER" "Ljava/util/function/BiFunction;" ∈ lw_tbl := tb3 (List.mem_of_getElem? (i := 151) rfl)
theorem zst_4 : Cond.initialized "jdk/internal/util/Preconditions" ∈ lw_tbl := tb1 (List.mem_of_getElem? (i := 15) rfl)
theorem law_env {p : Program} {s : State} {m : MethodId} {meth : Method} {c : Code} {b L : Nat} {xs : Nat → Int32} (C0 : lw_At p s m meth c b L xs) : ∃ (old : Nat → Nat) (dA : Nat → ClassId) (D : va_G), old 0 = b ∧ xEnv s.heap.size old dA D (L, xs) s := by
  obtain ⟨hx, hb, hr, hml, hown, hts, hX, hbl, hlocks, hgv⟩ := C0
  have hA : ∀ a : Nat, a < s.heap.size → ¬ (fun q => s.heap.size ≤ q) a := fun a h => by show ¬ s.heap.size ≤ a; omega
  have hnw := flat_of_before _ hgv
  have h1 : ∀ k : Nat, ∃ r : ClassId × (Nat → Nat), ∀ q, xclasses[k]? = some q → u_Kn s q.1 q.2.1 q.2.2 r.1 r.2 := by
    intro k
    by_cases hk : k < 10
    · obtain ⟨C, T, N, ty, hc, -, -, hws, -, -, hinst, -⟩ := xk_all k hk
      obtain ⟨cC, iS, hKn⟩ := u_known (C := C) (T := T) (N := N) (n := N) hts (fun w hw => gw_tbl (hws w hw)) (hts _ (gw_tbl hinst))
      exact ⟨(cC, iS), fun q hq => by cases hc.symm.trans hq; exact hKn⟩
    · refine ⟨(0, fun _ => 0), fun q hq => ?_⟩
      have := (List.getElem?_eq_some_iff.mp hq).1
      exact absurd (show k < 10 from this) hk
  obtain ⟨fD, hfD⟩ := Classical.axiomOfChoice h1
  have prim : ∀ (ty : FieldType), Cond.arrayClass ty ∈ gw → (ty = .int ∨ ty = .byte ∨ ty = .boolean ∨ ty = .long) → ∃ cA : ClassId, ArrOfT s cA ty ∧ va_RA s cA ty := by
    intro ty hw hp
    obtain ⟨cA, kA, comp, g1, g2, g3⟩ := Cond.arrayClass_spec (hts _ (gw_tbl hw))
    refine ⟨cA, fun n z => ⟨fun k h => (by cases h), kA, g2, comp, g3⟩, ?_⟩
    rcases hp with rfl | rfl | rfl | rfl <;> exact g1
  have obj : ∀ (C : String), Cond.arrayOver (.object C) ∈ lw_tbl → ∃ cA : ClassId, ArrOfT s cA (.object C) ∧ va_RA s cA (.object C) := by
    intro C hw
    obtain ⟨comp, cA, kA, g1, -, g2, g3, g4⟩ := Cond.arrayOver_spec (hts _ hw)
    exact ⟨cA, fun n z => ⟨fun k h => (by cases h), kA, g2, comp, g3⟩, kA, comp, g2, g3, g1, g4⟩
  have h2 : ∀ t : Nat, ∃ cA : ClassId, t < 7 → ArrOfT s cA (xtyT t) ∧ va_RA s cA (xtyT t) := by
    intro t
    by_cases ht : t < 7
    · rcases (show t = 0 ∨ t = 1 ∨ t = 2 ∨ t = 3 ∨ t = 4 ∨ t = 5 ∨ t = 6 by omega) with rfl | rfl | rfl | rfl | rfl | rfl | rfl
      · obtain ⟨cA, h⟩ := prim .int wy_int (Or.inl rfl); exact ⟨cA, fun _ => h⟩
      · obtain ⟨cA, h⟩ := prim .byte wy_byte (Or.inr (Or.inl rfl)); exact ⟨cA, fun _ => h⟩
      · obtain ⟨cA, h⟩ := prim .boolean wy_boolean (Or.inr (Or.inr (Or.inl rfl))); exact ⟨cA, fun _ => h⟩
      · obtain ⟨cA, h⟩ := prim .long wy_long (Or.inr (Or.inr (Or.inr rfl))); exact ⟨cA, fun _ => h⟩
      · obtain ⟨cA, h⟩ := obj "TwinBuckets$Text" zao_4; exact ⟨cA, fun _ => h⟩
      · obtain ⟨cA, h⟩ := obj "TwinBuckets$Store" zao_5; exact ⟨cA, fun _ => h⟩
      · obtain ⟨cA, h⟩ := obj "TwinBuckets$Image" zao_6; exact ⟨cA, fun _ => h⟩
    · exact ⟨0, fun h => absurd h ht⟩
  obtain ⟨dA, hdA⟩ := Classical.axiomOfChoice h2
  have h3 : ∀ i : Nat, ∃ q : Nat × Nat, i < 25 → (ztm i).eval #[Value.ref b] s none [] s = some (.ref q.1) ∧ va_O "java/lang/String" q.1 (fun q => s.heap.size ≤ q) s s.heap ∧ va_OF "java/lang/String" "coder" "B" (.int 0) q.1 (fun q => s.heap.size ≤ q) s s.heap ∧ va_OF "java/lang/String" "value" "[B" (.ref q.2) q.1 (fun q => s.heap.size ≤ q) s s.heap ∧ va_T .byte q.2 (xSTR.getD i []).length (fun j => .int ((xSTR.getD i []).getD j 0)) (fun q => s.heap.size ≤ q) s s.heap := by
    intro i
    by_cases hi : i < 25
    · have hw : ∀ w ∈ zneed i, w.before #[Value.ref b] s = true := fun w hw => hnw w (zneed_ok i hi w hw)
      have hlen : (xSTR.getD i []).length < 100 := (xstr_small i (by show i < 25; exact hi)).1
      obtain ⟨a, t, q⟩ := xs_of (tm := ztm i) (n := (xSTR.getD i []).length) (by_ := xSTR.getD i []) (by omega) (hw _ (by simp [zneed])) (hw _ (by simp [zneed])) (hw _ (by simp [zneed])) (hw _ (by simp [zneed])) (fun j hj => hw _ (by
        unfold zneed
        exact List.mem_append_right _ (List.mem_map.mpr ⟨j, List.mem_range.mpr hj, rfl⟩))) hA
      exact ⟨(a, t), fun _ => q⟩
    · exact ⟨(0, 0), fun h => absurd h hi⟩
  obtain ⟨fS, hfS⟩ := Classical.axiomOfChoice h3
  refine ⟨fun k => if k = 0 then b else if k < 100 then (fS (k - 1)).1 else (fS (k - 100)).2, dA, (fun k => (fD k).1, fun k => (fD k).2), rfl, ⟨fun k q hq => hfD k q hq, fun k q hk => ?_⟩, fun w hw => ?_, ⟨va_AO.of (hts _ zao_4), va_AO.of (hts _ zao_5), va_AO.of (hts _ zao_6)⟩, va_Nw.of rfl (hts _ wc_cast), hX, hbl, Nat.le_refl _, ⟨fun i hi => ?_, fun i j hi hj e => ?_⟩, fun e he => ?_, ?_, ?_⟩
  · have hlt : k < 7 := (List.getElem?_eq_some_iff.mp hk).1
    rw [xtys_at dA hlt] at hk
    cases hk
    exact hdA k hlt
  · have on : ∀ w ∈ xnest, w.onTables = true := by unfold xnest; decide
    exact va_Nw.of (on w hw) (hts w (xnest_tbl w hw))
  · have hi' : i < 25 := hi
    obtain ⟨-, q2, q3, q4, q5⟩ := hfS i hi'
    have e1 : (if 1 + i = 0 then b else if 1 + i < 100 then (fS (1 + i - 1)).1 else (fS (1 + i - 100)).2) = (fS i).1 := by
      rw [if_neg (by omega), if_pos (by omega), show 1 + i - 1 = i by omega]
    have e2 : (if 100 + i = 0 then b else if 100 + i < 100 then (fS (100 + i - 1)).1 else (fS (100 + i - 100)).2) = (fS i).2 := by
      rw [if_neg (by omega), if_neg (by omega), show 100 + i - 100 = i by omega]
    dsimp only
    rw [e1, e2, xstr_len i hi]
    exact ⟨q2, q3, q4, q5⟩
  · have hi' : i < 25 := hi
    have hj' : j < 25 := hj
    have e1 : ∀ i, i < 25 → (if 1 + i = 0 then b else if 1 + i < 100 then (fS (1 + i - 1)).1 else (fS (1 + i - 100)).2) = (fS i).1 := by
      intro i hi
      rw [if_neg (by omega), if_pos (by omega), show 1 + i - 1 = i by omega]
    dsimp only at e
    rw [e1 i hi', e1 j hj'] at e
    by_cases hij : i = j
    · exact hij
    · rcases zne_ok i hi' j hj' hij with h | h
      · exact absurd e (va_neR (hnw _ h) (hfS i hi').1 (hfS j hj').1)
      · exact absurd e.symm (va_neR (hnw _ h) (hfS j hj').1 (hfS i hi').1)
  · rw [zsl] at he
    obtain ⟨i, hi, rfl⟩ := List.mem_map.mp he
    have hi' : i < 25 := List.mem_range.mp hi
    obtain ⟨tx, htx⟩ := zsr_all i hi'
    refine ⟨tx, ?_⟩
    dsimp only
    rw [if_neg (by omega), if_pos (by omega), show 1 + i - 1 = i by omega]
    exact vk_R.of (A := #[Value.ref b]) (hts _ htx) (hfS i hi').1
  · exact va_Zof (hts _ zst_1) (hts _ zst_2) (va_eqt (hnw _ zstat.1)) hA
  · exact va_Zqof (hts _ zst_3) (hts _ zst_4) (hnw _ zstat.2) hA
/-- the law's own end -/
theorem law_end {base : Nat} {old : Nat → Nat} {dA : Nat → ClassId} {D : va_G} {E : Nat × (Nat → Int32)} {p : Program} {l : Launch} {e : Env} {s : State} {m : MethodId} {below : List Frame} {meth : Method} {c : Code} {b : Nat} {M : xM} {pc lk : Nat} {ins : Instr} {dead : List Nat} {als st : List Value} {A' : xH} (C : xCx base old dA D E p s m #[Value.ref b] meth c M code 0) (hr : meth.sig.returnType = ret) (hlocks : meth.locks = false) (h1 : A'.length ≤ 600000) (h2 : xsl A' ≤ 7302250) (hrow : xrok code (pc, ins, lk, dead) = true) (h : xeff xtabs E M.1 M.2.1 M.2.2.1 (pc, ins, lk, dead) als st A' = some (.inr (.inr (some (.int 1), A')))) :
    xK base old dA D p l e room_1 s m #[Value.ref b] below meth c (lw_Z below #[Value.ref b] s) 0 0 pc als st A' := by
  obtain ⟨n, hdec, hlen, -, -⟩ := row_dec hrow
  obtain ⟨hx, hb, hml, hown, hts, henv, hini, hz⟩ := C
  intro H locs ls hX hl
  have hst : ins = .ireturn ∧ st = [.int 1] := by
    unfold xeff at h
    rcases xeff_kind (show xeff xtabs E M.1 M.2.1 M.2.2.1 (pc, ins, lk, dead) als st A' = _ from h) with ⟨q, hq⟩ | ⟨i, hq⟩ | hq
    · cases hq
    · exfalso
      rcases hq with rfl | rfl | rfl
      · exact inv_noret (show xinv xtabs M.1 xgo0 xcl0 0 i lk pc als st A' = _ from h)
      · exact inv_noret (show xinv xtabs M.1 xgo0 xcl0 1 i lk pc als st A' = _ from h)
      · exact inv_noret (show xinv xtabs M.1 xgo0 xcl0 2 i lk pc als st A' = _ from h)
    · rcases hq with rfl | rfl | rfl | rfl <;> unfold xG at h <;> dsimp only at h <;> split at h
      · rename_i x
        split at h
        · cases h; exact ⟨rfl, rfl⟩
        · split at h
          · cases h; exact ⟨rfl, rfl⟩
          · cases h
        · cases h
      · cases h
      · split at h <;> cases h
      · cases h
      · split at h <;> cases h
      · split at h <;> cases h
      · cases h
      · split at h <;> cases h
      · cases h
  obtain ⟨rfl, rfl⟩ := hst
  have hd := hlen rfl (by simp [xlen]); subst hd
  refine W.widen (k := 600000) (n := 7302250) (by omega) (by omega) ?_
  refine va_forget (fun q hq => ?_) ?_
  · have := hX.2.2.2.2 q hq
    have h3 : base ≤ q.base := this
    omega
  · exact lw_ret hx hb hr hlocks hdec
set_option maxRecDepth 100000 in
/-- THE LAW, from its entry, by what the abstract machine comes to -/
theorem whole_of (law_ok : ∀ E : Nat × (Nat → Int32), E.1 ≤ 3072 → ∃ A', xD E 60 302 0 [.float 0, xJ, xJ, xJ] [] [] = some (some (.int 1), A') ∧ A'.length ≤ 600000 ∧ xsl A' ≤ 7302250) {p : Program} {e : Env} {s : State} {m : MethodId} {below : List Frame} {meth : Method} {c : Code} (l : Launch) {b L : Nat} {xs : Nat → Int32} (hL : L ≤ 3072) (C0 : lw_At p s m meth c b L xs) : W p l e room_1 s m #[Value.ref b] below meth c s.heap [] 0 0 (lw_Z below #[Value.ref b] s) (entryFrame m ([Value.ref b] : List Value).toArray 4) := by
  obtain ⟨old, dA, D, h0, henv⟩ := law_env C0
  obtain ⟨hx, hb, hr, hml, hown, hts, hX, hbl, hlocks, hgv⟩ := C0
  obtain ⟨A', hD, hA1, hA2⟩ := law_ok (L, xs) hL
  obtain ⟨n, hn⟩ := xD_iff.mp hD
  have C : xCx s.heap.size old dA D (L, xs) p s m #[Value.ref b] meth c M_302 code 0 := ⟨hx, hb, hml, hown, fun w hw => hts w (gw_tbl hw), henv, fun q => absurd q (by decide), rfl⟩
  have hK := xsound n 60 302 0 [.float 0, xJ, xJ, xJ] [] [] (some (.int 1)) A' hn p l e room_1 s m #[Value.ref b] below meth c (lw_Z below #[Value.ref b] s) M_302 x code ret 0 0 h_302 rfl C rfl (Nat.zero_le _) (Nat.zero_le _) hA1 hA2 (Nat.le_of_ble_eq_true rfl) (Nat.le_of_ble_eq_true rfl) (fun pc lk ins dead als st hrow hh => law_end C hr hlocks hA1 hA2 hrow hh)
  rw [lg_entry_eq]
  have hlo : xLoc s.heap.size old [.float 0, xJ, xJ, xJ] ((lg_sl [Value.ref b] ++ List.replicate (4 - (lg_sl [Value.ref b]).length) Slot.unset).toArray) := by
    have := xLoc_entry (base := s.heap.size) (old := old) (as := [.float 0]) (n := 4) (Nat.le_of_ble_eq_true rfl)
    have e1 : [Value.float 0].map (xv s.heap.size old) = [Value.ref b] := by
      show [Value.ref (old 0)] = _
      rw [h0]
    rw [e1] at this
    exact this
  exact hK s.heap [] _ ⟨fun k q h => (by cases h), fun k t n f h => (by cases h), va_S.rf⟩ hlo
