/-! ===== String.length and String.charAt of the class's constants ===== -/
theorem gw_goodIn {w0 : Cond} (h : w0 ∈ gw) : GoodIn gw (w0 :: gw) := by
  intro w hw
  have hm : w ∈ gw := by
    rcases List.mem_cons.mp hw with rfl | hw
    · exact h
    · exact hw
  exact ⟨hm, good_of_word (gw_good hm)⟩
section XSTR
variable {base : Nat} {old : Nat → Nat} {dA : Nat → ClassId} {D : va_G} {E : Nat × (Nat → Int32)}
variable {p : Program} {l : Launch} {e : Env} {R : Room} {s : State} {m : MethodId} {args : Array Value} {below : List Frame} {meth : Method} {c : Code} {Q : State → Prop} {H : Heap} {locs : List Loc} {cells slots : Nat}
/-- a contract of a method that changes nothing -/
def xPure (base : Nat) (old : Nat → Nat) (dA : Nat → ClassId) (D : va_G) (E : Nat × (Nat → Int32)) (l : Launch) (y : MethodName) (bytes : ByteArray) (maxL : Nat) (ret : Option FieldType) (fr lo : Nat) (As : List Value) (v : Option Value) : Prop :=
  Met l y (.code y bytes maxL ret :: gw) { frames := fr, cells := 0, slots := 0, locals := lo } (fun a U => a = As.toArray ∧ xEnv base old dA D E U) (fun _ st o t => o = .returned v ∧ t.heap = st.heap) 0 0 (fun _ => False)
theorem run_pure {pc : Nat} {ls : Array Slot} {st0 rest : List Value} {v : Option Value} (hr : va_Run p l e R s m args below meth c H locs cells slots 0 0 (F0 m pc ls st0) rest (fun st o t => o = .returned v ∧ t.heap = st.heap) (fun _ => False)) (kk : W p l e R s m args below meth c H locs cells slots Q (F0 m (pc + 3) ls (v.toList ++ rest))) : W p l e R s m args below meth c H locs cells slots Q (F0 m pc ls st0) := by
  intro T hT X
  obtain ⟨v', st₀, t, T', L, h0, X', hL, e1, e2, ⟨hv, hh⟩, st⟩ := hr T hT X
  cases hv
  obtain ⟨t2, a1, b1⟩ := kk T' (by rw [e1, hh, h0]) (Stand.forget X' (fun q h => (hL q h).elim))
  exact ⟨t2, st t2 a1, b1⟩
theorem call_S {cc bytes : ByteArray} {own : String} {idx pc maxL n fr lo : Nat} {y : MethodName} {ret : Option FieldType} {As rest : List Value} {v : Option Value} {ls : Array Slot} (hx : p.tables.exec = Jvm.exec) (hb : c.code = cc) (hml : c.maxLocals = ls.size) (hown : s.vm.findClass own = some m.cls) (hts : ∀ w ∈ gw, w.before args s = true) (henv : xEnv base old dA D E s) (hS : va_S (fun q => base ≤ q) s.heap H locs)
    (hM : xPure base old dA D E l y bytes maxL ret fr lo As v) (hc : Cond.code y bytes maxL ret ∈ gw) (hi : Cond.initialized y.cls ∈ gw) (hl : Cond.methodLink own idx y ∈ gw) (hst : Cond.static y ∈ gw) (hd : y.cls ≠ "java/lang/invoke/MethodHandle" ∧ y.cls ≠ "java/lang/invoke/VarHandle" ∧ (parseMethodDescriptor y.desc).map (fun d => d.parameters.length) = some n) (hn : As.length = n) (hR : fr + 1 ≤ R.frames ∧ 8 + (maxL + 11) + lo ≤ R.locals) (hW : (rest.map fun v => v.category).sum ≤ 8) (hdg : decode cc pc = .ok (.invokestatic idx, 3)) (hf : cells ≤ R.cells ∧ slots ≤ R.slots)
    (kk : W p l e R s m args below meth c H locs cells slots Q (F0 m (pc + 3) ls (v.toList ++ rest))) : W p l e R s m args below meth c H locs cells slots Q (F0 m pc ls (As.reverse ++ rest)) :=
  run_pure (va_runS (Ts := gw) (nL := ls.size) ⟨hx, hb, hml, hown, hts⟩ hM ⟨callB_of n hts (gw_goodIn hc) rfl rfl rfl (hts _ hi) (hts _ hl) hd hR, hts _ hst⟩ ⟨fun a U g mk q => ⟨q.1, xEnv_same (U := U) (U' := U.calling g mk a) rfl rfl q.2⟩, fun U hU hW => ⟨rfl, xEnv_warm hU hW hS henv⟩⟩ rfl hn rfl rfl (lv_room hW) hdg hf) kk
theorem call_V {cc bytes : ByteArray} {own : String} {idx pc maxL n fr lo b : Nat} {y : MethodName} {ret : Option FieldType} {As rest : List Value} {v : Option Value} {ls : Array Slot} (hx : p.tables.exec = Jvm.exec) (hb : c.code = cc) (hml : c.maxLocals = ls.size) (hown : s.vm.findClass own = some m.cls) (hts : ∀ w ∈ gw, w.before args s = true) (henv : xEnv base old dA D E s) (hS : va_S (fun q => base ≤ q) s.heap H locs)
    (hM : xPure base old dA D E l y bytes maxL ret fr lo (.ref b :: As) v) (hc : Cond.code y bytes maxL ret ∈ gw) (hi : Cond.initialized y.cls ∈ gw) (hl : Cond.methodLink own idx y ∈ gw) (hin : Cond.instanceMethod y ∈ gw) (hse : Cond.selects y.cls y y ∈ gw) (hd : y.cls ≠ "java/lang/invoke/MethodHandle" ∧ y.cls ≠ "java/lang/invoke/VarHandle" ∧ (parseMethodDescriptor y.desc).map (fun d => d.parameters.length) = some n) (hn : As.length = n) (hrc : ∃ cellB : Cell, H[b]? = some cellB ∧ cellB.vm.isStatics = false ∧ s.vm.findClass y.cls = some cellB.cls) (hR : fr + 1 ≤ R.frames ∧ 8 + (maxL + 11) + lo ≤ R.locals) (hW : (rest.map fun v => v.category).sum ≤ 8) (hdg : decode cc pc = .ok (.invokevirtual idx, 3)) (hf : cells ≤ R.cells ∧ slots ≤ R.slots)
    (kk : W p l e R s m args below meth c H locs cells slots Q (F0 m (pc + 3) ls (v.toList ++ rest))) : W p l e R s m args below meth c H locs cells slots Q (F0 m pc ls (As.reverse ++ .ref b :: rest)) :=
  run_pure (va_runV (Ts := gw) (nL := ls.size) (C := y.cls) ⟨hx, hb, hml, hown, hts⟩ hM ⟨callB_of n hts (gw_goodIn hc) rfl rfl rfl (hts _ hi) (hts _ hl) hd hR, hts _ hin, hts _ hse⟩ ⟨fun a U g mk q => ⟨q.1, xEnv_same (U := U) (U' := U.calling g mk a) rfl rfl q.2⟩, hrc, fun U hU hW => ⟨rfl, xEnv_warm hU hW hS henv⟩⟩ rfl hn rfl rfl (lv_room hW) hdg hf) kk
end XSTR
section XSTR2
variable (base : Nat) (old : Nat → Nat) (dA : Nat → ClassId) (D : va_G) (E : Nat × (Nat → Int32)) (l : Launch)
def zCk : MethodName := ⟨"jdk/internal/util/Preconditions", "checkIndex", "(IILjava/util/function/BiFunction;)I"⟩
def zSk : MethodName := ⟨"java/lang/String", "checkIndex", "(II)V"⟩
def zLa : MethodName := ⟨"java/lang/StringLatin1", "charAt", "([BI)C"⟩
def zCo : MethodName := ⟨"java/lang/String", "coder", "()B"⟩
def zIs : MethodName := ⟨"java/lang/String", "isLatin1", "()Z"⟩
theorem z_ck_0 : decode prog_20_method_11_code 0 = .ok (.iload_n 0, 1) := by decide +kernel
theorem z_ck_1 : decode prog_20_method_11_code 1 = .ok (.ifCond .lt 8, 3) := by decide +kernel
theorem z_ck_4 : decode prog_20_method_11_code 4 = .ok (.iload_n 0, 1) := by decide +kernel
theorem z_ck_5 : decode prog_20_method_11_code 5 = .ok (.iload_n 1, 1) := by decide +kernel
theorem z_ck_6 : decode prog_20_method_11_code 6 = .ok (.if_icmp .lt 10, 3) := by decide +kernel
theorem z_ck_9 : decode prog_20_method_11_code 9 = .ok (.aload_n 2, 1) := by decide +kernel
theorem z_ck_10 : decode prog_20_method_11_code 10 = .ok (.iload_n 0, 1) := by decide +kernel
theorem z_ck_11 : decode prog_20_method_11_code 11 = .ok (.iload_n 1, 1) := by decide +kernel
theorem z_ck_12 : decode prog_20_method_11_code 12 = .ok (.invokestatic 95, 3) := by decide +kernel
theorem z_ck_16 : decode prog_20_method_11_code 16 = .ok (.iload_n 0, 1) := by decide +kernel
theorem z_ck_17 : decode prog_20_method_11_code 17 = .ok (.ireturn, 1) := by decide +kernel
theorem z_sk_0 : decode prog_15_method_155_code 0 = .ok (.iload_n 0, 1) := by decide +kernel
theorem z_sk_1 : decode prog_15_method_155_code 1 = .ok (.iload_n 1, 1) := by decide +kernel
theorem z_sk_2 : decode prog_15_method_155_code 2 = .ok (.getstatic 1053, 3) := by decide +kernel
theorem z_sk_5 : decode prog_15_method_155_code 5 = .ok (.invokestatic 1059, 3) := by decide +kernel
theorem z_sk_8 : decode prog_15_method_155_code 8 = .ok (.pop, 1) := by decide +kernel
theorem z_sk_9 : decode prog_15_method_155_code 9 = .ok (.return_, 1) := by decide +kernel
theorem z_la_0 : decode prog_16_method_2_code 0 = .ok (.iload_n 1, 1) := by decide +kernel
theorem z_la_1 : decode prog_16_method_2_code 1 = .ok (.aload_n 0, 1) := by decide +kernel
theorem z_la_2 : decode prog_16_method_2_code 2 = .ok (.arraylength, 1) := by decide +kernel
theorem z_la_3 : decode prog_16_method_2_code 3 = .ok (.invokestatic 9, 3) := by decide +kernel
theorem z_la_6 : decode prog_16_method_2_code 6 = .ok (.aload_n 0, 1) := by decide +kernel
theorem z_la_7 : decode prog_16_method_2_code 7 = .ok (.iload_n 1, 1) := by decide +kernel
theorem z_la_8 : decode prog_16_method_2_code 8 = .ok (.baload, 1) := by decide +kernel
theorem z_la_9 : decode prog_16_method_2_code 9 = .ok (.sipush 255, 3) := by decide +kernel
theorem z_la_12 : decode prog_16_method_2_code 12 = .ok (.iand, 1) := by decide +kernel
theorem z_la_13 : decode prog_16_method_2_code 13 = .ok (.i2c, 1) := by decide +kernel
theorem z_la_14 : decode prog_16_method_2_code 14 = .ok (.ireturn, 1) := by decide +kernel
theorem z_co_0 : decode prog_15_method_152_code 0 = .ok (.getstatic 38, 3) := by decide +kernel
theorem z_co_3 : decode prog_15_method_152_code 3 = .ok (.ifCond .eq 10, 3) := by decide +kernel
theorem z_co_6 : decode prog_15_method_152_code 6 = .ok (.aload_n 0, 1) := by decide +kernel
theorem z_co_7 : decode prog_15_method_152_code 7 = .ok (.getfield 15, 3) := by decide +kernel
theorem z_co_10 : decode prog_15_method_152_code 10 = .ok (.goto 4, 3) := by decide +kernel
theorem z_co_13 : decode prog_15_method_152_code 13 = .ok (.iconst 1, 1) := by decide +kernel
theorem z_co_14 : decode prog_15_method_152_code 14 = .ok (.ireturn, 1) := by decide +kernel
theorem z_is_0 : decode prog_15_method_154_code 0 = .ok (.getstatic 38, 3) := by decide +kernel
theorem z_is_3 : decode prog_15_method_154_code 3 = .ok (.ifCond .eq 14, 3) := by decide +kernel
theorem z_is_6 : decode prog_15_method_154_code 6 = .ok (.aload_n 0, 1) := by decide +kernel
theorem z_is_7 : decode prog_15_method_154_code 7 = .ok (.getfield 15, 3) := by decide +kernel
theorem z_is_10 : decode prog_15_method_154_code 10 = .ok (.ifCond .ne 7, 3) := by decide +kernel
theorem z_is_13 : decode prog_15_method_154_code 13 = .ok (.iconst 1, 1) := by decide +kernel
theorem z_is_14 : decode prog_15_method_154_code 14 = .ok (.goto 4, 3) := by decide +kernel
theorem z_is_17 : decode prog_15_method_154_code 17 = .ok (.iconst 0, 1) := by decide +kernel
theorem z_is_18 : decode prog_15_method_154_code 18 = .ok (.ireturn, 1) := by decide +kernel
theorem z_len_0 : decode prog_15_method_54_code 0 = .ok (.aload_n 0, 1) := by decide +kernel
theorem z_len_1 : decode prog_15_method_54_code 1 = .ok (.getfield 9, 3) := by decide +kernel
theorem z_len_4 : decode prog_15_method_54_code 4 = .ok (.arraylength, 1) := by decide +kernel
theorem z_len_5 : decode prog_15_method_54_code 5 = .ok (.aload_n 0, 1) := by decide +kernel
theorem z_len_6 : decode prog_15_method_54_code 6 = .ok (.invokevirtual 335, 3) := by decide +kernel
theorem z_len_9 : decode prog_15_method_54_code 9 = .ok (.ishr, 1) := by decide +kernel
theorem z_len_10 : decode prog_15_method_54_code 10 = .ok (.ireturn, 1) := by decide +kernel
theorem z_at_0 : decode prog_15_method_56_code 0 = .ok (.aload_n 0, 1) := by decide +kernel
theorem z_at_1 : decode prog_15_method_56_code 1 = .ok (.invokevirtual 492, 3) := by decide +kernel
theorem z_at_4 : decode prog_15_method_56_code 4 = .ok (.ifCond .eq 12, 3) := by decide +kernel
theorem z_at_7 : decode prog_15_method_56_code 7 = .ok (.aload_n 0, 1) := by decide +kernel
theorem z_at_8 : decode prog_15_method_56_code 8 = .ok (.getfield 9, 3) := by decide +kernel
theorem z_at_11 : decode prog_15_method_56_code 11 = .ok (.iload_n 1, 1) := by decide +kernel
theorem z_at_12 : decode prog_15_method_56_code 12 = .ok (.invokestatic 495, 3) := by decide +kernel
theorem z_at_15 : decode prog_15_method_56_code 15 = .ok (.ireturn, 1) := by decide +kernel
theorem z_at_16 : decode prog_15_method_56_code 16 = .ok (.aload_n 0, 1) := by decide +kernel
theorem z_at_17 : decode prog_15_method_56_code 17 = .ok (.getfield 9, 3) := by decide +kernel
theorem z_at_20 : decode prog_15_method_56_code 20 = .ok (.iload_n 1, 1) := by decide +kernel
theorem z_at_21 : decode prog_15_method_56_code 21 = .ok (.invokestatic 498, 3) := by decide +kernel
theorem z_at_24 : decode prog_15_method_56_code 24 = .ok (.ireturn, 1) := by decide +kernel
theorem zw_ck_c : Cond.code zCk prog_20_method_11_code 3 (some .int) ∈ gw := gm3 154 rfl rfl
theorem zw_ck_i : Cond.initialized zCk.cls ∈ gw := gm1 15 rfl rfl
theorem zw_ck_s : Cond.static zCk ∈ gw := gm3 153 rfl rfl
theorem zw_sk_ck : Cond.methodLink "java/lang/String" 1059 zCk ∈ gw := gm3 152 rfl rfl
theorem zw_sk_c : Cond.code zSk prog_15_method_155_code 2 none ∈ gw := gm3 149 rfl rfl
theorem zw_sk_i : Cond.initialized zSk.cls ∈ gw := gm1 13 rfl rfl
theorem zw_sk_s : Cond.static zSk ∈ gw := gm3 148 rfl rfl
theorem zw_sk_f : Cond.fieldLink "java/lang/String" 1053 "jdk/internal/util/Preconditions" "SIOOBE_FORMATTER" "Ljava/util/function/BiFunction;" ∈ gw := gm3 150 rfl rfl
theorem zw_la_sk : Cond.methodLink "java/lang/StringLatin1" 9 zSk ∈ gw := gm3 147 rfl rfl
theorem zw_la_c : Cond.code zLa prog_16_method_2_code 2 (some .char) ∈ gw := gm3 146 rfl rfl
theorem zw_la_i : Cond.initialized zLa.cls ∈ gw := gm1 14 rfl rfl
theorem zw_la_s : Cond.static zLa ∈ gw := gm3 145 rfl rfl
theorem zw_co_f : Cond.fieldLink "java/lang/String" 38 "java/lang/String" "COMPACT_STRINGS" "Z" ∈ gw := gm3 134 rfl rfl
theorem zw_co_g : Cond.fieldLink "java/lang/String" 15 "java/lang/String" "coder" "B" ∈ gw := gm8 87 rfl rfl
theorem zw_co_c : Cond.code zCo prog_15_method_152_code 1 (some .byte) ∈ gw := gm3 133 rfl rfl
theorem zw_co_i : Cond.initialized zCo.cls ∈ gw := gm1 13 rfl rfl
theorem zw_co_n : Cond.instanceMethod zCo ∈ gw := gm3 131 rfl rfl
theorem zw_co_s : Cond.selects zCo.cls zCo zCo ∈ gw := gm3 132 rfl rfl
theorem zw_len_g : Cond.fieldLink "java/lang/String" 9 "java/lang/String" "value" "[B" ∈ gw := gm8 86 rfl rfl
theorem zw_len_co : Cond.methodLink "java/lang/String" 335 zCo ∈ gw := gm3 130 rfl rfl
theorem zw_is_c : Cond.code zIs prog_15_method_154_code 1 (some .boolean) ∈ gw := gm3 143 rfl rfl
theorem zw_is_n : Cond.instanceMethod zIs ∈ gw := gm3 141 rfl rfl
theorem zw_is_s : Cond.selects zIs.cls zIs zIs ∈ gw := gm3 142 rfl rfl
theorem zw_at_is : Cond.methodLink "java/lang/String" 492 zIs ∈ gw := gm3 140 rfl rfl
theorem zw_at_la : Cond.methodLink "java/lang/String" 495 zLa ∈ gw := gm3 144 rfl rfl
theorem zw_len_c : Cond.code xsLen prog_15_method_54_code 1 (some .int) ∈ gw := gm3 129 rfl rfl
theorem zw_len_n : Cond.instanceMethod xsLen ∈ gw := gm3 127 rfl rfl
theorem zw_len_s : Cond.selects xsLen.cls xsLen xsLen ∈ gw := gm3 128 rfl rfl
theorem zw_len_i : Cond.initialized xsLen.cls ∈ gw := gm1 13 rfl rfl
theorem zw_at_c : Cond.code xsAt prog_15_method_56_code 2 (some .char) ∈ gw := gm3 139 rfl rfl
theorem zw_at_n : Cond.instanceMethod xsAt ∈ gw := gm3 137 rfl rfl
theorem zw_at_s : Cond.selects xsAt.cls xsAt xsAt ∈ gw := gm3 138 rfl rfl
theorem zw_at_i : Cond.initialized xsAt.cls ∈ gw := gm1 13 rfl rfl
theorem c_ck (i n : Int32) (f : Value) (hf : f = .null ∨ ∃ a, f = .ref a) (h0 : ¬ i < 0) (h1 : i < n) : xPure base old dA D E l zCk prog_20_method_11_code 3 (some .int) 0 0 [.int i, .int n, f] (some (.int i)) := by
  refine Met.ofW (cc := prog_20_method_11_code) (maxL := 3) (ret := some .int) (by decide) rfl ?_
  intro p e s m args below meth c s₁ B hml hv
  obtain ⟨rfl, henv⟩ := hv
  have hx := B.exec
  have hb := B.bytes
  have hr := B.returns
  have hlocks := B.notSynchronized
  have hl := lv_entry ([.int i, .int n, f]) (n := 3) (by rcases hf with rfl | ⟨a, rfl⟩ <;> exact Nat.le_of_ble_eq_true rfl)
  rw [lg_entry_eq]
  generalize (lg_sl ([.int i, .int n, f]) ++ List.replicate (3 - (lg_sl ([.int i, .int n, f])).length) Slot.unset).toArray = ls at hl ⊢
  have hl0 : ls[0]? = some (.val (.int i)) := hl.2.2 (0, .int i) (by simp [lv_args])
  have hl1 : ls[1]? = some (.val (.int n)) := hl.2.2 (1, .int n) (by simp [lv_args, Value.category])
  refine lv_iload_n hx hb z_ck_0 rfl hl0 ?_
  refine lv_if_lt (tgt := 9) hx hb z_ck_1 (by decide) (fun q => absurd q h0) (fun _ => ?_)
  refine lv_iload_n hx hb z_ck_4 rfl hl0 ?_
  refine lv_iload_n hx hb z_ck_5 rfl hl1 ?_
  refine lv_icmp_lt (tgt := 16) hx hb z_ck_6 (by decide) (fun _ => ?_) (fun q => absurd h1 q)
  refine lv_iload_n hx hb z_ck_16 rfl hl0 ?_
  exact W.iret (v := i) hx hb hr (fun t ht hW => ⟨rfl, ht⟩) (fun _ h => by cases h) z_ck_17
theorem c_sk (i n : Int32) (h0 : ¬ i < 0) (h1 : i < n) : xPure base old dA D E l zSk prog_15_method_155_code 2 none 1 22 [.int i, .int n] none := by
  refine Met.ofW (cc := prog_15_method_155_code) (maxL := 2) (ret := none) (by decide) rfl ?_
  intro p e s m args below meth c s₁ B hml hv
  obtain ⟨rfl, henv⟩ := hv
  have hx := B.exec
  have hb := B.bytes
  have hr := B.returns
  have hlocks := B.notSynchronized
  have hts : ∀ w ∈ gw, w.before _ s = true := fun w hw => atoms_spec B.pre w (List.mem_cons_of_mem _ hw)
  have hown : s.vm.findClass "java/lang/String" = some m.cls := findClass_of_methodNamed B.named
  have hS : va_S (fun q => base ≤ q) s.heap s.heap [] := va_S.rf
  have hl := lv_entry ([.int i, .int n]) (n := 2) (Nat.le_of_ble_eq_true rfl)
  rw [lg_entry_eq]
  generalize (lg_sl ([.int i, .int n]) ++ List.replicate (2 - (lg_sl ([.int i, .int n])).length) Slot.unset).toArray = ls at hl ⊢
  have hl : lv_has ls 2 [(0, .int i), (1, .int n)] := hl
  obtain ⟨-, -, -, -, -, -, -, -, -, -, hZq⟩ := id henv
  refine lv_iload_n hx hb z_sk_0 rfl (lv_at hl 0 rfl) ?_
  refine lv_iload_n hx hb z_sk_1 rfl (lv_at hl 1 rfl) ?_
  have go : ∀ f : Value, (f = .null ∨ ∃ a, f = .ref a) → W p l e (headSpec (.code zSk prog_15_method_155_code 2 none :: gw) { frames := 1, cells := 0, slots := 0, locals := 22 }).room s m #[.int i, .int n] below meth c s.heap [] 0 0 (MQ below (fun _ st o t => o = .returned none ∧ t.heap = st.heap) #[.int i, .int n] s 0 0 (fun _ => False)) (F0 m 5 ls [f, .int n, .int i]) := by
    intro f hf
    refine call_S (base := base) (old := old) (dA := dA) (D := D) (E := E) (own := "java/lang/String") (As := [.int i, .int n, f]) (rest := []) (n := 3) hx hb (by rw [hml]; exact hl.1.symm) hown hts henv hS (c_ck base old dA D E l i n f hf h0 h1) zw_ck_c zw_ck_i zw_sk_ck zw_ck_s (by decide +kernel) rfl ⟨Nat.le_of_ble_eq_true rfl, Nat.le_of_ble_eq_true rfl⟩ (Nat.le_of_ble_eq_true rfl) z_sk_5 ⟨Nat.le_refl _, Nat.le_refl _⟩ ?_
    refine lv_pop (va := .int i) hx hb z_sk_8 rfl ?_
    exact W.vret hx hb hr (fun t ht hW => ⟨rfl, ht⟩) (fun _ h => by cases h) z_sk_9
  rcases hZq with hZ | ⟨t, hZ⟩
  · exact va_gets hx hb hZ hS hown (hts _ zw_sk_f) (fun _ h => h) z_sk_2 (go .null (Or.inl rfl))
  · exact va_gets hx hb hZ hS hown (hts _ zw_sk_f) (fun _ h => h) z_sk_2 (go (.ref t) (Or.inr ⟨t, rfl⟩))
theorem xstr_len : ∀ i, i < xSTR.length → (xSTR.map List.length).getD i 0 = (xSTR.getD i []).length := by decide
theorem xstr_small : ∀ i, i < xSTR.length → ((xSTR.getD i []).length < 100 ∧ ∀ j, j < (xSTR.getD i []).length → (((((xSTR.getD i []).getD j 0) &&& 255).toUInt32 % 65536).toInt32 = (xSTR.getD i []).getD j 0 ∧ narrow .char (.int ((xSTR.getD i []).getD j 0)) = .int ((xSTR.getD i []).getD j 0))) := by decide +kernel
theorem c_la (i : Nat) (hi : i < xSTR.length) (k : Int32) (hk : vp_in k (xSTR.getD i []).length) : xPure base old dA D E l zLa prog_16_method_2_code 2 (some .char) 2 43 [.ref (old (100 + i)), .int k] (some (.int ((xSTR.getD i []).getD k.toNatClampNeg 0))) := by
  refine Met.ofW (cc := prog_16_method_2_code) (maxL := 2) (ret := some .char) (by decide) rfl ?_
  intro p e s m args below meth c s₁ B hml hv
  obtain ⟨rfl, henv⟩ := hv
  have hx := B.exec
  have hb := B.bytes
  have hr := B.returns
  have hlocks := B.notSynchronized
  have hts : ∀ w ∈ gw, w.before _ s = true := fun w hw => atoms_spec B.pre w (List.mem_cons_of_mem _ hw)
  have hown : s.vm.findClass "java/lang/StringLatin1" = some m.cls := findClass_of_methodNamed B.named
  have hS : va_S (fun q => base ≤ q) s.heap s.heap [] := va_S.rf
  have hl := lv_entry ([.ref (old (100 + i)), .int k]) (n := 2) (Nat.le_of_ble_eq_true rfl)
  rw [lg_entry_eq]
  generalize (lg_sl ([.ref (old (100 + i)), .int k]) ++ List.replicate (2 - (lg_sl ([.ref (old (100 + i)), .int k])).length) Slot.unset).toArray = ls at hl ⊢
  have hl : lv_has ls 2 [(0, .ref (old (100 + i))), (1, .int k)] := hl
  obtain ⟨-, -, -, -, -, -, -, hVS, -⟩ := id henv
  obtain ⟨-, -, -, hT⟩ := hVS.1 i hi
  have hlen := xstr_len i hi
  rw [hlen] at hT
  have hsm := xstr_small i hi
  have hk0 : ¬ k < 0 := fun q => hk (Or.inl q)
  have hk1 : k.toNatClampNeg < (xSTR.getD i []).length := Nat.not_le.mp fun q => hk (Or.inr q)
  obtain ⟨j, hj, rfl⟩ := vp_in_of hk (by omega)
  have hjc : (nI j).toNatClampNeg = j := nI_clamp (by omega)
  refine lv_iload_n hx hb z_la_0 rfl (lv_at hl 1 rfl) ?_
  refine lv_aload_n hx hb z_la_1 rfl (lv_at hl 0 rfl) ?_
  refine va_tlen hx hb hT hS (v := nI (xSTR.getD i []).length) rfl z_la_2 ?_
  refine call_S (base := base) (old := old) (dA := dA) (D := D) (E := E) (own := "java/lang/StringLatin1") (As := [.int (nI j), .int (nI (xSTR.getD i []).length)]) (rest := []) (n := 2) hx hb (by rw [hml]; exact hl.1.symm) hown hts henv hS (c_sk base old dA D E l (nI j) (nI (xSTR.getD i []).length) hk0 (nI_lt hj (by omega))) zw_sk_c zw_sk_i zw_la_sk zw_sk_s (by decide +kernel) rfl ⟨Nat.le_of_ble_eq_true rfl, Nat.le_of_ble_eq_true rfl⟩ (Nat.le_of_ble_eq_true rfl) z_la_3 ⟨Nat.le_refl _, Nat.le_refl _⟩ ?_
  refine lv_aload_n hx hb z_la_6 rfl (lv_at hl 0 rfl) ?_
  refine lv_iload_n hx hb z_la_7 rfl (lv_at hl 1 rfl) ?_
  refine va_tb hx hb hT hS hk rfl z_la_8 ?_
  refine lv_sipush (v := 255) hx hb z_la_9 (by decide) ?_
  refine lv_iand hx hb z_la_12 ?_
  refine lv_i2c hx hb z_la_13 rfl ?_
  rw [hjc] at *
  rw [(hsm.2 j hj).1]
  exact W.zret (ty := .char) hx hb hr (hsm.2 j hj).2 (fun t ht hW => ⟨rfl, ht⟩) (fun _ h => by cases h) z_la_14
theorem c_co (i : Nat) (hi : i < xSTR.length) : xPure base old dA D E l zCo prog_15_method_152_code 1 (some .byte) 0 0 [.ref (old (1 + i))] (some (.int 0)) := by
  refine Met.ofW (cc := prog_15_method_152_code) (maxL := 1) (ret := some .byte) (by decide) rfl ?_
  intro p e s m args below meth c s₁ B hml hv
  obtain ⟨rfl, henv⟩ := hv
  have hx := B.exec
  have hb := B.bytes
  have hr := B.returns
  have hlocks := B.notSynchronized
  have hts : ∀ w ∈ gw, w.before _ s = true := fun w hw => atoms_spec B.pre w (List.mem_cons_of_mem _ hw)
  have hown : s.vm.findClass "java/lang/String" = some m.cls := findClass_of_methodNamed B.named
  have hS : va_S (fun q => base ≤ q) s.heap s.heap [] := va_S.rf
  have hl := lv_entry ([.ref (old (1 + i))]) (n := 1) (Nat.le_of_ble_eq_true rfl)
  rw [lg_entry_eq]
  generalize (lg_sl ([.ref (old (1 + i))]) ++ List.replicate (1 - (lg_sl ([.ref (old (1 + i))])).length) Slot.unset).toArray = ls at hl ⊢
  have hl : lv_has ls 1 [(0, .ref (old (1 + i)))] := hl
  obtain ⟨-, -, -, -, -, -, -, hVS, -, hZ, -⟩ := id henv
  obtain ⟨-, hco, -, -⟩ := hVS.1 i hi
  refine va_gets hx hb hZ hS hown (hts _ zw_co_f) (fun _ h => h) z_co_0 ?_
  refine lv_if_eq (tgt := 13) hx hb z_co_3 (by decide) (fun q => absurd q (by decide)) (fun _ => ?_)
  refine lv_aload_n hx hb z_co_6 rfl (lv_at hl 0 rfl) ?_
  refine vk_getf hx hb hco hS hown (hts _ zw_co_g) (fun _ h => h) z_co_7 ?_
  refine lv_goto (tgt := 14) hx hb z_co_10 (by decide) ?_
  exact W.zret (ty := .byte) hx hb hr rfl (fun t ht hW => ⟨rfl, ht⟩) (fun _ h => by cases h) z_co_14
theorem c_is (i : Nat) (hi : i < xSTR.length) : xPure base old dA D E l zIs prog_15_method_154_code 1 (some .boolean) 0 0 [.ref (old (1 + i))] (some (.int 1)) := by
  refine Met.ofW (cc := prog_15_method_154_code) (maxL := 1) (ret := some .boolean) (by decide) rfl ?_
  intro p e s m args below meth c s₁ B hml hv
  obtain ⟨rfl, henv⟩ := hv
  have hx := B.exec
  have hb := B.bytes
  have hr := B.returns
  have hlocks := B.notSynchronized
  have hts : ∀ w ∈ gw, w.before _ s = true := fun w hw => atoms_spec B.pre w (List.mem_cons_of_mem _ hw)
  have hown : s.vm.findClass "java/lang/String" = some m.cls := findClass_of_methodNamed B.named
  have hS : va_S (fun q => base ≤ q) s.heap s.heap [] := va_S.rf
  have hl := lv_entry ([.ref (old (1 + i))]) (n := 1) (Nat.le_of_ble_eq_true rfl)
  rw [lg_entry_eq]
  generalize (lg_sl ([.ref (old (1 + i))]) ++ List.replicate (1 - (lg_sl ([.ref (old (1 + i))])).length) Slot.unset).toArray = ls at hl ⊢
  have hl : lv_has ls 1 [(0, .ref (old (1 + i)))] := hl
  obtain ⟨-, -, -, -, -, -, -, hVS, -, hZ, -⟩ := id henv
  obtain ⟨-, hco, -, -⟩ := hVS.1 i hi
  refine va_gets hx hb hZ hS hown (hts _ zw_co_f) (fun _ h => h) z_is_0 ?_
  refine lv_if_eq (tgt := 17) hx hb z_is_3 (by decide) (fun q => absurd q (by decide)) (fun _ => ?_)
  refine lv_aload_n hx hb z_is_6 rfl (lv_at hl 0 rfl) ?_
  refine vk_getf hx hb hco hS hown (hts _ zw_co_g) (fun _ h => h) z_is_7 ?_
  refine lv_if_ne (tgt := 17) hx hb z_is_10 (by decide) (fun q => absurd rfl q) (fun _ => ?_)
  refine lv_iconst (v := 1) hx hb z_is_13 (by decide) ?_
  refine lv_goto (tgt := 18) hx hb z_is_14 (by decide) ?_
  exact W.zret (ty := .boolean) hx hb hr rfl (fun t ht hW => ⟨rfl, ht⟩) (fun _ h => by cases h) z_is_18
theorem c_len (i : Nat) (hi : i < xSTR.length) : xPure base old dA D E l xsLen prog_15_method_54_code 1 (some .int) 1 20 [.ref (old (1 + i))] (some (.int (Int32.ofNat (xSTR.getD i []).length))) := by
  refine Met.ofW (cc := prog_15_method_54_code) (maxL := 1) (ret := some .int) (by decide) rfl ?_
  intro p e s m args below meth c s₁ B hml hv
  obtain ⟨rfl, henv⟩ := hv
  have hx := B.exec
  have hb := B.bytes
  have hr := B.returns
  have hlocks := B.notSynchronized
  have hts : ∀ w ∈ gw, w.before _ s = true := fun w hw => atoms_spec B.pre w (List.mem_cons_of_mem _ hw)
  have hown : s.vm.findClass "java/lang/String" = some m.cls := findClass_of_methodNamed B.named
  have hS : va_S (fun q => base ≤ q) s.heap s.heap [] := va_S.rf
  have hl := lv_entry ([.ref (old (1 + i))]) (n := 1) (Nat.le_of_ble_eq_true rfl)
  rw [lg_entry_eq]
  generalize (lg_sl ([.ref (old (1 + i))]) ++ List.replicate (1 - (lg_sl ([.ref (old (1 + i))])).length) Slot.unset).toArray = ls at hl ⊢
  have hl : lv_has ls 1 [(0, .ref (old (1 + i)))] := hl
  obtain ⟨-, -, -, -, -, -, -, hVS, -⟩ := id henv
  obtain ⟨hO, hco, hva, hT⟩ := hVS.1 i hi
  have hlen := xstr_len i hi
  rw [hlen] at hT
  refine lv_aload_n hx hb z_len_0 rfl (lv_at hl 0 rfl) ?_
  refine vk_getf hx hb hva hS hown (hts _ zw_len_g) (fun _ h => h) z_len_1 ?_
  refine va_tlen hx hb hT hS (v := Int32.ofNat (xSTR.getD i []).length) rfl z_len_4 ?_
  refine lv_aload_n hx hb z_len_5 rfl (lv_at hl 0 rfl) ?_
  refine call_V (base := base) (old := old) (dA := dA) (D := D) (E := E) (own := "java/lang/String") (As := []) (rest := [.int (Int32.ofNat (xSTR.getD i []).length)]) (n := 0) hx hb (by rw [hml]; exact hl.1.symm) hown hts henv hS (c_co base old dA D E l i hi) zw_co_c zw_co_i zw_len_co zw_co_n zw_co_s (by decide +kernel) rfl (vk_recv (adK := fun i => old (1 + i)) hVS hi hS) ⟨Nat.le_of_ble_eq_true rfl, Nat.le_of_ble_eq_true rfl⟩ (Nat.le_of_ble_eq_true rfl) z_len_6 ⟨Nat.le_refl _, Nat.le_refl _⟩ ?_
  refine lv_ishr hx hb z_len_9 ?_
  rw [sb_shr0]
  exact W.iret hx hb hr (fun t ht hW => ⟨rfl, ht⟩) (fun _ h => by cases h) z_len_10
theorem c_at (i : Nat) (hi : i < xSTR.length) (k : Int32) (hk : vp_in k (xSTR.getD i []).length) : xPure base old dA D E l xsAt prog_15_method_56_code 2 (some .char) 3 64 [.ref (old (1 + i)), .int k] (some (.int ((xSTR.getD i []).getD k.toNatClampNeg 0))) := by
  refine Met.ofW (cc := prog_15_method_56_code) (maxL := 2) (ret := some .char) (by decide) rfl ?_
  intro p e s m args below meth c s₁ B hml hv
  obtain ⟨rfl, henv⟩ := hv
  have hx := B.exec
  have hb := B.bytes
  have hr := B.returns
  have hlocks := B.notSynchronized
  have hts : ∀ w ∈ gw, w.before _ s = true := fun w hw => atoms_spec B.pre w (List.mem_cons_of_mem _ hw)
  have hown : s.vm.findClass "java/lang/String" = some m.cls := findClass_of_methodNamed B.named
  have hS : va_S (fun q => base ≤ q) s.heap s.heap [] := va_S.rf
  have hl := lv_entry ([.ref (old (1 + i)), .int k]) (n := 2) (Nat.le_of_ble_eq_true rfl)
  rw [lg_entry_eq]
  generalize (lg_sl ([.ref (old (1 + i)), .int k]) ++ List.replicate (2 - (lg_sl ([.ref (old (1 + i)), .int k])).length) Slot.unset).toArray = ls at hl ⊢
  have hl : lv_has ls 2 [(0, .ref (old (1 + i))), (1, .int k)] := hl
  obtain ⟨-, -, -, -, -, -, -, hVS, -⟩ := id henv
  obtain ⟨hO, hco, hva, hT⟩ := hVS.1 i hi
  have hn : ∀ j, j < (xSTR.getD i []).length → narrow .char (.int ((xSTR.getD i []).getD j 0)) = .int ((xSTR.getD i []).getD j 0) := fun j hj => ((xstr_small i hi).2 j hj).2
  have hk1 : k.toNatClampNeg < (xSTR.getD i []).length := Nat.not_le.mp fun q => hk (Or.inr q)
  refine lv_aload_n hx hb z_at_0 rfl (lv_at hl 0 rfl) ?_
  refine call_V (base := base) (old := old) (dA := dA) (D := D) (E := E) (own := "java/lang/String") (As := []) (rest := []) (n := 0) hx hb (by rw [hml]; exact hl.1.symm) hown hts henv hS (c_is base old dA D E l i hi) zw_is_c zw_co_i zw_at_is zw_is_n zw_is_s (by decide +kernel) rfl (vk_recv (adK := fun i => old (1 + i)) hVS hi hS) ⟨Nat.le_of_ble_eq_true rfl, Nat.le_of_ble_eq_true rfl⟩ (Nat.le_of_ble_eq_true rfl) z_at_1 ⟨Nat.le_refl _, Nat.le_refl _⟩ ?_
  refine lv_if_eq (tgt := 16) hx hb z_at_4 (by decide) (fun q => absurd q (by decide)) (fun _ => ?_)
  refine lv_aload_n hx hb z_at_7 rfl (lv_at hl 0 rfl) ?_
  refine vk_getf hx hb hva hS hown (hts _ zw_len_g) (fun _ h => h) z_at_8 ?_
  refine lv_iload_n hx hb z_at_11 rfl (lv_at hl 1 rfl) ?_
  refine call_S (base := base) (old := old) (dA := dA) (D := D) (E := E) (own := "java/lang/String") (As := [.ref (old (100 + i)), .int k]) (rest := []) (n := 2) hx hb (by rw [hml]; exact hl.1.symm) hown hts henv hS (c_la base old dA D E l i hi k hk) zw_la_c zw_la_i zw_at_la zw_la_s (by decide +kernel) rfl ⟨Nat.le_of_ble_eq_true rfl, Nat.le_of_ble_eq_true rfl⟩ (Nat.le_of_ble_eq_true rfl) z_at_12 ⟨Nat.le_refl _, Nat.le_refl _⟩ ?_
  exact W.zret (ty := .char) hx hb hr (hn _ hk1) (fun t ht hW => ⟨rfl, ht⟩) (fun _ h => by cases h) z_at_15
end XSTR2
