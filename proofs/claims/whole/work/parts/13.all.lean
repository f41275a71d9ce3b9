/-! ===== one instruction, whichever; calls; returns ===== -/
section XS4
variable {base : Nat} {old : Nat → Nat} {dA : Nat → ClassId} {D : va_G} {E : Nat × (Nat → Int32)}
variable {p : Program} {l : Launch} {e : Env} {R : Room} {s : State} {m : MethodId} {args : Array Value} {below : List Frame} {meth : Method} {c : Code} {Q : State → Prop}
variable {M : xM} {b : ByteArray} {a0 s0 : Nat}
theorem i_inv {T : xT} {own ik idx lk pc : Nat} {ls st : List Value} {A : xH} {n : xN} (h : xinv T own xgo0 xcl0 ik idx lk pc ls st A = some n) : ∃ kd mid na rk, T.2.1[lk]? = some (own, idx, kd, mid, na, rk) ∧ xkd ik kd = true ∧ (
    (kd = 6 ∧ ∃ a s1, st = .ref a :: s1 ∧ xcat s1 ≤ 8 ∧ n = .inl (pc + 3, ls, s1, A)) ∨
    (kd = 7 ∧ ∃ x y s1, st = .int y :: .int x :: s1 ∧ xcat s1 ≤ 8 ∧ n = .inl (pc + 3, ls, .int (xmax x y) :: s1, A)) ∨
    (kd = 8 ∧ ∃ x y s1, st = .int y :: .int x :: s1 ∧ xcat s1 ≤ 8 ∧ n = .inl (pc + 3, ls, .int (xmin x y) :: s1, A)) ∨
    (kd = 9 ∧ ∃ k dp bb sp a s1 B, st = .int k :: .int dp :: .ref bb :: .int sp :: .ref a :: s1 ∧ xcat s1 ≤ 8 ∧ xcopy A a sp bb dp k = some B ∧ n = .inl (pc + 3, ls, s1, B)) ∨
    (kd = 10 ∧ ∃ k s1 x, st = .float k :: s1 ∧ xcat s1 ≤ 8 ∧ xslen T.2.2.2.2.2.2 k = some x ∧ n = .inl (pc + 3, ls, .int x :: s1, A)) ∨
    (kd = 11 ∧ ∃ i k s1 x, st = .int i :: .float k :: s1 ∧ xcat s1 ≤ 8 ∧ xsat T.2.2.2.2.2.2 k i = some x ∧ n = .inl (pc + 3, ls, .int x :: s1, A)) ∨
    (kd = 12 ∧ ∃ a s1 B, st = .ref a :: s1 ∧ xcat s1 ≤ 8 ∧ xclone A a = some B ∧ n = .inl (pc + 3, ls, .ref A.length :: s1, B)) ∨
    (kd < 6 ∧ ∃ as s1, xpop na [] st = some (as, s1) ∧ xcat s1 ≤ 8 ∧ n = .inr (.inl ((mid, as, rk), (pc + 3, ls, s1, A))))) := by
  unfold xinv at h
  split at h
  · cases h
  · rename_i o i kd mid na rk hT
    split at h
    · rename_i ho
      obtain ⟨rfl, rfl, hk⟩ := ho
      refine ⟨kd, mid, na, rk, hT, hk, ?_⟩
      split at h
      · split at h
        · split at h
          · rename_i hc
            exact Or.inl ⟨rfl, _, _, rfl, hc, (Option.some.inj h).symm⟩
          · cases h
        · cases h
      · split at h
        · split at h
          · rename_i hc
            exact Or.inr (Or.inl ⟨rfl, _, _, _, rfl, hc, (Option.some.inj h).symm⟩)
          · cases h
        · cases h
      · split at h
        · split at h
          · rename_i hc
            exact Or.inr (Or.inr (Or.inl ⟨rfl, _, _, _, rfl, hc, (Option.some.inj h).symm⟩))
          · cases h
        · cases h
      · split at h
        · split at h
          · rename_i hc
            obtain ⟨B, h1, h2⟩ := i_bind h
            exact Or.inr (Or.inr (Or.inr (Or.inl ⟨rfl, _, _, _, _, _, _, B, rfl, hc, h1, (Option.some.inj h2).symm⟩)))
          · cases h
        · cases h
      · split at h
        · split at h
          · rename_i hc
            obtain ⟨B, h1, h2⟩ := i_bind h
            exact Or.inr (Or.inr (Or.inr (Or.inr (Or.inl ⟨rfl, _, _, B, rfl, hc, h1, (Option.some.inj h2).symm⟩))))
          · cases h
        · cases h
      · split at h
        · split at h
          · rename_i hc
            obtain ⟨B, h1, h2⟩ := i_bind h
            exact Or.inr (Or.inr (Or.inr (Or.inr (Or.inr (Or.inl ⟨rfl, _, _, _, B, rfl, hc, h1, (Option.some.inj h2).symm⟩)))))
          · cases h
        · cases h
      · split at h
        · split at h
          · rename_i hc
            obtain ⟨B, h1, h2⟩ := i_bind h
            exact Or.inr (Or.inr (Or.inr (Or.inr (Or.inr (Or.inr (Or.inl ⟨rfl, _, _, B, rfl, hc, h1, (Option.some.inj h2).symm⟩))))))
          · cases h
        · cases h
      · rename_i n6 n7 n8 n9 n10 n11 n12
        have hlt : kd < 6 := by
          have m6 : kd ≠ 6 := n6
          have m7 : kd ≠ 7 := n7
          have m8 : kd ≠ 8 := n8
          have m9 : kd ≠ 9 := n9
          have m10 : kd ≠ 10 := n10
          have m11 : kd ≠ 11 := n11
          have m12 : kd ≠ 12 := n12
          unfold xkd at hk
          split at hk
          · simp only [Bool.or_eq_true, beq_iff_eq] at hk; omega
          · simp only [Bool.or_eq_true, beq_iff_eq] at hk; omega
          · simp only [Bool.or_eq_true, beq_iff_eq] at hk; omega
        split at h
        · cases h
        · rename_i as s1 hp
          split at h
          · rename_i hc
            exact Or.inr (Or.inr (Or.inr (Or.inr (Or.inr (Or.inr (Or.inr ⟨hlt, as, s1, hp, hc, (Option.some.inj h).symm⟩))))))
          · cases h
    · cases h
theorem str_ok {k : UInt32} {x : List Int32} (h : xstr xSTR k = some x) : ∃ i, i < xSTR.length ∧ k.toNat = 1 + i ∧ x = xSTR.getD i [] := by
  unfold xstr at h
  split at h
  · cases h
  · rename_i hk
    refine ⟨k.toNat - 1, (List.getElem?_eq_some_iff.mp h).1, ?_, ?_⟩
    · have : k.toNat ≠ 0 := fun q => hk (by rw [← UInt32.toNat_inj]; exact q)
      omega
    · rw [List.getD_eq_getElem?_getD, h]
      rfl
theorem go_inv {ik idx lk pc : Nat} {als st : List Value} {A : xH} {pc' : Nat} {als' st' : List Value} {A' : xH} (C : xCx base old dA D E p s m args meth c M b a0) (hal : als.length = M.2.2.2.1) (ha : a0 ≤ A.length) (hs : s0 ≤ xsl A) (h1 : A'.length - a0 ≤ R.cells) (h2 : xsl A' - s0 ≤ R.slots) (hfr : 4 ≤ R.frames) (hlo : 100 ≤ R.locals) (hik : ik < 3)
    (hdg : (ik = 0 → decode b pc = .ok (.invokevirtual idx, 3)) ∧ (ik = 1 → decode b pc = .ok (.invokespecial idx, 3)) ∧ (ik = 2 → decode b pc = .ok (.invokestatic idx, 3))) (h : xinv xtabs M.1 xgo0 xcl0 ik idx lk pc als st A = some (.inl (pc', als', st', A'))) (kk : xK base old dA D p l e R s m args below meth c Q a0 s0 pc' als' st' A') : xK base old dA D p l e R s m args below meth c Q a0 s0 pc als st A := by
  obtain ⟨hx, hb, hml, hown, hts, henv, hini, hz⟩ := C
  obtain ⟨kd, mid, na, rk, hT, hkd, hc⟩ := i_inv h
  have hlink := ml_all _ (List.mem_of_getElem? (show xML[lk]? = some _ from hT))
  intro H locs ls hX hl
  have hmlL : c.maxLocals = ls.size := by rw [hml, ← hal]; exact hl.1.symm
  rcases hc with ⟨rfl, a, s1, rfl, hcat, e1⟩ | ⟨rfl, x, y, s1, rfl, hcat, e1⟩ | ⟨rfl, x, y, s1, rfl, hcat, e1⟩ | ⟨rfl, k, dp, bb, sp, a, s1, B, rfl, hcat, hcp, e1⟩ | ⟨rfl, k, s1, x, rfl, hcat, hsl, e1⟩ | ⟨rfl, i, k, s1, x, rfl, hcat, hsl, e1⟩ | ⟨rfl, a, s1, B, rfl, hcat, hcl, e1⟩ | ⟨-, as, s1, -, -, e1⟩
  · cases e1
    have hik1 : ik = 1 := by
      match ik, hik, hkd with
      | 0, _, q => exact absurd q (by decide)
      | 1, _, _ => rfl
      | 2, _, q => exact absurd q (by decide)
    refine W.objInit hx hb hown (hts _ hlink) (hts _ wo_inst) (hts _ wo_code) (g := F0 m pc ls (.ref (base + a) :: st'.map (xv base old))) rfl hmlL.symm rfl (hdg.2.1 hik1) (by omega) ?_ (kk H locs ls hX hl)
    show 2 * 0 + ((st'.map (xv base old)).map fun v => v.category).sum + 12 ≤ R.locals
    rw [cat_sum]
    omega
  · cases e1
    have hik2 : ik = 2 := by
      match ik, hik, hkd with
      | 0, _, q => exact absurd q (by decide)
      | 1, _, q => exact absurd q (by decide)
      | 2, _, _ => rfl
    exact va_mmax (x := x) (y := y) hx hb hmlL hown (hts _ hlink) (hts _ wm_max_s) (hts _ wm_i) (hts _ wm_max_c) (by omega) (by rw [cat_sum]; omega) h1 h2 (hdg.2.2 hik2) (kk H locs ls hX hl)
  · cases e1
    have hik2 : ik = 2 := by
      match ik, hik, hkd with
      | 0, _, q => exact absurd q (by decide)
      | 1, _, q => exact absurd q (by decide)
      | 2, _, _ => rfl
    exact va_mmin (x := x) (y := y) hx hb hmlL hown (hts _ hlink) (hts _ wm_min_s) (hts _ wm_i) (hts _ wm_min_c) (by omega) (by rw [cat_sum]; omega) h1 h2 (hdg.2.2 hik2) (kk H locs ls hX hl)
  · cases e1
    have hik2 : ik = 2 := by
      match ik, hik, hkd with
      | 0, _, q => exact absurd q (by decide)
      | 1, _, q => exact absurd q (by decide)
      | 2, _, _ => rfl
    obtain ⟨n0, f, n1, g, hA, hB, e3, e4, e5, e6, e7, rfl⟩ := j_copy hcp
    have hnf : nativeFrameWords "java/lang/System" "arraycopy" 5 + 11 ≤ 80 := by decide
    exact va_copyi (ty := .int) hx hb hmlL hown (hts _ hlink) (hts _ wa_n) (hts _ wa_s) (hts _ wa_i) henv.1 hX.1 xw_D hX.2.2 a bb 0 0 (xw_get hA) (xw_get hB) rfl rfl rfl e3 e4 e5 e6 e7 (fun _ _ => rfl) (by omega) (by rw [cat_sum]; omega) (hdg.2.2 hik2) (st_done hX hl hB kk rfl (arr_lt (by decide)))
  · cases e1
    have hik0 : ik = 0 := by
      match ik, hik, hkd with
      | 0, _, _ => rfl
      | 1, _, q => exact absurd q (by decide)
      | 2, _, q => exact absurd q (by decide)
    unfold xslen at hsl
    obtain ⟨xl, hs1, hs2⟩ := Option.map_eq_some_iff.mp hsl
    obtain ⟨i, hi, hki, rfl⟩ := str_ok hs1
    subst hs2
    have hVS := henv.2.2.2.2.2.2.2.1
    have e2 : xv base old (.float k) = .ref (old (1 + i)) := by
      show Value.ref (old k.toNat) = _
      rw [hki]
    show W p l e R s m args below meth c H locs _ _ Q (F0 m pc ls (xv base old (.float k) :: s1.map (xv base old)))
    rw [e2]
    exact call_V (base := base) (old := old) (dA := dA) (D := D) (E := E) (As := []) (n := 0) hx hb hmlL hown hts henv hX.2.2 (c_len base old dA D E l i hi) zw_len_c zw_len_i hlink zw_len_n zw_len_s (by decide +kernel) rfl (vk_recv (adK := fun i => old (1 + i)) hVS hi hX.2.2) ⟨by omega, by omega⟩ (by rw [cat_sum]; exact hcat) (hdg.1 hik0) ⟨h1, h2⟩ (kk H locs ls hX hl)
  · cases e1
    have hik0 : ik = 0 := by
      match ik, hik, hkd with
      | 0, _, _ => rfl
      | 1, _, q => exact absurd q (by decide)
      | 2, _, q => exact absurd q (by decide)
    unfold xsat at hsl
    obtain ⟨xl, hs1, hs2⟩ := Option.bind_eq_some_iff.mp hsl
    obtain ⟨j, hj, hki, rfl⟩ := str_ok hs1
    split at hs2
    · cases hs2
    · rename_i hin
      cases hs2
      have hVS := henv.2.2.2.2.2.2.2.1
      have e2 : xv base old (.float k) = .ref (old (1 + j)) := by
        show Value.ref (old k.toNat) = _
        rw [hki]
      show W p l e R s m args below meth c H locs _ _ Q (F0 m pc ls (.int i :: xv base old (.float k) :: s1.map (xv base old)))
      rw [e2]
      exact call_V (base := base) (old := old) (dA := dA) (D := D) (E := E) (As := [.int i]) (n := 1) hx hb hmlL hown hts henv hX.2.2 (c_at base old dA D E l j hj i hin) zw_at_c zw_at_i hlink zw_at_n zw_at_s (by decide +kernel) rfl (vk_recv (adK := fun i => old (1 + i)) hVS hj hX.2.2) ⟨by omega, by omega⟩ (by rw [cat_sum]; exact hcat) (hdg.1 hik0) ⟨h1, h2⟩ (kk H locs ls hX hl)
  · cases e1
    have hik0 : ik = 0 := by
      match ik, hik, hkd with
      | 0, _, _ => rfl
      | 1, _, q => exact absurd q (by decide)
      | 2, _, q => exact absurd q (by decide)
    obtain ⟨n, f, hA, rfl⟩ := j_clone hcl
    obtain ⟨r1, r2⟩ := new_room ha hs h1 h2
    have hAq : ∀ q, s.heap.size ≤ q → (fun q => base ≤ q) q := fun q hq => by show base ≤ q; omega
    have hnm : s.vm.findClass "[I" = some (dA 0) := (henv.1.2 0 _ rfl).2
    refine va_clone (ad := "[I") (x := (n, .inl f)) (ty := .int) hx hb hmlL hown (hts _ hlink) (hts _ wc_same) (hts _ wc_nat) (hts _ wc_inst) (hts _ wc_sel) henv.2.2.2.1 henv.1 hX.1 xw_D hX.2.2 hAq a 0 (xw_get hA) rfl hnm (fun i v hv => ?_) (by omega) (by rw [cat_sum]; omega) r1 r2 (hdg.1 hik0) (fun q H1 _ hP hD hS => new_done hz ha hs hX hl kk rfl (arr_lt (by decide)) q H1 hP hD hS)
    have hlt : i < n := by
      have := (Array.getElem?_eq_some_iff.mp hv).1
      rw [vp_cell_i, arrV_size] at this
      exact this
    rw [vp_cell_i, arrV_read _ _ hlt] at hv
    cases hv
    rfl
  · cases e1
theorem ret_no {pc lk : Nat} {ins : Instr} {dead : List Nat} {als st : List Value} {A : xH} {q : Nat × List Value × List Value × xH} (hi : ins = .ireturn ∨ ins = .lreturn ∨ ins = .areturn ∨ ins = .return_) (h : xeff xtabs E M.1 M.2.1 M.2.2.1 (pc, ins, lk, dead) als st A = some (.inl q)) : False := by
  unfold xeff at h
  rcases hi with rfl | rfl | rfl | rfl <;> unfold xG at h <;> dsimp only at h <;> split at h <;> first
    | cases h
    | (split at h <;> first | cases h | (split at h <;> cases h))
theorem i_icmp_n {cd : ClassFile.Cond} {x y : Int32} {a b : Option xN} {n : xN} (h : xicmp cd x y a b = some n) : a = some n ∨ b = some n := by
  unfold xicmp at h
  split at h <;> split at h <;> first | exact Or.inl h | exact Or.inr h
set_option maxHeartbeats 4000000 in
/-- every instruction that goes on within the frame -/
theorem xgo {pc lk : Nat} {ins : Instr} {dead : List Nat} {als st : List Value} {A : xH} {pc' : Nat} {als' st' : List Value} {A' : xH} (C : xCx base old dA D E p s m args meth c M b a0) (hal : als.length = M.2.2.2.1) (ha : a0 ≤ A.length) (hs : s0 ≤ xsl A) (h1 : A'.length - a0 ≤ R.cells) (h2 : xsl A' - s0 ≤ R.slots) (hfr : 4 ≤ R.frames) (hlo : 100 ≤ R.locals) (hr : xrok b (pc, ins, lk, dead) = true) (h : xeff xtabs E M.1 M.2.1 M.2.2.1 (pc, ins, lk, dead) als st A = some (.inl (pc', als', st', A'))) (kk : xK base old dA D p l e R s m args below meth c Q a0 s0 pc' als' st' A') : xK base old dA D p l e R s m args below meth c Q a0 s0 pc als st A := by
  obtain ⟨n, hdec, hlen, hoff, hlk⟩ := row_dec hr
  obtain ⟨hx, hb, hml, hown, hts, henv, hini, hz⟩ := id C
  have st1 : ∀ {i w : Nat} {v : Value} {s1 : List Value}, i < als.length → (∀ j, i = j + 1 → (xg als j).category ≠ 2) → xK base old dA D p l e R s m args below meth c Q a0 s0 (pc + w) (xs als i v) s1 A → ∀ (H : Heap) (locs : List Loc), xAt base old dA D s A H locs → ∀ ls' : Array Slot, lv_has ls' als.length ((i, xv base old v) :: (xlv base old als).filter (fun q => !(q.1 == i) && !(q.1 + 1 == i && q.2.category == 2))) → W p l e R s m args below meth c H locs (A.length - a0) (xsl A - s0) Q (F0 m (pc + w) ls' (s1.map (xv base old))) := fun hi hp k H locs hX ls' h' => k H locs ls' hX (xLoc.st1 hi hp h')
  have st2 : ∀ {i w : Nat} {v : Value} {s1 : List Value}, i + 1 < als.length → (∀ j, i = j + 1 → (xg als j).category ≠ 2) → xK base old dA D p l e R s m args below meth c Q a0 s0 (pc + w) (xs (xs als i v) (i + 1) xJ) s1 A → ∀ (H : Heap) (locs : List Loc), xAt base old dA D s A H locs → ∀ ls' : Array Slot, lv_has ls' als.length ((i, xv base old v) :: (xlv base old als).filter (fun q => !(q.1 == i) && (!(q.1 == i + 1) && !(q.1 + 1 == i && q.2.category == 2)))) → W p l e R s m args below meth c H locs (A.length - a0) (xsl A - s0) Q (F0 m (pc + w) ls' (s1.map (xv base old))) := fun hi hp k H locs hX ls' h' => k H locs ls' hX (xLoc.st2 hi hp h')
  cases ins with
  | aload_n i =>
    unfold xeff at h; unfold xG at h; dsimp only at h
    obtain ⟨hv, e1⟩ := i_ldA h
    cases e1
    have hd := hlen rfl (by simp [xlen]); subst hd
    exact go_aload C (Or.inl ⟨i, rfl, rfl, hdec⟩) hv kk
  | aload i =>
    unfold xeff at h; unfold xG at h; dsimp only at h
    obtain ⟨hv, e1⟩ := i_ldA h
    cases e1
    have hd := hlen rfl (by simp [xlen]); subst hd
    exact go_aload C (Or.inr ⟨rfl, hdec⟩) hv kk
  | iload_n i =>
    unfold xeff at h; unfold xG at h; dsimp only at h
    obtain ⟨x, hv, e1⟩ := i_ldI h
    cases e1
    have hd := hlen rfl (by simp [xlen]); subst hd
    exact fun H locs ls hX hl => lv_iload_n hx hb hdec rfl (hl.at hv (fun k h => by cases h)) (kk H locs ls hX hl)
  | iload i =>
    unfold xeff at h; unfold xG at h; dsimp only at h
    obtain ⟨x, hv, e1⟩ := i_ldI h
    cases e1
    have hd := hlen rfl (by simp [xlen]); subst hd
    exact fun H locs ls hX hl => lv_iload hx hb hdec (hl.at hv (fun k h => by cases h)) (kk H locs ls hX hl)
  | lload_n i =>
    unfold xeff at h; unfold xG at h; dsimp only at h
    obtain ⟨x, hv, e1⟩ := i_ldL h
    cases e1
    have hd := hlen rfl (by simp [xlen]); subst hd
    exact fun H locs ls hX hl => lv_lload_n hx hb hdec rfl (hl.at hv (fun k h => by cases h)) (kk H locs ls hX hl)
  | lload i =>
    unfold xeff at h; unfold xG at h; dsimp only at h
    obtain ⟨x, hv, e1⟩ := i_ldL h
    cases e1
    have hd := hlen rfl (by simp [xlen]); subst hd
    exact fun H locs ls hX hl => lv_lload hx hb hdec (hl.at hv (fun k h => by cases h)) (kk H locs ls hX hl)
  | iconst i =>
    unfold xeff at h; unfold xG at h; dsimp only at h
    cases h
    have hd := hlen rfl (by simp [xlen]); subst hd
    exact fun H locs ls hX hl => lv_iconst hx hb hdec rfl (kk H locs ls hX hl)
  | bipush i =>
    unfold xeff at h; unfold xG at h; dsimp only at h
    cases h
    have hd := hlen rfl (by simp [xlen]); subst hd
    exact fun H locs ls hX hl => lv_bipush hx hb hdec rfl (kk H locs ls hX hl)
  | sipush i =>
    unfold xeff at h; unfold xG at h; dsimp only at h
    cases h
    have hd := hlen rfl (by simp [xlen]); subst hd
    exact fun H locs ls hX hl => lv_sipush hx hb hdec rfl (kk H locs ls hX hl)
  | lconst i =>
    unfold xeff at h; unfold xG at h; dsimp only at h
    cases h
    have hd := hlen rfl (by simp [xlen]); subst hd
    exact fun H locs ls hX hl => lv_lconst hx hb hdec rfl (kk H locs ls hX hl)
  | aconst_null =>
    unfold xeff at h; unfold xG at h; dsimp only at h
    cases h
    have hd := hlen rfl (by simp [xlen]); subst hd
    exact fun H locs ls hX hl => lv_null hx hb hdec (kk H locs ls hX hl)
  | getfield i =>
    unfold xeff at h; unfold xG at h; dsimp only at h
    have hd := hlen rfl (by simp [xlen]); subst hd
    exact go_get C hdec h kk
  | putfield i =>
    unfold xeff at h; unfold xG at h; dsimp only at h
    have hd := hlen rfl (by simp [xlen]); subst hd
    exact go_put C hdec h kk
  | invokevirtual i =>
    unfold xeff at h; unfold xG at h; dsimp only at h
    have hd := hlen rfl (by simp [xlen]); subst hd
    exact go_inv (ik := 0) C hal ha hs h1 h2 hfr hlo (by decide) ⟨fun _ => hdec, fun q => absurd q (by decide), fun q => absurd q (by decide)⟩ h kk
  | invokespecial i =>
    unfold xeff at h; unfold xG at h; dsimp only at h
    have hd := hlen rfl (by simp [xlen]); subst hd
    exact go_inv (ik := 1) C hal ha hs h1 h2 hfr hlo (by decide) ⟨fun q => absurd q (by decide), fun _ => hdec, fun q => absurd q (by decide)⟩ h kk
  | invokestatic i =>
    unfold xeff at h; unfold xG at h; dsimp only at h
    have hd := hlen rfl (by simp [xlen]); subst hd
    exact go_inv (ik := 2) C hal ha hs h1 h2 hfr hlo (by decide) ⟨fun q => absurd q (by decide), fun q => absurd q (by decide), fun _ => hdec⟩ h kk
  | ireturn => exact (ret_no (Or.inl rfl) h).elim
  | lreturn => exact (ret_no (Or.inr (Or.inl rfl)) h).elim
  | areturn => exact (ret_no (Or.inr (Or.inr (Or.inl rfl))) h).elim
  | return_ => exact (ret_no (Or.inr (Or.inr (Or.inr rfl))) h).elim
  | if_icmp cd off =>
    have hd := hlen rfl (by simp [xlen]); subst hd
    unfold xeff at h; unfold xG at h; dsimp only at h
    split at h
    · exact go_icmp C hdec (tgt_ok hoff) h kk
    · cases h
  | ifCond cd off =>
    have hd := hlen rfl (by simp [xlen]); subst hd
    unfold xeff at h; unfold xG at h; dsimp only at h
    split at h
    · exact go_if C hdec (tgt_ok hoff) h kk
    · cases h
  | ifnonnull off =>
    have hd := hlen rfl (by simp [xlen]); subst hd
    unfold xeff at h; unfold xG at h; dsimp only at h
    split at h
    · cases h
      exact fun H locs ls hX hl => lv_ifnonnull hx hb hdec (tgt_ok hoff) (kk H locs ls hX hl)
    · cases h
      exact fun H locs ls hX hl => lv_ifnonnullN hx hb hdec (kk H locs ls hX hl)
    · cases h
  | goto off =>
    unfold xeff at h; unfold xG at h; dsimp only at h
    have hd := hlen rfl (by simp [xlen]); subst hd
    cases h
    exact fun H locs ls hX hl => lv_goto hx hb hdec (tgt_ok hoff) (kk H locs ls hX hl)
  | tableswitch d lo hi offs =>
    unfold xeff at h; unfold xG at h; dsimp only at h
    split at h
    · exact go_sw C hdec hoff h kk
    · cases h
  | istore_n i =>
    have hd := hlen rfl (by simp [xlen]); subst hd
    unfold xeff at h; unfold xG at h; dsimp only at h
    split at h
    · obtain ⟨hi, hp, e1⟩ := i_st1 h
      cases e1
      exact fun H locs ls hX hl => lv_istore_n hx hb hdec rfl hl.has hi rfl (st1 hi hp kk H locs hX)
    · cases h
  | istore i =>
    have hd := hlen rfl (by simp [xlen]); subst hd
    unfold xeff at h; unfold xG at h; dsimp only at h
    split at h
    · obtain ⟨hi, hp, e1⟩ := i_st1 h
      cases e1
      exact fun H locs ls hX hl => lv_istore hx hb hdec hl.has hi rfl (st1 hi hp kk H locs hX)
    · cases h
  | lstore_n i =>
    have hd := hlen rfl (by simp [xlen]); subst hd
    unfold xeff at h; unfold xG at h; dsimp only at h
    split at h
    · obtain ⟨hi, hp, e1⟩ := i_st2 h
      cases e1
      exact fun H locs ls hX hl => lv_lstore_n hx hb hdec rfl hl.has hi rfl (st2 hi hp kk H locs hX)
    · cases h
  | lstore i =>
    have hd := hlen rfl (by simp [xlen]); subst hd
    unfold xeff at h; unfold xG at h; dsimp only at h
    split at h
    · obtain ⟨hi, hp, e1⟩ := i_st2 h
      cases e1
      exact fun H locs ls hX hl => lv_lstore hx hb hdec hl.has hi rfl (st2 hi hp kk H locs hX)
    · cases h
  | astore_n i =>
    have hd := hlen rfl (by simp [xlen]); subst hd
    unfold xeff at h; unfold xG at h; dsimp only at h
    split at h
    · obtain ⟨hv, h⟩ := i_ldA h
      obtain ⟨hi, hp, e1⟩ := i_st1 h
      cases e1
      exact go_astore C (Or.inl ⟨i, rfl, rfl, hdec⟩) hv hi hp kk
    · cases h
  | astore i =>
    have hd := hlen rfl (by simp [xlen]); subst hd
    unfold xeff at h; unfold xG at h; dsimp only at h
    split at h
    · obtain ⟨hv, h⟩ := i_ldA h
      obtain ⟨hi, hp, e1⟩ := i_st1 h
      cases e1
      exact go_astore C (Or.inr ⟨rfl, hdec⟩) hv hi hp kk
    · cases h
  | iinc i k =>
    have hd := hlen rfl (by simp [xlen]); subst hd
    unfold xeff at h; unfold xG at h; dsimp only at h
    split at h
    · rename_i x hv
      obtain ⟨hi, hp, e1⟩ := i_st1 h
      cases e1
      intro H locs ls hX hl
      have hm : (i, Value.int x) ∈ xlv base old als := by
        have := xlv_mem (base := base) (old := old) (als := als) (i := i) (by rw [hv]; exact fun k h => by cases h)
        rw [hv] at this
        exact this
      obtain ⟨k1, hk1⟩ := List.getElem?_of_mem hm
      exact lv_iinc hx hb hdec hl.has hk1 rfl hi rfl (st1 (s1 := st) hi hp kk H locs hX)
    · cases h
  | iadd =>
    unfold xeff at h; unfold xG at h; dsimp only at h
    have hd := hlen rfl (by simp [xlen]); subst hd
    obtain ⟨x, y, s1, rfl, e1⟩ := i_bin h; cases e1
    exact fun H locs ls hX hl => lv_iadd hx hb hdec (kk H locs ls hX hl)
  | isub =>
    unfold xeff at h; unfold xG at h; dsimp only at h
    have hd := hlen rfl (by simp [xlen]); subst hd
    obtain ⟨x, y, s1, rfl, e1⟩ := i_bin h; cases e1
    exact fun H locs ls hX hl => lv_isub hx hb hdec (kk H locs ls hX hl)
  | imul =>
    unfold xeff at h; unfold xG at h; dsimp only at h
    have hd := hlen rfl (by simp [xlen]); subst hd
    obtain ⟨x, y, s1, rfl, e1⟩ := i_bin h; cases e1
    exact fun H locs ls hX hl => lv_imul hx hb hdec (kk H locs ls hX hl)
  | iand =>
    unfold xeff at h; unfold xG at h; dsimp only at h
    have hd := hlen rfl (by simp [xlen]); subst hd
    obtain ⟨x, y, s1, rfl, e1⟩ := i_bin h; cases e1
    exact fun H locs ls hX hl => lv_iand hx hb hdec (kk H locs ls hX hl)
  | ior =>
    unfold xeff at h; unfold xG at h; dsimp only at h
    have hd := hlen rfl (by simp [xlen]); subst hd
    obtain ⟨x, y, s1, rfl, e1⟩ := i_bin h; cases e1
    exact fun H locs ls hX hl => lv_ior hx hb hdec (kk H locs ls hX hl)
  | ixor =>
    unfold xeff at h; unfold xG at h; dsimp only at h
    have hd := hlen rfl (by simp [xlen]); subst hd
    obtain ⟨x, y, s1, rfl, e1⟩ := i_bin h; cases e1
    exact fun H locs ls hX hl => lv_ixor hx hb hdec (kk H locs ls hX hl)
  | ishl =>
    unfold xeff at h; unfold xG at h; dsimp only at h
    have hd := hlen rfl (by simp [xlen]); subst hd
    obtain ⟨x, y, s1, rfl, e1⟩ := i_bin h; cases e1
    exact fun H locs ls hX hl => lv_ishl hx hb hdec (kk H locs ls hX hl)
  | ishr =>
    unfold xeff at h; unfold xG at h; dsimp only at h
    have hd := hlen rfl (by simp [xlen]); subst hd
    obtain ⟨x, y, s1, rfl, e1⟩ := i_bin h; cases e1
    exact fun H locs ls hX hl => lv_ishr hx hb hdec (kk H locs ls hX hl)
  | iushr =>
    unfold xeff at h; unfold xG at h; dsimp only at h
    have hd := hlen rfl (by simp [xlen]); subst hd
    obtain ⟨x, y, s1, rfl, e1⟩ := i_bin h; cases e1
    exact fun H locs ls hX hl => lv_iushr hx hb hdec rfl (kk H locs ls hX hl)
  | idiv =>
    unfold xeff at h; unfold xG at h; dsimp only at h
    have hd := hlen rfl (by simp [xlen]); subst hd
    obtain ⟨x, y, s1, rfl, hne, e1⟩ := i_binz h; cases e1
    exact fun H locs ls hX hl => lv_idiv hx hb hdec hne (kk H locs ls hX hl)
  | irem =>
    unfold xeff at h; unfold xG at h; dsimp only at h
    have hd := hlen rfl (by simp [xlen]); subst hd
    obtain ⟨x, y, s1, rfl, hne, e1⟩ := i_binz h; cases e1
    exact fun H locs ls hX hl => lv_irem hx hb hdec hne (kk H locs ls hX hl)
  | ineg =>
    have hd := hlen rfl (by simp [xlen]); subst hd
    unfold xeff at h; unfold xG at h; dsimp only at h
    split at h
    · cases h
      exact fun H locs ls hX hl => lv_ineg hx hb hdec (kk H locs ls hX hl)
    · cases h
  | ladd =>
    unfold xeff at h; unfold xG at h; dsimp only at h
    have hd := hlen rfl (by simp [xlen]); subst hd
    obtain ⟨x, y, s1, rfl, e1⟩ := i_lbin h; cases e1
    exact fun H locs ls hX hl => lv_ladd hx hb hdec (kk H locs ls hX hl)
  | lsub =>
    unfold xeff at h; unfold xG at h; dsimp only at h
    have hd := hlen rfl (by simp [xlen]); subst hd
    obtain ⟨x, y, s1, rfl, e1⟩ := i_lbin h; cases e1
    exact fun H locs ls hX hl => lv_lsub hx hb hdec (kk H locs ls hX hl)
  | lmul =>
    unfold xeff at h; unfold xG at h; dsimp only at h
    have hd := hlen rfl (by simp [xlen]); subst hd
    obtain ⟨x, y, s1, rfl, e1⟩ := i_lbin h; cases e1
    exact fun H locs ls hX hl => lv_lmul hx hb hdec (kk H locs ls hX hl)
  | ldiv =>
    unfold xeff at h; unfold xG at h; dsimp only at h
    have hd := hlen rfl (by simp [xlen]); subst hd
    obtain ⟨x, y, s1, rfl, hne, e1⟩ := i_lbinz h; cases e1
    exact fun H locs ls hX hl => lv_ldiv hx hb hdec hne (kk H locs ls hX hl)
  | lrem =>
    unfold xeff at h; unfold xG at h; dsimp only at h
    have hd := hlen rfl (by simp [xlen]); subst hd
    obtain ⟨x, y, s1, rfl, hne, e1⟩ := i_lbinz h; cases e1
    exact fun H locs ls hX hl => lv_lrem hx hb hdec hne (kk H locs ls hX hl)
  | lcmp =>
    have hd := hlen rfl (by simp [xlen]); subst hd
    unfold xeff at h; unfold xG at h; dsimp only at h
    split at h
    · cases h
      exact fun H locs ls hX hl => W.lcmp hx hb hdec (kk H locs ls hX hl)
    · cases h
  | i2l =>
    have hd := hlen rfl (by simp [xlen]); subst hd
    unfold xeff at h; unfold xG at h; dsimp only at h
    split at h
    · cases h
      exact fun H locs ls hX hl => lv_i2l hx hb hdec rfl (kk H locs ls hX hl)
    · cases h
  | l2i =>
    have hd := hlen rfl (by simp [xlen]); subst hd
    unfold xeff at h; unfold xG at h; dsimp only at h
    split at h
    · cases h
      exact fun H locs ls hX hl => lv_l2i hx hb hdec rfl (kk H locs ls hX hl)
    · cases h
  | i2b =>
    have hd := hlen rfl (by simp [xlen]); subst hd
    unfold xeff at h; unfold xG at h; dsimp only at h
    split at h
    · cases h
      exact fun H locs ls hX hl => lv_i2b hx hb hdec rfl (kk H locs ls hX hl)
    · cases h
  | dup =>
    have hd := hlen rfl (by simp [xlen]); subst hd
    unfold xeff at h; unfold xG at h; dsimp only at h
    split at h
    · split at h
      · rename_i hc
        cases h
        exact fun H locs ls hX hl => lv_dup hx hb hdec (by rw [xv_cat]; exact hc) (kk H locs ls hX hl)
      · cases h
    · cases h
  | pop =>
    have hd := hlen rfl (by simp [xlen]); subst hd
    unfold xeff at h; unfold xG at h; dsimp only at h
    split at h
    · split at h
      · rename_i hc
        cases h
        exact fun H locs ls hX hl => lv_pop hx hb hdec (by rw [xv_cat]; exact hc) (kk H locs ls hX hl)
      · cases h
    · cases h
  | dup2 =>
    have hd := hlen rfl (by simp [xlen]); subst hd
    unfold xeff at h; unfold xG at h; dsimp only at h
    split at h
    · split at h
      · rename_i hc
        cases h
        exact fun H locs ls hX hl => lv_dup2_11 hx hb hdec (by rw [xv_cat]; exact hc.1) (by rw [xv_cat]; exact hc.2) (kk H locs ls hX hl)
      · cases h
    · cases h
  | iaload =>
    unfold xeff at h; unfold xG at h; dsimp only at h
    have hd := hlen rfl (by simp [xlen]); subst hd
    exact go_iald C hdec h kk
  | baload =>
    unfold xeff at h; unfold xG at h; dsimp only at h
    have hd := hlen rfl (by simp [xlen]); subst hd
    exact go_bald C hdec (by simpa [xlkk] using hlk) h kk
  | iastore =>
    unfold xeff at h; unfold xG at h; dsimp only at h
    have hd := hlen rfl (by simp [xlen]); subst hd
    exact go_iast C hdec h kk
  | bastore =>
    unfold xeff at h; unfold xG at h; dsimp only at h
    have hd := hlen rfl (by simp [xlen]); subst hd
    exact go_bast C hdec (by simpa [xlkk] using hlk) h kk
  | laload =>
    have hd := hlen rfl (by simp [xlen]); subst hd
    unfold xeff at h; unfold xG at h; dsimp only at h
    split at h
    · obtain ⟨x, g1, g2⟩ := i_bind h
      cases g2
      exact go_lald C hdec g1 kk
    · cases h
  | lastore =>
    have hd := hlen rfl (by simp [xlen]); subst hd
    unfold xeff at h; unfold xG at h; dsimp only at h
    split at h
    · obtain ⟨x, g1, g2⟩ := i_bind h
      cases g2
      exact go_last C hdec g1 kk
    · cases h
  | aaload =>
    have hd := hlen rfl (by simp [xlen]); subst hd
    have hlk' : lk = 4 ∨ lk = 5 ∨ lk = 6 := by
      simp only [xlkk, Bool.or_eq_true, beq_iff_eq] at hlk
      omega
    unfold xeff at h; unfold xG at h; dsimp only at h
    split at h
    · obtain ⟨x, g1, g2⟩ := i_bind h
      refine go_aald C hdec hlk' g1 ?_
      cases x <;> cases g2 <;> exact kk
    · cases h
  | aastore =>
    have hd := hlen rfl (by simp [xlen]); subst hd
    have hlk' : lk = 4 ∨ lk = 5 ∨ lk = 6 := by
      simp only [xlkk, Bool.or_eq_true, beq_iff_eq] at hlk
      omega
    unfold xeff at h; unfold xG at h; dsimp only at h
    split at h
    · obtain ⟨x, g1, g2⟩ := i_bind h
      cases g2
      exact go_aast (o := some _) C hdec hlk' g1 kk
    · obtain ⟨x, g1, g2⟩ := i_bind h
      cases g2
      exact go_aast (o := none) C hdec hlk' g1 kk
    · cases h
  | arraylength =>
    have hd := hlen rfl (by simp [xlen]); subst hd
    unfold xeff at h; unfold xG at h; dsimp only at h
    split at h
    · obtain ⟨x, g1, g2⟩ := i_bind h
      cases g2
      exact go_alen C hdec g1 kk
    · split at h
      · rename_i hb0
        subst hb0
        cases h
        exact go_slen C hdec kk
      · cases h
    · cases h
  | newarray t =>
    unfold xeff at h; unfold xG at h; dsimp only at h
    have hd := hlen rfl (by simp [xlen]); subst hd
    exact go_newa C ha hs h1 h2 hdec h kk
  | anewarray i =>
    have hd := hlen rfl (by simp [xlen]); subst hd
    unfold xeff at h; unfold xG at h; dsimp only at h
    split at h
    · rename_i hT
      split at h
      · rename_i ho
        split at h
        · cases h
        · rename_i hk
          cases h
          exact go_anew C ha hs h1 h2 hdec hT ho hk kk
      · cases h
    · cases h
  | new i =>
    have hd := hlen rfl (by simp [xlen]); subst hd
    unfold xeff at h; unfold xG at h; dsimp only at h
    split at h
    · rename_i o9 i9 c9 f9 hT
      split at h
      · rename_i ho
        cases h
        have h100 : 100 ≤ c9 := by
          have q : xlkk (.new i) lk = true := hlk
          unfold xlkk at q
          dsimp only at q
          rw [show xKL[lk]? = some _ from hT] at q
          exact of_decide_eq_true q
        exact go_new C ha hs h1 h2 hdec hT ho h100 kk
      · cases h
    · cases h
  | checkcast i =>
    have hd := hlen rfl (by simp [xlen]); subst hd
    unfold xeff at h; unfold xG at h; dsimp only at h
    split at h
    · rename_i o i' t fs a s1 hT
      split at h
      · rename_i ho
        obtain ⟨rfl, rfl, rfl⟩ := ho
        obtain ⟨q, g1, g2⟩ := i_bind h
        split at g2
        · rename_i hq
          subst hq
          cases g2
          intro H locs ls hX hl
          obtain ⟨n, f, hA⟩ := j_tag g1
          have hlink : Cond.classLink (xcn M.1) i' "[I" ∈ gw := by
            rcases kl_all _ (List.mem_of_getElem? (show xKL[lk]? = some _ from hT)) with ⟨-, q⟩ | ⟨q, -⟩ | ⟨q, -⟩
            · exact q
            · exact absurd (show 4 ≤ 0 from q) (by decide)
            · exact absurd (show 100 ≤ 0 from q) (by decide)
          have hw := xw_get (base := base) (old := old) (dA := dA) hA
          have hnm : s.vm.findClass "[I" = some (dA 0) := (henv.1.2 0 _ rfl).2
          obtain f | f | f := f
          · exact va_castA (x := (n, .inl f)) hx hb hown (hts _ hlink) hX.1 a hw hnm hdec (kk H locs ls hX hl)
          · exact va_castA (x := (n, .inr (.inl f))) hx hb hown (hts _ hlink) hX.1 a hw hnm hdec (kk H locs ls hX hl)
          · exact va_castA (x := (n, .inr (.inr (.inr (.inr fun j => (f j).map (base + ·)))))) hx hb hown (hts _ hlink) hX.1 a hw hnm hdec (kk H locs ls hX hl)
        · cases g2
      · cases h
    · cases h
  | ldc i =>
    unfold xeff at h; unfold xG at h; dsimp only at h
    have hd := hlen rfl (by simp [xlen]); subst hd
    exact go_ldc C (Or.inl ⟨rfl, hdec⟩) h kk
  | ldc_w i =>
    unfold xeff at h; unfold xG at h; dsimp only at h
    have hd := hlen rfl (by simp [xlen]); subst hd
    exact go_ldc C (Or.inr ⟨rfl, hdec⟩) h kk
  | ldc2_w i =>
    have hd := hlen rfl (by simp [xlen]); subst hd
    unfold xeff at h; unfold xG at h; dsimp only at h
    split at h
    · rename_i o i' v hT
      split at h
      · rename_i ho
        obtain ⟨rfl, rfl⟩ := ho
        cases h
        have hw := cL_all _ (List.mem_of_getElem? (show xCL[lk]? = some _ from hT))
        exact fun H locs ls hX hl => lv_ldc2 hx hb hown (hts _ hw) hdec (kk H locs ls hX hl)
      · cases h
    · cases h
  | _ => exfalso; unfold xeff at h; unfold xG at h; dsimp only at h; cases h
end XS4
