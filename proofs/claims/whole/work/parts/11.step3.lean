/-! ===== every instruction that neither calls nor returns ===== -/
section XS3
variable {base : Nat} {old : Nat → Nat} {dA : Nat → ClassId} {D : va_G} {E : Nat × (Nat → Int32)}
variable {p : Program} {l : Launch} {e : Env} {R : Room} {s : State} {m : MethodId} {args : Array Value} {below : List Frame} {meth : Method} {c : Code} {Q : State → Prop}
variable {M : xM} {b : ByteArray} {a0 s0 : Nat}
theorem row_dec {pc lk : Nat} {ins : Instr} {dead : List Nat} (hr : xrok b (pc, ins, lk, dead) = true) : ∃ n, decode b pc = .ok (ins, n) ∧ (xplain ins = true → xlen ins ≠ 0 → n = xlen ins) ∧ xoffs pc ins = true ∧ xlkk ins lk = true := by
  unfold xrok at hr
  dsimp only at hr
  split at hr
  · rename_i i n hd
    simp only [Bool.and_eq_true, decide_eq_true_eq] at hr
    obtain ⟨⟨⟨h1, h2⟩, h3⟩, h4⟩ := hr
    subst h1
    refine ⟨n, hd, fun hp hl => ?_, h3, h4⟩
    simp only [Bool.or_eq_true, beq_iff_eq, Bool.not_eq_true'] at h2
    rcases h2 with (h2 | h2) | h2
    · exact absurd h2 hl
    · rw [hp] at h2; cases h2
    · exact h2.symm
  · cases hr
theorem tgt_ok {pc : Nat} {o : Int} (h : xtgt pc o = true) : (pc : Int) + o = (xti pc o : Int) := by
  unfold xtgt at h
  unfold xti
  have := of_decide_eq_true h
  omega
theorem i_sw {go : Nat → Option xN} {pc dflt : Nat} {x : Int32} {n : xN} : ∀ (lo : List Int) (c : Int), xsw go pc dflt x c lo = some n → (∃ (k : Nat) (o : Int), lo[k]? = some o ∧ x = Int32.ofInt (c + k) ∧ go (xti pc o) = some n) ∨ ((∀ k, k < lo.length → x ≠ Int32.ofInt (c + (k : Int))) ∧ go dflt = some n)
  | [], c, h => Or.inr ⟨fun k hk => absurd hk (Nat.not_lt_zero k), h⟩
  | o :: lo, c, h => by
    unfold xsw at h
    split at h
    · rename_i hx
      exact Or.inl ⟨0, o, rfl, by simpa using hx, h⟩
    · rename_i hx
      rcases i_sw lo (c + 1) h with ⟨k, o', h1, h2, h3⟩ | ⟨h1, h2⟩
      · exact Or.inl ⟨k + 1, o', by simpa using h1, by rw [h2]; congr 1; push_cast; omega, h3⟩
      · refine Or.inr ⟨fun k hk => ?_, h2⟩
        cases k with
        | zero => simpa using hx
        | succ k =>
          have := h1 k (by simpa using hk)
          intro e
          apply this
          rw [e]
          congr 1
          push_cast
          omega
theorem go_sw {pc : Nat} {als s1 : List Value} {A : xH} {d lo hi : Int} {offs : Array Int} {n : Nat} {x : Int32} {pc' : Nat} {als' st' : List Value} {A' : xH} (C : xCx base old dA D E p s m args meth c M b a0) (hdg : decode b pc = .ok (.tableswitch d lo hi offs, n)) (ho : xoffs pc (.tableswitch d lo hi offs) = true) (h : xsw (fun q => (some (.inl (q, als, s1, A)) : Option xN)) pc (xti pc d) x lo offs.toList = some (.inl (pc', als', st', A'))) (kk : xK base old dA D p l e R s m args below meth c Q a0 s0 pc' als' st' A') : xK base old dA D p l e R s m args below meth c Q a0 s0 pc als (.int x :: s1) A := by
  obtain ⟨hx, hb, hml, hown, hts, henv, hini, hz⟩ := C
  intro H locs ls hX hl
  simp only [xoffs, Bool.and_eq_true, decide_eq_true_eq, List.all_eq_true] at ho
  obtain ⟨⟨⟨⟨h1, h2⟩, h3⟩, h4⟩, h5⟩ := ho
  rcases i_sw _ _ h with ⟨k, o, g1, g2, g3⟩ | ⟨g1, g3⟩
  · cases g3
    have hk : k < offs.toList.length := (List.getElem?_eq_some_iff.mp g1).1
    have hxi : x.toInt = lo + k := by
      rw [g2]
      exact Int32.toInt_ofInt_of_le (by omega) (by omega)
    exact lv_tableIn hx hb hdg (by omega) (by omega) (by rw [hxi, show (lo + (k : Int) - lo).toNat = k by omega, ← Array.getElem?_toList]; exact g1) (tgt_ok (h2 o (List.mem_of_getElem? g1))) (kk H locs ls hX hl)
  · cases g3
    refine lv_tableOut hx hb hdg ?_ (tgt_ok h1) (kk H locs ls hX hl)
    by_cases q : x.toInt < lo
    · exact Or.inl q
    · by_cases q2 : hi < x.toInt
      · exact Or.inr q2
      · exfalso
        refine g1 (x.toInt - lo).toNat (by omega) ?_
        rw [show lo + (((x.toInt - lo).toNat : Nat) : Int) = x.toInt by omega, Int32.ofInt_toInt]
theorem go_icmp {cd : ClassFile.Cond} {off : Int} {pc : Nat} {als s1 : List Value} {A : xH} {x y : Int32} {pc' : Nat} {als' st' : List Value} {A' : xH} (C : xCx base old dA D E p s m args meth c M b a0) (hdg : decode b pc = .ok (.if_icmp cd off, 3)) (ht : (pc : Int) + off = (xti pc off : Int)) (h : xicmp cd x y (some (.inl (xti pc off, als, s1, A)) : Option xN) (some (.inl (pc + 3, als, s1, A)) : Option xN) = some (.inl (pc', als', st', A'))) (kk : xK base old dA D p l e R s m args below meth c Q a0 s0 pc' als' st' A') : xK base old dA D p l e R s m args below meth c Q a0 s0 pc als (.int y :: .int x :: s1) A := by
  obtain ⟨hx, hb, hml, hown, hts, henv, hini, hz⟩ := C
  intro H locs ls hX hl
  cases cd <;> dsimp only [xicmp] at h
  · exact lv_icmp_eq hx hb hdg ht (fun q => by rw [if_pos q] at h; cases h; exact kk H locs ls hX hl) (fun q => by rw [if_neg q] at h; cases h; exact kk H locs ls hX hl)
  · exact lv_icmp_ne hx hb hdg ht (fun q => by rw [if_neg q] at h; cases h; exact kk H locs ls hX hl) (fun q => by rw [if_pos q] at h; cases h; exact kk H locs ls hX hl)
  · exact lv_icmp_lt hx hb hdg ht (fun q => by rw [if_pos q] at h; cases h; exact kk H locs ls hX hl) (fun q => by rw [if_neg q] at h; cases h; exact kk H locs ls hX hl)
  · exact lv_icmp_ge hx hb hdg ht (fun q => by rw [if_pos q] at h; cases h; exact kk H locs ls hX hl) (fun q => by rw [if_neg q] at h; cases h; exact kk H locs ls hX hl)
  · exact lv_icmp_gt hx hb hdg ht (fun q => by rw [if_pos q] at h; cases h; exact kk H locs ls hX hl) (fun q => by rw [if_neg q] at h; cases h; exact kk H locs ls hX hl)
  · exact lv_icmp_le hx hb hdg ht (fun q => by rw [if_pos q] at h; cases h; exact kk H locs ls hX hl) (fun q => by rw [if_neg q] at h; cases h; exact kk H locs ls hX hl)
theorem go_if {cd : ClassFile.Cond} {off : Int} {pc : Nat} {als s1 : List Value} {A : xH} {x : Int32} {pc' : Nat} {als' st' : List Value} {A' : xH} (C : xCx base old dA D E p s m args meth c M b a0) (hdg : decode b pc = .ok (.ifCond cd off, 3)) (ht : (pc : Int) + off = (xti pc off : Int)) (h : xicmp cd x 0 (some (.inl (xti pc off, als, s1, A)) : Option xN) (some (.inl (pc + 3, als, s1, A)) : Option xN) = some (.inl (pc', als', st', A'))) (kk : xK base old dA D p l e R s m args below meth c Q a0 s0 pc' als' st' A') : xK base old dA D p l e R s m args below meth c Q a0 s0 pc als (.int x :: s1) A := by
  obtain ⟨hx, hb, hml, hown, hts, henv, hini, hz⟩ := C
  intro H locs ls hX hl
  cases cd <;> dsimp only [xicmp] at h
  · exact lv_if_eq hx hb hdg ht (fun q => by rw [if_pos q] at h; cases h; exact kk H locs ls hX hl) (fun q => by rw [if_neg q] at h; cases h; exact kk H locs ls hX hl)
  · exact lv_if_ne hx hb hdg ht (fun q => by rw [if_neg q] at h; cases h; exact kk H locs ls hX hl) (fun q => by rw [if_pos q] at h; cases h; exact kk H locs ls hX hl)
  · exact lv_if_lt hx hb hdg ht (fun q => by rw [if_pos q] at h; cases h; exact kk H locs ls hX hl) (fun q => by rw [if_neg q] at h; cases h; exact kk H locs ls hX hl)
  · exact lv_if_ge hx hb hdg ht (fun q => by rw [if_pos q] at h; cases h; exact kk H locs ls hX hl) (fun q => by rw [if_neg q] at h; cases h; exact kk H locs ls hX hl)
  · exact lv_if_gt hx hb hdg ht (fun q => by rw [if_pos q] at h; cases h; exact kk H locs ls hX hl) (fun q => by rw [if_neg q] at h; cases h; exact kk H locs ls hX hl)
  · exact lv_if_le hx hb hdg ht (fun q => by rw [if_pos q] at h; cases h; exact kk H locs ls hX hl) (fun q => by rw [if_neg q] at h; cases h; exact kk H locs ls hX hl)
theorem go_ldc {w lk idx pc : Nat} {als st : List Value} {A : xH} {pc' : Nat} {als' st' : List Value} {A' : xH} (C : xCx base old dA D E p s m args meth c M b a0) (hdg : (w = 2 ∧ decode b pc = .ok (.ldc idx, 2)) ∨ (w = 3 ∧ decode b pc = .ok (.ldc_w idx, 3))) (h : xldc xtabs M.1 xgo0 w lk idx pc als st A = some (.inl (pc', als', st', A'))) (kk : xK base old dA D p l e R s m args below meth c Q a0 s0 pc' als' st' A') : xK base old dA D p l e R s m args below meth c Q a0 s0 pc als st A := by
  obtain ⟨hx, hb, hml, hown, hts, henv, hini, hz⟩ := C
  intro H locs ls hX hl
  unfold xldc at h
  split at h
  · rename_i o i v hT
    split at h
    · rename_i ho
      obtain ⟨rfl, rfl⟩ := ho
      cases h
      have hw := ci_all _ (List.mem_of_getElem? (show xCI[lk]? = some _ from hT))
      rcases hdg with ⟨rfl, hdg⟩ | ⟨rfl, hdg⟩
      · exact lv_ldc hx hb hown (hts _ hw) hdg (kk H locs ls hX hl)
      · exact lv_ldcw hx hb hown (hts _ hw) hdg (kk H locs ls hX hl)
    · cases h
  · split at h
    · rename_i o i k hT
      split at h
      · rename_i ho
        obtain ⟨rfl, rfl, rfl⟩ := ho
        cases h
        obtain ⟨-, -, -, -, -, -, -, -, hR, -⟩ := henv
        have hm : (M.1, i, k) ∈ xSL := List.mem_of_getElem? (show xSL[lk - 1000]? = some _ from hT)
        obtain ⟨tx, hR⟩ := hR _ hm
        have hk : (UInt32.ofNat k).toNat = k := by
          have : ∀ e ∈ xSL, (UInt32.ofNat e.2.2).toNat = e.2.2 := by unfold xSL; decide
          exact this _ hm
        rcases hdg with ⟨-, hdg⟩ | ⟨h3, -⟩
        · refine va_ldcS hx hb hown hR hdg ?_
          have := kk H locs ls hX hl
          have e9 : xv base old (.float (UInt32.ofNat k)) = .ref (old k) := by
            show Value.ref (old (UInt32.ofNat k).toNat) = _
            rw [hk]
          rw [List.map_cons, e9] at this
          exact this
        · omega
      · cases h
    · cases h
/-- astore, aload: what may lie there -/
theorem xv_ref {v : Value} (h : (∃ x, v = .ref x) ∨ v = .null ∨ ∃ x, v = .float x) : ((∃ x, xv base old v = .ref x) ∨ xv base old v = .null) ∧ (∀ k, v ≠ .retAddr k) := by
  rcases h with ⟨x, rfl⟩ | rfl | ⟨x, rfl⟩
  · exact ⟨Or.inl ⟨_, rfl⟩, fun k h => by cases h⟩
  · exact ⟨Or.inr rfl, fun k h => by cases h⟩
  · exact ⟨Or.inl ⟨_, rfl⟩, fun k h => by cases h⟩
theorem go_aload {i pc w : Nat} {als st : List Value} {A : xH} (C : xCx base old dA D E p s m args meth c M b a0) (hdg : (∃ n : Fin 4, n.val = i ∧ w = 1 ∧ decode b pc = .ok (.aload_n n, 1)) ∨ (w = 2 ∧ decode b pc = .ok (.aload i, 2))) (hv : (∃ x, xg als i = .ref x) ∨ xg als i = .null ∨ ∃ x, xg als i = .float x) (kk : xK base old dA D p l e R s m args below meth c Q a0 s0 (pc + w) als (xg als i :: st) A) : xK base old dA D p l e R s m args below meth c Q a0 s0 pc als st A := by
  obtain ⟨hx, hb, hml, hown, hts, henv, hini, hz⟩ := C
  intro H locs ls hX hl
  have hk := kk H locs ls hX hl
  obtain ⟨h1, h2⟩ := xv_ref (base := base) (old := old) hv
  have hat := hl.2.2 i h2
  rw [List.map_cons] at hk
  rcases h1 with ⟨x, h1⟩ | h1
  · rw [h1] at hat hk
    rcases hdg with ⟨n, hn, rfl, hdg⟩ | ⟨rfl, hdg⟩
    · exact lv_aload_n hx hb hdg hn hat hk
    · exact lv_aload hx hb hdg hat hk
  · rw [h1] at hat hk
    rcases hdg with ⟨n, hn, rfl, hdg⟩ | ⟨rfl, hdg⟩
    · exact lv_aload_nN hx hb hdg hn hat hk
    · exact lv_aloadN hx hb hdg hat hk
theorem go_astore {i pc w : Nat} {als s1 : List Value} {v : Value} {A : xH} (C : xCx base old dA D E p s m args meth c M b a0) (hdg : (∃ n : Fin 4, n.val = i ∧ w = 1 ∧ decode b pc = .ok (.astore_n n, 1)) ∨ (w = 2 ∧ decode b pc = .ok (.astore i, 2))) (hv : (∃ x, v = .ref x) ∨ v = .null ∨ ∃ x, v = .float x) (hi : i < als.length) (hp : ∀ j, i = j + 1 → (xg als j).category ≠ 2) (kk : xK base old dA D p l e R s m args below meth c Q a0 s0 (pc + w) (xs als i v) s1 A) : xK base old dA D p l e R s m args below meth c Q a0 s0 pc als (v :: s1) A := by
  obtain ⟨hx, hb, hml, hown, hts, henv, hini, hz⟩ := C
  intro H locs ls hX hl
  obtain ⟨h1, h2⟩ := xv_ref (base := base) (old := old) hv
  have fin : ∀ ls' : Array Slot, lv_has ls' als.length ((i, xv base old v) :: (xlv base old als).filter (fun q => !(q.1 == i) && !(q.1 + 1 == i && q.2.category == 2))) → W p l e R s m args below meth c H locs (A.length - a0) (xsl A - s0) Q (F0 m (pc + w) ls' (s1.map (xv base old))) := fun ls' h' => kk H locs ls' hX (xLoc.st1 hi hp h')
  show W p l e R s m args below meth c H locs (A.length - a0) (xsl A - s0) Q (F0 m pc ls (xv base old v :: s1.map (xv base old)))
  rcases h1 with ⟨x, h1⟩ | h1
  · rw [h1] at fin ⊢
    rcases hdg with ⟨n, hn, rfl, hdg⟩ | ⟨rfl, hdg⟩
    · exact lv_astore_n hx hb hdg hn hl.has hi rfl fin
    · exact lv_astore hx hb hdg hl.has hi rfl fin
  · rw [h1] at fin ⊢
    rcases hdg with ⟨n, hn, rfl, hdg⟩ | ⟨rfl, hdg⟩
    · exact lv_astore_nN hx hb hdg hn hl.has hi rfl fin
    · exact lv_astoreN hx hb hdg hl.has hi rfl fin
end XS3
