/-! ===== sizes only grow ===== -/
def xgrow (ls : List Value) (A : xH) : xN → Prop
  | .inl q => A.length ≤ q.2.2.2.length ∧ xsl A ≤ xsl q.2.2.2 ∧ q.2.1.length = ls.length
  | .inr (.inl q) => q.2.2.2.2 = A ∧ q.2.2.1.length = ls.length
  | .inr (.inr q) => q.2 = A
section XGR
variable {T : xT} {E : Nat × (Nat → Int32)} {own rt ini : Nat} {pc : Nat} {ls st : List Value} {A : xH} {n : xN}
theorem gx_rf {q : Nat × List Value × List Value × xH} (h : q.2.2.2 = A) (h2 : q.2.1.length = ls.length) : xgrow ls A (.inl q) := by
  show A.length ≤ q.2.2.2.length ∧ xsl A ≤ xsl q.2.2.2 ∧ _
  rw [h]
  exact ⟨Nat.le_refl _, Nat.le_refl _, h2⟩
theorem gx_set {a b : Nat} {c c0 : xA} {l2 : List Value} (hA : A[a]? = some c0) (hz : xsz c = xsz c0) : xgrow ls A (.inl (b, ls, l2, A.set a c)) := by
  show A.length ≤ (A.set a c).length ∧ xsl A ≤ xsl (A.set a c) ∧ ls.length = ls.length
  rw [List.length_set, xsl_set A a c c0 hA hz]
  exact ⟨Nat.le_refl _, Nat.le_refl _, rfl⟩
theorem gx_app {b : Nat} {c : xA} {l2 : List Value} : xgrow ls A (.inl (b, ls, l2, A ++ [c])) := by
  show A.length ≤ (A ++ [c]).length ∧ xsl A ≤ xsl (A ++ [c]) ∧ ls.length = ls.length
  rw [List.length_append, xsl_app]
  exact ⟨Nat.le_add_right _ _, Nat.le_add_right _ _, rfl⟩
theorem gx_get {lk idx : Nat} (h : xget T own xgo0 lk idx pc ls st A = some n) : xgrow ls A n := by
  obtain ⟨_, _, _, _, _, _, _, _, _, -, -, -, -, -, -, rfl⟩ := i_get h
  exact gx_rf rfl rfl
theorem gx_put {lk idx : Nat} (h : xput T own ini xgo0 lk idx pc ls st A = some n) : xgrow ls A n := by
  obtain ⟨_, _, _, _, _, _, _, fs, v, -, -, -, -, hA, -, rfl, -⟩ := i_put h
  exact gx_set hA (by show (fs.set _ v).length = fs.length; simp)
theorem gx_inv {ik idx lk : Nat} (h : xinv T own xgo0 xcl0 ik idx lk pc ls st A = some n) : xgrow ls A n := by
  obtain ⟨kd, mid, na, rk, -, -, hc⟩ := i_inv h
  rcases hc with ⟨-, a, s1, -, -, rfl⟩ | ⟨-, x, y, s1, -, -, rfl⟩ | ⟨-, x, y, s1, -, -, rfl⟩ | ⟨-, k, dp, bb, sp, a, s1, B, -, -, hcp, rfl⟩ | ⟨-, k, s1, x, -, -, -, rfl⟩ | ⟨-, i, k, s1, x, -, -, -, rfl⟩ | ⟨-, a, s1, B, -, -, hcl, rfl⟩ | ⟨-, as, s1, -, -, rfl⟩
  · exact gx_rf rfl rfl
  · exact gx_rf rfl rfl
  · exact gx_rf rfl rfl
  · obtain ⟨n0, f, n1, g, hA, hB, -, -, -, -, -, rfl⟩ := j_copy hcp
    exact gx_set hB rfl
  · exact gx_rf rfl rfl
  · exact gx_rf rfl rfl
  · obtain ⟨n, f, hA, rfl⟩ := j_clone hcl
    exact gx_app
  · exact ⟨rfl, rfl⟩
theorem gx_newa {t : ArrayType} (h : xnewa xgo0 t pc ls st A = some n) : xgrow ls A n := by
  obtain ⟨k, s1, tg, cN, -, -, -, rfl, -⟩ := i_newa h
  exact gx_app
theorem gx_iald {t : Nat} (h : xiald E xgo0 t pc ls st A = some n) : xgrow ls A n := by
  rcases i_iald h with ⟨_, _, _, _, -, -, rfl⟩ | ⟨_, _, -, -, -, rfl⟩
  · exact gx_rf rfl rfl
  · exact gx_rf rfl rfl
theorem gx_iast {t : Nat} (h : xiast xgo0 t pc ls st A = some n) : xgrow ls A n := by
  obtain ⟨_, _, _, _, _, -, h1, rfl⟩ := i_iast h
  obtain ⟨n, f, hA, -, rfl⟩ := j_sI h1
  exact gx_set hA rfl
theorem gx_ldc {w lk idx : Nat} (h : xldc T own xgo0 w lk idx pc ls st A = some n) : xgrow ls A n := by
  unfold xldc at h
  split at h
  · split at h
    · cases h; exact gx_rf rfl rfl
    · cases h
  · split at h
    · split at h
      · cases h; exact gx_rf rfl rfl
      · cases h
    · cases h
theorem gx_sw {dflt : Nat} {x : Int32} {lo : List Int} {cc : Int} {s1 : List Value} (h : xsw (fun q => (some (.inl (q, ls, s1, A)) : Option xN)) pc dflt x cc lo = some n) : xgrow ls A n := by
  rcases i_sw _ _ h with ⟨_, _, -, -, g⟩ | ⟨-, g⟩
  · cases g; exact gx_rf rfl rfl
  · cases g; exact gx_rf rfl rfl
theorem gx_icmp {cd : ClassFile.Cond} {x y : Int32} {t1 t2 : Nat} {s1 : List Value} (h : xicmp cd x y (some (.inl (t1, ls, s1, A)) : Option xN) (some (.inl (t2, ls, s1, A)) : Option xN) = some n) : xgrow ls A n := by
  rcases i_icmp_n h with g | g
  · cases g; exact gx_rf rfl rfl
  · cases g; exact gx_rf rfl rfl
set_option maxHeartbeats 4000000 in
theorem xeff_grow {r : xR} (h : xeff T E own rt ini r ls st A = some n) : xgrow ls A n := by
  obtain ⟨pc, ins, lk, dead⟩ := r
  unfold xeff at h
  cases ins <;> unfold xG at h <;> dsimp only at h <;> first
    | (cases h; exact gx_rf rfl rfl)
    | (cases h; done)
    | exact gx_get h
    | exact gx_put h
    | exact gx_inv h
    | exact gx_newa h
    | exact gx_iald h
    | exact gx_iast h
    | exact gx_ldc h
    | (obtain ⟨_, _, _, -, rfl⟩ := i_bin h; exact gx_rf rfl rfl)
    | (obtain ⟨_, _, _, -, rfl⟩ := i_lbin h; exact gx_rf rfl rfl)
    | (obtain ⟨_, _, _, -, -, rfl⟩ := i_binz h; exact gx_rf rfl rfl)
    | (obtain ⟨_, _, _, -, -, rfl⟩ := i_lbinz h; exact gx_rf rfl rfl)
    | (obtain ⟨-, g⟩ := i_ldA h; cases g; exact gx_rf rfl rfl)
    | (obtain ⟨_, -, g⟩ := i_ldI h; cases g; exact gx_rf rfl rfl)
    | (obtain ⟨_, -, g⟩ := i_ldL h; cases g; exact gx_rf rfl rfl)
    | (split at h <;> first
        | (cases h; done)
        | (cases h; exact gx_rf rfl rfl)
        | (cases h; rfl)
        | exact gx_icmp h
        | exact gx_sw h
        | (obtain ⟨-, -, g⟩ := i_st1 h; cases g; exact gx_rf rfl (xs_len ..))
        | (obtain ⟨-, -, g⟩ := i_st2 h; cases g; exact gx_rf rfl ((xs_len ..).trans (xs_len ..)))
        | (obtain ⟨-, h2⟩ := i_ldA h; obtain ⟨-, -, g⟩ := i_st1 h2; cases g; exact gx_rf rfl (xs_len ..))
        | (obtain ⟨x, g1, g2⟩ := i_bind h; cases g2; exact gx_rf rfl rfl)
        | (obtain ⟨x, g1, g2⟩ := i_bind h; cases g2; obtain ⟨_, _, hA, -, rfl⟩ := j_sL g1; exact gx_set hA rfl)
        | (obtain ⟨x, g1, g2⟩ := i_bind h; cases g2; obtain ⟨_, _, hA, -, -, rfl⟩ := j_sR g1; exact gx_set hA rfl)
        | (obtain ⟨x, g1, g2⟩ := i_bind h; cases x <;> cases g2 <;> exact gx_rf rfl rfl)
        | (split at h <;> first
            | (cases h; done)
            | (cases h; exact gx_rf rfl rfl)
            | (cases h; rfl)
            | (cases h; exact gx_app)
            | (obtain ⟨x, g1, g2⟩ := i_bind h; split at g2 <;> first | (cases g2; exact gx_rf rfl rfl) | (cases g2; done))
            | (split at h <;> first
                | (cases h; done)
                | (cases h; rfl)
                | (cases h; exact gx_app)
                | (cases h; exact gx_rf rfl rfl))))
theorem inv_noret {ik idx lk : Nat} {q : Option Value × xH} (h : xinv T own xgo0 xcl0 ik idx lk pc ls st A = some (.inr (.inr q))) : False := by
  obtain ⟨kd, mid, na, rk, -, -, hc⟩ := i_inv h
  rcases hc with ⟨_, _, _, -, -, q⟩ | ⟨_, _, _, _, -, -, q⟩ | ⟨_, _, _, _, -, -, q⟩ | ⟨_, _, _, _, _, _, _, _, -, -, -, q⟩ | ⟨_, _, _, _, -, -, -, q⟩ | ⟨_, _, _, _, _, -, -, -, q⟩ | ⟨_, _, _, _, -, -, -, q⟩ | ⟨_, _, _, -, -, q⟩ <;> cases q
set_option maxHeartbeats 4000000 in
/-- only a call calls, only a return returns -/
theorem xeff_kind {ins : Instr} {lk : Nat} {dead : List Nat} (h : xeff T E own rt ini (pc, ins, lk, dead) ls st A = some n) : (∃ q, n = .inl q) ∨ (∃ i, ins = .invokevirtual i ∨ ins = .invokespecial i ∨ ins = .invokestatic i) ∨ (ins = .ireturn ∨ ins = .lreturn ∨ ins = .areturn ∨ ins = .return_) := by
  unfold xeff at h
  cases ins <;> first
    | exact Or.inr (Or.inl ⟨_, Or.inl rfl⟩)
    | exact Or.inr (Or.inl ⟨_, Or.inr (Or.inl rfl)⟩)
    | exact Or.inr (Or.inl ⟨_, Or.inr (Or.inr rfl)⟩)
    | exact Or.inr (Or.inr (Or.inl rfl))
    | exact Or.inr (Or.inr (Or.inr (Or.inl rfl)))
    | exact Or.inr (Or.inr (Or.inr (Or.inr (Or.inl rfl))))
    | exact Or.inr (Or.inr (Or.inr (Or.inr (Or.inr rfl))))
    | left
  all_goals
    unfold xG at h
    dsimp only at h
    first
    | (cases h; exact ⟨_, rfl⟩)
    | (cases h; done)
    | (obtain ⟨_, _, _, _, _, _, _, _, _, -, -, -, -, -, -, rfl⟩ := i_get h; exact ⟨_, rfl⟩)
    | (obtain ⟨_, _, _, _, _, _, _, fs, v, -, -, -, -, hA, -, rfl, -⟩ := i_put h; exact ⟨_, rfl⟩)
    | (obtain ⟨k, s1, tg, cN, -, -, -, rfl, -⟩ := i_newa h; exact ⟨_, rfl⟩)
    | (rcases i_iald h with ⟨_, _, _, _, -, -, rfl⟩ | ⟨_, _, -, -, -, rfl⟩ <;> exact ⟨_, rfl⟩)
    | (obtain ⟨_, _, _, _, _, -, h1, rfl⟩ := i_iast h; exact ⟨_, rfl⟩)
    | (unfold xldc at h; split at h <;> split at h <;> first | (cases h; exact ⟨_, rfl⟩) | (cases h; done) | (split at h <;> first | (cases h; exact ⟨_, rfl⟩) | (cases h; done)))
    | (obtain ⟨_, _, _, -, rfl⟩ := i_bin h; exact ⟨_, rfl⟩)
    | (obtain ⟨_, _, _, -, rfl⟩ := i_lbin h; exact ⟨_, rfl⟩)
    | (obtain ⟨_, _, _, -, -, rfl⟩ := i_binz h; exact ⟨_, rfl⟩)
    | (obtain ⟨_, _, _, -, -, rfl⟩ := i_lbinz h; exact ⟨_, rfl⟩)
    | (obtain ⟨-, g⟩ := i_ldA h; cases g; exact ⟨_, rfl⟩)
    | (obtain ⟨_, -, g⟩ := i_ldI h; cases g; exact ⟨_, rfl⟩)
    | (obtain ⟨_, -, g⟩ := i_ldL h; cases g; exact ⟨_, rfl⟩)
    | (split at h <;> first
        | (cases h; done)
        | (cases h; exact ⟨_, rfl⟩)
        | (rcases i_icmp_n h with g | g <;> cases g <;> exact ⟨_, rfl⟩)
        | (rcases i_sw _ _ h with ⟨_, _, -, -, g⟩ | ⟨-, g⟩ <;> cases g <;> exact ⟨_, rfl⟩)
        | (obtain ⟨-, -, g⟩ := i_st1 h; cases g; exact ⟨_, rfl⟩)
        | (obtain ⟨-, -, g⟩ := i_st2 h; cases g; exact ⟨_, rfl⟩)
        | (obtain ⟨-, h2⟩ := i_ldA h; obtain ⟨-, -, g⟩ := i_st1 h2; cases g; exact ⟨_, rfl⟩)
        | (obtain ⟨x, g1, g2⟩ := i_bind h; cases g2; exact ⟨_, rfl⟩)
        | (obtain ⟨x, g1, g2⟩ := i_bind h; cases x <;> cases g2 <;> exact ⟨_, rfl⟩)
        | (split at h <;> first
            | (cases h; done)
            | (cases h; exact ⟨_, rfl⟩)
            | (obtain ⟨x, g1, g2⟩ := i_bind h; split at g2 <;> first | (cases g2; exact ⟨_, rfl⟩) | (cases g2; done))
            | (split at h <;> first
                | (cases h; done)
                | (cases h; exact ⟨_, rfl⟩))))
end XGR
theorem xcl_inv {call : Nat → List Value → xH → xO} {K : Nat → List Value → List Value → xH → xO} {mid rk pc : Nat} {as ls s1 : List Value} {A : xH} {q : Option Value × xH} (h : xcl call K mid as rk pc ls s1 A = some q) : ∃ v A1, call mid as A = some (v, A1) ∧ K pc ls (v.toList ++ s1) A1 = some q := by
  cases hc : call mid as A with
  | none =>
    unfold xcl at h
    split at h <;> rw [hc] at h <;> simp [xV, xI, xLo, xNn, xOp] at h
  | some w =>
    obtain ⟨v, A1⟩ := w
    refine ⟨v, A1, rfl, ?_⟩
    unfold xcl at h
    split at h <;> rw [hc] at h
    · obtain ⟨z, g1, g2⟩ := Option.bind_eq_some_iff.mp h
      simp only [xV, Option.bind_some] at g1
      cases v with
      | none => cases g1; exact g2
      | some v => cases g1
    · obtain ⟨z, g1, g2⟩ := Option.bind_eq_some_iff.mp h
      simp only [xI, Option.bind_some] at g1
      split at g1
      · cases g1; exact g2
      · cases g1
    · obtain ⟨z, g1, g2⟩ := Option.bind_eq_some_iff.mp h
      simp only [xLo, Option.bind_some] at g1
      split at g1
      · cases g1; exact g2
      · cases g1
    · obtain ⟨z, g1, g2⟩ := Option.bind_eq_some_iff.mp h
      simp only [xNn, Option.bind_some] at g1
      split at g1
      · cases g1; exact g2
      · cases g1
    · obtain ⟨z, g1, g2⟩ := Option.bind_eq_some_iff.mp h
      simp only [xOp, Option.bind_some] at g1
      split at g1
      · cases g1; exact g2
      · cases g1; exact g2
      · cases g1
/-- a step, taken apart -/
theorem xon_inv {P : List xM} {T : xT} {E : Nat × (Nat → Int32)} {call : Nat → List Value → xH → xO} {K : Nat → List Value → List Value → xH → xO} {m pc : Nat} {ls st : List Value} {A : xH} {q : Option Value × xH} (h : xon P T E call K m pc ls st A = some q) : ∃ M r, P[m]? = some M ∧ r ∈ M.2.2.2.2 ∧ r.1 = pc ∧ ((∃ w, xeff T E M.1 M.2.1 M.2.2.1 r (xmask r.2.2.2 ls) st A = some (.inl w) ∧ K w.1 w.2.1 w.2.2.1 w.2.2.2 = some q) ∨ (∃ w v A1, xeff T E M.1 M.2.1 M.2.2.1 r (xmask r.2.2.2 ls) st A = some (.inr (.inl w)) ∧ call w.1.1 w.1.2.1 w.2.2.2.2 = some (v, A1) ∧ K w.2.1 w.2.2.1 (v.toList ++ w.2.2.2.1) A1 = some q) ∨ xeff T E M.1 M.2.1 M.2.2.1 r (xmask r.2.2.2 ls) st A = some (.inr (.inr q))) := by
  unfold xon at h
  split at h
  · cases h
  · rename_i M hM
    split at h
    · cases h
    · rename_i r hr
      have hf : ∀ (l : List xR) (r : xR), xfind l pc = some r → r ∈ l ∧ r.1 = pc := by
        intro l
        induction l with
        | nil => intro r h; cases h
        | cons a l ih =>
          intro r h
          unfold xfind at h
          split at h
          · rename_i e
            cases h
            exact ⟨List.mem_cons_self, e⟩
          · exact ⟨List.mem_cons_of_mem _ (ih r h).1, (ih r h).2⟩
      obtain ⟨z, g1, g2⟩ := Option.bind_eq_some_iff.mp h
      refine ⟨M, r, hM, (hf _ _ hr).1, (hf _ _ hr).2, ?_⟩
      obtain w | w | w := z
      · exact Or.inl ⟨w, g1, g2⟩
      · obtain ⟨v, A1, k1, k2⟩ := xcl_inv g2
        exact Or.inr (Or.inl ⟨w, v, A1, g1, k1, k2⟩)
      · refine Or.inr (Or.inr ?_)
        rw [g1]
        congr 2
        congr 1
        exact Option.some.inj g2
theorem xexec_grow (P : List xM) (T : xT) (E : Nat × (Nat → Int32)) : ∀ (n d m pc : Nat) (ls st : List Value) (A : xH) (q : Option Value × xH), xexec P T E n d m pc ls st A = some q → A.length ≤ q.2.length ∧ xsl A ≤ xsl q.2
  | 0, _, _, _, _, _, _, _, h => by cases h
  | n + 1, d, m, pc, ls, st, A, q, h => by
    rw [xexec_s] at h
    obtain ⟨M, r, -, -, -, hc⟩ := xon_inv h
    rcases hc with ⟨w, g1, g2⟩ | ⟨w, v, A1, g1, g2, g3⟩ | g1
    · have h1 : A.length ≤ w.2.2.2.length ∧ xsl A ≤ xsl w.2.2.2 ∧ _ := xeff_grow g1
      have h2 := xexec_grow P T E n d m _ _ _ _ _ g2
      omega
    · have h1 : w.2.2.2.2 = A := (show _ ∧ _ from xeff_grow g1).1
      have h3 := xexec_grow P T E n d m _ _ _ _ _ g3
      unfold xcallN at g2
      cases d with
      | zero => cases g2
      | succ e =>
        dsimp only at g2
        unfold xinto at g2
        split at g2
        · cases g2
        · split at g2
          · have h2 := xexec_grow P T E n e _ _ _ _ _ _ g2
            rw [h1] at h2
            dsimp only at h2
            omega
          · cases g2
    · have h1 : q.2 = A := xeff_grow g1
      rw [h1]
      exact ⟨Nat.le_refl _, Nat.le_refl _⟩
