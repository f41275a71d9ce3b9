/-! ===== WHAT A RUN COMES TO: the abstract machine without its counter ===== -/
section XN
variable {β : Type}
def xdisp (go : Nat → List Value → List Value → xH → Option β) (cl : Nat → List Value → Nat → Nat → List Value → List Value → xH → Option β) (rn : Option Value → xH → Option β) : xN → Option β
  | .inl q => go q.1 q.2.1 q.2.2.1 q.2.2.2
  | .inr (.inl q) => cl q.1.1 q.1.2.1 q.1.2.2 q.2.1 q.2.2.1 q.2.2.2.1 q.2.2.2.2
  | .inr (.inr q) => rn q.1 q.2
abbrev xgo0 : Nat → List Value → List Value → xH → Option xN := fun pc ls st A => some (.inl (pc, ls, st, A))
abbrev xcl0 : Nat → List Value → Nat → Nat → List Value → List Value → xH → Option xN := fun mid args rk pc ls st A => some (.inr (.inl ((mid, args, rk), (pc, ls, st, A))))
abbrev xrn0 : Option Value → xH → Option xN := fun v A => some (.inr (.inr (v, A)))
variable (T : xT) (E : Nat × (Nat → Int32)) (own rt ini : Nat) (go : Nat → List Value → List Value → xH → Option β) (cl : Nat → List Value → Nat → Nat → List Value → List Value → xH → Option β) (rn : Option Value → xH → Option β)
theorem xn_inv (ik idx lk pc : Nat) (ls st : List Value) (A : xH) : xinv T own go cl ik idx lk pc ls st A = (xinv T own xgo0 xcl0 ik idx lk pc ls st A).bind (xdisp go cl rn) := by
  unfold xinv
  split
  · rfl
  · split
    · split <;> first
        | (split <;> first | rfl | (split <;> first | rfl | (simp only [Option.bind_assoc]; rfl)))
        | (split <;> first | rfl | (split <;> first | rfl))
    · rfl
theorem xn_sw (g : Nat → Option β) (g0 : Nat → Option xN) (h : ∀ q, g q = (g0 q).bind (xdisp go cl rn)) (pc dflt : Nat) (x : Int32) : ∀ (l : List Int) (c : Int), xsw g pc dflt x c l = (xsw g0 pc dflt x c l).bind (xdisp go cl rn)
  | [], c => h dflt
  | o :: l, c => by
    unfold xsw
    split
    · exact h _
    · exact xn_sw g g0 h pc dflt x l (c + 1)
theorem xn_ldA (v : Value) (k : Value → Option β) (k0 : Value → Option xN) (h : ∀ w, k w = (k0 w).bind (xdisp go cl rn)) : xldA v k = (xldA v k0).bind (xdisp go cl rn) := by
  unfold xldA
  split <;> first | exact h _ | rfl
theorem xn_ldI (v : Value) (k : Value → Option β) (k0 : Value → Option xN) (h : ∀ w, k w = (k0 w).bind (xdisp go cl rn)) : xldI v k = (xldI v k0).bind (xdisp go cl rn) := by
  unfold xldI
  split <;> first | exact h _ | rfl
theorem xn_ldL (v : Value) (k : Value → Option β) (k0 : Value → Option xN) (h : ∀ w, k w = (k0 w).bind (xdisp go cl rn)) : xldL v k = (xldL v k0).bind (xdisp go cl rn) := by
  unfold xldL
  split <;> first | exact h _ | rfl
theorem xn_st1 (ls : List Value) (i : Nat) (v : Value) (k : List Value → Option β) (k0 : List Value → Option xN) (h : ∀ w, k w = (k0 w).bind (xdisp go cl rn)) : xst1 ls i v k = (xst1 ls i v k0).bind (xdisp go cl rn) := by
  unfold xst1
  split
  · split
    · exact h _
    · split <;> first | exact h _ | rfl
  · rfl
theorem xn_st2 (ls : List Value) (i : Nat) (v : Value) (k : List Value → Option β) (k0 : List Value → Option xN) (h : ∀ w, k w = (k0 w).bind (xdisp go cl rn)) : xst2 ls i v k = (xst2 ls i v k0).bind (xdisp go cl rn) := by
  unfold xst2
  split
  · split
    · exact h _
    · split <;> first | exact h _ | rfl
  · rfl
theorem xn_icmp (c : ClassFile.Cond) (x y : Int32) (a b : Option β) (a0 b0 : Option xN) (h : a = a0.bind (xdisp go cl rn)) (h2 : b = b0.bind (xdisp go cl rn)) : xicmp c x y a b = (xicmp c x y a0 b0).bind (xdisp go cl rn) := by
  unfold xicmp
  split <;> split <;> assumption
theorem xn_get (lk idx pc : Nat) (ls st : List Value) (A : xH) : xget T own go lk idx pc ls st A = (xget T own xgo0 lk idx pc ls st A).bind (xdisp go cl rn) := by
  unfold xget
  split
  · rfl
  · split
    · split
      · split
        · simp only [Option.bind_assoc]; rfl
        · simp only [Option.bind_assoc]; rfl
        · simp only [Option.bind_assoc]
          congr 1
          funext q
          cases q <;> rfl
        · simp only [Option.bind_assoc]; rfl
      · rfl
    · rfl
theorem xn_put (lk idx pc : Nat) (ls st : List Value) (A : xH) : xput T own ini go lk idx pc ls st A = (xput T own ini xgo0 lk idx pc ls st A).bind (xdisp go cl rn) := by
  unfold xput
  split
  · rfl
  · split
    · split
      · split
        · split <;> first | rfl | (simp only [Option.bind_assoc]; rfl)
        · split
          · split <;> first | rfl | (simp only [Option.bind_assoc]; rfl)
          · rfl
        · split
          · split <;> first | rfl | (simp only [Option.bind_assoc]; rfl)
          · rfl
        · split <;> first | rfl | (simp only [Option.bind_assoc]; rfl)
        · rfl
      · rfl
    · rfl
theorem xn_newa (t : ArrayType) (pc : Nat) (ls st : List Value) (A : xH) : xnewa go t pc ls st A = (xnewa xgo0 t pc ls st A).bind (xdisp go cl rn) := by
  unfold xnewa
  split
  · split
    · rfl
    · split <;> rfl
  · rfl
theorem xn_bin (pc : Nat) (ls st : List Value) (A : xH) (f : Int32 → Int32 → Int32) : xbin go pc ls st A f = (xbin xgo0 pc ls st A f).bind (xdisp go cl rn) := by
  unfold xbin
  split <;> rfl
theorem xn_lbin (pc : Nat) (ls st : List Value) (A : xH) (f : Int64 → Int64 → Int64) : xlbin go pc ls st A f = (xlbin xgo0 pc ls st A f).bind (xdisp go cl rn) := by
  unfold xlbin
  split <;> rfl
theorem xn_binz (pc : Nat) (ls st : List Value) (A : xH) (f : Int32 → Int32 → Int32) : xbinz go pc ls st A f = (xbinz xgo0 pc ls st A f).bind (xdisp go cl rn) := by
  unfold xbinz
  split <;> first | rfl | (split <;> rfl)
theorem xn_lbinz (pc : Nat) (ls st : List Value) (A : xH) (f : Int64 → Int64 → Int64) : xlbinz go pc ls st A f = (xlbinz xgo0 pc ls st A f).bind (xdisp go cl rn) := by
  unfold xlbinz
  split <;> first | rfl | (split <;> rfl)
theorem xn_iald (t pc : Nat) (ls st : List Value) (A : xH) : xiald E go t pc ls st A = (xiald E xgo0 t pc ls st A).bind (xdisp go cl rn) := by
  unfold xiald
  split
  · simp only [Option.bind_assoc]; rfl
  · split
    · split <;> rfl
    · rfl
  · rfl
theorem xn_iast (t pc : Nat) (ls st : List Value) (A : xH) : xiast go t pc ls st A = (xiast xgo0 t pc ls st A).bind (xdisp go cl rn) := by
  unfold xiast
  split
  · simp only [Option.bind_assoc]; rfl
  · rfl
theorem xn_ldc (w lk idx pc : Nat) (ls st : List Value) (A : xH) : xldc T own go w lk idx pc ls st A = (xldc T own xgo0 w lk idx pc ls st A).bind (xdisp go cl rn) := by
  unfold xldc
  split
  · split <;> rfl
  · split
    · split <;> rfl
    · rfl
set_option maxHeartbeats 2000000 in
theorem xn_G (r : xR) (ls st : List Value) (A : xH) : xG T E own rt ini go cl rn r ls st A = (xeff T E own rt ini r ls st A).bind (xdisp go cl rn) := by
  obtain ⟨pc, ins, lk, dead⟩ := r
  unfold xeff
  cases ins <;> unfold xG <;> dsimp only <;> first
    | rfl
    | exact xn_inv ..
    | exact xn_get ..
    | exact xn_put ..
    | exact xn_newa ..
    | exact xn_bin ..
    | exact xn_lbin ..
    | exact xn_binz ..
    | exact xn_lbinz ..
    | exact xn_iald ..
    | exact xn_iast ..
    | exact xn_ldc ..
    | exact xn_ldA _ _ _ _ _ _ (fun _ => rfl)
    | exact xn_ldI _ _ _ _ _ _ (fun _ => rfl)
    | exact xn_ldL _ _ _ _ _ _ (fun _ => rfl)
    | (split <;> first
        | rfl
        | exact xn_icmp _ _ _ _ _ _ _ _ _ _ rfl rfl
        | exact xn_st1 _ _ _ _ _ _ _ _ (fun _ => rfl)
        | exact xn_st2 _ _ _ _ _ _ _ _ (fun _ => rfl)
        | exact xn_ldA _ _ _ _ _ _ (fun _ => xn_st1 _ _ _ _ _ _ _ _ (fun _ => rfl))
        | (refine xn_sw go cl rn _ _ ?_ _ _ _ _ _
           intro q
           rfl)
        | (simp only [Option.bind_assoc]; rfl)
        | (simp only [Option.bind_assoc]; congr 1; funext q; cases q <;> rfl)
        | (split <;> first
            | rfl
            | (simp only [Option.bind_assoc]; rfl)
            | (simp only [Option.bind_assoc]; congr 1; funext q; split <;> rfl)
            | (split <;> rfl)))
end XN
/-- one step, by its effect -/
def xon (P : List xM) (T : xT) (E : Nat × (Nat → Int32)) (call : Nat → List Value → xH → xO) (K : Nat → List Value → List Value → xH → xO) (m pc : Nat) (ls st : List Value) (A : xH) : xO := match P[m]? with
  | none => none
  | some M => match xfind M.2.2.2.2 pc with
    | none => none
    | some r => (xeff T E M.1 M.2.1 M.2.2.1 r (xmask r.2.2.2 ls) st A).bind (xdisp K (xcl call K) (fun v A => some (v, A)))
theorem xon_step {P : List xM} {T : xT} {E : Nat × (Nat → Int32)} {call : Nat → List Value → xH → xO} {K : Nat → List Value → List Value → xH → xO} {m pc : Nat} {ls st : List Value} {A : xH} {M : xM} (h : P[m]? = some M) : xstep T E call M K pc ls st A = xon P T E call K m pc ls st A := by
  unfold xstep xon
  rw [h]
  dsimp only
  cases xfind M.2.2.2.2 pc with
  | none => rfl
  | some r => exact xn_G ..
def xcallN (P : List xM) (T : xT) (E : Nat × (Nat → Int32)) (n d : Nat) : Nat → List Value → xH → xO := fun mid args B => match d with
  | 0 => none
  | e + 1 => xinto P mid args B fun l => xexec P T E n e mid 0 l [] B
theorem xexec_s (P : List xM) (T : xT) (E : Nat × (Nat → Int32)) (n d m pc : Nat) (ls st : List Value) (A : xH) : xexec P T E (n + 1) d m pc ls st A = xon P T E (xcallN P T E n d) (xexec P T E n d m) m pc ls st A := by
  show (match P[m]? with | none => none | some M => xstep T E _ M _ pc ls st A) = _
  cases h : P[m]? with
  | none => unfold xon; rw [h]
  | some M => exact xon_step h
/-- what a step needs of calls and of what goes on -/
theorem xcl_mono {c1 c2 : Nat → List Value → xH → xO} {K1 K2 : Nat → List Value → List Value → xH → xO} (hc : ∀ mid args B q, c1 mid args B = some q → c2 mid args B = some q) (hK : ∀ pc ls st A q, K1 pc ls st A = some q → K2 pc ls st A = some q) (mid : Nat) (args : List Value) (rk pc : Nat) (ls s : List Value) (A : xH) (q : Option Value × xH) (h : xcl c1 K1 mid args rk pc ls s A = some q) : xcl c2 K2 mid args rk pc ls s A = some q := by
  cases hq : c1 mid args A with
  | none =>
    unfold xcl at h
    split at h <;> rw [hq] at h <;> simp [xV, xI, xLo, xNn, xOp] at h
  | some w =>
    have hw := hc _ _ _ _ hq
    unfold xcl at h ⊢
    split at h <;> rw [hq] at h <;> rw [hw]
    all_goals
      obtain ⟨z, h1, h2⟩ := Option.bind_eq_some_iff.mp h
      rw [h1]
      first
        | exact hK _ _ _ _ _ h2
        | (obtain ⟨o, B⟩ := z
           cases o <;> exact hK _ _ _ _ _ h2)
theorem xcl_cont {cn : Nat → Nat → List Value → xH → xO} {Kn : Nat → Nat → List Value → List Value → xH → xO} {c : Nat → List Value → xH → xO} {K : Nat → List Value → List Value → xH → xO}
    (hcm : ∀ n k mid args B q, cn n mid args B = some q → cn (n + k) mid args B = some q) (hKm : ∀ n k pc ls st A q, Kn n pc ls st A = some q → Kn (n + k) pc ls st A = some q)
    (hc : ∀ mid args B q, c mid args B = some q → ∃ n, cn n mid args B = some q) (hK : ∀ pc ls st A q, K pc ls st A = some q → ∃ n, Kn n pc ls st A = some q) (mid : Nat) (args : List Value) (rk pc : Nat) (ls s : List Value) (A : xH) (q : Option Value × xH) (h : xcl c K mid args rk pc ls s A = some q) : ∃ n, xcl (cn n) (Kn n) mid args rk pc ls s A = some q := by
  cases hq : c mid args A with
  | none =>
    unfold xcl at h
    split at h <;> rw [hq] at h <;> simp [xV, xI, xLo, xNn, xOp] at h
  | some w =>
    obtain ⟨n1, hn1⟩ := hc _ _ _ _ hq
    have fin : ∀ (pc : Nat) (ls st : List Value) (B : xH), K pc ls st B = some q → ∃ n, cn n mid args A = some w ∧ Kn n pc ls st B = some q := by
      intro pc ls st B hB
      obtain ⟨n2, hn2⟩ := hK _ _ _ _ _ hB
      exact ⟨n1 + n2, hcm n1 n2 _ _ _ _ hn1, by rw [Nat.add_comm]; exact hKm n2 n1 _ _ _ _ _ hn2⟩
    unfold xcl at h
    split at h <;> rw [hq] at h
    all_goals
      obtain ⟨z, h1, h2⟩ := Option.bind_eq_some_iff.mp h
    · obtain ⟨n, a, b⟩ := fin _ _ _ _ h2
      exact ⟨n, by simp only [xcl]; rw [a, h1]; exact b⟩
    · obtain ⟨n, a, b⟩ := fin _ _ _ _ h2
      exact ⟨n, by simp only [xcl]; rw [a, h1]; exact b⟩
    · obtain ⟨n, a, b⟩ := fin _ _ _ _ h2
      exact ⟨n, by simp only [xcl]; rw [a, h1]; exact b⟩
    · obtain ⟨n, a, b⟩ := fin _ _ _ _ h2
      exact ⟨n, by simp only [xcl]; rw [a, h1]; exact b⟩
    · rename_i n0 n1' n2' n3'
      obtain ⟨o, B⟩ := z
      cases o with
      | none =>
        obtain ⟨n, a, b⟩ := fin _ _ _ _ h2
        refine ⟨n, ?_⟩
        unfold xcl
        split <;> first | contradiction | (rw [a, h1]; exact b)
      | some y =>
        obtain ⟨n, a, b⟩ := fin _ _ _ _ h2
        refine ⟨n, ?_⟩
        unfold xcl
        split <;> first | contradiction | (rw [a, h1]; exact b)
theorem xon_mono {P : List xM} {T : xT} {E : Nat × (Nat → Int32)} {c1 c2 : Nat → List Value → xH → xO} {K1 K2 : Nat → List Value → List Value → xH → xO} (hc : ∀ mid args B q, c1 mid args B = some q → c2 mid args B = some q) (hK : ∀ pc ls st A q, K1 pc ls st A = some q → K2 pc ls st A = some q) (m pc : Nat) (ls st : List Value) (A : xH) (q : Option Value × xH) (h : xon P T E c1 K1 m pc ls st A = some q) : xon P T E c2 K2 m pc ls st A = some q := by
  unfold xon at h ⊢
  split at h
  · cases h
  · split at h
    · cases h
    · obtain ⟨z, h1, h2⟩ := Option.bind_eq_some_iff.mp h
      rw [h1]
      obtain z | z | z := z
      · exact hK _ _ _ _ _ h2
      · exact xcl_mono hc hK _ _ _ _ _ _ _ _ h2
      · exact h2
theorem xon_cont {P : List xM} {T : xT} {E : Nat × (Nat → Int32)} {cn : Nat → Nat → List Value → xH → xO} {Kn : Nat → Nat → List Value → List Value → xH → xO} {c : Nat → List Value → xH → xO} {K : Nat → List Value → List Value → xH → xO}
    (hcm : ∀ n k mid args B q, cn n mid args B = some q → cn (n + k) mid args B = some q) (hKm : ∀ n k pc ls st A q, Kn n pc ls st A = some q → Kn (n + k) pc ls st A = some q)
    (hc : ∀ mid args B q, c mid args B = some q → ∃ n, cn n mid args B = some q) (hK : ∀ pc ls st A q, K pc ls st A = some q → ∃ n, Kn n pc ls st A = some q) (m pc : Nat) (ls st : List Value) (A : xH) (q : Option Value × xH) (h : xon P T E c K m pc ls st A = some q) : ∃ n, xon P T E (cn n) (Kn n) m pc ls st A = some q := by
  unfold xon at h ⊢
  split at h
  · cases h
  · split at h
    · cases h
    · obtain ⟨z, h1, h2⟩ := Option.bind_eq_some_iff.mp h
      rw [h1]
      obtain z | z | z := z
      · exact hK _ _ _ _ _ h2
      · exact xcl_cont hcm hKm hc hK _ _ _ _ _ _ _ _ h2
      · exact ⟨0, h2⟩
theorem xinto_mono {P : List xM} {mid : Nat} {args : List Value} {B : xH} {k1 k2 : List Value → xO} (h : ∀ l q, k1 l = some q → k2 l = some q) (q : Option Value × xH) (hq : xinto P mid args B k1 = some q) : xinto P mid args B k2 = some q := by
  unfold xinto at hq ⊢
  split at hq
  · cases hq
  · split at hq
    · rename_i h2; rw [if_pos h2]; exact h _ _ hq
    · cases hq
theorem xexec_1 (P : List xM) (T : xT) (E : Nat × (Nat → Int32)) : ∀ (n d m pc : Nat) (ls st : List Value) (A : xH) (q : Option Value × xH), xexec P T E n d m pc ls st A = some q → xexec P T E (n + 1) d m pc ls st A = some q
  | 0, _, _, _, _, _, _, _, h => by cases h
  | n + 1, d, m, pc, ls, st, A, q, h => by
    rw [xexec_s] at h ⊢
    refine xon_mono (fun mid args B w hw => ?_) (fun pc ls st A w hw => xexec_1 P T E n d m pc ls st A w hw) _ _ _ _ _ _ h
    unfold xcallN at hw ⊢
    cases d with
    | zero => cases hw
    | succ e => exact xinto_mono (fun l z hz => xexec_1 P T E n e mid 0 l [] B z hz) _ hw
theorem xexec_k (P : List xM) (T : xT) (E : Nat × (Nat → Int32)) (n k d m pc : Nat) (ls st : List Value) (A : xH) (q : Option Value × xH) (h : xexec P T E n d m pc ls st A = some q) : xexec P T E (n + k) d m pc ls st A = some q := by
  induction k with
  | zero => exact h
  | succ k ih => exact xexec_1 P T E _ d m pc ls st A q ih
/-- what a run from here comes to -/
noncomputable def xD (E : Nat × (Nat → Int32)) (d m pc : Nat) (ls st : List Value) (A : xH) : xO :=
  @dite xO (∃ q n, xexec xprog xtabs E n d m pc ls st A = some q) (Classical.propDecidable _) (fun h => some (Classical.choose h)) (fun _ => none)
theorem xD_iff {E : Nat × (Nat → Int32)} {d m pc : Nat} {ls st : List Value} {A : xH} {q : Option Value × xH} : xD E d m pc ls st A = some q ↔ ∃ n, xexec xprog xtabs E n d m pc ls st A = some q := by
  unfold xD
  by_cases h : ∃ q n, xexec xprog xtabs E n d m pc ls st A = some q
  · rw [dif_pos h]
    obtain ⟨n1, h1⟩ := Classical.choose_spec h
    constructor
    · intro e
      exact ⟨n1, by rw [h1]; exact e⟩
    · rintro ⟨n2, h2⟩
      have a := xexec_k _ _ _ n1 n2 _ _ _ _ _ _ _ h1
      have b := xexec_k _ _ _ n2 n1 _ _ _ _ _ _ _ h2
      rw [Nat.add_comm] at b
      exact a.symm.trans b
  · rw [dif_neg h]
    constructor
    · intro e; cases e
    · rintro ⟨n, e⟩; exact absurd ⟨q, n, e⟩ h
/-- a call -/
noncomputable def xC (E : Nat × (Nat → Int32)) (d mid : Nat) (args : List Value) (A : xH) : xO := xinto xprog mid args A fun l => xD E d mid 0 l [] A
noncomputable def xCD (E : Nat × (Nat → Int32)) (d : Nat) : Nat → List Value → xH → xO := fun mid args B => match d with
  | 0 => none
  | e + 1 => xC E e mid args B
theorem opt_ext {α : Type} {a b : Option α} (h : ∀ q, a = some q ↔ b = some q) : a = b := by
  cases a with
  | none =>
    cases b with
    | none => rfl
    | some y => exact absurd ((h y).mpr rfl) (by intro e; cases e)
  | some x => exact ((h x).mp rfl).symm
theorem xcallN_k {P : List xM} {T : xT} {E : Nat × (Nat → Int32)} (d n k mid : Nat) (args : List Value) (B : xH) (q : Option Value × xH) (h : xcallN P T E n d mid args B = some q) : xcallN P T E (n + k) d mid args B = some q := by
  unfold xcallN at h ⊢
  cases d with
  | zero => cases h
  | succ e => exact xinto_mono (fun l z hz => xexec_k P T E n k e mid 0 l [] B z hz) _ h
theorem xC_lim {E : Nat × (Nat → Int32)} {e mid : Nat} {args : List Value} {B : xH} {w : Option Value × xH} (hw : xC E e mid args B = some w) : ∃ n, xcallN xprog xtabs E n (e + 1) mid args B = some w := by
  unfold xC at hw
  cases hM : xprog[mid]? with
  | none => simp only [xinto, hM] at hw; cases hw
  | some M =>
    simp only [xinto, hM] at hw
    by_cases hr : xrecv M args B = true ∧ (xspread args).length ≤ M.2.2.2.1
    · rw [if_pos hr] at hw
      obtain ⟨n, hn⟩ := xD_iff.mp hw
      refine ⟨n, ?_⟩
      show xinto xprog mid args B (fun l => xexec xprog xtabs E n e mid 0 l [] B) = some w
      simp only [xinto, hM]
      rw [if_pos hr]
      exact hn
    · rw [if_neg hr] at hw
      cases hw
theorem xD_on (E : Nat × (Nat → Int32)) (d m pc : Nat) (ls st : List Value) (A : xH) : xD E d m pc ls st A = xon xprog xtabs E (xCD E d) (xD E d m) m pc ls st A := by
  refine opt_ext (fun q => ?_)
  constructor
  · intro h
    obtain ⟨n, hn⟩ := xD_iff.mp h
    cases n with
    | zero => cases hn
    | succ n =>
      rw [xexec_s] at hn
      refine xon_mono (fun mid args B w hw => ?_) (fun pc ls st A w hw => xD_iff.mpr ⟨n, hw⟩) _ _ _ _ _ _ hn
      unfold xcallN at hw
      unfold xCD
      cases d with
      | zero => cases hw
      | succ e => exact xinto_mono (fun l z hz => xD_iff.mpr ⟨n, hz⟩) _ hw
  · intro h
    obtain ⟨n, hn⟩ := xon_cont (cn := fun n => xcallN xprog xtabs E n d) (Kn := fun n => xexec xprog xtabs E n d m) (fun n k mid args B w hw => xcallN_k d n k mid args B w hw) (fun n k pc ls st A w hw => xexec_k _ _ _ n k d m pc ls st A w hw) (fun mid args B w hw => by
      unfold xCD at hw
      cases d with
      | zero => cases hw
      | succ e =>
        exact xC_lim hw) (fun pc ls st A w hw => xD_iff.mp hw) _ _ _ _ _ _ h
    exact xD_iff.mpr ⟨n + 1, by rw [xexec_s]; exact hn⟩
theorem xD_step (E : Nat × (Nat → Int32)) (d : Nat) {m : Nat} {M : xM} (h : xprog[m]? = some M) (pc : Nat) (ls st : List Value) (A : xH) : xD E (d + 1) m pc ls st A = xstep xtabs E (xC E d) M (xD E (d + 1) m) pc ls st A := by
  rw [xD_on, ← xon_step h]
  rfl
theorem xbex_ok (E : Nat × (Nat → Int32)) (d : Nat) {m : Nat} {M : xM} (h : xprog[m]? = some M) (stops : List Nat) : ∀ n, xbex xtabs E (xC E d) M (xD E (d + 1) m) stops n = xD E (d + 1) m
  | 0 => rfl
  | n + 1 => by
    funext pc ls st A
    rw [xD_step E d h]
    show xstep xtabs E (xC E d) M (fun pc ls st A => if stops.elem pc = true then xD E (d + 1) m pc ls st A else xbex xtabs E (xC E d) M (xD E (d + 1) m) stops n pc ls st A) pc ls st A = _
    rw [xbex_ok E d h stops n]
    congr 1
    funext pc ls st A
    split <;> rfl
/-- a block's equation: so many steps on, until the stops -/
theorem xD_bex (E : Nat × (Nat → Int32)) (d : Nat) {m : Nat} {M : xM} (h : xprog[m]? = some M) (stops : List Nat) (n pc : Nat) (ls st : List Value) (A : xH) : xD E (d + 1) m pc ls st A = xbex xtabs E (xC E d) M (xD E (d + 1) m) stops n pc ls st A := by
  rw [xbex_ok E d h stops n]
theorem xC_eq {E : Nat × (Nat → Int32)} {d mid : Nat} {args : List Value} {A : xH} {M : xM} (hM : xprog[mid]? = some M) (h : xrecv M args A = true) (hl : (xspread args).length ≤ M.2.2.2.1) : xC E d mid args A = xD E d mid 0 (xpad M.2.2.2.1 (xspread args)) [] A := by
  unfold xC xinto
  rw [hM]
  exact if_pos ⟨h, hl⟩
