/-! ===== code runs: what Text.worth does; none: not said here, some none: broken, some (some st): it ends with st on the stack (top first) ===== -/
def rn (code : List (Nat × Nat)) (wd : Nat → Int) (nw to : Nat) : Nat → Nat → List Int → Option (Option (List Int))
  | 0, _, _ => none
  | fu + 1, i, st => if to ≤ i then some (some st) else if 60 ≤ st.length then none else match code[i]? with
    | none => none
    | some (op, ar) => if 12 < op then none else if op = 0 then (if ar ≤ 1000 then rn code wd nw to fu (i + 1) ((ar : Int) :: st) else none) else if op = 1 then (if ar < nw then rn code wd nw to fu (i + 1) (wd ar :: st) else none) else match st with
      | [] => none
      | v :: st' => if op = 2 then (if v = 0 ∨ v = 1 then rn code wd nw to fu (i + 1) ((1 - v) :: st') else none) else if op = 3 then (if v = 0 then (if i < ar ∧ ar ≤ 400 then rn code wd nw to fu ar (v :: st') else none) else rn code wd nw to fu (i + 1) st') else if op = 4 then (if v = 1 then (if i < ar ∧ ar ≤ 400 then rn code wd nw to fu ar (v :: st') else none) else rn code wd nw to fu (i + 1) st') else match st' with
        | [] => none
        | u :: st'' => match comb op u v with
          | none => some none
          | some z => rn code wd nw to fu (i + 1) (z :: st'')
/-- the stack's array holds st -/
def skR (k : Nat → Int32) (st : List Int) : Prop := (∀ i v, st[i]? = some v → k (st.length - 1 - i) = tI v) ∧ ∀ v ∈ st, -1000000000 ≤ v ∧ v ≤ 1000000000
/-- a Text at t: its arrays at t + 1 .. t + 4 -/
def TXT (A : xH) (t : Nat) (code : List (Nat × Nat)) (cl : List (Nat → Nat)) (ask : List Nat) : Prop := ∃ n0 n1 n2 n3 f0 f1 f2 f3, A[t]? = some (.inr (7, [.ref (t + 1), .ref (t + 2), .ref (t + 3), .ref (t + 4), .int (nI code.length), .int (nI cl.length), .int (nI ask.length)])) ∧ A[t + 1]? = some (ia n0 f0) ∧ A[t + 2]? = some (ia n1 f1) ∧ A[t + 3]? = some (ia n2 f2) ∧ A[t + 4]? = some (ia n3 f3) ∧ code.length ≤ n0 ∧ code.length ≤ n1 ∧ cl.length * 8 ≤ n2 ∧ ask.length ≤ n3 ∧ n0 ≤ 400 ∧ n1 ≤ 400 ∧ n2 ≤ 96 ∧ n3 ≤ 50 ∧ (∀ i q, code[i]? = some q → f0 i = nI q.1 ∧ f1 i = nI q.2) ∧ (∀ i g, cl[i]? = some g → ∀ j, j < 8 → f2 (i * 8 + j) = nI (g j)) ∧ (∀ i q, ask[i]? = some q → f3 i = nI q)
theorem TXT.kp {P : Nat → Prop} {A A' : xH} {t : Nat} {code : List (Nat × Nat)} {cl : List (Nat → Nat)} {ask : List Nat} (h : TXT A t code cl ask) (hs : sm P A A') (h1 : ∀ q, t ≤ q → q < t + 5 → ¬ P q) : TXT A' t code cl ask := by
  obtain ⟨n0, n1, n2, n3, f0, f1, f2, f3, a0, a1, a2, a3, a4, hr⟩ := h
  refine ⟨n0, n1, n2, n3, f0, f1, f2, f3, ?_, ?_, ?_, ?_, ?_, hr⟩
  · rw [hs.2 _ (h1 _ (by omega) (by omega))]; exact a0
  · rw [hs.2 _ (h1 _ (by omega) (by omega))]; exact a1
  · rw [hs.2 _ (h1 _ (by omega) (by omega))]; exact a2
  · rw [hs.2 _ (h1 _ (by omega) (by omega))]; exact a3
  · rw [hs.2 _ (h1 _ (by omega) (by omega))]; exact a4
section RUN
variable {E : Nat × (Nat → Int32)} {d t : Nat} {A : xH} {code : List (Nat × Nat)} {cl : List (Nat → Nat)} {ask : List Nat}
theorem c_cell (h : TXT A t code cl ask) {i j : Nat} {g : Nat → Nat} (hi : cl[i]? = some g) (hj : j < 8) : xC E (d + 1) 92 [.ref t, .int (nI i), .int (nI j)] A = some (some (.int (nI (g j))), A) := by
  obtain ⟨n0, n1, n2, n3, f0, f1, f2, f3, a0, a1, a2, a3, a4, l0, l1, l2, l3, m0, m1, m2, m3, c0, c1, c2⟩ := h
  have hl := (List.getElem?_eq_some_iff.mp hi).1
  rw [k92 _ _ _ _ _ _ (h_cls a0), show nI i * (8 : Int32) + nI j = nI (i * 8 + j) from by rw [zl, pk_mul, nI_add], if_neg (nI_pos (by omega)), h_gN a0 rfl]
  simp only [Option.bind_some, h_lA a3]
  rw [if_neg (nI_ge (by omega) (by omega)), h_aI a3 (by omega) (by omega), Option.bind_some, c1 i g hi j hj]
theorem sk_push {k : Nat → Int32} {st : List Int} {v : Int} (h : skR k st) (h1 : -1000000000 ≤ v) (h2 : v ≤ 1000000000) : skR (upd k st.length (tI v)) (v :: st) := by
  refine ⟨fun i w hw => ?_, fun w hw => ?_⟩
  · cases i with
    | zero =>
      simp only [List.getElem?_cons_zero, Option.some.injEq] at hw
      subst hw
      simp only [List.length_cons, Nat.add_sub_cancel, Nat.sub_zero]
      exact upd_s
    | succ i =>
      rw [List.getElem?_cons_succ] at hw
      have hl := (List.getElem?_eq_some_iff.mp hw).1
      rw [List.length_cons, show st.length + 1 - 1 - (i + 1) = st.length - 1 - i by omega, upd_n (by omega)]
      exact h.1 i w hw
  · rcases List.mem_cons.mp hw with rfl | hw
    · exact ⟨h1, h2⟩
    · exact h.2 w hw
theorem sk_pop {k : Nat → Int32} {st : List Int} {v : Int} (h : skR k (v :: st)) : skR k st := by
  refine ⟨fun i w hw => ?_, fun w hw => h.2 w (List.mem_cons_of_mem _ hw)⟩
  have hl := (List.getElem?_eq_some_iff.mp hw).1
  have := h.1 (i + 1) w (by rw [List.getElem?_cons_succ]; exact hw)
  rw [List.length_cons, show st.length + 1 - 1 - (i + 1) = st.length - 1 - i by omega] at this
  exact this
theorem sk_top {k : Nat → Int32} {st : List Int} {v : Int} (h : skR k (v :: st)) : k st.length = tI v := by
  have := h.1 0 v rfl
  simp only [List.length_cons, Nat.add_sub_cancel, Nat.sub_zero] at this
  exact this
theorem sk_put {k : Nat → Int32} {st : List Int} {v w : Int} (h : skR k (v :: st)) (h1 : -1000000000 ≤ w) (h2 : w ≤ 1000000000) : skR (upd k st.length (tI w)) (w :: st) := sk_push (sk_pop h) h1 h2
theorem comb_bd {op : Nat} {x y z : Int} (h : comb op x y = some z) : -1000000000 ≤ z ∧ z ≤ 1000000000 := by
  have hb : ∀ v w : Int, bd v = some w → -1000000000 ≤ w ∧ w ≤ 1000000000 := fun v w hw => by
    unfold bd at hw
    split at hw
    · cases hw; assumption
    · cases hw
  unfold comb at h
  repeat' split at h
  all_goals first
    | exact hb _ _ h
    | (cases h; done)
    | (cases h; omega)
def wRes (k : Nat → Int32) (r : Option (List Int)) (x : Int32) : Prop := match r with
  | none => x = -2000000000
  | some st => skR k st ∧ x = if st = [] then nI 1 else k 0
/-- what lies behind the code is not read -/
theorem rn_cut {F : List (Nat × Nat)} {wd : Nat → Int} {nw to : Nat} : ∀ (fu i : Nat) (st : List Int) (r : Option (List Int)), rn F wd nw to fu i st = some r → rn F wd nw (min to F.length) fu i st = some r
  | 0, i, st, r, h => by simp [rn] at h
  | fu + 1, i, st, r, h => by
    unfold rn at h ⊢
    by_cases h1 : to ≤ i
    · rw [if_pos h1] at h
      rw [if_pos (by omega)]; exact h
    rw [if_neg h1] at h
    by_cases h2 : 60 ≤ st.length
    · rw [if_pos h2] at h; cases h
    rw [if_neg h2] at h
    cases hF : F[i]? with
    | none => rw [hF] at h; cases h
    | some q =>
      have hl : i < F.length := (List.getElem?_eq_some_iff.mp hF).1
      rw [if_neg (by omega), if_neg h2]
      obtain ⟨op, a⟩ := q
      rw [hF] at h
      dsimp only at h ⊢
      by_cases o12 : 12 < op
      · rw [if_pos o12] at h; cases h
      rw [if_neg o12] at h ⊢
      by_cases o0 : op = 0
      · rw [if_pos o0] at h ⊢
        by_cases ha : a ≤ 1000
        · rw [if_pos ha] at h ⊢; exact rn_cut fu _ _ _ h
        · rw [if_neg ha] at h; cases h
      rw [if_neg o0] at h ⊢
      by_cases o1 : op = 1
      · rw [if_pos o1] at h ⊢
        by_cases ha : a < nw
        · rw [if_pos ha] at h ⊢; exact rn_cut fu _ _ _ h
        · rw [if_neg ha] at h; cases h
      rw [if_neg o1] at h ⊢
      cases st with
      | nil => cases h
      | cons v st' =>
        dsimp only at h ⊢
        by_cases o2 : op = 2
        · rw [if_pos o2] at h ⊢
          by_cases ha : v = 0 ∨ v = 1
          · rw [if_pos ha] at h ⊢; exact rn_cut fu _ _ _ h
          · rw [if_neg ha] at h; cases h
        rw [if_neg o2] at h ⊢
        by_cases o3 : op = 3
        · rw [if_pos o3] at h ⊢
          by_cases ha : v = 0
          · rw [if_pos ha] at h ⊢
            by_cases hj : i < a ∧ a ≤ 400
            · rw [if_pos hj] at h ⊢; exact rn_cut fu _ _ _ h
            · rw [if_neg hj] at h; cases h
          · rw [if_neg ha] at h ⊢; exact rn_cut fu _ _ _ h
        rw [if_neg o3] at h ⊢
        by_cases o4 : op = 4
        · rw [if_pos o4] at h ⊢
          by_cases ha : v = 1
          · rw [if_pos ha] at h ⊢
            by_cases hj : i < a ∧ a ≤ 400
            · rw [if_pos hj] at h ⊢; exact rn_cut fu _ _ _ h
            · rw [if_neg hj] at h; cases h
          · rw [if_neg ha] at h ⊢; exact rn_cut fu _ _ _ h
        rw [if_neg o4] at h ⊢
        cases st' with
        | nil => cases h
        | cons u st'' =>
          dsimp only at h ⊢
          cases hz : comb op u v with
          | none => rw [hz] at h; exact h
          | some z => rw [hz] at h; exact rn_cut fu _ _ _ h
theorem TXT.at {i : Nat} {q : Nat × Nat} (h : TXT A t code cl ask) (hi : code[i]? = some q) : gN A t 7 0 = some (t + 1) ∧ gN A t 7 1 = some (t + 2) ∧ aI 0 A (t + 1) (nI i) = some (nI q.1) ∧ aI 0 A (t + 2) (nI i) = some (nI q.2) := by
  obtain ⟨n0, n1, n2, n3, f0, f1, f2, f3, a0, a1, a2, a3, a4, l0, l1, l2, l3, m0, m1, m2, m3, c0, c1, c2⟩ := h
  have hl := (List.getElem?_eq_some_iff.mp hi).1
  refine ⟨h_gN a0 rfl, h_gN a0 rfl, ?_, ?_⟩
  · rw [h_aI a1 (by omega) (by omega), (c0 i q hi).1]
  · rw [h_aI a2 (by omega) (by omega), (c0 i q hi).2]
theorem TXT.len (h : TXT A t code cl ask) : code.length ≤ 400 := by
  obtain ⟨n0, n1, n2, n3, f0, f1, f2, f3, a0, a1, a2, a3, a4, l0, l1, l2, l3, m0, m1, m2, m3, c0, c1, c2⟩ := h
  omega
theorem tI_nat (n : Nat) : tI (n : Int) = nI n := by
  apply Int32.toInt_inj.mp
  unfold tI nI
  rw [Int32.toInt_ofInt, Int32.toInt_ofNat']
theorem ne_lit {a b : Nat} (h : a ≠ b) (ha : a < 2 ^ 31) (hb : b < 2 ^ 31) : ¬ nI a = nI b := fun w => h ((nI_eq ha hb).mp w)
theorem tI_eq {x y : Int} (h1 : -2000000000 ≤ x) (h2 : x ≤ 2000000000) (h3 : -2000000000 ≤ y) (h4 : y ≤ 2000000000) : tI x = tI y ↔ x = y := by
  rw [← Int32.toInt_inj, tI_toInt h1 h2, tI_toInt h3 h4]
theorem n_sub0 (n : Nat) : nI n - 0 = nI n := by
  have := pk_sub (Nat.zero_le n); exact this
theorem n_jmp {i a : Nat} (h : i < a) (ha : a < 2 ^ 31) : xmax (nI i) (nI a - 1) + 1 = nI a := by
  have h1 : nI a - 1 = nI (a - 1) := pk_sub (b := 1) (by omega)
  rw [h1, n_max (by omega) (by omega), nI_1]
  congr 1; omega
theorem worth_loop {wd : Nat → Int} {nw wa sa to : Nat} {fw : Nat → Int32} (hto : to ≤ 400) (hnw : nw ≤ 56) (hfw : ∀ j, j < nw → fw j = tI (wd j) ∧ -1000000000 ≤ wd j ∧ wd j ≤ 1000000000) (hne : wa ≠ sa) (hnt : ∀ q, t ≤ q → q < t + 5 → q ≠ sa) :
    ∀ (fu i : Nat) (st : List Int) (A : xH) (k : Nat → Int32) (w1 w2 w5 w9 w10 w11 : Value) (r : Option (List Int)), i ≤ 400 → st.length ≤ 60 → rn code wd nw to fu i st = some r → TXT A t code cl ask → A[wa]? = some (ia nw fw) → A[sa]? = some (ia 64 k) → skR k st →
    ∃ k' x, xD E (d + 2) 96 36 [.ref t, w1, w2, .ref wa, .ref sa, w5, .int (nI to), .int (nI st.length), .int (nI i), w9, w10, w11] [] A = some (some (.int x), A.set sa (ia 64 k')) ∧ wRes k' r x
  | 0, i, st, A, k, w1, w2, w5, w9, w10, w11, r, hi, hst, hr, hT, hW, hK, hS => by simp [rn] at hr
  | fu + 1, i, st, A, k, w1, w2, w5, w9, w10, w11, r, hi, hst, hr, hT, hW, hK, hS => by
    have hsl : sa < A.length := (List.getElem?_eq_some_iff.mp hK).1
    have go : ∀ (g : Nat → Int32), TXT (A.set sa (ia 64 g)) t code cl ask ∧ (A.set sa (ia 64 g))[wa]? = some (ia nw fw) ∧ (A.set sa (ia 64 g))[sa]? = some (ia 64 g) := fun g =>
      ⟨hT.kp (sm.set (P := fun q => q = sa) _ rfl) (fun q h1 h2 h3 => hnt q h1 h2 h3), by rw [List.getElem?_set_ne (by omega)]; exact hW, List.getElem?_set_self hsl⟩
    unfold rn at hr
    rw [e96_36]
    by_cases h1 : to ≤ i
    · rw [if_pos h1] at hr
      cases hr
      rw [if_pos (nI_le h1 (by omega))]
      cases st with
      | nil =>
        refine ⟨k, nI 1, ?_, hS, by rw [if_pos rfl]⟩
        rw [if_pos (show nI ([] : List Int).length = (0 : Int32) from rfl), set_self hK, zl]
      | cons v st' =>
        refine ⟨k, k 0, ?_, hS, by rw [if_neg (List.cons_ne_nil _ _)]⟩
        rw [if_neg (show ¬ nI (v :: st').length = (0 : Int32) from ne_lit (b := 0) (by simp) (Nat.lt_of_le_of_lt hst (by omega)) (by omega)), zl, h_aI hK (by omega) (by omega), Option.bind_some, set_self hK]
    · rw [if_neg h1] at hr
      by_cases h2 : 60 ≤ st.length
      · rw [if_pos h2] at hr; cases hr
      · rw [if_neg h2] at hr
        rw [if_neg (nI_ge (by omega) (by omega)), h_lA hK, Option.bind_some, if_neg (nI_ge (by omega) (by omega))]
        cases hc : code[i]? with
        | none => rw [hc] at hr; cases hr
        | some q =>
          obtain ⟨op, ar⟩ := q
          rw [hc] at hr
          dsimp only at hr
          obtain ⟨g0, g1, g2, g3⟩ := hT.at hc
          simp only [g0, Option.bind_some, g2, g1, g3]
          have step : ∀ (st2 : List Int) (k2 : Nat → Int32) (i2 : Nat) (u1 u2 u5 u9 u10 u11 : Value), i2 ≤ 400 → st2.length ≤ 60 → rn code wd nw to fu i2 st2 = some r → skR k2 st2 → ∃ k' x, xD E (d + 2) 96 36 [.ref t, u1, u2, .ref wa, .ref sa, u5, .int (nI to), .int (nI st2.length), .int (nI i2), u9, u10, u11] [] (A.set sa (ia 64 k2)) = some (some (.int x), A.set sa (ia 64 k')) ∧ wRes k' r x := fun st2 k2 i2 u1 u2 u5 u9 u10 u11 hi2 hst2 hr2 hS2 => by
            obtain ⟨k', x, e1, e2⟩ := worth_loop hto hnw hfw hne hnt fu i2 st2 (A.set sa (ia 64 k2)) k2 u1 u2 u5 u9 u10 u11 r hi2 hst2 hr2 (go k2).1 (go k2).2.1 (go k2).2.2 hS2
            exact ⟨k', x, by rw [e1, xtr], e2⟩
          have hle : i + 1 ≤ 400 := by omega
          by_cases o12 : 12 < op
          · rw [if_pos o12] at hr; cases hr
          rw [if_neg o12] at hr
          have hop : op < 2 ^ 31 := by omega
          by_cases o0 : op = 0
          · subst o0
            rw [if_pos rfl] at hr
            by_cases ha : ar ≤ 1000
            · rw [if_pos ha] at hr
              rw [if_pos (by rfl), h_sI0 hK (by omega) (by omega), Option.bind_some, nI_1, nI_1]
              exact step ((ar : Int) :: st) _ (i + 1) _ _ _ _ _ _ hle (by first | omega | (rw [List.length_cons]; omega)) hr (by rw [← tI_nat]; exact sk_push hS (by omega) (by omega))
            · rw [if_neg ha] at hr; cases hr
          rw [if_neg o0] at hr
          rw [if_neg (show ¬ nI op = (0 : Int32) from ne_lit (b := 0) o0 hop (by omega))]
          by_cases o1 : op = 1
          · subst o1
            rw [if_pos rfl] at hr
            by_cases ha : ar < nw
            · rw [if_pos ha] at hr
              obtain ⟨v1, v2, v3⟩ := hfw ar ha
              rw [if_pos (by rfl), if_neg (nI_pos (by omega)), h_lA hW, Option.bind_some, if_neg (nI_ge ha (by omega)), h_aI hW ha (by omega), Option.bind_some, h_sI0 hK (by omega) (by omega), Option.bind_some, nI_1, nI_1, v1]
              exact step (wd ar :: st) _ (i + 1) _ _ _ _ _ _ hle (by first | omega | (rw [List.length_cons]; omega)) hr (sk_push hS v2 v3)
            · rw [if_neg ha] at hr; cases hr
          rw [if_neg o1] at hr
          rw [if_neg (show ¬ nI op = (1 : Int32) from ne_lit (b := 1) o1 hop (by omega))]
          cases st with
          | nil => cases hr
          | cons v st' =>
            dsimp only at hr
            have hv := hS.2 v (List.mem_cons_self ..)
            have htop := sk_top hS
            have hl : (v :: st').length = st'.length + 1 := rfl
            rw [hl] at h2 ⊢
            rw [if_neg (show ¬ nI (st'.length + 1) = (0 : Int32) from ne_lit (b := 0) (by omega) (by omega) (by omega))]
            have hm1 : nI (st'.length + 1) - (1 : Int32) = nI st'.length := nI_pred _
            have hm2 : nI (st'.length + 1) + (-1 : Int32) = nI st'.length := pk_m1 _
            by_cases o2 : op = 2
            · subst o2
              rw [if_pos rfl] at hr
              by_cases ha : v = 0 ∨ v = 1
              · rw [if_pos ha] at hr
                have ht : (1 : Int32) - tI v = tI (1 - v) := by rcases ha with rfl | rfl <;> decide +kernel
                rw [if_pos (by rfl), hm1, h_aI hK (by omega) (by omega), Option.bind_some, h_sI0 hK (by omega) (by omega), Option.bind_some, nI_1, htop, ht]
                exact step ((1 - v) :: st') _ (i + 1) _ _ _ _ _ _ hle (by first | omega | (rw [List.length_cons]; omega)) hr (sk_put hS (by omega) (by omega))
              · rw [if_neg ha] at hr; cases hr
            rw [if_neg o2] at hr
            rw [if_neg (show ¬ nI op = (2 : Int32) from ne_lit (b := 2) o2 hop (by omega))]
            by_cases o3 : op = 3
            · subst o3
              rw [if_pos rfl] at hr
              rw [if_pos (by rfl), e96_169, hm1, h_aI hK (by omega) (by omega), Option.bind_some, htop, if_neg (by decide), e96_187]
              by_cases ha : v = 0
              · rw [if_pos ha] at hr
                subst ha
                by_cases hj : i < ar ∧ ar ≤ 400
                · rw [if_pos hj] at hr
                  rw [if_pos (by decide +kernel), if_neg (by decide), e96_209, if_neg (by decide), n_sub0, n_jmp hj.1 (by omega)]
                  have := step (0 :: st') k ar xJ xJ xJ xJ (.int (nI ar)) (.int 1) hj.2 (by first | omega | (rw [List.length_cons]; omega)) hr hS
                  rw [set_self hK] at this; exact this
                · rw [if_neg hj] at hr; cases hr
              · rw [if_neg ha] at hr
                rw [if_neg (fun w => ha ((tI_eq (by omega) (by omega) (by omega) (by omega)).mp (w.trans (show (0 : Int32) = tI 0 by decide +kernel)))), if_pos rfl, e96_209, if_pos rfl, hm1, nI_1]
                have := step st' k (i + 1) xJ xJ xJ xJ (.int (nI ar)) (.int 0) hle (by first | omega | (rw [List.length_cons]; omega)) hr (sk_pop hS)
                rw [set_self hK] at this; exact this
            rw [if_neg o3] at hr
            rw [if_neg (show ¬ nI op = (3 : Int32) from ne_lit (b := 3) o3 hop (by omega))]
            by_cases o4 : op = 4
            · subst o4
              rw [if_pos rfl] at hr
              rw [if_pos (by rfl), e96_169, hm1, h_aI hK (by omega) (by omega), Option.bind_some, htop, if_pos (by decide), e96_187]
              by_cases ha : v = 1
              · rw [if_pos ha] at hr
                subst ha
                by_cases hj : i < ar ∧ ar ≤ 400
                · rw [if_pos hj] at hr
                  rw [if_pos (by decide +kernel), if_neg (by decide), e96_209, if_neg (by decide), n_sub0, n_jmp hj.1 (by omega)]
                  have := step (1 :: st') k ar xJ xJ xJ xJ (.int (nI ar)) (.int 1) hj.2 (by first | omega | (rw [List.length_cons]; omega)) hr hS
                  rw [set_self hK] at this; exact this
                · rw [if_neg hj] at hr; cases hr
              · rw [if_neg ha] at hr
                rw [if_neg (fun w => ha ((tI_eq (by omega) (by omega) (by omega) (by omega)).mp (w.trans (show (1 : Int32) = tI 1 by decide +kernel)))), if_pos rfl, e96_209, if_pos rfl, hm1, nI_1]
                have := step st' k (i + 1) xJ xJ xJ xJ (.int (nI ar)) (.int 0) hle (by first | omega | (rw [List.length_cons]; omega)) hr (sk_pop hS)
                rw [set_self hK] at this; exact this
            rw [if_neg o4] at hr
            rw [if_neg (show ¬ nI op = (4 : Int32) from ne_lit (b := 4) o4 hop (by omega))]
            cases st' with
            | nil => cases hr
            | cons u st'' =>
              dsimp only at hr
              have hu := hS.2 u (by simp)
              have htu := sk_top (sk_pop hS)
              have hl2 : (u :: st'').length = st''.length + 1 := rfl
              rw [hl2] at h2 hm1 hm2 htop hl ⊢
              have hm3 : nI (st''.length + 1) - (1 : Int32) = nI st''.length := nI_pred _
              rw [if_neg (show ¬ nI (st''.length + 1 + 1) = (1 : Int32) from ne_lit (b := 1) (by omega) (by omega) (by omega)), hm2, hm3, h_aI hK (by omega) (by omega), Option.bind_some, e96_264, h_aI hK (by omega) (by omega), Option.bind_some, htu, htop, tI_l (by omega) (by omega), tI_l (by omega) (by omega), comb_ok (by omega) (by omega) (by omega) (by omega) (by omega) (by omega), xI_s, Option.bind_some]
              dsimp only
              rw [h_sI0 hK (by omega) (by omega), Option.bind_some, hm3, h_aI (go _).2.2 (by omega) (by omega), Option.bind_some, upd_s]
              cases hz : comb op u v with
              | none =>
                rw [hz] at hr
                cases hr
                exact ⟨_, _, if_pos rfl, rfl⟩
              | some z =>
                rw [hz] at hr
                have hb := comb_bd hz
                rw [if_neg (fun w => by
                  have := (tI_eq (x := z) (y := -2000000000) (by omega) (by omega) (by omega) (by omega)).mp (w.trans (show (-2000000000 : Int32) = tI (-2000000000) by decide +kernel))
                  omega), nI_1]
                exact step (z :: st'') _ (i + 1) _ _ _ _ _ _ hle (by first | omega | (rw [List.length_cons]; omega)) hr (sk_put (sk_pop hS) hb.1 hb.2)
/-- what a part of a clause comes to -/
theorem c_worth {wd : Nat → Int} {nw wa sa i p fu : Nat} {g : Nat → Nat} {fw k : Nat → Int32} {r : Option (List Int)} (hT : TXT A t code cl ask) (hi : cl[i]? = some g) (hp : p ≤ 6) (hfr : g p ≤ g (p + 1)) (hto : g (p + 1) ≤ 400) (hW : A[wa]? = some (ia nw fw)) (hK : A[sa]? = some (ia 64 k)) (hnw : nw ≤ 56) (hfw : ∀ j, j < nw → fw j = tI (wd j) ∧ -1000000000 ≤ wd j ∧ wd j ≤ 1000000000) (hne : wa ≠ sa) (hnt : ∀ q, t ≤ q → q < t + 5 → q ≠ sa) (hr : rn code wd nw (g (p + 1)) fu (g p) [] = some r) :
    ∃ k' x, xC E (d + 2) 96 [.ref t, .int (nI i), .int (nI p), .ref wa, .ref sa] A = some (some (.int x), A.set sa (ia 64 k')) ∧ wRes k' r x := by
  have hcl : xcls A t = some 7 := by
    obtain ⟨n0, n1, n2, n3, f0, f1, f2, f3, a0, ar⟩ := hT
    exact h_cls a0
  obtain ⟨k', x, h1, h2⟩ := worth_loop (E := E) (d := d) (to := min (g (p + 1)) code.length) (by omega) hnw hfw hne hnt fu (g p) [] A k (.int (nI i)) (.int (nI p)) (.int (nI (g p))) xJ xJ xJ r (by omega) (by simp) (rn_cut fu _ _ _ hr) hT hW hK ⟨fun i v hv => by simp at hv, fun v hv => by simp at hv⟩
  refine ⟨k', x, ?_, h2⟩
  have hsz : gI A t 7 4 = some (nI code.length) := by
    obtain ⟨n0, n1, n2, n3, f0, f1, f2, f3, a0, ar⟩ := hT
    exact h_gI a0 rfl
  have hcl4 := hT.len
  rw [k96 _ _ _ _ _ _ _ _ hcl, c_cell hT hi (by omega), xI_s, Option.bind_some]
  dsimp only
  rw [nI_1, c_cell hT hi (by omega), xI_s, Option.bind_some]
  dsimp only
  rw [hsz, Option.bind_some, n_min (by omega) (by omega), show xmax (nI (g p)) (0 : Int32) = nI (g p) from (n_max (b := 0) (by omega) (by omega)).trans (by rw [Nat.max_eq_left (Nat.zero_le _)])]
  exact h1
end RUN
