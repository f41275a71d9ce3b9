/-! ===== worth, where only the words that the code names need lie there ===== -/
section RUNN
variable {E : Nat × (Nat → Int32)} {d t : Nat} {A : xH} {code : List (Nat × Nat)} {cl : List (Nat → Nat)} {ask : List Nat}
theorem worth_loopN {wd : Nat → Int} {nw wa sa to : Nat} {fw : Nat → Int32} (hto : to ≤ 400) (hnw : nw ≤ 56) (hfw : ∀ (i j : Nat), code[i]? = some (1, j) → j < nw → fw j = tI (wd j) ∧ -1000000000 ≤ wd j ∧ wd j ≤ 1000000000) (hne : wa ≠ sa) (hnt : ∀ q, t ≤ q → q < t + 5 → q ≠ sa) :
    ∀ (fu i : Nat) (st : List Int) (A : xH) (k : Nat → Int32) (w1 w2 w5 w9 w10 w11 : Value) (r : Option (List Int)), i ≤ 400 → st.length ≤ 60 → rn code wd nw to fu i st = some r → TXT A t code cl ask → A[wa]? = some (ia nw fw) → A[sa]? = some (ia 64 k) → skR k st →
    ∃ k' x, xD E (d + 2) 96 36 [.ref t, w1, w2, .ref wa, .ref sa, w5, .int (nI to), .int (nI st.length), .int (nI i), w9, w10, w11] [] A = some (some (.int x), A.set sa (ia 64 k')) ∧ wRes k' r x
  | 0, i, st, A, k, w1, w2, w5, w9, w10, w11, r, hi, hst, hr, hT, hW, hK, hS => by simp [rn] at hr
  | fu + 1, i, st, A, k, w1, w2, w5, w9, w10, w11, r, hi, hst, hr, hT, hW, hK, hS => by
    have hsl : sa < A.length := (List.getElem?_eq_some_iff.mp hK).1
    have go : ∀ (g : Nat → Int32), TXT (A.set sa (ia 64 g)) t code cl ask ∧ (A.set sa (ia 64 g))[wa]? = some (ia nw fw) ∧ (A.set sa (ia 64 g))[sa]? = some (ia 64 g) := fun g =>
      ⟨hT.kp (sm.set (P := fun q => q = sa) _ rfl) (fun q h1 h2 h3 => hnt q h1 h2 h3), by rw [List.getElem?_set_ne (by omega)]; exact hW, List.getElem?_set_self hsl⟩
    unfold rn at hr
    rw [e96_36]
    by_cases h1 : to ≤ i
    · rw [if_pos h1] at hr
      cases hr
      rw [if_pos (nI_le h1 (by omega))]
      cases st with
      | nil =>
        refine ⟨k, nI 1, ?_, hS, by rw [if_pos rfl]⟩
        rw [if_pos (show nI ([] : List Int).length = (0 : Int32) from rfl), set_self hK, zl]
      | cons v st' =>
        refine ⟨k, k 0, ?_, hS, by rw [if_neg (List.cons_ne_nil _ _)]⟩
        rw [if_neg (show ¬ nI (v :: st').length = (0 : Int32) from ne_lit (b := 0) (by simp) (Nat.lt_of_le_of_lt hst (by omega)) (by omega)), zl, h_aI hK (by omega) (by omega), Option.bind_some, set_self hK]
    · rw [if_neg h1] at hr
      by_cases h2 : 60 ≤ st.length
      · rw [if_pos h2] at hr; cases hr
      · rw [if_neg h2] at hr
        rw [if_neg (nI_ge (by omega) (by omega)), h_lA hK, Option.bind_some, if_neg (nI_ge (by omega) (by omega))]
        cases hc : code[i]? with
        | none => rw [hc] at hr; cases hr
        | some q =>
          obtain ⟨op, ar⟩ := q
          rw [hc] at hr
          dsimp only at hr
          obtain ⟨g0, g1, g2, g3⟩ := hT.at hc
          simp only [g0, Option.bind_some, g2, g1, g3]
          have step : ∀ (st2 : List Int) (k2 : Nat → Int32) (i2 : Nat) (u1 u2 u5 u9 u10 u11 : Value), i2 ≤ 400 → st2.length ≤ 60 → rn code wd nw to fu i2 st2 = some r → skR k2 st2 → ∃ k' x, xD E (d + 2) 96 36 [.ref t, u1, u2, .ref wa, .ref sa, u5, .int (nI to), .int (nI st2.length), .int (nI i2), u9, u10, u11] [] (A.set sa (ia 64 k2)) = some (some (.int x), A.set sa (ia 64 k')) ∧ wRes k' r x := fun st2 k2 i2 u1 u2 u5 u9 u10 u11 hi2 hst2 hr2 hS2 => by
            obtain ⟨k', x, e1, e2⟩ := worth_loopN hto hnw hfw hne hnt fu i2 st2 (A.set sa (ia 64 k2)) k2 u1 u2 u5 u9 u10 u11 r hi2 hst2 hr2 (go k2).1 (go k2).2.1 (go k2).2.2 hS2
            exact ⟨k', x, by rw [e1, xtr], e2⟩
          have hle : i + 1 ≤ 400 := by omega
          by_cases o12 : 12 < op
          · rw [if_pos o12] at hr; cases hr
          rw [if_neg o12] at hr
          have hop : op < 2 ^ 31 := by omega
          by_cases o0 : op = 0
          · subst o0
            rw [if_pos rfl] at hr
            by_cases ha : ar ≤ 1000
            · rw [if_pos ha] at hr
              rw [if_pos (by rfl), h_sI0 hK (by omega) (by omega), Option.bind_some, nI_1, nI_1]
              exact step ((ar : Int) :: st) _ (i + 1) _ _ _ _ _ _ hle (by first | omega | (rw [List.length_cons]; omega)) hr (by rw [← tI_nat]; exact sk_push hS (by omega) (by omega))
            · rw [if_neg ha] at hr; cases hr
          rw [if_neg o0] at hr
          rw [if_neg (show ¬ nI op = (0 : Int32) from ne_lit (b := 0) o0 hop (by omega))]
          by_cases o1 : op = 1
          · subst o1
            rw [if_pos rfl] at hr
            by_cases ha : ar < nw
            · rw [if_pos ha] at hr
              obtain ⟨v1, v2, v3⟩ := hfw i ar hc ha
              rw [if_pos (by rfl), if_neg (nI_pos (by omega)), h_lA hW, Option.bind_some, if_neg (nI_ge ha (by omega)), h_aI hW ha (by omega), Option.bind_some, h_sI0 hK (by omega) (by omega), Option.bind_some, nI_1, nI_1, v1]
              exact step (wd ar :: st) _ (i + 1) _ _ _ _ _ _ hle (by first | omega | (rw [List.length_cons]; omega)) hr (sk_push hS v2 v3)
            · rw [if_neg ha] at hr; cases hr
          rw [if_neg o1] at hr
          rw [if_neg (show ¬ nI op = (1 : Int32) from ne_lit (b := 1) o1 hop (by omega))]
          cases st with
          | nil => cases hr
          | cons v st' =>
            dsimp only at hr
            have hv := hS.2 v (List.mem_cons_self ..)
            have htop := sk_top hS
            have hl : (v :: st').length = st'.length + 1 := rfl
            rw [hl] at h2 ⊢
            rw [if_neg (show ¬ nI (st'.length + 1) = (0 : Int32) from ne_lit (b := 0) (by omega) (by omega) (by omega))]
            have hm1 : nI (st'.length + 1) - (1 : Int32) = nI st'.length := nI_pred _
            have hm2 : nI (st'.length + 1) + (-1 : Int32) = nI st'.length := pk_m1 _
            by_cases o2 : op = 2
            · subst o2
              rw [if_pos rfl] at hr
              by_cases ha : v = 0 ∨ v = 1
              · rw [if_pos ha] at hr
                have ht : (1 : Int32) - tI v = tI (1 - v) := by rcases ha with rfl | rfl <;> decide +kernel
                rw [if_pos (by rfl), hm1, h_aI hK (by omega) (by omega), Option.bind_some, h_sI0 hK (by omega) (by omega), Option.bind_some, nI_1, htop, ht]
                exact step ((1 - v) :: st') _ (i + 1) _ _ _ _ _ _ hle (by first | omega | (rw [List.length_cons]; omega)) hr (sk_put hS (by omega) (by omega))
              · rw [if_neg ha] at hr; cases hr
            rw [if_neg o2] at hr
            rw [if_neg (show ¬ nI op = (2 : Int32) from ne_lit (b := 2) o2 hop (by omega))]
            by_cases o3 : op = 3
            · subst o3
              rw [if_pos rfl] at hr
              rw [if_pos (by rfl), e96_169, hm1, h_aI hK (by omega) (by omega), Option.bind_some, htop, if_neg (by decide), e96_187]
              by_cases ha : v = 0
              · rw [if_pos ha] at hr
                subst ha
                by_cases hj : i < ar ∧ ar ≤ 400
                · rw [if_pos hj] at hr
                  rw [if_pos (by decide +kernel), if_neg (by decide), e96_209, if_neg (by decide), n_sub0, n_jmp hj.1 (by omega)]
                  have := step (0 :: st') k ar xJ xJ xJ xJ (.int (nI ar)) (.int 1) hj.2 (by first | omega | (rw [List.length_cons]; omega)) hr hS
                  rw [set_self hK] at this; exact this
                · rw [if_neg hj] at hr; cases hr
              · rw [if_neg ha] at hr
                rw [if_neg (fun w => ha ((tI_eq (by omega) (by omega) (by omega) (by omega)).mp (w.trans (show (0 : Int32) = tI 0 by decide +kernel)))), if_pos rfl, e96_209, if_pos rfl, hm1, nI_1]
                have := step st' k (i + 1) xJ xJ xJ xJ (.int (nI ar)) (.int 0) hle (by first | omega | (rw [List.length_cons]; omega)) hr (sk_pop hS)
                rw [set_self hK] at this; exact this
            rw [if_neg o3] at hr
            rw [if_neg (show ¬ nI op = (3 : Int32) from ne_lit (b := 3) o3 hop (by omega))]
            by_cases o4 : op = 4
            · subst o4
              rw [if_pos rfl] at hr
              rw [if_pos (by rfl), e96_169, hm1, h_aI hK (by omega) (by omega), Option.bind_some, htop, if_pos (by decide), e96_187]
              by_cases ha : v = 1
              · rw [if_pos ha] at hr
                subst ha
                by_cases hj : i < ar ∧ ar ≤ 400
                · rw [if_pos hj] at hr
                  rw [if_pos (by decide +kernel), if_neg (by decide), e96_209, if_neg (by decide), n_sub0, n_jmp hj.1 (by omega)]
                  have := step (1 :: st') k ar xJ xJ xJ xJ (.int (nI ar)) (.int 1) hj.2 (by first | omega | (rw [List.length_cons]; omega)) hr hS
                  rw [set_self hK] at this; exact this
                · rw [if_neg hj] at hr; cases hr
              · rw [if_neg ha] at hr
                rw [if_neg (fun w => ha ((tI_eq (by omega) (by omega) (by omega) (by omega)).mp (w.trans (show (1 : Int32) = tI 1 by decide +kernel)))), if_pos rfl, e96_209, if_pos rfl, hm1, nI_1]
                have := step st' k (i + 1) xJ xJ xJ xJ (.int (nI ar)) (.int 0) hle (by first | omega | (rw [List.length_cons]; omega)) hr (sk_pop hS)
                rw [set_self hK] at this; exact this
            rw [if_neg o4] at hr
            rw [if_neg (show ¬ nI op = (4 : Int32) from ne_lit (b := 4) o4 hop (by omega))]
            cases st' with
            | nil => cases hr
            | cons u st'' =>
              dsimp only at hr
              have hu := hS.2 u (by simp)
              have htu := sk_top (sk_pop hS)
              have hl2 : (u :: st'').length = st''.length + 1 := rfl
              rw [hl2] at h2 hm1 hm2 htop hl ⊢
              have hm3 : nI (st''.length + 1) - (1 : Int32) = nI st''.length := nI_pred _
              rw [if_neg (show ¬ nI (st''.length + 1 + 1) = (1 : Int32) from ne_lit (b := 1) (by omega) (by omega) (by omega)), hm2, hm3, h_aI hK (by omega) (by omega), Option.bind_some, e96_264, h_aI hK (by omega) (by omega), Option.bind_some, htu, htop, tI_l (by omega) (by omega), tI_l (by omega) (by omega), comb_ok (by omega) (by omega) (by omega) (by omega) (by omega) (by omega), xI_s, Option.bind_some]
              dsimp only
              rw [h_sI0 hK (by omega) (by omega), Option.bind_some, hm3, h_aI (go _).2.2 (by omega) (by omega), Option.bind_some, upd_s]
              cases hz : comb op u v with
              | none =>
                rw [hz] at hr
                cases hr
                exact ⟨_, _, if_pos rfl, rfl⟩
              | some z =>
                rw [hz] at hr
                have hb := comb_bd hz
                rw [if_neg (fun w => by
                  have := (tI_eq (x := z) (y := -2000000000) (by omega) (by omega) (by omega) (by omega)).mp (w.trans (show (-2000000000 : Int32) = tI (-2000000000) by decide +kernel))
                  omega), nI_1]
                exact step (z :: st'') _ (i + 1) _ _ _ _ _ _ hle (by first | omega | (rw [List.length_cons]; omega)) hr (sk_put (sk_pop hS) hb.1 hb.2)
/-- what a part of a clause comes to -/
theorem c_worthN {wd : Nat → Int} {nw wa sa i p fu : Nat} {g : Nat → Nat} {fw k : Nat → Int32} {r : Option (List Int)} (hT : TXT A t code cl ask) (hi : cl[i]? = some g) (hp : p ≤ 6) (hfr : g p ≤ g (p + 1)) (hto : g (p + 1) ≤ 400) (hW : A[wa]? = some (ia nw fw)) (hK : A[sa]? = some (ia 64 k)) (hnw : nw ≤ 56) (hfw : ∀ (i j : Nat), code[i]? = some (1, j) → j < nw → fw j = tI (wd j) ∧ -1000000000 ≤ wd j ∧ wd j ≤ 1000000000) (hne : wa ≠ sa) (hnt : ∀ q, t ≤ q → q < t + 5 → q ≠ sa) (hr : rn code wd nw (g (p + 1)) fu (g p) [] = some r) :
    ∃ k' x, xC E (d + 2) 96 [.ref t, .int (nI i), .int (nI p), .ref wa, .ref sa] A = some (some (.int x), A.set sa (ia 64 k')) ∧ wRes k' r x := by
  have hcl : xcls A t = some 7 := by
    obtain ⟨n0, n1, n2, n3, f0, f1, f2, f3, a0, ar⟩ := hT
    exact h_cls a0
  obtain ⟨k', x, h1, h2⟩ := worth_loopN (E := E) (d := d) (to := min (g (p + 1)) code.length) (by omega) hnw hfw hne hnt fu (g p) [] A k (.int (nI i)) (.int (nI p)) (.int (nI (g p))) xJ xJ xJ r (by omega) (by simp) (rn_cut fu _ _ _ hr) hT hW hK ⟨fun i v hv => by simp at hv, fun v hv => by simp at hv⟩
  refine ⟨k', x, ?_, h2⟩
  have hsz : gI A t 7 4 = some (nI code.length) := by
    obtain ⟨n0, n1, n2, n3, f0, f1, f2, f3, a0, ar⟩ := hT
    exact h_gI a0 rfl
  have hcl4 := hT.len
  rw [k96 _ _ _ _ _ _ _ _ hcl, c_cell hT hi (by omega), xI_s, Option.bind_some]
  dsimp only
  rw [nI_1, c_cell hT hi (by omega), xI_s, Option.bind_some]
  dsimp only
  rw [hsz, Option.bind_some, n_min (by omega) (by omega), show xmax (nI (g p)) (0 : Int32) = nI (g p) from (n_max (b := 0) (by omega) (by omega)).trans (by rw [Nat.max_eq_left (Nat.zero_le _)])]
  exact h1
end RUNN
section CRULESN
variable {E : Nat × (Nat → Int32)} {d : Nat} {A : xH} {t : Nat} {code : List (Nat × Nat)} {cl : List (Nat → Nat)} {ask : List Nat} {wd : Nat → Int} {nw : Nat}
theorem c_wthN {wa sa i p : Nat} {g : Nat → Nat} {fw k : Nat → Int32} {pp : Int32} (hpp : pp = nI p) (hT : TXT A t code cl ask) (hi : cl[i]? = some g) (hp : p ≤ 6) (hto : g (p + 1) ≤ 400) (hok : wok code wd nw (g p) (g (p + 1))) (hW : A[wa]? = some (ia nw fw)) (hK : A[sa]? = some (ia 64 k)) (hnw : nw ≤ 56) (hfw : ∀ (i j : Nat), code[i]? = some (1, j) → j < nw → fw j = tI (wd j) ∧ -1000000000 ≤ wd j ∧ wd j ≤ 1000000000) (hne : wa ≠ sa) (hnt : ∀ q, t ≤ q → q < t + 5 → q ≠ sa) : ∃ k', xC E (d + 2) 96 [.ref t, .int (nI i), .int pp, .ref wa, .ref sa] A = some (some (.int (bI (wth code wd nw (g p) (g (p + 1))))), A.set sa (ia 64 k')) := by
  subst hpp
  have run : ∀ (fu : Nat) (r : Option (List Int)), g p ≤ g (p + 1) → rn code wd nw (g (p + 1)) fu (g p) [] = some r → (∀ (k' : Nat → Int32) (x : Int32), wRes k' r x → x = bI (wth code wd nw (g p) (g (p + 1)))) → ∃ k', xC E (d + 2) 96 [.ref t, .int (nI i), .int (nI p), .ref wa, .ref sa] A = some (some (.int (bI (wth code wd nw (g p) (g (p + 1))))), A.set sa (ia 64 k')) := by
    intro fu r hle hr hx
    obtain ⟨k', x, h1, h2⟩ := c_worthN (E := E) (d := d) hT hi hp hle hto hW hK hnw hfw hne hnt hr
    exact ⟨k', by rw [h1, hx k' x h2]⟩
  rcases hok with h | ⟨hab, ⟨fu, v, h1, h2, h3⟩ | ⟨fu, h1⟩⟩
  · refine run 1 (some []) (by omega) (by unfold rn; rw [if_pos (by omega)]) (fun k' x hx => ?_)
    rw [hx.2, if_pos rfl, h, wth_same]
    decide +kernel
  · refine run fu _ (by omega) h1 (fun k' x hx => ?_)
    rw [hx.2, if_neg (List.cons_ne_nil _ _), wth_some (by omega) h1]
    have := hx.1.1 0 v rfl
    simp only [List.length_cons, List.length_nil] at this
    exact this
  · refine run fu _ (by omega) h1 (fun k' x hx => ?_)
    rw [wth_none (by omega) h1]; exact hx
end CRULESN
