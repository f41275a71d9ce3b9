/-! ===== the class's reader of a text ===== -/
section TEXT
variable {E : Nat × (Nat → Int32)} {d : Nat} {A : xH} {bs : Nat → Nat} {n : Nat} {o : Bool}
def csR (f : Nat → Int32) (cs : List (List Nat)) : Prop := ∀ i g, cs[i]? = some g → ∀ j, j < 8 → f (i * 8 + j) = nI (g.getD j 0)
def pTail (bs : Nat → Nat) (n : Nat) (r : Nat ⊕ (PX × List (List Nat))) : Nat ⊕ (PX × List (List Nat)) := match r with
  | .inl f => .inl f
  | .inr (y, cs) => if y.1 < tkN bs n then .inl y.1 else .inr (y, cs)
/-- what the reader of a text comes to -/
def CW (bs : Nat → Nat) (n : Nat) (o : Bool) (A : xH) (fl : Nat → Int32) (ar : Nat → Nat → Int32) (r : Nat ⊕ (PX × List (List Nat))) (res : xO) : Prop := ∃ fl' tl' ar', fl' 2 = fl 2 ∧ fl' 3 = fl 3 ∧ ar' 4 = ar 4 ∧ match r with
  | .inl t => res = some (some (.int (nI (ps bs n t))), tw A fl' tl' ar')
  | .inr (y, cs) => res = some (some (.int (-1)), tw A fl' tl' ar') ∧ tpR bs n o y fl' tl' ar' ∧ okx (tkN bs n) y ∧ tl' 5 = nI cs.length ∧ cs.length ≤ 12 ∧ csR (ar' 2) cs
theorem CW.tr {fl fl1 : Nat → Int32} {ar ar1 : Nat → Nat → Int32} {r : Nat ⊕ (PX × List (List Nat))} {res : xO} (h2 : fl1 2 = fl 2) (h3 : fl1 3 = fl 3) (h4 : ar1 4 = ar 4) (g : CW bs n o A fl1 ar1 r res) : CW bs n o A fl ar r res := by
  obtain ⟨fl', tl', ar', g1, g2, g3, g4⟩ := g
  exact ⟨fl', tl', ar', g1.trans h2, g2.trans h3, g3.trans h4, g4⟩
theorem t81_0 {fl tl : Nat → Int32} {ar : Nat → Nat → Int32} {t : Nat} {w1 w3 : Value} (hA : 43 ≤ A.length) (h : tpX bs n t fl tl) : CW bs n o A fl ar (.inl t) (xD E (d + 1) 71 81 [.ref 36, w1, .int 0, w3] [] (tw A fl tl ar)) := by
  refine ⟨fl, tl, ar, rfl, rfl, rfl, ?_⟩
  rw [e71_81, i_if0, t_g36_7 hA, Option.bind_some, h.1]
theorem t33_0 {fl tl : Nat → Int32} {ar : Nat → Nat → Int32} {t : Nat} {w1 : Value} {i3 : Int32} (hA : 43 ≤ A.length) (h : tpX bs n t fl tl) : CW bs n o A fl ar (.inl t) (xD E (d + 1) 71 33 [.ref 36, w1, .int 0, .int i3] [] (tw A fl tl ar)) := by
  rw [e71_33, i_if0]; exact t81_0 hA h
theorem t33_loop (hA : 43 ≤ A.length) (hn : n ≤ 400) (hbs : ∀ j, bs j < 256) : ∀ (c : Nat) (cs : List (List Nat)) (x : PX) (fl tl : Nat → Int32) (ar : Nat → Nat → Int32) (w1 : Value), cs.length + c = 12 → 1 ≤ cs.length → okx (tkN bs n) x → tpR bs n o x fl tl ar → tl 5 = nI cs.length → csR (ar 2) cs → CW bs n o A fl ar (pTail bs n (pMore (tok bs n) o c x cs)) (xD E (d + 34) 71 33 [.ref 36, w1, .int 1, .int (nI cs.length)] [] (tw A fl tl ar))
  | c, cs, x, fl, tl, ar, w1, hc, h1, hx, h, ht, hcs => by
    have k59 : fl 6 = (59 : Int32) ↔ (tok bs n x.1).1 = 159 := h.kd hbs (c := 59) (by omega) rfl rfl
    rw [e71_33, i_if, t_g36_6 hA, Option.bind_some]
    by_cases e : (tok bs n x.1).1 = 159
    · have hx1 := hx.adv (by omega)
      obtain ⟨f1, p1, p2, p3⟩ := c_nextR (E := E) (d := d + 32) hA hn hbs h
      rw [if_pos (k59.mpr e), if_neg (show ¬ (12 : Int32) < nI cs.length from nI_nlt (a := 12) (by omega) (by omega)), p1, xV_s, Option.bind_some]
      refine CW.tr p3.1 p3.2.1 p3.2.2.2.2.2 ?_
      cases c with
      | zero =>
        have e0 : pMore (tok bs n) o 0 x cs = .inl (x.1 + 1) := if_pos e
        rw [e0, if_pos (show (12 : Int32) ≤ nI cs.length from nI_le (a := 12) (by omega) (by omega))]
        exact t33_0 hA (p2.tx hn hx1)
      | succ c =>
        rw [if_neg (show ¬ (12 : Int32) ≤ nI cs.length from nI_ge (b := 12) (by omega) (by omega))]
        obtain ⟨f2, t2, a2, q1, q2, q3, q4, q5, q6⟩ := c_clause (E := E) (d := d) hA hn hbs hx1 p2 ht (by omega)
        have hg := gc_clause (bs := bs) (n := n) (o := o) hx1.1
        have e0 : pMore (tok bs n) o (c + 1) x cs = (match pClause (tok bs n) o (adv x) with
          | .inl f => .inl f
          | .inr (y, g) => pMore (tok bs n) o c y (cs ++ [g])) := if_pos e
        rw [e0]
        refine CW.tr q1 q2 q5 ?_
        cases hr : pClause (tok bs n) o (adv x) with
        | inl t =>
          rw [hr] at q6
          rw [q6.1, xI_s, Option.bind_some]
          dsimp only
          rw [i_if0]
          exact t33_0 hA q6.2
        | inr w =>
          obtain ⟨y, l⟩ := w
          rw [hr] at q6 hg
          rw [q6.1, xI_s, Option.bind_some]
          dsimp only
          rw [i_if, nI_1, show cs.length + 1 = (cs ++ [l]).length by simp]
          refine t33_loop hA hn hbs c (cs ++ [l]) y f2 t2 a2 xJ (by simp; omega) (by simp) (hx1.le hg.1) q6.2.1 (by rw [q6.2.2.1]; simp) (fun i g hi j hj => ?_)
          by_cases ei : i = cs.length
          · subst ei
            rw [List.getElem?_append_right (Nat.le_refl _), Nat.sub_self] at hi
            cases hi
            exact q6.2.2.2 j hj
          · have hi2 : i < cs.length := by
              have := (List.getElem?_eq_some_iff.mp hi).1
              simp only [List.length_append, List.length_cons, List.length_nil] at this; omega
            rw [List.getElem?_append_left hi2] at hi
            rw [q4 _ (by omega)]; exact hcs i g hi j hj
    · have e0 : pMore (tok bs n) o c x cs = .inr (x, cs) := by cases c <;> exact if_neg e
      rw [if_neg (fun q => e (k59.mp q)), e0]
      unfold pTail
      dsimp only
      have ke : fl 6 = (-1 : Int32) ↔ n ≤ ps bs n x.1 := by rw [h.2.2.2.1]; exact kd_end hbs
      by_cases e1 : x.1 < tkN bs n
      · rw [if_pos e1]
        refine ⟨fl, tl, ar, rfl, rfl, rfl, ?_⟩
        have := tkN_lt e1
        rw [e71_81, i_if, t_g36_6 hA, Option.bind_some, if_neg (fun q => by have := ke.mp q; omega), t_g36_7 hA, Option.bind_some, h.2.2.2.2.1]
      · rw [if_neg e1]
        refine ⟨fl, tl, ar, rfl, rfl, rfl, ?_, h, hx, ht, by omega, hcs⟩
        have := ps_ge (bs := bs) (n := n) (i := x.1) (by omega)
        rw [e71_81, i_if, t_g36_6 hA, Option.bind_some, if_pos (ke.mpr (by omega))]
theorem c_readText {fl tl : Nat → Int32} {ar : Nat → Nat → Int32} (hA : 43 ≤ A.length) (hn : n ≤ 400) (hbs : ∀ j, bs j < 256) (h3 : fl 3 = nI n) (hb : ∀ j, j < n → ar 4 j = nI (bs j)) : CW bs n o A fl ar (pText (tok bs n) o (tkN bs n)) (xC E (d + 34) 71 [.ref 36, .int (if o = true then 1 else 0)] (tw A fl tl ar)) := by
  have hx0 : x01 (if o = true then 1 else 0) = true := by cases o <;> decide
  rw [k71 _ _ _ _ _ (t_k36 hA), if_pos hx0]
  obtain ⟨f1, p1, p2, p3, p4, p5, p6⟩ := c_next (E := E) (d := d + 32) (tl := upd (upd (upd tl 4 0) 5 0) 6 0) hA hn hb hbs (fl := upd (upd (upd fl 4 (if o = true then 1 else 0)) 5 0) 8 0) (a := 0) (by rw [upd_n (by omega), upd_n (by omega), upd_n (by omega)]; exact h3) upd_s (Nat.zero_le _)
  have f12 : f1 2 = fl 2 := by rw [p6 2 (by omega), upd_n (by omega), upd_n (by omega), upd_n (by omega)]
  have f13 : f1 3 = fl 3 := by rw [p6 3 (by omega), upd_n (by omega), upd_n (by omega), upd_n (by omega)]
  have hR : tpR bs n o (0, 0, [], []) f1 (upd (upd (upd tl 4 0) 5 0) 6 0) ar := ⟨by rw [f13]; exact h3, by rw [p6 4 (by omega), upd_n (by omega), upd_n (by omega)]; exact upd_s, by rw [p6 5 (by omega), upd_n (by omega)]; exact upd_s, p2, p3, p4, p5, by rw [upd_n (by omega), upd_n (by omega)]; exact upd_s, upd_s, fun j q hq => by simp at hq, fun j q hq => by simp at hq, hb⟩
  have hx : okx (tkN bs n) (0, 0, [], []) := ⟨Nat.zero_le _, Nat.zero_le _, Nat.zero_le _, Nat.zero_le _⟩
  simp (disch := omega) only [t_k36, t_k37, t_r36_0, t_r36_1, t_g36_2, t_p36_2, t_g36_3, t_p36_3, t_g36_4, t_p36_4, t_g36_5, t_p36_5, t_g36_6, t_p36_6, t_g36_7, t_p36_7, t_g36_8, t_p36_8, t_g36_9, t_p36_9, t_r37_0, t_r37_1, t_r37_2, t_r37_3, t_g37_4, t_p37_4, t_g37_5, t_p37_5, t_g37_6, t_p37_6, t_a38, t_s38, t_l38, t_a39, t_s39, t_l39, t_a40, t_s40, t_l40, t_a41, t_s41, t_l41, t_a42, t_s42, t_l42, Option.bind_some]
  rw [k91 _ _ _ _ (t_k37 hA)]
  simp (disch := omega) only [t_k36, t_k37, t_r36_0, t_r36_1, t_g36_2, t_p36_2, t_g36_3, t_p36_3, t_g36_4, t_p36_4, t_g36_5, t_p36_5, t_g36_6, t_p36_6, t_g36_7, t_p36_7, t_g36_8, t_p36_8, t_g36_9, t_p36_9, t_r37_0, t_r37_1, t_r37_2, t_r37_3, t_g37_4, t_p37_4, t_g37_5, t_p37_5, t_g37_6, t_p37_6, t_a38, t_s38, t_l38, t_a39, t_s39, t_l39, t_a40, t_s40, t_l40, t_a41, t_s41, t_l41, t_a42, t_s42, t_l42, Option.bind_some, xV_s]
  rw [p1, xV_s, Option.bind_some]
  refine CW.tr f12 f13 rfl ?_
  obtain ⟨f2, t2, a2, q1, q2, q3, q4, q5, q6⟩ := c_clause (E := E) (d := d) (cc := 0) hA hn hbs hx hR (by rw [upd_n (by omega)]; exact upd_s) (by omega)
  have hg := gc_clause (bs := bs) (n := n) (o := o) (x := (0, 0, [], [])) hx.1
  unfold pText
  refine CW.tr q1 q2 q5 ?_
  cases hr : pClause (tok bs n) o (0, 0, [], []) with
  | inl t =>
    rw [hr] at q6
    rw [q6.1, xI_s, Option.bind_some]
    exact t33_0 hA q6.2
  | inr w =>
    obtain ⟨y, l⟩ := w
    rw [hr] at q6 hg
    rw [q6.1, xI_s, Option.bind_some]
    exact t33_loop hA hn hbs 11 [l] y f2 t2 a2 (.int (if o = true then 1 else 0)) rfl (by simp) (hx.le hg.1) q6.2.1 q6.2.2.1 (fun i g hi j hj => by
      have hi0 : i = 0 := by
        have := (List.getElem?_eq_some_iff.mp hi).1
        simp at this; omega
      subst hi0
      cases hi
      exact q6.2.2.2 j hj)
end TEXT
