/-! ===== the class's readers: clauses, texts ===== -/
section CLAUSE
variable {E : Nat × (Nat → Int32)} {d : Nat} {A : xH} {fl tl : Nat → Int32} {ar : Nat → Nat → Int32} {bs : Nat → Nat} {n : Nat} {o : Bool} {x : PX} {cc : Nat}
theorem ct_sums (hn : n ≤ 400) (hbs : ∀ j, bs j < 256) : CT bs n o (pSums (tok bs n) o) (xC E (d + 29) 83 [.ref 36, .int (0 : Int32)]) := by
  have h0 := ct_part (E := E) (o := o) hn hbs 8 d (by omega)
  exact ct_sum (d := d + 26) hn hbs (gd_part hTk 8) h0
theorem ct_tests (hn : n ≤ 400) (hbs : ∀ j, bs j < 256) : CT bs n o (pTests (tok bs n) o) (xC E (d + 32) 80 [.ref 36, .int (0 : Int32)]) := by
  have h0 := ct_plain (E := E) (o := o) hn hbs 8 d (by omega)
  exact ct_test (d := d + 28) hn hbs (gd_plain hTk 8) h0
theorem gd_sums : gd (tkN bs n) (pSums (tok bs n) o) := gd_sum hTk (gd_part hTk 8)
theorem gd_tests : gd (tkN bs n) (pTests (tok bs n) o) := gd_test hTk (gd_plain hTk 8)
theorem c_setCell (hA : 43 ≤ A.length) (hc : tl 5 = nI cc) (hcc : cc ≤ 11) {j : Nat} {jj : Int32} (hjj : jj = nI j) (hj : j < 8) (v : Int32) : xC E (d + 1) 93 [.ref 37, .int jj, .int v] (tw A fl tl ar) = some (none, tw A fl tl (sar ar 2 (upd (ar 2) (cc * 8 + j) v))) := by
  rw [hjj, k93 _ _ _ _ _ _ (t_k37 hA), t_g37_5 hA, Option.bind_some, hc, show nI cc * (8 : Int32) + nI j = nI (cc * 8 + j) from by rw [zl, pk_mul, nI_add], if_neg (nI_pos (by omega)), t_r37_2 hA, Option.bind_some, t_l40 hA, Option.bind_some, if_neg (nI_ge (by omega) (by omega)), Option.bind_some, t_s40 hA (by omega), Option.bind_some]
theorem tpR.s2 (h : tpR bs n o x fl tl ar) (g : Nat → Int32) : tpR bs n o x fl tl (sar ar 2 g) := by
  obtain ⟨h1, h2, h3, h4, h5, h6, h7, h8, h9, h10, h11, h12⟩ := h
  exact ⟨h1, h2, h3, h4, h5, h6, h7, h8, h9, fun j q hq => by rw [sar_n (by omega), sar_n (by omega)]; exact h10 j q hq, fun j q hq => by rw [sar_n (by omega)]; exact h11 j q hq, fun j hj => by rw [sar_n (by omega)]; exact h12 j hj⟩
/-- the frame of a clause's readers: the clauses ahead stay -/
def tpG (cc : Nat) (fl tl : Nat → Int32) (ar : Nat → Nat → Int32) (fl' tl' : Nat → Int32) (ar' : Nat → Nat → Int32) : Prop := fl' 2 = fl 2 ∧ fl' 3 = fl 3 ∧ fl' 4 = fl 4 ∧ tl' 5 = tl 5 ∧ (∀ j, j < cc * 8 → ar' 2 j = ar 2 j) ∧ ar' 4 = ar 4
theorem tpG.rf : tpG cc fl tl ar fl tl ar := ⟨rfl, rfl, rfl, rfl, fun _ _ => rfl, rfl⟩
theorem tpG.tr {fl1 tl1 fl2 tl2 : Nat → Int32} {ar1 ar2 : Nat → Nat → Int32} (h : tpG cc fl tl ar fl1 tl1 ar1) (g : tpG cc fl1 tl1 ar1 fl2 tl2 ar2) : tpG cc fl tl ar fl2 tl2 ar2 :=
  ⟨g.1.trans h.1, g.2.1.trans h.2.1, g.2.2.1.trans h.2.2.1, g.2.2.2.1.trans h.2.2.2.1, fun j hj => (g.2.2.2.2.1 j hj).trans (h.2.2.2.2.1 j hj), g.2.2.2.2.2.trans h.2.2.2.2.2⟩
theorem tpF.g {fl1 tl1 : Nat → Int32} {ar1 : Nat → Nat → Int32} (h : tpF fl tl ar fl1 tl1 ar1) : tpG cc fl tl ar fl1 tl1 ar1 := ⟨h.1, h.2.1, h.2.2.1, h.2.2.2.1, fun j _ => by rw [h.2.2.2.2.1], h.2.2.2.2.2⟩
theorem tpG.s2 {j : Nat} (v : Int32) : tpG cc fl tl ar fl tl (sar ar 2 (upd (ar 2) (cc * 8 + j) v)) := ⟨rfl, rfl, rfl, rfl, fun q hq => by rw [sar_s, upd_n (by omega)], by rw [sar_n (by omega)]⟩
/-- what a clause's reader comes to -/
def CQ (bs : Nat → Nat) (n : Nat) (o : Bool) (cc : Nat) (A : xH) (fl tl : Nat → Int32) (ar : Nat → Nat → Int32) (r : PC) (res : xO) : Prop := ∃ fl' tl' ar', tpG cc fl tl ar fl' tl' ar' ∧ match r with
  | .inl t => res = some (some (.int 0), tw A fl' tl' ar') ∧ tpX bs n t fl' tl'
  | .inr (y, l) => res = some (some (.int 1), tw A fl' tl' ar') ∧ tpR bs n o y fl' tl' ar' ∧ ∀ j, j < 8 → ar' 2 (cc * 8 + j) = nI (l.getD j 0)
theorem CQ.tr {fl1 tl1 : Nat → Int32} {ar1 : Nat → Nat → Int32} {r : PC} {res : xO} (h : tpG cc fl tl ar fl1 tl1 ar1) (g : CQ bs n o cc A fl1 tl1 ar1 r res) : CQ bs n o cc A fl tl ar r res := by
  obtain ⟨fl', tl', ar', g1, g2⟩ := g
  exact ⟨fl', tl', ar', h.tr g1, g2⟩
theorem CQ.no {t : Nat} (h : tpX bs n t fl tl) : CQ bs n o cc A fl tl ar (.inl t) (some (some (.int 0), tw A fl tl ar)) := ⟨fl, tl, ar, tpG.rf, rfl, h⟩
theorem CQ.yes {l : List Nat} (h : tpR bs n o x fl tl ar) (hl : ∀ j, j < 8 → ar 2 (cc * 8 + j) = nI (l.getD j 0)) : CQ bs n o cc A fl tl ar (.inr (x, l)) (some (some (.int 1), tw A fl tl ar)) := ⟨fl, tl, ar, tpG.rf, rfl, h, hl⟩
/-- a sum that is a part of a clause -/
theorem c_sumPart (hA : 43 ≤ A.length) (hn : n ≤ 400) (hbs : ∀ j, bs j < 256) (hx : okx (tkN bs n) x) (h : tpR bs n o x fl tl ar) (hc : tl 5 = nI cc) (hcc : cc ≤ 11) {p : Nat} {pp : Int32} (hpp : pp = nI p) (hp : p < 7) : ∃ fl' tl' ar', tpG cc fl tl ar fl' tl' ar' ∧ match pSums (tok bs n) o x with
    | .inl t => xC E (d + 30) 79 [.ref 36, .int pp] (tw A fl tl ar) = some (some (.int 0), tw A fl' tl' ar') ∧ tpX bs n t fl' tl'
    | .inr z => xC E (d + 30) 79 [.ref 36, .int pp] (tw A fl tl ar) = some (some (.int 1), tw A fl' tl' ar') ∧ tpR bs n o z fl' tl' ar' ∧ ar' 2 = upd (upd (ar 2) (cc * 8 + p) (nI x.2.2.1.length)) (cc * 8 + (p + 1)) (nI z.2.2.1.length) ∧ okx (tkN bs n) z := by
  subst hpp
  have h8 := h.2.2.2.2.2.2.2.1
  obtain ⟨f1, t1, a1, k1, k2⟩ := ct_sums (E := E) (d := d) (o := o) hn hbs A fl tl (sar ar 2 (upd (ar 2) (cc * 8 + p) (nI x.2.2.1.length))) x hA hx (h.s2 _)
  have hg := gd_sums (bs := bs) (n := n) (o := o) x hx.1
  have hc1 : t1 5 = nI cc := by rw [k1.2.2.2.1]; exact hc
  have head : xC E (d + 30) 79 [.ref 36, .int (nI p)] (tw A fl tl ar) = (xI (xC E (d + 29) 83 [.ref 36, .int (0 : Int32)] (tw A fl tl (sar ar 2 (upd (ar 2) (cc * 8 + p) (nI x.2.2.1.length)))))).bind fun q5 => (gN q5.2 36 6 0).bind fun n6 => (gN q5.2 36 6 0).bind fun n7 => (gI q5.2 n7 7 4).bind fun x8 => (xV (xC E (d + 29) 93 [.ref n6, .int (nI p + (1 : Int32)), .int x8] q5.2)).bind fun A9 => if x01 q5.1 = true then some (some (.int q5.1), A9) else none := by
    rw [k79 _ _ _ _ _ (t_k36 hA), t_r36_0 hA, Option.bind_some, Option.bind_some, t_g37_4 hA, Option.bind_some, h8, c_setCell hA hc hcc rfl (by omega), xV_s, Option.bind_some]
  rw [head]
  cases hz : pSums (tok bs n) o x with
  | inl t =>
    rw [hz] at k2
    refine ⟨f1, t1, _, (tpG.s2 _).tr (k1.g.tr (tpG.s2 (j := p + 1) (t1 4))), ?_, k2.2⟩
    rw [k2.1, xI_s, Option.bind_some]
    dsimp only
    rw [t_r36_0 hA, Option.bind_some, Option.bind_some, t_g37_4 hA, Option.bind_some, nI_1, c_setCell hA hc1 hcc rfl (by omega), xV_s, Option.bind_some, if_pos (by decide)]
  | inr z =>
    rw [hz] at k2 hg
    refine ⟨f1, t1, _, (tpG.s2 _).tr (k1.g.tr (tpG.s2 (j := p + 1) (nI z.2.2.1.length))), ?_, k2.2.s2 _, ?_, hx.le hg.1⟩
    · rw [k2.1, xI_s, Option.bind_some]
      dsimp only
      rw [t_r36_0 hA, Option.bind_some, Option.bind_some, t_g37_4 hA, Option.bind_some, nI_1, c_setCell hA hc1 hcc rfl (by omega), xV_s, Option.bind_some, if_pos (by decide), k2.2.2.2.2.2.2.2.2.1]
    · rw [sar_s, k1.2.2.2.2.1, sar_s]
theorem cell8 {f : Nat → Int32} {l : List Nat} {o : Nat} (h0 : f (o + 0) = nI (l.getD 0 0)) (h1 : f (o + 1) = nI (l.getD 1 0)) (h2 : f (o + 2) = nI (l.getD 2 0)) (h3 : f (o + 3) = nI (l.getD 3 0)) (h4 : f (o + 4) = nI (l.getD 4 0)) (h5 : f (o + 5) = nI (l.getD 5 0)) (h6 : f (o + 6) = nI (l.getD 6 0)) (h7 : f (o + 7) = nI (l.getD 7 0)) : ∀ j, j < 8 → f (o + j) = nI (l.getD j 0) := by
  intro j hj
  rcases (show j = 0 ∨ j = 1 ∨ j = 2 ∨ j = 3 ∨ j = 4 ∨ j = 5 ∨ j = 6 ∨ j = 7 by omega) with rfl | rfl | rfl | rfl | rfl | rfl | rfl | rfl <;> assumption
theorem c_rule (hA : 43 ≤ A.length) (hn : n ≤ 400) (hbs : ∀ j, bs j < 256) (hx : okx (tkN bs n) x) (h : tpR bs n o x fl tl ar) (hc : tl 5 = nI cc) (hcc : cc ≤ 11) (hz : ∀ j, j < 8 → ar 2 (cc * 8 + j) = nI 0) : CQ bs n o cc A fl tl ar (pRule (tok bs n) o x) (xC E (d + 31) 77 [.ref 36] (tw A fl tl ar)) := by
  rw [k77 _ _ _ _ (t_k36 hA)]
  unfold pRule
  by_cases e : (tok bs n x.1).1 = 2
  · obtain ⟨f1, p1, p2, p3⟩ := c_passW1 (E := E) (d := d + 28) hA hn hbs h (show SWt 20 2 by unfold SWt; decide +kernel) e
    rw [if_pos e, p1, xI_s, Option.bind_some]
    dsimp only
    rw [i_if, t_r36_0 hA, Option.bind_some, c_setCell (j := 0) (jj := 0) hA hc hcc rfl (by omega), xV_s, Option.bind_some]
    refine CQ.tr (p3.g.tr (tpG.s2 _)) (CQ.yes (p2.s2 _) ?_)
    rw [sar_s]
    apply cell8
    · exact upd_s
    all_goals rw [upd_n (by omega)]; exact hz _ (by omega)
  · rw [if_neg e, c_passW0 hA hn hbs h (show SWt 20 2 by unfold SWt; decide +kernel) e, xI_s, Option.bind_some]
    dsimp only
    rw [i_if0, t_r36_0 hA, Option.bind_some, c_setCell (j := 0) (jj := 0) hA hc hcc rfl (by omega), xV_s, Option.bind_some]
    refine CQ.tr (tpG.s2 (j := 0) (4 : Int32)) ?_
    by_cases e2 : (tok bs n x.1).1 = 1
    · obtain ⟨f1, p1, p2, p3⟩ := c_passW1 (E := E) (d := d + 28) hA hn hbs (h.s2 (upd (ar 2) (cc * 8 + 0) (4 : Int32))) (show SWt 21 1 by unfold SWt; decide +kernel) e2
      have hx1 := hx.adv (by omega)
      obtain ⟨f2, t2, a2, s1, s2⟩ := c_sumPart (E := E) (d := d) hA hn hbs hx1 p2 hc hcc (p := 2) (pp := 2) rfl (by omega)
      rw [if_pos e2, p1, xI_s, Option.bind_some]
      dsimp only
      rw [i_if]
      refine CQ.tr (p3.g.tr s1) ?_
      cases hr : pSums (tok bs n) o (adv x) with
      | inl t =>
        rw [hr] at s2
        rw [s2.1, xI_s, Option.bind_some]
        dsimp only
        rw [i_if0]; exact CQ.no s2.2
      | inr z =>
        rw [hr] at s2
        rw [s2.1, xI_s, Option.bind_some]
        dsimp only
        rw [i_if]
        refine CQ.yes s2.2.1 ?_
        rw [s2.2.2.1, sar_s]
        apply cell8
        · rw [upd_n (by omega), upd_n (by omega)]; exact upd_s
        · rw [upd_n (by omega), upd_n (by omega), upd_n (by omega)]; exact hz _ (by omega)
        · rw [upd_n (by omega)]; exact upd_s
        · exact upd_s
        all_goals rw [upd_n (by omega), upd_n (by omega), upd_n (by omega)]; exact hz _ (by omega)
    · rw [if_neg e2, c_passW0 hA hn hbs (h.s2 _) (show SWt 21 1 by unfold SWt; decide +kernel) e2, xI_s, Option.bind_some]
      dsimp only
      rw [i_if0]; exact CQ.no (h.tx hn hx)
/-- how often -/
theorem c_times (hA : 43 ≤ A.length) (hn : n ≤ 400) (hbs : ∀ j, bs j < 256) (hx : okx (tkN bs n) x) (h : tpR bs n o x fl tl ar) (hc : tl 5 = nI cc) (hcc : cc ≤ 11) {k a b c e : Nat} (h0 : ar 2 (cc * 8 + 0) = nI k) (h2 : ar 2 (cc * 8 + 2) = nI a) (h3 : ar 2 (cc * 8 + 3) = nI b) (h4 : ar 2 (cc * 8 + 4) = nI c) (h5 : ar 2 (cc * 8 + 5) = nI e) (h6 : ar 2 (cc * 8 + 6) = nI 0) (h7 : ar 2 (cc * 8 + 7) = nI 0) : CQ bs n o cc A fl tl ar (pTimes (tok bs n) x k a b c e) (xD E (d + 31) 78 138 [.ref 36, .int 1] [] (tw A fl tl ar)) := by
  have hv := tok_v (bs := bs) (n := n) (x.1 + 1)
  rw [e78_138, t_r36_0 hA, Option.bind_some, c_setCell (j := 1) (jj := 1) hA hc hcc rfl (by omega), xV_s, Option.bind_some, i_if]
  refine CQ.tr (tpG.s2 (j := 1) (1 : Int32)) ?_
  unfold pTimes
  have hR := h.s2 (upd (ar 2) (cc * 8 + 1) (1 : Int32))
  by_cases e1 : (tok bs n x.1).1 = 25
  · obtain ⟨f1, p1, p2, p3⟩ := c_passW1 (E := E) (d := d + 28) hA hn hbs hR (show SWt 19 25 by unfold SWt; decide +kernel) e1
    have hx1 := hx.adv (by omega)
    have h9 : f1 9 = nI (tok bs n (x.1 + 1)).2 := p2.2.2.2.2.2.2.1
    have hdg : f1 6 = -3 ↔ (tok bs n (x.1 + 1)).1 = 50 := p2.dig hbs
    rw [if_pos e1, p1, xI_s, Option.bind_some]
    dsimp only
    rw [i_if, t_g36_6 hA, Option.bind_some, t_g36_9 hA, Option.bind_some, Option.bind_some, h9]
    refine CQ.tr p3.g ?_
    have bad : CQ bs n o cc A f1 tl (sar ar 2 (upd (ar 2) (cc * 8 + 1) 1)) (.inl (x.1 + 1)) (xD E (d + 31) 78 191 [.ref 36, .int 1] [.int 0] (tw A f1 tl (sar ar 2 (upd (ar 2) (cc * 8 + 1) 1)))) := by
      rw [e78_191, t_r36_0 hA, Option.bind_some, t_g36_9 hA, Option.bind_some, c_setCell (j := 1) (jj := 1) hA hc hcc rfl (by omega), xV_s, Option.bind_some, i_if0, if_pos (by decide)]
      exact CQ.tr (tpG.s2 (j := 1) _) (CQ.no (p2.tx hn hx1))
    by_cases e2 : (tok bs n (x.1 + 1)).1 = 50
    · rw [if_pos (hdg.mpr e2)]
      by_cases e3 : 1 ≤ (tok bs n (x.1 + 1)).2
      · rw [if_neg (show ¬ nI (tok bs n (x.1 + 1)).2 < (1 : Int32) from nI_nlt e3 (by omega))]
        by_cases e4 : (tok bs n (x.1 + 1)).2 ≤ 20
        · rw [if_neg (show ¬ (20 : Int32) < nI (tok bs n (x.1 + 1)).2 from nI_nlt (a := 20) e4 (by omega)), if_pos ⟨e2, e3, e4⟩, e78_191, t_r36_0 hA, Option.bind_some, t_g36_9 hA, Option.bind_some, h9, c_setCell (j := 1) (jj := 1) hA hc hcc rfl (by omega), xV_s, Option.bind_some, i_if]
          obtain ⟨f2, q1, q2, q3⟩ := c_nextR (E := E) (d := d + 29) hA hn hbs (p2.s2 (upd (sar ar 2 (upd (ar 2) (cc * 8 + 1) 1) 2) (cc * 8 + 1) (nI (tok bs n (x.1 + 1)).2)))
          rw [q1, xV_s, Option.bind_some, if_pos (by decide)]
          refine CQ.tr (tpG.s2 (j := 1) _) (CQ.tr q3.g (CQ.yes q2 ?_))
          rw [sar_s, sar_s, upd_upd]
          apply cell8
          · rw [upd_n (by omega)]; exact h0
          · exact upd_s
          all_goals rw [upd_n (by omega)]; assumption
        · rw [if_pos (show (20 : Int32) < nI (tok bs n (x.1 + 1)).2 from nI_lt (a := 20) (by omega) (by omega)), if_neg (fun q => e4 q.2.2)]; exact bad
      · rw [if_pos (show nI (tok bs n (x.1 + 1)).2 < (1 : Int32) from nI_lt (b := 1) (by omega) (by omega)), if_neg (fun q => e3 q.2.1)]; exact bad
    · rw [if_neg (fun q => e2 (hdg.mp q)), if_neg (fun q => e2 q.1)]; exact bad
  · rw [if_neg e1, c_passW0 hA hn hbs hR (show SWt 19 25 by unfold SWt; decide +kernel) e1, xI_s, Option.bind_some]
    dsimp only
    rw [i_if0, if_pos (by decide)]
    refine CQ.yes hR ?_
    rw [sar_s]
    apply cell8
    · rw [upd_n (by omega)]; exact h0
    · exact upd_s
    all_goals rw [upd_n (by omega)]; assumption
theorem c_times0 (hA : 43 ≤ A.length) (hc : tl 5 = nI cc) (hcc : cc ≤ 11) {t : Nat} (h : tpX bs n t fl tl) : CQ bs n o cc A fl tl ar (.inl t) (xD E (d + 31) 78 138 [.ref 36, .int 0] [] (tw A fl tl ar)) := by
  rw [e78_138, t_r36_0 hA, Option.bind_some, c_setCell (j := 1) (jj := 1) hA hc hcc rfl (by omega), xV_s, Option.bind_some, i_if0, if_pos (by decide)]
  exact CQ.tr (tpG.s2 (j := 1) _) (CQ.no h)
theorem c_one (hA : 43 ≤ A.length) (hn : n ≤ 400) (hbs : ∀ j, bs j < 256) (hx : okx (tkN bs n) (adv x)) (h : tpR bs n o (adv x) fl tl ar) (hc : tl 5 = nI cc) (hcc : cc ≤ 11) {k : Nat} (h0 : ar 2 (cc * 8 + 0) = nI k) (hz : ∀ j, 0 < j → j < 8 → ar 2 (cc * 8 + j) = nI 0) : CQ bs n o cc A fl tl ar (pOne (tok bs n) o x k) ((xI (xC E (d + 30) 79 [.ref 36, .int (2 : Int32)] (tw A fl tl ar))).bind fun q => xD E (d + 31) 78 138 [.ref 36, .int q.1] [] q.2) := by
  obtain ⟨f2, t2, a2, s1, s2⟩ := c_sumPart (E := E) (d := d) hA hn hbs hx h hc hcc (p := 2) (pp := 2) rfl (by omega)
  unfold pOne
  refine CQ.tr s1 ?_
  have hc2 : t2 5 = nI cc := by rw [s1.2.2.2.1]; exact hc
  cases hr : pSums (tok bs n) o (adv x) with
  | inl t =>
    rw [hr] at s2
    rw [s2.1, xI_s, Option.bind_some]
    exact c_times0 hA hc2 hcc s2.2
  | inr z =>
    rw [hr] at s2
    rw [s2.1, xI_s, Option.bind_some]
    refine c_times hA hn hbs s2.2.2.2 s2.2.1 hc2 hcc ?_ ?_ ?_ ?_ ?_ ?_ ?_ <;> rw [s2.2.2.1]
    · rw [upd_n (by omega), upd_n (by omega)]; exact h0
    · rw [upd_n (by omega)]; exact upd_s
    · exact upd_s
    all_goals rw [upd_n (by omega), upd_n (by omega)]; exact hz _ (by omega) (by omega)
theorem c_order (hA : 43 ≤ A.length) (hn : n ≤ 400) (hbs : ∀ j, bs j < 256) (hx : okx (tkN bs n) x) (h : tpR bs n o x fl tl ar) (hc : tl 5 = nI cc) (hcc : cc ≤ 11) (hz : ∀ j, j < 8 → ar 2 (cc * 8 + j) = nI 0) : CQ bs n o cc A fl tl ar (pOrder (tok bs n) o x) (xC E (d + 31) 78 [.ref 36] (tw A fl tl ar)) := by
  rw [k78 _ _ _ _ (t_k36 hA)]
  unfold pOrder
  have hz' : ∀ v : Int32, ∀ j, 0 < j → j < 8 → (sar ar 2 (upd (ar 2) (cc * 8 + 0) v)) 2 (cc * 8 + j) = nI 0 := fun v j h1 h2 => by rw [sar_s, upd_n (by omega)]; exact hz j h2
  by_cases e : (tok bs n x.1).1 = 20
  · obtain ⟨f1, p1, p2, p3⟩ := c_passW1 (E := E) (d := d + 28) hA hn hbs h (show SWt 1 20 by unfold SWt; decide +kernel) e
    have hx1 := hx.adv (by omega)
    rw [if_pos e, p1, xI_s, Option.bind_some]
    dsimp only
    rw [i_if, t_r36_0 hA, Option.bind_some, c_setCell (j := 0) (jj := 0) hA hc hcc rfl (by omega), xV_s, Option.bind_some]
    refine CQ.tr (p3.g.tr (tpG.s2 (j := 0) (0 : Int32))) ?_
    obtain ⟨f2, t2, a2, s1, s2⟩ := c_sumPart (E := E) (d := d) hA hn hbs hx1 (p2.s2 (upd (ar 2) (cc * 8 + 0) (0 : Int32))) hc hcc (p := 2) (pp := 2) rfl (by omega)
    have hc2 : t2 5 = nI cc := by rw [s1.2.2.2.1]; exact hc
    refine CQ.tr s1 ?_
    cases hr : pSums (tok bs n) o (adv x) with
    | inl t =>
      rw [hr] at s2
      rw [s2.1, xI_s, Option.bind_some]
      dsimp only
      rw [i_if0]; exact c_times0 hA hc2 hcc s2.2
    | inr y =>
      rw [hr] at s2
      rw [s2.1, xI_s, Option.bind_some]
      dsimp only
      rw [i_if]
      by_cases e2 : (tok bs n y.1).1 = 21
      · obtain ⟨f3, r1, r2, r3⟩ := c_passW1 (E := E) (d := d + 28) hA hn hbs s2.2.1 (show SWt 15 21 by unfold SWt; decide +kernel) e2
        have hy1 := s2.2.2.2.adv (by omega)
        rw [if_pos e2, r1, xI_s, Option.bind_some]
        dsimp only
        rw [i_if]
        obtain ⟨f4, t4, a4, m1, m2⟩ := c_sumPart (E := E) (d := d) hA hn hbs hy1 r2 hc2 hcc (p := 4) (pp := 4) rfl (by omega)
        have hc4 : t4 5 = nI cc := by rw [m1.2.2.2.1]; exact hc2
        refine CQ.tr (r3.g.tr m1) ?_
        cases hr2 : pSums (tok bs n) o (adv y) with
        | inl t =>
          rw [hr2] at m2
          rw [m2.1, xI_s, Option.bind_some]
          dsimp only
          rw [i_if0]; exact c_times0 hA hc4 hcc m2.2
        | inr z =>
          rw [hr2] at m2
          rw [m2.1, xI_s, Option.bind_some]
          dsimp only
          rw [i_if]
          refine c_times hA hn hbs m2.2.2.2 m2.2.1 hc4 hcc ?_ ?_ ?_ ?_ ?_ ?_ ?_ <;> rw [m2.2.2.1]
          · rw [upd_n (by omega), upd_n (by omega), s2.2.2.1, upd_n (by omega), upd_n (by omega), sar_s]; exact upd_s
          · rw [upd_n (by omega), upd_n (by omega), s2.2.2.1, upd_n (by omega)]; exact upd_s
          · rw [upd_n (by omega), upd_n (by omega), s2.2.2.1]; exact upd_s
          · rw [upd_n (by omega)]; exact upd_s
          · exact upd_s
          all_goals rw [upd_n (by omega), upd_n (by omega), s2.2.2.1, upd_n (by omega), upd_n (by omega)]; exact hz' _ _ (by omega) (by omega)
      · rw [if_neg e2, c_passW0 hA hn hbs s2.2.1 (show SWt 15 21 by unfold SWt; decide +kernel) e2, xI_s, Option.bind_some]
        dsimp only
        rw [i_if0]; exact c_times0 hA hc2 hcc (s2.2.1.tx hn s2.2.2.2)
  · rw [if_neg e, c_passW0 hA hn hbs h (show SWt 1 20 by unfold SWt; decide +kernel) e, xI_s, Option.bind_some]
    dsimp only
    rw [i_if0]
    by_cases e2 : (tok bs n x.1).1 = 22
    · obtain ⟨f1, p1, p2, p3⟩ := c_passW1 (E := E) (d := d + 28) hA hn hbs h (show SWt 16 22 by unfold SWt; decide +kernel) e2
      rw [if_pos e2, p1, xI_s, Option.bind_some]
      dsimp only
      rw [i_if, t_r36_0 hA, Option.bind_some, c_setCell (j := 0) (jj := 0) hA hc hcc rfl (by omega), xV_s, Option.bind_some]
      refine CQ.tr (p3.g.tr (tpG.s2 (j := 0) (1 : Int32))) ?_
      exact c_one hA hn hbs (hx.adv (by omega)) (p2.s2 _) hc hcc (by rw [sar_s]; exact upd_s) (hz' _)
    rw [if_neg e2, c_passW0 hA hn hbs h (show SWt 16 22 by unfold SWt; decide +kernel) e2, xI_s, Option.bind_some]
    dsimp only
    rw [i_if0]
    by_cases e3 : (tok bs n x.1).1 = 23
    · obtain ⟨f1, p1, p2, p3⟩ := c_passW1 (E := E) (d := d + 28) hA hn hbs h (show SWt 17 23 by unfold SWt; decide +kernel) e3
      rw [if_pos e3, p1, xI_s, Option.bind_some]
      dsimp only
      rw [i_if, t_r36_0 hA, Option.bind_some, c_setCell (j := 0) (jj := 0) hA hc hcc rfl (by omega), xV_s, Option.bind_some]
      refine CQ.tr (p3.g.tr (tpG.s2 (j := 0) (2 : Int32))) ?_
      exact c_one hA hn hbs (hx.adv (by omega)) (p2.s2 _) hc hcc (by rw [sar_s]; exact upd_s) (hz' _)
    rw [if_neg e3, c_passW0 hA hn hbs h (show SWt 17 23 by unfold SWt; decide +kernel) e3, xI_s, Option.bind_some]
    dsimp only
    rw [i_if0, t_r36_0 hA, Option.bind_some, c_setCell (j := 0) (jj := 0) hA hc hcc rfl (by omega), xV_s, Option.bind_some]
    refine CQ.tr (tpG.s2 (j := 0) (3 : Int32)) ?_
    by_cases e4 : (tok bs n x.1).1 = 24
    · obtain ⟨f1, p1, p2, p3⟩ := c_passW1 (E := E) (d := d + 28) hA hn hbs (h.s2 (upd (ar 2) (cc * 8 + 0) (3 : Int32))) (show SWt 18 24 by unfold SWt; decide +kernel) e4
      rw [if_pos e4, p1, xI_s, Option.bind_some]
      dsimp only
      rw [i_if]
      have hc1 := c_one (E := E) (d := d) hA hn hbs (hx.adv (by omega)) p2 hc hcc (k := 3) (by rw [sar_s]; exact upd_s) (hz' _)
      refine CQ.tr p3.g ?_
      obtain ⟨f2, t2, a2, s1, s2⟩ := c_sumPart (E := E) (d := d) hA hn hbs (hx.adv (by omega)) p2 hc hcc (p := 2) (pp := 2) rfl (by omega)
      cases hr : pSums (tok bs n) o (adv x) with
      | inl t =>
        rw [hr] at s2
        rw [s2.1, xI_s, Option.bind_some] at hc1 ⊢
        dsimp only at hc1 ⊢
        rw [i_if0]; exact hc1
      | inr z =>
        rw [hr] at s2
        rw [s2.1, xI_s, Option.bind_some] at hc1 ⊢
        dsimp only at hc1 ⊢
        rw [i_if]; exact hc1
    · rw [if_neg e4, c_passW0 hA hn hbs (h.s2 _) (show SWt 18 24 by unfold SWt; decide +kernel) e4, xI_s, Option.bind_some]
      dsimp only
      rw [i_if0]; exact c_times0 hA hc hcc (h.tx hn hx)
def gc (N : Nat) (x : PX) (r : PC) : Prop := match r with
  | .inl t => t ≤ N
  | .inr (y, _) => xle N x y ∧ x.1 < y.1
theorem gc_rule (hx : x.1 ≤ tkN bs n) : gc (tkN bs n) x (pRule (tok bs n) o x) := by
  unfold pRule
  split
  · rename_i e
    have hl := tok_lt (bs := bs) (n := n) (i := x.1) (by omega)
    exact ⟨xle_adv hl, by simp only [adv]; omega⟩
  · split
    · rename_i e
      have hl := tok_lt (bs := bs) (n := n) (i := x.1) (by omega)
      have hg := gd_sums (bs := bs) (n := n) (o := o) (adv x) (by simp only [adv]; omega)
      cases hr : pSums (tok bs n) o (adv x) with
      | inl t => rw [hr] at hg; exact hg
      | inr z => rw [hr] at hg; exact ⟨(xle_adv hl).tr hg.1, by have := hg.2; simp only [adv] at this; omega⟩
    · exact hx
theorem gc_times {w : PX} {k a b c e : Nat} (hx : x.1 ≤ tkN bs n) (hw : xle (tkN bs n) w x) (hw2 : w.1 < x.1) : gc (tkN bs n) w (pTimes (tok bs n) x k a b c e) := by
  unfold pTimes
  split
  · rename_i e1
    have hl := tok_lt (bs := bs) (n := n) (i := x.1) (by omega)
    split
    · rename_i e2
      have hl2 := tok_lt (bs := bs) (n := n) (i := x.1 + 1) (by omega)
      exact ⟨(hw.tr (xle_adv hl)).tr (xle_adv (x := adv x) (by simp only [adv]; omega)), by dsimp only; omega⟩
    · exact hl
  · exact ⟨hw, hw2⟩
theorem gc_one {k : Nat} (hl : x.1 < tkN bs n) : gc (tkN bs n) x (pOne (tok bs n) o x k) := by
  unfold pOne
  have hg := gd_sums (bs := bs) (n := n) (o := o) (adv x) (by simp only [adv]; omega)
  cases hr : pSums (tok bs n) o (adv x) with
  | inl t => rw [hr] at hg; exact hg
  | inr z =>
    rw [hr] at hg
    exact gc_times (hg.1.2.1 (by simp only [adv]; omega)) ((xle_adv hl).tr hg.1) (by have := hg.2; simp only [adv] at this; omega)
theorem gc_order (hx : x.1 ≤ tkN bs n) : gc (tkN bs n) x (pOrder (tok bs n) o x) := by
  unfold pOrder
  split
  · rename_i e
    have hl := tok_lt (bs := bs) (n := n) (i := x.1) (by omega)
    have hg := gd_sums (bs := bs) (n := n) (o := o) (adv x) (by simp only [adv]; omega)
    cases hr : pSums (tok bs n) o (adv x) with
    | inl t => rw [hr] at hg; exact hg
    | inr y =>
      rw [hr] at hg
      have hy := hg.1.2.1 (by simp only [adv]; omega)
      have hy2 := hg.2
      simp only [adv] at hy2
      dsimp only
      split
      · rename_i e2
        have hl2 := tok_lt (bs := bs) (n := n) (i := y.1) (by omega)
        have hg2 := gd_sums (bs := bs) (n := n) (o := o) (adv y) (by simp only [adv]; omega)
        cases hr2 : pSums (tok bs n) o (adv y) with
        | inl t => rw [hr2] at hg2; exact hg2
        | inr z =>
          rw [hr2] at hg2
          have hz2 := hg2.2
          simp only [adv] at hz2
          exact gc_times (hg2.1.2.1 (by simp only [adv]; omega)) ((((xle_adv hl).tr hg.1).tr (xle_adv hl2)).tr hg2.1) (by omega)
      · exact hy
  · split
    · rename_i e; exact gc_one (tok_lt (by omega))
    · split
      · rename_i e; exact gc_one (tok_lt (by omega))
      · split
        · rename_i e; exact gc_one (tok_lt (by omega))
        · exact hx
theorem gc_head (hx : x.1 ≤ tkN bs n) : gc (tkN bs n) x (if o = true then pOrder (tok bs n) o x else pRule (tok bs n) o x) := by
  split
  · exact gc_order hx
  · exact gc_rule hx
theorem gc_clause (hx : x.1 ≤ tkN bs n) : gc (tkN bs n) x (pClause (tok bs n) o x) := by
  have hg := gc_head (o := o) hx
  unfold pClause
  cases hr : (if o = true then pOrder (tok bs n) o x else pRule (tok bs n) o x) with
  | inl t => rw [hr] at hg; exact hg
  | inr w =>
    obtain ⟨y, l⟩ := w
    rw [hr] at hg
    have hy := hg.1.2.1 hx
    have hy2 := hg.2
    dsimp only
    split
    · rename_i e
      have hl := tok_lt (bs := bs) (n := n) (i := y.1) (by omega)
      have hg2 := gd_tests (bs := bs) (n := n) (o := o) (adv y) (by simp only [adv]; omega)
      cases hr2 : pTests (tok bs n) o (adv y) with
      | inl t => rw [hr2] at hg2; exact hg2
      | inr z =>
        rw [hr2] at hg2
        have hz2 := hg2.2
        simp only [adv] at hz2
        exact ⟨(hg.1.tr (xle_adv hl)).tr hg2.1, by omega⟩
    · exact hg
theorem times_len {T : Nat → Nat × Nat} {y : PX} {k a b c e : Nat} {l : List Nat} (h : pTimes T x k a b c e = .inr (y, l)) : l.length = 6 := by
  unfold pTimes at h
  split at h
  · split at h
    · cases h; rfl
    · cases h
  · cases h; rfl
theorem one_len {T : Nat → Nat × Nat} {y : PX} {k : Nat} {l : List Nat} (h : pOne T o x k = .inr (y, l)) : l.length = 6 := by
  unfold pOne at h
  split at h
  · cases h
  · exact times_len h
theorem head_len {T : Nat → Nat × Nat} {y : PX} {l : List Nat} (h : (if o = true then pOrder T o x else pRule T o x) = .inr (y, l)) : l.length = 6 := by
  split at h
  · unfold pOrder at h
    split at h
    · split at h
      · cases h
      · split at h
        · split at h
          · cases h
          · exact times_len h
        · cases h
    · split at h
      · exact one_len h
      · split at h
        · exact one_len h
        · split at h
          · exact one_len h
          · cases h
  · unfold pRule at h
    split at h
    · cases h; rfl
    · split at h
      · split at h
        · cases h
        · cases h; rfl
      · cases h
theorem clz_loop (hA : 43 ≤ A.length) (hc : tl 5 = nI cc) (hcc : cc ≤ 11) : ∀ (c i : Nat) (ar : Nat → Nat → Int32), i + c = 8 → (∀ j, j < i → ar 2 (cc * 8 + j) = nI 0) → ∃ ar', xD E (d + 2) 76 2 [.ref 36, .int (nI i)] [] (tw A fl tl ar) = xD E (d + 2) 76 2 [.ref 36, .int (nI 8)] [] (tw A fl tl ar') ∧ (∀ j, j < 8 → ar' 2 (cc * 8 + j) = nI 0) ∧ (∀ j, j < cc * 8 → ar' 2 j = ar 2 j) ∧ (∀ k, k ≠ 2 → ar' k = ar k)
  | 0, i, ar, hi, h => ⟨ar, by rw [show i = 8 by omega], fun j hj => h j (by omega), fun _ _ => rfl, fun _ _ => rfl⟩
  | c + 1, i, ar, hi, h => by
    obtain ⟨ar', k1, k2, k3, k4⟩ := clz_loop hA hc hcc c (i + 1) (sar ar 2 (upd (ar 2) (cc * 8 + i) 0)) (by omega) (fun j hj => by
      rw [sar_s]
      by_cases e : j = i
      · subst e; exact upd_s
      · rw [upd_n (by omega)]; exact h j (by omega))
    refine ⟨ar', ?_, k2, fun j hj => by rw [k3 j hj, sar_s, upd_n (by omega)], fun k hk => by rw [k4 k hk, sar_n hk]⟩
    rw [e76_2, if_neg (show ¬ (8 : Int32) ≤ nI i from nI_ge (b := 8) (by omega) (by omega)), t_r36_0 hA, Option.bind_some, c_setCell (j := i) (jj := nI i) hA hc hcc rfl (by omega), xV_s, Option.bind_some, nI_1]
    exact k1
/-- a clause -/
theorem c_clause (hA : 43 ≤ A.length) (hn : n ≤ 400) (hbs : ∀ j, bs j < 256) (hx : okx (tkN bs n) x) (h : tpR bs n o x fl tl ar) (hc : tl 5 = nI cc) (hcc : cc ≤ 11) : ∃ fl' tl' ar', fl' 2 = fl 2 ∧ fl' 3 = fl 3 ∧ fl' 4 = fl 4 ∧ (∀ j, j < cc * 8 → ar' 2 j = ar 2 j) ∧ ar' 4 = ar 4 ∧ match pClause (tok bs n) o x with
    | .inl t => xC E (d + 33) 76 [.ref 36] (tw A fl tl ar) = some (some (.int 0), tw A fl' tl' ar') ∧ tpX bs n t fl' tl'
    | .inr (y, l) => xC E (d + 33) 76 [.ref 36] (tw A fl tl ar) = some (some (.int 1), tw A fl' tl' ar') ∧ tpR bs n o y fl' tl' ar' ∧ tl' 5 = nI (cc + 1) ∧ ∀ j, j < 8 → ar' 2 (cc * 8 + j) = nI (l.getD j 0) := by
  obtain ⟨a0, z1, z2, z3, z4⟩ := clz_loop (E := E) (d := d + 31) (fl := fl) hA hc hcc 8 0 ar rfl (fun j hj => by omega)
  have h0 : tpR bs n o x fl tl a0 := by
    obtain ⟨h1, h2, h3, h4, h5, h6, h7, h8, h9, h10, h11, h12⟩ := h
    exact ⟨h1, h2, h3, h4, h5, h6, h7, h8, h9, fun j q hq => by rw [z4 0 (by omega), z4 1 (by omega)]; exact h10 j q hq, fun j q hq => by rw [z4 3 (by omega)]; exact h11 j q hq, fun j hj => by rw [z4 4 (by omega)]; exact h12 j hj⟩
  have g0 : tpG cc fl tl ar fl tl a0 := ⟨rfl, rfl, rfl, rfl, z3, z4 4 (by omega)⟩
  have hd : xC E (d + 33) 76 [.ref 36] (tw A fl tl ar) = (xI (if o = true then xC E (d + 32) 78 [.ref 36] (tw A fl tl a0) else xC E (d + 32) 77 [.ref 36] (tw A fl tl a0))).bind fun q => xD E (d + 33) 76 41 [.ref 36, .int (nI 8)] [.int q.1] q.2 := by
    rw [k76 _ _ _ _ (t_k36 hA), show xD E (d + 33) 76 2 [.ref 36, .int (0 : Int32)] [] (tw A fl tl ar) = _ from z1, e76_2, if_pos (by decide), t_g36_4 hA, Option.bind_some, h.2.1]
    cases o
    · simp only [Bool.false_eq_true, if_false, if_true]
    · simp only [if_true]; rw [i_if]
  have hq : CQ bs n o cc A fl tl a0 (if o = true then pOrder (tok bs n) o x else pRule (tok bs n) o x) (if o = true then xC E (d + 32) 78 [.ref 36] (tw A fl tl a0) else xC E (d + 32) 77 [.ref 36] (tw A fl tl a0)) := by
    cases o
    · simp only [Bool.false_eq_true, if_false]; exact c_rule (d := d + 1) hA hn hbs hx h0 hc hcc z2
    · simp only [if_true]; exact c_order (d := d + 1) hA hn hbs hx h0 hc hcc z2
  rw [hd]
  unfold pClause
  obtain ⟨f1, t1, a1, k1, k2⟩ := hq
  have g1 := g0.tr k1
  have hc1 : t1 5 = nI cc := by rw [g1.2.2.2.1]; exact hc
  cases hr : (if o = true then pOrder (tok bs n) o x else pRule (tok bs n) o x) with
  | inl t =>
    rw [hr] at k2
    refine ⟨f1, t1, a1, g1.1, g1.2.1, g1.2.2.1, g1.2.2.2.2.1, g1.2.2.2.2.2, ?_, k2.2⟩
    rw [k2.1, xI_s, Option.bind_some]
    dsimp only
    rw [e76_41, i_if0, e76_93, i_if0, if_pos (by decide)]
  | inr w =>
    obtain ⟨y, l⟩ := w
    rw [hr] at k2
    obtain ⟨k2, k3, k4⟩ := k2
    have hgh := gc_head (bs := bs) (n := n) (o := o) hx.1
    rw [hr] at hgh
    have hy : okx (tkN bs n) y := hx.le hgh.1
    rw [k2, xI_s, Option.bind_some]
    dsimp only
    rw [e76_41, i_if]
    by_cases e : (tok bs n y.1).1 = 3
    · obtain ⟨f2, p1, p2, p3⟩ := c_passW1 (E := E) (d := d + 30) hA hn hbs k3 (show SWt 22 3 by unfold SWt; decide +kernel) e
      have hy1 := hy.adv (by omega)
      have h8 : t1 4 = nI y.2.2.1.length := k3.2.2.2.2.2.2.2.1
      rw [if_pos e, p1, xI_s, Option.bind_some]
      dsimp only
      rw [i_if, t_r36_0 hA, Option.bind_some, Option.bind_some, t_g37_4 hA, Option.bind_some, h8, c_setCell (j := 6) (jj := 6) hA hc1 hcc rfl (by omega), xV_s, Option.bind_some]
      obtain ⟨f3, t3, a3, m1, m2⟩ := ct_tests (E := E) (d := d) (o := o) hn hbs A f2 t1 (sar a1 2 (upd (a1 2) (cc * 8 + 6) (nI y.2.2.1.length))) (adv y) hA hy1 (p2.s2 _)
      have g3 : tpG cc fl tl ar f3 t3 a3 := (((g1.tr p3.g).tr (tpG.s2 (j := 6) (nI y.2.2.1.length))).tr m1.g)
      have hc3 : t3 5 = nI cc := by rw [g3.2.2.2.1]; exact hc
      cases hr2 : pTests (tok bs n) o (adv y) with
      | inl t =>
        rw [hr2] at m2
        have g4 := g3.tr (tpG.s2 (j := 7) (t3 4))
        refine ⟨f3, t3, _, g4.1, g4.2.1, g4.2.2.1, g4.2.2.2.2.1, g4.2.2.2.2.2, ?_, m2.2⟩
        rw [m2.1, xI_s, Option.bind_some]
        dsimp only
        rw [t_r36_0 hA, Option.bind_some, Option.bind_some, t_g37_4 hA, Option.bind_some, c_setCell (j := 7) (jj := 7) hA hc3 hcc rfl (by omega), xV_s, Option.bind_some, e76_93, i_if0, if_pos (by decide)]
      | inr z =>
        rw [hr2] at m2
        have h9 : t3 4 = nI z.2.2.1.length := m2.2.2.2.2.2.2.2.2.1
        have g4 := g3.tr (tpG.s2 (j := 7) (nI z.2.2.1.length))
        refine ⟨f3, upd t3 5 (nI (cc + 1)), sar a3 2 (upd (a3 2) (cc * 8 + 7) (nI z.2.2.1.length)), g4.1, g4.2.1, g4.2.2.1, g4.2.2.2.2.1, g4.2.2.2.2.2, ?_, ?_, upd_s, ?_⟩
        · rw [m2.1, xI_s, Option.bind_some]
          dsimp only
          rw [t_r36_0 hA, Option.bind_some, Option.bind_some, t_g37_4 hA, Option.bind_some, h9, c_setCell (j := 7) (jj := 7) hA hc3 hcc rfl (by omega), xV_s, Option.bind_some, e76_93, i_if, t_r36_0 hA, Option.bind_some, t_g37_5 hA, Option.bind_some, hc3, nI_1, t_p37_5 hA, Option.bind_some, if_pos (by decide)]
        · obtain ⟨q1, q2, q3, q4, q5, q6, q7, q8, q9, q10, q11, q12⟩ := m2.2.s2 (upd (a3 2) (cc * 8 + 7) (nI z.2.2.1.length))
          exact ⟨q1, q2, q3, q4, q5, q6, q7, by rw [upd_n (by omega)]; exact q8, by rw [upd_n (by omega)]; exact q9, q10, q11, q12⟩
        · have ha3 : a3 2 = upd (a1 2) (cc * 8 + 6) (nI y.2.2.1.length) := by rw [m1.2.2.2.2.1, sar_s]
          have hl6 : l.length = 6 := head_len hr
          rw [sar_s, ha3]
          intro j hj
          by_cases e7 : j = 7
          · subst e7
            rw [upd_s, List.getD_eq_getElem?_getD, List.getElem?_append_right (by omega), hl6]; rfl
          · rw [upd_n (by omega)]
            by_cases e6 : j = 6
            · subst e6
              rw [upd_s, List.getD_eq_getElem?_getD, List.getElem?_append_right (by omega), hl6]; rfl
            · rw [upd_n (by omega), k4 j hj, List.getD_eq_getElem?_getD, List.getD_eq_getElem?_getD, List.getElem?_append_left (by omega)]
    · rw [if_neg e, c_passW0 hA hn hbs k3 (show SWt 22 3 by unfold SWt; decide +kernel) e, xI_s, Option.bind_some]
      dsimp only
      refine ⟨f1, upd t1 5 (nI (cc + 1)), a1, g1.1, g1.2.1, g1.2.2.1, g1.2.2.2.2.1, g1.2.2.2.2.2, ?_, ?_, upd_s, ?_⟩
      · rw [i_if0, e76_93, i_if, t_r36_0 hA, Option.bind_some, t_g37_5 hA, Option.bind_some, hc1, nI_1, t_p37_5 hA, Option.bind_some, if_pos (by decide)]
      · obtain ⟨q1, q2, q3, q4, q5, q6, q7, q8, q9, q10, q11, q12⟩ := k3
        exact ⟨q1, q2, q3, q4, q5, q6, q7, by rw [upd_n (by omega)]; exact q8, by rw [upd_n (by omega)]; exact q9, q10, q11, q12⟩
      · have hl6 : l.length = 6 := head_len hr
        intro j hj
        rw [k4 j hj, List.getD_eq_getElem?_getD, List.getD_eq_getElem?_getD]
        by_cases e6 : j < 6
        · rw [List.getElem?_append_left (by omega)]
        · rw [List.getElem?_append_right (by omega), List.getElem?_eq_none (by omega), hl6]
          rcases (show j = 6 ∨ j = 7 by omega) with rfl | rfl <;> rfl
end CLAUSE
