/-! ===== the class's readers: parts and tests ===== -/
section PARTS
variable {E : Nat × (Nat → Int32)} {d : Nat} {A : xH} {fl tl : Nat → Int32} {ar : Nat → Nat → Int32} {bs : Nat → Nat} {n : Nat} {o : Bool} {x : PX} {f : PX → PR} {br : Int32}
theorem CO.no {t : Nat} (h : tpX bs n t fl tl) : CO bs n o A fl tl ar (.inl t) (some (some (.int 0), tw A fl tl ar)) := ⟨fl, tl, ar, tpF.rf, rfl, h⟩
theorem CO.yes (h : tpR bs n o x fl tl ar) : CO bs n o A fl tl ar (.inr x) (some (some (.int 1), tw A fl tl ar)) := ⟨fl, tl, ar, tpF.rf, rfl, h⟩
theorem tpR.dig (h : tpR bs n o x fl tl ar) (hbs : ∀ j, bs j < 256) : fl 6 = -3 ↔ (tok bs n x.1).1 = 50 := by rw [h.2.2.2.1]; exact kd_dig hbs
theorem nuw_le : ∀ c p a, a ≤ 1001 → nuw bs c p a ≤ 1001
  | 0, p, a, h => h
  | c + 1, p, a, h => by
    unfold nuw
    split
    · exact nuw_le c (p + 1) _ (by omega)
    · exact h
theorem tok_v (i : Nat) : (tok bs n i).2 ≤ 1001 := by
  unfold tok tvl
  dsimp only
  split
  · omega
  · split
    · exact nuw_le _ _ _ (by omega)
    · omega
theorem c_lawWord (hA : 43 ≤ A.length) (hn : n ≤ 400) (hbs : ∀ j, bs j < 256) (h : tpR bs n o x fl tl ar) : xC E (d + 2) 87 [.ref 36] (tw A fl tl ar) = some (some (.int (oI (wdL (tok bs n x.1).1))), tw A fl tl ar) := by
  rw [k87 _ _ _ _ (t_k36 hA)]
  unfold wdL
  rw [c_isWord hA hn hbs h (show SWt 10 7 by unfold SWt; decide +kernel), xI_s, Option.bind_some]
  dsimp only
  by_cases e : (tok bs n x.1).1 = 7
  · rw [if_pos e, if_pos e, if_neg (by decide)]; rfl
  rw [if_neg e, if_neg e, if_pos rfl, c_isWord hA hn hbs h (show SWt 11 8 by unfold SWt; decide +kernel), xI_s, Option.bind_some]
  dsimp only
  by_cases e : (tok bs n x.1).1 = 8
  · rw [if_pos e, if_pos e, if_neg (by decide)]; rfl
  rw [if_neg e, if_neg e, if_pos rfl, c_isWord hA hn hbs h (show SWt 3 12 by unfold SWt; decide +kernel), xI_s, Option.bind_some]
  dsimp only
  by_cases e : (tok bs n x.1).1 = 12
  · rw [if_pos e, if_pos e, if_neg (by decide)]; rfl
  rw [if_neg e, if_neg e, if_pos rfl, c_isWord hA hn hbs h (show SWt 12 9 by unfold SWt; decide +kernel), xI_s, Option.bind_some]
  dsimp only
  by_cases e : (tok bs n x.1).1 = 9
  · rw [if_pos e, if_pos e, if_neg (by decide)]; rfl
  rw [if_neg e, if_neg e, if_pos rfl, c_isWord hA hn hbs h (show SWt 13 10 by unfold SWt; decide +kernel), xI_s, Option.bind_some]
  dsimp only
  by_cases e : (tok bs n x.1).1 = 10
  · rw [if_pos e, if_pos e, if_neg (by decide)]; rfl
  rw [if_neg e, if_neg e, if_pos rfl, c_isWord hA hn hbs h (show SWt 4 13 by unfold SWt; decide +kernel), xI_s, Option.bind_some]
  dsimp only
  by_cases e : (tok bs n x.1).1 = 13
  · rw [if_pos e, if_pos e, if_neg (by decide)]; rfl
  rw [if_neg e, if_neg e, if_pos rfl, c_isWord hA hn hbs h (show SWt 14 11 by unfold SWt; decide +kernel), xI_s, Option.bind_some]
  dsimp only
  by_cases e : (tok bs n x.1).1 = 11
  · rw [if_pos e, if_pos e, if_neg (by decide)]; rfl
  rw [if_neg e, if_neg e, if_pos rfl]; rfl
theorem c_orderWord (hA : 43 ≤ A.length) (hn : n ≤ 400) (hbs : ∀ j, bs j < 256) (h : tpR bs n o x fl tl ar) : xC E (d + 2) 88 [.ref 36] (tw A fl tl ar) = some (some (.int (oI (wdO (tok bs n x.1).1))), tw A fl tl ar) := by
  rw [k88 _ _ _ _ (t_k36 hA)]
  unfold wdO
  rw [c_isWord hA hn hbs h (show SWt 4 13 by unfold SWt; decide +kernel), xI_s, Option.bind_some]
  dsimp only
  by_cases e : (tok bs n x.1).1 = 13
  · rw [if_pos e, if_pos e, if_neg (by decide)]; rfl
  rw [if_neg e, if_neg e, if_pos rfl, c_isWord hA hn hbs h (show SWt 5 14 by unfold SWt; decide +kernel), xI_s, Option.bind_some]
  dsimp only
  by_cases e : (tok bs n x.1).1 = 14
  · rw [if_pos e, if_pos e, if_neg (by decide)]; rfl
  rw [if_neg e, if_neg e, if_pos rfl, c_isWord hA hn hbs h (show SWt 6 15 by unfold SWt; decide +kernel), xI_s, Option.bind_some]
  dsimp only
  by_cases e : (tok bs n x.1).1 = 15
  · rw [if_pos e, if_pos e, if_neg (by decide)]; rfl
  rw [if_neg e, if_neg e, if_pos rfl, c_isWord hA hn hbs h (show SWt 7 16 by unfold SWt; decide +kernel), xI_s, Option.bind_some]
  dsimp only
  by_cases e : (tok bs n x.1).1 = 16
  · rw [if_pos e, if_pos e, if_neg (by decide)]; rfl
  rw [if_neg e, if_neg e, if_pos rfl, c_isWord hA hn hbs h (show SWt 8 17 by unfold SWt; decide +kernel), xI_s, Option.bind_some]
  dsimp only
  by_cases e : (tok bs n x.1).1 = 17
  · rw [if_pos e, if_pos e, if_neg (by decide)]; rfl
  rw [if_neg e, if_neg e, if_pos rfl, c_isWord hA hn hbs h (show SWt 9 18 by unfold SWt; decide +kernel), xI_s, Option.bind_some]
  dsimp only
  by_cases e : (tok bs n x.1).1 = 18
  · rw [if_pos e, if_pos e, if_neg (by decide)]; rfl
  rw [if_neg e, if_neg e, if_pos rfl]; rfl
theorem c_asked (hA : 43 ≤ A.length) (hn : n ≤ 400) (hbs : ∀ j, bs j < 256) {y : PX} (hy : okx (tkN bs n) y) (hl : y.2.2.1.length < 400) (hk : y.2.2.2.length < 50) (h : tpR bs n o y fl tl ar) {b c : Nat} (hb : b ≤ 1000) (hc : c ≤ 1000) : CO bs n o A fl tl ar (pAsk (tok bs n) b c y) (xC E (d + 2) 86 [.ref 36, .int (nI b), .int (nI c)] (tw A fl tl ar)) := by
  have hv := tok_v (bs := bs) (n := n) y.1
  have h9 : fl 9 = nI (tok bs n y.1).2 := h.2.2.2.2.2.2.1
  rw [k86 _ _ _ _ _ _ (t_k36 hA), t_g36_6 hA, Option.bind_some]
  unfold pAsk
  by_cases e : (tok bs n y.1).1 = 50
  · rw [if_pos ((h.dig hbs).mpr e), t_g36_9 hA, Option.bind_some, h9]
    by_cases e2 : (tok bs n y.1).2 < c
    · have t6 : tl 6 = nI y.2.2.2.length := h.2.2.2.2.2.2.2.2.1
      rw [if_neg (nI_ge e2 (by omega)), if_pos ⟨e, e2⟩, t_r36_0 hA, Option.bind_some, t_g37_6 hA, Option.bind_some, t6, if_pos (show nI y.2.2.2.length < (50 : Int32) from nI_lt (b := 50) hk (by omega))]
      have hh := h
      obtain ⟨h1, h2, h3, h4, h5, h6, h7, h8, h9', h10, h11, h12⟩ := h
      have hR : tpR bs n o (y.1, y.2.1, y.2.2.1, y.2.2.2) fl tl (sar ar 3 (upd (ar 3) y.2.2.2.length (nI (b + (tok bs n y.1).2)))) := ⟨h1, h2, h3, h4, h5, h6, h7, h8, h9', fun j q hq => by rw [sar_n (by omega), sar_n (by omega)]; exact h10 j q hq, fun j q hq => by
        have := (List.getElem?_eq_some_iff.mp hq).1
        rw [sar_s, upd_n (by dsimp only at this; omega)]; exact h11 j q hq, fun j hj => by rw [sar_n (by omega)]; exact h12 j hj⟩
      obtain ⟨tl2, ar2, e1, e2', e3, e4⟩ := c_emit3 (E := E) (d := d) hA hR hl 1 (6 + y.2.2.2.length)
      obtain ⟨q1, q2, q3, q4, q5, q6, q7, q8, q9, q10, q11, q12⟩ := e2'
      have hR2 : tpR bs n o (y.1, y.2.1, y.2.2.1 ++ [(1, 6 + y.2.2.2.length)], y.2.2.2 ++ [b + (tok bs n y.1).2]) fl (upd tl2 6 (nI (y.2.2.2.length + 1))) ar2 := ⟨q1, q2, q3, q4, q5, q6, q7, by rw [upd_n (by omega)]; exact q8, by simp only [List.length_append, List.length_cons, List.length_nil]; exact upd_s, q10, fun j q hq => by
        rw [e4, sar_s]
        by_cases e : j = y.2.2.2.length
        · subst e
          rw [List.getElem?_append_right (Nat.le_refl _), Nat.sub_self] at hq
          cases hq
          exact upd_s
        · have hj : j < y.2.2.2.length := by
            have := (List.getElem?_eq_some_iff.mp hq).1
            simp only [List.length_append, List.length_cons, List.length_nil] at this; omega
          rw [List.getElem?_append_left hj] at hq
          rw [upd_n e]; exact h11 j q hq, q12⟩
      obtain ⟨fl3, n1, n2, n3⟩ := c_nextR (E := E) (d := d) hA hn hbs hR2
      refine ⟨fl3, _, _, ?_, ?_, n2⟩
      · refine tpF.tr ?_ n3
        obtain ⟨z1, z2, z3, z4, z5, z6⟩ := e3
        exact ⟨rfl, rfl, rfl, by rw [upd_n (by omega)]; exact z4, by rw [z5, sar_n (by omega)], by rw [z6, sar_n (by omega)]⟩
      · have q9' : tl2 6 = nI y.2.2.2.length := q9
        simp (disch := omega) only [t_k36, t_k37, t_r36_0, t_r36_1, t_g36_2, t_p36_2, t_g36_3, t_p36_3, t_g36_4, t_p36_4, t_g36_5, t_p36_5, t_g36_6, t_p36_6, t_g36_7, t_p36_7, t_g36_8, t_p36_8, t_g36_9, t_p36_9, t_r37_0, t_r37_1, t_r37_2, t_r37_3, t_g37_4, t_p37_4, t_g37_5, t_p37_5, t_g37_6, t_p37_6, t_a38, t_s38, t_l38, t_a39, t_s39, t_l39, t_a40, t_s40, t_l40, t_a41, t_s41, t_l41, t_a42, t_s42, t_l42, Option.bind_some, h9', h9, nI_add, zl, e1, xV_s, q9']
        rw [n1, xV_s, Option.bind_some]
    · rw [if_pos (nI_le (by omega) (by omega)), if_neg (fun q => e2 q.2)]
      exact CO.no (h.tx hn hy)
  · rw [if_neg (fun q => e ((h.dig hbs).mp q)), if_neg (fun q => e q.1)]
    exact CO.no (h.tx hn hy)
/-- a part that is no bracket -/
theorem c_leaf (hA : 43 ≤ A.length) (hn : n ≤ 400) (hbs : ∀ j, bs j < 256) (hx : okx (tkN bs n) x) (h : tpR bs n o x fl tl ar) (ht : ¬ (tok bs n x.1).1 = 191) : CO bs n o A fl tl ar (pLeaf (tok bs n) o x) (xC E (d + 3) 85 [.ref 36, .int br] (tw A fl tl ar)) := by
  have hv := tok_v (bs := bs) (n := n) x.1
  have hN := tkN_le (bs := bs) (n := n)
  have hX := h.tx hn hx
  have k91 := h.kd hbs (c := 91) (by omega) rfl rfl
  have h9 : fl 9 = nI (tok bs n x.1).2 := h.2.2.2.2.2.2.1
  have h5 := h.2.2.1
  have h4 := h.2.1
  have hp5 := hx.2.2.1
  have hlt : ∀ {w : Nat}, (tok bs n x.1).1 = w → w ≠ 0 → x.1 < tkN bs n := fun e e2 => tok_lt (by omega)
  rw [k85 _ _ _ _ _ (t_k36 hA)]
  simp (disch := omega) only [t_g36_6, t_g36_5, t_p36_5, t_g36_9, Option.bind_some, zl, h5, nI_add, nI_eq]
  rw [if_neg (fun q => ht (k91.mp q))]
  unfold pLeaf
  by_cases e0 : x.2.1 = 50
  · rw [if_pos e0, if_pos e0]; exact CO.no hX
  rw [if_neg e0, if_neg e0]
  have hR : tpR bs n o (x.1, x.2.1 + 1, x.2.2) (upd fl 5 (nI (x.2.1 + 1))) tl ar := by
    obtain ⟨a1, a2, a3, a4, a5, a6, a7, a8⟩ := h
    exact ⟨by rw [upd_n (by omega)]; exact a1, by rw [upd_n (by omega)]; exact a2, upd_s, by rw [upd_n (by omega)]; exact a4, by rw [upd_n (by omega)]; exact a5, by rw [upd_n (by omega)]; exact a6, by rw [upd_n (by omega)]; exact a7, a8⟩
  have hF : tpF fl tl ar (upd fl 5 (nI (x.2.1 + 1))) tl ar := ⟨by rw [upd_n (by omega)], by rw [upd_n (by omega)], by rw [upd_n (by omega)], rfl, rfl, rfl⟩
  have hX1 : tpX bs n x.1 (upd fl 5 (nI (x.2.1 + 1))) tl := ⟨by rw [upd_n (by omega)]; exact hX.1, hX.2⟩
  have g6 : upd fl 5 (nI (x.2.1 + 1)) 6 = fl 6 := upd_n (by omega)
  have g9 : upd fl 5 (nI (x.2.1 + 1)) 9 = nI (tok bs n x.1).2 := (upd_n (by omega)).trans h9
  have g4 : upd fl 5 (nI (x.2.1 + 1)) 4 = (if o = true then 1 else 0) := (upd_n (by omega)).trans h4
  have hx1 : okx (tkN bs n) (x.1, x.2.1 + 1, x.2.2) := ⟨hx.1, hx.2.1, by dsimp only; omega, by have := hx.2.2.2; dsimp only; omega⟩
  refine CO.tr hF ?_
  generalize upd fl 5 (nI (x.2.1 + 1)) = f1 at hR hX1 g6 g9 g4 ⊢
  rw [g6]
  -- an emitted word
  have word : ∀ w : Nat, w ≤ 100 → x.1 < tkN bs n → CO bs n o A f1 tl ar (.inr (x.1 + 1, x.2.1 + 1, x.2.2.1 ++ [(1, w)], x.2.2.2)) ((xV (xC E (d + 2) 94 [.ref 37, .int (nI 1), .int (nI w)] (tw A f1 tl ar))).bind fun A2 => (xV (xC E (d + 2) 72 [.ref 36] A2)).bind fun A3 => some (some (.int (nI 1)), A3)) := by
    intro w hw hl
    obtain ⟨tl2, ar2, e1, e2, e3⟩ := c_emit (E := E) (d := d + 1) hA hR (show x.2.2.1.length < 400 by have := hx.2.1; omega) 1 w
    obtain ⟨fl3, n1, n2, n3⟩ := c_nextR (E := E) (d := d + 1) hA hn hbs e2
    refine ⟨fl3, tl2, ar2, e3.tr n3, ?_, n2⟩
    rw [e1, xV_s, Option.bind_some, n1, xV_s, Option.bind_some]; rfl
  have fin : (if o = true then wdO (tok bs n x.1).1 else wdL (tok bs n x.1).1) = none ∨ ((tok bs n x.1).1 ≠ 19 ∧ (tok bs n x.1).1 ≠ 12) ∨ o = false → CO bs n o A f1 tl ar (match (if o = true then wdO (tok bs n x.1).1 else wdL (tok bs n x.1).1) with
      | none => .inl x.1
      | some w => .inr (x.1 + 1, x.2.1 + 1, x.2.2.1 ++ [(1, w)], x.2.2.2)) (xD E (d + 3) 85 176 [.ref 36, xJ, xJ] [.int (oI (if o = true then wdO (tok bs n x.1).1 else wdL (tok bs n x.1).1))] (tw A f1 tl ar)) := by
    intro _
    rw [e85_176]
    cases hw : (if o = true then wdO (tok bs n x.1).1 else wdL (tok bs n x.1).1) with
    | none => rw [oI_n, if_pos rfl]; exact CO.no hX1
    | some w =>
      have hw100 : w ≤ 100 := by
        cases o <;> simp only [wdO, wdL, if_true, if_false, Bool.false_eq_true] at hw <;> (repeat' split at hw) <;> first | (cases hw; omega) | cases hw
      have hl : x.1 < tkN bs n := by
        refine tok_lt (fun q => ?_)
        rw [q] at hw
        cases o <;> simp [wdO, wdL] at hw
      rw [oI_s, if_neg (n_m1ne (by omega)), t_r36_0 hA, Option.bind_some]
      exact word w hw100 hl
  have rest : (¬ ((tok bs n x.1).1 = 50 ∧ (tok bs n x.1).2 ≤ 1000)) → CO bs n o A f1 tl ar (if o = true ∧ (tok bs n x.1).1 = 19 then pAsk (tok bs n) 0 1000 (x.1 + 1, x.2.1 + 1, x.2.2) else if o = true ∧ (tok bs n x.1).1 = 12 then pAsk (tok bs n) 1000 24 (x.1 + 1, x.2.1 + 1, x.2.2) else match (if o = true then wdO (tok bs n x.1).1 else wdL (tok bs n x.1).1) with
      | none => .inl x.1
      | some w => .inr (x.1 + 1, x.2.1 + 1, x.2.2.1 ++ [(1, w)], x.2.2.2)) (xD E (d + 3) 85 107 [.ref 36, .int br, xJ] [] (tw A f1 tl ar)) := by
    intro _
    have n10 : ¬ (1 : Int32) = 0 := by decide
    have z00 : (0 : Int32) = 0 := rfl
    rw [e85_107, t_g36_4 hA, Option.bind_some]
    cases o with
    | false =>
      have g4' : f1 4 = 0 := g4
      simp only [Bool.false_eq_true, false_and, if_false] at fin ⊢
      rw [g4', if_pos z00, e85_132, t_g36_4 hA, Option.bind_some, g4', if_pos z00, Option.bind_some, if_pos z00, c_lawWord hA hn hbs hR, xI_s, Option.bind_some]
      exact fin (Or.inr (Or.inr trivial))
    | true =>
      have g4' : f1 4 = 1 := g4
      simp only [true_and, if_true] at fin ⊢
      rw [g4', if_neg n10]
      have ask : ∀ (w : Nat) (k : UInt32) (b c : Nat), SWt k w → (tok bs n x.1).1 = w → w ≠ 0 → b ≤ 1000 → c ≤ 1000 → ∃ f2, xC E (d + 2) 74 [.ref 36, .float k] (tw A f1 tl ar) = some (some (.int 1), tw A f2 tl ar) ∧ CO bs n true A f1 tl ar (pAsk (tok bs n) b c (x.1 + 1, x.2.1 + 1, x.2.2)) (xC E (d + 2) 86 [.ref 36, .int (nI b), .int (nI c)] (tw A f2 tl ar)) := by
        intro w k b c hk hw h0 hb hc
        obtain ⟨f2, k1, k2, k3⟩ := c_passW1 (E := E) (d := d) hA hn hbs hR hk hw
        have hl := hlt hw h0
        refine ⟨f2, k1, CO.tr k3 (c_asked (y := (x.1 + 1, x.2.1 + 1, x.2.2)) hA hn hbs ⟨by dsimp only; omega, by have := hx.2.1; dsimp only; omega, hx1.2.2.1, hx1.2.2.2⟩ (by have := hx.2.1; dsimp only; omega) (by have := hx.2.2.2; dsimp only; omega) k2 hb hc)⟩
      have out : ∀ {r : PR} {H : xH} {y : Int32}, CO bs n true A f1 tl ar r (some (some (.int y), H)) → CO bs n true A f1 tl ar r (if x01 y = true then some (some (.int y), H) else none) := by
        intro r H y hc
        obtain ⟨a1, a2, a3, a4, a5⟩ := hc
        refine ⟨a1, a2, a3, a4, ?_⟩
        cases r with
        | inl t =>
          obtain ⟨b1, b2⟩ := a5
          have := congrArg (fun w : xO => w.map (·.1)) b1
          simp only [Option.map_some, Option.some.injEq, Value.int.injEq] at this
          exact ⟨by rw [if_pos (by rw [this]; decide)]; exact b1, b2⟩
        | inr t =>
          obtain ⟨b1, b2⟩ := a5
          have := congrArg (fun w : xO => w.map (·.1)) b1
          simp only [Option.map_some, Option.some.injEq, Value.int.injEq] at this
          exact ⟨by rw [if_pos (by rw [this]; decide)]; exact b1, b2⟩
      have outx : ∀ {r : PR} {X : xO}, CO bs n true A f1 tl ar r X → CO bs n true A f1 tl ar r ((xI X).bind fun q3 => if x01 q3.1 = true then some (some (.int q3.1), q3.2) else none) := by
        intro r X hc
        have hc2 := hc
        obtain ⟨a1, a2, a3, a4, a5⟩ := hc
        cases r with
        | inl t =>
          have b1 := a5.1
          rw [b1] at hc2 ⊢
          rw [xI_s, Option.bind_some]; exact out hc2
        | inr t =>
          have b1 := a5.1
          rw [b1] at hc2 ⊢
          rw [xI_s, Option.bind_some]; exact out hc2
      by_cases e1 : (tok bs n x.1).1 = 19
      · rw [if_pos e1]
        obtain ⟨f2, k1, k2⟩ := ask 19 2 0 1000 (show SWt 2 19 by unfold SWt; decide +kernel) e1 (by omega) (by omega) (by omega)
        rw [k1, xI_s, Option.bind_some]
        dsimp only
        rw [if_neg n10]
        exact outx k2
      · rw [if_neg e1, c_passW0 hA hn hbs hR (show SWt 2 19 by unfold SWt; decide +kernel) e1, xI_s, Option.bind_some]
        dsimp only
        rw [if_pos z00, e85_132, t_g36_4 hA, Option.bind_some, g4', if_neg n10]
        by_cases e2 : (tok bs n x.1).1 = 12
        · rw [if_pos e2]
          obtain ⟨f2, k1, k2⟩ := ask 12 3 1000 24 (show SWt 3 12 by unfold SWt; decide +kernel) e2 (by omega) (by omega) (by omega)
          rw [k1, xI_s, Option.bind_some]
          dsimp only
          rw [if_neg n10]
          exact outx k2
        · rw [if_neg e2, c_passW0 hA hn hbs hR (show SWt 3 12 by unfold SWt; decide +kernel) e2, xI_s, Option.bind_some]
          dsimp only
          rw [if_pos z00, t_g36_4 hA, Option.bind_some, g4', if_neg n10, c_orderWord hA hn hbs hR, xI_s, Option.bind_some]
          exact fin (Or.inr (Or.inl ⟨e1, e2⟩))
  have hdg : fl 6 = -nI 3 ↔ (tok bs n x.1).1 = 50 := h.dig hbs
  by_cases e1 : (tok bs n x.1).1 = 50
  · rw [if_pos (hdg.mpr e1), g9]
    by_cases e2 : (tok bs n x.1).2 ≤ 1000
    · rw [if_neg (nI_nlt e2 (by omega)), if_pos ⟨e1, e2⟩]
      have hl := hlt e1 (by omega)
      obtain ⟨tl2, ar2, k1, k2, k3⟩ := c_emit (E := E) (d := d + 1) hA hR (show x.2.2.1.length < 400 by have := hx.2.1; omega) 0 (tok bs n x.1).2
      obtain ⟨fl3, n1, n2, n3⟩ := c_nextR (E := E) (d := d + 1) hA hn hbs k2
      refine ⟨fl3, tl2, ar2, k3.tr n3, ?_, n2⟩
      rw [t_r36_0 hA, Option.bind_some, k1, xV_s, Option.bind_some, n1, xV_s, Option.bind_some]; rfl
    · rw [if_pos (nI_lt (by omega) (by omega)), if_neg (fun q => e2 q.2)]
      exact rest (fun q => e2 q.2)
  · rw [if_neg (fun q => e1 (hdg.mp q)), if_neg (fun q => e1 q.1)]
    exact rest (fun q => e1 q.1)
theorem CO.bd {g : PX → PR} {r : PR} {X : xO} {K : Int32 → xH → xO} (hx : ∀ y, r = .inr y → okx (tkN bs n) y) (h : CO bs n o A fl tl ar r X) (h1 : ∀ (fl tl : Nat → Int32) (ar : Nat → Nat → Int32) (y : PX), okx (tkN bs n) y → tpR bs n o y fl tl ar → CO bs n o A fl tl ar (g y) (K 1 (tw A fl tl ar))) (h0 : ∀ (fl tl : Nat → Int32) (ar : Nat → Nat → Int32) (t : Nat), tpX bs n t fl tl → CO bs n o A fl tl ar (.inl t) (K 0 (tw A fl tl ar))) : CO bs n o A fl tl ar (rb r g) ((xI X).bind fun q => K q.1 q.2) := by
  obtain ⟨f1, t1, a1, k1, k2⟩ := h
  cases r with
  | inl t => rw [k2.1, xI_s, Option.bind_some]; exact CO.tr k1 (h0 f1 t1 a1 t k2.2)
  | inr y => rw [k2.1, xI_s, Option.bind_some]; exact CO.tr k1 (h1 f1 t1 a1 y (hx y rfl) k2.2)
theorem c_eat (hA : 43 ≤ A.length) (hn : n ≤ 400) (hbs : ∀ j, bs j < 256) (hx : okx (tkN bs n) x) (h : tpR bs n o x fl tl ar) {c : Nat} (hc : c < 256) (hl : isL c = false) (hd : isD c = false) : CO bs n o A fl tl ar (eat (tok bs n) (100 + c) x) (xC E (d + 2) 75 [.ref 36, .int (nI c)] (tw A fl tl ar)) := by
  unfold eat
  by_cases e : (tok bs n x.1).1 = 100 + c
  · obtain ⟨f1, k1, k2, k3⟩ := c_passS1 (E := E) (d := d) hA hn hbs h hc hl hd e
    rw [if_pos e, k1]; exact CO.tr k3 (CO.yes k2)
  · rw [if_neg e, c_passS0 hA hbs h hc hl hd e]; exact CO.no (h.tx hn hx)
theorem rb_r {y : PX} {k : PX → PR} : rb (.inr y) k = k y := rfl
theorem i_if {α : Type} {a b : α} : (if (1 : Int32) = 0 then a else b) = b := if_neg (by decide)
theorem i_if0 {α : Type} {a b : α} : (if (0 : Int32) = 0 then a else b) = a := if_pos rfl
theorem ct_part (hn : n ≤ 400) (hbs : ∀ j, bs j < 256) : ∀ (k d : Nat), k ≤ 8 → CT bs n o (pPart (tok bs n) o k) (xC E (d + 3 + 3 * k) 85 [.ref 36, .int (nI (8 - k))])
  | 0, d, hk => by
    intro A fl tl ar x hA hx h
    unfold pPart
    have k91 : fl 6 = (91 : Int32) ↔ (tok bs n x.1).1 = 191 := h.kd hbs (c := 91) (by omega) rfl rfl
    by_cases e : (tok bs n x.1).1 = 191
    · rw [if_pos e, k85 _ _ _ _ _ (t_k36 hA), t_g36_6 hA, Option.bind_some, if_pos (k91.mpr e), if_pos (by decide)]
      exact CO.no (h.tx hn hx)
    · rw [if_neg e]; exact c_leaf hA hn hbs hx h e
  | k + 1, d, hk => by
    intro A fl tl ar x hA hx h
    unfold pPart
    have k91 : fl 6 = (91 : Int32) ↔ (tok bs n x.1).1 = 191 := h.kd hbs (c := 91) (by omega) rfl rfl
    by_cases e : (tok bs n x.1).1 = 191
    · have hs : CT bs n o (pSum (tok bs n) (pPart (tok bs n) o k)) (xC E (d + 2 + 3 + 3 * k) 83 [.ref 36, .int (nI (8 - k))]) := by
        have h0 := ct_part hn hbs k d (by omega)
        rw [show d + 3 + 3 * k = d + 2 + 3 * k + 1 by omega] at h0
        have h1 := ct_sum (d := d + 2 + 3 * k) hn hbs (gd_part hTk k) h0
        rw [show d + 2 + 3 + 3 * k = d + 2 + 3 * k + 3 by omega]; exact h1
      obtain ⟨f1, p1, p2, p3⟩ := c_passS1 (E := E) (d := d + 3 + 3 * k) hA hn hbs h (c := 91) (by omega) rfl rfl e
      have hx1 := hx.adv (by omega)
      have hg := gd_sum (T := tok bs n) hTk (gd_part (o := o) hTk k) (adv x) hx1.1
      rw [if_pos e, show d + 3 + 3 * (k + 1) = (d + 3 + 3 * k) + 2 + 1 by omega, k85 _ _ _ _ _ (t_k36 hA), t_g36_6 hA, Option.bind_some, if_pos (k91.mpr e), if_neg (by rw [zl]; exact nI_ge (by omega) (by omega)), show (91 : Int32) = nI 91 from rfl, p1, xI_s, Option.bind_some]
      dsimp only
      rw [i_if, nI_1, show 8 - (k + 1) + 1 = 8 - k by omega]
      refine CO.tr p3 (CO.bd (K := fun q A3 => if q = 0 then some (some (.int (0 : Int32)), A3) else (xI (xC E (d + 3 + 3 * k + 2) 75 [.ref 36, .int (93 : Int32)] A3)).bind fun q4 => if q4.1 = 0 then some (some (.int (0 : Int32)), q4.2) else some (some (.int (1 : Int32)), q4.2)) (fun y hy => ?_) (by
        have := hs A f1 tl ar (adv x) hA hx1 p2
        rw [show d + 2 + 3 + 3 * k = d + 3 + 3 * k + 2 by omega] at this; exact this) (fun fl tl ar y hy hR => ?_) (fun fl tl ar t hX => ?_))
      · rw [hy] at hg; exact hx1.le hg.1
      · rw [i_if]
        have hc := c_eat (E := E) (d := d + 3 + 3 * k) hA hn hbs hy hR (c := 93) (by omega) rfl rfl
        obtain ⟨f2, t2, a2, q1, q2⟩ := hc
        refine ⟨f2, t2, a2, q1, ?_⟩
        rw [show (93 : Int32) = nI 93 from rfl]
        cases hr : eat (tok bs n) (100 + 93) y with
        | inl t => rw [hr] at q2; exact ⟨by rw [q2.1, xI_s, Option.bind_some]; exact i_if0, q2.2⟩
        | inr z => rw [hr] at q2; exact ⟨by rw [q2.1, xI_s, Option.bind_some]; exact i_if, q2.2⟩
      · rw [i_if0]; exact CO.no hX
    · rw [if_neg e]
      rw [show d + 3 + 3 * (k + 1) = d + 3 + 3 * k + 3 by omega]
      exact c_leaf hA hn hbs hx h e
theorem not_loop (hn : n ≤ 400) (hbs : ∀ j, bs j < 256) : ∀ (c i : Nat) (b : Bool) (fl : Nat → Int32) (x : PX) (w4 : Value), 43 ≤ A.length → i + c = 400 → okx (tkN bs n) x → tpR bs n o x fl tl ar → ∃ fl' w3, xD E (d + 3) 82 4 [.ref 36, .int br, .int (if b = true then 1 else 0), .int (nI i), w4] [] (tw A fl tl ar) = xD E (d + 3) 82 36 [.ref 36, .int br, .int (if (nts (tok bs n) c x.1 b).2 = true then 1 else 0), w3, xJ] [] (tw A fl' tl ar) ∧ tpR bs n o ((nts (tok bs n) c x.1 b).1, x.2) fl' tl ar ∧ tpF fl tl ar fl' tl ar ∧ okx (tkN bs n) ((nts (tok bs n) c x.1 b).1, x.2)
  | 0, i, b, fl, x, w4, hA, hi, hx, h => by
    refine ⟨fl, .int (nI i), ?_, h, tpF.rf, hx⟩
    rw [e82_4, if_pos (by rw [zl]; exact nI_le (by omega) (by omega))]; rfl
  | c + 1, i, b, fl, x, w4, hA, hi, hx, h => by
    rw [e82_4, if_neg (by rw [zl]; exact nI_ge (by omega) (by omega))]
    unfold nts
    by_cases e : (tok bs n x.1).1 = 6
    · obtain ⟨f1, k1, k2, k3⟩ := c_passW1 (E := E) (d := d) hA hn hbs h (show SWt 23 6 by unfold SWt; decide +kernel) e
      obtain ⟨f2, w3, q1, q2, q3, q4⟩ := not_loop hn hbs c (i + 1) (!b) f1 (adv x) xJ hA (by omega) (hx.adv (by omega)) k2
      rw [if_pos e]
      refine ⟨f2, w3, ?_, q2, k3.tr q3, q4⟩
      rw [k1, xI_s, Option.bind_some]
      dsimp only
      rw [i_if, nI_1]
      refine Eq.trans ?_ q1
      cases b
      · simp only [Bool.false_eq_true, if_false, Bool.not_false, if_true]
      · simp only [Bool.not_true, Bool.false_eq_true, if_false, if_true]; rw [i_if]
    · rw [if_neg e, c_passW0 hA hn hbs h (show SWt 23 6 by unfold SWt; decide +kernel) e, xI_s, Option.bind_some]
      dsimp only
      rw [i_if0]
      exact ⟨fl, _, rfl, h, tpF.rf, hx⟩
/-- behind what may be turned -/
theorem plain_end (hA : 43 ≤ A.length) {b : Bool} {w1 w4 : Value} (hl : b = true → x.2.2.1.length < 400) (h : tpR bs n o x fl tl ar) : CO bs n o A fl tl ar (.inr (if b = true then emi x 2 0 else x)) (xD E (d + 2) 82 181 [.ref 36, w1, .int (if b = true then 1 else 0), .int 1, w4] [] (tw A fl tl ar)) := by
  rw [e82_181, i_if]
  cases b
  · simp only [Bool.false_eq_true, if_false, if_true]; exact CO.one h
  · obtain ⟨t1, a1, k1, k2, k3⟩ := c_emit (E := E) (d := d) hA h (hl rfl) 2 0
    simp only [if_true]
    rw [i_if, t_r36_0 hA, Option.bind_some, show (2 : Int32) = nI 2 from rfl, show xC E (d + 1) 94 [.ref 37, .int (nI 2), .int (0 : Int32)] (tw A fl tl ar) = _ from k1, xV_s, Option.bind_some]
    exact CO.tr k3 (CO.one k2)
theorem plain_end0 {t : Nat} {i2 : Int32} {w1 w4 : Value} (h : tpX bs n t fl tl) : CO bs n o A fl tl ar (.inl t) (xD E (d + 2) 82 181 [.ref 36, w1, .int i2, .int 0, w4] [] (tw A fl tl ar)) := by
  rw [e82_181, i_if0]; exact CO.zero h
theorem cmp_fail (hA : 43 ≤ A.length) {t : Nat} {i1 i2 : Int32} (h : tpX bs n t fl tl) : CO bs n o A fl tl ar (.inl t) ((gI (tw A fl tl ar) 36 6 6).bind fun x6 => if x6 = (60 : Int32) then xD E (d + 2) 82 124 [.ref 36, .int i1, .int i2, .int 0, xJ] [.int (10 : Int32)] (tw A fl tl ar) else (gI (tw A fl tl ar) 36 6 6).bind fun x7 => if x7 = (62 : Int32) then xD E (d + 2) 82 124 [.ref 36, .int i1, .int i2, .int 0, xJ] [.int (11 : Int32)] (tw A fl tl ar) else xD E (d + 2) 82 124 [.ref 36, .int i1, .int i2, .int 0, xJ] [.int (12 : Int32)] (tw A fl tl ar)) := by
  have go : ∀ s0 : Int32, CO bs n o A fl tl ar (.inl t) (xD E (d + 2) 82 124 [.ref 36, .int i1, .int i2, .int 0, xJ] [.int s0] (tw A fl tl ar)) := by
    intro s0
    obtain ⟨t1, a1, k1, k2, k3⟩ := c_emitX (E := E) (d := d) (ar := ar) hA h s0 0
    rw [e82_124, i_if0, t_r36_0 hA, Option.bind_some, k1, xV_s, Option.bind_some]
    exact CO.tr k3 (plain_end0 k2)
  rw [t_g36_6 hA, Option.bind_some, Option.bind_some]
  split
  · exact go _
  · split
    · exact go _
    · exact go _
theorem c_cmp {i1 : Int32} {b : Bool} {w3 : Value} (hn : n ≤ 400) (hbs : ∀ j, bs j < 256) (hf : gd (tkN bs n) f) (hs : CT bs n o (pSum (tok bs n) f) (xC E (d + 2) 83 [.ref 36, .int i1])) (hA : 43 ≤ A.length) (hx : okx (tkN bs n) x) (hb : b = true → x.2.2.1.length < x.1) (h : tpR bs n o x fl tl ar) (ht : ¬ (tok bs n x.1).1 = 140) : CO bs n o A fl tl ar (rb (pCmp (tok bs n) f x) fun z => .inr (if b = true then emi z 2 0 else z)) (xD E (d + 3) 82 36 [.ref 36, .int i1, .int (if b = true then 1 else 0), w3, xJ] [] (tw A fl tl ar)) := by
  have k40 : fl 6 = (40 : Int32) ↔ (tok bs n x.1).1 = 140 := h.kd hbs (c := 40) (by omega) rfl rfl
  have hN := tkN_le (bs := bs) (n := n)
  have hgs := gd_sum (T := tok bs n) hTk hf
  have hg := hgs x hx.1
  rw [e82_36, t_g36_6 hA, Option.bind_some, if_neg (fun q => ht (k40.mp q))]
  generalize hi2 : (if b = true then (1 : Int32) else 0) = i2
  have e0 : rb (pCmp (tok bs n) f x) (fun z => .inr (if b = true then emi z 2 0 else z)) = rb (pSum (tok bs n) f x) (fun y => rb (if (tok bs n y.1).1 = 160 ∨ (tok bs n y.1).1 = 162 ∨ (tok bs n y.1).1 = 161 then rb (pSum (tok bs n) f (adv y)) fun z => .inr (emi z (opC (tok bs n y.1).1) 0) else .inl y.1) (fun z => .inr (if b = true then emi z 2 0 else z))) := by
    unfold pCmp
    cases pSum (tok bs n) f x <;> rfl
  rw [e0]
  obtain ⟨f1, t1, a1, k1, k2⟩ := hs A fl tl ar x hA hx h
  cases hz : pSum (tok bs n) f x with
  | inl t =>
    rw [hz] at k2
    rw [k2.1, xI_s, Option.bind_some]
    exact CO.tr k1 (cmp_fail (d := d + 1) hA k2.2)
  | inr y =>
    rw [hz] at k2 hg
    obtain ⟨k2, k3⟩ := k2
    have hy := hx.le hg.1
    rw [rb_r, k2, xI_s, Option.bind_some]
    refine CO.tr k1 ?_
    have k60 : f1 6 = (60 : Int32) ↔ (tok bs n y.1).1 = 160 := k3.kd hbs (c := 60) (by omega) rfl rfl
    have k62 : f1 6 = (62 : Int32) ↔ (tok bs n y.1).1 = 162 := k3.kd hbs (c := 62) (by omega) rfl rfl
    dsimp only
    rw [t_g36_6 hA, Option.bind_some, Option.bind_some]
    have e1 : (if f1 6 = (60 : Int32) then xD E (d + 3) 82 124 [.ref 36, .int i1, .int i2, .int 1, xJ] [.int (10 : Int32)] (tw A f1 t1 a1) else if f1 6 = (62 : Int32) then xD E (d + 3) 82 124 [.ref 36, .int i1, .int i2, .int 1, xJ] [.int (11 : Int32)] (tw A f1 t1 a1) else xD E (d + 3) 82 124 [.ref 36, .int i1, .int i2, .int 1, xJ] [.int (12 : Int32)] (tw A f1 t1 a1)) = xD E (d + 3) 82 124 [.ref 36, .int i1, .int i2, .int 1, xJ] [.int (nI (opC (tok bs n y.1).1))] (tw A f1 t1 a1) := by
      unfold opC
      by_cases q1 : (tok bs n y.1).1 = 160
      · rw [if_pos (k60.mpr q1), if_pos q1]; rfl
      · rw [if_neg (fun q => q1 (k60.mp q)), if_neg q1]
        by_cases q2 : (tok bs n y.1).1 = 162
        · rw [if_pos (k62.mpr q2), if_pos q2]; rfl
        · rw [if_neg (fun q => q2 (k62.mp q)), if_neg q2]; rfl
    rw [e1, e82_124, i_if]
    generalize hop : opC (tok bs n y.1).1 = op
    -- behind a sign
    have go : ∀ f2 : Nat → Int32, tpR bs n o (adv y) f2 t1 a1 → tpF f1 t1 a1 f2 t1 a1 → (tok bs n y.1).1 ≠ 0 → CO bs n o A f1 t1 a1 (rb (rb (pSum (tok bs n) f (adv y)) fun z => .inr (emi z op 0)) (fun z => .inr (if b = true then emi z 2 0 else z))) (xD E (d + 3) 82 157 [.ref 36, .int i1, .int i2, .int 1, .int (nI op)] [] (tw A f2 t1 a1)) := by
      intro f2 hR hF ht0
      have hy1 := hy.adv ht0
      have hg2 := hgs (adv y) hy1.1
      obtain ⟨f3, t3, a3, m1, m2⟩ := hs A f2 t1 a1 (adv y) hA hy1 hR
      refine CO.tr (hF.tr m1) ?_
      rw [e82_157]
      cases hz2 : pSum (tok bs n) f (adv y) with
      | inl t =>
        rw [hz2] at m2
        obtain ⟨t4, a4, j1, j2, j3⟩ := c_emitX (E := E) (d := d + 1) (ar := a3) hA m2.2 (nI op) 0
        rw [m2.1, xI_s, Option.bind_some]
        dsimp only
        rw [i_if0, t_r36_0 hA, Option.bind_some, j1, xV_s, Option.bind_some]
        exact CO.tr j3 (plain_end0 j2)
      | inr z =>
        rw [hz2] at m2 hg2
        have hzl : z.2.2.1.length < 400 := by
          obtain ⟨b1, b2, b3, b4, -⟩ := hg2.1
          have := b2 hy1.1
          have := hy.2.1
          simp only [adv] at b4; omega
        obtain ⟨t4, a4, j1, j2, j3⟩ := c_emit (E := E) (d := d + 1) hA m2.2 hzl op 0
        rw [m2.1, xI_s, Option.bind_some]
        dsimp only
        rw [i_if, t_r36_0 hA, Option.bind_some, show xC E (d + 2) 94 [.ref 37, .int (nI op), .int (0 : Int32)] (tw A f3 t3 a3) = _ from j1, xV_s, Option.bind_some, ← hi2]
        refine CO.tr j3 (plain_end (d := d + 1) hA (fun q => ?_) j2)
        obtain ⟨b1, b2, b3, b4, -⟩ := hg2.1
        obtain ⟨c1, c2, c3, c4, -⟩ := hg.1
        have := hb q
        have := b2 hy1.1
        simp only [adv] at b4
        simp only [emi, List.length_append, List.length_cons, List.length_nil]; omega
    by_cases q1 : (tok bs n y.1).1 = 160
    · obtain ⟨f2, j1, j2, j3⟩ := c_passS1 (E := E) (d := d) hA hn hbs k3 (c := 60) (by omega) rfl rfl q1
      rw [if_pos (Or.inl q1), show (60 : Int32) = nI 60 from rfl, j1, xI_s, Option.bind_some]
      dsimp only
      rw [i_if]
      exact go f2 j2 j3 (by omega)
    · rw [show (60 : Int32) = nI 60 from rfl, c_passS0 hA hbs k3 (c := 60) (by omega) rfl rfl q1, xI_s, Option.bind_some]
      dsimp only
      rw [i_if0]
      by_cases q2 : (tok bs n y.1).1 = 162
      · obtain ⟨f2, j1, j2, j3⟩ := c_passS1 (E := E) (d := d) hA hn hbs k3 (c := 62) (by omega) rfl rfl q2
        rw [if_pos (Or.inr (Or.inl q2)), show (62 : Int32) = nI 62 from rfl, j1, xI_s, Option.bind_some]
        dsimp only
        rw [i_if]
        exact go f2 j2 j3 (by omega)
      · rw [show (62 : Int32) = nI 62 from rfl, c_passS0 hA hbs k3 (c := 62) (by omega) rfl rfl q2, xI_s, Option.bind_some]
        dsimp only
        rw [i_if0]
        by_cases q3 : (tok bs n y.1).1 = 161
        · obtain ⟨f2, j1, j2, j3⟩ := c_passS1 (E := E) (d := d) hA hn hbs k3 (c := 61) (by omega) rfl rfl q3
          rw [if_pos (Or.inr (Or.inr q3)), show (61 : Int32) = nI 61 from rfl, j1, xI_s, Option.bind_some]
          dsimp only
          rw [i_if]
          exact go f2 j2 j3 (by omega)
        · rw [if_neg (fun q => q.elim q1 (fun q => q.elim q2 q3)), show (61 : Int32) = nI 61 from rfl, c_passS0 hA hbs k3 (c := 61) (by omega) rfl rfl q3, xI_s, Option.bind_some]
          dsimp only
          obtain ⟨t4, a4, j1, j2, j3⟩ := c_emitX (E := E) (d := d + 1) (ar := a1) hA (k3.tx hn hy) (nI op) 0
          rw [i_if0, t_r36_0 hA, Option.bind_some, j1, xV_s, Option.bind_some]
          exact CO.tr j3 (plain_end0 j2)
/-- the word "not" and what is in brackets -/
theorem c_par {i1 : Nat} {b : Bool} {w3 : Value} (hn : n ≤ 400) (hbs : ∀ j, bs j < 256) (hf : gd (tkN bs n) f) (hi1 : i1 < 8) (hs : CT bs n o f (xC E (d + 2) 80 [.ref 36, .int (nI (i1 + 1))])) (hA : 43 ≤ A.length) (hx : okx (tkN bs n) x) (hb : b = true → x.2.2.1.length < x.1) (h : tpR bs n o x fl tl ar) (ht : (tok bs n x.1).1 = 140) : CO bs n o A fl tl ar (rb (rb (f (adv x)) (eat (tok bs n) 141)) fun z => .inr (if b = true then emi z 2 0 else z)) (xD E (d + 3) 82 36 [.ref 36, .int (nI i1), .int (if b = true then 1 else 0), w3, xJ] [] (tw A fl tl ar)) := by
  have k40 : fl 6 = (40 : Int32) ↔ (tok bs n x.1).1 = 140 := h.kd hbs (c := 40) (by omega) rfl rfl
  have hN := tkN_le (bs := bs) (n := n)
  have hx1 := hx.adv (by omega)
  have hg := hf (adv x) hx1.1
  obtain ⟨f1, p1, p2, p3⟩ := c_passS1 (E := E) (d := d) hA hn hbs h (c := 40) (by omega) rfl rfl ht
  rw [e82_36, t_g36_6 hA, Option.bind_some, if_pos (k40.mpr ht), if_neg (by rw [zl]; exact nI_ge (by omega) (by omega)), show (40 : Int32) = nI 40 from rfl, p1, xI_s, Option.bind_some]
  dsimp only
  rw [i_if, nI_1]
  obtain ⟨f2, t2, a2, k1, k2⟩ := hs A f1 tl ar (adv x) hA hx1 p2
  refine CO.tr (p3.tr k1) ?_
  cases hz : f (adv x) with
  | inl t =>
    rw [hz] at k2
    rw [k2.1, xI_s, Option.bind_some]
    dsimp only
    rw [i_if0]
    exact plain_end0 k2.2
  | inr y =>
    rw [hz] at k2 hg
    obtain ⟨k2, k3⟩ := k2
    have hy := hx1.le hg.1
    rw [k2, xI_s, Option.bind_some]
    dsimp only
    rw [i_if]
    obtain ⟨f3, t3, a3, m1, m2⟩ := c_eat (E := E) (d := d) hA hn hbs hy k3 (c := 41) (by omega) rfl rfl
    refine CO.tr m1 ?_
    show CO bs n o A f3 t3 a3 (rb (eat (tok bs n) (100 + 41) y) _) _
    rw [show (41 : Int32) = nI 41 from rfl]
    cases hr : eat (tok bs n) (100 + 41) y with
    | inl t =>
      rw [hr] at m2
      rw [m2.1, xI_s, Option.bind_some]
      dsimp only
      rw [i_if0]
      exact plain_end0 m2.2
    | inr z =>
      rw [hr] at m2
      rw [m2.1, xI_s, Option.bind_some]
      dsimp only
      rw [i_if]
      refine plain_end (d := d + 1) hA (fun q => ?_) m2.2
      obtain ⟨b1, b2, b3, b4, -⟩ := hg.1
      have h1 := hb q
      have h2 := b2 hx1.1
      unfold eat at hr
      split at hr
      · cases hr
        simp only [adv] at b4 ⊢; omega
      · cases hr
def pPos (T : Nat → Nat × Nat) (o : Bool) : Nat → PX → PR
  | 0, y => if (T y.1).1 = 140 then .inl y.1 else pCmp T (pPart T o 0) y
  | k + 1, y => if (T y.1).1 = 140 then rb (pTest T (pPlain T o k) (adv y)) (eat T 141) else pCmp T (pPart T o (k + 1)) y
theorem pPlain_eq (T : Nat → Nat × Nat) (o : Bool) (k : Nat) (x : PX) : pPlain T o k x = pNot T (pPos T o k) x := by
  cases k <;> rfl
theorem ct_plain (hn : n ≤ 400) (hbs : ∀ j, bs j < 256) : ∀ (k d : Nat), k ≤ 8 → CT bs n o (pPlain (tok bs n) o k) (xC E (d + 6 + 3 * k) 82 [.ref 36, .int (nI (8 - k))])
  | k, d, hk => by
    intro A fl tl ar x hA hx h
    have hs : CT bs n o (pSum (tok bs n) (pPart (tok bs n) o k)) (xC E (d + 3 + 3 * k + 2) 83 [.ref 36, .int (nI (8 - k))]) := by
      have h0 := ct_part (E := E) (o := o) hn hbs k d (by omega)
      rw [show d + 3 + 3 * k = d + 2 + 3 * k + 1 by omega] at h0
      have h1 := ct_sum (d := d + 2 + 3 * k) hn hbs (gd_part hTk k) h0
      rw [show d + 3 + 3 * k + 2 = d + 2 + 3 * k + 3 by omega]; exact h1
    obtain ⟨fl1, w3, n1, n2, n3, n4⟩ := not_loop (E := E) (d := d + 3 + 3 * k) (br := nI (8 - k)) hn hbs 400 0 false fl x xJ hA rfl hx h
    have n5 := nts_ok (T := tok bs n) hTk 400 x.1 false hx.1
    rw [show d + 6 + 3 * k = d + 3 + 3 * k + 2 + 1 by omega, k82 _ _ _ _ _ (t_k36 hA), show xD E (d + 3 + 3 * k + 2 + 1) 82 4 [.ref 36, .int (nI (8 - k)), .int (0 : Int32), .int (0 : Int32), xJ] [] (tw A fl tl ar) = _ from n1]
    refine CO.tr n3 ?_
    rw [pPlain_eq]
    unfold pNot
    generalize nts (tok bs n) 400 x.1 false = w at n1 n2 n4 n5 ⊢
    have hb : w.2 = true → ((w.1, x.2) : PX).2.2.1.length < ((w.1, x.2) : PX).1 := by
      intro q
      rcases n5.2.2 with e | e
      · rw [e] at q; cases q
      · have := hx.2.1; dsimp only; omega
    by_cases e : (tok bs n w.1).1 = 140
    · cases k with
      | zero =>
        have k40 : fl1 6 = (40 : Int32) ↔ (tok bs n w.1).1 = 140 := n2.kd hbs (c := 40) (by omega) rfl rfl
        rw [show pPos (tok bs n) o 0 (w.1, x.2) = _ from if_pos e, e82_36, t_g36_6 hA, Option.bind_some, if_pos (k40.mpr e), if_pos (by decide)]
        exact plain_end0 (n2.tx hn n4)
      | succ k =>
        have hp := ct_plain hn hbs k d (by omega)
        rw [show d + 6 + 3 * k = d + 4 + 3 * k + 2 by omega] at hp
        have ht := ct_test (d := d + 4 + 3 * k) hn hbs (gd_plain hTk k) hp
        rw [show pPos (tok bs n) o (k + 1) (w.1, x.2) = _ from if_pos e]
        refine c_par (i1 := 8 - (k + 1)) (d := d + 3 + 3 * (k + 1)) hn hbs (gd_test hTk (gd_plain hTk k)) (by omega) ?_ hA n4 hb n2 e
        rw [show 8 - (k + 1) + 1 = 8 - k by omega, show d + 3 + 3 * (k + 1) + 2 = d + 4 + 3 * k + 4 by omega]
        exact ht
    · have hp : pPos (tok bs n) o k (w.1, x.2) = pCmp (tok bs n) (pPart (tok bs n) o k) (w.1, x.2) := by cases k <;> exact if_neg e
      rw [hp]
      exact c_cmp (d := d + 3 + 3 * k) hn hbs (gd_part hTk k) hs hA n4 hb n2 e
end PARTS
