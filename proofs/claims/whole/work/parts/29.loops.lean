/-! ===== the class's readers: loops, parts, tests ===== -/
section LOOPS
variable {E : Nat × (Nat → Int32)} {d : Nat} {A : xH} {fl tl : Nat → Int32} {ar : Nat → Nat → Int32} {bs : Nat → Nat} {n : Nat} {o : Bool} {x : PX} {f : PX → PR} {br : Int32}
theorem okx.adv (h : okx (tkN bs n) x) (ht : (tok bs n x.1).1 ≠ 0) : okx (tkN bs n) (adv x) := h.le (xle_adv (tok_lt ht))
theorem okx.len (hn : n ≤ 400) (h : okx (tkN bs n) x) : x.2.2.1.length ≤ 400 := by
  have := tkN_le (bs := bs) (n := n); have := h.1; have := h.2.1; omega
theorem lp_some {step : PX → Option PR} {r : PR} {c : Nat} (h : step x = some r) : lp step (c + 1) x = rb r (lp step c) := by
  show (match step x with | none => (Sum.inr x : PR) | some r => rb r (lp step c)) = _
  rw [h]
theorem lp_none {step : PX → Option PR} {c : Nat} (h : step x = none) : lp step (c + 1) x = .inr x := by
  show (match step x with | none => (Sum.inr x : PR) | some r => rb r (lp step c)) = _
  rw [h]
theorem op_ok {m : Nat} (hn : n ≤ 400) (hbs : ∀ j, bs j < 256) (hf : gd (tkN bs n) f) (hp : CT bs n o f (xC E (d + 1) m [.ref 36, .int br])) (hA : 43 ≤ A.length) (hx : okx (tkN bs n) x) (h : tpR bs n o x fl tl ar) (ht : (tok bs n x.1).1 ≠ 0) (op : Nat) (K : Int32 → xH → xO) : ∃ fl' tl' ar', tpF fl tl ar fl' tl' ar' ∧ match f (adv x) with
    | .inl t => ((xV (xC E (d + 1) 72 [.ref 36] (tw A fl tl ar))).bind fun A1 => (xI (xC E (d + 1) m [.ref 36, .int br] A1)).bind fun q2 => (gN q2.2 36 6 0).bind fun n3 => (xV (xC E (d + 1) 94 [.ref n3, .int (nI op), .int (0 : Int32)] q2.2)).bind fun A4 => K q2.1 A4) = K 0 (tw A fl' tl' ar') ∧ tpX bs n t fl' tl'
    | .inr z => ((xV (xC E (d + 1) 72 [.ref 36] (tw A fl tl ar))).bind fun A1 => (xI (xC E (d + 1) m [.ref 36, .int br] A1)).bind fun q2 => (gN q2.2 36 6 0).bind fun n3 => (xV (xC E (d + 1) 94 [.ref n3, .int (nI op), .int (0 : Int32)] q2.2)).bind fun A4 => K q2.1 A4) = K 1 (tw A fl' tl' ar') ∧ tpR bs n o (emi z op 0) fl' tl' ar' := by
  obtain ⟨fl1, k0, k1, k2⟩ := c_nextR (E := E) (d := d) hA hn hbs h
  have hx1 := hx.adv ht
  have hN := tkN_le (bs := bs) (n := n)
  rw [k0, xV_s, Option.bind_some]
  obtain ⟨fl2, tl2, ar2, g1, g2⟩ := hp A fl1 tl ar (adv x) hA hx1 k1
  have hg := hf (adv x) hx1.1
  cases hz : f (adv x) with
  | inl t =>
    rw [hz] at g2
    obtain ⟨g3, g4⟩ := g2
    obtain ⟨tl3, ar3, e1, e2, e3⟩ := c_emitX (E := E) (d := d) (ar := ar2) hA g4 (nI op) 0
    refine ⟨fl2, tl3, ar3, (k2.tr g1).tr e3, ?_, e2⟩
    rw [g3, xI_s, Option.bind_some]
    dsimp only
    rw [t_r36_0 hA, Option.bind_some, e1, xV_s, Option.bind_some]
  | inr z =>
    rw [hz] at g2 hg
    obtain ⟨g3, g4⟩ := g2
    have hzl : z.2.2.1.length < 400 := by
      obtain ⟨b1, b2, b3, b4, -⟩ := hg.1
      have := b2 hx1.1
      have := hx.2.1
      simp only [adv] at b4; omega
    obtain ⟨tl3, ar3, e1, e2, e3⟩ := c_emit (E := E) (d := d) hA g4 hzl op 0
    refine ⟨fl2, tl3, ar3, (k2.tr g1).tr e3, ?_, e2⟩
    rw [g3, xI_s, Option.bind_some]
    dsimp only
    rw [t_r36_0 hA, Option.bind_some, show xC E (d + 1) 94 [.ref 37, .int (nI op), .int (0 : Int32)] (tw A fl2 tl2 ar2) = _ from e1, xV_s, Option.bind_some]
theorem CO.end0 {t : Nat} {i : Int32} {X : xO} (h : tpX bs n t fl tl) : CO bs n o A fl tl ar (.inl t) (if (400 : Int32) ≤ i then if x01 0 = true then some (some (.int 0), tw A fl tl ar) else none else if (0 : Int32) = 0 then if x01 0 = true then some (some (.int 0), tw A fl tl ar) else none else X) := by
  split
  · exact CO.zero h
  · rw [if_pos rfl]; exact CO.zero h
theorem ct_term_loop (hn : n ≤ 400) (hbs : ∀ j, bs j < 256) (hf : gd (tkN bs n) f) (hp : CT bs n o f (xC E (d + 1) 85 [.ref 36, .int br])) : ∀ (c i : Nat) (fl tl : Nat → Int32) (ar : Nat → Nat → Int32) (x : PX) (w4 : Value), 43 ≤ A.length → i + c = 400 → okx (tkN bs n) x → tpR bs n o x fl tl ar → CO bs n o A fl tl ar (lp (sTerm (tok bs n) f) c x) (xD E (d + 2) 84 8 [.ref 36, .int br, .int 1, .int (nI i), w4] [] (tw A fl tl ar))
  | 0, i, fl, tl, ar, x, w4, hA, hi, hx, h => by
    rw [e84_8, if_pos (by rw [zl]; exact nI_le (by omega) (by omega))]; exact CO.one h
  | c + 1, i, fl, tl, ar, x, w4, hA, hi, hx, h => by
    have k42 := h.kd hbs (c := 42) (by omega) rfl rfl
    have k47 := h.kd hbs (c := 47) (by omega) rfl rfl
    have k37 := h.kd hbs (c := 37) (by omega) rfl rfl
    by_cases e : (tok bs n x.1).1 = 142 ∨ (tok bs n x.1).1 = 147 ∨ (tok bs n x.1).1 = 137
    · have st : xD E (d + 2) 84 8 [.ref 36, .int br, .int 1, .int (nI i), w4] [] (tw A fl tl ar) = xD E (d + 2) 84 76 [.ref 36, .int br, xJ, .int (nI i), xJ] [.int (nI (opT (tok bs n x.1).1))] (tw A fl tl ar) := by
        rw [e84_8, if_neg (by rw [zl]; exact nI_ge (by omega) (by omega)), if_neg (by decide)]
        have go : xD E (d + 2) 84 46 [.ref 36, .int br, .int 1, .int (nI i), xJ] [] (tw A fl tl ar) = xD E (d + 2) 84 76 [.ref 36, .int br, xJ, .int (nI i), xJ] [.int (nI (opT (tok bs n x.1).1))] (tw A fl tl ar) := by
          rw [e84_46]
          simp (disch := omega) only [t_k36, t_k37, t_r36_0, t_r36_1, t_g36_2, t_p36_2, t_g36_3, t_p36_3, t_g36_4, t_p36_4, t_g36_5, t_p36_5, t_g36_6, t_p36_6, t_g36_7, t_p36_7, t_g36_8, t_p36_8, t_g36_9, t_p36_9, t_r37_0, t_r37_1, t_r37_2, t_r37_3, t_g37_4, t_p37_4, t_g37_5, t_p37_5, t_g37_6, t_p37_6, t_a38, t_s38, t_l38, t_a39, t_s39, t_l39, t_a40, t_s40, t_l40, t_a41, t_s41, t_l41, t_a42, t_s42, t_l42, Option.bind_some, zl]
          unfold opT
          by_cases e1 : (tok bs n x.1).1 = 142
          · rw [if_pos (k42.mpr e1), if_pos e1]
          · rw [if_neg (fun q => e1 (k42.mp q)), if_neg e1]
            by_cases e2 : (tok bs n x.1).1 = 147
            · rw [if_pos (k47.mpr e2), if_pos e2]
            · rw [if_neg (fun q => e2 (k47.mp q)), if_neg e2]
        simp (disch := omega) only [t_k36, t_k37, t_r36_0, t_r36_1, t_g36_2, t_p36_2, t_g36_3, t_p36_3, t_g36_4, t_p36_4, t_g36_5, t_p36_5, t_g36_6, t_p36_6, t_g36_7, t_p36_7, t_g36_8, t_p36_8, t_g36_9, t_p36_9, t_r37_0, t_r37_1, t_r37_2, t_r37_3, t_g37_4, t_p37_4, t_g37_5, t_p37_5, t_g37_6, t_p37_6, t_a38, t_s38, t_l38, t_a39, t_s39, t_l39, t_a40, t_s40, t_l40, t_a41, t_s41, t_l41, t_a42, t_s42, t_l42, Option.bind_some, zl]
        by_cases e1 : (tok bs n x.1).1 = 142
        · rw [if_pos (k42.mpr e1)]; exact go
        · rw [if_neg (fun q => e1 (k42.mp q))]
          by_cases e2 : (tok bs n x.1).1 = 147
          · rw [if_pos (k47.mpr e2)]; exact go
          · rw [if_neg (fun q => e2 (k47.mp q)), if_pos (k37.mpr (by omega))]; exact go
      rw [lp_some (if_pos e : sTerm (tok bs n) f x = _), st, e84_76]
      obtain ⟨fl2, tl2, ar2, g1, g2⟩ := op_ok hn hbs hf hp hA hx h (by omega) (opT (tok bs n x.1).1) (fun q A4 => xD E (d + 2) 84 8 [.ref 36, .int br, .int q, .int (nI i + (1 : Int32)), .int (nI (opT (tok bs n x.1).1))] [] A4)
      have hg := hf (adv x) (hx.adv (by omega)).1
      cases hz : f (adv x) with
      | inl t =>
        rw [hz] at g2
        rw [g2.1, e84_8]
        exact CO.tr g1 (CO.end0 g2.2)
      | inr z =>
        rw [hz] at g2 hg
        rw [g2.1, nI_1]
        exact CO.tr g1 (ct_term_loop hn hbs hf hp c (i + 1) fl2 tl2 ar2 _ _ hA (by omega) (hx.le (xle_ae (tok_lt (by omega)) hg.1 _ _).1) g2.2)
    · rw [lp_none (if_neg e : sTerm (tok bs n) f x = _), e84_8, if_neg (by rw [zl]; exact nI_ge (by omega) (by omega)), if_neg (by decide)]
      simp (disch := omega) only [t_k36, t_k37, t_r36_0, t_r36_1, t_g36_2, t_p36_2, t_g36_3, t_p36_3, t_g36_4, t_p36_4, t_g36_5, t_p36_5, t_g36_6, t_p36_6, t_g36_7, t_p36_7, t_g36_8, t_p36_8, t_g36_9, t_p36_9, t_r37_0, t_r37_1, t_r37_2, t_r37_3, t_g37_4, t_p37_4, t_g37_5, t_p37_5, t_g37_6, t_p37_6, t_a38, t_s38, t_l38, t_a39, t_s39, t_l39, t_a40, t_s40, t_l40, t_a41, t_s41, t_l41, t_a42, t_s42, t_l42, Option.bind_some, zl]
      rw [if_neg (fun q => e (Or.inl (k42.mp q))), if_neg (fun q => e (Or.inr (Or.inl (k47.mp q)))), if_neg (fun q => e (Or.inr (Or.inr (k37.mp q))))]
      exact CO.one h
/-- first one reader, then a loop -/
theorem ct_seq {g : PX → PR} {c1 c2 : xH → xO} {K : Int32 → xH → xO} (hf : gd (tkN bs n) f) (h1 : CT bs n o f c1) (h2 : ∀ (A : xH) (fl tl : Nat → Int32) (ar : Nat → Nat → Int32) (x : PX), 43 ≤ A.length → okx (tkN bs n) x → tpR bs n o x fl tl ar → CO bs n o A fl tl ar (g x) (K 1 (tw A fl tl ar))) (h0 : ∀ (A : xH) (fl tl : Nat → Int32) (ar : Nat → Nat → Int32) (t : Nat), 43 ≤ A.length → tpX bs n t fl tl → CO bs n o A fl tl ar (.inl t) (K 0 (tw A fl tl ar))) (hc : ∀ (A : xH) (fl tl : Nat → Int32) (ar : Nat → Nat → Int32), 43 ≤ A.length → c2 (tw A fl tl ar) = (xI (c1 (tw A fl tl ar))).bind fun q => K q.1 q.2) : CT bs n o (fun x => rb (f x) g) c2 := by
  intro A fl tl ar x hA hx h
  rw [hc A fl tl ar hA]
  show CO bs n o A fl tl ar (rb (f x) g) _
  obtain ⟨fl1, tl1, ar1, g1, g2⟩ := h1 A fl tl ar x hA hx h
  have hg := hf x hx.1
  cases hz : f x with
  | inl t =>
    rw [hz] at g2
    rw [g2.1, xI_s, Option.bind_some]
    exact CO.tr g1 (h0 A fl1 tl1 ar1 t hA g2.2)
  | inr y =>
    rw [hz] at g2 hg
    rw [g2.1, xI_s, Option.bind_some]
    exact CO.tr g1 (h2 A fl1 tl1 ar1 y hA (hx.le hg.1) g2.2)
theorem ct_term (hn : n ≤ 400) (hbs : ∀ j, bs j < 256) (hf : gd (tkN bs n) f) (hp : CT bs n o f (xC E (d + 1) 85 [.ref 36, .int br])) : CT bs n o (pTerm (tok bs n) f) (xC E (d + 2) 84 [.ref 36, .int br]) :=
  ct_seq (K := fun q A1 => xD E (d + 2) 84 8 [.ref 36, .int br, .int q, .int (0 : Int32), xJ] [] A1) hf hp (fun A fl tl ar x hA hx h => ct_term_loop hn hbs hf hp 400 0 fl tl ar x xJ hA rfl hx h) (fun A fl tl ar t hA h => by rw [e84_8]; exact CO.end0 h) (fun A fl tl ar hA => k84 _ _ _ _ _ (t_k36 hA))
theorem ct_sum_loop (hn : n ≤ 400) (hbs : ∀ j, bs j < 256) (hf : gd (tkN bs n) f) (hp : CT bs n o (pTerm (tok bs n) f) (xC E (d + 1) 84 [.ref 36, .int br])) : ∀ (c i : Nat) (fl tl : Nat → Int32) (ar : Nat → Nat → Int32) (x : PX) (w4 : Value), 43 ≤ A.length → i + c = 400 → okx (tkN bs n) x → tpR bs n o x fl tl ar → CO bs n o A fl tl ar (lp (sSum (tok bs n) f) c x) (xD E (d + 2) 83 8 [.ref 36, .int br, .int 1, .int (nI i), w4] [] (tw A fl tl ar))
  | 0, i, fl, tl, ar, x, w4, hA, hi, hx, h => by
    rw [e83_8, if_pos (by rw [zl]; exact nI_le (by omega) (by omega))]; exact CO.one h
  | c + 1, i, fl, tl, ar, x, w4, hA, hi, hx, h => by
    have k43 := h.kd hbs (c := 43) (by omega) rfl rfl
    have k45 := h.kd hbs (c := 45) (by omega) rfl rfl
    have hft := gd_term (T := tok bs n) hTk hf
    by_cases e : (tok bs n x.1).1 = 143 ∨ (tok bs n x.1).1 = 145
    · have st : xD E (d + 2) 83 8 [.ref 36, .int br, .int 1, .int (nI i), w4] [] (tw A fl tl ar) = xD E (d + 2) 83 52 [.ref 36, .int br, .int 1, .int (nI i), xJ] [.int (nI (opS (tok bs n x.1).1))] (tw A fl tl ar) := by
        rw [e83_8, if_neg (by rw [zl]; exact nI_ge (by omega) (by omega)), if_neg (by decide)]
        simp (disch := omega) only [t_k36, t_k37, t_r36_0, t_r36_1, t_g36_2, t_p36_2, t_g36_3, t_p36_3, t_g36_4, t_p36_4, t_g36_5, t_p36_5, t_g36_6, t_p36_6, t_g36_7, t_p36_7, t_g36_8, t_p36_8, t_g36_9, t_p36_9, t_r37_0, t_r37_1, t_r37_2, t_r37_3, t_g37_4, t_p37_4, t_g37_5, t_p37_5, t_g37_6, t_p37_6, t_a38, t_s38, t_l38, t_a39, t_s39, t_l39, t_a40, t_s40, t_l40, t_a41, t_s41, t_l41, t_a42, t_s42, t_l42, Option.bind_some, zl]
        unfold opS
        by_cases e1 : (tok bs n x.1).1 = 143
        · rw [if_pos (k43.mpr e1), if_pos (k43.mpr e1), if_pos e1]
        · rw [if_neg (fun q => e1 (k43.mp q)), if_pos (k45.mpr (by omega)), if_neg (fun q => e1 (k43.mp q)), if_neg e1]
      rw [lp_some (if_pos e : sSum (tok bs n) f x = _), st, e83_52]
      obtain ⟨fl2, tl2, ar2, g1, g2⟩ := op_ok hn hbs hft hp hA hx h (by omega) (opS (tok bs n x.1).1) (fun q A4 => xD E (d + 2) 83 8 [.ref 36, .int br, .int q, .int (nI i + (1 : Int32)), .int (nI (opS (tok bs n x.1).1))] [] A4)
      have hg := hft (adv x) (hx.adv (by omega)).1
      cases hz : pTerm (tok bs n) f (adv x) with
      | inl t =>
        rw [hz] at g2
        rw [g2.1, e83_8]
        exact CO.tr g1 (CO.end0 g2.2)
      | inr z =>
        rw [hz] at g2 hg
        rw [g2.1, nI_1]
        exact CO.tr g1 (ct_sum_loop hn hbs hf hp c (i + 1) fl2 tl2 ar2 _ _ hA (by omega) (hx.le (xle_ae (tok_lt (by omega)) hg.1 _ _).1) g2.2)
    · rw [lp_none (if_neg e : sSum (tok bs n) f x = _), e83_8, if_neg (by rw [zl]; exact nI_ge (by omega) (by omega)), if_neg (by decide)]
      simp (disch := omega) only [t_k36, t_k37, t_r36_0, t_r36_1, t_g36_2, t_p36_2, t_g36_3, t_p36_3, t_g36_4, t_p36_4, t_g36_5, t_p36_5, t_g36_6, t_p36_6, t_g36_7, t_p36_7, t_g36_8, t_p36_8, t_g36_9, t_p36_9, t_r37_0, t_r37_1, t_r37_2, t_r37_3, t_g37_4, t_p37_4, t_g37_5, t_p37_5, t_g37_6, t_p37_6, t_a38, t_s38, t_l38, t_a39, t_s39, t_l39, t_a40, t_s40, t_l40, t_a41, t_s41, t_l41, t_a42, t_s42, t_l42, Option.bind_some, zl]
      rw [if_neg (fun q => e (Or.inl (k43.mp q))), if_neg (fun q => e (Or.inr (k45.mp q)))]
      exact CO.one h
theorem ct_sum (hn : n ≤ 400) (hbs : ∀ j, bs j < 256) (hf : gd (tkN bs n) f) (hp : CT bs n o f (xC E (d + 1) 85 [.ref 36, .int br])) : CT bs n o (pSum (tok bs n) f) (xC E (d + 3) 83 [.ref 36, .int br]) :=
  ct_seq (K := fun q A1 => xD E (d + 3) 83 8 [.ref 36, .int br, .int q, .int (0 : Int32), xJ] [] A1) (gd_term hTk hf) (ct_term hn hbs hf hp) (fun A fl tl ar x hA hx h => ct_sum_loop (d := d + 1) hn hbs hf (ct_term hn hbs hf hp) 400 0 fl tl ar x xJ hA rfl hx h) (fun A fl tl ar t hA h => by rw [e83_8]; exact CO.end0 h) (fun A fl tl ar hA => k83 _ _ _ _ _ (t_k36 hA))
/-- a jump: its operation, what may be skipped, its aim -/
theorem jump_ok {m op : Nat} (hn : n ≤ 400) (hf : gd (tkN bs n) f) (hp : CT bs n o f (xC E (d + 1) m [.ref 36, .int br])) (hA : 43 ≤ A.length) (hx : okx (tkN bs n) x) (ht : (tok bs n x.1).1 ≠ 0) (h : tpR bs n o (adv x) fl tl ar) (K : Int32 → xH → xO) : ∃ fl' tl' ar', tpF fl tl ar fl' tl' ar' ∧ match f (emi (adv x) op 0) with
    | .inl t => ((xV (xC E (d + 1) 94 [.ref 37, .int (nI op), .int (0 : Int32)] (tw A fl tl ar))).bind fun A5 => (xI (xC E (d + 1) m [.ref 36, .int br] A5)).bind fun q6 => (gN q6.2 36 6 0).bind fun n7 => (xV (xC E (d + 1) 95 [.ref n7, .int (nI x.2.2.1.length)] q6.2)).bind fun A8 => K q6.1 A8) = K 0 (tw A fl' tl' ar') ∧ tpX bs n t fl' tl'
    | .inr z => ((xV (xC E (d + 1) 94 [.ref 37, .int (nI op), .int (0 : Int32)] (tw A fl tl ar))).bind fun A5 => (xI (xC E (d + 1) m [.ref 36, .int br] A5)).bind fun q6 => (gN q6.2 36 6 0).bind fun n7 => (xV (xC E (d + 1) 95 [.ref n7, .int (nI x.2.2.1.length)] q6.2)).bind fun A8 => K q6.1 A8) = K 1 (tw A fl' tl' ar') ∧ tpR bs n o (aimx z x.2.2.1.length op) fl' tl' ar' := by
  have hN := tkN_le (bs := bs) (n := n)
  have hlt : x.1 < tkN bs n := tok_lt ht
  have hl := hx.2.1
  obtain ⟨tl1, ar1, e1, e2, e3⟩ := c_emit (E := E) (d := d) hA h (show x.2.2.1.length < 400 by omega) op 0
  have hx1 : okx (tkN bs n) (emi (adv x) op 0) := ⟨by simp only [emi, adv]; omega, by simp only [emi, adv, List.length_append, List.length_cons, List.length_nil]; omega, hx.2.2.1, hx.2.2.2⟩
  rw [show xC E (d + 1) 94 [.ref 37, .int (nI op), .int (0 : Int32)] (tw A fl tl ar) = _ from e1, xV_s, Option.bind_some]
  obtain ⟨fl2, tl2, ar2, g1, g2⟩ := hp A fl tl1 ar1 _ hA hx1 e2
  have hg := hf _ hx1.1
  cases hz : f (emi (adv x) op 0) with
  | inl t =>
    rw [hz] at g2
    obtain ⟨g3, g4⟩ := g2
    obtain ⟨ar3, j1, j3⟩ := c_aimX (E := E) (d := d) (ar := ar2) hA g4 (s := x.2.2.1.length) (by omega)
    refine ⟨fl2, tl2, ar3, (e3.tr g1).tr j3, ?_, g4⟩
    rw [g3, xI_s, Option.bind_some]
    dsimp only
    rw [t_r36_0 hA, Option.bind_some, j1, xV_s, Option.bind_some]
  | inr z =>
    rw [hz] at g2 hg
    obtain ⟨g3, g4⟩ := g2
    have hzx := hx1.le hg.1
    have hs : z.2.2.1[x.2.2.1.length]? = some (op, 0) := by
      obtain ⟨b1, b2, b3, b4, b5, -⟩ := hg.1
      rw [b5 _ (by simp [emi, adv])]
      simp [emi, adv]
    obtain ⟨ar3, j1, j2, j3⟩ := c_aim (E := E) (d := d) hA (hzx.len hn) g4 hs
    refine ⟨fl2, tl2, ar3, (e3.tr g1).tr j3, ?_, j2⟩
    rw [g3, xI_s, Option.bind_some]
    dsimp only
    rw [t_r36_0 hA, Option.bind_some, j1, xV_s, Option.bind_some]
theorem ct_both_loop (hn : n ≤ 400) (hbs : ∀ j, bs j < 256) (hf : gd (tkN bs n) f) (hp : CT bs n o f (xC E (d + 2) 82 [.ref 36, .int br])) : ∀ (c i : Nat) (fl tl : Nat → Int32) (ar : Nat → Nat → Int32) (x : PX) (w4 : Value), 43 ≤ A.length → i + c = 400 → okx (tkN bs n) x → tpR bs n o x fl tl ar → CO bs n o A fl tl ar (lp (sBoth (tok bs n) f) c x) (xD E (d + 3) 81 8 [.ref 36, .int br, .int 1, .int (nI i), w4] [] (tw A fl tl ar))
  | 0, i, fl, tl, ar, x, w4, hA, hi, hx, h => by
    rw [e81_8, if_pos (by rw [zl]; exact nI_le (by omega) (by omega))]; exact CO.one h
  | c + 1, i, fl, tl, ar, x, w4, hA, hi, hx, h => by
    rw [e81_8, if_neg (by rw [zl]; exact nI_ge (by omega) (by omega)), if_neg (by decide)]
    by_cases e : (tok bs n x.1).1 = 5
    · obtain ⟨fl1, k0, k1, k2⟩ := c_passW1 (E := E) (d := d) hA hn hbs h (show SWt 24 5 by unfold SWt; decide +kernel) e
      rw [lp_some (if_pos e : sBoth (tok bs n) f x = _), k0, xI_s, Option.bind_some]
      dsimp only
      rw [if_neg (by decide)]
      rw [t_r36_0 hA, Option.bind_some, t_g37_4 hA, Option.bind_some, Option.bind_some, h.2.2.2.2.2.2.2.1]
      obtain ⟨fl2, tl2, ar2, g1, g2⟩ := jump_ok (op := 3) hn hf hp hA hx (by omega) k1 (fun q A8 => xD E (d + 3) 81 8 [.ref 36, .int br, .int q, .int (nI i + (1 : Int32)), .int (nI x.2.2.1.length)] [] A8)
      have hg := hf (emi (adv x) 3 0) (by have := tok_lt (bs := bs) (n := n) (i := x.1) (by omega); simp only [emi, adv]; omega)
      refine CO.tr k2 (CO.tr g1 ?_)
      cases hz : f (emi (adv x) 3 0) with
      | inl t =>
        rw [hz] at g2
        have g3 := g2.1
        rw [show nI 3 = (3 : Int32) from rfl] at g3
        rw [g3, e81_8]
        exact CO.end0 g2.2
      | inr z =>
        rw [hz] at g2 hg
        have g3 := g2.1
        rw [show nI 3 = (3 : Int32) from rfl] at g3
        rw [g3, nI_1]
        exact ct_both_loop hn hbs hf hp c (i + 1) fl2 tl2 ar2 _ _ hA (by omega) (hx.le (xle_ea (tok_lt (by omega)) hg.1).1) g2.2
    · rw [lp_none (if_neg e : sBoth (tok bs n) f x = _), c_passW0 hA hn hbs h (show SWt 24 5 by unfold SWt; decide +kernel) e, xI_s, Option.bind_some, if_pos rfl]
      exact CO.one h
theorem ct_both (hn : n ≤ 400) (hbs : ∀ j, bs j < 256) (hf : gd (tkN bs n) f) (hp : CT bs n o f (xC E (d + 2) 82 [.ref 36, .int br])) : CT bs n o (pBoth (tok bs n) f) (xC E (d + 3) 81 [.ref 36, .int br]) :=
  ct_seq (K := fun q A1 => xD E (d + 3) 81 8 [.ref 36, .int br, .int q, .int (0 : Int32), xJ] [] A1) hf hp (fun A fl tl ar x hA hx h => ct_both_loop hn hbs hf hp 400 0 fl tl ar x xJ hA rfl hx h) (fun A fl tl ar t hA h => by rw [e81_8]; exact CO.end0 h) (fun A fl tl ar hA => k81 _ _ _ _ _ (t_k36 hA))
theorem ct_test_loop (hn : n ≤ 400) (hbs : ∀ j, bs j < 256) (hf : gd (tkN bs n) f) (hp : CT bs n o (pBoth (tok bs n) f) (xC E (d + 2) 81 [.ref 36, .int br])) : ∀ (c i : Nat) (fl tl : Nat → Int32) (ar : Nat → Nat → Int32) (x : PX) (w4 : Value), 43 ≤ A.length → i + c = 400 → okx (tkN bs n) x → tpR bs n o x fl tl ar → CO bs n o A fl tl ar (lp (sTest (tok bs n) f) c x) (xD E (d + 3) 80 8 [.ref 36, .int br, .int 1, .int (nI i), w4] [] (tw A fl tl ar))
  | 0, i, fl, tl, ar, x, w4, hA, hi, hx, h => by
    rw [e80_8, if_pos (by rw [zl]; exact nI_le (by omega) (by omega))]; exact CO.one h
  | c + 1, i, fl, tl, ar, x, w4, hA, hi, hx, h => by
    have hfb := gd_both (T := tok bs n) hTk hf
    rw [e80_8, if_neg (by rw [zl]; exact nI_ge (by omega) (by omega)), if_neg (by decide)]
    by_cases e : (tok bs n x.1).1 = 4
    · obtain ⟨fl1, k0, k1, k2⟩ := c_passW1 (E := E) (d := d) hA hn hbs h (show SWt 25 4 by unfold SWt; decide +kernel) e
      rw [lp_some (if_pos e : sTest (tok bs n) f x = _), k0, xI_s, Option.bind_some]
      dsimp only
      rw [if_neg (by decide)]
      rw [t_r36_0 hA, Option.bind_some, t_g37_4 hA, Option.bind_some, Option.bind_some, h.2.2.2.2.2.2.2.1]
      obtain ⟨fl2, tl2, ar2, g1, g2⟩ := jump_ok (op := 4) hn hfb hp hA hx (by omega) k1 (fun q A8 => xD E (d + 3) 80 8 [.ref 36, .int br, .int q, .int (nI i + (1 : Int32)), .int (nI x.2.2.1.length)] [] A8)
      have hg := hfb (emi (adv x) 4 0) (by have := tok_lt (bs := bs) (n := n) (i := x.1) (by omega); simp only [emi, adv]; omega)
      refine CO.tr k2 (CO.tr g1 ?_)
      cases hz : pBoth (tok bs n) f (emi (adv x) 4 0) with
      | inl t =>
        rw [hz] at g2
        have g3 := g2.1
        rw [show nI 4 = (4 : Int32) from rfl] at g3
        rw [g3, e80_8]
        exact CO.end0 g2.2
      | inr z =>
        rw [hz] at g2 hg
        have g3 := g2.1
        rw [show nI 4 = (4 : Int32) from rfl] at g3
        rw [g3, nI_1]
        exact ct_test_loop hn hbs hf hp c (i + 1) fl2 tl2 ar2 _ _ hA (by omega) (hx.le (xle_ea (tok_lt (by omega)) hg.1).1) g2.2
    · rw [lp_none (if_neg e : sTest (tok bs n) f x = _), c_passW0 hA hn hbs h (show SWt 25 4 by unfold SWt; decide +kernel) e, xI_s, Option.bind_some, if_pos rfl]
      exact CO.one h
theorem ct_test (hn : n ≤ 400) (hbs : ∀ j, bs j < 256) (hf : gd (tkN bs n) f) (hp : CT bs n o f (xC E (d + 2) 82 [.ref 36, .int br])) : CT bs n o (pTest (tok bs n) f) (xC E (d + 4) 80 [.ref 36, .int br]) :=
  ct_seq (K := fun q A1 => xD E (d + 4) 80 8 [.ref 36, .int br, .int q, .int (0 : Int32), xJ] [] A1) (gd_both hTk hf) (ct_both hn hbs hf hp) (fun A fl tl ar x hA hx h => ct_test_loop (d := d + 1) hn hbs hf (ct_both hn hbs hf hp) 400 0 fl tl ar x xJ hA rfl hx h) (fun A fl tl ar t hA h => by rw [e80_8]; exact CO.end0 h) (fun A fl tl ar hA => k80 _ _ _ _ _ (t_k36 hA))
end LOOPS
