/-! ===== the class's readers ===== -/
def tpR (bs : Nat → Nat) (n : Nat) (o : Bool) (x : PX) (fl tl : Nat → Int32) (ar : Nat → Nat → Int32) : Prop :=
  fl 3 = nI n ∧ fl 4 = (if o = true then 1 else 0) ∧ fl 5 = nI x.2.1 ∧ fl 6 = kdI bs n (ps bs n x.1) ∧ fl 7 = nI (ps bs n x.1) ∧ fl 8 = nI (en bs n (ps bs n x.1)) ∧ fl 9 = nI (tvl bs n (ps bs n x.1)) ∧ tl 4 = nI x.2.2.1.length ∧ tl 6 = nI x.2.2.2.length ∧ (∀ j q, x.2.2.1[j]? = some q → ar 0 j = nI q.1 ∧ ar 1 j = nI q.2) ∧ (∀ j q, x.2.2.2[j]? = some q → ar 3 j = nI q) ∧ (∀ j, j < n → ar 4 j = nI (bs j))
def tpX (bs : Nat → Nat) (n t : Nat) (fl tl : Nat → Int32) : Prop := fl 7 = nI (ps bs n t) ∧ ∃ s, s ≤ 400 ∧ tl 4 = nI s
def tpF (fl tl : Nat → Int32) (ar : Nat → Nat → Int32) (fl' tl' : Nat → Int32) (ar' : Nat → Nat → Int32) : Prop := fl' 2 = fl 2 ∧ fl' 3 = fl 3 ∧ fl' 4 = fl 4 ∧ tl' 5 = tl 5 ∧ ar' 2 = ar 2 ∧ ar' 4 = ar 4
theorem tpF.rf {fl tl : Nat → Int32} {ar : Nat → Nat → Int32} : tpF fl tl ar fl tl ar := ⟨rfl, rfl, rfl, rfl, rfl, rfl⟩
theorem tpF.tr {fl tl fl1 tl1 fl2 tl2 : Nat → Int32} {ar ar1 ar2 : Nat → Nat → Int32} (h : tpF fl tl ar fl1 tl1 ar1) (g : tpF fl1 tl1 ar1 fl2 tl2 ar2) : tpF fl tl ar fl2 tl2 ar2 :=
  ⟨g.1.trans h.1, g.2.1.trans h.2.1, g.2.2.1.trans h.2.2.1, g.2.2.2.1.trans h.2.2.2.1, g.2.2.2.2.1.trans h.2.2.2.2.1, g.2.2.2.2.2.trans h.2.2.2.2.2⟩
def okx (N : Nat) (x : PX) : Prop := x.1 ≤ N ∧ x.2.2.1.length ≤ x.1 ∧ x.2.1 ≤ 50 ∧ x.2.2.2.length ≤ x.2.1
theorem okx.le {N : Nat} {x y : PX} (h : okx N x) (g : xle N x y) : okx N y := by
  obtain ⟨a1, a2, a3, a4⟩ := h
  obtain ⟨b1, b2, b3, b4, b5, b6, b7, b8, b9, b10⟩ := g
  exact ⟨b2 a1, by omega, b7 a3, by omega⟩
def SWt (k : UInt32) (w : Nat) : Prop := 1 ≤ w ∧ w ≤ 25 ∧ xstr xSTR k = some ((WL.getD (w - 1) []).map nI)
theorem WL_len : ∀ w, w < 25 → (WL.getD w []).length ≤ 10 := by decide
theorem WL_chr : ∀ w, w < 25 → ∀ c ∈ WL.getD w [], c < 256 := by decide
section READ
variable {E : Nat × (Nat → Int32)} {d : Nat} {A : xH} {fl tl : Nat → Int32} {ar : Nat → Nat → Int32} {bs : Nat → Nat} {n : Nat} {o : Bool} {x : PX}
theorem tpR.tx (hn : n ≤ 400) (h : tpR bs n o x fl tl ar) (hx : okx (tkN bs n) x) : tpX bs n x.1 fl tl := by
  have := tkN_le (bs := bs) (n := n)
  exact ⟨h.2.2.2.2.1, x.2.2.1.length, by have := hx.1; have := hx.2.1; omega, h.2.2.2.2.2.2.2.1⟩
theorem c_nextR (hA : 43 ≤ A.length) (hn : n ≤ 400) (hbs : ∀ j, bs j < 256) (h : tpR bs n o x fl tl ar) : ∃ fl', xC E (d + 1) 72 [.ref 36] (tw A fl tl ar) = some (none, tw A fl' tl ar) ∧ tpR bs n o (adv x) fl' tl ar ∧ tpF fl tl ar fl' tl ar := by
  obtain ⟨h1, h2, h3, h4, h5, h6, h7, h8, h9, h10, h11, h12⟩ := h
  obtain ⟨fl', k0, k1, k2, k3, k4, k5⟩ := c_next (E := E) (d := d) (tl := tl) hA hn h12 hbs h1 h6 (en_le (ps_le _)).2
  exact ⟨fl', k0, ⟨by rw [k5 3 (by omega)]; exact h1, by rw [k5 4 (by omega)]; exact h2, by rw [k5 5 (by omega)]; exact h3, k1, k2, k3, k4, h8, h9, h10, h11, h12⟩, ⟨k5 2 (by omega), k5 3 (by omega), k5 4 (by omega), rfl, rfl, rfl⟩⟩
theorem isw_loop (hA : 43 ≤ A.length) (hn : n ≤ 400) {p : Nat} (h7 : fl 7 = nI p) (hb : ∀ j, j < n → ar 4 j = nI (bs j)) (hbs : ∀ j, bs j < 256) {k : UInt32} {ws : List Nat} (hk : xstr xSTR k = some (ws.map nI)) (hl : ws.length ≤ 10) (hw : ∀ c ∈ ws, c < 256) (hp : p + ws.length ≤ n) : ∀ c i, i + c = ws.length → xD E (d + 1) 73 29 [.ref 36, .float k, .int (nI i)] [] (tw A fl tl ar) = some (some (.int (if (wdB bs p (p + ws.length)).drop i = ws.drop i then 1 else 0)), tw A fl tl ar)
  | 0, i, hc => by
    have hlen : (wdB bs p (p + ws.length)).length = ws.length := by simp [wdB]
    rw [e73_29]
    have hs : xslen xSTR k = some (nI ws.length) := by unfold xslen; rw [hk]; simp; rfl
    rw [hs, Option.bind_some, if_pos (nI_le (by omega) (by omega)), List.drop_eq_nil_of_le (by omega), List.drop_eq_nil_of_le (by omega), if_pos rfl]
  | c + 1, i, hc => by
    have hlen : (wdB bs p (p + ws.length)).length = ws.length := by simp [wdB]
    have hi : i < ws.length := by omega
    have hbp := hbs (p + i)
    have hwi := hw ws[i] (List.getElem_mem hi)
    rw [e73_29]
    have hs : xslen xSTR k = some (nI ws.length) := by unfold xslen; rw [hk]; simp; rfl
    have ha : xsat xSTR k (nI i) = some (nI ws[i]) := by
      unfold xsat
      rw [hk, Option.bind_some, nI_clamp (by omega), if_neg (fun q => q.elim (nI_pos (by omega)) (fun q => by rw [List.length_map] at q; omega))]
      rw [List.getD_eq_getElem?_getD, List.getElem?_map, List.getElem?_eq_getElem hi]; rfl
    rw [hs, Option.bind_some, if_neg (nI_ge (by omega) (by omega))]
    simp (disch := omega) only [t_k36, t_k37, t_r36_0, t_r36_1, t_g36_2, t_p36_2, t_g36_3, t_p36_3, t_g36_4, t_p36_4, t_g36_5, t_p36_5, t_g36_6, t_p36_6, t_g36_7, t_p36_7, t_g36_8, t_p36_8, t_g36_9, t_p36_9, t_r37_0, t_r37_1, t_r37_2, t_r37_3, t_g37_4, t_p37_4, t_g37_5, t_p37_5, t_g37_6, t_p37_6, t_a38, t_s38, t_l38, t_a39, t_s39, t_l39, t_a40, t_s40, t_l40, t_a41, t_s41, t_l41, t_a42, t_s42, t_l42, Option.bind_some, h7, nI_add]
    rw [hb _ (by omega), ha, Option.bind_some]
    have hv : (wdB bs p (p + ws.length))[i]'(by omega) = bs (p + i) := by simp [wdB]
    rw [List.drop_eq_getElem_cons (l := wdB bs p (p + ws.length)) (i := i) (by omega), List.drop_eq_getElem_cons hi, hv]
    by_cases e : bs (p + i) = ws[i]
    · rw [if_pos (by rw [e]), nI_1, isw_loop hA hn h7 hb hbs hk hl hw hp c (i + 1) (by omega), e]
      by_cases e2 : (wdB bs p (p + ws.length)).drop (i + 1) = ws.drop (i + 1)
      · rw [if_pos e2, if_pos (by rw [e2])]
      · rw [if_neg e2, if_neg (fun q => e2 (List.cons.inj q).2)]
    · rw [if_neg (fun q => e ((nI_eq (by omega) (by omega)).mp q)), if_neg (fun q => e (List.cons.inj q).1)]
theorem c_isWord (hA : 43 ≤ A.length) (hn : n ≤ 400) (hbs : ∀ j, bs j < 256) (h : tpR bs n o x fl tl ar) {k : UInt32} {w : Nat} (hk : SWt k w) : xC E (d + 1) 73 [.ref 36, .float k] (tw A fl tl ar) = some (some (.int (if (tok bs n x.1).1 = w then 1 else 0)), tw A fl tl ar) := by
  obtain ⟨h1, h2, h3, h4, h5, h6, h7, h8, h9, h10, h11, h12⟩ := h
  obtain ⟨w1, w2, w3⟩ := hk
  have hpn := ps_le (bs := bs) (n := n) x.1
  have hen := en_le (bs := bs) hpn
  have hwl := WL_len (w - 1) (by omega)
  have hs : xslen xSTR k = some (nI (WL.getD (w - 1) []).length) := by unfold xslen; rw [w3]; simp; rfl
  unfold tok
  dsimp only
  generalize ps bs n x.1 = p at *
  rw [k73 _ _ _ _ _ (t_k36 hA)]
  simp (disch := omega) only [t_k36, t_k37, t_r36_0, t_r36_1, t_g36_2, t_p36_2, t_g36_3, t_p36_3, t_g36_4, t_p36_4, t_g36_5, t_p36_5, t_g36_6, t_p36_6, t_g36_7, t_p36_7, t_g36_8, t_p36_8, t_g36_9, t_p36_9, t_r37_0, t_r37_1, t_r37_2, t_r37_3, t_g37_4, t_p37_4, t_g37_5, t_p37_5, t_g37_6, t_p37_6, t_a38, t_s38, t_l38, t_a39, t_s39, t_l39, t_a40, t_s40, t_l40, t_a41, t_s41, t_l41, t_a42, t_s42, t_l42, Option.bind_some, h4, h5, h6, hs]
  have hbp := hbs p
  obtain ⟨-, b2, -⟩ := i_neg (bs p) hbp
  by_cases hl : p < n ∧ isL (bs p) = true
  · have hkd : kdI bs n p = -2 := by unfold kdI; rw [if_neg (by omega), if_pos hl.2]
    have htc : tcd bs n p = wcd (wdB bs p (en bs n p)) := by unfold tcd; rw [if_neg (by omega), if_pos hl.2]
    rw [if_pos hkd, pk_sub hen.1, htc]
    by_cases e : en bs n p - p = (WL.getD (w - 1) []).length
    · rw [if_pos (by rw [e]), zl]
      have hep : en bs n p = p + (WL.getD (w - 1) []).length := by omega
      rw [isw_loop hA hn h5 h12 hbs w3 hwl (WL_chr (w - 1) (by omega)) (by omega) _ 0 (Nat.zero_add _), List.drop_zero, List.drop_zero, hep]
      by_cases q : wdB bs p (p + (WL.getD (w - 1) []).length) = WL.getD (w - 1) []
      · rw [if_pos q, if_pos ((wcd_iff w1 w2).mpr q)]
      · rw [if_neg q, if_neg (fun z => q ((wcd_iff w1 w2).mp z))]; rfl
    · rw [if_neg (fun q => e ((nI_eq (by omega) (by omega)).mp q)), if_neg]
      intro q
      have q2 := (wcd_iff w1 w2).mp q
      apply e
      rw [← q2]; simp [wdB]
  · have hkd : ¬ kdI bs n p = -2 := by
      unfold kdI
      by_cases e : n ≤ p
      · rw [if_pos e]; decide
      · rw [if_neg e, if_neg (fun q => hl ⟨by omega, q⟩)]
        split
        · decide
        · exact fun q => b2 q.symm
    rw [if_neg hkd, if_neg]
    unfold tcd
    by_cases e : n ≤ p
    · rw [if_pos e]; omega
    · rw [if_neg e, if_neg (fun q => hl ⟨by omega, q⟩)]
      split <;> omega
theorem c_passW1 (hA : 43 ≤ A.length) (hn : n ≤ 400) (hbs : ∀ j, bs j < 256) (h : tpR bs n o x fl tl ar) {k : UInt32} {w : Nat} (hk : SWt k w) (ht : (tok bs n x.1).1 = w) : ∃ fl', xC E (d + 2) 74 [.ref 36, .float k] (tw A fl tl ar) = some (some (.int 1), tw A fl' tl ar) ∧ tpR bs n o (adv x) fl' tl ar ∧ tpF fl tl ar fl' tl ar := by
  obtain ⟨fl', k0, k1, k2⟩ := c_nextR (E := E) (d := d) hA hn hbs h
  refine ⟨fl', ?_, k1, k2⟩
  rw [k74 _ _ _ _ _ (t_k36 hA), c_isWord hA hn hbs h hk, if_pos ht, xI_s, Option.bind_some]
  dsimp only
  rw [if_neg (by decide), k0, xV_s, Option.bind_some, if_pos (by decide)]
theorem c_passW0 (hA : 43 ≤ A.length) (hn : n ≤ 400) (hbs : ∀ j, bs j < 256) (h : tpR bs n o x fl tl ar) {k : UInt32} {w : Nat} (hk : SWt k w) (ht : ¬ (tok bs n x.1).1 = w) : xC E (d + 2) 74 [.ref 36, .float k] (tw A fl tl ar) = some (some (.int 0), tw A fl tl ar) := by
  rw [k74 _ _ _ _ _ (t_k36 hA), c_isWord hA hn hbs h hk, if_neg ht, xI_s, Option.bind_some]
  dsimp only
  rw [if_pos rfl, if_pos (by decide)]
theorem tpR.kd (h : tpR bs n o x fl tl ar) (hbs : ∀ j, bs j < 256) {c : Nat} (hc : c < 256) (hl : isL c = false) (hd : isD c = false) : fl 6 = nI c ↔ (tok bs n x.1).1 = 100 + c := by
  rw [h.2.2.2.1]; exact kd_sign hbs hc hl hd
theorem c_passS1 (hA : 43 ≤ A.length) (hn : n ≤ 400) (hbs : ∀ j, bs j < 256) (h : tpR bs n o x fl tl ar) {c : Nat} (hc : c < 256) (hl : isL c = false) (hd : isD c = false) (ht : (tok bs n x.1).1 = 100 + c) : ∃ fl', xC E (d + 2) 75 [.ref 36, .int (nI c)] (tw A fl tl ar) = some (some (.int 1), tw A fl' tl ar) ∧ tpR bs n o (adv x) fl' tl ar ∧ tpF fl tl ar fl' tl ar := by
  obtain ⟨fl', k0, k1, k2⟩ := c_nextR (E := E) (d := d) hA hn hbs h
  refine ⟨fl', ?_, k1, k2⟩
  rw [k75 _ _ _ _ _ (t_k36 hA), t_g36_6 hA, Option.bind_some, if_pos ((h.kd hbs hc hl hd).mpr ht), if_neg (by decide), k0, xV_s, Option.bind_some]
theorem c_passS0 (hA : 43 ≤ A.length) (hbs : ∀ j, bs j < 256) (h : tpR bs n o x fl tl ar) {c : Nat} (hc : c < 256) (hl : isL c = false) (hd : isD c = false) (ht : ¬ (tok bs n x.1).1 = 100 + c) : xC E (d + 2) 75 [.ref 36, .int (nI c)] (tw A fl tl ar) = some (some (.int 0), tw A fl tl ar) := by
  rw [k75 _ _ _ _ _ (t_k36 hA), t_g36_6 hA, Option.bind_some, if_neg (fun q => ht ((h.kd hbs hc hl hd).mp q)), if_pos rfl]
theorem c_emit3 (hA : 43 ≤ A.length) (h : tpR bs n o x fl tl ar) (hl : x.2.2.1.length < 400) (op a : Nat) : ∃ tl' ar', xC E (d + 1) 94 [.ref 37, .int (nI op), .int (nI a)] (tw A fl tl ar) = some (none, tw A fl tl' ar') ∧ tpR bs n o (emi x op a) fl tl' ar' ∧ tpF fl tl ar fl tl' ar' ∧ ar' 3 = ar 3 := by
  obtain ⟨h1, h2, h3, h4, h5, h6, h7, h8, h9, h10, h11, h12⟩ := h
  refine ⟨upd tl 4 (nI (x.2.2.1.length + 1)), sar (sar ar 0 (upd (ar 0) x.2.2.1.length (nI op))) 1 (upd (ar 1) x.2.2.1.length (nI a)), ?_, ?_, ?_, ?_⟩
  · rw [k94 _ _ _ _ _ _ (t_k37 hA)]
    simp (disch := omega) only [t_k36, t_k37, t_r36_0, t_r36_1, t_g36_2, t_p36_2, t_g36_3, t_p36_3, t_g36_4, t_p36_4, t_g36_5, t_p36_5, t_g36_6, t_p36_6, t_g36_7, t_p36_7, t_g36_8, t_p36_8, t_g36_9, t_p36_9, t_r37_0, t_r37_1, t_r37_2, t_r37_3, t_g37_4, t_p37_4, t_g37_5, t_p37_5, t_g37_6, t_p37_6, t_a38, t_s38, t_l38, t_a39, t_s39, t_l39, t_a40, t_s40, t_l40, t_a41, t_s41, t_l41, t_a42, t_s42, t_l42, Option.bind_some, h8, nI_leI, zl, nI_add, sar_n]
    rw [if_neg (by omega)]
  · refine ⟨h1, h2, h3, h4, h5, h6, h7, ?_, ?_, fun j q hq => ?_, fun j q hq => ?_, fun j hj => ?_⟩
    · simp only [emi, List.length_append, List.length_cons, List.length_nil]; exact upd_s
    · rw [upd_n (by omega)]; exact h9
    · rw [sar_n (show 0 ≠ 1 by omega), sar_s, sar_s]
      simp only [emi] at hq
      by_cases e : j = x.2.2.1.length
      · subst e
        rw [List.getElem?_append_right (Nat.le_refl _), Nat.sub_self] at hq
        cases hq
        exact ⟨upd_s, upd_s⟩
      · have hj : j < x.2.2.1.length := by
          have := (List.getElem?_eq_some_iff.mp hq).1
          simp only [List.length_append, List.length_cons, List.length_nil] at this; omega
        rw [List.getElem?_append_left hj] at hq
        rw [upd_n e, upd_n e]; exact h10 j q hq
    · rw [sar_n (by omega), sar_n (by omega)]; exact h11 j q hq
    · rw [sar_n (by omega), sar_n (by omega)]; exact h12 j hj
  · exact ⟨rfl, rfl, rfl, by rw [upd_n (by omega)], by rw [sar_n (by omega), sar_n (by omega)], by rw [sar_n (by omega), sar_n (by omega)]⟩
  · rw [sar_n (by omega), sar_n (by omega)]
theorem c_emit (hA : 43 ≤ A.length) (h : tpR bs n o x fl tl ar) (hl : x.2.2.1.length < 400) (op a : Nat) : ∃ tl' ar', xC E (d + 1) 94 [.ref 37, .int (nI op), .int (nI a)] (tw A fl tl ar) = some (none, tw A fl tl' ar') ∧ tpR bs n o (emi x op a) fl tl' ar' ∧ tpF fl tl ar fl tl' ar' := by
  obtain ⟨tl', ar', k1, k2, k3, k4⟩ := c_emit3 (E := E) (d := d) hA h hl op a
  exact ⟨tl', ar', k1, k2, k3⟩
theorem c_emitX (hA : 43 ≤ A.length) {t : Nat} (h : tpX bs n t fl tl) (op a : Int32) : ∃ tl' ar', xC E (d + 1) 94 [.ref 37, .int op, .int a] (tw A fl tl ar) = some (none, tw A fl tl' ar') ∧ tpX bs n t fl tl' ∧ tpF fl tl ar fl tl' ar' := by
  obtain ⟨h1, s, h2, h3⟩ := h
  by_cases e : 400 ≤ s
  · refine ⟨tl, ar, ?_, ⟨h1, s, h2, h3⟩, tpF.rf⟩
    rw [k94 _ _ _ _ _ _ (t_k37 hA)]
    simp (disch := omega) only [t_k36, t_k37, t_r36_0, t_r36_1, t_g36_2, t_p36_2, t_g36_3, t_p36_3, t_g36_4, t_p36_4, t_g36_5, t_p36_5, t_g36_6, t_p36_6, t_g36_7, t_p36_7, t_g36_8, t_p36_8, t_g36_9, t_p36_9, t_r37_0, t_r37_1, t_r37_2, t_r37_3, t_g37_4, t_p37_4, t_g37_5, t_p37_5, t_g37_6, t_p37_6, t_a38, t_s38, t_l38, t_a39, t_s39, t_l39, t_a40, t_s40, t_l40, t_a41, t_s41, t_l41, t_a42, t_s42, t_l42, Option.bind_some, h3, nI_leI]
    rw [if_pos e]
  · refine ⟨upd tl 4 (nI (s + 1)), sar (sar ar 0 (upd (ar 0) s op)) 1 (upd (ar 1) s a), ?_, ?_, ?_⟩
    · rw [k94 _ _ _ _ _ _ (t_k37 hA)]
      simp (disch := omega) only [t_k36, t_k37, t_r36_0, t_r36_1, t_g36_2, t_p36_2, t_g36_3, t_p36_3, t_g36_4, t_p36_4, t_g36_5, t_p36_5, t_g36_6, t_p36_6, t_g36_7, t_p36_7, t_g36_8, t_p36_8, t_g36_9, t_p36_9, t_r37_0, t_r37_1, t_r37_2, t_r37_3, t_g37_4, t_p37_4, t_g37_5, t_p37_5, t_g37_6, t_p37_6, t_a38, t_s38, t_l38, t_a39, t_s39, t_l39, t_a40, t_s40, t_l40, t_a41, t_s41, t_l41, t_a42, t_s42, t_l42, Option.bind_some, h3, nI_leI, zl, nI_add, sar_n]
      rw [if_neg (by omega)]
    · exact ⟨h1, s + 1, by omega, upd_s⟩
    · exact ⟨rfl, rfl, rfl, by rw [upd_n (by omega)], by rw [sar_n (by omega), sar_n (by omega)], by rw [sar_n (by omega), sar_n (by omega)]⟩
theorem c_aim (hA : 43 ≤ A.length) (hx : x.2.2.1.length ≤ 400) (h : tpR bs n o x fl tl ar) {s op w : Nat} (hs : x.2.2.1[s]? = some (op, w)) : ∃ ar', xC E (d + 1) 95 [.ref 37, .int (nI s)] (tw A fl tl ar) = some (none, tw A fl tl ar') ∧ tpR bs n o (aimx x s op) fl tl ar' ∧ tpF fl tl ar fl tl ar' := by
  obtain ⟨h1, h2, h3, h4, h5, h6, h7, h8, h9, h10, h11, h12⟩ := h
  have hsl := (List.getElem?_eq_some_iff.mp hs).1
  refine ⟨sar ar 1 (upd (ar 1) s (nI x.2.2.1.length)), ?_, ?_, ?_⟩
  · rw [k95 _ _ _ _ _ (t_k37 hA), if_neg (nI_pos (by omega))]
    simp (disch := omega) only [t_k36, t_k37, t_r36_0, t_r36_1, t_g36_2, t_p36_2, t_g36_3, t_p36_3, t_g36_4, t_p36_4, t_g36_5, t_p36_5, t_g36_6, t_p36_6, t_g36_7, t_p36_7, t_g36_8, t_p36_8, t_g36_9, t_p36_9, t_r37_0, t_r37_1, t_r37_2, t_r37_3, t_g37_4, t_p37_4, t_g37_5, t_p37_5, t_g37_6, t_p37_6, t_a38, t_s38, t_l38, t_a39, t_s39, t_l39, t_a40, t_s40, t_l40, t_a41, t_s41, t_l41, t_a42, t_s42, t_l42, Option.bind_some, h8, nI_leI]
    rw [if_neg (by omega)]
  · refine ⟨h1, h2, h3, h4, h5, h6, h7, ?_, h9, fun j q hq => ?_, fun j q hq => ?_, fun j hj => ?_⟩
    · simp only [aimx, List.length_set]; exact h8
    · rw [sar_n (by omega), sar_s]
      simp only [aimx, List.getElem?_set] at hq
      by_cases e : s = j
      · subst e
        rw [if_pos rfl, if_pos hsl] at hq
        cases hq
        exact ⟨(h10 s _ hs).1, upd_s⟩
      · rw [if_neg e] at hq
        rw [upd_n (fun w => e w.symm)]; exact h10 j q hq
    · rw [sar_n (by omega)]; exact h11 j q hq
    · rw [sar_n (by omega)]; exact h12 j hj
  · exact ⟨rfl, rfl, rfl, rfl, by rw [sar_n (by omega)], by rw [sar_n (by omega)]⟩
theorem c_aimX (hA : 43 ≤ A.length) {t : Nat} (h : tpX bs n t fl tl) {s : Nat} (hs : s ≤ 400) : ∃ ar', xC E (d + 1) 95 [.ref 37, .int (nI s)] (tw A fl tl ar) = some (none, tw A fl tl ar') ∧ tpF fl tl ar fl tl ar' := by
  obtain ⟨h1, z, h2, h3⟩ := h
  rw [k95 _ _ _ _ _ (t_k37 hA), if_neg (nI_pos (by omega))]
  by_cases e : z ≤ s
  · refine ⟨ar, ?_, tpF.rf⟩
    simp (disch := omega) only [t_k36, t_k37, t_r36_0, t_r36_1, t_g36_2, t_p36_2, t_g36_3, t_p36_3, t_g36_4, t_p36_4, t_g36_5, t_p36_5, t_g36_6, t_p36_6, t_g36_7, t_p36_7, t_g36_8, t_p36_8, t_g36_9, t_p36_9, t_r37_0, t_r37_1, t_r37_2, t_r37_3, t_g37_4, t_p37_4, t_g37_5, t_p37_5, t_g37_6, t_p37_6, t_a38, t_s38, t_l38, t_a39, t_s39, t_l39, t_a40, t_s40, t_l40, t_a41, t_s41, t_l41, t_a42, t_s42, t_l42, Option.bind_some, h3, nI_leI]
    rw [if_pos e]
  · refine ⟨sar ar 1 (upd (ar 1) s (nI z)), ?_, ?_⟩
    · simp (disch := omega) only [t_k36, t_k37, t_r36_0, t_r36_1, t_g36_2, t_p36_2, t_g36_3, t_p36_3, t_g36_4, t_p36_4, t_g36_5, t_p36_5, t_g36_6, t_p36_6, t_g36_7, t_p36_7, t_g36_8, t_p36_8, t_g36_9, t_p36_9, t_r37_0, t_r37_1, t_r37_2, t_r37_3, t_g37_4, t_p37_4, t_g37_5, t_p37_5, t_g37_6, t_p37_6, t_a38, t_s38, t_l38, t_a39, t_s39, t_l39, t_a40, t_s40, t_l40, t_a41, t_s41, t_l41, t_a42, t_s42, t_l42, Option.bind_some, h3, nI_leI]
      rw [if_neg e]
    · exact ⟨rfl, rfl, rfl, rfl, by rw [sar_n (by omega)], by rw [sar_n (by omega)]⟩
/-- what a reader comes to -/
def CO (bs : Nat → Nat) (n : Nat) (o : Bool) (A : xH) (fl tl : Nat → Int32) (ar : Nat → Nat → Int32) (r : PR) (res : xO) : Prop := ∃ fl' tl' ar', tpF fl tl ar fl' tl' ar' ∧ match r with
  | .inl t => res = some (some (.int 0), tw A fl' tl' ar') ∧ tpX bs n t fl' tl'
  | .inr y => res = some (some (.int 1), tw A fl' tl' ar') ∧ tpR bs n o y fl' tl' ar'
theorem CO.tr {fl1 tl1 : Nat → Int32} {ar1 : Nat → Nat → Int32} {r : PR} {res : xO} (h : tpF fl tl ar fl1 tl1 ar1) (g : CO bs n o A fl1 tl1 ar1 r res) : CO bs n o A fl tl ar r res := by
  obtain ⟨fl', tl', ar', g1, g2⟩ := g
  exact ⟨fl', tl', ar', h.tr g1, g2⟩
def CT (bs : Nat → Nat) (n : Nat) (o : Bool) (f : PX → PR) (call : xH → xO) : Prop := ∀ (A : xH) (fl tl : Nat → Int32) (ar : Nat → Nat → Int32) (x : PX), 43 ≤ A.length → okx (tkN bs n) x → tpR bs n o x fl tl ar → CO bs n o A fl tl ar (f x) (call (tw A fl tl ar))
theorem hTk : ∀ i, (tok bs n i).1 ≠ 0 → i < tkN bs n := fun _ h => tok_lt h
/-- the loop's end -/
theorem CO.one (h : tpR bs n o x fl tl ar) : CO bs n o A fl tl ar (.inr x) (if x01 1 = true then some (some (.int 1), tw A fl tl ar) else none) := ⟨fl, tl, ar, tpF.rf, by rw [if_pos (by decide)], h⟩
theorem CO.zero {t : Nat} (h : tpX bs n t fl tl) : CO bs n o A fl tl ar (.inl t) (if x01 0 = true then some (some (.int 0), tw A fl tl ar) else none) := ⟨fl, tl, ar, tpF.rf, by rw [if_pos (by decide)], h⟩
end READ
