/-! ===== every sum, every test of a text comes to something ===== -/
section PURE
variable {T : Nat → Nat × Nat} {N : Nat} {o : Bool} {F : List (Nat × Nat)} {wd : Nat → Int} {nw to K : Nat} {askF : List Nat} {f : PX → PR}
def PO (F : List (Nat × Nat)) (wd : Nat → Int) (nw to i : Nat) (st : List Int) (j : Nat) (st0 : List Int) : Prop := RB1 F wd nw to i st ∨ ∃ v : Int, -1000000000 ≤ v ∧ v ≤ 1000000000 ∧ RS1 F wd nw to i st j (v :: st0)
def PB (F : List (Nat × Nat)) (wd : Nat → Int) (nw to i : Nat) (st : List Int) (j : Nat) (st0 : List Int) : Prop := RB1 F wd nw to i st ∨ ∃ v : Int, (v = 0 ∨ v = 1) ∧ RS1 F wd nw to i st j (v :: st0)
def PV (o : Bool) (N : Nat) (F : List (Nat × Nat)) (wd : Nat → Int) (nw to : Nat) (askF : List Nat) (f : PX → PR) (K : Nat) : Prop := ∀ (x y : PX) (st : List Int), f x = .inr y → okx N x → agr F askF to x y → st.length + K ≤ 55 → PO F wd nw to x.2.2.1.length st y.2.2.1.length st
def PVB (o : Bool) (N : Nat) (F : List (Nat × Nat)) (wd : Nat → Int) (nw to : Nat) (askF : List Nat) (f : PX → PR) (K : Nat) : Prop := ∀ (x y : PX) (st : List Int), f x = .inr y → okx N x → agr F askF to x y → st.length + K ≤ 55 → PB F wd nw to x.2.2.1.length st y.2.2.1.length st
def nwR (o : Bool) (wd : Nat → Int) (nw : Nat) : Prop := nw = (if o = true then 56 else 7) ∧ ∀ j, -1000000000 ≤ wd j ∧ wd j ≤ 1000000000
theorem PO.op {i j op : Nat} {st : List Int} {v : Int} (h : PO F wd nw to i (v :: st) j (v :: st)) (hj : j < to) (hst : st.length ≤ 55) (hF : F[j]? = some (op, 0)) (h5 : 5 ≤ op) (h12 : op ≤ 12) : PO F wd nw to i (v :: st) (j + 1) st := by
  rcases h with h | ⟨w, w1, w2, w3⟩
  · exact Or.inl h
  · cases hz : comb op v w with
    | none => exact Or.inl (w3.rb (rb_op hj (by omega) hF h5 h12 hz))
    | some z => exact Or.inr ⟨z, (comb_bd hz).1, (comb_bd hz).2, w3.tr (rs_op hj (by omega) hF h5 h12 hz)⟩
theorem PO.seq {i j k : Nat} {s1 st : List Int} (h : PO F wd nw to i s1 j st) (g : ∀ v : Int, -1000000000 ≤ v → v ≤ 1000000000 → PO F wd nw to j (v :: st) k st) : PO F wd nw to i s1 k st := by
  rcases h with h | ⟨w, w1, w2, w3⟩
  · exact Or.inl h
  · rcases g w w1 w2 with q | ⟨z, z1, z2, z3⟩
    · exact Or.inl (w3.rb q)
    · exact Or.inr ⟨z, z1, z2, w3.tr z3⟩
theorem PB.seq {i j k : Nat} {s1 st : List Int} (h : PB F wd nw to i s1 j st) (g : ∀ v : Int, (v = 0 ∨ v = 1) → PB F wd nw to j (v :: st) k st) : PB F wd nw to i s1 k st := by
  rcases h with h | ⟨w, w1, w3⟩
  · exact Or.inl h
  · rcases g w w1 with q | ⟨z, z1, z3⟩
    · exact Or.inl (w3.rb q)
    · exact Or.inr ⟨z, z1, w3.tr z3⟩
theorem wdL_lt {c w : Nat} (h : wdL c = some w) : w < 7 := by
  unfold wdL at h
  repeat' split at h
  all_goals first
    | (cases h; omega)
    | cases h
theorem wdO_lt {c w : Nat} (h : wdO c = some w) : w < 6 := by
  unfold wdO at h
  repeat' split at h
  all_goals first
    | (cases h; omega)
    | cases h
theorem pv_leaf (hw : nwR o wd nw) : PV o N F wd nw to askF (pLeaf T o) 2 := by
  intro x y st h hx ha hst
  obtain ⟨a1, a2, a3, a4⟩ := ha
  have hpo := hx.2.2.1
  have hak := hx.2.2.2
  have fin : ∀ op a, y.2.2.1 = x.2.2.1 ++ [(op, a)] → (op = 0 ∧ a ≤ 1000 ∨ op = 1 ∧ a < nw) → PO F wd nw to x.2.2.1.length st y.2.2.1.length st := by
    intro op a hy hop
    have hyl : y.2.2.1.length = x.2.2.1.length + 1 := by rw [hy]; simp
    have hFx : F[x.2.2.1.length]? = some (op, a) := by
      rw [a1 _ (Nat.le_refl _) (by omega), hy, List.getElem?_append_right (Nat.le_refl _), Nat.sub_self]; rfl
    rw [hyl]
    rcases hop with ⟨rfl, h1⟩ | ⟨rfl, h1⟩
    · exact Or.inr ⟨(a : Int), by omega, by omega, rs_num (by omega) (by omega) hFx h1⟩
    · exact Or.inr ⟨wd a, (hw.2 a).1, (hw.2 a).2, rs_word (by omega) (by omega) hFx h1⟩
  have ask : ∀ b c, o = true → x.2.1 ≠ 50 → pAsk T b c (x.1 + 1, x.2.1 + 1, x.2.2) = .inr y → PO F wd nw to x.2.2.1.length st y.2.2.1.length st := by
    intro b c ho h0 h
    unfold pAsk at h
    split at h
    · cases h
      refine fin 1 (6 + x.2.2.2.length) rfl (Or.inr ⟨rfl, ?_⟩)
      rw [hw.1, if_pos ho]; omega
    · cases h
  unfold pLeaf at h
  by_cases h0 : x.2.1 = 50
  · rw [if_pos h0] at h; cases h
  rw [if_neg h0] at h
  by_cases h1 : (T x.1).1 = 50 ∧ (T x.1).2 ≤ 1000
  · rw [if_pos h1] at h; cases h; exact fin 0 _ rfl (Or.inl ⟨rfl, h1.2⟩)
  rw [if_neg h1] at h
  by_cases h2 : o = true ∧ (T x.1).1 = 19
  · rw [if_pos h2] at h; exact ask _ _ h2.1 h0 h
  rw [if_neg h2] at h
  by_cases h3 : o = true ∧ (T x.1).1 = 12
  · rw [if_pos h3] at h; exact ask _ _ h3.1 h0 h
  rw [if_neg h3] at h
  cases ho : o with
  | false =>
    rw [ho] at h
    simp only [Bool.false_eq_true, if_false] at h
    cases hq : wdL (T x.1).1 with
    | none => rw [hq] at h; cases h
    | some w =>
      rw [hq] at h
      cases h
      refine fin 1 w rfl (Or.inr ⟨rfl, ?_⟩)
      rw [hw.1, ho]; exact wdL_lt hq
  | true =>
    rw [ho] at h
    simp only [if_true] at h
    cases hq : wdO (T x.1).1 with
    | none => rw [hq] at h; cases h
    | some w =>
      rw [hq] at h
      cases h
      refine fin 1 w rfl (Or.inr ⟨rfl, ?_⟩)
      have := wdO_lt hq
      rw [hw.1, ho, if_pos rfl]; omega
theorem agr.em2 {x z y : PX} {op a : Nat} (h : agr F askF to x y) (hge : xle N (emi z op a) y) : agr F askF to x z := by
  obtain ⟨b1, b2, b3, b4⟩ := h
  obtain ⟨c1, c2, c3, c4, c5, c6, c7, c8, c9, c10⟩ := hge
  simp only [emi, List.length_append, List.length_cons, List.length_nil] at c3 c5 c10
  refine ⟨fun j q1 q2 => ?_, by omega, b3, fun j q hq => b4 j q ?_⟩
  · rw [b1 j q1 (by omega), c5 j (by omega), List.getElem?_append_left q2]
  · rw [c10 j (List.getElem?_eq_some_iff.mp hq).1]; exact hq
theorem pv_loop {step : PX → Option PR} {g : PX → PR} {opf : PX → Nat} (hTl : ∀ i, (T i).1 ≠ 0 → i < N) (hg : gd N g) (hst : ∀ z r, step z = some r → (T z.1).1 ≠ 0 ∧ r = rb (g (adv z)) (fun w => .inr (emi w (opf z) 0)) ∧ 5 ≤ opf z ∧ opf z ≤ 12) (hlp : ∀ c, gdw N (lp step c)) (hp : PV o N F wd nw to askF g K) : ∀ (c : Nat) (z y : PX) (st : List Int) (v : Int), lp step c z = .inr y → okx N z → agr F askF to z y → st.length + (K + 1) ≤ 55 → -1000000000 ≤ v → v ≤ 1000000000 → PO F wd nw to z.2.2.1.length (v :: st) y.2.2.1.length st
  | 0, z, y, st, v, h, hz, ha, hs, v1, v2 => by
    cases h; exact Or.inr ⟨v, v1, v2, RS1.rf⟩
  | c + 1, z, y, st, v, h, hz, ha, hs, v1, v2 => by
    cases hr : step z with
    | none => rw [lp_none hr] at h; cases h; exact Or.inr ⟨v, v1, v2, RS1.rf⟩
    | some r =>
      rw [lp_some hr] at h
      obtain ⟨t0, hr2, o5, o12⟩ := hst z r hr
      have hlt := hTl _ t0
      have hzx : okx N (adv z) := hz.le (xle_adv hlt)
      have hgz := hg (adv z) hzx.1
      rw [hr2] at h
      cases hq : g (adv z) with
      | inl t => rw [hq] at h; cases h
      | inr w =>
        rw [hq] at h hgz
        change lp step c (emi w (opf z) 0) = .inr y at h
        have hze := xle_ae hlt hgz.1 (opf z) 0
        have hge := hlp c (emi w (opf z) 0) (hze.1.2.1 hz.1)
        rw [h] at hge
        obtain ⟨hFo, hto⟩ := ha.at (N := N) (y := w) (by have := hgz.1.2.2.1; exact this) hge
        have h1 := hp (adv z) w (v :: st) hq hzx ((ha.r (N := N) (xle_adv hlt)).em2 hge) (by simp only [List.length_cons]; omega)
        have h2 := PO.op (st := st) (v := v) h1 hto (by omega) hFo o5 o12
        refine h2.seq (fun v' a b => ?_)
        have := pv_loop hTl hg hst hlp hp c (emi w (opf z) 0) y st v' h (hz.le hze.1) (ha.r hze.1) hs a b
        simp only [emi, List.length_append, List.length_cons, List.length_nil] at this
        exact this
theorem pv_term (hTl : ∀ i, (T i).1 ≠ 0 → i < N) (hf : gd N f) (hp : PV o N F wd nw to askF f K) : PV o N F wd nw to askF (pTerm T f) (K + 1) := by
  intro x y st h hx ha hst
  have hg := hf x hx.1
  unfold pTerm at h
  cases hr : f x with
  | inl t => rw [hr] at h; cases h
  | inr z =>
    rw [hr] at h hg
    have hz := hx.le hg.1
    have hge := lpt_gd (N := N) hTl hf 400 z hz.1
    change lp (sTerm T f) 400 z = .inr y at h
    rw [h] at hge
    refine (hp x z st hr hx (ha.l (N := N) hg.1 hge) (by omega)).seq (fun v a b => pv_loop (step := sTerm T f) (g := f) (opf := fun z => opT (T z.1).1) hTl hf (fun z r hz => ?_) (lpt_gd hTl hf) hp 400 z y st v h hz (ha.r (N := N) hg.1) hst a b)
    unfold sTerm at hz
    split at hz
    · rename_i q
      cases hz
      refine ⟨by omega, rfl, ?_⟩
      unfold opT; constructor <;> split <;> (try split) <;> omega
    · cases hz
theorem pv_sum (hTl : ∀ i, (T i).1 ≠ 0 → i < N) (hf : gd N f) (hp : PV o N F wd nw to askF f K) : PV o N F wd nw to askF (pSum T f) (K + 2) := by
  have ht := pv_term (T := T) hTl hf hp
  intro x y st h hx ha hst
  have hg := gd_term hTl hf x hx.1
  unfold pSum at h
  cases hr : pTerm T f x with
  | inl t => rw [hr] at h; cases h
  | inr z =>
    rw [hr] at h hg
    have hz := hx.le hg.1
    have hge := lps_gd (N := N) hTl hf 400 z hz.1
    change lp (sSum T f) 400 z = .inr y at h
    rw [h] at hge
    refine (ht x z st hr hx (ha.l (N := N) hg.1 hge) (by omega)).seq (fun v a b => pv_loop (step := sSum T f) (g := pTerm T f) (opf := fun z => opS (T z.1).1) hTl (gd_term hTl hf) (fun z r hz => ?_) (lps_gd hTl hf) ht 400 z y st v h hz (ha.r (N := N) hg.1) (by omega) a b)
    unfold sSum at hz
    split at hz
    · rename_i q
      cases hz
      refine ⟨by omega, rfl, ?_⟩
      unfold opS; constructor <;> split <;> omega
    · cases hz
theorem agr.et2 {x z y : PX} {c : Nat} (h : agr F askF to x y) (he : eat T c z = .inr y) : agr F askF to x z ∧ y.2.2.1 = z.2.2.1 := by
  unfold eat at he
  split at he
  · cases he; exact ⟨h, rfl⟩
  · cases he
theorem pv_part (hTl : ∀ i, (T i).1 ≠ 0 → i < N) (hw : nwR o wd nw) : ∀ k, PV o N F wd nw to askF (pPart T o k) (2 + 2 * k)
  | 0 => by
    intro x y st h hx ha hst
    unfold pPart at h
    split at h
    · cases h
    · exact pv_leaf hw x y st h hx ha hst
  | k + 1 => by
    intro x y st h hx ha hst
    unfold pPart at h
    split at h
    · rename_i q
      have hlt := hTl _ (show (T x.1).1 ≠ 0 by omega)
      cases hr : pSum T (pPart T o k) (adv x) with
      | inl t => rw [hr] at h; cases h
      | inr z =>
        rw [hr] at h
        change eat T 193 z = .inr y at h
        obtain ⟨e1, e2⟩ := (ha.r (N := N) (xle_adv hlt)).et2 h
        rw [e2]
        exact pv_sum hTl (gd_part hTl k) (pv_part hTl hw k) (adv x) z st hr (hx.le (xle_adv hlt)) e1 (by omega)
    · exact pv_leaf hw x y st h hx ha (by omega)
theorem pvb_cmp (hTl : ∀ i, (T i).1 ≠ 0 → i < N) (hf : gd N f) (hp : PV o N F wd nw to askF f K) : PVB o N F wd nw to askF (pCmp T f) (K + 3) := by
  have hs := pv_sum (T := T) hTl hf hp
  have hgs := gd_sum hTl hf
  intro x y st h hx ha hst
  have hg := hgs x hx.1
  unfold pCmp at h
  cases hr : pSum T f x with
  | inl t => rw [hr] at h; cases h
  | inr z =>
    rw [hr] at h hg
    dsimp only [rb] at h
    by_cases e : (T z.1).1 = 160 ∨ (T z.1).1 = 162 ∨ (T z.1).1 = 161
    · rw [if_pos e] at h
      have hlt : z.1 < N := hTl _ (by omega)
      have hz := hx.le hg.1
      have hzx : okx N (adv z) := hz.le (xle_adv hlt)
      have hg2 := hgs (adv z) hzx.1
      cases hr2 : pSum T f (adv z) with
      | inl t => rw [hr2] at h; cases h
      | inr z2 =>
        rw [hr2] at h hg2
        cases h
        have hge : xle N (emi z2 (opC (T z.1).1) 0) (emi z2 (opC (T z.1).1) 0) := xle.rf
        obtain ⟨hFo, hto⟩ := ha.at (N := N) (y := z2) (by have a := hg2.1.2.2.1; have b := hg.1.2.2.1; simp only [adv] at a; omega) hge
        have ha1 := ha.em2 hge
        rcases hs x z st hr hx (ha1.l (N := N) hg.1 ((xle_adv hlt).tr hg2.1)) (by omega) with q | ⟨v, v1, v2, v3⟩
        · exact Or.inl q
        · rcases hs (adv z) z2 (v :: st) hr2 hzx (ha1.r (N := N) (hg.1.tr (xle_adv hlt))) (by simp only [List.length_cons]; omega) with q | ⟨w, w1, w2, w3⟩
          · exact Or.inl (v3.rb q)
          · have h10 : ∃ zz : Int, (zz = 0 ∨ zz = 1) ∧ comb (opC (T z.1).1) v w = some zz := by
              unfold opC
              split
              · exact ⟨if v < w then 1 else 0, by split <;> simp, rfl⟩
              · split
                · exact ⟨if w < v then 1 else 0, by split <;> simp, rfl⟩
                · exact ⟨if v = w then 1 else 0, by split <;> simp, rfl⟩
            obtain ⟨zz, z1, z2'⟩ := h10
            have ho5 : 5 ≤ opC (T z.1).1 ∧ opC (T z.1).1 ≤ 12 := by unfold opC; constructor <;> split <;> (try split) <;> omega
            refine Or.inr ⟨zz, z1, ?_⟩
            have := (v3.tr w3).tr (rs_op (st := st) hto (by omega) hFo ho5.1 ho5.2 z2')
            simp only [emi, List.length_append, List.length_cons, List.length_nil]; exact this
    · rw [if_neg e] at h; cases h
theorem pvb_loop {step : PX → Option PR} {g : PX → PR} {op : Nat} (hop : op = 3 ∨ op = 4) (hTl : ∀ i, (T i).1 ≠ 0 → i < N) (hg : gd N g) (hst : ∀ z r, step z = some r → (T z.1).1 ≠ 0 ∧ r = rb (g (emi (adv z) op 0)) (fun w => .inr (aimx w z.2.2.1.length op))) (hlp : ∀ c, gdw N (lp step c)) (hp : PVB o N F wd nw to askF g K) : ∀ (c : Nat) (z y : PX) (st : List Int) (v : Int), lp step c z = .inr y → okx N z → agr F askF to z y → st.length + K ≤ 55 → (v = 0 ∨ v = 1) → PB F wd nw to z.2.2.1.length (v :: st) y.2.2.1.length st
  | 0, z, y, st, v, h, hz, ha, hs, hv => by
    cases h; exact Or.inr ⟨v, hv, RS1.rf⟩
  | c + 1, z, y, st, v, h, hz, ha, hs, hv => by
    cases hr : step z with
    | none => rw [lp_none hr] at h; cases h; exact Or.inr ⟨v, hv, RS1.rf⟩
    | some r =>
      rw [lp_some hr] at h
      obtain ⟨t0, hr2⟩ := hst z r hr
      have hlt := hTl _ t0
      have hzx : okx N (emi (adv z) op 0) := okx_ea hz hlt
      have hgz := hg _ hzx.1
      rw [hr2] at h
      cases hq : g (emi (adv z) op 0) with
      | inl t => rw [hq] at h; cases h
      | inr w =>
        rw [hq] at h hgz
        change lp step c (aimx w z.2.2.1.length op) = .inr y at h
        have hze := xle_ea hlt hgz.1
        have hge := hlp c (aimx w z.2.2.1.length op) (hze.1.2.1 hz.1)
        rw [h] at hge
        obtain ⟨hFo, hlz, hto, haz⟩ := ha.jmp (N := N) hgz.1 hge
        have ht4 := ha.2.2.1
        have on : PB F wd nw to z.2.2.1.length (v :: st) w.2.2.1.length st := by
          have sub := hp (emi (adv z) op 0) w st hq hzx haz hs
          simp only [emi, adv, List.length_append, List.length_cons, List.length_nil] at sub
          have go : RS1 F wd nw to z.2.2.1.length (v :: st) (z.2.2.1.length + 1) st → PB F wd nw to z.2.2.1.length (v :: st) w.2.2.1.length st := by
            intro j
            rcases sub with q | ⟨u, u1, u2⟩
            · exact Or.inl (j.rb q)
            · exact Or.inr ⟨u, u1, j.tr u2⟩
          rcases hop with rfl | rfl
          · by_cases q : v = 0
            · exact Or.inr ⟨v, hv, rs_and0 (by omega) (by omega) hFo q hlz (by omega)⟩
            · exact go (rs_and1 (by omega) (by omega) hFo q)
          · by_cases q : v = 1
            · exact Or.inr ⟨v, hv, rs_or1 (by omega) (by omega) hFo q hlz (by omega)⟩
            · exact go (rs_or0 (by omega) (by omega) hFo q)
        refine on.seq (fun v' a => ?_)
        have := pvb_loop hop hTl hg hst hlp hp c (aimx w z.2.2.1.length op) y st v' h (hz.le hze.1) (ha.r hze.1) hs a
        simp only [aimx, List.length_set] at this
        exact this
theorem pvb_both (hTl : ∀ i, (T i).1 ≠ 0 → i < N) (hf : gd N f) (hp : PVB o N F wd nw to askF f K) : PVB o N F wd nw to askF (pBoth T f) K := by
  intro x y st h hx ha hst
  have hg := hf x hx.1
  unfold pBoth at h
  cases hr : f x with
  | inl t => rw [hr] at h; cases h
  | inr z =>
    rw [hr] at h hg
    have hz := hx.le hg.1
    have hge := lpb_gd (N := N) hTl hf 400 z hz.1
    change lp (sBoth T f) 400 z = .inr y at h
    rw [h] at hge
    refine (hp x z st hr hx (ha.l (N := N) hg.1 hge) hst).seq (fun v a => pvb_loop (step := sBoth T f) (g := f) (op := 3) (Or.inl rfl) hTl hf (fun z r hz => ?_) (lpb_gd hTl hf) hp 400 z y st v h hz (ha.r (N := N) hg.1) hst a)
    unfold sBoth at hz
    split at hz
    · rename_i q
      cases hz
      exact ⟨by omega, rfl⟩
    · cases hz
theorem pvb_test (hTl : ∀ i, (T i).1 ≠ 0 → i < N) (hf : gd N f) (hp : PVB o N F wd nw to askF f K) : PVB o N F wd nw to askF (pTest T f) K := by
  have hb := pvb_both (T := T) hTl hf hp
  intro x y st h hx ha hst
  have hg := gd_both hTl hf x hx.1
  unfold pTest at h
  cases hr : pBoth T f x with
  | inl t => rw [hr] at h; cases h
  | inr z =>
    rw [hr] at h hg
    have hz := hx.le hg.1
    have hge := lpo_gd (N := N) hTl hf 400 z hz.1
    change lp (sTest T f) 400 z = .inr y at h
    rw [h] at hge
    refine (hb x z st hr hx (ha.l (N := N) hg.1 hge) hst).seq (fun v a => pvb_loop (step := sTest T f) (g := pBoth T f) (op := 4) (Or.inr rfl) hTl (gd_both hTl hf) (fun z r hz => ?_) (lpo_gd hTl hf) hb 400 z y st v h hz (ha.r (N := N) hg.1) hst a)
    unfold sTest at hz
    split at hz
    · rename_i q
      cases hz
      exact ⟨by omega, rfl⟩
    · cases hz
theorem pvb_plain (hTl : ∀ i, (T i).1 ≠ 0 → i < N) (hw : nwR o wd nw) : ∀ k, PVB o N F wd nw to askF (pPlain T o k) (5 + 2 * k) := by
  have plain : ∀ k, gd N (pPos T o k) → PVB o N F wd nw to askF (pPos T o k) (5 + 2 * k) → PVB o N F wd nw to askF (pPlain T o k) (5 + 2 * k) := by
    intro k hgp hpos x y st hf hx ha hst
    rw [pPlain_eq] at hf
    unfold pNot at hf
    have hn := nts_ok (T := T) (N := N) hTl 400 x.1 false hx.1
    generalize nts T 400 x.1 false = w at hf hn
    obtain ⟨hn1, hn2, hn3⟩ := hn
    have hwx : okx N (w.1, x.2) := ⟨hn2, by have := hx.2.1; dsimp only; omega, hx.2.2.1, hx.2.2.2⟩
    cases hr : pPos T o k (w.1, x.2) with
    | inl t => rw [hr] at hf; cases hf
    | inr z =>
      rw [hr] at hf
      change Sum.inr (if w.2 = true then emi z 2 0 else z) = (Sum.inr y : PR) at hf
      cases hf
      have hzl : x.2.2.1.length ≤ z.2.2.1.length := by
        have := hgp (w.1, x.2) hn2
        rw [hr] at this; exact this.1.2.2.1
      by_cases q : w.2 = true
      · rw [if_pos q] at ha ⊢
        have hge : xle N (emi z 2 0) (emi z 2 0) := xle.rf
        obtain ⟨hFo, hto⟩ := ha.at (N := N) (y := z) hzl hge
        rcases hpos (w.1, x.2) z st hr hwx (ha.em2 hge) hst with r | ⟨v, v1, v2⟩
        · exact Or.inl r
        · refine Or.inr ⟨1 - v, by omega, ?_⟩
          have := v2.tr (rs_not (st := st) hto (by omega) hFo v1)
          simp only [emi, List.length_append, List.length_cons, List.length_nil]; exact this
      · rw [if_neg q] at ha ⊢
        exact hpos (w.1, x.2) z st hr hwx ha hst
  have cmp : ∀ k, PVB o N F wd nw to askF (pCmp T (pPart T o k)) (5 + 2 * k) := by
    intro k
    have := pvb_cmp (T := T) hTl (gd_part hTl k) (pv_part (F := F) (to := to) (askF := askF) hTl hw k)
    rw [show 5 + 2 * k = 2 + 2 * k + 3 by omega]; exact this
  intro k
  induction k with
  | zero =>
    refine plain 0 (fun y hy => ?_) (fun x y st hf hx ha hst => ?_)
    · rw [pos0]
      split
      · exact hy
      · exact gd_cmp hTl (gd_part hTl 0) y hy
    · rw [pos0] at hf
      split at hf
      · cases hf
      · exact cmp 0 x y st hf hx ha hst
  | succ k ihk =>
    refine plain (k + 1) (fun y hy => ?_) (fun x y st hf hx ha hst => ?_)
    · rw [posS]
      split
      · rename_i q; exact gd_eat hTl (gd_test hTl (gd_plain hTl k)) (by omega) (hTl _ (by omega))
      · exact gd_cmp hTl (gd_part hTl (k + 1)) y hy
    · rw [posS] at hf
      split at hf
      · rename_i q
        have hlt := hTl _ (show (T x.1).1 ≠ 0 by omega)
        cases hr : pTest T (pPlain T o k) (adv x) with
        | inl t => rw [hr] at hf; cases hf
        | inr z =>
          rw [hr] at hf
          change eat T 141 z = .inr y at hf
          obtain ⟨e1, e2⟩ := (ha.r (N := N) (xle_adv hlt)).et2 hf
          rw [e2]
          exact pvb_test hTl (gd_plain hTl k) ihk (adv x) z st hr (hx.le (xle_adv hlt)) e1 (by omega)
      · exact cmp (k + 1) x y st hf hx ha hst
/-- sums and tests of a text -/
theorem p_sums (hTl : ∀ i, (T i).1 ≠ 0 → i < N) (hw : nwR o wd nw) {x y : PX} (h : pSums T o x = .inr y) (hx : okx N x) (ha : agr F askF y.2.2.1.length x y) : wok F wd nw x.2.2.1.length y.2.2.1.length := by
  have hg := gl_sums _ _ h
  rcases pv_sum hTl (gd_part hTl 8) (pv_part hTl hw 8) x y [] h hx ha (by simp) with q | ⟨v, v1, v2, v3⟩
  · obtain ⟨_, b2⟩ := wth_rb hg q
    exact Or.inr ⟨hg, Or.inr b2⟩
  · obtain ⟨_, fu, b2⟩ := wth_rs hg v3
    exact Or.inr ⟨hg, Or.inl ⟨fu, v, b2, v1, v2⟩⟩
theorem p_tests (hTl : ∀ i, (T i).1 ≠ 0 → i < N) (hw : nwR o wd nw) {x y : PX} (h : pTests T o x = .inr y) (hx : okx N x) (ha : agr F askF y.2.2.1.length x y) : wok F wd nw x.2.2.1.length y.2.2.1.length := by
  have hg := gl_tests _ _ h
  rcases pvb_test hTl (gd_plain hTl 8) (pvb_plain hTl hw 8) x y [] h hx ha (by simp) with q | ⟨v, v1, v3⟩
  · obtain ⟨_, b2⟩ := wth_rb hg q
    exact Or.inr ⟨hg, Or.inr b2⟩
  · obtain ⟨_, fu, b2⟩ := wth_rs hg v3
    exact Or.inr ⟨hg, Or.inl ⟨fu, v, b2, by omega, by omega⟩⟩
end PURE
