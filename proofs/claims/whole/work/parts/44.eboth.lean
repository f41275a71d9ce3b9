/-! ===== tests: "not", "and", "or", brackets ===== -/
section EBOTH
variable {E : Nat × (Nat → Int32)} {d : Nat} {A : xH} {fl : Nat → Int32} {ar : Nat → Nat → Int32} {al : Nat → Nat → Int64} {T : Nat → Nat × Nat} {N g0 : Nat} {o : Bool} {F : List (Nat × Nat)} {wd : Nat → Int} {nw to K : Nat} {askF : List Nat} {LV : Nat → Nat → Int} {f : PX → PR}
theorem lpb_gd (hT : ∀ i, (T i).1 ≠ 0 → i < N) (hp : gd N f) : ∀ c, gdw N (lp (sBoth T f) c) := lp_gd (fun y hy r hr => by
  unfold sBoth at hr
  split at hr
  · rename_i q
    have hlt : y.1 < N := hT _ (by omega)
    cases hr
    have h1 := hp (emi (adv y) 3 0) (by simp only [adv, emi]; omega)
    cases hz : f (emi (adv y) 3 0) with
    | inl t => rw [hz] at h1; exact h1
    | inr z => rw [hz] at h1; exact xle_ea hlt h1.1
  · cases hr)
theorem lpo_gd (hT : ∀ i, (T i).1 ≠ 0 → i < N) (hp : gd N f) : ∀ c, gdw N (lp (sTest T f) c) := lp_gd (fun y hy r hr => by
  unfold sTest at hr
  split at hr
  · rename_i q
    have hlt : y.1 < N := hT _ (by omega)
    cases hr
    have h1 := gd_both hT hp (emi (adv y) 4 0) (by simp only [adv, emi]; omega)
    cases hz : pBoth T f (emi (adv y) 4 0) with
    | inl t => rw [hz] at h1; exact h1
    | inr z => rw [hz] at h1; exact xle_ea hlt h1.1
  · cases hr)
/-- a jump's cell and what lies behind it -/
theorem agr.jmp {z z2 y : PX} {op : Nat} (h : agr F askF to z y) (h1 : xle N (emi (adv z) op 0) z2) (h2 : xle N (aimx z2 z.2.2.1.length op) y) : F[z.2.2.1.length]? = some (op, z2.2.2.1.length) ∧ z.2.2.1.length < z2.2.2.1.length ∧ z2.2.2.1.length ≤ to ∧ agr F askF to (emi (adv z) op 0) z2 := by
  obtain ⟨b1, b2, b3, b4⟩ := h
  obtain ⟨a1, a2, a3, a4, a5, -⟩ := h1
  obtain ⟨c1, c2, c3, c4, c5, c6, c7, c8, c9, c10⟩ := h2
  simp only [emi, adv, List.length_append, List.length_cons, List.length_nil] at a3 a4 a5
  simp only [aimx, List.length_set] at c3 c4 c5 c10
  refine ⟨?_, by omega, by omega, fun j q1 q2 => ?_, by omega, b3, fun j q hq => b4 j q ?_⟩
  · rw [b1 _ (Nat.le_refl _) (by omega), c5 _ (by omega), List.getElem?_set_self (by omega)]
  · simp only [emi, adv, List.length_append, List.length_cons, List.length_nil] at q1
    rw [b1 j (by omega) (by omega), c5 j q2, List.getElem?_set_ne (by omega)]
  · rw [c10 j (List.getElem?_eq_some_iff.mp hq).1]; exact hq
theorem vB0 : vB 0 = 0 := rfl
theorem vB1 : vB 1 = 1 := rfl
theorem okx_ea {z : PX} {op : Nat} (hz : okx N z) (hlt : z.1 < N) : okx N (emi (adv z) op 0) := ⟨by simp only [emi, adv]; omega, by have := hz.2.1; simp only [emi, adv, List.length_append, List.length_cons, List.length_nil]; omega, hz.2.2.1, hz.2.2.2⟩
theorem evb_both_loop (hA : 69 ≤ A.length) (hT : evR T N g0 ar) (hTl : ∀ i, (T i).1 ≠ 0 → i < N) (hf : gd N f) (hp : EVB E A ar al N g0 o F wd nw to askF LV f 229 (d + 2) K) : ∀ (c : Nat) (z y : PX) (fl : Nat → Int32) (lv : Bool) (st : List Int) (v : Int32) (w3 : Value), lp (sBoth T f) c z = .inr y → okx N z → N ≤ z.1 + c → agr F askF to z y → st.length + K ≤ 55 → lvR E A ar al fl o wd nw askF LV → est N g0 o fl → fl 22 = nI (g0 + z.1) → (fl 24 = 0 ∨ fl 24 = 1) → (v = 0 ∨ v = 1) → ∃ fl' r, xD E (d + 3) 228 6 [.ref 48, .int (bB lv), .int v, w3] [] (mw A fl ar al) = some (some (.int r), mw A fl' ar al) ∧ eF fl fl' ∧ fl' 22 = nI (g0 + y.1) ∧ OUTB F wd nw to lv (fl 24) z.2.2.1.length (vB v :: st) r (fl' 24) y.2.2.1.length st := by
  have h4 := hT.2.2.2.1
  have hN4 := hT.1
  have no : ∀ (z : PX) (fl : Nat → Int32) (lv : Bool) (st : List Int) (v : Int32) (w3 : Value), ¬ (T z.1).1 = 5 → okx N z → est N g0 o fl → fl 22 = nI (g0 + z.1) → (fl 24 = 0 ∨ fl 24 = 1) → (v = 0 ∨ v = 1) → ∃ fl' r, xD E (d + 3) 228 6 [.ref 48, .int (bB lv), .int v, w3] [] (mw A fl ar al) = some (some (.int r), mw A fl' ar al) ∧ eF fl fl' ∧ fl' 22 = nI (g0 + z.1) ∧ OUTB F wd nw to lv (fl 24) z.2.2.1.length (vB v :: st) r (fl' 24) z.2.2.1.length st := by
    intro z fl lv st v w3 e hz he h22 h24 hv
    have hz1 := hz.1
    refine ⟨fl, v, ?_, eF.rf, h22, h24, hv, fun _ => rfl, fun q => Or.inr ⟨q.2, RS1.rf⟩⟩
    have hx01 : x01 v = true := by rcases hv with rfl | rfl <;> decide
    rw [e228_6, m_pass0 (c := 5) (cc := 5) hA hT he (by omega) h22 rfl (by omega) e, xI_s, Option.bind_some]
    dsimp only
    rw [i_if0, if_pos hx01]
  intro c
  induction c with
  | zero =>
    intro z y fl lv st v w3 hlp hz hc ha hst hl he h22 h24 hv
    cases hlp
    exact no z fl lv st v w3 (by rw [hT.2.2.1 z.1 (by omega)]; simp) hz he h22 h24 hv
  | succ c ih =>
    intro z y fl lv st v w3 hlp hz hc ha hst hl he h22 h24 hv
    by_cases e : (T z.1).1 = 5
    · rw [lp_some (if_pos e : sBoth T f z = _)] at hlp
      have hlt : z.1 < N := hTl _ (by omega)
      have hz1 := hz.1
      have hzx : okx N (emi (adv z) 3 0) := okx_ea hz hlt
      have hg := hf _ hzx.1
      cases hr : f (emi (adv z) 3 0) with
      | inl t => rw [hr] at hlp; cases hlp
      | inr z2 =>
        rw [hr] at hlp hg
        change lp (sBoth T f) c (aimx z2 z.2.2.1.length 3) = .inr y at hlp
        have hze := xle_ea hlt hg.1
        have hge := lpb_gd (N := N) hTl hf c (aimx z2 z.2.2.1.length 3) (hze.1.2.1 hz1)
        rw [hlp] at hge
        obtain ⟨hFo, hlz, hto, haz⟩ := ha.jmp (N := N) hg.1 hge
        have ht4 := ha.2.2.1
        have h124 : upd fl 22 (nI (g0 + (z.1 + 1))) 24 = fl 24 := upd_n (by omega)
        -- what is asked behind "and"
        have sub : ∀ lv2 : Bool, ∃ f1 r1, xC E (d + 2) 229 [.ref 48, .int (bB lv2)] (mw A (upd fl 22 (nI (g0 + (z.1 + 1)))) ar al) = some (some (.int r1), mw A f1 ar al) ∧ eF fl f1 ∧ f1 22 = nI (g0 + z2.1) ∧ OUTB F wd nw to lv2 (fl 24) (z.2.2.1.length + 1) st r1 (f1 24) z2.2.2.1.length st := by
          intro lv2
          obtain ⟨f1, r1, p1, p2, p3, p4⟩ := hp (emi (adv z) 3 0) z2 (upd fl 22 (nI (g0 + (z.1 + 1)))) lv2 st hr hzx haz (by omega) (hl.fr e22) (he.f e22) upd_s (by rw [h124]; exact h24)
          rw [h124] at p4
          simp only [emi, adv, List.length_append, List.length_cons, List.length_nil] at p4
          exact ⟨f1, r1, p1, e22.tr p2, p3, p4⟩
        -- on with what has come
        have on : ∀ (f1 : Nat → Int32) (v2 : Int32) (w : Value), eF fl f1 → f1 22 = nI (g0 + z2.1) → (v2 = 0 ∨ v2 = 1) → OUTB F wd nw to lv (fl 24) z.2.2.1.length (vB v :: st) v2 (f1 24) z2.2.2.1.length st → ∃ fl' r, xD E (d + 3) 228 6 [.ref 48, .int (bB lv), .int v2, w] [] (mw A f1 ar al) = some (some (.int r), mw A fl' ar al) ∧ eF fl fl' ∧ fl' 22 = nI (g0 + y.1) ∧ OUTB F wd nw to lv (fl 24) z.2.2.1.length (vB v :: st) r (fl' 24) y.2.2.1.length st := by
          intro f1 v2 w g1 g2 g3 g4
          obtain ⟨f3, r3, s1, s2, s3, s4⟩ := ih (aimx z2 z.2.2.1.length 3) y f1 lv st v2 w hlp (hz.le hze.1) (by have := hze.2; omega) (ha.r hze.1) hst (hl.fr g1) (he.f g1) g2 g4.1 g3
          simp only [aimx, List.length_set] at s4
          refine ⟨f3, r3, s1, g1.tr s2, s3, s4.1, s4.2.1, fun q => ?_, fun q => ?_⟩
          · have := g4.2.2.1 q
            rw [s4.2.2.1 (by rw [this]; exact q), this]
          · rcases g4.2.2.2 q with ⟨c1, c2⟩ | ⟨c1, c2⟩
            · left
              exact ⟨by rw [s4.2.2.1 (fun z => by rw [c1] at z; exact absurd z.2 (by decide)), c1], c2⟩
            · rcases s4.2.2.2 ⟨q.1, c1⟩ with ⟨d1, d2⟩ | ⟨d1, d2⟩
              · exact Or.inl ⟨d1, c2.rb d2⟩
              · exact Or.inr ⟨d1, c2.tr d2⟩
        have head : ∀ (s1 : Int32), (bB lv = 0 → s1 = 0) → (¬ bB lv = 0 → v = 0 → s1 = 0) → (¬ bB lv = 0 → ¬ v = 0 → s1 = 1) → xD E (d + 3) 228 6 [.ref 48, .int (bB lv), .int v, w3] [] (mw A fl ar al) = xD E (d + 3) 228 28 [.ref 48, .int (bB lv), .int v, xJ] [.int s1, .ref 48] (mw A (upd fl 22 (nI (g0 + (z.1 + 1)))) ar al) := by
          intro s1 g1 g2 g3
          rw [e228_6, m_pass1 (c := 5) (cc := 5) hA hT he (by omega) h22 rfl e, xI_s, Option.bind_some]
          dsimp only
          rw [i_if]
          by_cases q : bB lv = 0
          · rw [if_pos q, g1 q]
          · rw [if_neg q]
            by_cases q2 : v = 0
            · rw [if_pos q2, g2 q q2]
            · rw [if_neg q2, g3 q q2]
        rcases hv with rfl | rfl
        · -- v is 0: what stands behind isn't asked
          obtain ⟨f1, r1, p1, p2, p3, p4⟩ := sub false
          rw [head 0 (fun _ => rfl) (fun _ _ => rfl) (fun _ q => absurd rfl q), e228_28, show (0 : Int32) = bB false from rfl, p1, xI_s, Option.bind_some]
          dsimp only
          rw [show bB false = (0 : Int32) from rfl, i_if0]
          have hb1 := p4.2.2.1 (fun q => by cases q.1)
          refine on f1 0 _ p2 p3 (Or.inl rfl) ⟨p4.1, Or.inl rfl, fun _ => hb1, fun q => Or.inr ⟨by rw [hb1]; exact q.2, ?_⟩⟩
          exact rs_and0 (by omega) (by omega) hFo rfl hlz (by omega)
        · -- v is 1
          obtain ⟨f1, r1, p1, p2, p3, p4⟩ := sub lv
          have hs1 : (bB lv = 0 → bB lv = 0) ∧ (¬ bB lv = 0 → bB lv = 1) := ⟨id, fun q => by cases lv; exact absurd rfl q; rfl⟩
          rw [head (bB lv) hs1.1 (fun _ q => absurd q (by decide)) (fun q _ => hs1.2 q), e228_28, p1, xI_s, Option.bind_some]
          dsimp only
          rw [i_if]
          have out : OUTB F wd nw to lv (fl 24) z.2.2.1.length (vB 1 :: st) r1 (f1 24) z2.2.2.1.length st := by
            refine ⟨p4.1, p4.2.1, p4.2.2.1, fun q => ?_⟩
            have j := rs_and1 (F := F) (wd := wd) (nw := nw) (to := to) (st := st) (v := vB 1) (by omega) (by omega) hFo (by decide)
            rcases p4.2.2.2 q with ⟨c1, c2⟩ | ⟨c1, c2⟩
            · exact Or.inl ⟨c1, j.rb c2⟩
            · exact Or.inr ⟨c1, j.tr c2⟩
          rcases p4.2.1 with rfl | rfl
          · rw [i_if0]; exact on f1 0 _ p2 p3 (Or.inl rfl) out
          · rw [i_if]; exact on f1 1 _ p2 p3 (Or.inr rfl) out
    · rw [lp_none (if_neg e : sBoth T f z = _)] at hlp
      cases hlp
      exact no z fl lv st v w3 e hz he h22 h24 hv
theorem evb_both (hA : 69 ≤ A.length) (hT : evR T N g0 ar) (hTl : ∀ i, (T i).1 ≠ 0 → i < N) (hf : gd N f) (hp : EVB E A ar al N g0 o F wd nw to askF LV f 229 (d + 2) K) : EVB E A ar al N g0 o F wd nw to askF LV (pBoth T f) 228 (d + 3) K := by
  intro x y fl lv st hpt hx ha hst hl he h22 h24
  have hx1 := hx.1
  have hg := hf x hx1
  unfold pBoth at hpt
  cases hr : f x with
  | inl t => rw [hr] at hpt; cases hpt
  | inr z =>
    rw [hr] at hpt hg
    change lp (sBoth T f) 400 z = .inr y at hpt
    have hz := hx.le hg.1
    have hge := lpb_gd (N := N) hTl hf 400 z hz.1
    rw [hpt] at hge
    obtain ⟨f1, r1, p1, p2, p3, p4⟩ := hp x z fl lv st hr hx (ha.l (N := N) hg.1 hge) (by omega) hl he h22 h24
    obtain ⟨f2, r2, s1, s2, s3, s4⟩ := evb_both_loop hA hT hTl hf hp 400 z y f1 lv st r1 xJ hpt hz (by have := hT.1; omega) (ha.r (N := N) hg.1) hst (hl.fr p2) (he.f p2) p3 p4.1 p4.2.1
    refine ⟨f2, r2, ?_, p2.tr s2, s3, s4.1, s4.2.1, fun q => ?_, fun q => ?_⟩
    · rw [k228 _ _ _ _ _ (m_k48 hA), p1, xI_s, Option.bind_some]
      exact s1
    · have := p4.2.2.1 q
      rw [s4.2.2.1 (by rw [this]; exact q), this]
    · rcases p4.2.2.2 q with ⟨c1, c2⟩ | ⟨c1, c2⟩
      · left
        exact ⟨by rw [s4.2.2.1 (fun z => by rw [c1] at z; exact absurd z.2 (by decide)), c1], c2⟩
      · rcases s4.2.2.2 ⟨q.1, c1⟩ with ⟨d1, d2⟩ | ⟨d1, d2⟩
        · exact Or.inl ⟨d1, c2.rb d2⟩
        · exact Or.inr ⟨d1, c2.tr d2⟩
theorem evb_test_loop (hA : 69 ≤ A.length) (hT : evR T N g0 ar) (hTl : ∀ i, (T i).1 ≠ 0 → i < N) (hf : gd N f) (hp : EVB E A ar al N g0 o F wd nw to askF LV (pBoth T f) 228 (d + 2) K) : ∀ (c : Nat) (z y : PX) (fl : Nat → Int32) (lv : Bool) (st : List Int) (v : Int32) (w3 : Value), lp (sTest T f) c z = .inr y → okx N z → N ≤ z.1 + c → agr F askF to z y → st.length + K ≤ 55 → lvR E A ar al fl o wd nw askF LV → est N g0 o fl → fl 22 = nI (g0 + z.1) → (fl 24 = 0 ∨ fl 24 = 1) → (v = 0 ∨ v = 1) → ∃ fl' r, xD E (d + 3) 227 6 [.ref 48, .int (bB lv), .int v, w3] [] (mw A fl ar al) = some (some (.int r), mw A fl' ar al) ∧ eF fl fl' ∧ fl' 22 = nI (g0 + y.1) ∧ OUTB F wd nw to lv (fl 24) z.2.2.1.length (vB v :: st) r (fl' 24) y.2.2.1.length st := by
  have h4 := hT.2.2.2.1
  have hN4 := hT.1
  have hfb := gd_both hTl hf
  have no : ∀ (z : PX) (fl : Nat → Int32) (lv : Bool) (st : List Int) (v : Int32) (w3 : Value), ¬ (T z.1).1 = 4 → okx N z → est N g0 o fl → fl 22 = nI (g0 + z.1) → (fl 24 = 0 ∨ fl 24 = 1) → (v = 0 ∨ v = 1) → ∃ fl' r, xD E (d + 3) 227 6 [.ref 48, .int (bB lv), .int v, w3] [] (mw A fl ar al) = some (some (.int r), mw A fl' ar al) ∧ eF fl fl' ∧ fl' 22 = nI (g0 + z.1) ∧ OUTB F wd nw to lv (fl 24) z.2.2.1.length (vB v :: st) r (fl' 24) z.2.2.1.length st := by
    intro z fl lv st v w3 e hz he h22 h24 hv
    have hz1 := hz.1
    refine ⟨fl, v, ?_, eF.rf, h22, h24, hv, fun _ => rfl, fun q => Or.inr ⟨q.2, RS1.rf⟩⟩
    have hx01 : x01 v = true := by rcases hv with rfl | rfl <;> decide
    rw [e227_6, m_pass0 (c := 4) (cc := 4) hA hT he (by omega) h22 rfl (by omega) e, xI_s, Option.bind_some]
    dsimp only
    rw [i_if0, if_pos hx01]
  intro c
  induction c with
  | zero =>
    intro z y fl lv st v w3 hlp hz hc ha hst hl he h22 h24 hv
    cases hlp
    exact no z fl lv st v w3 (by rw [hT.2.2.1 z.1 (by omega)]; simp) hz he h22 h24 hv
  | succ c ih =>
    intro z y fl lv st v w3 hlp hz hc ha hst hl he h22 h24 hv
    by_cases e : (T z.1).1 = 4
    · rw [lp_some (if_pos e : sTest T f z = _)] at hlp
      have hlt : z.1 < N := hTl _ (by omega)
      have hz1 := hz.1
      have hzx : okx N (emi (adv z) 4 0) := okx_ea hz hlt
      have hg := hfb _ hzx.1
      cases hr : pBoth T f (emi (adv z) 4 0) with
      | inl t => rw [hr] at hlp; cases hlp
      | inr z2 =>
        rw [hr] at hlp hg
        change lp (sTest T f) c (aimx z2 z.2.2.1.length 4) = .inr y at hlp
        have hze := xle_ea hlt hg.1
        have hge := lpo_gd (N := N) hTl hf c (aimx z2 z.2.2.1.length 4) (hze.1.2.1 hz1)
        rw [hlp] at hge
        obtain ⟨hFo, hlz, hto, haz⟩ := ha.jmp (N := N) hg.1 hge
        have ht4 := ha.2.2.1
        have h124 : upd fl 22 (nI (g0 + (z.1 + 1))) 24 = fl 24 := upd_n (by omega)
        have sub : ∀ lv2 : Bool, ∃ f1 r1, xC E (d + 2) 228 [.ref 48, .int (bB lv2)] (mw A (upd fl 22 (nI (g0 + (z.1 + 1)))) ar al) = some (some (.int r1), mw A f1 ar al) ∧ eF fl f1 ∧ f1 22 = nI (g0 + z2.1) ∧ OUTB F wd nw to lv2 (fl 24) (z.2.2.1.length + 1) st r1 (f1 24) z2.2.2.1.length st := by
          intro lv2
          obtain ⟨f1, r1, p1, p2, p3, p4⟩ := hp (emi (adv z) 4 0) z2 (upd fl 22 (nI (g0 + (z.1 + 1)))) lv2 st hr hzx haz (by omega) (hl.fr e22) (he.f e22) upd_s (by rw [h124]; exact h24)
          rw [h124] at p4
          simp only [emi, adv, List.length_append, List.length_cons, List.length_nil] at p4
          exact ⟨f1, r1, p1, e22.tr p2, p3, p4⟩
        have on : ∀ (f1 : Nat → Int32) (v2 : Int32) (w : Value), eF fl f1 → f1 22 = nI (g0 + z2.1) → (v2 = 0 ∨ v2 = 1) → OUTB F wd nw to lv (fl 24) z.2.2.1.length (vB v :: st) v2 (f1 24) z2.2.2.1.length st → ∃ fl' r, xD E (d + 3) 227 6 [.ref 48, .int (bB lv), .int v2, w] [] (mw A f1 ar al) = some (some (.int r), mw A fl' ar al) ∧ eF fl fl' ∧ fl' 22 = nI (g0 + y.1) ∧ OUTB F wd nw to lv (fl 24) z.2.2.1.length (vB v :: st) r (fl' 24) y.2.2.1.length st := by
          intro f1 v2 w g1 g2 g3 g4
          obtain ⟨f3, r3, s1, s2, s3, s4⟩ := ih (aimx z2 z.2.2.1.length 4) y f1 lv st v2 w hlp (hz.le hze.1) (by have := hze.2; omega) (ha.r hze.1) hst (hl.fr g1) (he.f g1) g2 g4.1 g3
          simp only [aimx, List.length_set] at s4
          refine ⟨f3, r3, s1, g1.tr s2, s3, s4.1, s4.2.1, fun q => ?_, fun q => ?_⟩
          · have := g4.2.2.1 q
            rw [s4.2.2.1 (by rw [this]; exact q), this]
          · rcases g4.2.2.2 q with ⟨c1, c2⟩ | ⟨c1, c2⟩
            · left
              exact ⟨by rw [s4.2.2.1 (fun z => by rw [c1] at z; exact absurd z.2 (by decide)), c1], c2⟩
            · rcases s4.2.2.2 ⟨q.1, c1⟩ with ⟨d1, d2⟩ | ⟨d1, d2⟩
              · exact Or.inl ⟨d1, c2.rb d2⟩
              · exact Or.inr ⟨d1, c2.tr d2⟩
        have head : ∀ (s1 : Int32), (bB lv = 0 → s1 = 0) → (¬ bB lv = 0 → v = 0 → s1 = 1) → (¬ bB lv = 0 → ¬ v = 0 → s1 = 0) → xD E (d + 3) 227 6 [.ref 48, .int (bB lv), .int v, w3] [] (mw A fl ar al) = xD E (d + 3) 227 28 [.ref 48, .int (bB lv), .int v, xJ] [.int s1, .ref 48] (mw A (upd fl 22 (nI (g0 + (z.1 + 1)))) ar al) := by
          intro s1 g1 g2 g3
          rw [e227_6, m_pass1 (c := 4) (cc := 4) hA hT he (by omega) h22 rfl e, xI_s, Option.bind_some]
          dsimp only
          rw [i_if]
          by_cases q : bB lv = 0
          · rw [if_pos q, g1 q]
          · rw [if_neg q]
            by_cases q2 : v = 0
            · rw [if_pos q2, g2 q q2]
            · rw [if_neg q2, g3 q q2]
        rcases hv with rfl | rfl
        · obtain ⟨f1, r1, p1, p2, p3, p4⟩ := sub lv
          have hs1 : (bB lv = 0 → bB lv = 0) ∧ (¬ bB lv = 0 → bB lv = 1) := ⟨id, fun q => by cases lv; exact absurd rfl q; rfl⟩
          rw [head (bB lv) hs1.1 (fun q _ => hs1.2 q) (fun _ q => absurd rfl q), e227_28, p1, xI_s, Option.bind_some]
          dsimp only
          rw [i_if0]
          have out : OUTB F wd nw to lv (fl 24) z.2.2.1.length (vB 0 :: st) r1 (f1 24) z2.2.2.1.length st := by
            refine ⟨p4.1, p4.2.1, p4.2.2.1, fun q => ?_⟩
            have j := rs_or0 (F := F) (wd := wd) (nw := nw) (to := to) (st := st) (v := vB 0) (by omega) (by omega) hFo (by decide)
            rcases p4.2.2.2 q with ⟨c1, c2⟩ | ⟨c1, c2⟩
            · exact Or.inl ⟨c1, j.rb c2⟩
            · exact Or.inr ⟨c1, j.tr c2⟩
          rcases p4.2.1 with rfl | rfl
          · rw [i_if0]; exact on f1 0 _ p2 p3 (Or.inl rfl) out
          · rw [i_if]; exact on f1 1 _ p2 p3 (Or.inr rfl) out
        · obtain ⟨f1, r1, p1, p2, p3, p4⟩ := sub false
          rw [head 0 (fun _ => rfl) (fun _ q => absurd q (by decide)) (fun _ _ => rfl), e227_28, show (0 : Int32) = bB false from rfl, p1, xI_s, Option.bind_some]
          dsimp only
          rw [show bB false = (0 : Int32) from rfl, i_if]
          have hb1 := p4.2.2.1 (fun q => by cases q.1)
          refine on f1 1 _ p2 p3 (Or.inr rfl) ⟨p4.1, Or.inr rfl, fun _ => hb1, fun q => Or.inr ⟨by rw [hb1]; exact q.2, ?_⟩⟩
          exact rs_or1 (by omega) (by omega) hFo rfl hlz (by omega)
    · rw [lp_none (if_neg e : sTest T f z = _)] at hlp
      cases hlp
      exact no z fl lv st v w3 e hz he h22 h24 hv
theorem evb_test (hA : 69 ≤ A.length) (hT : evR T N g0 ar) (hTl : ∀ i, (T i).1 ≠ 0 → i < N) (hf : gd N f) (hp : EVB E A ar al N g0 o F wd nw to askF LV f 229 (d + 2) K) : EVB E A ar al N g0 o F wd nw to askF LV (pTest T f) 227 (d + 4) K := by
  have hb := evb_both hA hT hTl hf hp
  intro x y fl lv st hpt hx ha hst hl he h22 h24
  have hx1 := hx.1
  have hg := gd_both hTl hf x hx1
  unfold pTest at hpt
  cases hr : pBoth T f x with
  | inl t => rw [hr] at hpt; cases hpt
  | inr z =>
    rw [hr] at hpt hg
    change lp (sTest T f) 400 z = .inr y at hpt
    have hz := hx.le hg.1
    have hge := lpo_gd (N := N) hTl hf 400 z hz.1
    rw [hpt] at hge
    obtain ⟨f1, r1, p1, p2, p3, p4⟩ := hb x z fl lv st hr hx (ha.l (N := N) hg.1 hge) (by omega) hl he h22 h24
    obtain ⟨f2, r2, s1, s2, s3, s4⟩ := evb_test_loop (d := d + 1) hA hT hTl hf hb 400 z y f1 lv st r1 xJ hpt hz (by have := hT.1; omega) (ha.r (N := N) hg.1) hst (hl.fr p2) (he.f p2) p3 p4.1 p4.2.1
    refine ⟨f2, r2, ?_, p2.tr s2, s3, s4.1, s4.2.1, fun q => ?_, fun q => ?_⟩
    · rw [k227 _ _ _ _ _ (m_k48 hA), p1, xI_s, Option.bind_some]
      exact s1
    · have := p4.2.2.1 q
      rw [s4.2.2.1 (by rw [this]; exact q), this]
    · rcases p4.2.2.2 q with ⟨c1, c2⟩ | ⟨c1, c2⟩
      · left
        exact ⟨by rw [s4.2.2.1 (fun z => by rw [c1] at z; exact absurd z.2 (by decide)), c1], c2⟩
      · rcases s4.2.2.2 ⟨q.1, c1⟩ with ⟨d1, d2⟩ | ⟨d1, d2⟩
        · exact Or.inl ⟨d1, c2.rb d2⟩
        · exact Or.inr ⟨d1, c2.tr d2⟩
end EBOTH
