/-! ===== sums: the loops ===== -/
section ELOOP
variable {E : Nat × (Nat → Int32)} {d : Nat} {A : xH} {fl : Nat → Int32} {ar : Nat → Nat → Int32} {al : Nat → Nat → Int64} {T : Nat → Nat × Nat} {N g0 : Nat} {o : Bool} {F : List (Nat × Nat)} {wd : Nat → Int} {nw to K : Nat} {askF : List Nat} {LV : Nat → Nat → Int} {f : PX → PR}
theorem lpt_gd (hT : ∀ i, (T i).1 ≠ 0 → i < N) (hp : gd N f) : ∀ c, gdw N (lp (sTerm T f) c) := lp_gd (fun y hy r hr => by
  unfold sTerm at hr
  split at hr
  · rename_i q
    have hlt : y.1 < N := hT _ (by omega)
    cases hr
    have h1 := hp (adv y) (by simp only [adv]; omega)
    cases hz : f (adv y) with
    | inl t => rw [hz] at h1; exact h1
    | inr z => rw [hz] at h1; exact xle_ae hlt h1.1 _ _
  · cases hr)
theorem lps_gd (hT : ∀ i, (T i).1 ≠ 0 → i < N) (hp : gd N f) : ∀ c, gdw N (lp (sSum T f) c) := lp_gd (fun y hy r hr => by
  unfold sSum at hr
  split at hr
  · rename_i q
    have hlt : y.1 < N := hT _ (by omega)
    cases hr
    have h1 := gd_term hT hp (adv y) (by simp only [adv]; omega)
    cases hz : pTerm T f (adv y) with
    | inl t => rw [hz] at h1; exact h1
    | inr z => rw [hz] at h1; exact xle_ae hlt h1.1 _ _
  · cases hr)
theorem agr.at {x y z : PX} {op a : Nat} (h : agr F askF to x z) (hx : x.2.2.1.length ≤ y.2.2.1.length) (hy : xle N (emi y op a) z) : F[y.2.2.1.length]? = some (op, a) ∧ y.2.2.1.length < to := by
  obtain ⟨h1, h2, h3, h4⟩ := h
  obtain ⟨a1, a2, a3, a4, a5, -⟩ := hy
  simp only [emi, List.length_append, List.length_cons, List.length_nil] at a3 a5
  refine ⟨?_, by omega⟩
  rw [h1 _ hx (by omega), a5 _ (by omega), List.getElem?_append_right (Nat.le_refl _), Nat.sub_self]; rfl
theorem ev_term_loop (hA : 69 ≤ A.length) (hT : evR T N g0 ar) (hTl : ∀ i, (T i).1 ≠ 0 → i < N) (hf : gd N f) (hp : EV E A ar al N g0 o F wd nw to askF LV f 225 (d + 2) K) : ∀ (c : Nat) (z y : PX) (fl : Nat → Int32) (lv : Bool) (st : List Int) (v : Int) (j2 : Int64) (w4 w5 w6 : Value), lp (sTerm T f) c z = .inr y → okx N z → N ≤ z.1 + c → agr F askF to z y → st.length + (K + 1) ≤ 55 → lvR E A ar al fl o wd nw askF LV → est N g0 o fl → fl 22 = nI (g0 + z.1) → (fl 24 = 0 ∨ fl 24 = 1) → (lv = true ∧ fl 24 = 0 → j2 = lI v ∧ -1000000000 ≤ v ∧ v ≤ 1000000000) → (¬ (lv = true ∧ fl 24 = 0) → j2 = 0) → ∃ fl' r, xD E (d + 3) 224 6 [.ref 48, .int (bB lv), .long j2, xJ, w4, w5, w6] [] (mw A fl ar al) = some (some (.long r), mw A fl' ar al) ∧ eF fl fl' ∧ fl' 22 = nI (g0 + y.1) ∧ OUT F wd nw to lv (fl 24) z.2.2.1.length (v :: st) r (fl' 24) y.2.2.1.length st := by
  have h4 := hT.2.2.2.1
  have hN4 := hT.1
  have no : ∀ (z : PX) (fl : Nat → Int32) (lv : Bool) (st : List Int) (v : Int) (j2 : Int64) (w4 w5 w6 : Value), ¬ ((T z.1).1 = 142 ∨ (T z.1).1 = 147 ∨ (T z.1).1 = 137) → okx N z → est N g0 o fl → fl 22 = nI (g0 + z.1) → (fl 24 = 0 ∨ fl 24 = 1) → (lv = true ∧ fl 24 = 0 → j2 = lI v ∧ -1000000000 ≤ v ∧ v ≤ 1000000000) → (¬ (lv = true ∧ fl 24 = 0) → j2 = 0) → ∃ fl' r, xD E (d + 3) 224 6 [.ref 48, .int (bB lv), .long j2, xJ, w4, w5, w6] [] (mw A fl ar al) = some (some (.long r), mw A fl' ar al) ∧ eF fl fl' ∧ fl' 22 = nI (g0 + z.1) ∧ OUT F wd nw to lv (fl 24) z.2.2.1.length (v :: st) r (fl' 24) z.2.2.1.length st := by
    intro z fl lv st v j2 w4 w5 w6 e hz he h22 h24 hv hv0
    have hz1 := hz.1
    have h5 := h4 z.1
    refine ⟨fl, j2, ?_, eF.rf, h22, h24, fun q => ⟨hv0 q, rfl⟩, fun q => Or.inr ⟨v, q.2, (hv q).1, (hv q).2.1, (hv q).2.2, RS1.rf⟩⟩
    rw [e224_6, m_g48_22 hA, Option.bind_some, h22, m_codeAt hA hT he (by omega), xI_s, Option.bind_some]
    dsimp only
    rw [m_sign (c := 42) (cc := 42) rfl, xI_s, Option.bind_some]
    dsimp only
    rw [if_neg (fun q => e (Or.inl ((nI_eq (by omega) (by omega)).mp q))), m_g48_22 hA, Option.bind_some, h22, m_codeAt hA hT he (by omega), xI_s, Option.bind_some]
    dsimp only
    rw [m_sign (c := 47) (cc := 47) rfl, xI_s, Option.bind_some]
    dsimp only
    rw [if_neg (fun q => e (Or.inr (Or.inl ((nI_eq (by omega) (by omega)).mp q)))), m_g48_22 hA, Option.bind_some, h22, m_codeAt hA hT he (by omega), xI_s, Option.bind_some]
    dsimp only
    rw [m_sign (c := 37) (cc := 37) rfl, xI_s, Option.bind_some]
    dsimp only
    rw [if_neg (fun q => e (Or.inr (Or.inr ((nI_eq (by omega) (by omega)).mp q))))]
  intro c
  induction c with
  | zero =>
    intro z y fl lv st v j2 w4 w5 w6 hlp hz hc ha hst hl he h22 h24 hv hv0
    cases hlp
    exact no z fl lv st v j2 w4 w5 w6 (by rw [hT.2.2.1 z.1 (by omega)]; simp) hz he h22 h24 hv hv0
  | succ c ih =>
    intro z y fl lv st v j2 w4 w5 w6 hlp hz hc ha hst hl he h22 h24 hv hv0
    by_cases e : (T z.1).1 = 142 ∨ (T z.1).1 = 147 ∨ (T z.1).1 = 137
    · rw [lp_some (if_pos e : sTerm T f z = _)] at hlp
      have hlt : z.1 < N := hTl _ (by omega)
      have hz1 := hz.1
      have h5 := h4 z.1
      have hzx : okx N (adv z) := hz.le (xle_adv hlt)
      have hg := hf (adv z) hzx.1
      cases hr : f (adv z) with
      | inl t => rw [hr] at hlp; cases hlp
      | inr z2 =>
        rw [hr] at hlp hg
        change lp (sTerm T f) c (emi z2 (opT (T z.1).1) 0) = .inr y at hlp
        have hze := xle_ae hlt hg.1 (opT (T z.1).1) 0
        have hge := lpt_gd (N := N) hTl hf c (emi z2 (opT (T z.1).1) 0) (hze.1.2.1 hz1)
        rw [hlp] at hge
        obtain ⟨hFo, hto⟩ := ha.at (N := N) (y := z2) (by have := hg.1.2.2.1; exact this) hge
        have haz : agr F askF to (adv z) z2 := by
          obtain ⟨b1, b2, b3, b4⟩ := ha
          obtain ⟨c1, c2, c3, c4, c5, c6, c7, c8, c9, c10⟩ := hge
          simp only [emi, List.length_append, List.length_cons, List.length_nil] at c3 c5 c10
          refine ⟨fun j q1 q2 => ?_, by omega, b3, fun j q hq => b4 j q ?_⟩
          · rw [b1 j q1 (by omega), c5 j (by omega), List.getElem?_append_left q2]
          · rw [c10 j (List.getElem?_eq_some_iff.mp hq).1]; exact hq
        -- the walk
        have head : xD E (d + 3) 224 6 [.ref 48, .int (bB lv), .long j2, xJ, w4, w5, w6] [] (mw A fl ar al) = xD E (d + 3) 224 54 [.ref 48, .int (bB lv), .long j2, xJ, xJ, xJ, xJ] [] (mw A fl ar al) := by
          rw [e224_6, m_g48_22 hA, Option.bind_some, h22, m_codeAt hA hT he (by omega), xI_s, Option.bind_some]
          dsimp only
          rw [m_sign (c := 42) (cc := 42) rfl, xI_s, Option.bind_some]
          dsimp only
          by_cases e1 : (T z.1).1 = 142
          · rw [if_pos (by rw [e1])]
          rw [if_neg (fun q => e1 ((nI_eq (by omega) (by omega)).mp q)), m_g48_22 hA, Option.bind_some, h22, m_codeAt hA hT he (by omega), xI_s, Option.bind_some]
          dsimp only
          rw [m_sign (c := 47) (cc := 47) rfl, xI_s, Option.bind_some]
          dsimp only
          by_cases e2 : (T z.1).1 = 147
          · rw [if_pos (by rw [e2])]
          rw [if_neg (fun q => e2 ((nI_eq (by omega) (by omega)).mp q)), m_g48_22 hA, Option.bind_some, h22, m_codeAt hA hT he (by omega), xI_s, Option.bind_some]
          dsimp only
          rw [m_sign (c := 37) (cc := 37) rfl, xI_s, Option.bind_some]
          dsimp only
          rw [if_pos (by rw [show (T z.1).1 = 137 by omega])]
        have h124 : upd fl 22 (nI (g0 + (z.1 + 1))) 24 = fl 24 := upd_n (by omega)
        obtain ⟨f1, r5, p1, p2, p3, p4⟩ := hp (adv z) z2 (upd fl 22 (nI (g0 + (z.1 + 1)))) lv (v :: st) hr hzx haz (by simp only [List.length_cons]; omega) (hl.fr e22) (he.f e22) upd_s (by rw [h124]; exact h24)
        rw [h124] at p4
        obtain ⟨f2, r, w7, t1, t2, t3, t4⟩ := ev_top (E := E) (d := d + 1) (ar := ar) (al := al) hA e h24 p4 hv hv0 hto (by omega) hFo
        obtain ⟨v', q1, q2, q3⟩ := OUT.pick t4
        have ef2 : eF fl f2 := (e22.tr p2).tr t2
        have hb2 := t4.1
        obtain ⟨f3, r3, s1, s2, s3, s4⟩ := ih (emi z2 (opT (T z.1).1) 0) y f2 lv st v' r (.int (nI (T z.1).1)) (.long w7) xJ hlp (hz.le hze.1) (by have := hze.2; omega) (ha.r hze.1) hst (hl.fr ef2) (he.f ef2) (by rw [t3, p3]; rfl) hb2 q1 q2
        refine ⟨f3, r3, ?_, ef2.tr s2, s3, ?_⟩
        · rw [head, e224_54, m_g48_22 hA, Option.bind_some, h22, m_codeAt hA hT he (by omega), xI_s, Option.bind_some]
          dsimp only
          rw [m_g48_22 hA, Option.bind_some, h22, nI_1, m_p48_22 hA, Option.bind_some, show g0 + z.1 + 1 = g0 + (z.1 + 1) by omega, p1, xL_s, Option.bind_some]
          dsimp only
          rw [m_sign (c := 42) (cc := 42) rfl, xI_s, Option.bind_some]
          exact t1.trans s1
        · have := q3 r3 (f3 24) y.2.2.1.length (by
            simp only [emi, List.length_append, List.length_cons, List.length_nil] at s4; exact s4)
          exact this
    · rw [lp_none (if_neg e : sTerm T f z = _)] at hlp
      cases hlp
      exact no z fl lv st v j2 w4 w5 w6 e hz he h22 h24 hv hv0
theorem ev_term (hA : 69 ≤ A.length) (hT : evR T N g0 ar) (hTl : ∀ i, (T i).1 ≠ 0 → i < N) (hf : gd N f) (hp : EV E A ar al N g0 o F wd nw to askF LV f 225 (d + 2) K) : EV E A ar al N g0 o F wd nw to askF LV (pTerm T f) 224 (d + 3) (K + 1) := by
  intro x y fl lv st hpt hx ha hst hl he h22 h24
  have hx1 := hx.1
  have hg := hf x hx1
  unfold pTerm at hpt
  cases hr : f x with
  | inl t => rw [hr] at hpt; cases hpt
  | inr z =>
    rw [hr] at hpt hg
    change lp (sTerm T f) 400 z = .inr y at hpt
    have hz := hx.le hg.1
    have hge := lpt_gd (N := N) hTl hf 400 z hz.1
    rw [hpt] at hge
    obtain ⟨f1, r1, p1, p2, p3, p4⟩ := hp x z fl lv st hr hx (ha.l (N := N) hg.1 hge) (by omega) hl he h22 h24
    obtain ⟨v, q1, q2, q3⟩ := OUT.pick p4
    obtain ⟨f2, r2, s1, s2, s3, s4⟩ := ev_term_loop hA hT hTl hf hp 400 z y f1 lv st v r1 xJ xJ xJ hpt hz (by have := hT.1; omega) (ha.r (N := N) hg.1) hst (hl.fr p2) (he.f p2) p3 p4.1 q1 q2
    refine ⟨f2, r2, ?_, p2.tr s2, s3, q3 _ _ _ s4⟩
    rw [k224 _ _ _ _ _ (m_k48 hA), p1, xL_s, Option.bind_some]
    exact s1
theorem ev_sum_loop (hA : 69 ≤ A.length) (hT : evR T N g0 ar) (hTl : ∀ i, (T i).1 ≠ 0 → i < N) (hf : gd N f) (hp : EV E A ar al N g0 o F wd nw to askF LV (pTerm T f) 224 (d + 2) K) : ∀ (c : Nat) (z y : PX) (fl : Nat → Int32) (lv : Bool) (st : List Int) (v : Int) (j2 : Int64) (w4 w5 w6 : Value), lp (sSum T f) c z = .inr y → okx N z → N ≤ z.1 + c → agr F askF to z y → st.length + (K + 1) ≤ 55 → lvR E A ar al fl o wd nw askF LV → est N g0 o fl → fl 22 = nI (g0 + z.1) → (fl 24 = 0 ∨ fl 24 = 1) → (lv = true ∧ fl 24 = 0 → j2 = lI v ∧ -1000000000 ≤ v ∧ v ≤ 1000000000) → (¬ (lv = true ∧ fl 24 = 0) → j2 = 0) → ∃ fl' r, xD E (d + 3) 223 6 [.ref 48, .int (bB lv), .long j2, xJ, w4, w5, w6] [] (mw A fl ar al) = some (some (.long r), mw A fl' ar al) ∧ eF fl fl' ∧ fl' 22 = nI (g0 + y.1) ∧ OUT F wd nw to lv (fl 24) z.2.2.1.length (v :: st) r (fl' 24) y.2.2.1.length st := by
  have h4 := hT.2.2.2.1
  have hN4 := hT.1
  have no : ∀ (z : PX) (fl : Nat → Int32) (lv : Bool) (st : List Int) (v : Int) (j2 : Int64) (w4 w5 w6 : Value), ¬ ((T z.1).1 = 143 ∨ (T z.1).1 = 145) → okx N z → est N g0 o fl → fl 22 = nI (g0 + z.1) → (fl 24 = 0 ∨ fl 24 = 1) → (lv = true ∧ fl 24 = 0 → j2 = lI v ∧ -1000000000 ≤ v ∧ v ≤ 1000000000) → (¬ (lv = true ∧ fl 24 = 0) → j2 = 0) → ∃ fl' r, xD E (d + 3) 223 6 [.ref 48, .int (bB lv), .long j2, xJ, w4, w5, w6] [] (mw A fl ar al) = some (some (.long r), mw A fl' ar al) ∧ eF fl fl' ∧ fl' 22 = nI (g0 + z.1) ∧ OUT F wd nw to lv (fl 24) z.2.2.1.length (v :: st) r (fl' 24) z.2.2.1.length st := by
    intro z fl lv st v j2 w4 w5 w6 e hz he h22 h24 hv hv0
    have hz1 := hz.1
    have h5 := h4 z.1
    refine ⟨fl, j2, ?_, eF.rf, h22, h24, fun q => ⟨hv0 q, rfl⟩, fun q => Or.inr ⟨v, q.2, (hv q).1, (hv q).2.1, (hv q).2.2, RS1.rf⟩⟩
    rw [e223_6, m_g48_22 hA, Option.bind_some, h22, m_codeAt hA hT he (by omega), xI_s, Option.bind_some]
    dsimp only
    rw [m_sign (c := 43) (cc := 43) rfl, xI_s, Option.bind_some]
    dsimp only
    rw [if_neg (fun q => e (Or.inl ((nI_eq (by omega) (by omega)).mp q))), m_g48_22 hA, Option.bind_some, h22, m_codeAt hA hT he (by omega), xI_s, Option.bind_some]
    dsimp only
    rw [m_sign (c := 45) (cc := 45) rfl, xI_s, Option.bind_some]
    dsimp only
    rw [if_neg (fun q => e (Or.inr ((nI_eq (by omega) (by omega)).mp q)))]
  intro c
  induction c with
  | zero =>
    intro z y fl lv st v j2 w4 w5 w6 hlp hz hc ha hst hl he h22 h24 hv hv0
    cases hlp
    exact no z fl lv st v j2 w4 w5 w6 (by rw [hT.2.2.1 z.1 (by omega)]; simp) hz he h22 h24 hv hv0
  | succ c ih =>
    intro z y fl lv st v j2 w4 w5 w6 hlp hz hc ha hst hl he h22 h24 hv hv0
    by_cases e : (T z.1).1 = 143 ∨ (T z.1).1 = 145
    · rw [lp_some (if_pos e : sSum T f z = _)] at hlp
      have hlt : z.1 < N := hTl _ (by omega)
      have hz1 := hz.1
      have h5 := h4 z.1
      have hzx : okx N (adv z) := hz.le (xle_adv hlt)
      have hg := gd_term hTl hf (adv z) hzx.1
      cases hr : pTerm T f (adv z) with
      | inl t => rw [hr] at hlp; cases hlp
      | inr z2 =>
        rw [hr] at hlp hg
        change lp (sSum T f) c (emi z2 (opS (T z.1).1) 0) = .inr y at hlp
        have hze := xle_ae hlt hg.1 (opS (T z.1).1) 0
        have hge := lps_gd (N := N) hTl hf c (emi z2 (opS (T z.1).1) 0) (hze.1.2.1 hz1)
        rw [hlp] at hge
        obtain ⟨hFo, hto⟩ := ha.at (N := N) (y := z2) (by have := hg.1.2.2.1; exact this) hge
        have haz : agr F askF to (adv z) z2 := by
          obtain ⟨b1, b2, b3, b4⟩ := ha
          obtain ⟨c1, c2, c3, c4, c5, c6, c7, c8, c9, c10⟩ := hge
          simp only [emi, List.length_append, List.length_cons, List.length_nil] at c3 c5 c10
          refine ⟨fun j q1 q2 => ?_, by omega, b3, fun j q hq => b4 j q ?_⟩
          · rw [b1 j q1 (by omega), c5 j (by omega), List.getElem?_append_left q2]
          · rw [c10 j (List.getElem?_eq_some_iff.mp hq).1]; exact hq
        have head : xD E (d + 3) 223 6 [.ref 48, .int (bB lv), .long j2, xJ, w4, w5, w6] [] (mw A fl ar al) = xD E (d + 3) 223 59 [.ref 48, .int (bB lv), .long j2, xJ, xJ, xJ, xJ] [.int (if (T z.1).1 = 143 then 1 else 0)] (mw A fl ar al) := by
          rw [e223_6, m_g48_22 hA, Option.bind_some, h22, m_codeAt hA hT he (by omega), xI_s, Option.bind_some]
          dsimp only
          rw [m_sign (c := 43) (cc := 43) rfl, xI_s, Option.bind_some]
          dsimp only
          by_cases e1 : (T z.1).1 = 143
          · rw [if_pos (by rw [e1]), m_g48_22 hA, Option.bind_some, h22, m_codeAt hA hT he (by omega), xI_s, Option.bind_some]
            dsimp only
            rw [m_sign (c := 43) (cc := 43) rfl, xI_s, Option.bind_some]
            dsimp only
            rw [if_pos (by rw [e1]), if_pos e1]
          rw [if_neg (fun q => e1 ((nI_eq (by omega) (by omega)).mp q)), m_g48_22 hA, Option.bind_some, h22, m_codeAt hA hT he (by omega), xI_s, Option.bind_some]
          dsimp only
          rw [m_sign (c := 45) (cc := 45) rfl, xI_s, Option.bind_some]
          dsimp only
          rw [if_pos (by rw [show (T z.1).1 = 145 by omega]), m_g48_22 hA, Option.bind_some, h22, m_codeAt hA hT he (by omega), xI_s, Option.bind_some]
          dsimp only
          rw [m_sign (c := 43) (cc := 43) rfl, xI_s, Option.bind_some]
          dsimp only
          rw [if_neg (fun q => e1 ((nI_eq (by omega) (by omega)).mp q)), if_neg e1]
        have h124 : upd fl 22 (nI (g0 + (z.1 + 1))) 24 = fl 24 := upd_n (by omega)
        obtain ⟨f1, r5, p1, p2, p3, p4⟩ := hp (adv z) z2 (upd fl 22 (nI (g0 + (z.1 + 1)))) lv (v :: st) hr hzx haz (by simp only [List.length_cons]; omega) (hl.fr e22) (he.f e22) upd_s (by rw [h124]; exact h24)
        rw [h124] at p4
        have hop : 5 ≤ opS (T z.1).1 ∧ opS (T z.1).1 ≤ 12 := by unfold opS; split <;> omega
        have add : ∀ a b : Int, lI a + lI b = lI (a + b) := fun a b => (Int64.ofInt_add a b).symm
        have sub : ∀ a b : Int, lI a - lI b = lI (a - b) := fun a b => (Int64.ofInt_sub a b).symm
        obtain ⟨f2, r, t1, t2, t3, t4⟩ := ev_bop (E := E) (d := d + 1) (ar := ar) (al := al) (y := if (T z.1).1 = 143 then j2 + r5 else j2 - r5) hA h24 p4 (fun q => (hv q).2) hto (by omega) hFo hop.1 hop.2 (fun q => by
          rw [hv0 q, (p4.2.1 q).1]; split <;> decide) (fun w q _ hr' w1 w2 => by
          obtain ⟨v1, v2, v3⟩ := hv q
          by_cases e1 : (T z.1).1 = 143
          · refine ⟨v + w, by rw [if_pos e1, v1, hr', add], ?_, by omega, by omega⟩
            unfold comb opS; rw [if_pos e1, if_pos rfl]
          · refine ⟨v - w, by rw [if_neg e1, v1, hr', sub], ?_, by omega, by omega⟩
            unfold comb opS; rw [if_neg e1, if_neg (by omega), if_pos rfl])
        obtain ⟨v', q1, q2, q3⟩ := OUT.pick t4
        have ef2 : eF fl f2 := (e22.tr p2).tr t2
        have hb2 := t4.1
        have step : ∀ w4 w5 w6 : Value, ∃ f3 r3, xD E (d + 3) 223 6 [.ref 48, .int (bB lv), .long r, xJ, w4, w5, w6] [] (mw A f2 ar al) = some (some (.long r3), mw A f3 ar al) ∧ eF f2 f3 ∧ f3 22 = nI (g0 + y.1) ∧ OUT F wd nw to lv (fl 24) z.2.2.1.length (v :: st) r3 (f3 24) y.2.2.1.length st := by
          intro w4 w5 w6
          obtain ⟨f3, r3, s1, s2, s3, s4⟩ := ih (emi z2 (opS (T z.1).1) 0) y f2 lv st v' r w4 w5 w6 hlp (hz.le hze.1) (by have := hze.2; omega) (ha.r hze.1) hst (hl.fr ef2) (he.f ef2) (by rw [t3, p3]; rfl) hb2 q1 q2
          refine ⟨f3, r3, s1, s2, s3, q3 r3 (f3 24) y.2.2.1.length ?_⟩
          simp only [emi, List.length_append, List.length_cons, List.length_nil] at s4; exact s4
        rw [head, e223_59, m_g48_22 hA, Option.bind_some, h22, nI_1, m_p48_22 hA, Option.bind_some, show g0 + z.1 + 1 = g0 + (z.1 + 1) by omega, p1, xL_s, Option.bind_some]
        dsimp only
        by_cases e1 : (T z.1).1 = 143
        · rw [if_pos e1] at t1
          rw [if_pos e1, i_if, t1, xL_s, Option.bind_some]
          obtain ⟨f3, r3, s1, s2, s3, s4⟩ := step (.int 1) (.long r5) xJ
          exact ⟨f3, r3, s1, ef2.tr s2, s3, s4⟩
        · rw [if_neg e1] at t1
          rw [if_neg e1, i_if0, t1, xL_s, Option.bind_some]
          obtain ⟨f3, r3, s1, s2, s3, s4⟩ := step (.int 0) (.long r5) xJ
          exact ⟨f3, r3, s1, ef2.tr s2, s3, s4⟩
    · rw [lp_none (if_neg e : sSum T f z = _)] at hlp
      cases hlp
      exact no z fl lv st v j2 w4 w5 w6 e hz he h22 h24 hv hv0
theorem ev_sum (hA : 69 ≤ A.length) (hT : evR T N g0 ar) (hTl : ∀ i, (T i).1 ≠ 0 → i < N) (hf : gd N f) (hp : EV E A ar al N g0 o F wd nw to askF LV f 225 (d + 2) K) : EV E A ar al N g0 o F wd nw to askF LV (pSum T f) 223 (d + 4) (K + 2) := by
  have ht := ev_term hA hT hTl hf hp
  intro x y fl lv st hpt hx ha hst hl he h22 h24
  have hx1 := hx.1
  have hg := gd_term hTl hf x hx1
  unfold pSum at hpt
  cases hr : pTerm T f x with
  | inl t => rw [hr] at hpt; cases hpt
  | inr z =>
    rw [hr] at hpt hg
    change lp (sSum T f) 400 z = .inr y at hpt
    have hz := hx.le hg.1
    have hge := lps_gd (N := N) hTl hf 400 z hz.1
    rw [hpt] at hge
    obtain ⟨f1, r1, p1, p2, p3, p4⟩ := ht x z fl lv st hr hx (ha.l (N := N) hg.1 hge) (by omega) hl he h22 h24
    obtain ⟨v, q1, q2, q3⟩ := OUT.pick p4
    obtain ⟨f2, r2, s1, s2, s3, s4⟩ := ev_sum_loop (d := d + 1) hA hT hTl hf ht 400 z y f1 lv st v r1 xJ xJ xJ hpt hz (by have := hT.1; omega) (ha.r (N := N) hg.1) hst (hl.fr p2) (he.f p2) p3 p4.1 q1 q2
    refine ⟨f2, r2, ?_, p2.tr s2, s3, q3 _ _ _ s4⟩
    rw [k223 _ _ _ _ _ (m_k48 hA), p1, xL_s, Option.bind_some]
    exact s1
theorem ev_part (hA : 69 ≤ A.length) (hT : evR T N g0 ar) (hTl : ∀ i, (T i).1 ≠ 0 → i < N) : ∀ (k d : Nat), (o = true → 1 ≤ d) → EV E A ar al N g0 o F wd nw to askF LV (pPart T o k) 225 (d + 7 + 3 * k) (2 + 2 * k) := by
  intro k
  induction k with
  | zero =>
    intro d hd x y fl lv st hf hx ha hst hl he h22 h24
    unfold pPart at hf
    by_cases e : (T x.1).1 = 191
    · rw [if_pos e] at hf; cases hf
    · rw [if_neg e] at hf
      exact ev_leaf hA hT hTl hd hf e hx ha hst hl he h22 h24
  | succ k ihk =>
    intro d hd x y fl lv st hf hx ha hst hl he h22 h24
    unfold pPart at hf
    by_cases e : (T x.1).1 = 191
    · rw [if_pos e] at hf
      have hp := ihk d hd
      rw [show d + 7 + 3 * k = d + 5 + 3 * k + 2 by omega] at hp
      have hs := ev_sum (d := d + 5 + 3 * k) hA hT hTl (gd_part hTl k) hp
      have hlt : x.1 < N := hTl _ (by omega)
      have hxx : okx N (adv x) := hx.le (xle_adv hlt)
      have hx1 := hx.1
      have hN4 := hT.1
      have hg := gd_sum hTl (gd_part (o := o) hTl k) (adv x) hxx.1
      cases hr : pSum T (pPart T o k) (adv x) with
      | inl t => rw [hr] at hf; cases hf
      | inr z =>
        rw [hr] at hf hg
        change eat T 193 z = .inr y at hf
        unfold eat at hf
        split at hf
        · rename_i ez
          cases hf
          obtain ⟨f1, r1, p1, p2, p3, p4⟩ := hs (adv x) z (upd fl 22 (nI (g0 + (x.1 + 1)))) lv st hr hxx ha (by omega) (hl.fr e22) (he.f e22) upd_s (by rw [upd_n (by omega)]; exact h24)
          rw [upd_n (show 24 ≠ 22 by omega)] at p4
          refine ⟨upd f1 22 (nI (g0 + (z.1 + 1))), r1, ?_, (e22.tr p2).tr e22, upd_s, by rw [upd_n (show 24 ≠ 22 by omega)]; exact p4⟩
          rw [show d + 7 + 3 * (k + 1) = d + 5 + 3 * k + 4 + 1 by omega, k225 _ _ _ _ _ (m_k48 hA), m_sign (c := 91) (cc := 91) rfl, xI_s, Option.bind_some]
          dsimp only
          rw [m_pass1 hA hT he (by omega) h22 rfl e, xI_s, Option.bind_some]
          dsimp only
          rw [i_if, p1, xL_s, Option.bind_some]
          dsimp only
          rw [m_g48_22 hA, Option.bind_some, p3, nI_1, m_p48_22 hA, Option.bind_some, show g0 + z.1 + 1 = g0 + (z.1 + 1) by omega]
        · cases hf
    · rw [if_neg e] at hf
      rw [show d + 7 + 3 * (k + 1) = d + 3 + 3 * k + 7 by omega]
      exact ev_leaf hA hT hTl (fun h => by have := hd h; omega) hf e hx ha (by omega) hl he h22 h24
end ELOOP
