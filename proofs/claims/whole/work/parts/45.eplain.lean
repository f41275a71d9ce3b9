/-! ===== tests: plain ones; sums and tests of a text ===== -/
section EPLAIN
variable {E : Nat × (Nat → Int32)} {d : Nat} {A : xH} {fl : Nat → Int32} {ar : Nat → Nat → Int32} {al : Nat → Nat → Int64} {T : Nat → Nat × Nat} {N g0 : Nat} {o : Bool} {F : List (Nat × Nat)} {wd : Nat → Int} {nw to K : Nat} {askF : List Nat} {LV : Nat → Nat → Int} {f : PX → PR}
theorem enot_loop (hA : 69 ≤ A.length) (hT : evR T N g0 ar) (hTl : ∀ i, (T i).1 ≠ 0 → i < N) {i1 : Int32} : ∀ (c : Nat) (b : Bool) (fl : Nat → Int32) (t : Nat), t ≤ N → N ≤ t + c → est N g0 o fl → fl 22 = nI (g0 + t) → ∃ f1, xD E (d + 3) 229 2 [.ref 48, .int i1, .int (bB b)] [] (mw A fl ar al) = ((xI (xC E (d + 2) 230 [.ref 48, .int i1] (mw A f1 ar al))).bind fun q2 => if q2.1 = bB (nts T c t b).2 then some (some (.int (0 : Int32)), q2.2) else some (some (.int (1 : Int32)), q2.2)) ∧ eF fl f1 ∧ f1 22 = nI (g0 + (nts T c t b).1) ∧ f1 24 = fl 24
  | 0, b, fl, t, ht, hc, he, h22 => by
    have h0 := hT.2.2.1 t (by omega)
    have hN4 := hT.1
    refine ⟨fl, ?_, eF.rf, h22, rfl⟩
    rw [e229_2, m_pass0 (c := 6) (cc := 6) hA hT he (by omega) h22 rfl (by omega) (by rw [h0]; simp), xI_s, Option.bind_some]
    dsimp only
    rw [i_if0]; rfl
  | c + 1, b, fl, t, ht, hc, he, h22 => by
    have hN4 := hT.1
    unfold nts
    by_cases e : (T t).1 = 6
    · have hlt : t < N := hTl _ (by omega)
      obtain ⟨f1, k1, k2, k3, k4⟩ := enot_loop hA hT hTl c (!b) (upd fl 22 (nI (g0 + (t + 1)))) (t + 1) (by omega) (by omega) (he.f e22) upd_s
      rw [if_pos e]
      refine ⟨f1, ?_, e22.tr k2, k3, by rw [k4, upd_n (by omega)]⟩
      rw [e229_2, m_pass1 (c := 6) (cc := 6) hA hT he (by omega) h22 rfl e, xI_s, Option.bind_some]
      dsimp only
      rw [i_if]
      refine Eq.trans ?_ k1
      cases b
      · rw [show bB false = (0 : Int32) from rfl, i_if0]; rfl
      · rw [show bB true = (1 : Int32) from rfl, i_if]; rfl
    · rw [if_neg e]
      refine ⟨fl, ?_, eF.rf, h22, rfl⟩
      rw [e229_2, m_pass0 (c := 6) (cc := 6) hA hT he (by omega) h22 rfl (by omega) e, xI_s, Option.bind_some]
      dsimp only
      rw [i_if0]
theorem pos0 (x : PX) : pPos T o 0 x = (if (T x.1).1 = 140 then .inl x.1 else pCmp T (pPart T o 0) x) := rfl
theorem posS (k : Nat) (x : PX) : pPos T o (k + 1) x = (if (T x.1).1 = 140 then rb (pTest T (pPlain T o k) (adv x)) (eat T 141) else pCmp T (pPart T o (k + 1)) x) := rfl
theorem evb_plain (hA : 69 ≤ A.length) (hT : evR T N g0 ar) (hTl : ∀ i, (T i).1 ≠ 0 → i < N) : ∀ (k d : Nat), (o = true → 1 ≤ d) → EVB E A ar al N g0 o F wd nw to askF LV (pPlain T o k) 229 (d + 11 + 4 * k) (5 + 2 * k) := by
  have hN4 := hT.1
  -- what is positive gives what is plain
  have plain : ∀ (k d : Nat), gd N (pPos T o k) → (∀ (x y : PX) (fl : Nat → Int32) (lv : Bool) (st : List Int), pPos T o k x = .inr y → okx N x → agr F askF to x y → st.length + (5 + 2 * k) ≤ 55 → lvR E A ar al fl o wd nw askF LV → est N g0 o fl → fl 22 = nI (g0 + x.1) → (fl 24 = 0 ∨ fl 24 = 1) → ∃ fl' r, xC E (d + 10 + 4 * k) 230 [.ref 48, .int (bB lv)] (mw A fl ar al) = some (some (.int r), mw A fl' ar al) ∧ eF fl fl' ∧ fl' 22 = nI (g0 + y.1) ∧ OUTB F wd nw to lv (fl 24) x.2.2.1.length st r (fl' 24) y.2.2.1.length st) → EVB E A ar al N g0 o F wd nw to askF LV (pPlain T o k) 229 (d + 11 + 4 * k) (5 + 2 * k) := by
    intro k d hgp hpos x y fl lv st hf hx ha hst hl he h22 h24
    rw [pPlain_eq] at hf
    unfold pNot at hf
    have hn := nts_ok (T := T) (N := N) hTl 400 x.1 false hx.1
    obtain ⟨f1, n1, n2, n3, n4⟩ := enot_loop (E := E) (d := d + 8 + 4 * k) (al := al) (o := o) (i1 := bB lv) hA hT hTl 400 false fl x.1 hx.1 (by omega) he h22
    generalize nts T 400 x.1 false = w at hf hn n1 n3
    obtain ⟨hn1, hn2, hn3⟩ := hn
    have hw : okx N (w.1, x.2) := ⟨hn2, by have := hx.2.1; dsimp only; omega, hx.2.2.1, hx.2.2.2⟩
    have hg := hgp (w.1, x.2) hn2
    cases hr : pPos T o k (w.1, x.2) with
    | inl t => rw [hr] at hf; cases hf
    | inr z =>
      rw [hr] at hf hg
      change Sum.inr (if w.2 = true then emi z 2 0 else z) = (Sum.inr y : PR) at hf
      cases hf
      have hzl := hg.1.2.2.1
      dsimp only at hzl
      have haz : agr F askF to (w.1, x.2) z := by
        obtain ⟨b1, b2, b3, b4⟩ := ha
        by_cases q : w.2 = true
        · simp only [q, if_true, emi, List.length_append, List.length_cons, List.length_nil] at b1 b2 b4
          exact ⟨fun j q1 q2 => by rw [b1 j q1 (by omega), List.getElem?_append_left q2], by omega, b3, b4⟩
        · simp only [q] at b1 b2 b4
          exact ⟨b1, b2, b3, b4⟩
      obtain ⟨f2, r2, p1, p2, p3, p4⟩ := hpos (w.1, x.2) z f1 lv st hr hw haz hst (hl.fr n2) (he.f n2) n3 (by rw [n4]; exact h24)
      rw [n4] at p4
      have hd10 : d + 8 + 4 * k + 2 = d + 10 + 4 * k := by omega
      have head : xC E (d + 11 + 4 * k) 229 [.ref 48, .int (bB lv)] (mw A fl ar al) = (if r2 = bB w.2 then some (some (.int (0 : Int32)), mw A f2 ar al) else some (some (.int (1 : Int32)), mw A f2 ar al)) := by
        rw [show d + 11 + 4 * k = d + 8 + 4 * k + 2 + 1 by omega, k229 _ _ _ _ _ (m_k48 hA), show xD E (d + 8 + 4 * k + 2 + 1) 229 2 [.ref 48, .int (bB lv), .int (0 : Int32)] [] (mw A fl ar al) = _ from n1, hd10, p1, xI_s, Option.bind_some]
      rw [head]
      by_cases q : w.2 = true
      · -- turned
        rw [q]
        simp only [if_true]
        have hFo : F[z.2.2.1.length]? = some (2, 0) ∧ z.2.2.1.length < to := by
          obtain ⟨b1, b2, b3, b4⟩ := ha
          simp only [q, if_true, emi, List.length_append, List.length_cons, List.length_nil] at b1 b2
          exact ⟨by rw [b1 _ (by omega) (by omega), List.getElem?_append_right (Nat.le_refl _), Nat.sub_self]; rfl, by omega⟩
        have fin : ∀ r : Int32, (r = 0 ∨ r = 1) → vB r = 1 - vB r2 → OUTB F wd nw to lv (fl 24) x.2.2.1.length st r (f2 24) (emi z 2 0).2.2.1.length st := by
          intro r hr1 hr2
          refine ⟨p4.1, hr1, p4.2.2.1, fun al => ?_⟩
          rcases p4.2.2.2 al with ⟨c1, c2⟩ | ⟨c1, c2⟩
          · exact Or.inl ⟨c1, c2⟩
          · refine Or.inr ⟨c1, ?_⟩
            have hv01 : vB r2 = 0 ∨ vB r2 = 1 := by unfold vB; split <;> simp
            have := c2.tr (rs_not (st := st) hFo.2 (by omega) hFo.1 hv01)
            rw [← hr2] at this
            simp only [emi, List.length_append, List.length_cons, List.length_nil]; exact this
        rcases p4.2.1 with h | h
        · rw [h, if_neg (by decide)]
          exact ⟨f2, 1, rfl, n2.tr p2, p3, fin 1 (Or.inr rfl) (by rw [h]; rfl)⟩
        · rw [h, if_pos (by rfl)]
          exact ⟨f2, 0, rfl, n2.tr p2, p3, fin 0 (Or.inl rfl) (by rw [h]; rfl)⟩
      · have q' : w.2 = false := by cases h : w.2; rfl; exact absurd h q
        rw [q']
        simp only [Bool.false_eq_true, if_false]
        rcases p4.2.1 with h | h
        · rw [h, if_pos (by rfl)]
          rw [h] at p4
          exact ⟨f2, 0, rfl, n2.tr p2, p3, p4⟩
        · rw [h, if_neg (by decide)]
          rw [h] at p4
          exact ⟨f2, 1, rfl, n2.tr p2, p3, p4⟩
  have hsum : ∀ k d, (o = true → 1 ≤ d) → EV E A ar al N g0 o F wd nw to askF LV (pSum T (pPart T o k)) 223 (d + 9 + 4 * k) (4 + 2 * k) := by
    intro k d hd
    have hp := ev_part (E := E) (al := al) (o := o) (F := F) (wd := wd) (nw := nw) (to := to) (askF := askF) (LV := LV) hA hT hTl k (d + k) (fun h => by have := hd h; omega)
    rw [show d + k + 7 + 3 * k = d + 5 + 4 * k + 2 by omega] at hp
    have hs := ev_sum (d := d + 5 + 4 * k) hA hT hTl (gd_part hTl k) hp
    rw [show d + 9 + 4 * k = d + 5 + 4 * k + 4 by omega, show 4 + 2 * k = 2 + 2 * k + 2 by omega]; exact hs
  have cmp : ∀ (k d : Nat), (o = true → 1 ≤ d) → ∀ (x y : PX) (fl : Nat → Int32) (lv : Bool) (st : List Int), pCmp T (pPart T o k) x = .inr y → ¬ (T x.1).1 = 140 → okx N x → agr F askF to x y → st.length + (5 + 2 * k) ≤ 55 → lvR E A ar al fl o wd nw askF LV → est N g0 o fl → fl 22 = nI (g0 + x.1) → (fl 24 = 0 ∨ fl 24 = 1) → ∃ fl' r, xC E (d + 10 + 4 * k) 230 [.ref 48, .int (bB lv)] (mw A fl ar al) = some (some (.int r), mw A fl' ar al) ∧ eF fl fl' ∧ fl' 22 = nI (g0 + y.1) ∧ OUTB F wd nw to lv (fl 24) x.2.2.1.length st r (fl' 24) y.2.2.1.length st := by
    intro k d hd x y fl lv st hf ht hx ha hst hl he h22 h24
    have hs := hsum k d hd
    rw [show d + 9 + 4 * k = d + 7 + 4 * k + 2 by omega] at hs
    have := evb_cmp (d := d + 7 + 4 * k) (st := st) (lv := lv) hA hT hTl (gd_part hTl k) hs hf ht hx ha (by omega) hl he h22 h24
    rw [show d + 10 + 4 * k = d + 7 + 4 * k + 3 by omega]; exact this
  intro k
  induction k with
  | zero =>
    intro d hd
    refine plain 0 d (fun y hy => ?_) (fun x y fl lv st hf hx ha hst hl he h22 h24 => ?_)
    · rw [pos0]
      split
      · exact hy
      · exact gd_cmp hTl (gd_part hTl 0) y hy
    · rw [pos0] at hf
      by_cases e : (T x.1).1 = 140
      · rw [if_pos e] at hf; cases hf
      · rw [if_neg e] at hf
        exact cmp 0 d hd x y fl lv st hf e hx ha hst hl he h22 h24
  | succ k ihk =>
    intro d hd
    refine plain (k + 1) d (fun y hy => ?_) (fun x y fl lv st hf hx ha hst hl he h22 h24 => ?_)
    · rw [posS]
      split
      · rename_i q; exact gd_eat hTl (gd_test hTl (gd_plain hTl k)) (by omega) (hTl _ (by omega))
      · exact gd_cmp hTl (gd_part hTl (k + 1)) y hy
    · rw [posS] at hf
      by_cases e : (T x.1).1 = 140
      · rw [if_pos e] at hf
        have hp := ihk d hd
        rw [show d + 11 + 4 * k = d + 9 + 4 * k + 2 by omega] at hp
        have hs := evb_test (d := d + 9 + 4 * k) hA hT hTl (gd_plain hTl k) hp
        have hlt : x.1 < N := hTl _ (by omega)
        have hxx : okx N (adv x) := hx.le (xle_adv hlt)
        have hx1 := hx.1
        have hg := gd_test hTl (gd_plain (o := o) hTl k) (adv x) hxx.1
        cases hr : pTest T (pPlain T o k) (adv x) with
        | inl t => rw [hr] at hf; cases hf
        | inr z =>
          rw [hr] at hf hg
          change eat T 141 z = .inr y at hf
          unfold eat at hf
          split at hf
          · rename_i ez
            cases hf
            obtain ⟨f1, r1, p1, p2, p3, p4⟩ := hs (adv x) z (upd fl 22 (nI (g0 + (x.1 + 1)))) lv st hr hxx ha (by omega) (hl.fr e22) (he.f e22) upd_s (by rw [upd_n (by omega)]; exact h24)
            rw [upd_n (show 24 ≠ 22 by omega)] at p4
            have hx01 : x01 r1 = true := by rcases p4.2.1 with h | h <;> rw [h] <;> decide
            refine ⟨upd f1 22 (nI (g0 + (z.1 + 1))), r1, ?_, (e22.tr p2).tr e22, upd_s, by rw [upd_n (show 24 ≠ 22 by omega)]; exact p4⟩
            rw [show d + 10 + 4 * (k + 1) = d + 9 + 4 * k + 4 + 1 by omega, k230 _ _ _ _ _ (m_k48 hA), m_sign (c := 40) (cc := 40) rfl, xI_s, Option.bind_some]
            dsimp only
            rw [m_pass1 hA hT he (by omega) h22 rfl e, xI_s, Option.bind_some]
            dsimp only
            rw [i_if, p1, xI_s, Option.bind_some]
            dsimp only
            rw [m_g48_22 hA, Option.bind_some, p3, nI_1, m_p48_22 hA, Option.bind_some, if_pos hx01, show g0 + z.1 + 1 = g0 + (z.1 + 1) by omega]
          · cases hf
      · rw [if_neg e] at hf
        exact cmp (k + 1) d hd x y fl lv st hf e hx ha hst hl he h22 h24
theorem ev_sums (hA : 69 ≤ A.length) (hT : evR T N g0 ar) (hTl : ∀ i, (T i).1 ≠ 0 → i < N) (hd : o = true → 1 ≤ d) : EV E A ar al N g0 o F wd nw to askF LV (pSums T o) 223 (d + 33) 20 := by
  have hp := ev_part (E := E) (al := al) (o := o) (F := F) (wd := wd) (nw := nw) (to := to) (askF := askF) (LV := LV) hA hT hTl 8 d hd
  exact ev_sum (d := d + 29) hA hT hTl (gd_part hTl 8) hp
theorem evb_tests (hA : 69 ≤ A.length) (hT : evR T N g0 ar) (hTl : ∀ i, (T i).1 ≠ 0 → i < N) (hd : o = true → 1 ≤ d) : EVB E A ar al N g0 o F wd nw to askF LV (pTests T o) 227 (d + 45) 21 := by
  have hp := evb_plain (E := E) (al := al) (o := o) (F := F) (wd := wd) (nw := nw) (to := to) (askF := askF) (LV := LV) hA hT hTl 8 d hd
  exact evb_test (d := d + 41) hA hT hTl (gd_plain hTl 8) hp
end EPLAIN
