/-! ===== the reference goes along a whole order ===== -/
def kdT (k : Nat) : Nat := if k = 0 then 20 else 21 + k
section MALONG
variable {E : Nat × (Nat → Int32)} {d : Nat} {A : xH} {fl : Nat → Int32} {ar : Nat → Nat → Int32} {al : Nat → Nat → Int64} {T : Nat → Nat × Nat} {N g0 : Nat} {F : List (Nat × Nat)} {wd : Nat → Int} {askF : List Nat} {LV : Nat → Nat → Int}
theorem tm_le (hTl : ∀ i, (T i).1 ≠ 0 → i < N) {z y : PX} {k a b c e : Nat} {l : List Nat} (h : pTimes T z k a b c e = .inr (y, l)) : xle N z y := by
  unfold pTimes at h
  split at h
  · rename_i q1
    split at h
    · rename_i q2
      cases h
      have hl1 := hTl z.1 (by omega)
      have hl2 := hTl (z.1 + 1) (by omega)
      exact (xle_adv hl1).tr (xle_adv (x := adv z) (by simp only [adv]; omega))
    · cases h
  · cases h; exact xle.rf
theorem if_le (hTl : ∀ i, (T i).1 ≠ 0 → i < N) {y0 x' : PX} {l0 l : List Nat} (hif : (if (T y0.1).1 = 3 then (match pTests T true (adv y0) with
    | .inl f => Sum.inl f
    | .inr z => .inr (z, l0 ++ [y0.2.2.1.length, z.2.2.1.length])) else .inr (y0, l0 ++ [0, 0])) = (.inr (x', l) : PC)) (hy : okx N y0) : xle N y0 x' := by
  by_cases e : (T y0.1).1 = 3
  · rw [if_pos e] at hif
    cases hr : pTests T true (adv y0) with
    | inl t => rw [hr] at hif; cases hif
    | inr z =>
      rw [hr] at hif
      cases hif
      have hlt : y0.1 < N := hTl _ (by omega)
      have hyx : okx N (adv y0) := hy.le (xle_adv hlt)
      have hg := gd_test hTl (gd_plain (o := true) hTl 8) (adv y0) hyx.1
      rw [show pTest T (pPlain T true 8) (adv y0) = .inr x' from hr] at hg
      exact (xle_adv hlt).tr hg.1
  · rw [if_neg e] at hif
    cases hif; exact xle.rf
theorem if_l (hTl : ∀ i, (T i).1 ≠ 0 → i < N) {y0 x' : PX} {l0 l : List Nat} (hif : (if (T y0.1).1 = 3 then (match pTests T true (adv y0) with
    | .inl f => Sum.inl f
    | .inr z => .inr (z, l0 ++ [y0.2.2.1.length, z.2.2.1.length])) else .inr (y0, l0 ++ [0, 0])) = (.inr (x', l) : PC)) (hl6 : l0.length = 6) : ∀ j, j < 6 → l.getD j 0 = l0.getD j 0 := by
  have hgd : ∀ (a b : Nat) (j : Nat), j < 6 → (l0 ++ [a, b]).getD j 0 = l0.getD j 0 := fun a b j hj => by
    rw [List.getD_eq_getElem?_getD, List.getElem?_append_left (by omega), List.getD_eq_getElem?_getD]
  by_cases e : (T y0.1).1 = 3
  · rw [if_pos e] at hif
    cases hr : pTests T true (adv y0) with
    | inl t => rw [hr] at hif; cases hif
    | inr z => rw [hr] at hif; cases hif; exact hgd _ _
  · rw [if_neg e] at hif
    cases hif; exact hgd _ _
/-- what a walk along an order leaves -/
def ALO (F : List (Nat × Nat)) (wd : Nat → Int) (lv : Bool) (l : List Nat) (fl' : Nat → Int32) (s : Nat → Int64) : Prop := fl' 38 = nI (l.getD 1 0) ∧ fl' 39 = nI (kdT (l.getD 0 0)) ∧ l.getD 0 0 ≤ 3 ∧ l.getD 1 0 ≤ 20 ∧ (fl' 41 = 0 ∨ fl' 41 = 1) ∧ (fl' 40 = 0 ∨ fl' 40 = 1) ∧ (lv = true → (fl' 41 = 1 ↔ cT F wd 56 l = some 1) ∧ (fl' 40 = 1 ↔ cS F wd 56 l ≠ none ∧ cU F wd 56 l ≠ none) ∧ (∀ v, cS F wd 56 l = some v → s 0 = lI v ∧ -1000000000 ≤ v ∧ v ≤ 1000000000) ∧ (l.getD 0 0 = 0 → ∀ v, cU F wd 56 l = some v → s 1 = lI v ∧ -1000000000 ≤ v ∧ v ≤ 1000000000))
/-- what goes along an order changes -/
def gF (fl fl' : Nat → Int32) : Prop := ∀ j, j ≠ 22 → j ≠ 23 → j ≠ 24 → j ≠ 25 → j ≠ 38 → j ≠ 39 → j ≠ 40 → j ≠ 41 → fl' j = fl j
theorem m_along (hA : 69 ≤ A.length) (hT : evR T N g0 ar) (hTl : ∀ i, (T i).1 ≠ 0 → i < N) (hd : 1 ≤ d) {x x' : PX} {l : List Nat} {lv : Bool} (hc : pClause T true x = .inr (x', l)) (hx : okx N x) (hp : pfx F askF x') (hl : ∀ f1 al1, f1 27 = fl 27 → f1 28 = fl 28 → lvR E A ar al1 f1 true wd 56 askF LV) (h37 : fl 37 = nI (g0 + x.1)) : ∃ fl' s, xC E (d + 46) 284 [.ref 48, .int (nI (g0 + N)), .int (bB lv)] (mw A fl ar al) = some (none, mw A fl' ar (sal al 42 s)) ∧ gF fl fl' ∧ fl' 22 = nI (g0 + (x'.1 + 1)) ∧ ALO F wd lv l fl' s := by
  have hN4 := hT.1
  have hg4 := hT.2.1
  have hx1 := hx.1
  have h4 := hT.2.2.2.1 x.1
  generalize hf0 : upd (upd (upd (upd (upd (upd fl 25 1) 23 (nI (g0 + N))) 22 (nI (g0 + x.1))) 39 (nI (T x.1).1)) 22 (nI (g0 + (x.1 + 1)))) 40 1 = f0
  have f0g : ∀ j, j ≠ 22 → j ≠ 23 → j ≠ 25 → j ≠ 39 → j ≠ 40 → f0 j = fl j := fun j a b c e g => by rw [← hf0, upd_n g, upd_n a, upd_n e, upd_n a, upd_n b, upd_n c]
  have f022 : f0 22 = nI (g0 + (x.1 + 1)) := by rw [← hf0, upd_n (by omega), upd_s]
  have f040 : f0 40 = 1 := by rw [← hf0, upd_s]
  have f039 : f0 39 = nI (T x.1).1 := by rw [← hf0, upd_n (by omega), upd_n (by omega), upd_s]
  have f0e : est N g0 true f0 := ⟨by rw [← hf0, upd_n (by omega), upd_n (by omega), upd_n (by omega), upd_n (by omega), upd_s], by rw [← hf0, upd_n (by omega), upd_n (by omega), upd_n (by omega), upd_n (by omega), upd_n (by omega), upd_s]; rfl⟩
  have start : xC E (d + 46) 284 [.ref 48, .int (nI (g0 + N)), .int (bB lv)] (mw A fl ar al) = xD E (d + 46) 284 47 [.ref 48, .int (nI (g0 + N)), .int (bB lv), .int (nI 0)] [] (mw A f0 ar al) := by
    have hco := m_codeAt (E := E) (d := d + 44) (fl := upd (upd (upd fl 25 1) 23 (nI (g0 + N))) 22 (nI (g0 + x.1))) (al := al) (o := true) (i := x.1) hA hT ⟨by rw [upd_n (by omega), upd_s], by rw [upd_n (by omega), upd_n (by omega), upd_s]; rfl⟩ (by omega)
    rw [k284 _ _ _ _ _ _ (m_k48 hA), m_p48_25 hA, Option.bind_some, m_p48_23 hA, Option.bind_some, m_g48_37 hA, Option.bind_some, upd_n (by omega), upd_n (by omega), h37, m_p48_22 hA, Option.bind_some, m_g48_22 hA, Option.bind_some, upd_s, hco, xI_s, Option.bind_some]
    dsimp only
    rw [m_p48_39 hA, Option.bind_some, m_g48_22 hA, Option.bind_some, upd_n (by omega), upd_s, nI_1, m_p48_22 hA, Option.bind_some, m_p48_40 hA, Option.bind_some, show g0 + x.1 + 1 = g0 + (x.1 + 1) by omega, hf0]
    rfl
  -- the first sum
  have first : ∀ y : PX, (T x.1).1 ≠ 0 → pSums T true (adv x) = .inr y → pfx F askF y → okx N y ∧ ∃ f1 r, xC E (d + 46) 284 [.ref 48, .int (nI (g0 + N)), .int (bB lv)] (mw A fl ar al) = xD E (d + 46) 284 47 [.ref 48, xJ, .int (bB lv), .int (nI 1)] [] (mw A f1 ar (sal al 42 (vp_updL (al 42) 0 r))) ∧ (∀ j, j ≠ 22 → j ≠ 24 → j ≠ 40 → f1 j = f0 j) ∧ f1 22 = nI (g0 + y.1) ∧ (f1 40 = 0 ∨ f1 40 = 1) ∧ (lv = true → (f1 40 = 1 ↔ wth F wd 56 x.2.2.1.length y.2.2.1.length ≠ none) ∧ ∀ v, wth F wd 56 x.2.2.1.length y.2.2.1.length = some v → r = lI v ∧ -1000000000 ≤ v ∧ v ≤ 1000000000) := by
    intro y h0 hs hpy
    have hlt : x.1 < N := hTl _ h0
    have hxx : okx N (adv x) := hx.le (xle_adv hlt)
    have hg := gd_sum hTl (gd_part (o := true) hTl 8) (adv x) hxx.1
    rw [show pSum T (pPart T true 8) (adv x) = .inr y from hs] at hg
    have hy := hxx.le hg.1
    refine ⟨hy, ?_⟩
    obtain ⟨f1, r, p1, p2, p3, p4, p5⟩ := o79 (E := E) (d := d) (al := al) (F := F) (wd := wd) (askF := askF) (LV := LV) (fl := f0) (lv := lv) (i := 0) (w1 := xJ) hA hT hTl hd hs hxx (hpy.agr hy hN4) (hl f0 al (f0g 27 (by omega) (by omega) (by omega) (by omega) (by omega)) (f0g 28 (by omega) (by omega) (by omega) (by omega) (by omega))) f0e f022 (Or.inr f040) (by omega)
    refine ⟨f1, r, ?_, p2, p3, p4, fun hlv => ⟨?_, (p5 hlv).2⟩⟩
    · rw [start, e284_47, m_g48_39 hA, Option.bind_some]
      by_cases e : f0 39 = (20 : Int32)
      · rw [if_pos e, e284_62, if_neg (by rw [zl]; exact nI_ge (by omega) (by omega)), if_pos (by decide)]; exact p1
      · rw [if_neg e, e284_62, if_neg (by rw [zl]; exact nI_ge (by omega) (by omega)), if_pos (by decide)]; exact p1
    · rw [(p5 hlv).1]
      exact ⟨fun q => q.2, fun q => ⟨f040, q⟩⟩
  -- what is one sum only
  have one : ∀ (k : Nat) (y0 : PX) (l0 : List Nat), 1 ≤ k → k ≤ 3 → (T x.1).1 = 21 + k → pOne T true x k = .inr (y0, l0) → (if (T y0.1).1 = 3 then (match pTests T true (adv y0) with
    | .inl f => Sum.inl f
    | .inr z => .inr (z, l0 ++ [y0.2.2.1.length, z.2.2.1.length])) else .inr (y0, l0 ++ [0, 0])) = (.inr (x', l) : PC) → ∃ fl' s, xC E (d + 46) 284 [.ref 48, .int (nI (g0 + N)), .int (bB lv)] (mw A fl ar al) = some (none, mw A fl' ar (sal al 42 s)) ∧ gF fl fl' ∧ fl' 22 = nI (g0 + (x'.1 + 1)) ∧ ALO F wd lv l fl' s := by
    intro k y0 l0 hk hk3 htk ho hif
    unfold pOne at ho
    cases hs : pSums T true (adv x) with
    | inl t => rw [hs] at ho; cases ho
    | inr z =>
      rw [hs] at ho
      dsimp only at ho
      have hz0 := (hx.le (xle_adv (hTl x.1 (by omega))))
      have hgz := gd_sum hTl (gd_part (o := true) hTl 8) (adv x) hz0.1
      rw [show pSum T (pPart T true 8) (adv x) = .inr z from hs] at hgz
      have hzz := hz0.le hgz.1
      have hle := tm_le hTl ho
      have hpz : pfx F askF z := (hp.le (if_le hTl hif (hzz.le hle))).le hle
      obtain ⟨hz, f1, r, p1, p2, p3, p4, p5⟩ := first z (by omega) hs hpz
      have g27 : ∀ j, j ≠ 22 → j ≠ 23 → j ≠ 24 → j ≠ 25 → j ≠ 39 → j ≠ 40 → f1 j = fl j := fun j a b c e g i => (p2 j a c i).trans (f0g j a b e g i)
      obtain ⟨f3, t, k1, k2, k3, k4, k5, k6, k7, k8⟩ := o62 (E := E) (d := d) (al := sal al 42 (vp_updL (al 42) 0 r)) (F := F) (wd := wd) (askF := askF) (LV := LV) (fl := f1) (lv := lv) (m := 1) (i := 1) (w1 := xJ) hA hT hTl hd ho hif hz hp (fun f2 al2 a b => hl f2 al2 (a.trans (g27 27 (by omega) (by omega) (by omega) (by omega) (by omega) (by omega))) (b.trans (g27 28 (by omega) (by omega) (by omega) (by omega) (by omega) (by omega)))) ⟨(p2 23 (by omega) (by omega) (by omega)).trans f0e.1, (p2 25 (by omega) (by omega) (by omega)).trans f0e.2⟩ p3 (by omega) (by omega)
      have gl := if_l hTl hif (by rw [k4]; rfl)
      have l0e : l.getD 0 0 = k := (gl 0 (by omega)).trans (by rw [k4]; rfl)
      have l1e : l.getD 1 0 = t := (gl 1 (by omega)).trans (by rw [k4]; rfl)
      have cSe : cS F wd 56 l = wth F wd 56 x.2.2.1.length z.2.2.1.length := by
        unfold cS
        rw [gl 2 (by omega), gl 3 (by omega), k4]; rfl
      have cUe : cU F wd 56 l = some 1 := by
        unfold cU
        rw [gl 4 (by omega), gl 5 (by omega), k4]; exact wth_same
      have f39 : f1 39 = nI (21 + k) := (p2 39 (by omega) (by omega) (by omega)).trans (f039.trans (by rw [htk]))
      refine ⟨f3, vp_updL (al 42) 0 r, ?_, fun j a b c e g i m q => ?_, k3, ?_⟩
      · rw [p1, e284_47, m_g48_39 hA, Option.bind_some, f39, if_neg (show ¬ nI (21 + k) = (20 : Int32) from fun z => by have := (nI_eq (b := 20) (by omega) (by omega)).mp z; omega)]
        exact k1
      · rw [k2 j a c g q, g27 j a b c e i m]
      · refine ⟨by rw [l1e]; exact k6, ?_, by omega, by omega, k7, ?_, fun hlv => ⟨k8 hlv, ?_, fun v hv => ?_, fun z => by omega⟩⟩
        · rw [l0e, k2 39 (by omega) (by omega) (by omega) (by omega), f39]
          unfold kdT
          rw [if_neg (by omega)]
        · rw [k2 40 (by omega) (by omega) (by omega) (by omega)]; exact p4
        · rw [k2 40 (by omega) (by omega) (by omega) (by omega), cSe, cUe, (p5 hlv).1]
          exact ⟨fun q => ⟨q, fun z => by cases z⟩, fun q => q.1⟩
        · rw [cSe] at hv
          rw [updL_s]; exact (p5 hlv).2 v hv
  unfold pClause at hc
  simp only [if_true] at hc
  cases ho : pOrder T true x with
  | inl t => rw [ho] at hc; cases hc
  | inr w =>
    obtain ⟨y0, l0⟩ := w
    rw [ho] at hc
    dsimp only at hc
    unfold pOrder at ho
    by_cases e20 : (T x.1).1 = 20
    · rw [if_pos e20] at ho
      cases hs : pSums T true (adv x) with
      | inl t => rw [hs] at ho; cases ho
      | inr y =>
        rw [hs] at ho
        dsimp only at ho
        by_cases e21 : (T y.1).1 = 21
        · rw [if_pos e21] at ho
          cases hs2 : pSums T true (adv y) with
          | inl t => rw [hs2] at ho; cases ho
          | inr z =>
            rw [hs2] at ho
            dsimp only at ho
            have hx0 := (hx.le (xle_adv (hTl x.1 (by omega))))
            have hgy := gd_sum hTl (gd_part (o := true) hTl 8) (adv x) hx0.1
            rw [show pSum T (pPart T true 8) (adv x) = .inr y from hs] at hgy
            have hyy := hx0.le hgy.1
            have hy1 := hyy.1
            have hltY := hTl y.1 (by omega)
            have hya := hyy.le (xle_adv hltY)
            have hgz := gd_sum hTl (gd_part (o := true) hTl 8) (adv y) hya.1
            rw [show pSum T (pPart T true 8) (adv y) = .inr z from hs2] at hgz
            have hzz := hya.le hgz.1
            have hle := tm_le hTl ho
            have hpz : pfx F askF z := (hp.le (if_le hTl hc (hzz.le hle))).le hle
            have hpy : pfx F askF y := hpz.le ((xle_adv hltY).tr hgz.1)
            obtain ⟨hy, f1, r, p1, p2, p3, p4, p5⟩ := first y (by omega) hs hpy
            have g27 : ∀ j, j ≠ 22 → j ≠ 23 → j ≠ 24 → j ≠ 25 → j ≠ 39 → j ≠ 40 → f1 j = fl j := fun j a b c e g i => (p2 j a c i).trans (f0g j a b e g i)
            have f39 : f1 39 = 20 := (p2 39 (by omega) (by omega) (by omega)).trans (f039.trans (by rw [e20]; rfl))
            have fe1 : est N g0 true f1 := ⟨(p2 23 (by omega) (by omega) (by omega)).trans f0e.1, (p2 25 (by omega) (by omega) (by omega)).trans f0e.2⟩
            obtain ⟨f2, r2, q1, q2, q3, q4, q5⟩ := o79 (E := E) (d := d) (al := sal al 42 (vp_updL (al 42) 0 r)) (F := F) (wd := wd) (askF := askF) (LV := LV) (fl := upd f1 22 (nI (g0 + (y.1 + 1)))) (lv := lv) (i := 1) (w1 := xJ) hA hT hTl hd hs2 hya (hpz.agr hzz hN4) (hl _ _ ((upd_n (by omega)).trans (g27 27 (by omega) (by omega) (by omega) (by omega) (by omega) (by omega))) ((upd_n (by omega)).trans (g27 28 (by omega) (by omega) (by omega) (by omega) (by omega) (by omega)))) (fe1.f e22) upd_s (by rw [upd_n (by omega)]; exact p4) (by omega)
            have h27 : ∀ j, j ≠ 22 → j ≠ 23 → j ≠ 24 → j ≠ 25 → j ≠ 39 → j ≠ 40 → f2 j = fl j := fun j a b c e g i => by rw [q2 j a c i, upd_n a, g27 j a b c e g i]
            have f239 : f2 39 = 20 := by rw [q2 39 (by omega) (by omega) (by omega), upd_n (by omega)]; exact f39
            obtain ⟨f3, t, k1, k2, k3, k4, k5, k6, k7, k8⟩ := o62 (E := E) (d := d) (al := sal (sal al 42 (vp_updL (al 42) 0 r)) 42 (vp_updL (sal al 42 (vp_updL (al 42) 0 r) 42) 1 r2)) (F := F) (wd := wd) (askF := askF) (LV := LV) (fl := f2) (lv := lv) (m := 2) (i := 2) (w1 := xJ) hA hT hTl hd ho hc hzz hp (fun f2' al2 a b => hl f2' al2 (a.trans (h27 27 (by omega) (by omega) (by omega) (by omega) (by omega) (by omega))) (b.trans (h27 28 (by omega) (by omega) (by omega) (by omega) (by omega) (by omega)))) ⟨by rw [q2 23 (by omega) (by omega) (by omega), upd_n (by omega)]; exact fe1.1, by rw [q2 25 (by omega) (by omega) (by omega), upd_n (by omega)]; exact fe1.2⟩ q3 (by omega) (by omega)
            have gl := if_l hTl hc (by rw [k4]; rfl)
            have l0e : l.getD 0 0 = 0 := (gl 0 (by omega)).trans (by rw [k4]; rfl)
            have l1e : l.getD 1 0 = t := (gl 1 (by omega)).trans (by rw [k4]; rfl)
            have cSe : cS F wd 56 l = wth F wd 56 x.2.2.1.length y.2.2.1.length := by
              unfold cS
              rw [gl 2 (by omega), gl 3 (by omega), k4]; rfl
            have cUe : cU F wd 56 l = wth F wd 56 y.2.2.1.length z.2.2.1.length := by
              unfold cU
              rw [gl 4 (by omega), gl 5 (by omega), k4]; rfl
            rw [sal_sal, sal_s] at q1
            rw [sal_sal, sal_s] at k1
            refine ⟨f3, vp_updL (vp_updL (al 42) 0 r) 1 r2, ?_, fun j a b c e g i m q => ?_, k3, ?_⟩
            · rw [p1, e284_47, m_g48_39 hA, Option.bind_some, f39, if_pos rfl, e284_62, if_neg (by rw [zl]; exact nI_ge (by omega) (by omega)), if_neg (by decide), m_g48_22 hA, Option.bind_some, p3, nI_1, m_p48_22 hA, Option.bind_some, show g0 + y.1 + 1 = g0 + (y.1 + 1) by omega]
              refine Eq.trans q1 ?_
              rw [e284_47, m_g48_39 hA, Option.bind_some, f239, if_pos rfl]
              exact k1
            · rw [k2 j a c g q, h27 j a b c e i m]
            · refine ⟨by rw [l1e]; exact k6, ?_, by omega, by omega, k7, ?_, fun hlv => ⟨k8 hlv, ?_, fun v hv => ?_, fun _ v hv => ?_⟩⟩
              · rw [l0e, k2 39 (by omega) (by omega) (by omega) (by omega), f239]; rfl
              · rw [k2 40 (by omega) (by omega) (by omega) (by omega)]; exact q4
              · rw [k2 40 (by omega) (by omega) (by omega) (by omega), cSe, cUe, (q5 hlv).1, upd_n (by omega), (p5 hlv).1]
                exact Iff.rfl
              · rw [cSe] at hv
                rw [updL_n (by omega), updL_s]; exact (p5 hlv).2 v hv
              · rw [cUe] at hv
                rw [updL_s]; exact (q5 hlv).2 v hv
        · rw [if_neg e21] at ho; cases ho
    · rw [if_neg e20] at ho
      by_cases e22 : (T x.1).1 = 22
      · rw [if_pos e22] at ho; exact one 1 y0 l0 (by omega) (by omega) e22 ho hc
      rw [if_neg e22] at ho
      by_cases e23 : (T x.1).1 = 23
      · rw [if_pos e23] at ho; exact one 2 y0 l0 (by omega) (by omega) e23 ho hc
      rw [if_neg e23] at ho
      by_cases e24 : (T x.1).1 = 24
      · rw [if_pos e24] at ho; exact one 3 y0 l0 (by omega) (by omega) e24 ho hc
      rw [if_neg e24] at ho; cases ho
end MALONG
