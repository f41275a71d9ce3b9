/-! ===== laws: what they tell, in the reference ===== -/
noncomputable def cS (F : List (Nat × Nat)) (wd : Nat → Int) (nw : Nat) (l : List Nat) : Option Int := wth F wd nw (l.getD 2 0) (l.getD 3 0)
noncomputable def cT (F : List (Nat × Nat)) (wd : Nat → Int) (nw : Nat) (l : List Nat) : Option Int := wth F wd nw (l.getD 6 0) (l.getD 7 0)
def clampI (v : Int) : Nat := if v < 0 then 0 else if 99 < v then 99 else v.toNat

noncomputable def upt (F : List (Nat × Nat)) (wd : Nat → Int) (nw kind : Nat) (l : List Nat) (t : Nat) : Nat := if l.getD 0 0 = kind ∧ cT F wd nw l = some 1 then (match cS F wd nw l with
  | some v => clampI v
  | none => t) else t
noncomputable def tfold (F : List (Nat × Nat)) (wd : Nat → Int) (nw kind : Nat) : List (List Nat) → Nat → Nat
  | [], t => t
  | l :: r, t => tfold F wd nw kind r (upt F wd nw kind l t)
theorem clampI_le (v : Int) : clampI v ≤ 99 := by unfold clampI; split <;> (try split) <;> omega
theorem upt_le {F : List (Nat × Nat)} {wd : Nat → Int} {nw kind t : Nat} {l : List Nat} (h : t ≤ 99) : upt F wd nw kind l t ≤ 99 := by
  unfold upt
  split
  · split
    · exact clampI_le _
    · exact h
  · exact h
theorem tfold_le {F : List (Nat × Nat)} {wd : Nat → Int} {nw kind : Nat} : ∀ (cs : List (List Nat)) (t : Nat), t ≤ 99 → tfold F wd nw kind cs t ≤ 99
  | [], t, h => h
  | l :: r, t, h => tfold_le r _ (upt_le h)
/-- code and asked of the text begin as those of y -/
def pfx (F : List (Nat × Nat)) (askF : List Nat) (y : PX) : Prop := (∀ j, j < y.2.2.1.length → F[j]? = y.2.2.1[j]?) ∧ ∀ (j q : Nat), y.2.2.2[j]? = some q → askF[j]? = some q
section TELLS
variable {E : Nat × (Nat → Int32)} {d : Nat} {A : xH} {fl : Nat → Int32} {ar : Nat → Nat → Int32} {al : Nat → Nat → Int64} {T : Nat → Nat × Nat} {N g0 : Nat} {o : Bool} {F : List (Nat × Nat)} {wd : Nat → Int} {nw : Nat} {askF : List Nat} {LV : Nat → Nat → Int}
theorem pfx.le {x y : PX} (h : pfx F askF y) (g : xle N x y) : pfx F askF x := by
  obtain ⟨c1, c2, c3, c4, c5, c6, c7, c8, c9, c10⟩ := g
  refine ⟨fun j hj => by rw [h.1 j (by omega), c5 j hj], fun j q hq => h.2 j q ?_⟩
  rw [c10 j (List.getElem?_eq_some_iff.mp hq).1]; exact hq
theorem pfx.agr {x y : PX} (h : pfx F askF y) (hy : okx N y) (hN : N ≤ 400) : agr F askF y.2.2.1.length x y := ⟨fun j _ hj => h.1 j hj, Nat.le_refl _, by have := hy.1; have := hy.2.1; omega, h.2⟩
theorem l_clamp {v : Int} (h1 : -1000000000 ≤ v) (h2 : v ≤ 1000000000) : (0 ≤ lg_cmp (lI v) (0 : Int64) ↔ ¬ v < 0) ∧ (lg_cmp (lI v) (99 : Int64) ≤ 0 ↔ ¬ 99 < v) := by
  have e99 : (99 : Int64) = lI 99 := by decide +kernel
  constructor
  · rw [lg_cmp_ge, l0, l_le (by omega) (by omega) (by omega) (by omega)]; omega
  · rw [lg_cmp_le, e99, l_le (by omega) (by omega) (by omega) (by omega)]; omega
/-- a clause's end -/
theorem t149 (hA : 69 ≤ A.length) {p h c5 t : Nat} {v : Int} {w2 w9 : Value} {j6 : Int64} {i8 s0 : Int32} (h22 : fl 22 = nI (g0 + p)) (h24 : fl 24 = 0 ∨ fl 24 = 1) (hh : h = 1 ∨ h = 2) (hc5 : c5 = 1 ∨ c5 = 2) (h8 : i8 = 0 ∨ i8 = 1) (hs0 : s0 = 0 ∨ s0 = 1) (hj6 : i8 = 0 → j6 = lI v ∧ -1000000000 ≤ v ∧ v ≤ 1000000000) : ∃ v9, xD E (d + 46) 232 149 [.ref 48, .int (nI h), w2, .long (lI (t : Int)), xJ, .int (nI c5), .long j6, xJ, .int i8, w9] [.int s0] (mw A fl ar al) = xD E (d + 46) 232 64 [.ref 48, .int (nI h), xJ, .long (lI ((if c5 = h ∧ s0 = 1 ∧ fl 24 = 0 ∧ i8 = 0 then clampI v else t : Nat) : Int)), xJ, .int (nI c5), .long j6, xJ, .int i8, v9] [] (mw A (upd fl 22 (nI (g0 + (p + 1)))) ar al) := by
  have hce : nI c5 = nI h ↔ c5 = h := nI_eq (by omega) (by omega)
  refine ⟨.int s0, ?_⟩
  rw [e232_149]
  simp (disch := omega) only [m_g48_22, h22, nI_1, m_p48_22, Option.bind_some, m_g48_24]
  rw [show g0 + p + 1 = g0 + (p + 1) by omega]
  by_cases e : c5 = h
  · rw [if_pos (hce.mpr e)]
    rcases hs0 with rfl | rfl
    · rw [i_if0, if_neg (fun q => absurd q.2.1 (by decide))]
    · rw [i_if]
      rcases h24 with h24 | h24
      · rw [h24, i_if0]
        rcases h8 with rfl | rfl
        · obtain ⟨q1, q2, q3⟩ := hj6 rfl
          obtain ⟨k1, k2⟩ := l_clamp q2 q3
          rw [i_if0, if_pos (show c5 = h ∧ (1 : Int32) = 1 ∧ (0 : Int32) = 0 ∧ (0 : Int32) = 0 from ⟨e, rfl, rfl, rfl⟩), q1]
          unfold clampI
          by_cases z1 : v < 0
          · rw [if_neg (fun q => (k1.mp q) z1), if_pos z1]; rfl
          · rw [if_pos (k1.mpr z1), if_neg z1]
            by_cases z2 : 99 < v
            · rw [if_neg (fun q => (k2.mp q) z2), if_pos z2]; rfl
            · rw [if_pos (k2.mpr z2), if_neg z2, Int.toNat_of_nonneg (by omega)]
        · rw [i_if, if_neg (fun q => absurd q.2.2.2 (by decide))]
      · rw [h24, i_if, if_neg (fun q => absurd q.2.2.1 (by decide))]
  · rw [if_neg (fun q => e (hce.mp q)), if_neg (fun q => e q.1)]
/-- a clause behind its head: y0 -/
theorem t115 (hA : 69 ≤ A.length) (hT : evR T N g0 ar) (hTl : ∀ i, (T i).1 ≠ 0 → i < N) (hd : o = true → 1 ≤ d) {y0 x' : PX} {l0 l : List Nat} (hl6 : l0.length = 6) (hif : (if (T y0.1).1 = 3 then (match pTests T o (adv y0) with
    | .inl f => Sum.inl f
    | .inr z => .inr (z, l0 ++ [y0.2.2.1.length, z.2.2.1.length])) else .inr (y0, l0 ++ [0, 0])) = (.inr (x', l) : PC)) (hy : okx N y0) (hp : pfx F askF x') (hl : lvR E A ar al fl o wd nw askF LV) (he : est N g0 o fl) (h22 : fl 22 = nI (g0 + y0.1)) (h24 : fl 24 = 0 ∨ fl 24 = 1) {h c5 t : Nat} {v : Int} {w2 w6 w7 w8 w9 : Value} {j6 : Int64} (hh : h = 1 ∨ h = 2) (hc5 : c5 = 1 ∨ c5 = 2) (hj6 : fl 24 = 0 → j6 = lI v ∧ -1000000000 ≤ v ∧ v ≤ 1000000000) (hk : l0.getD 0 0 = c5 + 3) (hcs : wth F wd nw (l0.getD 2 0) (l0.getD 3 0) = if fl 24 = 0 then some v else none) : ∃ fl' v5 v6 v8 v9, xD E (d + 46) 232 115 [.ref 48, .int (nI h), w2, .long (lI (t : Int)), xJ, .int (nI c5), w6, w7, w8, w9] [.long j6] (mw A fl ar al) = xD E (d + 46) 232 64 [.ref 48, .int (nI h), xJ, .long (lI (upt F wd nw (h + 3) l t : Nat)), xJ, v5, v6, xJ, v8, v9] [] (mw A fl' ar al) ∧ eF fl fl' ∧ fl' 22 = nI (g0 + (x'.1 + 1)) := by
  have hN4 := hT.1
  have hy1 := hy.1
  have f124 : upd fl 24 0 24 = 0 := upd_s
  have f122 : upd fl 24 0 22 = nI (g0 + y0.1) := by rw [upd_n (by omega)]; exact h22
  rw [e232_115, m_g48_24 hA, Option.bind_some, m_p48_24 hA, Option.bind_some]
  -- the told worth
  have told : ∀ (l : List Nat) (s0 b : Int32), l.getD 0 0 = l0.getD 0 0 → l.getD 2 0 = l0.getD 2 0 → l.getD 3 0 = l0.getD 3 0 → (cT F wd nw l = some 1 ↔ s0 = 1 ∧ b = 0) → (if c5 = h ∧ s0 = 1 ∧ b = 0 ∧ fl 24 = 0 then clampI v else t) = upt F wd nw (h + 3) l t := by
    intro l s0 b g0 g2 g3 g4
    unfold upt cS
    rw [g0, g2, g3, hk, hcs]
    by_cases q1 : c5 = h ∧ s0 = 1 ∧ b = 0
    · rw [if_pos (show c5 + 3 = h + 3 ∧ cT F wd nw l = some 1 from ⟨by omega, g4.mpr ⟨q1.2.1, q1.2.2⟩⟩)]
      by_cases q2 : fl 24 = 0
      · rw [if_pos ⟨q1.1, q1.2.1, q1.2.2, q2⟩, if_pos q2]
      · rw [if_neg (fun z => q2 z.2.2.2), if_neg q2]
    · rw [if_neg (fun z => q1 ⟨z.1, z.2.1, z.2.2.1⟩), if_neg (fun z => q1 ⟨by omega, (g4.mp z.2).1, (g4.mp z.2).2⟩)]
  by_cases e : (T y0.1).1 = 3
  · rw [if_pos e] at hif
    cases hr : pTests T o (adv y0) with
    | inl t => rw [hr] at hif; cases hif
    | inr z =>
      rw [hr] at hif
      cases hif
      have hlt : y0.1 < N := hTl _ (by omega)
      have hyx : okx N (adv y0) := hy.le (xle_adv hlt)
      have hg := gd_test hTl (gd_plain (o := o) hTl 8) (adv y0) hyx.1
      rw [show pTest T (pPlain T o 8) (adv y0) = .inr x' from hr] at hg
      have hz := hyx.le hg.1
      obtain ⟨f2, r, p1, p2, p3, p4, p5, p6, p7⟩ := e_test (E := E) (d := d) (al := al) (F := F) (askF := askF) (fl := upd (upd fl 24 0) 22 (nI (g0 + (y0.1 + 1)))) hA hT hTl hd hr hyx (hp.agr hz hN4) (hl.fr (e24.tr e22)) (he.f (e24.tr e22)) upd_s (by rw [upd_n (by omega)]; exact upd_s)
      obtain ⟨v9, k1⟩ := t149 (E := E) (d := d) (fl := f2) (ar := ar) (al := al) (g0 := g0) (p := x'.1) (h := h) (c5 := c5) (t := t) (v := v) (w2 := xJ) (w9 := xJ) (j6 := j6) (i8 := fl 24) (s0 := r) hA p3 p5 hh hc5 h24 p4 hj6
      have hgd : ∀ j, j < 6 → (l0 ++ [y0.2.2.1.length, x'.2.2.1.length]).getD j 0 = l0.getD j 0 := fun j hj => by
        rw [List.getD_eq_getElem?_getD, List.getElem?_append_left (by omega), List.getD_eq_getElem?_getD]
      have hcT : cT F wd nw (l0 ++ [y0.2.2.1.length, x'.2.2.1.length]) = some 1 ↔ r = 1 ∧ f2 24 = 0 := by
        unfold cT
        rw [List.getD_eq_getElem?_getD, List.getElem?_append_right (by omega), List.getD_eq_getElem?_getD, List.getElem?_append_right (by omega), hl6]
        exact p7
      rw [told _ r (f2 24) (hgd 0 (by omega)) (hgd 2 (by omega)) (hgd 3 (by omega)) hcT] at k1
      refine ⟨upd f2 22 (nI (g0 + (x'.1 + 1))), .int (nI c5), .long j6, .int (fl 24), v9, ?_, (((e24.tr e22).tr p2).tr e22), upd_s⟩
      rw [m_pass1 (c := 3) (cc := 3) hA hT (he.f e24) (by omega) f122 rfl e, xI_s, Option.bind_some]
      dsimp only
      rw [i_if, p1, xI_s, Option.bind_some]
      dsimp only
      rcases p4 with rfl | rfl
      · rw [i_if0]; exact k1
      · rw [i_if]; exact k1
  · rw [if_neg e] at hif
    cases hif
    obtain ⟨v9, k1⟩ := t149 (E := E) (d := d) (fl := upd fl 24 0) (ar := ar) (al := al) (g0 := g0) (p := y0.1) (h := h) (c5 := c5) (t := t) (v := v) (w2 := xJ) (w9 := xJ) (j6 := j6) (i8 := fl 24) (s0 := 1) hA f122 (Or.inl f124) hh hc5 h24 (Or.inr rfl) hj6
    have hgd : ∀ j, j < 6 → (l0 ++ [0, 0]).getD j 0 = l0.getD j 0 := fun j hj => by
      rw [List.getD_eq_getElem?_getD, List.getElem?_append_left (by omega), List.getD_eq_getElem?_getD]
    have hcT : cT F wd nw (l0 ++ [0, 0]) = some 1 ↔ (1 : Int32) = 1 ∧ upd fl 24 0 24 = 0 := by
      unfold cT
      rw [List.getD_eq_getElem?_getD, List.getElem?_append_right (by omega), List.getD_eq_getElem?_getD, List.getElem?_append_right (by omega), hl6, f124]
      exact ⟨fun _ => ⟨rfl, rfl⟩, fun _ => wth_same⟩
    rw [told _ 1 (upd fl 24 0 24) (hgd 0 (by omega)) (hgd 2 (by omega)) (hgd 3 (by omega)) hcT] at k1
    refine ⟨upd (upd fl 24 0) 22 (nI (g0 + (y0.1 + 1))), .int (nI c5), .long j6, .int (fl 24), v9, ?_, e24.tr e22, upd_s⟩
    rw [m_pass0 (c := 3) (cc := 3) hA hT (he.f e24) (by omega) f122 rfl (by omega) e, xI_s, Option.bind_some]
    dsimp only
    rw [i_if0]; exact k1
theorem t_step (hA : 69 ≤ A.length) (hT : evR T N g0 ar) (hTl : ∀ i, (T i).1 ≠ 0 → i < N) {x x' : PX} {l : List Nat} (hc : pClause T false x = .inr (x', l)) (hxx : xle N x x') (hx : okx N x) (hp : pfx F askF x') (hl : lvR E A ar al fl false wd nw askF LV) (he : est N g0 false fl) (h22 : fl 22 = nI (g0 + x.1)) {h t : Nat} {w2 w5 w6 w7 w8 w9 : Value} (hh : h = 1 ∨ h = 2) : ∃ fl' v5 v6 v8 v9, xD E (d + 46) 232 64 [.ref 48, .int (nI h), w2, .long (lI (t : Int)), xJ, w5, w6, w7, w8, w9] [] (mw A fl ar al) = xD E (d + 46) 232 64 [.ref 48, .int (nI h), xJ, .long (lI (upt F wd nw (h + 3) l t : Nat)), xJ, v5, v6, xJ, v8, v9] [] (mw A fl' ar al) ∧ eF fl fl' ∧ fl' 22 = nI (g0 + (x'.1 + 1)) := by
  have hN4 := hT.1
  have hg4 := hT.2.1
  have h4 := hT.2.2.2.1 x.1
  have hx1 := hx.1
  unfold pClause at hc
  simp only [Bool.false_eq_true, if_false] at hc
  have he1 : est N g0 false (upd (upd fl 24 0) 22 (nI (g0 + (x.1 + 1)))) := he.f (e24.tr e22)
  have hl1 : lvR E A ar al (upd (upd fl 24 0) 22 (nI (g0 + (x.1 + 1)))) false wd nw askF LV := hl.fr (e24.tr e22)
  have f124 : upd (upd fl 24 0) 22 (nI (g0 + (x.1 + 1))) 24 = 0 := by rw [upd_n (by omega)]; exact upd_s
  have head : x.1 < N → xD E (d + 46) 232 64 [.ref 48, .int (nI h), w2, .long (lI (t : Int)), xJ, w5, w6, w7, w8, w9] [] (mw A fl ar al) = (if nI (T x.1).1 = (2 : Int32) then xD E (d + 46) 232 115 [.ref 48, .int (nI h), xJ, .long (lI (t : Int)), xJ, .int (nI (T x.1).1), xJ, xJ, xJ, xJ] [.long (1 : Int64)] (mw A (upd (upd fl 24 0) 22 (nI (g0 + (x.1 + 1)))) ar al) else (xLo (xC E (d + 45) 223 [.ref 48, .int (1 : Int32)] (mw A (upd (upd fl 24 0) 22 (nI (g0 + (x.1 + 1)))) ar al))).bind fun q8 => xD E (d + 46) 232 115 [.ref 48, .int (nI h), xJ, .long (lI (t : Int)), xJ, .int (nI (T x.1).1), xJ, xJ, xJ, xJ] [.long q8.1] q8.2) := by
    intro hlt
    rw [e232_64, m_g48_22 hA, Option.bind_some, m_g48_23 hA, Option.bind_some, h22, he.1, if_neg (nI_ge (by omega) (by omega)), Option.bind_some, m_codeAt hA hT he (by omega), xI_s, Option.bind_some]
    dsimp only
    rw [m_p48_24 hA, Option.bind_some, m_g48_22 hA, Option.bind_some, upd_n (by omega), h22, nI_1, m_p48_22 hA, Option.bind_some, show g0 + x.1 + 1 = g0 + (x.1 + 1) by omega]
  by_cases e2 : (T x.1).1 = 2
  · have hlt : x.1 < N := hTl _ (by omega)
    have hr : pRule T false x = .inr (adv x, [5, 0, 0, 0, 0, 0]) := if_pos e2
    rw [hr] at hc
    obtain ⟨fl', v5, v6, v8, v9, k1, k2, k3⟩ := t115 (E := E) (d := d) (h := h) (c5 := 2) (t := t) (v := 1) (w2 := xJ) (w6 := xJ) (w7 := xJ) (w8 := xJ) (w9 := xJ) (j6 := 1) hA hT hTl (fun h => by cases h) rfl hc (hx.le (xle_adv hlt)) hp hl1 he1 upd_s (Or.inl f124) hh (Or.inr rfl) (fun _ => ⟨l1, by omega, by omega⟩) rfl (by rw [f124, if_pos rfl]; exact wth_same)
    refine ⟨fl', v5, v6, v8, v9, ?_, (e24.tr e22).tr k2, k3⟩
    rw [head hlt, e2, if_pos (show nI 2 = (2 : Int32) from rfl)]; exact k1
  · by_cases e1 : (T x.1).1 = 1
    · have hlt : x.1 < N := hTl _ (by omega)
      have hyx : okx N (adv x) := hx.le (xle_adv hlt)
      have hg := gd_sum hTl (gd_part (o := false) hTl 8) (adv x) hyx.1
      cases hs : pSums T false (adv x) with
      | inl t =>
        have hr : pRule T false x = .inl t := by unfold pRule; rw [if_neg e2, if_pos e1, hs]
        rw [hr] at hc; cases hc
      | inr z =>
        have hr : pRule T false x = .inr (z, [4, 0, x.2.2.1.length, z.2.2.1.length, 0, 0]) := by unfold pRule; rw [if_neg e2, if_pos e1, hs]
        rw [hr] at hc
        rw [show pSum T (pPart T false 8) (adv x) = .inr z from hs] at hg
        have hz := hyx.le hg.1
        have hpz : pfx F askF z := by
          dsimp only at hc
          split at hc
          · rename_i e3
            cases hq : pTests T false (adv z) with
            | inl t => rw [hq] at hc; cases hc
            | inr w =>
              rw [hq] at hc
              cases hc
              have hltz : z.1 < N := hTl _ (by omega)
              have hgw := gd_test hTl (gd_plain (o := false) hTl 8) (adv z) (hz.le (xle_adv hltz)).1
              rw [show pTest T (pPlain T false 8) (adv z) = .inr x' from hq] at hgw
              exact hp.le ((xle_adv hltz).tr hgw.1)
          · cases hc; exact hp
        obtain ⟨f2, r, p1, p2, p3, p4, p5⟩ := e_sum (E := E) (d := d + 12) (al := al) (F := F) (askF := askF) (fl := upd (upd fl 24 0) 22 (nI (g0 + (x.1 + 1)))) hA hT hTl (fun h => by cases h) hs hyx (hpz.agr hz hN4) hl1 he1 upd_s f124
        have fin : ∀ v : Int, (f2 24 = 0 ∨ f2 24 = 1) → (f2 24 = 0 → r = lI v ∧ -1000000000 ≤ v ∧ v ≤ 1000000000) → wth F wd nw x.2.2.1.length z.2.2.1.length = (if f2 24 = 0 then some v else none) → ∃ fl' v5 v6 v8 v9, xD E (d + 46) 232 64 [.ref 48, .int (nI h), w2, .long (lI (t : Int)), xJ, w5, w6, w7, w8, w9] [] (mw A fl ar al) = xD E (d + 46) 232 64 [.ref 48, .int (nI h), xJ, .long (lI (upt F wd nw (h + 3) l t : Nat)), xJ, v5, v6, xJ, v8, v9] [] (mw A fl' ar al) ∧ eF fl fl' ∧ fl' 22 = nI (g0 + (x'.1 + 1)) := by
          intro v g1 g2 g3
          obtain ⟨fl', v5, v6, v8, v9, k1, k2, k3⟩ := t115 (E := E) (d := d) (h := h) (c5 := 1) (t := t) (v := v) (w2 := xJ) (w6 := xJ) (w7 := xJ) (w8 := xJ) (w9 := xJ) (j6 := r) hA hT hTl (fun h => by cases h) rfl hc hz hp (hl1.fr p2) (he1.f p2) p3 g1 hh (Or.inl rfl) g2 rfl g3
          refine ⟨fl', v5, v6, v8, v9, ?_, ((e24.tr e22).tr p2).tr k2, k3⟩
          rw [head hlt, e1, if_neg (show ¬ nI 1 = (2 : Int32) by decide), p1, xL_s, Option.bind_some]; exact k1
        rcases p5 with ⟨a1, a2, a3⟩ | ⟨v, a1, a2, a3, a4, a5⟩
        · exact fin 0 (Or.inr a1) (fun q => by rw [a1] at q; exact absurd q (by decide)) (Eq.trans (show wth F wd nw x.2.2.1.length z.2.2.1.length = none from a3) (by rw [a1, if_neg (by decide)]))
        · exact fin v (Or.inl a1) (fun _ => ⟨a2, a3, a4⟩) (Eq.trans (show wth F wd nw x.2.2.1.length z.2.2.1.length = some v from a5) (by rw [if_pos a1]))
    · have hr : pRule T false x = .inl x.1 := by unfold pRule; rw [if_neg e2, if_neg e1]
      rw [hr] at hc; cases hc
end TELLS
section TELLS2
variable {E : Nat × (Nat → Int32)} {d : Nat} {A : xH} {fl : Nat → Int32} {ar : Nat → Nat → Int32} {al : Nat → Nat → Int64} {bs : Nat → Nat} {n g0 : Nat} {o : Bool} {F : List (Nat × Nat)} {wd : Nat → Int} {nw : Nat} {askF : List Nat} {LV : Nat → Nat → Int}
theorem more_le : ∀ (c : Nat) (x y : PX) (cs cs' : List (List Nat)), pMore (tok bs n) o c x cs = .inr (y, cs') → x.1 ≤ tkN bs n → xle (tkN bs n) x y
  | 0, x, y, cs, cs', h, hx => by
    unfold pMore at h
    split at h
    · cases h
    · cases h; exact xle.rf
  | c + 1, x, y, cs, cs', h, hx => by
    unfold pMore at h
    split at h
    · rename_i q
      have hlt := tok_lt (bs := bs) (n := n) (i := x.1) (by omega)
      have hg := gc_clause (bs := bs) (n := n) (o := o) (x := adv x) hlt
      cases hr : pClause (tok bs n) o (adv x) with
      | inl t => rw [hr] at h; cases h
      | inr w =>
        obtain ⟨z, l⟩ := w
        rw [hr] at h hg
        exact ((xle_adv hlt).tr hg.1).tr (more_le c z y _ _ h (hg.1.2.1 hlt))
    · cases h; exact xle.rf
theorem t_loop (hA : 69 ≤ A.length) (hT : evR (tok bs n) (tkN bs n) g0 ar) {h : Nat} (hh : h = 1 ∨ h = 2) : ∀ (c : Nat) (x y : PX) (cs cs' : List (List Nat)) (fl : Nat → Int32) (t : Nat) (w2 w5 w6 w7 w8 w9 : Value), pMore (tok bs n) false c x cs = .inr (y, cs') → okx (tkN bs n) x → tkN bs n ≤ y.1 → pfx F askF y → lvR E A ar al fl false wd nw askF LV → est (tkN bs n) g0 false fl → fl 22 = nI (g0 + (x.1 + 1)) → t ≤ 99 → ∃ rest fl', cs' = cs ++ rest ∧ xD E (d + 46) 232 64 [.ref 48, .int (nI h), w2, .long (lI (t : Int)), xJ, w5, w6, w7, w8, w9] [] (mw A fl ar al) = some (some (.int (nI (tfold F wd nw (h + 3) rest t))), mw A fl' ar al) ∧ eF fl fl'
  | c, x, y, cs, cs', fl, t, w2, w5, w6, w7, w8, w9, hm, hx, hy, hp, hl, he, h22, ht => by
    have hN4 := hT.1
    have hg4 := hT.2.1
    have hx1 := hx.1
    have fin : x = y ∧ cs = cs' → ∃ rest fl', cs' = cs ++ rest ∧ xD E (d + 46) 232 64 [.ref 48, .int (nI h), w2, .long (lI (t : Int)), xJ, w5, w6, w7, w8, w9] [] (mw A fl ar al) = some (some (.int (nI (tfold F wd nw (h + 3) rest t))), mw A fl' ar al) ∧ eF fl fl' := by
      rintro ⟨rfl, rfl⟩
      refine ⟨[], fl, (List.append_nil _).symm, ?_, eF.rf⟩
      rw [e232_64, m_g48_22 hA, Option.bind_some, m_g48_23 hA, Option.bind_some, h22, he.1, if_pos (nI_le (by omega) (by omega)), l_toInt32 (by omega) (by omega), tI_nat]; rfl
    by_cases e : (tok bs n x.1).1 = 159
    · cases c with
      | zero => rw [show pMore (tok bs n) false 0 x cs = _ from if_pos e] at hm; cases hm
      | succ c =>
        have hlt := tok_lt (bs := bs) (n := n) (i := x.1) (by omega)
        have hxx : okx (tkN bs n) (adv x) := hx.adv (by omega)
        have hg := gc_clause (bs := bs) (n := n) (o := false) (x := adv x) hlt
        rw [show pMore (tok bs n) false (c + 1) x cs = _ from if_pos e] at hm
        cases hr : pClause (tok bs n) false (adv x) with
        | inl t => rw [hr] at hm; cases hm
        | inr w =>
          obtain ⟨z, l⟩ := w
          rw [hr] at hm hg
          dsimp only at hm
          have hz := hxx.le hg.1
          have hzy := more_le c z y _ _ hm hz.1
          obtain ⟨f1, v5, v6, v8, v9, k1, k2, k3⟩ := t_step (E := E) (d := d) (al := al) (F := F) (askF := askF) (wd := wd) (nw := nw) (LV := LV) (t := t) (w2 := w2) (w5 := w5) (w6 := w6) (w7 := w7) (w8 := w8) (w9 := w9) hA hT hTk hr hg.1 hxx (hp.le hzy) hl he h22 hh
          obtain ⟨rest, f2, r1, r2, r3⟩ := t_loop hA hT hh c z y (cs ++ [l]) cs' f1 (upt F wd nw (h + 3) l t) xJ v5 v6 xJ v8 v9 hm hz hy hp (hl.fr k2) (he.f k2) k3 (upt_le ht)
          refine ⟨l :: rest, f2, by rw [r1, List.append_assoc]; rfl, ?_, k2.tr r3⟩
          rw [k1, r2]; rfl
    · refine fin ?_
      cases c with
      | zero => rw [show pMore (tok bs n) false 0 x cs = _ from if_neg e] at hm; cases hm; exact ⟨rfl, rfl⟩
      | succ c => rw [show pMore (tok bs n) false (c + 1) x cs = _ from if_neg e] at hm; cases hm; exact ⟨rfl, rfl⟩
/-- frames of the reference's questions -/
def eG (fl fl' : Nat → Int32) : Prop := ∀ j, j ≠ 22 → j ≠ 23 → j ≠ 24 → j ≠ 25 → fl' j = fl j
theorem eG.rf : eG fl fl := fun _ _ _ _ _ => rfl
theorem eG.tr {f1 f2 : Nat → Int32} (h : eG fl f1) (g : eG f1 f2) : eG fl f2 := fun j a b c e => (g j a b c e).trans (h j a b c e)
/-- what a law tells -/
theorem m_tells (hA : 69 ≤ A.length) {q : Nat} (hq : q < 6) (hf : ar 2 980 = nI q) (hs : ar 2 (981 + q) = nI (tkN bs n)) (hT : evR (tok bs n) (tkN bs n) (400 * q) ar) {y : PX} {cs : List (List Nat)} (hpt : pText (tok bs n) false (tkN bs n) = .inr (y, cs)) (hlv : ∀ f1 : Nat → Int32, lvR E A ar al f1 false wd nw y.2.2.2 LV) {h t : Nat} (hh : h = 1 ∨ h = 2) (ht : t ≤ 99) : ∃ fl', xC E (d + 46) 232 [.ref 48, .int (nI h), .int (nI t)] (mw A fl ar al) = some (some (.int (nI (tfold y.2.2.1 wd nw (h + 3) cs t))), mw A fl' ar al) ∧ eG fl fl' := by
  have hN4 := hT.1
  generalize hf0 : upd (upd (upd fl 25 0) 22 (nI (400 * q))) 23 (nI (400 * q + tkN bs n)) = f0
  have f022 : f0 22 = nI (400 * q + 0) := by rw [← hf0, upd_n (by omega)]; exact upd_s
  have f0e : est (tkN bs n) (400 * q) false f0 := ⟨by rw [← hf0]; exact upd_s, by rw [← hf0, upd_n (by omega), upd_n (by omega)]; exact upd_s⟩
  have f0g : eG fl f0 := fun j a b c e => by rw [← hf0, upd_n b, upd_n a, upd_n e]
  have hx : okx (tkN bs n) (0, 0, [], []) := ⟨Nat.zero_le _, Nat.zero_le _, Nat.zero_le _, Nat.zero_le _⟩
  have hg := gc_clause (bs := bs) (n := n) (o := false) (x := (0, 0, [], [])) (Nat.zero_le _)
  unfold pText at hpt
  cases hr : pClause (tok bs n) false (0, 0, [], []) with
  | inl t => rw [hr] at hpt; cases hpt
  | inr w =>
    obtain ⟨z, l⟩ := w
    rw [hr] at hpt hg
    dsimp only at hpt
    cases hm : pMore (tok bs n) false 11 z [l] with
    | inl t => rw [hm] at hpt; cases hpt
    | inr w2 =>
      obtain ⟨y2, cs2⟩ := w2
      rw [hm] at hpt
      dsimp only at hpt
      split at hpt
      · cases hpt
      · rename_i hyN
        cases hpt
        have hz := hx.le hg.1
        have hzy := more_le 11 z y _ _ hm hz.1
        have hp : pfx y.2.2.1 y.2.2.2 y := ⟨fun _ _ => rfl, fun _ _ h => h⟩
        obtain ⟨f1, v5, v6, v8, v9, k1, k2, k3⟩ := t_step (E := E) (d := d) (al := al) (F := y.2.2.1) (askF := y.2.2.2) (wd := wd) (nw := nw) (LV := LV) (fl := f0) (t := t) (w2 := .int (nI t)) (w5 := xJ) (w6 := xJ) (w7 := xJ) (w8 := xJ) (w9 := xJ) hA hT hTk hr hg.1 hx (hp.le hzy) (hlv f0) f0e f022 hh
        obtain ⟨rest, f2, r1, r2, r3⟩ := t_loop (E := E) (d := d) (al := al) (F := y.2.2.1) (askF := y.2.2.2) (wd := wd) (nw := nw) (LV := LV) hA hT hh 11 z y [l] cs f1 (upt y.2.2.1 wd nw (h + 3) l t) xJ v5 v6 xJ v8 v9 hm hz (by omega) hp (hlv f1) (f0e.f k2) k3 (upt_le ht)
        refine ⟨f2, ?_, f0g.tr (fun j a b c e => (r3 j a c).trans (k2 j a c))⟩
        rw [k232 _ _ _ _ _ _ (m_k48 hA), m_r48_2 hA, Option.bind_some, show (980 : Int32) = nI 980 from rfl, m_a50 hA (by omega), Option.bind_some, hf, if_neg (n_m1ne (by omega)), m_p48_25 hA, Option.bind_some, m_r48_2 hA, Option.bind_some, m_a50 hA (by omega), Option.bind_some, hf, show (400 : Int32) = nI 400 from rfl, pk_mul, m_p48_22 hA, Option.bind_some, m_g48_22 hA, Option.bind_some, upd_s, m_r48_2 hA, Option.bind_some, Option.bind_some, m_a50 hA (by omega), Option.bind_some, hf, show (981 : Int32) = nI 981 from rfl, nI_add, m_a50 hA (by omega), Option.bind_some, hs, nI_add, m_p48_23 hA, Option.bind_some, show (0 : Int32) = (0 : Int32) from rfl, hf0, lI_nat (by omega), k1, r2, r1]
        rfl
end TELLS2
