/-! ===== the class: years, counts ===== -/
section CYEARS
variable {E : Nat × (Nat → Int32)} {d : Nat} {A A' : xH} {X : Xs} {Lo : List (St × Nat)} {n : NM}
/-- paper and the rules' scratch have changed -/
theorem CIo.pap2 (h : CIo A X Lo n) (hs : sm (inSR 8 22) A A') (h8 : SX A' 8) (h2 : RC A' 22 X.1.2.1 X.1.2.2.1) : CIo A' X Lo n := by
  have kp : ∀ q, (q < 8 ∨ 15 ≤ q) → q ≠ 24 → q ≠ 25 → A'[q]? = A[q]? := fun q q1 q2 q3 => hs.2 q (fun z => by unfold inSR inS inR at z; omega)
  obtain ⟨-, w2, ⟨w, w3⟩, ⟨g, w4⟩, ⟨z, w5⟩⟩ := h.2.2.2.2.2.2
  exact h.wk1 hs (fun q z => by unfold wkc; unfold inSR inS inR at z; omega) (S := X.1.1) (h.2.2.1.1.eq (fun q q1 q2 => kp q (by omega) (by omega) (by omega))) h2 ⟨h8, w2.eq (fun q q1 q2 => kp q (by omega) (by omega) (by omega)), ⟨w, (kp 43 (by omega) (by omega) (by omega)).trans w3⟩, ⟨g, (kp 46 (by omega) (by omega) (by omega)).trans w4⟩, ⟨z, (kp 47 (by omega) (by omega) (by omega)).trans w5⟩⟩
theorem c_nextDraw {s : Nat} (hs : s ≤ 1000002) : xC E (d + 1) 152 [.int (nI s)] A = some (some (.int (nI (drN s))), A) := by
  rw [k152, (n_draw hs).2]
theorem c_onPaper (h : CIo A X Lo n) {S : St} (h8 : SC A 8 S) (hI : SI X.1.2.1.2.2.2 S) {k v a : Nat} (hk : k < 40) (hv : v < 8) (ha : a < 8) : ∃ A', xC E (d + 7) 153 [.ref 0, .int (nI k), .int (nI v), .int (nI a)] A = some (none, A') ∧ CIo A' X Lo n ∧ SC A' 8 (yr1 X.1.2.1 k v a S) := by
  obtain ⟨s, hS, hRS⟩ := h8
  obtain ⟨u, hu, hu5, hut, htx⟩ := h.2.2.1.2.1
  have hsep : sepL u X.1.2.1.1 8 7 := fun i t hi ht => by have := hut i t hi ht; omega
  have hwl := hI.1.2.2.2.2.2.1
  have hdp : S.2.2.2.1 ≤ 6 := by rw [hI.2]; exact deepN_6 hI.1.1
  rw [k153 _ _ _ _ _ _ _ h.cls]
  unfold yr1
  by_cases e5 : a < 5
  · obtain ⟨A', s', c1, c2, c3, c4, c5⟩ := c_placeKey (E := E) (d := d) (k := k) (v := v) (by omega) (by omega) (by omega) hsep hS hu hRS hI.1.1 hI.1.2.2.2.2.1 hdp
    rw [if_neg (show ¬ (4 : Int32) < nI a from nI_nlt (a := 4) (by omega) (by omega)), if_pos e5, h.g1, Option.bind_some, h.g3, Option.bind_some, c1, xI_s, Option.bind_some]
    exact ⟨A', rfl, h.pap2 c5 ⟨s', c2⟩ ⟨u, c4, hu5, hut, htx.sr c5 (by omega) (by omega)⟩, ⟨s', c2, c3⟩⟩
  · rw [if_pos (show (4 : Int32) < nI a from nI_lt (a := 4) (by omega) (by omega)), if_neg e5]
    by_cases e7 : a < 7
    · obtain ⟨A', s', c1, c2, c3, c4, c5⟩ := c_removeKey (E := E) (d := d) (k := k) (by omega) (by omega) hsep hS hu hRS hI.1.1 hI.1.2.2.2.2.1
      rw [if_neg (show ¬ (6 : Int32) < nI a from nI_nlt (a := 6) (by omega) (by omega)), if_pos e7, h.g1, Option.bind_some, h.g3, Option.bind_some, c1, xI_s, Option.bind_some]
      exact ⟨A', rfl, h.pap2 c5 ⟨s', c2⟩ ⟨u, c4, hu5, hut, htx.sr c5 (by omega) (by omega)⟩, ⟨s', c2, c3⟩⟩
    · obtain ⟨A', s', c1, c2, c3, c4, c5⟩ := c_lose (E := E) (d := d + 1) (m := min v S.2.2.1.length) (by omega) hsep hS hu hRS hI (by omega)
      rw [if_pos (show (6 : Int32) < nI a from nI_lt (a := 6) (by omega) (by omega)), if_neg e7, h.g1, Option.bind_some, Option.bind_some, hS.g5, Option.bind_some, hRS.2.2.2.2.1, h.g3, Option.bind_some, n_min (by omega) (by omega), c1, xI_s, Option.bind_some]
      exact ⟨A', rfl, h.pap2 c5.toSR1 ⟨s', c2⟩ ⟨u, c4, hu5, hut, htx.sr (r := 22) c5.toSR1 (by omega) (by omega)⟩, ⟨s', c2, c3⟩⟩
theorem c_yr44 {y : Nat} (hy : y < 100) : ∀ (c i s : Nat) (S : St) (A : xH) (w1 w5 w6 w7 : Value), i + c = y → s ≤ 1000002 → CIo A X Lo n → SC A 8 S → SI X.1.2.1.2.2.2 S → ∃ A' w1' w3' w5' w6' w7', xD E (d + 8) 133 44 [.ref 0, w1, .int (nI y), .int (nI s), .int (nI i), w5, w6, w7] [] A = xD E (d + 8) 133 44 [.ref 0, w1', .int (nI y), .int w3', .int (nI y), w5', w6', w7'] [] A' ∧ CIo A' X Lo n ∧ SC A' 8 (yrN X.1.2.1 c s S)
  | 0, i, s, S, A, w1, w5, w6, w7, hi, hs, h, h8, hI => by
    have : i = y := by omega
    subst this
    exact ⟨A, w1, nI s, w5, w6, w7, rfl, h, h8⟩
  | c + 1, i, s, S, A, w1, w5, w6, w7, hi, hs, h, h8, hI => by
    have l1 : drN s % 40 < 40 := Nat.mod_lt _ (by omega)
    have l2 : drN (drN s) % 8 < 8 := Nat.mod_lt _ (by omega)
    have l3 : drN (drN (drN s)) % 8 < 8 := Nat.mod_lt _ (by omega)
    have d1 := drN_le s
    have d2 := drN_le (drN s)
    have d3 := drN_le (drN (drN s))
    obtain ⟨A1, a1, a2, a3⟩ := c_onPaper (E := E) (d := d) h h8 hI l1 l2 l3
    obtain ⟨A2, v1, v3, v5, v6, v7, b1, b2, b3⟩ := c_yr44 hy c (i + 1) _ _ A1 xJ (.int (nI (drN s))) (.int (nI (drN (drN s)))) (.int (nI (drN (drN (drN s))))) (by omega) d3 a2 a3 (yr1_SI (by omega) (by omega) hI)
    refine ⟨A2, v1, v3, v5, v6, v7, ?_, b2, b3⟩
    rw [e133_44, if_neg (nI_ge (by omega) (by omega)), c_nextDraw hs, xI_s, Option.bind_some]
    dsimp only
    rw [c_nextDraw d1, xI_s, Option.bind_some]
    dsimp only
    rw [c_nextDraw d2, xI_s, Option.bind_some]
    dsimp only
    rw [show (40 : Int32) = nI 40 from rfl, show (8 : Int32) = nI 8 from rfl, n_rem (by omega) (by omega) (by omega), n_rem (by omega) (by omega) (by omega), n_rem (by omega) (by omega) (by omega), a1, xV_s, Option.bind_some, nI_1]
    exact b1
/-- what was drawn has changed -/
theorem CIo.dr (h : CIo A X Lo n) {f : Nat → Int32} {g : Nat → Int32} (hg : ∀ i, i < 40 → f i = g i) : CIo (A.set 45 (ia 40 f)) (Xdr X g) Lo n := by
  obtain ⟨a, b, c, e, f', ⟨⟨g1, g2, g3⟩, -⟩, j⟩ := h
  have kp : ∀ q, q ≠ 45 → (A.set 45 (ia 40 f))[q]? = A[q]? := fun q hq => List.getElem?_set_ne (fun z => hq z.symm)
  exact ⟨by rw [List.length_set]; exact a, (kp 0 (by omega)).trans b, c.eq (fun q q1 q2 => kp q (by omega)) (fun q q1 q2 => kp q (by omega)) (fun q q1 q2 => kp q (by omega)) (fun q q1 q2 => kp q (by omega)), e.eq (List.length_set ..) (fun q q1 q2 => kp q (by omega)) (fun q q1 => kp q (by omega)), f'.eq (fun q q1 q2 => kp q (by omega)), ⟨⟨g1, (kp 44 (by omega)).trans g2, g3⟩, f, List.getElem?_set_self (by omega), hg⟩, j.eq (fun q q1 q2 => kp q (by omega)) (fun q q1 => kp q (by omega))⟩
def yrV (t : Nat) (S : St) (k : Nat) : Int32 := oI (valO (ents (S.1 (own S.1 (hsh t k % 64)))) k)
theorem c_yr101 {S : St} (hI : SI X.1.2.1.2.2.2 S) : ∀ (c i : Nat) (A : xH) (g : Nat → Int32) (w1 w2 w3 w5 w6 w7 : Value), i + c = 40 → CIo A (Xdr X g) Lo n → SC A 8 S → (∀ j, j < i → g j = yrV X.1.2.1.2.2.2 S j) → ∃ A' g' w1' w2' w3' w5' w6' w7', xD E (d + 8) 133 101 [.ref 0, w1, w2, w3, .int (nI i), w5, w6, w7] [] A = xD E (d + 8) 133 101 [.ref 0, w1', w2', w3', .int (nI 40), w5', w6', w7'] [] A' ∧ CIo A' (Xdr X g') Lo n ∧ SC A' 8 S ∧ ∀ j, j < 40 → g' j = yrV X.1.2.1.2.2.2 S j
  | 0, i, A, g, w1, w2, w3, w5, w6, w7, hi, h, h8, hg => by
    have : i = 40 := by omega
    subst this
    exact ⟨A, g, w1, w2, w3, w5, w6, w7, rfl, h, h8, hg⟩
  | c + 1, i, A, g, w1, w2, w3, w5, w6, w7, hi, h, h8, hg => by
    obtain ⟨s, hS, hRS⟩ := id h8
    obtain ⟨u, hu, hu5, hut, htx⟩ := h.2.2.1.2.1
    obtain ⟨f, f1, f2⟩ := h.2.2.2.2.2.1.2
    have hks : ∀ b e, e ∈ ents (S.1 b) → e.1 < 2 ^ 31 := fun b e he => by have := ((hI.1.1.2 b).2.1 e he).1; omega
    have hv := c_valueOf (E := E) (d := d + 3) hS hu.1 hRS.1 hRS.2.2.1 hks (show i < 1000 by omega) hu.2.2.2.2.2.2.2.2 hu.2.2.2.2.2.2.2.1
    have hd := h.dr (f := upd f i (yrV X.1.2.1.2.2.2 S i)) (g := upd g i (yrV X.1.2.1.2.2.2 S i)) (fun j hj => by
      by_cases e : j = i
      · rw [e, upd_s, upd_s]
      · rw [upd_n e, upd_n e]; exact f2 j hj)
    obtain ⟨A2, g', v1, v2, v3, v5, v6, v7, b1, b2, b3, b4⟩ := c_yr101 hI c (i + 1) _ _ xJ xJ xJ xJ xJ xJ (by omega) hd (h8.eq (fun q q1 q2 => List.getElem?_set_ne (by omega))) (fun j hj => by
      by_cases e : j = i
      · rw [e, upd_s]
      · rw [upd_n e]; exact hg j (by omega))
    refine ⟨A2, g', v1, v2, v3, v5, v6, v7, ?_, b2, b3, b4⟩
    rw [e133_101, if_neg (show ¬ (40 : Int32) ≤ nI i from nI_ge (b := 40) (by omega) (by omega)), h.g11, Option.bind_some, h.g1, Option.bind_some, h.g3, Option.bind_some, hv, xI_s, Option.bind_some]
    dsimp only
    rw [h_sI0 f1 (by omega) (by omega), Option.bind_some, nI_1]
    exact b1
theorem c_years (h : CIo A X Lo n) (hX : XI X) (x y : Int32) : ∃ A', xC E (d + 8) 133 [.ref 0, .int x, .int y] A = some (some (.int (aYears X x y).1), A') ∧ CIo A' (aYears X x y).2 Lo n := by
  obtain ⟨B1, r1, r2, -⟩ := c_refuse (E := E) (d := d + 6) (c := 1) (x := -1) h (by omega) (by decide) (by decide)
  rw [k133 _ _ _ _ _ _ h.cls]
  unfold aYears
  rcases pk_ix x (show 1000001 < 2 ^ 31 by omega) with hx | hx | ⟨s, hs, rfl⟩
  · rw [if_pos hx, if_pos (Or.inl (Or.inl hx)), r1, xI_s, Option.bind_some]; exact ⟨B1, rfl, r2⟩
  · rw [if_neg (n_nn (by omega) hx), if_pos (show (1000000 : Int32) < x from Int32.lt_of_lt_of_le (by decide) hx), if_pos (Or.inl (Or.inr hx)), r1, xI_s, Option.bind_some]; exact ⟨B1, rfl, r2⟩
  · rw [if_neg (show ¬ nI s < 0 from nI_pos (by omega)), if_neg (show ¬ (1000000 : Int32) < nI s from nI_nlt (a := 1000000) (by omega) (by omega))]
    rcases pk_ix y (show 61 < 2 ^ 31 by omega) with hy | hy | ⟨m, hm, rfl⟩
    · have hz : y < 1 := Int32.lt_trans hy (by decide)
      rw [if_pos hz, if_pos (Or.inr (Or.inl hz)), r1, xI_s, Option.bind_some]; exact ⟨B1, rfl, r2⟩
    · rw [if_neg (show ¬ y < (1 : Int32) from fun z => Int32.lt_irrefl (Int32.lt_of_lt_of_le z (Int32.le_trans (by decide) hy))), if_neg (show ¬ y ≤ (60 : Int32) from Int32.not_le.mpr (Int32.lt_of_lt_of_le (by decide) hy)), if_pos (Or.inr (Or.inr hy)), r1, xI_s, Option.bind_some]; exact ⟨B1, rfl, r2⟩
    · by_cases e0 : m = 0
      · subst e0
        rw [if_pos (show nI 0 < (1 : Int32) by decide), if_pos (Or.inr (Or.inl (by decide))), r1, xI_s, Option.bind_some]; exact ⟨B1, rfl, r2⟩
      · rw [if_neg (show ¬ nI m < (1 : Int32) from nI_nlt (b := 1) (by omega) (by omega)), if_pos (show nI m ≤ (60 : Int32) from nI_le (b := 60) (by omega) (by omega)), if_neg (show ¬ ((nI s < 0 ∨ nI 1000001 ≤ nI s) ∨ nI m < 1 ∨ nI 61 ≤ nI m) from fun z => z.elim (fun z => n_out (by omega) hs z) (fun z => z.elim (nI_nlt (a := m) (b := 1) (by omega) (by omega)) (nI_ge (by omega) (by omega)))), nI_clamp (by omega), nI_clamp (by omega)]
        obtain ⟨s1, hS, hRS⟩ := h.2.2.1.1
        obtain ⟨s8, h8⟩ := h.2.2.2.2.2.2.1
        obtain ⟨A1, s2, c1, c2, c3, c4⟩ := c_copyFrom (E := E) (d := d + 5) h8 hS (by omega) hRS
        have hc1 := h.pap c4 ⟨s2, c2⟩
        obtain ⟨A2, w1', w3', w5', w6', w7', b1, b2, b3⟩ := c_yr44 (E := E) (d := d) (y := m) (by omega) m 0 s X.1.1 A1 (.int (nI s)) xJ xJ xJ (by omega) (by omega) hc1 ⟨s2, c2, c3⟩ hX.1.1
        have hSI := yrN_SI (R := X.1.2.1) m s X.1.1 hX.1.1
        generalize yrN X.1.2.1 m s X.1.1 = S2 at *
        obtain ⟨A3, g', v1, v2, v3, v5, v6, v7, e1, e2, ⟨s3, e3, e4⟩, e5⟩ := c_yr101 (E := E) (d := d) (X := X) hSI 40 0 A2 X.2.2.2.2.2.2 xJ (.int (nI m)) (.int w3') xJ xJ xJ rfl b2 b3 (fun j hj => by omega)
        have e2' : CIo A3 (Xdr X fun k => yrV X.1.2.1.2.2.2 S2 k) Lo n := by
          obtain ⟨q1, q2, q3, q4, q5, ⟨q6, f, q7, q8⟩, q9⟩ := e2
          exact ⟨q1, q2, q3, q4, q5, ⟨q6, f, q7, fun i hi => (q8 i hi).trans (e5 i hi)⟩, q9⟩
        obtain ⟨A4, g1, g2, -⟩ := c_grant (E := E) (d := d + 6) (x := nI (keysN S2.1)) e2'
        refine ⟨A4, ?_, g2⟩
        rw [h.g1, Option.bind_some, h.g0, Option.bind_some, c1, xV_s, Option.bind_some]
        refine Eq.trans b1 ?_
        rw [e133_44, if_pos (nI_le (by omega) (by omega))]
        refine Eq.trans e1 ?_
        rw [e133_101, if_pos (show (40 : Int32) ≤ nI 40 by decide), e2'.g1, Option.bind_some, c_keysThere e3 e4.1, xI_s, Option.bind_some]
        dsimp only
        rw [g1, xI_s, Option.bind_some]
end CYEARS
