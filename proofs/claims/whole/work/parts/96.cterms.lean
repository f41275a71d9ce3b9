/-! ===== the class: terms, force, what was seen ===== -/
section CTERMS
variable {E : Nat × (Nat → Int32)} {d : Nat} {A A' : xH} {X : Xs} {Lo : List (St × Nat)} {n : NM}
/-- store, rules, sightings have changed -/
theorem CIo.kc (h : CIo A X Lo n) {P : Nat → Prop} (hs : sm P A A') (hP : ∀ q, P q → (1 ≤ q ∧ q ≤ 7) ∨ (22 ≤ q ∧ q ≤ 28)) {K : Kp} (hk : KC A' 1 22 26 K) : CIo A' (Xk X K) Lo n := by
  obtain ⟨a, b, c, e, f, ⟨⟨g1, g2, g3⟩, i1, i2, i3⟩, j⟩ := h
  have kp : ∀ q, ¬ ((1 ≤ q ∧ q ≤ 7) ∨ (22 ≤ q ∧ q ≤ 28)) → A'[q]? = A[q]? := fun q hq => hs.2 q (fun z => hq (hP q z))
  exact ⟨by rw [hs.1]; exact a, (kp 0 (by omega)).trans b, hk, e.eq hs.1 (fun q q1 q2 => kp q (by omega)) (fun q q1 => kp q (by omega)), f.eq (fun q q1 q2 => kp q (by omega)), ⟨⟨g1, (kp 44 (by omega)).trans g2, g3⟩, i1, (kp 45 (by omega)).trans i2, i3⟩, j.eq (fun q q1 q2 => kp q (by omega)) (fun q q1 => kp q (by omega))⟩
theorem RUR.fld {r : Nat} {u : xU} {R R' : Ru} (h : RUR A r u R) {f a m s : Int32} (h1 : R'.1 = R.1) (hf : f = oI R'.2.1) (hq : ∀ q, R'.2.1 = some q → q < R.1.length) (hm : m = nI R'.2.2.1) (hm9 : R'.2.2.1 ≤ 9) (hs : s = nI R'.2.2.2) (hs9 : R'.2.2.2 < 1000) : RUR (A.set r (.inr (3, [.ref (r + 1), .ref (r + 2), .ref (r + 3), .int u.2.1, .int f, .int a, .int m, .int s]))) r (u.1, u.2.1, f, a, m, s) R' := by
  have hlen : r < A.length := (List.getElem?_eq_some_iff.mp h.1.1).1
  have kp : ∀ k, k ≠ r → (A.set r (.inr (3, [Value.ref (r + 1), .ref (r + 2), .ref (r + 3), .int u.2.1, .int f, .int a, .int m, .int s])))[k]? = A[k]? := fun k hk => List.getElem?_set_ne (fun z => hk z.symm)
  have hRU : RU (A.set r (.inr (3, [.ref (r + 1), .ref (r + 2), .ref (r + 3), .int u.2.1, .int f, .int a, .int m, .int s]))) r (u.1, u.2.1, f, a, m, s) := ⟨List.getElem?_set_self hlen, (kp _ (by omega)).trans h.1.2.1, by rw [kp _ (by omega)]; exact h.1.2.2.1, by rw [kp _ (by omega)]; exact h.1.2.2.2⟩
  refine ⟨hRU, ⟨by rw [h1]; exact h.2.1.1, by rw [h1]; exact h.2.1.2.1, fun i L hi => ?_⟩, by rw [h1]; exact h.2.2.1, hf, by rw [h1]; exact hq, hm, hm9, hs, hs9⟩
  rw [h1] at hi
  obtain ⟨z1, t, z2, z3⟩ := h.2.1.2.2 i L hi
  have := h.2.2.1 i t (List.getElem?_eq_some_iff.mp hi).1 z2
  exact ⟨z1, t, z2, z3.eq (fun q q1 q2 => kp q (by omega))⟩
/-- rules' own ints change -/
theorem CIo.rul (h : CIo A X Lo n) {u : xU} (hu : RUR A 22 u X.1.2.1) (hut : ∀ i t, i < X.1.2.1.1.length → u.1 i = some t → 69 ≤ t) (htx : TX A u.1) {R' : Ru} {k : Nat} {f m s : Int32} (h1 : R'.1 = X.1.2.1.1) (hf : f = oI R'.2.1) (hq : ∀ q, R'.2.1 = some q → q < X.1.2.1.1.length) (hm : m = nI R'.2.2.1) (hm9 : R'.2.2.1 ≤ 9) (hs : s = nI R'.2.2.2) (hs9 : R'.2.2.2 < 1000) : CIo (A.set 22 (.inr (3, [.ref 23, .ref 24, .ref 25, .int u.2.1, .int f, .int (nI k), .int m, .int s]))) (Xk X (X.1.1, R', k, X.1.2.2.2)) Lo n := by
  have hR := hu.fld (a := nI k) h1 hf hq hm hm9 hs hs9
  have kp : ∀ q, q ≠ 22 → (A.set 22 (.inr (3, [Value.ref 23, .ref 24, .ref 25, .int u.2.1, .int f, .int (nI k), .int m, .int s])))[q]? = A[q]? := fun q hq => List.getElem?_set_ne (fun z => hq z.symm)
  exact h.kc (P := fun q => q = 22) (sm.set _ rfl) (fun q z => by omega) ⟨h.2.2.1.1.eq (fun q q1 q2 => kp q (by omega)), ⟨_, hR, rfl, by rw [h1]; exact hut, htx.eq (fun q q1 _ => kp q (by omega))⟩, h.2.2.1.2.2.eq (fun q q1 q2 => kp q (by omega))⟩
theorem c_hclear (h : CIo A X Lo n) : ∃ A', xC E (d + 1) 1 [.ref 29] A = some (none, A') ∧ CIo A' (Xcl X) Lo n ∧ sm (fun q => q = 29) A A' := by
  obtain ⟨a, b, c, ⟨pl, hD, ⟨s1, s2, ⟨sf, s3, -⟩, s4, s5⟩, t, im, rm1, rm2, rm3⟩, f, ⟨⟨g1, g2, g3⟩, i1, i2, i3⟩, j⟩ := h
  have kp : ∀ q, q ≠ 29 → (A.set 29 (.inr (0, [Value.ref 30, .ref 31, oV (pl 16), .int 0])))[q]? = A[q]? := fun q hq => List.getElem?_set_ne (fun z => hq z.symm)
  have hsm : sm (fun q => q = 29) A (A.set 29 (.inr (0, [Value.ref 30, .ref 31, oV (pl 16), .int 0]))) := sm.set _ rfl
  refine ⟨A.set 29 (.inr (0, [.ref 30, .ref 31, oV (pl 16), .int 0])), ?_, ⟨by rw [List.length_set]; exact a, (kp 0 (by omega)).trans b, c.eq (fun q q1 q2 => kp q (by omega)) (fun q q1 q2 => kp q (by omega)) (fun q q1 q2 => kp q (by omega)) (fun q q1 q2 => kp q (by omega)), ⟨pl, ⟨hD.1, fun i p hi hp => ?_⟩, ⟨List.getElem?_set_self (by omega), ?_, ⟨sf, (kp 31 (by omega)).trans s3, fun i q hq => by cases hq⟩, Nat.zero_le _, fun i q hq => by cases hq⟩, t.eq (by omega) hD (fun q q1 q2 => kp q (by omega)) (fun q q1 _ => kp q (by omega)), ?_, by rw [List.length_set]; exact rm1, fun q c' hq hc => rm2 q c' hq (by rw [← kp q (by omega)]; exact hc), fun q q1 q2 => (kp q (by omega)).trans (rm3 q q1 q2)⟩, f.eq (fun q q1 q2 => kp q (by omega)), ⟨⟨g1, (kp 44 (by omega)).trans g2, g3⟩, i1, (kp 45 (by omega)).trans i2, i3⟩, j.eq (fun q q1 q2 => kp q (by omega)) (fun q q1 => kp q (by omega))⟩, hsm⟩
  · rw [k1 _ _ _ _ (h_cls s1), h_pF s1 (show 3 < 4 by omega), Option.bind_some]; rfl
  · obtain ⟨x, y⟩ := hD.2 i p hi hp
    exact ⟨x, y.eq (fun q q1 _ => kp q (by omega))⟩
  · obtain ⟨k, k1, k2⟩ := s2
    exact ⟨k, (kp 30 (by omega)).trans k1, k2⟩
  · obtain ⟨k, k1, k2⟩ := im
    refine ⟨k, (kp 35 (by omega)).trans k1, fun j hj => ⟨(k2 j hj).1, fun K hK => ?_⟩⟩
    obtain ⟨p, p1, p2, p3, p4, p5⟩ := (k2 j hj).2 K hK
    exact ⟨p, p1, p2, p3, (kp p (by omega)).trans p4, p5.eq (fun q q1 _ => kp q (by omega)) (fun q q1 _ => kp q (by omega)) (fun q q1 _ => kp q (by omega)) (fun q q1 _ => kp q (by omega))⟩
theorem c_termNow (h : CIo A X Lo n) {i : Nat} (hi : i < 4) : xC E (d + 1) 145 [.ref 0, .int (nI i)] A = some (some (.int (nI (getT X.1 i))), A) := by
  obtain ⟨s, hS, hRS⟩ := h.2.2.1.1
  obtain ⟨u, hu, hu5, hut, htx⟩ := h.2.2.1.2.1
  have e5 := hu.1.g5
  have e6 := hu.1.g6
  have e7 := hu.1.g7
  rw [hu5] at e5
  rw [hu.2.2.2.2.2.1] at e6
  rw [hu.2.2.2.2.2.2.2.1] at e7
  rw [k145 _ _ _ _ _ h.cls]
  unfold getT
  rcases (show i = 0 ∨ i = 1 ∨ i = 2 ∨ i = 3 by omega) with rfl | rfl | rfl | rfl
  · rw [if_pos (by rfl), if_pos rfl, h.g0, Option.bind_some, hS.g7, Option.bind_some, hRS.2.2.2.2.2.2]
  · rw [if_neg (show ¬ nI 1 = (0 : Int32) by decide), if_pos (by rfl), if_neg (by omega), if_pos rfl, h.g3, Option.bind_some, e5, Option.bind_some]
  · rw [if_neg (show ¬ nI 2 = (0 : Int32) by decide), if_neg (show ¬ nI 2 = (1 : Int32) by decide), if_pos (by rfl), if_neg (by omega), if_neg (by omega), if_pos rfl, h.g3, Option.bind_some, e6, Option.bind_some]
  · rw [if_neg (show ¬ nI 3 = (0 : Int32) by decide), if_neg (show ¬ nI 3 = (1 : Int32) by decide), if_neg (show ¬ nI 3 = (2 : Int32) by decide), if_neg (by omega), if_neg (by omega), if_neg (by omega), h.g3, Option.bind_some, e7, Option.bind_some]
theorem c_setTerm (h : CIo A X Lo n) (hX : XI X) {i v : Nat} (hi : i < 4) (hv : v ≤ mxT i) : ∃ A', xC E (d + 1) 146 [.ref 0, .int (nI i), .int (nI v)] A = some (none, A') ∧ CIo A' (Xk X (setT X.1 i v)) Lo n := by
  obtain ⟨s, hS, hRS⟩ := h.2.2.1.1
  obtain ⟨u, hu, hu5, hut, htx⟩ := h.2.2.1.2.1
  obtain ⟨r1, r2, r3, r4, r5, r6, r7, r8, r9⟩ := hu
  rw [k146 _ _ _ _ _ _ h.cls]
  unfold setT
  unfold mxT at hv
  rcases (show i = 0 ∨ i = 1 ∨ i = 2 ∨ i = 3 by omega) with rfl | rfl | rfl | rfl
  · obtain ⟨A1, p1, p2, p3⟩ := hS.p7 (nI v)
    have kp : ∀ q, (q < 1 ∨ 8 ≤ q) → A1[q]? = A[q]? := fun q hq => p3.2 q (fun z => by unfold inS at z; omega)
    rw [if_pos (by rfl), if_pos rfl, h.g0, Option.bind_some, p1, Option.bind_some]
    refine ⟨A1, rfl, h.kc p3 (fun q z => by unfold inS at z; omega) ⟨⟨_, p2, hRS.1, hRS.2.1, hRS.2.2.1, hRS.2.2.2.1, hRS.2.2.2.2.1, hRS.2.2.2.2.2.1, rfl⟩, h.2.2.1.2.1.eq (fun q q1 q2 => kp q (by omega)) (fun q q1 q2 => kp q (by omega)), h.2.2.1.2.2.eq (fun q q1 q2 => kp q (by omega))⟩⟩
  · rw [if_neg (show ¬ nI 1 = (0 : Int32) by decide), if_pos (by rfl), if_neg (by omega), if_pos rfl, h.g3, Option.bind_some, h_pF r1.1 (show 5 < 8 by omega), Option.bind_some]
    exact ⟨_, rfl, h.rul (k := v) (R' := X.1.2.1) ⟨r1, r2, r3, r4, r5, r6, r7, r8, r9⟩ hut htx rfl r4 r5 r6 r7 r8 r9⟩
  · rw [if_neg (show ¬ nI 2 = (0 : Int32) by decide), if_neg (show ¬ nI 2 = (1 : Int32) by decide), if_pos (by rfl), if_neg (by omega), if_neg (by omega), if_pos rfl, h.g3, Option.bind_some, h_pF r1.1 (show 6 < 8 by omega), Option.bind_some]
    refine ⟨_, rfl, ?_⟩
    have := h.rul (k := X.1.2.2.1) (R' := (X.1.2.1.1, X.1.2.1.2.1, v, X.1.2.1.2.2.2)) ⟨r1, r2, r3, r4, r5, r6, r7, r8, r9⟩ hut htx rfl r4 r5 rfl (by rw [if_neg (by omega), if_neg (by omega), if_pos rfl] at hv; exact hv) r8 r9
    rw [← hu5] at this
    exact this
  · rw [if_neg (show ¬ nI 3 = (0 : Int32) by decide), if_neg (show ¬ nI 3 = (1 : Int32) by decide), if_neg (show ¬ nI 3 = (2 : Int32) by decide), if_neg (by omega), if_neg (by omega), if_neg (by omega), h.g3, Option.bind_some, h_pF r1.1 (show 7 < 8 by omega), Option.bind_some]
    refine ⟨_, rfl, ?_⟩
    have := h.rul (k := X.1.2.2.1) (R' := (X.1.2.1.1, X.1.2.1.2.1, X.1.2.1.2.2.1, v)) ⟨r1, r2, r3, r4, r5, r6, r7, r8, r9⟩ hut htx rfl r4 r5 r6 r7 rfl (by rw [if_neg (by omega), if_neg (by omega), if_neg (by omega)] at hv; show v < 1000; omega)
    rw [← hu5] at this
    exact this
theorem c_mostOfTerm {x : Int32} : xC E (d + 1) 144 [.int x] A = some (some (.int (match trI x with
    | none => -1
    | some i => nI (mxT i))), A) := by
  rw [k144]
  unfold trI
  by_cases e0 : x = 0
  · rw [if_pos e0, if_pos e0]; rfl
  rw [if_neg e0, if_neg e0]
  by_cases e1 : x = 1
  · rw [if_pos e1, if_pos e1]; rfl
  rw [if_neg e1, if_neg e1]
  by_cases e2 : x = 2
  · rw [if_pos e2, if_pos e2]; rfl
  rw [if_neg e2, if_neg e2]
  by_cases e3 : x = 3
  · rw [if_pos e3, if_pos e3]; rfl
  rw [if_neg e3, if_neg e3]
theorem c_terms (h : CIo A X Lo n) (hX : XI X) (x y : Int32) : ∃ A', xC E (d + 4) 104 [.ref 0, .int x, .int y] A = some (some (.int (aTerms X x y).1), A') ∧ CIo A' (aTerms X x y).2 Lo n := by
  obtain ⟨s, hS, hRS⟩ := h.2.2.1.1
  obtain ⟨B1, b1, b2, -⟩ := c_refuse (E := E) (d := d + 2) (c := 1) (x := -1) h (by omega) (by decide) (by decide)
  obtain ⟨B3, b3, b4, -⟩ := c_refuse (E := E) (d := d + 2) (c := 3) (x := -3) h (by omega) (by decide) (by decide)
  rw [k104 _ _ _ _ _ _ h.cls]
  unfold aTerms
  by_cases hy : y < 0
  · rw [if_pos hy, b1, xI_s, Option.bind_some]
    cases trI x with
    | none => exact ⟨B1, rfl, b2⟩
    | some i =>
      dsimp only
      rw [if_pos (Or.inl hy)]; exact ⟨B1, rfl, b2⟩
  · rw [if_neg hy, c_mostOfTerm, xI_s, Option.bind_some]
    dsimp only
    cases hx : trI x with
    | none =>
      dsimp only
      rw [if_neg (show ¬ y ≤ (-1 : Int32) from fun z => hy (Int32.lt_of_le_of_lt z (by decide))), b1, xI_s, Option.bind_some]; exact ⟨B1, rfl, b2⟩
    | some i =>
      obtain ⟨hi, rfl⟩ := trI_some hx
      dsimp only
      have hmx : mxT i ≤ 999 := by unfold mxT; split <;> (try split) <;> (try split) <;> omega
      rcases pk_ix y (show mxT i + 1 < 2 ^ 31 by omega) with q | q | ⟨v, hv, rfl⟩
      · exact absurd q hy
      · rw [if_pos (Or.inr q), if_neg (show ¬ y ≤ nI (mxT i) from Int32.not_le.mpr (Int32.lt_of_lt_of_le (nI_lt (by omega) (by omega)) q)), b1, xI_s, Option.bind_some]; exact ⟨B1, rfl, b2⟩
      · have fin : ¬ (i = 3 ∧ keysN X.1.1.1 ≠ 0) → ∃ A', xD E (d + 4) 104 40 [.ref 0, .int (nI i), .int (nI v), xJ] [] A = some (some (.int (nI (getT X.1 i))), A') ∧ CIo A' (Xgr (Xcl (Xk X (setT X.1 i v)))) Lo n := by
          intro _
          obtain ⟨A1, s1, s2⟩ := c_setTerm (E := E) (d := d + 2) (v := v) h hX hi (by omega)
          obtain ⟨A2, t1, t2, -⟩ := c_hclear (E := E) (d := d + 2) s2
          obtain ⟨A3, g1, g2, -⟩ := c_grant (E := E) (d := d + 2) (x := nI (getT X.1 i)) t2
          refine ⟨A3, ?_, g2⟩
          rw [e104_40, c_termNow h hi, xI_s, Option.bind_some]
          dsimp only
          rw [s1, xV_s, Option.bind_some, s2.g5, Option.bind_some, t1, xV_s, Option.bind_some, g1, xI_s, Option.bind_some]
        rw [if_neg (n_out (by omega) hv), nI_clamp (by omega), if_pos (nI_le (show v ≤ mxT i by omega) (by omega))]
        by_cases e3 : i = 3
        · have hk := keysN_le hX.1.1.1.1
          rw [if_pos (show nI i = (3 : Int32) by rw [e3]; rfl), h.g0, Option.bind_some, c_keysThere hS hRS.1, xI_s, Option.bind_some]
          dsimp only
          by_cases ek : keysN X.1.1.1 = 0
          · rw [if_pos (show nI (keysN X.1.1.1) ≤ (0 : Int32) by rw [ek]; decide), if_neg (show ¬ (i = 3 ∧ keysN X.1.1.1 ≠ 0) from fun z => z.2 ek)]
            exact fin (fun z => z.2 ek)
          · rw [if_neg (show ¬ nI (keysN X.1.1.1) ≤ (0 : Int32) from nI_ge (a := 0) (by omega) (by omega)), if_pos ⟨e3, ek⟩, b3, xI_s, Option.bind_some]; exact ⟨B3, rfl, b4⟩
        · rw [if_neg (show ¬ nI i = (3 : Int32) from fun z => e3 ((nI_eq (b := 3) (by omega) (by omega)).mp z)), if_neg (show ¬ (i = 3 ∧ keysN X.1.1.1 ≠ 0) from fun z => e3 z.1)]
          exact fin (fun z => e3 z.1)
theorem c_force (h : CIo A X Lo n) (hX : XI X) (x : Int32) : ∃ A', xC E (d + 2) 113 [.ref 0, .int x] A = some (some (.int (aForce X x).1), A') ∧ CIo A' (aForce X x).2 Lo n := by
  obtain ⟨u, hu, hu5, hut, htx⟩ := h.2.2.1.2.1
  obtain ⟨B2, b1, b2, -⟩ := c_refuse (E := E) (d := d) (c := 2) (x := -2) h (by omega) (by decide) (by decide)
  have hl := hu.2.1.1
  have hfo : u.2.2.1 = oI X.1.2.1.2.1 := hu.2.2.2.1
  rw [k113 _ _ _ _ _ h.cls]
  unfold aForce
  have good : ∀ q : Option Nat, (∀ p, q = some p → p < X.1.2.1.1.length) → x = oI q → ∃ A', ((gI A 22 3 4).bind fun x5 => (gN A 0 8 3).bind fun n6 => (pF A n6 3 4 (.int x)).bind fun A7 => (xI (xC E (d + 1) 142 [.ref 0, .int x5] A7)).bind fun q8 => some (some (Value.int q8.1), q8.2)) = some (some (Value.int (oI X.1.2.1.2.1)), A') ∧ CIo A' (Xgr (Xk X (X.1.1, (X.1.2.1.1, q, X.1.2.1.2.2), X.1.2.2))) Lo n := by
    intro q hq hx
    have hc := h.rul (k := X.1.2.2.1) (R' := (X.1.2.1.1, q, X.1.2.1.2.2)) hu hut htx rfl hx hq hu.2.2.2.2.2.1 hu.2.2.2.2.2.2.1 hu.2.2.2.2.2.2.2.1 hu.2.2.2.2.2.2.2.2
    rw [← hu5] at hc
    obtain ⟨A3, g1, g2, -⟩ := c_grant (E := E) (d := d) (x := oI X.1.2.1.2.1) hc
    refine ⟨A3, ?_, g2⟩
    rw [hu.1.g4, Option.bind_some, h.g3, Option.bind_some, h_pF hu.1.1 (show 4 < 8 by omega), Option.bind_some, hfo]
    rw [show (A.set 22 (.inr (3, List.set _ 4 (.int x))) : xH) = _ from rfl]
    exact (congrArg (fun z => (xI z).bind fun q8 => some (some (Value.int q8.1), q8.2)) g1).trans rfl
  rcases frI_cases (n := X.1.2.1.1.length) (by omega) x with ⟨hx, hf⟩ | ⟨hx1, hx, hf⟩ | ⟨i, hi, hx, hf⟩
  · rw [hf]
    dsimp only
    rw [if_neg (show ¬ x < (-1 : Int32) by rw [hx]; decide), h.g3, Option.bind_some, hu.1.g3, Option.bind_some, hu.2.1.2.1, if_pos (show x < nI X.1.2.1.1.length by rw [hx]; exact Int32.lt_of_lt_of_le (by decide) (nI_le (a := 0) (Nat.zero_le _) (by omega))), Option.bind_some]
    have := good none (fun p z => by cases z) hx
    rw [h.g3] at this
    exact this
  · rw [hf]
    dsimp only
    rcases hx with hx | hx
    · rw [if_pos (n_ltm1 hx hx1), b1, xI_s, Option.bind_some]; exact ⟨B2, rfl, b2⟩
    · rw [if_neg (show ¬ x < (-1 : Int32) from fun z => n_nn (m := X.1.2.1.1.length) (by omega) hx (Int32.lt_trans z (by decide))), h.g3, Option.bind_some, hu.1.g3, Option.bind_some, hu.2.1.2.1, if_neg (Int32.not_lt.mpr hx), b1, xI_s, Option.bind_some]; exact ⟨B2, rfl, b2⟩
  · rw [hf]
    dsimp only
    rw [if_neg (show ¬ x < (-1 : Int32) from fun z => by rw [hx] at z; exact nI_pos (by omega) (Int32.lt_trans z (by decide))), h.g3, Option.bind_some, hu.1.g3, Option.bind_some, hu.2.1.2.1, if_pos (show x < nI X.1.2.1.1.length by rw [hx]; exact nI_lt hi (by omega)), Option.bind_some]
    have := good (some i) (fun p z => by rw [← Option.some.inj z]; exact hi) hx
    rw [h.g3] at this
    exact this
theorem c_forget (h : CIo A X Lo n) : ∃ A', xC E (d + 1) 128 [.ref 0] A = some (some (.int (aForget X).1), A') ∧ CIo A' (aForget X).2 Lo n := by
  obtain ⟨g1, f1, f2, g2, g3, g4⟩ := h.2.2.1.2.2
  have kp : ∀ q, q ≠ 26 → (A.set 26 (.inr (4, [Value.ref 27, .ref 28, .int 0])))[q]? = A[q]? := fun q hq => List.getElem?_set_ne (fun z => hq z.symm)
  have hlen : 26 < A.length := by have := h.1; omega
  refine ⟨A.set 26 (.inr (4, [.ref 27, .ref 28, .int 0])), ?_, h.kc (P := fun q => q = 26) (sm.set _ rfl) (fun q z => by omega) ⟨h.2.2.1.1.eq (fun q q1 q2 => kp q (by omega)), h.2.2.1.2.1.eq (fun q q1 q2 => kp q (by omega)) (fun q q1 q2 => kp q (by omega)), List.getElem?_set_self hlen, f1, f2, (kp 27 (by omega)).trans g2, (kp 28 (by omega)).trans g3, fun i q hq => by cases hq⟩⟩
  rw [k128 _ _ _ _ h.cls, h.g4, Option.bind_some, h_gI g1 rfl, Option.bind_some, Option.bind_some, h_pF g1 (show 2 < 3 by omega), Option.bind_some]
  rfl
theorem c_add (h : CIo A X Lo n) (hl : X.1.2.2.2.length < 6) {a b : Nat} : ∃ A', xC E (d + 1) 37 [.ref 26, .int (nI a), .int (nI b)] A = some (some (.int (nI (X.1.2.2.2.length + 1))), A') ∧ CIo A' (Xk X (X.1.1, X.1.2.1, X.1.2.2.1, X.1.2.2.2 ++ [(a, b)])) Lo n := by
  obtain ⟨g1, f1, f2, g2, g3, g4⟩ := h.2.2.1.2.2
  have hlen := h.1
  generalize hA1 : A.set 27 (ia 6 (upd f1 X.1.2.2.2.length (nI a))) = A1
  have k1 : ∀ q, q ≠ 27 → A1[q]? = A[q]? := fun q hq => by rw [← hA1]; exact List.getElem?_set_ne (fun z => hq z.symm)
  have l1 : A1.length = A.length := by rw [← hA1, List.length_set]
  generalize hA2 : A1.set 28 (ia 6 (upd f2 X.1.2.2.2.length (nI b))) = A2
  have k2 : ∀ q, q ≠ 28 → A2[q]? = A1[q]? := fun q hq => by rw [← hA2]; exact List.getElem?_set_ne (fun z => hq z.symm)
  have l2 : A2.length = A.length := by rw [← hA2, List.length_set, l1]
  have k3 : ∀ q, q ≠ 26 → (A2.set 26 (.inr (4, [Value.ref 27, .ref 28, .int (nI (X.1.2.2.2.length + 1))])))[q]? = A2[q]? := fun q hq => List.getElem?_set_ne (fun z => hq z.symm)
  have kp : ∀ q, q ≠ 26 → q ≠ 27 → q ≠ 28 → (A2.set 26 (.inr (4, [Value.ref 27, .ref 28, .int (nI (X.1.2.2.2.length + 1))])))[q]? = A[q]? := fun q a b c => by rw [k3 q a, k2 q c, k1 q b]
  have c26 : A2[26]? = some (.inr (4, [.ref 27, .ref 28, .int (nI X.1.2.2.2.length)])) := by rw [k2 26 (by omega), k1 26 (by omega)]; exact g1
  have c27 : A1[27]? = some (ia 6 (upd f1 X.1.2.2.2.length (nI a))) := by rw [← hA1]; exact List.getElem?_set_self (by omega)
  have c28 : A2[28]? = some (ia 6 (upd f2 X.1.2.2.2.length (nI b))) := by rw [← hA2]; exact List.getElem?_set_self (by omega)
  have c28b : A1[28]? = some (ia 6 f2) := (k1 28 (by omega)).trans g3
  have c26b : A1[26]? = some (.inr (4, [.ref 27, .ref 28, .int (nI X.1.2.2.2.length)])) := (k1 26 (by omega)).trans g1
  have hll : (X.1.2.2.2 ++ [(a, b)]).length = X.1.2.2.2.length + 1 := by rw [List.length_append]; rfl
  refine ⟨A2.set 26 (.inr (4, [.ref 27, .ref 28, .int (nI (X.1.2.2.2.length + 1))])), ?_, h.kc (P := fun q => q = 26 ∨ q = 27 ∨ q = 28) ⟨by rw [List.length_set, l2], fun q hq => kp q (by omega) (by omega) (by omega)⟩ (fun q z => by omega) ⟨h.2.2.1.1.eq (fun q q1 q2 => kp q (by omega) (by omega) (by omega)), h.2.2.1.2.1.eq (fun q q1 q2 => kp q (by omega) (by omega) (by omega)) (fun q q1 q2 => kp q (by omega) (by omega) (by omega)), ?_, upd f1 X.1.2.2.2.length (nI a), upd f2 X.1.2.2.2.length (nI b), ?_, (k3 28 (by omega)).trans c28, fun i q hq => ?_⟩⟩
  · rw [k37 _ _ _ _ _ _ (h_cls g1), h_gN g1 rfl, Option.bind_some, h_gI g1 rfl, Option.bind_some, h_sI0 g2 hl (by omega), Option.bind_some, hA1, h_gN c26b rfl, Option.bind_some, h_gI c26b rfl, Option.bind_some, h_sI0 c28b hl (by omega), Option.bind_some, hA2, h_gI c26 rfl, Option.bind_some, nI_1, h_pF c26 (show 2 < 3 by omega), Option.bind_some, h_gI (List.getElem?_set_self (by omega)) rfl, Option.bind_some]
    rfl
  · show (A2.set 26 _)[26]? = some (.inr (4, [.ref 27, .ref 28, .int (nI (X.1.2.2.2 ++ [(a, b)]).length)]))
    rw [hll]; exact List.getElem?_set_self (by omega)
  · rw [k3 _ (by omega), k2 _ (by omega)]; exact c27
  · have hq' : (X.1.2.2.2 ++ [(a, b)])[i]? = some q := hq
    by_cases e : i = X.1.2.2.2.length
    · subst e
      rw [List.getElem?_append_right (Nat.le_refl _), Nat.sub_self] at hq'
      cases hq'
      exact ⟨upd_s, upd_s⟩
    · have hil : i < X.1.2.2.2.length := by
        have := (List.getElem?_eq_some_iff.mp hq').1
        omega
      rw [List.getElem?_append_left hil] at hq'
      rw [upd_n e, upd_n e]; exact g4 i q hq'
theorem c_seen (h : CIo A X Lo n) (hX : XI X) (x y : Int32) : ∃ A', xC E (d + 2) 127 [.ref 0, .int x, .int y] A = some (some (.int (aSeen X x y).1), A') ∧ CIo A' (aSeen X x y).2 Lo n := by
  obtain ⟨g1, -⟩ := h.2.2.1.2.2
  have h6 := hX.1.2.2.1
  obtain ⟨B1, b1, b2, -⟩ := c_refuse (E := E) (d := d) (c := 1) (x := -1) h (by omega) (by decide) (by decide)
  obtain ⟨B5, b5, b6, -⟩ := c_refuse (E := E) (d := d) (c := 5) (x := -5) h (by omega) (by decide) (by decide)
  rw [k127 _ _ _ _ _ _ h.cls]
  unfold aSeen
  rcases pk_ix x (show 64 < 2 ^ 31 by omega) with hx | hx | ⟨a, ha, rfl⟩
  · rw [if_pos hx, if_pos (Or.inl (Or.inl hx)), b1, xI_s, Option.bind_some]; exact ⟨B1, rfl, b2⟩
  · rw [if_neg (n_nn (by omega) hx), if_pos (show (64 : Int32) ≤ x from hx), if_pos (Or.inl (Or.inr hx)), b1, xI_s, Option.bind_some]; exact ⟨B1, rfl, b2⟩
  · rw [if_neg (show ¬ nI a < 0 from nI_pos (by omega)), if_neg (show ¬ (64 : Int32) ≤ nI a from nI_ge (b := 64) ha (by omega))]
    rcases pk_ix y (show 2 < 2 ^ 31 by omega) with hy | hy | ⟨b, hb, rfl⟩
    · rw [if_pos hy, if_pos (Or.inr (Or.inl hy)), b1, xI_s, Option.bind_some]; exact ⟨B1, rfl, b2⟩
    · rw [if_neg (n_nn (by omega) hy), if_neg (show ¬ y ≤ (1 : Int32) from Int32.not_le.mpr (Int32.lt_of_lt_of_le (by decide) hy)), if_pos (Or.inr (Or.inr hy)), b1, xI_s, Option.bind_some]; exact ⟨B1, rfl, b2⟩
    · rw [if_neg (show ¬ nI b < 0 from nI_pos (by omega)), if_pos (show nI b ≤ (1 : Int32) from nI_le (b := 1) (by omega) (by omega)), if_neg (show ¬ ((nI a < 0 ∨ nI 64 ≤ nI a) ∨ nI b < 0 ∨ nI 2 ≤ nI b) from fun z => z.elim (n_out (by omega) ha) (n_out (by omega) hb)), nI_clamp (by omega), nI_clamp (by omega), h.g4, Option.bind_some, h_gI g1 rfl, Option.bind_some]
      by_cases e : X.1.2.2.2.length = 6
      · rw [if_neg (show ¬ nI X.1.2.2.2.length < (6 : Int32) by rw [e]; decide), if_pos e, b5, xI_s, Option.bind_some]; exact ⟨B5, rfl, b6⟩
      · obtain ⟨A1, a1, a2⟩ := c_add (E := E) (d := d) (a := a) (b := b) h (by omega)
        obtain ⟨A3, g1', g2', -⟩ := c_grant (E := E) (d := d) (x := nI (X.1.2.2.2.length + 1)) a2
        rw [if_pos (show nI X.1.2.2.2.length < (6 : Int32) from nI_lt (b := 6) (by omega) (by omega)), if_neg e, Option.bind_some, a1, xI_s, Option.bind_some]
        dsimp only
        rw [g1', xI_s, Option.bind_some]
        exact ⟨A3, rfl, g2'⟩
end CTERMS
