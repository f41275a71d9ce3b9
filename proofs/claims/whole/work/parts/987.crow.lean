/-! ===== the class: a row is read; counts ===== -/
section CROW
variable {E : Nat × (Nat → Int32)} {d : Nat} {A A' : xH} {X : Xs} {Lo : List (St × Nat)} {n : NM}
/-- the store and the rules' scratch have changed -/
theorem CIo.op (h : CIo A X Lo n) (hs : sm (inSR 1 22) A A') {S : St} (h1 : SC A' 1 S) (h2 : RC A' 22 X.1.2.1 X.1.2.2.1) : CIo A' (XS X S) Lo n := by
  have kp : ∀ q, (q < 1 ∨ 8 ≤ q) → q ≠ 24 → q ≠ 25 → A'[q]? = A[q]? := fun q q1 q2 q3 => hs.2 q (fun z => by unfold inSR inS inR at z; omega)
  exact h.wk1 hs (fun q z => by unfold wkc; unfold inSR inS inR at z; omega) h1 h2 (h.2.2.2.2.2.2.eq (fun q q1 q2 => kp q (by omega) (by omega) (by omega)) (fun q q1 => kp q (by omega) (by omega) (by omega)))
/-- the bytes on the tape are taken -/
theorem c_take (h : CIo A X Lo n) : ∃ A', xC E (d + 1) 70 [.ref 36] A = some (some (.int (nI X.2.2.2.1.2)), A') ∧ CIo A' (Xtp X X.2.2.2.1.1 0) Lo n ∧ ∃ fl tl ar, A' = tw A fl tl ar ∧ fl 3 = nI X.2.2.2.1.2 ∧ fl 2 = 0 ∧ ∀ j, j < X.2.2.2.1.2 → ar 4 j = nI (X.2.2.2.1.1 j) := by
  obtain ⟨fl, tl, ar, hw, h2, h4⟩ := h.tpw
  have hA := h.1
  refine ⟨tw A (upd (upd fl 3 (nI X.2.2.2.1.2)) 2 0) tl ar, ?_, h.tpc upd_s (fun j hj => by omega), _, tl, ar, rfl, ?_, upd_s, h4⟩
  · have e : xC E (d + 1) 70 [.ref 36] A = xC E (d + 1) 70 [.ref 36] (tw A fl tl ar) := by rw [show tw A fl tl ar = A from hw]
    rw [e, k70 _ _ _ _ (t_k36 (by omega)), t_g36_2 (by omega), Option.bind_some, h2, t_p36_3 (by omega), Option.bind_some, t_p36_2 (by omega), Option.bind_some, t_g36_3 (by omega), Option.bind_some, upd_n (by omega), upd_s]
  · rw [upd_n (by omega), upd_s]
theorem c_rw23 (hX : XI X) {N : Nat} (hN : N ≤ 400) {bs : Nat → Nat} (hb : ∀ j, bs j < 256) : ∀ (c i : Nat) (A : xH) (S : St) (m : Nat), (i + c) * 2 + N % 2 = N → CIo A (XS X S) Lo n → SI X.1.2.1.2.2.2 S → m + c ≤ 400 → (∃ g, A[42]? = some (ia 400 g) ∧ ∀ j, j < N → g j = nI (bs j)) → ∃ A', xD E (d + 7) 107 23 [.ref 0, .int (nI N), .int (nI m), .int (nI (2 * i))] [] A = xD E (d + 7) 107 23 [.ref 0, .int (nI N), .int (nI (rwN X.1.2.1 bs c i (S, m)).2), .int (nI (2 * (i + c)))] [] A' ∧ CIo A' (XS X (rwN X.1.2.1 bs c i (S, m)).1) Lo n
  | 0, i, A, S, m, hi, h, hS, hm, hg => ⟨A, rfl, h⟩
  | c + 1, i, A, S, m, hi, h, hS, hm, hg => by
    obtain ⟨g, g1, g2⟩ := hg
    have hX' : XI (XS X S) := hX.s hS
    obtain ⟨s, hST, hRS⟩ := h.2.2.1.1
    obtain ⟨u, hu, hu5, hut, htx⟩ := h.2.2.1.2.1
    have hA := h.1
    have b1 := hb (2 * i)
    have b2 := hb (2 * i + 1)
    have hlt : 2 * i + 1 < N := by omega
    have t36 : A[36]? = some (.inr (6, tfs0 (Classical.choose h.2.2.2.2.1))) := by
      obtain ⟨tl, ar, a, -⟩ := Classical.choose_spec h.2.2.2.2.1
      exact a 0 (by omega)
    have head : xD E (d + 7) 107 23 [.ref 0, .int (nI N), .int (nI m), .int (nI (2 * i))] [] A = (xI (xC E (d + 6) 48 [.ref 1, .int (nI (bs (2 * i))), .int (nI (bs (2 * i + 1))), .ref 22] A)).bind fun q13 => if q13.1 < 0 then xD E (d + 7) 107 23 [.ref 0, .int (nI N), .int (nI m), .int (nI (2 * i) + (2 : Int32))] [] q13.2 else xD E (d + 7) 107 23 [.ref 0, .int (nI N), .int (nI m + (1 : Int32)), .int (nI (2 * i) + (2 : Int32))] [] q13.2 := by
      rw [e107_23, nI_1, if_neg (nI_ge (by omega) (by omega)), h.g0, Option.bind_some, h.g8, Option.bind_some, h_gN t36 rfl, Option.bind_some, h_aI g1 (by omega) (by omega), Option.bind_some, Option.bind_some, h_gN t36 rfl, Option.bind_some, h_aI g1 (by omega) (by omega), Option.bind_some, h.g3, Option.bind_some, g2 _ (by omega), g2 _ (by omega)]
    have n2 : nI (2 * i) + (2 : Int32) = nI (2 * (i + 1)) := by rw [show (2 : Int32) = nI 2 from rfl, nI_add]; rfl
    rw [head, n2]
    show ∃ A', _ = xD E (d + 7) 107 23 [.ref 0, .int (nI N), .int (nI (rwN X.1.2.1 bs c (i + 1) (rw1 X.1.2.1 (bs (2 * i)) (bs (2 * i + 1)) (S, m))).2), .int (nI (2 * (i + (c + 1))))] [] A' ∧ CIo A' (XS X (rwN X.1.2.1 bs c (i + 1) (rw1 X.1.2.1 (bs (2 * i)) (bs (2 * i + 1)) (S, m))).1) Lo n
    rw [show i + (c + 1) = i + 1 + c by omega]
    by_cases e : 100 ≤ bs (2 * i + 1)
    · have hr : rw1 X.1.2.1 (bs (2 * i)) (bs (2 * i + 1)) (S, m) = (S, m) := if_pos e
      rw [hr, c_placeKey_bad hST (Or.inr (Or.inr (show (99 : Int32) < nI (bs (2 * i + 1)) from nI_lt (a := 99) (by omega) (by omega)))), xI_s, Option.bind_some]
      dsimp only
      rw [if_pos (by decide)]
      exact c_rw23 hX hN hb c (i + 1) A S m (by omega) h hS (by omega) ⟨g, g1, g2⟩
    · obtain ⟨A1, s1, c1, c2, c3, c4, c5⟩ := c_placeKey (E := E) (d := d) (k := bs (2 * i)) (v := bs (2 * i + 1)) (by omega) (by omega) (by omega) (fun i t hi ht => by have := hut i t hi ht; omega) hST hu hRS hX'.1.1.1.1 hX'.1.1.1.2.2.2.2.1 hX'.deep
      have hc1 : CIo A1 (XS X (putS X.1.2.1 (bs (2 * i)) (bs (2 * i + 1)) S).2) Lo n := h.op c5 ⟨s1, c2, c3⟩ ⟨u, c4, hu5, hut, htx.sr c5 (by omega) (by omega)⟩
      have g1' : A1[42]? = some (ia 400 g) := (c5.2 42 (fun z => by unfold inSR inS inR at z; omega)).trans g1
      have hSI := putS_SI (R := X.1.2.1) (k := bs (2 * i)) (v := bs (2 * i + 1)) (by omega) (by omega) hS
      rw [c1, xI_s, Option.bind_some]
      dsimp only
      by_cases e2 : (putS X.1.2.1 (bs (2 * i)) (bs (2 * i + 1)) S).1 < 0
      · have hr : rw1 X.1.2.1 (bs (2 * i)) (bs (2 * i + 1)) (S, m) = (S, m) := by
          unfold rw1
          rw [if_neg e, if_pos e2]
        have hsame : (putS X.1.2.1 (bs (2 * i)) (bs (2 * i + 1)) S).2 = S := by
          rcases putS_R (R := X.1.2.1) (k := bs (2 * i)) (v := bs (2 * i + 1)) hS.1.1 with z | ⟨k, hk, z⟩
          · exact z.2
          · rw [z] at e2; exact absurd e2 (nI_pos hk)
        rw [hsame] at hc1
        rw [if_pos (show (putS (XS X S).1.2.1 (bs (2 * i)) (bs (2 * i + 1)) (XS X S).1.1).1 < 0 from e2), hr]
        exact c_rw23 hX hN hb c (i + 1) A1 S m (by omega) hc1 hS (by omega) ⟨g, g1', g2⟩
      · have hr : rw1 X.1.2.1 (bs (2 * i)) (bs (2 * i + 1)) (S, m) = ((putS X.1.2.1 (bs (2 * i)) (bs (2 * i + 1)) S).2, m + 1) := by
          unfold rw1
          rw [if_neg e, if_neg e2]
        rw [if_neg (show ¬ (putS (XS X S).1.2.1 (bs (2 * i)) (bs (2 * i + 1)) (XS X S).1.1).1 < 0 from e2), hr, nI_1]
        exact c_rw23 hX hN hb c (i + 1) A1 _ (m + 1) (by omega) hc1 hSI (by omega) ⟨g, g1', g2⟩
theorem c_row (h : CIo A X Lo n) (hX : XI X) : ∃ A', xC E (d + 7) 107 [.ref 0] A = some (some (.int (aRow X).1), A') ∧ CIo A' (aRow X).2 Lo n := by
  obtain ⟨A1, a1, a2, fl, tl, ar, rfl, f3, f2, f4⟩ := c_take (E := E) (d := d + 5) h
  have hA := h.1
  have hn := hX.2.2.2.2.1
  have hbs := hX.2.2.2.2.2
  rw [k107 _ _ _ _ h.cls, h.g8, Option.bind_some, a1, xI_s, Option.bind_some]
  dsimp only
  unfold aRow
  by_cases e : X.2.2.2.1.2 = 0
  · obtain ⟨A2, r1, r2, -⟩ := c_refuse (E := E) (d := d + 5) (c := 6) (x := -6) a2 (by omega) (by decide) (by decide)
    rw [if_pos (show nI X.2.2.2.1.2 = 0 by rw [e]; rfl), if_pos e, r1, xI_s, Option.bind_some]
    exact ⟨A2, rfl, r2⟩
  · rw [if_neg (show ¬ nI X.2.2.2.1.2 = 0 from nI_ne0 (by omega) (by omega)), if_neg e]
    have hXt : XI (Xtp X X.2.2.2.1.1 0) := hX.tp (by omega)
    obtain ⟨A2, b1, b2⟩ := c_rw23 (E := E) (d := d) (X := Xtp X X.2.2.2.1.1 0) (N := X.2.2.2.1.2) (bs := X.2.2.2.1.1) hXt hn hbs (X.2.2.2.1.2 / 2) 0 (tw A fl tl ar) X.1.1 0 (by omega) a2 hX.1.1 (by omega) ⟨ar 4, t_c42 (by omega), f4⟩
    obtain ⟨hSI, hle⟩ := rwN_R (R := X.1.2.1) hbs (X.2.2.2.1.2 / 2) 0 (X.1.1, 0) hX.1.1
    have hb2' : CIo A2 (XS (Xtp X X.2.2.2.1.1 0) (rwN X.1.2.1 X.2.2.2.1.1 (X.2.2.2.1.2 / 2) 0 (X.1.1, 0)).1) Lo n := b2
    have hb1' : xD E (d + 7) 107 23 [.ref 0, .int (nI X.2.2.2.1.2), .int (nI 0), .int (nI (2 * 0))] [] (tw A fl tl ar) = xD E (d + 7) 107 23 [.ref 0, .int (nI X.2.2.2.1.2), .int (nI (rwN X.1.2.1 X.2.2.2.1.1 (X.2.2.2.1.2 / 2) 0 (X.1.1, 0)).2), .int (nI (2 * (0 + X.2.2.2.1.2 / 2)))] [] A2 := b1
    generalize rwN X.1.2.1 X.2.2.2.1.1 (X.2.2.2.1.2 / 2) 0 (X.1.1, 0) = W at *
    have hle' : W.2 ≤ 0 + X.2.2.2.1.2 / 2 := hle
    have h14 := hb2'.four (q := (X.2.2.2.2.1.1, nI ((X.2.2.2.1.2 + 1) / 2 - W.2), X.2.2.2.2.1.2.2)) rfl
    obtain ⟨A4, c1, c2, -⟩ := c_hclear (E := E) (d := d + 5) h14
    obtain ⟨A5, e1, e2, -⟩ := c_grant (E := E) (d := d + 5) (x := nI W.2) c2
    refine ⟨A5, ?_, e2⟩
    refine Eq.trans (show _ = _ from hb1') ?_
    rw [e107_23, nI_1, if_pos (nI_le (by omega) (by omega)), nI_1, show (2 : Int32) = nI 2 from rfl, n_div (by omega) (by omega) (by omega), pk_sub (by omega), hb2'.p14, Option.bind_some]
    refine Eq.trans (congrArg (fun z => Option.bind z _) (h14.g5)) ?_
    rw [Option.bind_some]
    refine Eq.trans (congrArg (fun z => Option.bind (xV z) _) c1) ?_
    rw [xV_s, Option.bind_some, e1, xI_s, Option.bind_some]
end CROW
