/-! ===== the class: undo ===== -/
section CUNDO
variable {E : Nat × (Nat → Int32)} {d : Nat} {A A' : xH} {X : Xs} {L Lo : List (St × Nat)} {I : Nat → Option Kp} {n : NM} {pl : Nat → Option Nat}
theorem c_takeBack0 (g : CIo A X Lo n) (hl : X.2.1.getLast? = none) : xC E (d + 1) 6 [.ref 29, .ref 1] A = some (some (.int (-1)), A) := by
  obtain ⟨pl, -, h1, -⟩ := g.2.2.2.1
  have h0 := h1.1
  have e : X.2.1.length = 0 := by rw [List.getLast?_eq_none_iff.mp hl]; rfl
  rw [k6 _ _ _ _ _ (h_cls h0), h_gI h0 rfl, Option.bind_some, if_pos (by rw [e]; rfl)]
theorem c_takeBack (g : CIo A X Lo n) {q : St × Nat} (hl : X.2.1.getLast? = some q) : ∃ A', xC E (d + 3) 6 [.ref 29, .ref 1] A = some (some (.int (nI q.2)), A') ∧ CIo A' ((q.1, X.1.2), X.2.1.dropLast, X.2.2) Lo n := by
  obtain ⟨pl, hp⟩ := g.2.2.2.1
  obtain ⟨hD, h1, h2, h3, h4⟩ := id hp
  obtain ⟨k, f, gr, g1, g2, g3⟩ := h1.hr
  rw [List.getLast?_eq_getElem?] at hl
  have hm : X.2.1.length - 1 < X.2.1.length := (List.getElem?_eq_some_iff.mp hl).1
  generalize hmm : X.2.1.length = m at *
  obtain ⟨p, p1, p2⟩ := h1.2.2.2.2 (m - 1) q hl
  have hk : k (m - 1) = some p := by rw [g1 _ (by omega)]; exact p1
  have hp69 := (hD.2 _ p (by omega) p1).1
  obtain ⟨A1, a1, a2, a3⟩ := gr.many (m - 1)
  have kp1 : ∀ z, z < 29 ∨ 35 ≤ z → A1[z]? = A[z]? := fun z hz => a3.kp (Or.inl rfl) hz
  have hcv1 : CV A1 X := g.cq.hF (Or.inl rfl) a3
  have hd : X.2.1.dropLast.length = m - 1 := by rw [List.length_dropLast, hmm]
  have hdl : ∀ i z, X.2.1.dropLast[i]? = some z → X.2.1[i]? = some z := fun i z hz => by
    rw [List.getElem?_dropLast] at hz
    split at hz
    · exact hz
    · cases hz
  have hp1 : HP A1 pl X.2.1.dropLast Lo X.2.2.1 n := by
    refine ⟨⟨hD.1, fun i z hi hz => ?_⟩, ⟨?_, ⟨k, a2.2.1, g1⟩, ⟨f, a2.2.2, fun i z hz => g2 i z (hdl i z hz)⟩, by omega, fun i z hz => ?_⟩, h2.eq (by omega) hD (fun z z1 z2 => a3.2 z (by omega)) (fun z z1 _ => kp1 z (by omega)), ?_, ?_⟩
    · obtain ⟨x, y⟩ := hD.2 i z hi hz
      exact ⟨x, y.eq (fun z z1 _ => kp1 z (by omega))⟩
    · rw [hd]; exact a2.1
    · obtain ⟨p', p3, p4⟩ := h1.2.2.2.2 i z (hdl i z hz)
      have hi := (List.getElem?_eq_some_iff.mp (hdl i z hz)).1
      have := (hD.2 _ p' (by omega) p3).1
      exact ⟨p', p3, p4.eq (fun z z1 _ => kp1 z (by omega))⟩
    · obtain ⟨k', k1, k2⟩ := h3
      refine ⟨k', (kp1 35 (by omega)).trans k1, fun j hj => ⟨(k2 j hj).1, fun K hK => ?_⟩⟩
      obtain ⟨z, z1, z2, z3, z4, z5⟩ := (k2 j hj).2 K hK
      exact ⟨z, z1, z2, z3, (kp1 z (by omega)).trans z4, z5.eq (fun z z1 _ => kp1 z (by omega)) (fun z z1 _ => kp1 z (by omega)) (fun z z1 _ => kp1 z (by omega)) (fun z z1 _ => kp1 z (by omega))⟩
    · exact ⟨by rw [a3.1]; exact h4.1, fun z c hz hc => h4.2.1 z c hz (by rw [← kp1 z (by omega)]; exact hc), fun z z1 z2 => (kp1 z (by omega)).trans (h4.2.2 z z1 z2)⟩
  obtain ⟨s, hS, hRS⟩ := hcv1.2.2.1.1
  obtain ⟨u, hu, hu5, hut, htx⟩ := hcv1.2.2.1.2.1
  obtain ⟨sp, hsp, hrsp⟩ := p2.eq (A' := A1) (fun z z1 _ => kp1 z (by omega))
  obtain ⟨A2, s2, c1, c2, c3, c4⟩ := c_copyFrom (E := E) (d := d) hS hsp (by omega) hrsp
  have kp2 : ∀ z, z < 1 ∨ 8 ≤ z → A2[z]? = A1[z]? := fun z hz => c4.2 z (fun w => by unfold inS at w; omega)
  have hcv2 : CV A2 (XS X q.1) := hcv1.op c4.toSR1 ⟨s2, c2, c3⟩ ⟨u, hu.sS (by omega) (fun i t hi ht => by have := hut i t hi ht; omega) c4, hu5, hut, htx.sr (r := 22) c4.toSR1 (by omega) (by omega)⟩
  have hp2 : HP A2 pl X.2.1.dropLast Lo X.2.2.1 n := hp1.eq c4.1 (fun z z1 z2 => kp2 z (by omega)) (fun z z1 => kp2 z (by omega))
  have b0 : A2[29]? = some (.inr (0, [.ref 30, .ref 31, oV (pl (0 + 16)), .int (nI (m - 1))])) := (kp2 29 (by omega)).trans a2.1
  have b2 : A2[31]? = some (ia 16 f) := (kp2 31 (by omega)).trans a2.2.2
  refine ⟨A2, ?_, hcv2.1, hcv2.2.1, hcv2.2.2.1, ⟨pl, hp2⟩, hcv2.2.2.2⟩
  rw [k6 _ _ _ _ _ (h_cls gr.1), h_gI gr.1 rfl, Option.bind_some, if_neg (show ¬ nI m = 0 from nI_ne0 (by omega) (by omega)), h_gN gr.1 rfl, Option.bind_some, Option.bind_some, show (1 : Int32) = nI 1 from rfl, pk_sub (by omega), h_aR gr.2.1 (by omega) (by omega), Option.bind_some, hk]
  dsimp only
  rw [Option.bind_some, pk_sub (by omega), a1, Option.bind_some, h_gN a2.1 rfl, Option.bind_some, h_gI a2.1 rfl, Option.bind_some, h_aR a2.2.1 (by omega) (by omega), Option.bind_some, hk]
  dsimp only
  rw [c1, xV_s, Option.bind_some, h_gN b0 rfl, Option.bind_some, h_gI b0 rfl, Option.bind_some, h_aI b2 (by omega) (by omega), Option.bind_some, g2 _ _ hl]
theorem c_undo (g : CIo A X Lo n) (hX : XI X) : ∃ A', xC E (d + 4) 118 [.ref 0] A = some (some (.int (aUndo X).1), A') ∧ CIo A' (aUndo X).2 Lo n := by
  rw [k118 _ _ _ _ g.cls, g.g5, Option.bind_some, g.g0, Option.bind_some]
  unfold aUndo
  cases hl : X.2.1.getLast? with
  | none =>
    obtain ⟨A1, r1, r2, -⟩ := c_refuse (E := E) (d := d + 2) (c := 3) (x := -3) g (by omega) (by decide) (by decide)
    rw [c_takeBack0 g hl, xI_s, Option.bind_some]
    dsimp only
    rw [if_pos rfl, r1, xI_s, Option.bind_some]
    exact ⟨A1, rfl, r2⟩
  | some q =>
    obtain ⟨A1, a1, a2⟩ := c_takeBack (E := E) (d := d) g hl
    obtain ⟨A2, b1, b2, -⟩ := c_grant (E := E) (d := d + 2) (x := nI q.2) a2
    have hq := (hX.2.2.1 q (List.mem_of_getLast? hl)).2
    rw [a1, xI_s, Option.bind_some]
    dsimp only
    rw [if_neg (n_ng1 (by omega)), b1, xI_s, Option.bind_some]
    exact ⟨A2, rfl, b2⟩
end CUNDO
