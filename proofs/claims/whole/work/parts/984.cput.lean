/-! ===== the class: acts ===== -/
/-- an act on a store: its answer, the store after it -/
noncomputable def bA (R : Ru) (k : Nat) (x y : Int32) (S : St) : Int32 × St := if k = 0 then (if (x < 0 ∨ nI 1000 ≤ x) ∨ y < 0 ∨ nI 100 ≤ y then (-1, S) else putS R x.toNatClampNeg y.toNatClampNeg S) else if k = 1 then (if x < 0 ∨ nI 1000 ≤ x then (-1, S) else dropS R x.toNatClampNeg S) else if k = 2 then (if x < 0 then (-1, S) else if nI (S.2.2.1.length + 1) ≤ x then (-3, S) else (nI (S.2.2.1.length - x.toNatClampNeg), eldN x.toNatClampNeg S)) else (if x < 0 then (-1, S) else if nI (S.2.2.1.length + 1) ≤ x then (-3, S) else (nI (keysN (lsS R.2.2.2 x.toNatClampNeg S).1), lsS R.2.2.2 x.toNatClampNeg S))
noncomputable def bX (X : Xs) (k : Nat) (x y : Int32) : Int32 × Xs := ((bA X.1.2.1 k x y X.1.1).1, if (bA X.1.2.1 k x y X.1.1).1 < 0 then X else Xact X (bA X.1.2.1 k x y X.1.1).2 k)
theorem bX_put {X : Xs} {x y : Int32} : bX X 0 x y = aPut X x y := by
  unfold bX bA aPut
  rw [if_pos rfl]
  by_cases e : (x < 0 ∨ nI 1000 ≤ x) ∨ y < 0 ∨ nI 100 ≤ y
  · rw [if_pos e, if_pos e, if_pos (show (-1 : Int32) < 0 by decide)]
  · rw [if_neg e, if_neg e]
    split <;> rfl
theorem bX_drop {X : Xs} {x y : Int32} : bX X 1 x y = aDrop X x := by
  unfold bX bA aDrop
  rw [if_neg (by omega), if_pos rfl]
  by_cases e : x < 0 ∨ nI 1000 ≤ x
  · rw [if_pos e, if_pos e, if_pos (show (-1 : Int32) < 0 by decide)]
  · rw [if_neg e, if_neg e]
    split <;> rfl
theorem bX_flush {X : Xs} {x y : Int32} (hl : X.1.1.2.2.1.length ≤ 40) : bX X 2 x y = aFlush X x := by
  unfold bX bA aFlush
  rw [if_neg (by omega), if_neg (by omega), if_pos rfl]
  by_cases e : x < 0
  · rw [if_pos e, if_pos e, if_pos (show (-1 : Int32) < 0 by decide)]
  · rw [if_neg e, if_neg e]
    by_cases e2 : nI (X.1.1.2.2.1.length + 1) ≤ x
    · rw [if_pos e2, if_pos e2, if_pos (show (-3 : Int32) < 0 by decide)]
    · rw [if_neg e2, if_neg e2, if_neg (show ¬ nI (X.1.1.2.2.1.length - x.toNatClampNeg) < 0 from nI_pos (by omega))]
theorem bX_crash {X : Xs} {x y : Int32} (hX : XI X) : bX X 3 x y = aCrash X x := by
  unfold bX bA aCrash
  rw [if_neg (by omega), if_neg (by omega), if_neg (by omega)]
  by_cases e : x < 0
  · rw [if_pos e, if_pos e, if_pos (show (-1 : Int32) < 0 by decide)]
  · rw [if_neg e, if_neg e]
    by_cases e2 : nI (X.1.1.2.2.1.length + 1) ≤ x
    · rw [if_pos e2, if_pos e2, if_pos (show (-3 : Int32) < 0 by decide)]
    · have := keysN_le (SI_ls (t := X.1.2.1.2.2.2) x.toNatClampNeg hX.1.1).1.1
      rw [if_neg e2, if_neg e2, if_neg (show ¬ nI (keysN (lsS X.1.2.1.2.2.2 x.toNatClampNeg X.1.1).1) < 0 from nI_pos (by omega))]
section CPUT
variable {E : Nat × (Nat → Int32)} {d : Nat} {A A' : xH} {X : Xs} {L Lo : List (St × Nat)} {I : Nat → Option Kp} {n : NM} {pl : Nat → Option Nat} {h b : Nat}
theorem CV.cls (g : CV A X) : xcls A 0 = some 8 := h_cls g.2.1
theorem CV.g0 (g : CV A X) : gN A 0 8 0 = some 1 := h_gN g.2.1 rfl
theorem CV.g3 (g : CV A X) : gN A 0 8 3 = some 22 := h_gN g.2.1 rfl
/-- the store and the rules' scratch have changed -/
theorem CV.op (g : CV A X) (hs : sm (inSR 1 22) A A') {S : St} (h1 : SC A' 1 S) (h2 : RC A' 22 X.1.2.1 X.1.2.2.1) : CV A' (XS X S) := by
  obtain ⟨a, b, c, f, ⟨⟨g1, g2, g3⟩, i1, i2, i3⟩, j⟩ := g
  have kp : ∀ q, (q < 1 ∨ 8 ≤ q) → q ≠ 24 → q ≠ 25 → A'[q]? = A[q]? := fun q q1 q2 q3 => hs.2 q (fun z => by unfold inSR inS inR at z; omega)
  exact ⟨by rw [hs.1]; exact a, (kp 0 (by omega) (by omega) (by omega)).trans b, ⟨h1, h2, c.2.2.eq (fun q q1 q2 => kp q (by omega) (by omega) (by omega))⟩, f.eq (fun q q1 q2 => kp q (by omega) (by omega) (by omega)), ⟨⟨g1, (kp 44 (by omega) (by omega) (by omega)).trans g2, g3⟩, i1, (kp 45 (by omega) (by omega) (by omega)).trans i2, i3⟩, j.eq (fun q q1 q2 => kp q (by omega) (by omega) (by omega)) (fun q q1 => kp q (by omega) (by omega) (by omega))⟩
theorem HP.eq (g : HP A pl L Lo I n) (hl : A'.length = A.length) (h1 : ∀ q, 29 ≤ q → q < 36 → A'[q]? = A[q]?) (h2 : ∀ q, 48 ≤ q → A'[q]? = A[q]?) : HP A' pl L Lo I n := by
  obtain ⟨hD, a, b, ⟨k, c1, c2⟩, e1, e2, e3⟩ := g
  refine ⟨⟨hD.1, fun i p hi hp => ?_⟩, a.eq (by omega) hD (fun q q1 q2 => h1 q (by omega) (by omega)) (fun q q1 _ => h2 q (by omega)), b.eq (by omega) hD (fun q q1 q2 => h1 q (by omega) (by omega)) (fun q q1 _ => h2 q (by omega)), ⟨k, (h1 35 (by omega) (by omega)).trans c1, fun j hj => ⟨(c2 j hj).1, fun K hK => ?_⟩⟩, by rw [hl]; exact e1, fun q c hq hc => e2 q c hq (by rw [← h2 q (by omega)]; exact hc), fun q q1 q2 => (h2 q q1).trans (e3 q q1 q2)⟩
  · obtain ⟨x, y⟩ := hD.2 i p hi hp
    exact ⟨x, y.eq (fun q q1 _ => h2 q (by omega))⟩
  · obtain ⟨p, p1, p2, p3, p4, p5⟩ := (c2 j hj).2 K hK
    exact ⟨p, p1, p2, p3, (h2 p (by omega)).trans p4, p5.eq (fun q q1 _ => h2 q (by omega)) (fun q q1 _ => h2 q (by omega)) (fun q q1 _ => h2 q (by omega)) (fun q q1 _ => h2 q (by omega))⟩
/-- one act on the store itself -/
theorem c_do (g : CV A X) (hX : XI X) (k : Nat) (hk : k < 4) (x y : Int32) : ∃ A', (if nI k = (0 : Int32) then xC E (d + 6) 48 [.ref 1, .int x, .int y, .ref 22] A else if nI k = (1 : Int32) then xC E (d + 6) 52 [.ref 1, .int x, .ref 22] A else if nI k = (2 : Int32) then xC E (d + 6) 60 [.ref 1, .int x] A else xC E (d + 6) 61 [.ref 1, .int x, .ref 22] A) = some (some (.int (bA X.1.2.1 k x y X.1.1).1), A') ∧ CV A' (XS X (bA X.1.2.1 k x y X.1.1).2) ∧ sm (inSR 1 22) A A' := by
  obtain ⟨s, hS, hRS⟩ := g.2.2.1.1
  obtain ⟨u, hu, hu5, hut, htx⟩ := g.2.2.1.2.1
  have hok := hX.1.1.1.1
  have ht := hX.1.1.1.2.2.2.2.1
  have hwl := hX.1.1.1.2.2.2.2.2.1
  have hsep : sepL u X.1.2.1.1 1 7 := fun i t hi ht => by have := hut i t hi ht; omega
  have same : CV A (XS X X.1.1) ∧ sm (inSR 1 22) A A := ⟨g, sm.refl _ _⟩
  unfold bA
  rcases (show k = 0 ∨ k = 1 ∨ k = 2 ∨ k = 3 by omega) with rfl | rfl | rfl | rfl
  · rw [if_pos (show nI 0 = (0 : Int32) from rfl), if_pos rfl]
    by_cases e : (x < 0 ∨ nI 1000 ≤ x) ∨ y < 0 ∨ nI 100 ≤ y
    · rw [if_pos e]
      refine ⟨A, ?_, same⟩
      exact c_placeKey_bad hS (e.imp id (fun z => z.imp id (fun z => Int32.lt_of_lt_of_le (by decide) z)))
    · rw [if_neg e]
      obtain ⟨a, ha, rfl⟩ := n_to (m := 999) (by omega) (fun z => e (Or.inl z))
      obtain ⟨v, hv, rfl⟩ := n_to (m := 99) (by omega) (fun z => e (Or.inr z))
      obtain ⟨A', s', c1, c2, c3, c4, c5⟩ := c_placeKey (E := E) (d := d) (k := a) (v := v) (by omega) hv (by omega) hsep hS hu hRS hok ht hX.deep
      rw [nI_clamp (by omega), nI_clamp (by omega)]
      exact ⟨A', c1, g.op c5 ⟨s', c2, c3⟩ ⟨u, c4, hu5, hut, htx.sr c5 (by omega) (by omega)⟩, c5⟩
  · rw [if_neg (show ¬ nI 1 = (0 : Int32) by decide), if_pos (show nI 1 = (1 : Int32) from rfl), if_neg (by omega), if_pos rfl]
    by_cases e : x < 0 ∨ nI 1000 ≤ x
    · rw [if_pos e]
      exact ⟨A, c_removeKey_bad hS e, same⟩
    · rw [if_neg e]
      obtain ⟨a, ha, rfl⟩ := n_to (m := 999) (by omega) e
      obtain ⟨A', s', c1, c2, c3, c4, c5⟩ := c_removeKey (E := E) (d := d) (k := a) (by omega) (by omega) hsep hS hu hRS hok ht
      rw [nI_clamp (by omega)]
      exact ⟨A', c1, g.op c5 ⟨s', c2, c3⟩ ⟨u, c4, hu5, hut, htx.sr c5 (by omega) (by omega)⟩, c5⟩
  · rw [if_neg (show ¬ nI 2 = (0 : Int32) by decide), if_neg (show ¬ nI 2 = (1 : Int32) by decide), if_pos (show nI 2 = (2 : Int32) from rfl), if_neg (by omega), if_neg (by omega), if_pos rfl]
    by_cases e : x < 0
    · rw [if_pos e, c_doWrites_no hS hRS (Or.inl e), if_pos e]
      exact ⟨A, rfl, same⟩
    · rw [if_neg e]
      by_cases e2 : nI (X.1.1.2.2.1.length + 1) ≤ x
      · rw [if_pos e2, c_doWrites_no hS hRS (Or.inr (Int32.lt_of_lt_of_le (nI_lt (by omega) (by omega)) e2)), if_neg e]
        exact ⟨A, rfl, same⟩
      · rw [if_neg e2]
        obtain ⟨m, hm, rfl⟩ := n_to (by omega) (fun z => z.elim e e2)
        obtain ⟨A', s', c1, c2, c3, c4⟩ := c_doWrites (E := E) (d := d + 3) hS hRS hm
        rw [nI_clamp (by omega)]
        exact ⟨A', c1, g.op c4.toSR1 ⟨s', c2, c3⟩ ⟨u, hu.sS (by omega) hsep c4, hu5, hut, htx.sr (r := 22) c4.toSR1 (by omega) (by omega)⟩, c4.toSR1⟩
  · rw [if_neg (show ¬ nI 3 = (0 : Int32) by decide), if_neg (show ¬ nI 3 = (1 : Int32) by decide), if_neg (show ¬ nI 3 = (2 : Int32) by decide), if_neg (by omega), if_neg (by omega), if_neg (by omega)]
    by_cases e : x < 0
    · rw [if_pos e, c_lose_bad hS hRS (Or.inl e), if_pos e]
      exact ⟨A, rfl, same⟩
    · rw [if_neg e]
      by_cases e2 : nI (X.1.1.2.2.1.length + 1) ≤ x
      · rw [if_pos e2, c_lose_bad hS hRS (Or.inr (Int32.lt_of_lt_of_le (nI_lt (by omega) (by omega)) e2)), if_neg e]
        exact ⟨A, rfl, same⟩
      · rw [if_neg e2]
        obtain ⟨m, hm, rfl⟩ := n_to (by omega) (fun z => z.elim e e2)
        obtain ⟨A', s', c1, c2, c3, c4, c5⟩ := c_lose (E := E) (d := d + 1) (m := m) (by omega) hsep hS hu hRS hX.1.1 hm
        rw [nI_clamp (by omega)]
        exact ⟨A', c1, g.op c5.toSR1 ⟨s', c2, c3⟩ ⟨u, c4, hu5, hut, htx.sr (r := 22) c5.toSR1 (by omega) (by omega)⟩, c5.toSR1⟩
theorem c_act0 (hb : hb2 h b) (hq : CV A X) (hp : HP A pl L Lo I n) (hX : XI X) {k : Nat} (hk : k < 4) (x y : Int32) : ∃ A2 pl2 p, CV A2 (XS X (bA X.1.2.1 k x y X.1.1).2) ∧ HP A2 pl2 L Lo I n ∧ pl2 (b + 16) = some p ∧ SC A2 p X.1.1 ∧ fro A A2 ∧ xC E (d + 7) 147 [.ref 0, .int (nI k), .int x, .int y, .ref h] A = (if (bA X.1.2.1 k x y X.1.1).1 < 0 then some (some (.int (bA X.1.2.1 k x y X.1.1).1), A2) else (xV (xC E (d + 6) 3 [.ref h, .int (nI k)] A2)).bind fun A6 => some (some (.int (bA X.1.2.1 k x y X.1.1).1), A6)) := by
  have hb' := id hb
  unfold hb2 at hb'
  obtain ⟨A1, pl1, p, c1, c2, c3, c4, c5, c6, c7⟩ := c_prepare (E := E) (d := d + 3) hb hq hp
  obtain ⟨A2, e1, e2, e3⟩ := c_do (E := E) (d := d) c2 hX k hk x y
  have h69 := (c3.1.2 (b + 16) p (by omega) c4).1
  have kp : ∀ q, (q < 1 ∨ 8 ≤ q) → q ≠ 24 → q ≠ 25 → A2[q]? = A1[q]? := fun q q1 q2 q3 => e3.2 q (fun z => by unfold inSR inS inR at z; omega)
  refine ⟨A2, pl1, p, e2, c3.eq e3.1 (fun q q1 q2 => kp q (by omega) (by omega) (by omega)) (fun q q1 => kp q (by omega) (by omega) (by omega)), c4, c5.eq (fun q q1 q2 => kp q (by omega) (by omega) (by omega)), fun q hq => (kp q (by omega) (by omega) (by omega)).trans (c7 q hq), ?_⟩
  rw [k147 _ _ _ _ _ _ _ _ hq.cls, hq.g0, Option.bind_some, c1, xV_s, Option.bind_some, c2.g0, c2.g3]
  simp only [Option.bind_some]
  by_cases z0 : nI k = (0 : Int32)
  · rw [if_pos z0] at e1 ⊢
    rw [e1, xI_s, Option.bind_some]
  · rw [if_neg z0] at e1 ⊢
    by_cases z1 : nI k = (1 : Int32)
    · rw [if_pos z1] at e1 ⊢
      rw [e1, xI_s, Option.bind_some]
    · rw [if_neg z1] at e1 ⊢
      by_cases z2 : nI k = (2 : Int32)
      · rw [if_pos z2] at e1 ⊢
        rw [e1, xI_s, Option.bind_some]
      · rw [if_neg z2] at e1 ⊢
        rw [e1, xI_s, Option.bind_some]
theorem bA_neg (hX : XI X) {k : Nat} {x y : Int32} (h : (bA X.1.2.1 k x y X.1.1).1 < 0) : (bA X.1.2.1 k x y X.1.1).2 = X.1.1 := by
  unfold bA at h ⊢
  split at h
  · rename_i e
    rw [if_pos e]
    split at h
    · rename_i e2; rw [if_pos e2]
    · rename_i e2
      rw [if_neg e2]
      rcases putS_R (R := X.1.2.1) (k := x.toNatClampNeg) (v := y.toNatClampNeg) hX.1.1.1.1 with z | ⟨m, hm, z⟩
      · exact z.2
      · rw [z] at h; exact absurd h (nI_pos hm)
  · rename_i e
    rw [if_neg e]
    split at h
    · rename_i e1
      rw [if_pos e1]
      split at h
      · rename_i e2; rw [if_pos e2]
      · rename_i e2
        rw [if_neg e2]
        rcases dropS_R (R := X.1.2.1) (k := x.toNatClampNeg) (S := X.1.1) with z | ⟨m, hm, z⟩
        · exact z.2
        · rw [z] at h; exact absurd h (nI_pos hm)
    · rename_i e1
      have hwl := hX.1.1.1.2.2.2.2.2.1
      have hkl := keysN_le (SI_ls (t := X.1.2.1.2.2.2) x.toNatClampNeg hX.1.1).1.1
      rw [if_neg e1]
      split at h
      · rename_i e2
        rw [if_pos e2]
        split at h
        · rename_i e3; rw [if_pos e3]
        · rename_i e3
          rw [if_neg e3]
          split at h
          · rename_i e4; rw [if_pos e4]
          · exact absurd h (nI_pos (by omega))
      · rename_i e2
        rw [if_neg e2]
        split at h
        · rename_i e3; rw [if_pos e3]
        · rename_i e3
          rw [if_neg e3]
          split at h
          · rename_i e4; rw [if_pos e4]
          · exact absurd h (nI_pos (by omega))
/-- an act, kept in the history -/
theorem c_act29 (g : CIo A X Lo n) (hX : XI X) {k : Nat} (hk : k < 4) (x y : Int32) : ∃ A', xC E (d + 7) 147 [.ref 0, .int (nI k), .int x, .int y, .ref 29] A = some (some (.int (bX X k x y).1), A') ∧ CIo A' (bX X k x y).2 Lo n := by
  obtain ⟨pl, hp⟩ := g.2.2.2.1
  obtain ⟨A2, pl2, p, c1, c2, c3, c4, -, c5⟩ := c_act0 (E := E) (d := d) (h := 29) (b := 0) (Or.inl ⟨rfl, rfl⟩) g.cq hp hX hk x y
  unfold bX
  by_cases e : (bA X.1.2.1 k x y X.1.1).1 < 0
  · rw [if_pos e] at c5 ⊢
    rw [bA_neg hX e] at c1
    exact ⟨A2, c5, c1.mk (pl := pl2) c2⟩
  · rw [if_neg e] at c5 ⊢
    obtain ⟨A3, pl3, e1, e2, e3⟩ := c_commit29 (E := E) (d := d + 4) (kd := k) c1 c2 c3 c4
    refine ⟨A3, by rw [c5, e1, xV_s, Option.bind_some], ?_⟩
    exact ⟨e2.1, e2.2.1, e2.2.2.1, ⟨pl3, e3⟩, e2.2.2.2⟩
/-- an act, kept in the orders' history -/
theorem c_act32 (g : CIo A X Lo n) (hX : XI X) {k : Nat} (hk : k < 4) (x y : Int32) : ∃ A', xC E (d + 7) 147 [.ref 0, .int (nI k), .int x, .int y, .ref 32] A = some (some (.int (bA X.1.2.1 k x y X.1.1).1), A') ∧ (((bA X.1.2.1 k x y X.1.1).1 < 0 ∧ CIo A' X Lo n) ∨ (¬ (bA X.1.2.1 k x y X.1.1).1 < 0 ∧ CIo A' (XS X (bA X.1.2.1 k x y X.1.1).2) (kph Lo (X.1.1, k)) n)) ∧ fro A A' := by
  obtain ⟨pl, hp⟩ := g.2.2.2.1
  obtain ⟨A2, pl2, p, c1, c2, c3, c4, c6, c5⟩ := c_act0 (E := E) (d := d) (h := 32) (b := 17) (Or.inr ⟨rfl, rfl⟩) g.cq hp hX hk x y
  by_cases e : (bA X.1.2.1 k x y X.1.1).1 < 0
  · rw [if_pos e] at c5
    rw [bA_neg hX e] at c1
    exact ⟨A2, c5, Or.inl ⟨e, c1.mk (pl := pl2) c2⟩, c6⟩
  · rw [if_neg e] at c5
    obtain ⟨A3, pl3, e1, e2, e3, e4⟩ := c_commit32 (E := E) (d := d + 4) (kd := k) c1 c2 c3 c4
    exact ⟨A3, by rw [c5, e1, xV_s, Option.bind_some], Or.inr ⟨e, e2.1, e2.2.1, e2.2.2.1, ⟨pl3, e3⟩, e2.2.2.2⟩, c6.tr e4⟩
theorem c_put (g : CIo A X Lo n) (hX : XI X) (x y : Int32) : ∃ A', xC E (d + 8) 114 [.ref 0, .int x, .int y] A = some (some (.int (aAns (aPut X x y)).1), A') ∧ CIo A' (aAns (aPut X x y)).2 Lo n := by
  obtain ⟨A1, a1, a2⟩ := c_act29 (E := E) (d := d) (k := 0) g hX (by omega) x y
  rw [bX_put] at a1 a2
  obtain ⟨A2, b1, b2⟩ := c_answer (E := E) (d := d + 5) a2 (aPut_R hX).1
  refine ⟨A2, ?_, b2⟩
  rw [k114 _ _ _ _ _ _ g.cls, g.g5, Option.bind_some, show (0 : Int32) = nI 0 from rfl, a1, xI_s, Option.bind_some]
  dsimp only
  rw [b1, xI_s, Option.bind_some]
theorem c_drop (g : CIo A X Lo n) (hX : XI X) (x : Int32) : ∃ A', xC E (d + 8) 115 [.ref 0, .int x] A = some (some (.int (aAns (aDrop X x)).1), A') ∧ CIo A' (aAns (aDrop X x)).2 Lo n := by
  obtain ⟨A1, a1, a2⟩ := c_act29 (E := E) (d := d) (k := 1) g hX (by omega) x (nI 0)
  rw [bX_drop] at a1 a2
  obtain ⟨A2, b1, b2⟩ := c_answer (E := E) (d := d + 5) a2 (aDrop_R hX).1
  refine ⟨A2, ?_, b2⟩
  rw [k115 _ _ _ _ _ g.cls, g.g5, Option.bind_some, show (1 : Int32) = nI 1 from rfl, show (0 : Int32) = nI 0 from rfl, a1, xI_s, Option.bind_some]
  dsimp only
  rw [b1, xI_s, Option.bind_some]
theorem c_flush (g : CIo A X Lo n) (hX : XI X) (x : Int32) : ∃ A', xC E (d + 8) 116 [.ref 0, .int x] A = some (some (.int (aAns (aFlush X x)).1), A') ∧ CIo A' (aAns (aFlush X x)).2 Lo n := by
  obtain ⟨A1, a1, a2⟩ := c_act29 (E := E) (d := d) (k := 2) g hX (by omega) x (nI 0)
  rw [bX_flush hX.1.1.1.2.2.2.2.2.1] at a1 a2
  obtain ⟨A2, b1, b2⟩ := c_answer (E := E) (d := d + 5) a2 (aFlush_R hX).1
  refine ⟨A2, ?_, b2⟩
  rw [k116 _ _ _ _ _ g.cls, g.g5, Option.bind_some, show (2 : Int32) = nI 2 from rfl, show (0 : Int32) = nI 0 from rfl, a1, xI_s, Option.bind_some]
  dsimp only
  rw [b1, xI_s, Option.bind_some]
theorem c_crash (g : CIo A X Lo n) (hX : XI X) (x : Int32) : ∃ A', xC E (d + 8) 117 [.ref 0, .int x] A = some (some (.int (aAns (aCrash X x)).1), A') ∧ CIo A' (aAns (aCrash X x)).2 Lo n := by
  obtain ⟨A1, a1, a2⟩ := c_act29 (E := E) (d := d) (k := 3) g hX (by omega) x (nI 0)
  rw [bX_crash hX] at a1 a2
  obtain ⟨A2, b1, b2⟩ := c_answer (E := E) (d := d + 5) a2 (aCrash_R hX).1
  refine ⟨A2, ?_, b2⟩
  rw [k117 _ _ _ _ _ g.cls, g.g5, Option.bind_some, show (3 : Int32) = nI 3 from rfl, show (0 : Int32) = nI 0 from rfl, a1, xI_s, Option.bind_some]
  dsimp only
  rw [b1, xI_s, Option.bind_some]
end CPUT
