/-! ===== the class: what can be undone ===== -/
/-- all but histories and images -/
def CV (A : xH) (X : Xs) : Prop := 69 ≤ A.length ∧ TB0 A X.2.2.2.2.1 ∧ KC A 1 22 26 X.1 ∧ TPC A X.2.2.2.1 ∧ ((∃ f, A[44]? = some (ia 7 f) ∧ ∀ i, i < 7 → f i = X.2.2.2.2.2.1 i) ∧ ∃ f, A[45]? = some (ia 40 f) ∧ ∀ i, i < 40 → f i = X.2.2.2.2.2.2 i) ∧ WK A
/-- histories, images, by their places -/
def HP (A : xH) (pl : Nat → Option Nat) (L Lo : List (St × Nat)) (I : Nat → Option Kp) (n : NM) : Prop := DP A pl ∧ HS A 29 0 pl L ∧ HS A 32 17 pl Lo ∧ IMC A pl I ∧ RM A pl n
theorem CIo.cq {A : xH} {X : Xs} {Lo : List (St × Nat)} {n : NM} (h : CIo A X Lo n) : CV A X := ⟨h.1, h.2.1, h.2.2.1, h.2.2.2.2⟩
theorem CV.mk {A : xH} {X : Xs} {Lo : List (St × Nat)} {n : NM} {pl : Nat → Option Nat} (h : CV A X) (g : HP A pl X.2.1 Lo X.2.2.1 n) : CIo A X Lo n := ⟨h.1, h.2.1, h.2.2.1, ⟨pl, g⟩, h.2.2.2⟩
/-- a history's places: its object, where its rows begin -/
def hb2 (h b : Nat) : Prop := (h = 29 ∧ b = 0) ∨ (h = 32 ∧ b = 17)
section CHIST
variable {E : Nat × (Nat → Int32)} {d : Nat} {A A' : xH} {X : Xs} {L Lo : List (St × Nat)} {I : Nat → Option Kp} {n : NM} {pl : Nat → Option Nat} {h b : Nat}
theorem CV.gr (g : CV A X) (hl : A.length ≤ A'.length) (h1 : ∀ q, q < A.length → ¬ (29 ≤ q ∧ q < 36) → A'[q]? = A[q]?) : CV A' X := by
  obtain ⟨a, b, c, f, ⟨⟨g1, g2, g3⟩, i1, i2, i3⟩, j⟩ := g
  have kp : ∀ q, q < 69 → ¬ (29 ≤ q ∧ q < 36) → A'[q]? = A[q]? := fun q q1 q2 => h1 q (by omega) q2
  exact ⟨by omega, (kp 0 (by omega) (by omega)).trans b, c.eq (fun q q1 q2 => kp q (by omega) (by omega)) (fun q q1 q2 => kp q (by omega) (by omega)) (fun q q1 q2 => kp q (by omega) (by omega)) (fun q q1 q2 => h1 q q2 (by omega)), f.eq (fun q q1 q2 => kp q (by omega) (by omega)), ⟨⟨g1, (kp 44 (by omega) (by omega)).trans g2, g3⟩, i1, (kp 45 (by omega) (by omega)).trans i2, i3⟩, j.eq (fun q q1 q2 => kp q (by omega) (by omega)) (fun q q1 => kp q (by omega) (by omega))⟩
theorem CV.st (g : CV A X) {p : Nat} (hp : SX A p) (h69 : 69 ≤ p) (hs : sm (inS p) A A') : CV A' X := by
  obtain ⟨a, b, c, f, ⟨⟨g1, g2, g3⟩, i1, i2, i3⟩, j⟩ := g
  have kp : ∀ q, q < 69 → A'[q]? = A[q]? := fun q q1 => hs.2 q (fun z => by unfold inS at z; omega)
  exact ⟨by rw [hs.1]; exact a, (kp 0 (by omega)).trans b, c.st hp (by omega) hs, f.eq (fun q q1 q2 => kp q (by omega)), ⟨⟨g1, (kp 44 (by omega)).trans g2, g3⟩, i1, (kp 45 (by omega)).trans i2, i3⟩, j.eq (fun q q1 q2 => kp q (by omega)) (fun q q1 => kp q (by omega))⟩
/-- a spare row is written -/
theorem HP.st (g : HP A pl L Lo I n) {i p : Nat} (hi : i = 16 ∨ i = 33) (hpl : pl i = some p) (hs : sm (inS p) A A') (hx : SX A' p) : HP A' pl L Lo I n := by
  obtain ⟨hD, hS1, hS2, ⟨k, c1, c2⟩, e1, e2, e3⟩ := g
  obtain ⟨h69, hp⟩ := hD.2 i p (by omega) hpl
  have ne : ∀ j p', j < 36 → j ≠ i → pl j = some p' → p ≠ p' := fun j p' hj hne hj2 z => hne (hD.1 j i p hj (by omega) (by rw [z]; exact hj2) hpl)
  have kp : ∀ q, q < 69 → A'[q]? = A[q]? := fun q q1 => hs.2 q (fun z => by unfold inS at z; omega)
  have row : ∀ h' b' L', hb2 h' b' → HS A h' b' pl L' → HS A' h' b' pl L' := by
    intro h' b' L' hb hh
    obtain ⟨a, ⟨k, b1, b2⟩, ⟨f, d1, d2⟩, e, gg⟩ := hh
    unfold hb2 at hb
    refine ⟨(kp _ (by omega)).trans a, ⟨k, (kp _ (by omega)).trans b1, b2⟩, ⟨f, (kp _ (by omega)).trans d1, d2⟩, e, fun i' q hq => ?_⟩
    obtain ⟨p', p1, p2⟩ := gg i' q hq
    have hil : i' < L'.length := (List.getElem?_eq_some_iff.mp hq).1
    exact ⟨p', p1, p2.st hp (ne (b' + i') p' (by omega) (by omega) p1) hs⟩
  refine ⟨⟨hD.1, fun j p' hj hj2 => ?_⟩, row 29 0 L (Or.inl ⟨rfl, rfl⟩) hS1, row 32 17 Lo (Or.inr ⟨rfl, rfl⟩) hS2, ⟨k, (kp 35 (by omega)).trans c1, fun j hj => ⟨(c2 j hj).1, fun K hK => ?_⟩⟩, by rw [hs.1]; exact e1, fun q c hq hc => ?_, fun q q1 q2 => (kp q q2).trans (e3 q q1 q2)⟩
  · obtain ⟨x, y⟩ := hD.2 j p' hj hj2
    by_cases e : j = i
    · subst e
      rw [hpl] at hj2
      cases hj2
      exact ⟨x, hx⟩
    · exact ⟨x, y.st hp (ne j p' hj e hj2) hs⟩
  · obtain ⟨p', p1, p2, p3, p4, p5⟩ := (c2 j hj).2 K hK
    have ha := hp.apart ⟨_, p4⟩ (m := 1) (by omega) (by omega) (fun j j1 j2 => by omega)
    exact ⟨p', p1, p2, p3, (hs.2 p' (fun z => by unfold inS at z; omega)).trans p4, p5.st hp (ne (34 + j) (p' + 1) (by omega) (by omega) p2) hs⟩
  · by_cases z : p ≤ q ∧ q < p + 7
    · exact hx.sz z.1 z.2 hc
    · exact e2 q c hq (by rw [← hs.2 q z]; exact hc)
theorem SC.gr {a : Nat} {S : St} (g : SC A a S) (h69 : 69 ≤ a) (h1 : ∀ q, 69 ≤ q → q < A.length → A'[q]? = A[q]?) : SC A' a S := by
  have := g.x.len
  exact g.eq (fun q q1 q2 => h1 q (by omega) (by omega))
theorem SX.gr {a : Nat} (g : SX A a) (h69 : 69 ≤ a) (h1 : ∀ q, 69 ≤ q → q < A.length → A'[q]? = A[q]?) : SX A' a := by
  have := g.len
  exact g.eq (fun q q1 q2 => h1 q (by omega) (by omega))
theorem KC.gr {a r g : Nat} {K : Kp} (hk : KC A a r g K) (ha : 69 ≤ a) (hr : 69 ≤ r) (hg : 69 ≤ g) (h1 : ∀ q, 69 ≤ q → q < A.length → A'[q]? = A[q]?) : KC A' a r g K := by
  have l1 := hk.1.x.len
  have l3 := hk.2.2.len
  have l2 : r + 4 ≤ A.length := by
    obtain ⟨u, ⟨⟨a0, a1, a2, t, a3⟩, -⟩, -⟩ := hk.2.1
    have := (List.getElem?_eq_some_iff.mp a3).1
    omega
  exact hk.eq (fun q q1 q2 => h1 q (by omega) (by omega)) (fun q q1 q2 => h1 q (by omega) (by omega)) (fun q q1 q2 => h1 q (by omega) (by omega)) h1
/-- a history's spare row is made -/
theorem HP.nw (g : HP A pl L Lo I n) (hb : hb2 h b) (h69 : 69 ≤ A.length) (hpl : pl (b + 16) = none) (hl : A'.length = A.length + 7) (h1 : ∀ q, q < A.length → q ≠ h → A'[q]? = A[q]?) (hx : SX A' A.length) (h0 : ∃ m, A[h]? = some (.inr (0, [.ref (h + 1), .ref (h + 2), .null, .int m])) ∧ A'[h]? = some (.inr (0, [.ref (h + 1), .ref (h + 2), .ref A.length, .int m]))) : HP A' (fun i => if i = b + 16 then some A.length else pl i) L Lo I n := by
  obtain ⟨hD, hS1, hS2, ⟨k, c1, c2⟩, e1, e2, e3⟩ := g
  have hb' := id hb
  unfold hb2 at hb'
  have kp : ∀ q, 69 ≤ q → q < A.length → A'[q]? = A[q]? := fun q q1 q2 => h1 q q2 (by omega)
  have row : ∀ h' b' L', hb2 h' b' → HS A h' b' pl L' → HS A' h' b' (fun i => if i = b + 16 then some A.length else pl i) L' := by
    intro h' b' L' hb2' hh
    obtain ⟨a, ⟨k, b1, b2⟩, ⟨f, d1, d2⟩, e, gg⟩ := hh
    unfold hb2 at hb2'
    refine ⟨?_, ⟨k, (h1 _ (by omega) (by omega)).trans b1, fun i hi => ?_⟩, ⟨f, (h1 _ (by omega) (by omega)).trans d1, d2⟩, e, fun i' q hq => ?_⟩
    · by_cases z : h' = h
      · have zb : b' = b := by omega
        subst z; subst zb
        obtain ⟨m, m1, m2⟩ := h0
        rw [a, hpl] at m1
        have hm : Value.int (nI L'.length) = .int m := by
          simp only [Option.some.injEq, Sum.inr.injEq, Prod.mk.injEq, List.cons.injEq] at m1
          exact m1.2.2.2.2.1
        dsimp only
        rw [m2, if_pos rfl, hm]; rfl
      · dsimp only
        rw [h1 _ (by omega) z, a, if_neg (by omega)]
    · dsimp only
      rw [if_neg (by omega)]; exact b2 i hi
    · obtain ⟨p', p1, p2⟩ := gg i' q hq
      have hil : i' < L'.length := (List.getElem?_eq_some_iff.mp hq).1
      refine ⟨p', ?_, p2.gr (hD.2 _ _ (by omega) p1).1 kp⟩
      dsimp only
      rw [if_neg (by omega)]; exact p1
  have lt : ∀ i p, i < 36 → pl i = some p → p < A.length := fun i p hi hp => by
    have := (hD.2 i p hi hp).2.len
    omega
  refine ⟨⟨fun i j p hi hj hi2 hj2 => ?_, fun i p hi hp => ?_⟩, row 29 0 L (Or.inl ⟨rfl, rfl⟩) hS1, row 32 17 Lo (Or.inr ⟨rfl, rfl⟩) hS2, ⟨k, (h1 35 (by omega) (by omega)).trans c1, fun j hj => ⟨fun hn => ⟨((c2 j hj).1 hn).1, ?_⟩, fun K hK => ?_⟩⟩, ?_, fun q c hq hc => ?_, fun q q1 q2 => (h1 q (by omega) (by omega)).trans (e3 q q1 q2)⟩
  · dsimp only at hi2 hj2
    split at hi2
    · cases hi2
      split at hj2
      · omega
      · have := lt j _ hj hj2; omega
    · split at hj2
      · cases hj2
        have := lt i _ hi hi2; omega
      · exact hD.1 i j p hi hj hi2 hj2
  · dsimp only at hp
    split at hp
    · cases hp; exact ⟨h69, hx⟩
    · obtain ⟨x, y⟩ := hD.2 i p hi hp
      exact ⟨x, y.gr x kp⟩
  · dsimp only
    rw [if_neg (by omega)]; exact ((c2 j hj).1 hn).2
  · obtain ⟨p', p1, p2, p3, p4, p5⟩ := (c2 j hj).2 K hK
    have hp' : p' < A.length := (List.getElem?_eq_some_iff.mp p4).1
    refine ⟨p', p1, ?_, p3, (kp p' p3 hp').trans p4, p5.gr (by omega) (by omega) (by omega) kp⟩
    dsimp only
    rw [if_neg (by omega)]; exact p2
  · have hc := (cnt_upd (f := fun i => sO (pl i)) (g := fun i => sO (if i = b + 16 then some A.length else pl i)) (m := b + 16) (fun i hi => by rw [if_neg hi]) 34).1 (by omega)
    rw [hpl, if_pos rfl] at hc
    have s0 : sO none = 0 := rfl
    have s1 : sO (some A.length) = 1 := rfl
    rw [s0, s1] at hc
    dsimp only
    rw [hl, if_neg (show ¬ 34 = b + 16 by omega), if_neg (show ¬ 35 = b + 16 by omega)]
    omega
  · by_cases z : q < A.length
    · exact e2 q c hq (by rw [← kp q hq z]; exact hc)
    · have hq' := (List.getElem?_eq_some_iff.mp hc).1
      exact hx.sz (by omega) (by omega) hc
/-- cells that acts leave as they are: what was ahead of orders, the tape, the orders' words -/
def fro (A A' : xH) : Prop := ∀ q, ((15 ≤ q ∧ q < 22) ∨ (36 ≤ q ∧ q < 44)) → A'[q]? = A[q]?
theorem fro.tr {A B C : xH} (h : fro A B) (g : fro B C) : fro A C := fun q hq => (g q hq).trans (h q hq)
/-- the store is laid into the spare row -/
theorem c_prepare (hb : hb2 h b) (hq : CV A X) (hp : HP A pl L Lo I n) : ∃ A' pl' p, xC E (d + 3) 2 [.ref h, .ref 1] A = some (none, A') ∧ CV A' X ∧ HP A' pl' L Lo I n ∧ pl' (b + 16) = some p ∧ SC A' p X.1.1 ∧ A.length ≤ A'.length ∧ fro A A' := by
  have hb' := id hb
  unfold hb2 at hb'
  have h69 := hq.1
  have row : ∃ L', HS A h b pl L' := by
    rcases hb' with ⟨rfl, rfl⟩ | ⟨rfl, rfl⟩
    · exact ⟨L, hp.2.1⟩
    · exact ⟨Lo, hp.2.2.1⟩
  obtain ⟨L', hh⟩ := row
  have h0 := hh.1
  rw [k2 _ _ _ _ _ (h_cls h0)]
  -- with a spare row
  have go : ∀ (A : xH) (pl : Nat → Option Nat) (p : Nat), CV A X → HP A pl L Lo I n → pl (b + 16) = some p → ∃ A', xC E (d + 2) 42 [.ref p, .ref 1] A = some (none, A') ∧ CV A' X ∧ HP A' pl L Lo I n ∧ SC A' p X.1.1 ∧ A'.length = A.length ∧ fro A A' := by
    intro A pl p hq hp hpl
    obtain ⟨q69, s', hs'⟩ := hp.1.2 (b + 16) p (by omega) hpl
    obtain ⟨s, hS, hRS⟩ := hq.2.2.1.1
    obtain ⟨A1, s1, c1, c2, c3, c4⟩ := c_copyFrom (E := E) (d := d) hs' hS (by omega) hRS
    exact ⟨A1, c1, hq.st ⟨s', hs'⟩ q69 c4, hp.st (by omega) hpl c4 ⟨s1, c2⟩, ⟨s1, c2, c3⟩, c4.1, fun q hq => c4.2 q (fun z => by unfold inS at z; omega)⟩
  cases hpl : pl (b + 16) with
  | some p =>
    rw [hpl] at h0
    obtain ⟨A1, c1, c2, c3, c4, c5, c6⟩ := go A pl p hq hp hpl
    refine ⟨A1, pl, p, ?_, c2, c3, hpl, c4, by omega, c6⟩
    rw [h_gOs h0 rfl, Option.bind_some]
    dsimp only
    rw [Option.bind_some]
    dsimp only
    rw [c1, xV_s, Option.bind_some]
  | none =>
    rw [hpl] at h0
    have hlen : h < A.length := by omega
    have m1 : (A ++ nST A.length)[h]? = some (.inr (0, [.ref (h + 1), .ref (h + 2), .null, .int (nI L'.length)])) := by rw [List.getElem?_append_left hlen]; exact h0
    generalize hA2 : (A ++ nST A.length).set h (.inr (0, [.ref (h + 1), .ref (h + 2), .ref A.length, .int (nI L'.length)])) = A2
    have l2 : A2.length = A.length + 7 := by rw [← hA2, List.length_set, List.length_append]; rfl
    have k2' : ∀ q, q ≠ h → A2[q]? = (A ++ nST A.length)[q]? := fun q hq => by rw [← hA2]; exact List.getElem?_set_ne (fun z => hq z.symm)
    have k1' : ∀ q, q < A.length → q ≠ h → A2[q]? = A[q]? := fun q q1 q2 => by rw [k2' q q2, List.getElem?_append_left q1]
    have m2 : A2[h]? = some (.inr (0, [.ref (h + 1), .ref (h + 2), .ref A.length, .int (nI L'.length)])) := by rw [← hA2]; exact List.getElem?_set_self (by rw [List.length_append]; omega)
    have hx : SX A2 A.length := (nST_ST A).eq (fun q q1 q2 => k2' q (by omega))
    have hq2 : CV A2 X := hq.gr (by omega) (fun q q1 q2 => k1' q q1 (by omega))
    have hp2 := hp.nw (A' := A2) hb h69 hpl l2 k1' hx ⟨nI L'.length, h0, m2⟩
    obtain ⟨A3, c1, c2, c3, c4, c5, c6⟩ := go A2 _ A.length hq2 hp2 (if_pos rfl)
    refine ⟨A3, _, A.length, ?_, c2, c3, if_pos rfl, c4, by omega, fun q hq => (c6 q hq).trans (k1' q (by omega) (by omega))⟩
    rw [h_gOn h0 rfl, Option.bind_some]
    dsimp only
    rw [c_sinit, xV_s, Option.bind_some, h_pF m1 (show 2 < 4 by omega), Option.bind_some]
    rw [show ((A ++ nST A.length).set h (.inr (0, List.set [Value.ref (h + 1), .ref (h + 2), .null, .int (nI L'.length)] 2 (.ref A.length))) : xH) = A2 from hA2, h_gOs m2 rfl, Option.bind_some]
    dsimp only
    rw [c1, xV_s, Option.bind_some]
end CHIST
