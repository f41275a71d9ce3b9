/-! ===== the class: rules are copied whole; what an image's cells touch ===== -/
/-- an object of class ci at o, arrays behind it -/
def BK (A : xH) (o m ci : Nat) : Prop := (∃ fs, A[o]? = some (.inr (ci, fs))) ∧ ∀ j, 1 ≤ j → j < m → ∃ z, A[o + j]? = some (.inl z)
theorem BK.two {A : xH} {o m ci o' m' ci' : Nat} (h : BK A o m ci) (g : BK A o' m' ci') (hne : ci ≠ ci' ∨ o ≠ o') : o + m ≤ o' ∨ o' + m' ≤ o := by
  obtain ⟨⟨f, hf⟩, h2⟩ := h
  obtain ⟨⟨f', hf'⟩, g2⟩ := g
  by_cases e : o + m ≤ o' ∨ o' + m' ≤ o
  · exact e
  · exfalso
    by_cases e1 : o = o'
    · subst e1
      rw [hf] at hf'
      cases hf'
      exact hne.elim (fun z => z rfl) (fun z => z rfl)
    · by_cases e2 : o < o'
      · obtain ⟨z, hz⟩ := h2 (o' - o) (by omega) (by omega)
        rw [show o + (o' - o) = o' by omega, hf'] at hz
        cases hz
      · obtain ⟨z, hz⟩ := g2 (o - o') (by omega) (by omega)
        rw [show o' + (o - o') = o by omega, hf] at hz
        cases hz
theorem SX.bk {A : xH} {p o m ci : Nat} (h : SX A p) (g : BK A o m ci) (hc : ci ≠ 5) (hc2 : ci ≠ 2) : o + m ≤ p ∨ p + 7 ≤ o := h.apart g.1 hc hc2 g.2
theorem RU.bk {A : xH} {r : Nat} {u : xU} (g : RU A r u) : BK A r 4 3 := by
  obtain ⟨a0, a1, ⟨w, a2⟩, t, a3⟩ := g
  refine ⟨⟨_, a0⟩, fun j j1 j2 => ?_⟩
  rcases (show j = 1 ∨ j = 2 ∨ j = 3 by omega) with rfl | rfl | rfl
  · exact ⟨_, a1⟩
  · exact ⟨_, a2⟩
  · exact ⟨_, a3⟩
theorem SG.bk {A : xH} {g : Nat} {L : List (Nat × Nat)} (hg : SG A g L) : BK A g 3 4 := by
  obtain ⟨a0, f1, f2, a1, a2, -⟩ := hg
  refine ⟨⟨_, a0⟩, fun j j1 j2 => ?_⟩
  rcases (show j = 1 ∨ j = 2 by omega) with rfl | rfl
  · exact ⟨_, a1⟩
  · exact ⟨_, a2⟩
theorem TXT.bk {A : xH} {t : Nat} {code : List (Nat × Nat)} {cl : List (Nat → Nat)} {ask : List Nat} (g : TXT A t code cl ask) : BK A t 5 7 := by
  obtain ⟨n0, n1, n2, n3, f0, f1, f2, f3, a0, a1, a2, a3, a4, hr⟩ := g
  refine ⟨⟨_, a0⟩, fun j j1 j2 => ?_⟩
  rcases (show j = 1 ∨ j = 2 ∨ j = 3 ∨ j = 4 by omega) with rfl | rfl | rfl | rfl
  · exact ⟨_, a1⟩
  · exact ⟨_, a2⟩
  · exact ⟨_, a3⟩
  · exact ⟨_, a4⟩
theorem BK.one {A : xH} {o ci : Nat} {fs : List Value} (h : A[o]? = some (.inr (ci, fs))) : BK A o 1 ci := ⟨⟨_, h⟩, fun j j1 j2 => by omega⟩
theorem RC.gen {A A' : xH} {r : Nat} {R : Ru} {n : Nat} (h : RC A r R n) (h1 : ∀ q, r ≤ q → q < r + 4 → A'[q]? = A[q]?) (h2 : ∀ t m, BK A t m 7 → 1 ≤ m → 69 ≤ t → t + m ≤ A.length → ∀ q, t ≤ q → q < t + m → A'[q]? = A[q]?) : RC A' r R n := by
  obtain ⟨u, a, b, c, e⟩ := h
  refine ⟨u, a.eq (a.1.eq h1) (fun i t hi ht q q1 q2 => ?_), b, c, fun i t hi ht => ?_⟩
  · obtain ⟨-, t', b', c'⟩ := a.2.1.2.2 i R.1[i] (List.getElem?_eq_getElem hi)
    rw [ht] at b'
    cases b'
    have hl : t + 5 ≤ A.length := by
      obtain ⟨n0, n1, n2, n3, f0, f1, f2, f3, a0, a1, a2, a3, a4, hr⟩ := c'
      have := (List.getElem?_eq_some_iff.mp a4).1
      omega
    exact h2 t 5 c'.bk (by omega) (c i t hi ht) hl q q1 q2
  · obtain ⟨e1, fs, e2⟩ := e i t hi ht
    have hl := (List.getElem?_eq_some_iff.mp e2).1
    exact ⟨e1, fs, (h2 t 1 (BK.one e2) (by omega) e1 (by omega) t (by omega) (by omega)).trans e2⟩
section CIMAGE
variable {E : Nat × (Nat → Int32)} {d : Nat} {A A' : xH}
theorem c_rcopy {r r2 n : Nat} {u : xU} {R : Ru} (h : RU A r u) (h2 : RC A r2 R n) (hd : r + 4 ≤ r2 ∨ r2 + 4 ≤ r) : ∃ A', xC E (d + 1) 27 [.ref r, .ref r2] A = some (none, A') ∧ RC A' r R n ∧ sm (fun q => q = r ∨ q = r + 1) A A' := by
  obtain ⟨u2, a2, b2, c2, e2⟩ := h2
  have hne : r ≠ r2 := by omega
  have tne : ∀ j q, j < 6 → u2.1 j = some q → q ≠ r + 1 := fun j q hj hq z => by
    obtain ⟨-, fs, g⟩ := e2 j q hj hq
    rw [z, h.2.1] at g
    cases g
  obtain ⟨A1, k, g1, g2, g3, g4⟩ := c_rc2 (E := E) (d := d) hd 6 0 A u rfl h a2.1 (fun j hj => by
    cases hu : u2.1 j with
    | none => rfl
    | some q =>
      obtain ⟨-, fs, g⟩ := e2 j q hj hu
      unfold xelok
      dsimp only
      rw [h_cls g]; rfl) tne (fun j hj => by omega)
  have hl : r < A1.length := (List.getElem?_eq_some_iff.mp g2.1).1
  have r2' : RU A1 r2 u2 := a2.1.eq (fun q q1 q2 => g4.2 q (by omega))
  have o2 : ∀ c, (A1.set r c)[r2]? = A1[r2]? := fun c => List.getElem?_set_ne hne
  have pf : ∀ (fs : List Value) (k : Nat) (v : Value), k < fs.length → pF (A1.set r (.inr (3, fs))) r 3 k v = some (A1.set r (.inr (3, fs.set k v))) := fun fs k v hk => by
    rw [h_pF (List.getElem?_set_self hl) hk, List.set_set]
  have kp : ∀ q, q ≠ r → q ≠ r + 1 → (A1.set r (.inr (3, [Value.ref (r + 1), .ref (r + 2), .ref (r + 3), .int u2.2.1, .int u2.2.2.1, .int u2.2.2.2.1, .int u2.2.2.2.2.1, .int u2.2.2.2.2.2])))[q]? = A[q]? := fun q q1 q2 => by
    rw [List.getElem?_set_ne (fun z => q1 z.symm)]; exact g4.2 q q2
  have apt : ∀ t m, BK A t m 7 → t + m ≤ r ∨ r + 4 ≤ t := fun t m g => g.two h.bk (Or.inl (by omega))
  refine ⟨A1.set r (.inr (3, [.ref (r + 1), .ref (r + 2), .ref (r + 3), .int u2.2.1, .int u2.2.2.1, .int u2.2.2.2.1, .int u2.2.2.2.2.1, .int u2.2.2.2.2.2])), ?_, ⟨(k, u2.2), ⟨⟨List.getElem?_set_self hl, by rw [List.getElem?_set_ne (by omega)]; exact g2.2.1, by rw [List.getElem?_set_ne (by omega)]; exact g2.2.2.1, by rw [List.getElem?_set_ne (by omega)]; exact g2.2.2.2⟩, ⟨a2.2.1.1, a2.2.1.2.1, fun i L hi => ?_⟩, fun i t hi ht => ?_, a2.2.2.2⟩, b2, fun i t hi ht => ?_, fun i t hi ht => ?_⟩, ⟨by rw [List.length_set, g4.1], fun q hq => kp q (by omega) (by omega)⟩⟩
  · rw [k27 _ _ _ _ _ (h_cls h.1)]
    refine g1.trans ?_
    rw [e27_2, if_pos (show (6 : Int32) ≤ nI 6 by decide), r2'.g3, Option.bind_some, h_pF g2.1 (show 3 < 8 by omega), Option.bind_some]
    rw [h_gI ((o2 _).trans r2'.1) rfl, Option.bind_some, pf, Option.bind_some]
    rw [h_gI ((o2 _).trans r2'.1) rfl, Option.bind_some, pf, Option.bind_some]
    rw [h_gI ((o2 _).trans r2'.1) rfl, Option.bind_some, pf, Option.bind_some]
    rw [h_gI ((o2 _).trans r2'.1) rfl, Option.bind_some, pf, Option.bind_some]
    · rfl
    all_goals (simp only [List.length_set, List.length_cons, List.length_nil]; omega)
  · obtain ⟨z1, t, z2, z3⟩ := a2.2.1.2.2 i L hi
    have hi' : i < R.1.length := (List.getElem?_eq_some_iff.mp hi).1
    have h6 := a2.2.1.1
    have := apt t 5 z3.bk
    exact ⟨z1, t, (g3 i (by omega)).trans z2, z3.eq (fun q q1 q2 => kp q (by omega) (by omega))⟩
  · have h6 := a2.2.1.1
    obtain ⟨z1, t', z2, z3⟩ := a2.2.1.2.2 i R.1[i] (List.getElem?_eq_getElem hi)
    have ht' : u2.1 i = some t := (g3 i (by omega)).symm.trans ht
    rw [ht'] at z2
    cases z2
    exact apt t 5 z3.bk
  · have h6 := a2.2.1.1
    exact c2 i t hi ((g3 i (by omega)).symm.trans ht)
  · obtain ⟨z1, fs, z2⟩ := e2 i t hi ((g3 i hi).symm.trans ht)
    have := apt t 1 (BK.one z2)
    exact ⟨z1, fs, (kp t (by omega) (by omega)).trans z2⟩
/-! an image's cells p + 1 .. p + 14 -/
theorem w_bk {p o m ci : Nat} (hs : SX A (p + 1)) (hr : BK A (p + 8) 4 3) (hg : BK A (p + 12) 3 4) (h : BK A o m ci) (hm : 1 ≤ m) (h5 : ci ≠ 5) (h2 : ci ≠ 2) (h3 : ci ≠ 3 ∨ o ≠ p + 8) (h4 : ci ≠ 4 ∨ o ≠ p + 12) : o + m ≤ p + 1 ∨ p + 15 ≤ o := by
  have a := hs.bk h h5 h2
  have b := h.two hr h3
  have c := h.two hg h4
  omega
theorem w_sx {p a : Nat} (hs : SX A (p + 1)) (hr : BK A (p + 8) 4 3) (hg : BK A (p + 12) 3 4) (h : SX A a) (ha : a ≠ p + 1) : a + 7 ≤ p + 1 ∨ p + 15 ≤ a := by
  have x := hs.two h (fun z => ha z.symm)
  have y := h.bk hr (by omega) (by omega)
  have z := h.bk hg (by omega) (by omega)
  omega
theorem KC.im {p a r g : Nat} {K : Kp} (h : KC A a r g K) (hs : SX A (p + 1)) (hr : BK A (p + 8) 4 3) (hg : BK A (p + 12) 3 4) (kp : ∀ q, ¬ (p + 1 ≤ q ∧ q < p + 15) → A'[q]? = A[q]?) (ha : a ≠ p + 1) (hr' : r ≠ p + 8) (hg' : g ≠ p + 12) : KC A' a r g K := by
  have x := w_sx hs hr hg h.1.x ha
  have z := w_bk hs hr hg h.2.2.bk (by omega) (by omega) (by omega) (by omega) (by omega)
  refine ⟨h.1.eq (fun q q1 q2 => kp q (by omega)), h.2.1.gen (fun q q1 q2 => kp q ?_) (fun t m b1 b2 b3 b4 q q1 q2 => ?_), h.2.2.eq (fun q q1 q2 => kp q (by omega))⟩
  · obtain ⟨u, ⟨a, -⟩, -⟩ := h.2.1
    have y := w_bk hs hr hg a.bk (by omega) (by omega) (by omega) (by omega) (by omega)
    omega
  · have y := w_bk hs hr hg b1 b2 (by omega) (by omega) (by omega) (by omega)
    exact kp q (by omega)
/-- the three copies into an image -/
theorem c_imcopy {p : Nat} {q : Int32 × Int32 × Int32 × Int32} {K : Kp} {u : xU} {L1 : List (Nat × Nat)} {w1 : Value} (h0 : TB0 A q) (hk : KC A 1 22 26 K) (hl : K.2.2.2.length ≤ 6) (h69 : 69 ≤ p) (hp : A[p]? = some (.inr (1, [.ref (p + 1), .ref (p + 8), .ref (p + 12)]))) (hs : SX A (p + 1)) (hr : RU A (p + 8) u) (hg : SG A (p + 12) L1) : ∃ A', xD E (d + 3) 135 41 [.ref 0, w1, .ref p] [] A = ((xI (xC E (d + 2) 142 [.ref 0, .int (0 : Int32)] A')).bind fun q10 => some (some (Value.int q10.1), q10.2)) ∧ KC A' (p + 1) (p + 8) (p + 12) K ∧ A'.length = A.length ∧ ∀ q, ¬ (p + 1 ≤ q ∧ q < p + 15) → A'[q]? = A[q]? := by
  obtain ⟨s, hS, hRS⟩ := hk.1
  obtain ⟨s', hS'⟩ := hs
  obtain ⟨A1, s1, c1, c2, c3, c4⟩ := c_copyFrom (E := E) (d := d) hS' hS (by omega) hRS
  have kp1 : ∀ q, (q < p + 1 ∨ p + 8 ≤ q) → A1[q]? = A[q]? := fun q hq => c4.2 q (fun z => by unfold inS at z; omega)
  have r1 : RC A1 22 K.2.1 K.2.2.1 := hk.2.1.gen (fun q q1 q2 => kp1 q (by omega)) (fun t m b1 b2 b3 b4 q q1 q2 => by
    have := SX.bk ⟨s', hS'⟩ b1 (by omega) (by omega)
    exact kp1 q (by omega))
  have u1 : RU A1 (p + 8) u := hr.eq (fun q q1 q2 => kp1 q (by omega))
  obtain ⟨A2, e1, e2, e3⟩ := c_rcopy (E := E) (d := d + 1) u1 r1 (by omega)
  have kp2 : ∀ q, q ≠ p + 8 → q ≠ p + 9 → A2[q]? = A1[q]? := fun q q1 q2 => e3.2 q (by omega)
  have g2 : SG A2 (p + 12) L1 := hg.eq (fun q q1 q2 => (kp2 q (by omega) (by omega)).trans (kp1 q (by omega)))
  have g2' : SG A2 26 K.2.2.2 := hk.2.2.eq (fun q q1 q2 => (kp2 q (by omega) (by omega)).trans (kp1 q (by omega)))
  obtain ⟨A3, f1, f2, f3⟩ := c_sgCopy (E := E) (d := d + 1) g2 g2' (by omega) hl
  have kp3 : ∀ q, (q < p + 12 ∨ p + 15 ≤ q) → A3[q]? = A2[q]? := fun q hq => f3.2 q (by omega)
  have t1 : A1[0]? = A[0]? := kp1 0 (by omega)
  have t2 : A2[0]? = A[0]? := (kp2 0 (by omega) (by omega)).trans t1
  have p1 := (kp1 p (by omega)).trans hp
  have p2 := (kp2 p (by omega) (by omega)).trans p1
  refine ⟨A3, ?_, ⟨⟨s1, c2.eq (fun q q1 q2 => (kp3 q (by omega)).trans (kp2 q (by omega) (by omega))), c3⟩, e2.gen (fun q q1 q2 => kp3 q (by omega)) (fun t m b1 b2 b3 b4 q q1 q2 => ?_), f2⟩, by rw [f3.1, e3.1, c4.1], fun q hq => (kp3 q (by omega)).trans ((kp2 q (by omega) (by omega)).trans (kp1 q (by omega)))⟩
  · rw [e135_41a, h_gN hp rfl, Option.bind_some, h_gN h0 rfl, Option.bind_some, c1, xV_s, Option.bind_some, h_gN p1 rfl, Option.bind_some, h_gN (t1.trans h0) rfl, Option.bind_some, e1, xV_s, Option.bind_some, h_gN p2 rfl, Option.bind_some, h_gN (t2.trans h0) rfl, Option.bind_some, f1, xV_s, Option.bind_some]
  · have := b1.two g2.bk (Or.inl (by omega))
    exact kp3 q (by omega)
end CIMAGE
