/-! ===== what the class holds of the state ===== -/
theorem PG.eq {A A' : xH} {p : Nat} {f : Nat → Int32} (h : PG A p f) (h1 : A'[p]? = A[p]?) (h2 : A'[p + 1]? = A[p + 1]?) : PG A' p f := ⟨h1.trans h.1, h2.trans h.2⟩
theorem ST.eq {A A' : xH} {a : Nat} {s : xS} (h : ST A a s) (h1 : ∀ q, a ≤ q → q < a + 7 → A'[q]? = A[q]?) : ST A' a s :=
  ⟨(h1 _ (by omega) (by omega)).trans h.1, h.2.1.eq (h1 _ (by omega) (by omega)) (h1 _ (by omega) (by omega)), h.2.2.1.eq (h1 _ (by omega) (by omega)) (h1 _ (by omega) (by omega)), (h1 _ (by omega) (by omega)).trans h.2.2.2.1, (h1 _ (by omega) (by omega)).trans h.2.2.2.2⟩
theorem RU.eq {A A' : xH} {r : Nat} {u : xU} (h : RU A r u) (h1 : ∀ q, r ≤ q → q < r + 4 → A'[q]? = A[q]?) : RU A' r u :=
  ⟨(h1 _ (by omega) (by omega)).trans h.1, (h1 _ (by omega) (by omega)).trans h.2.1, by rw [h1 _ (by omega) (by omega)]; exact h.2.2.1, by rw [h1 _ (by omega) (by omega)]; exact h.2.2.2⟩
theorem TXT.eq {A A' : xH} {t : Nat} {code : List (Nat × Nat)} {cl : List (Nat → Nat)} {ask : List Nat} (h : TXT A t code cl ask) (h1 : ∀ q, t ≤ q → q < t + 5 → A'[q]? = A[q]?) : TXT A' t code cl ask := by
  obtain ⟨n0, n1, n2, n3, f0, f1, f2, f3, a0, a1, a2, a3, a4, hr⟩ := h
  exact ⟨n0, n1, n2, n3, f0, f1, f2, f3, (h1 _ (by omega) (by omega)).trans a0, (h1 _ (by omega) (by omega)).trans a1, (h1 _ (by omega) (by omega)).trans a2, (h1 _ (by omega) (by omega)).trans a3, (h1 _ (by omega) (by omega)).trans a4, hr⟩
theorem RUR.eq {A A' : xH} {r : Nat} {u : xU} {R : Ru} (h : RUR A r u R) (hu : RU A' r u) (h1 : ∀ i t, i < R.1.length → u.1 i = some t → ∀ q, t ≤ q → q < t + 5 → A'[q]? = A[q]?) : RUR A' r u R := by
  refine ⟨hu, ⟨h.2.1.1, h.2.1.2.1, fun i L hi => ?_⟩, h.2.2⟩
  obtain ⟨a, t, b, c⟩ := h.2.1.2.2 i L hi
  exact ⟨a, t, b, c.eq (h1 i t (List.getElem?_eq_some_iff.mp hi).1 b)⟩
/-- sightings at g -/
def SG (A : xH) (g : Nat) (L : List (Nat × Nat)) : Prop := A[g]? = some (.inr (4, [.ref (g + 1), .ref (g + 2), .int (nI L.length)])) ∧ ∃ f1 f2, A[g + 1]? = some (ia 6 f1) ∧ A[g + 2]? = some (ia 6 f2) ∧ ∀ i q, L[i]? = some q → f1 i = nI q.1 ∧ f2 i = nI q.2
theorem SG.eq {A A' : xH} {g : Nat} {L : List (Nat × Nat)} (h : SG A g L) (h1 : ∀ q, g ≤ q → q < g + 3 → A'[q]? = A[q]?) : SG A' g L := by
  obtain ⟨a, f1, f2, b, c, e⟩ := h
  exact ⟨(h1 _ (by omega) (by omega)).trans a, f1, f2, (h1 _ (by omega) (by omega)).trans b, (h1 _ (by omega) (by omega)).trans c, e⟩
/-- all laws that a row holds, also those that count no more, are texts made later -/
def TX (A : xH) (k : Nat → Option Nat) : Prop := ∀ i t, i < 6 → k i = some t → 69 ≤ t ∧ ∃ fs, A[t]? = some (.inr (7, fs))
theorem TX.eq {A A' : xH} {k : Nat → Option Nat} (h : TX A k) (h2 : ∀ q, 69 ≤ q → q < A.length → A'[q]? = A[q]?) : TX A' k := fun i t hi ht => by
  obtain ⟨a, fs, b⟩ := h i t hi ht
  exact ⟨a, fs, (h2 t a (List.getElem?_eq_some_iff.mp b).1).trans b⟩
theorem TX.fr {A A' : xH} {k : Nat → Option Nat} {P : Nat → Prop} (h : TX A k) (hs : sm P A A') (hP : ∀ q, P q → q < 69) : TX A' k := h.eq (fun q q1 _ => hs.2 q (fun z => by have := hP q z; omega))
theorem TX.sr {A A' : xH} {k : Nat → Option Nat} {a r : Nat} (h : TX A k) (hs : sm (inSR a r) A A') (ha : a ≤ 60) (hr : r ≤ 60) : TX A' k := h.fr hs (fun q z => by unfold inSR inS inR at z; omega)
/-- rules at r: R, fails; its laws lie among what was made later -/
def RC (A : xH) (r : Nat) (R : Ru) (n : Nat) : Prop := ∃ u, RUR A r u R ∧ u.2.2.2.1 = nI n ∧ (∀ i t, i < R.1.length → u.1 i = some t → 69 ≤ t) ∧ TX A u.1
theorem RC.eq {A A' : xH} {r : Nat} {R : Ru} {n : Nat} (h : RC A r R n) (h1 : ∀ q, r ≤ q → q < r + 4 → A'[q]? = A[q]?) (h2 : ∀ q, 69 ≤ q → q < A.length → A'[q]? = A[q]?) : RC A' r R n := by
  obtain ⟨u, a, b, c, e⟩ := h
  refine ⟨u, a.eq (a.1.eq h1) (fun i t hi ht q q1 q2 => h2 q (by have := c i t hi ht; omega) ?_), b, c, e.eq h2⟩
  obtain ⟨-, t', b', c'⟩ := a.2.1.2.2 i R.1[i] (List.getElem?_eq_getElem hi)
  rw [ht] at b'
  cases b'
  obtain ⟨n0, n1, n2, n3, f0, f1, f2, f3, a0, a1, a2, a3, a4, hr⟩ := c'
  have := (List.getElem?_eq_some_iff.mp a4).1
  omega
def SC (A : xH) (a : Nat) (S : St) : Prop := ∃ s, ST A a s ∧ RS s S
theorem SC.eq {A A' : xH} {a : Nat} {S : St} (h : SC A a S) (h1 : ∀ q, a ≤ q → q < a + 7 → A'[q]? = A[q]?) : SC A' a S := by
  obtain ⟨s, x, y⟩ := h
  exact ⟨s, x.eq h1, y⟩
def SX (A : xH) (a : Nat) : Prop := ∃ s, ST A a s
theorem SX.eq {A A' : xH} {a : Nat} (h : SX A a) (h1 : ∀ q, a ≤ q → q < a + 7 → A'[q]? = A[q]?) : SX A' a := by
  obtain ⟨s, x⟩ := h
  exact ⟨s, x.eq h1⟩
theorem SC.x {A : xH} {a : Nat} {S : St} (h : SC A a S) : SX A a := by
  obtain ⟨s, x, y⟩ := h
  exact ⟨s, x⟩
theorem SX.len {A : xH} {a : Nat} (h : SX A a) : a + 7 ≤ A.length := by
  obtain ⟨s, x⟩ := h
  have := x.len
  omega
/-- store, rules, sightings -/
def KC (A : xH) (a r g : Nat) (K : Kp) : Prop := SC A a K.1 ∧ RC A r K.2.1 K.2.2.1 ∧ SG A g K.2.2.2
/-- the object itself: status, tears, fault, stopped -/
def TB0 (A : xH) (q : Int32 × Int32 × Int32 × Int32) : Prop := A[0]? = some (.inr (8, [.ref 1, .ref 8, .ref 15, .ref 22, .ref 26, .ref 29, .ref 32, .ref 35, .ref 36, .ref 43, .ref 44, .ref 45, .ref 46, .ref 47, .int q.2.1, .int q.2.2.1, .int q.2.2.2, .int q.1]))
def oV (o : Option Nat) : Value := match o with
  | none => .null
  | some p => .ref p
/-- a history at h whose rows are those of pl from b on -/
def HS (A : xH) (h b : Nat) (pl : Nat → Option Nat) (L : List (St × Nat)) : Prop := A[h]? = some (.inr (0, [.ref (h + 1), .ref (h + 2), oV (pl (b + 16)), .int (nI L.length)])) ∧ (∃ k, A[h + 1]? = some (.inl (5, 16, .inr (.inr k))) ∧ ∀ i, i < 16 → k i = pl (b + i)) ∧ (∃ f, A[h + 2]? = some (ia 16 f) ∧ ∀ i q, L[i]? = some q → f i = nI q.2) ∧ L.length ≤ 16 ∧ ∀ i q, L[i]? = some q → ∃ p, pl (b + i) = some p ∧ SC A p q.1
/-- the places of stores made later -/
def DP (A : xH) (pl : Nat → Option Nat) : Prop := (∀ i j p, i < 36 → j < 36 → pl i = some p → pl j = some p → i = j) ∧ ∀ i p, i < 36 → pl i = some p → 69 ≤ p ∧ SX A p
def IMC (A : xH) (pl : Nat → Option Nat) (I : Nat → Option Kp) : Prop := ∃ k, A[35]? = some (.inl (6, 2, .inr (.inr k))) ∧ ∀ j, j < 2 → (I j = none → k j = none ∧ pl (34 + j) = none) ∧ ∀ K, I j = some K → ∃ p, k j = some p ∧ pl (34 + j) = some (p + 1) ∧ 69 ≤ p ∧ A[p]? = some (.inr (1, [.ref (p + 1), .ref (p + 8), .ref (p + 12)])) ∧ KC A (p + 1) (p + 8) (p + 12) K
/-- how many texts were made; the cells that are not the class's -/
abbrev NM : Type := Nat × (Nat → Option xA)
def sO (o : Option Nat) : Nat := if o.isSome = true then 1 else 0
def RM (A : xH) (pl : Nat → Option Nat) (n : NM) : Prop := A.length = 69 + 7 * cnt (fun i => sO (pl i)) 34 + 15 * (sO (pl 34) + sO (pl 35)) + 5 * n.1 ∧ (∀ q c, 69 ≤ q → A[q]? = some c → xsz c ≤ 500) ∧ ∀ q, 48 ≤ q → q < 69 → A[q]? = n.2 q
/-- histories, images -/
def HI (A : xH) (L Lo : List (St × Nat)) (I : Nat → Option Kp) (n : NM) : Prop := ∃ pl, DP A pl ∧ HS A 29 0 pl L ∧ HS A 32 17 pl Lo ∧ IMC A pl I ∧ RM A pl n
def TPC (A : xH) (t : (Nat → Nat) × Nat) : Prop := ∃ fl tl ar, (∀ j, j < 7 → A[36 + j]? = (tcs fl tl ar)[j]?) ∧ fl 2 = nI t.2 ∧ ∀ j, j < t.2 → ar 4 j = nI (t.1 j)
/-- scratch -/
def WK (A : xH) : Prop := SX A 8 ∧ SX A 15 ∧ (∃ w, A[43]? = some (ia 56 w)) ∧ CX A 46 ∧ ∃ z, A[47]? = some (.inl (3, 20, .inr (.inl z)))
def CIo (A : xH) (X : Xs) (Lo : List (St × Nat)) (n : NM) : Prop := 69 ≤ A.length ∧ TB0 A X.2.2.2.2.1 ∧ KC A 1 22 26 X.1 ∧ HI A X.2.1 Lo X.2.2.1 n ∧ TPC A X.2.2.2.1 ∧ ((∃ f, A[44]? = some (ia 7 f) ∧ ∀ i, i < 7 → f i = X.2.2.2.2.2.1 i) ∧ ∃ f, A[45]? = some (ia 40 f) ∧ ∀ i, i < 40 → f i = X.2.2.2.2.2.2 i) ∧ WK A
theorem KC.eq {A A' : xH} {a r g : Nat} {K : Kp} (h : KC A a r g K) (h1 : ∀ q, a ≤ q → q < a + 7 → A'[q]? = A[q]?) (h2 : ∀ q, r ≤ q → q < r + 4 → A'[q]? = A[q]?) (h3 : ∀ q, g ≤ q → q < g + 3 → A'[q]? = A[q]?) (h4 : ∀ q, 69 ≤ q → q < A.length → A'[q]? = A[q]?) : KC A' a r g K := ⟨h.1.eq h1, h.2.1.eq h2 h4, h.2.2.eq h3⟩
theorem SG.len {A : xH} {g : Nat} {L : List (Nat × Nat)} (h : SG A g L) : g + 3 ≤ A.length := by
  obtain ⟨a, f1, f2, b, c, e⟩ := h
  have := (List.getElem?_eq_some_iff.mp c).1
  omega
theorem HS.eq {A A' : xH} {h b : Nat} {pl : Nat → Option Nat} {L : List (St × Nat)} (hh : HS A h b pl L) (hb : b + 16 ≤ 36) (hD : DP A pl) (h1 : ∀ q, h ≤ q → q < h + 3 → A'[q]? = A[q]?) (h2 : ∀ q, 69 ≤ q → q < A.length → A'[q]? = A[q]?) : HS A' h b pl L := by
  obtain ⟨a, ⟨k, b1, b2⟩, ⟨f, c1, c2⟩, e, g⟩ := hh
  refine ⟨(h1 _ (by omega) (by omega)).trans a, ⟨k, (h1 _ (by omega) (by omega)).trans b1, b2⟩, ⟨f, (h1 _ (by omega) (by omega)).trans c1, c2⟩, e, fun i q hq => ?_⟩
  obtain ⟨p, p1, p2⟩ := g i q hq
  have hi : i < L.length := (List.getElem?_eq_some_iff.mp hq).1
  have h69 := (hD.2 (b + i) p (by omega) p1).1
  have hl := p2.x.len
  exact ⟨p, p1, p2.eq (fun q q1 q2 => h2 q (by omega) (by omega))⟩
theorem HI.eq {A A' : xH} {L Lo : List (St × Nat)} {I : Nat → Option Kp} {n : NM} (h : HI A L Lo I n) (hl : A'.length = A.length) (h1 : ∀ q, 29 ≤ q → q < 36 → A'[q]? = A[q]?) (h2 : ∀ q, 48 ≤ q → A'[q]? = A[q]?) : HI A' L Lo I n := by
  obtain ⟨pl, hD, a, b, ⟨k, c1, c2⟩, e1, e2, e3⟩ := h
  refine ⟨pl, ⟨hD.1, fun i p hi hp => ?_⟩, a.eq (by omega) hD (fun q q1 q2 => h1 q (by omega) (by omega)) (fun q q1 _ => h2 q (by omega)), b.eq (by omega) hD (fun q q1 q2 => h1 q (by omega) (by omega)) (fun q q1 _ => h2 q (by omega)), ⟨k, (h1 35 (by omega) (by omega)).trans c1, fun j hj => ⟨(c2 j hj).1, fun K hK => ?_⟩⟩, by rw [hl]; exact e1, fun q c hq hc => e2 q c hq (by rw [← h2 q (by omega)]; exact hc), fun q q1 q2 => (h2 q q1).trans (e3 q q1 q2)⟩
  · obtain ⟨x, y⟩ := hD.2 i p hi hp
    exact ⟨x, y.eq (fun q q1 _ => h2 q (by omega))⟩
  · obtain ⟨p, p1, p2, p3, p4, p5⟩ := (c2 j hj).2 K hK
    exact ⟨p, p1, p2, p3, (h2 p (by omega)).trans p4, p5.eq (fun q q1 _ => h2 q (by omega)) (fun q q1 _ => h2 q (by omega)) (fun q q1 _ => h2 q (by omega)) (fun q q1 _ => h2 q (by omega))⟩
theorem TPC.eq {A A' : xH} {t : (Nat → Nat) × Nat} (h : TPC A t) (h1 : ∀ q, 36 ≤ q → q < 43 → A'[q]? = A[q]?) : TPC A' t := by
  obtain ⟨fl, tl, ar, a, b, c⟩ := h
  exact ⟨fl, tl, ar, fun j hj => (h1 _ (by omega) (by omega)).trans (a j hj), b, c⟩
theorem WK.eq {A A' : xH} (h : WK A) (h1 : ∀ q, 8 ≤ q → q < 22 → A'[q]? = A[q]?) (h2 : ∀ q, q = 43 ∨ q = 46 ∨ q = 47 → A'[q]? = A[q]?) : WK A' := by
  obtain ⟨a, b, ⟨w, c⟩, ⟨g, e⟩, ⟨z, f⟩⟩ := h
  exact ⟨a.eq (fun q q1 q2 => h1 q (by omega) (by omega)), b.eq (fun q q1 q2 => h1 q (by omega) (by omega)), ⟨w, (h2 43 (by omega)).trans c⟩, ⟨g, (h2 46 (by omega)).trans e⟩, ⟨z, (h2 47 (by omega)).trans f⟩⟩
/-- cells of work: stores, rules' scratch, words, counts, chances -/
def wkc (q : Nat) : Prop := (1 ≤ q ∧ q ≤ 21) ∨ q = 24 ∨ q = 25 ∨ q = 43 ∨ q = 46 ∨ q = 47
theorem CIo.wk1 {A A' : xH} {X : Xs} {Lo : List (St × Nat)} {n : NM} (h : CIo A X Lo n) {P : Nat → Prop} (hs : sm P A A') (hP : ∀ q, P q → wkc q) {S : St} (h1 : SC A' 1 S) (h2 : RC A' 22 X.1.2.1 X.1.2.2.1) (h3 : WK A') : CIo A' (XS X S) Lo n := by
  obtain ⟨a, b, c, e, f, ⟨⟨g1, g2, g3⟩, i1, i2, i3⟩, j⟩ := h
  have kp : ∀ q, ¬ wkc q → A'[q]? = A[q]? := fun q hq => hs.2 q (fun z => hq (hP q z))
  refine ⟨by rw [hs.1]; exact a, (kp 0 (by unfold wkc; omega)).trans b, ⟨h1, h2, c.2.2.eq (fun q q1 q2 => kp q (by unfold wkc; omega))⟩, e.eq hs.1 (fun q q1 q2 => kp q (by unfold wkc; omega)) (fun q q1 => kp q (by unfold wkc; omega)), f.eq (fun q q1 q2 => kp q (by unfold wkc; omega)), ⟨⟨g1, (kp 44 (by unfold wkc; omega)).trans g2, g3⟩, i1, (kp 45 (by unfold wkc; omega)).trans i2, i3⟩, h3⟩
section CSTATE
variable {E : Nat × (Nat → Int32)} {d : Nat} {A : xH} {X : Xs} {Lo : List (St × Nat)} {n : NM}
theorem CIo.cls (h : CIo A X Lo n) : xcls A 0 = some 8 := h_cls h.2.1
theorem CIo.g0 (h : CIo A X Lo n) : gN A 0 8 0 = some 1 := h_gN h.2.1 rfl
theorem CIo.g1 (h : CIo A X Lo n) : gN A 0 8 1 = some 8 := h_gN h.2.1 rfl
theorem CIo.g2 (h : CIo A X Lo n) : gN A 0 8 2 = some 15 := h_gN h.2.1 rfl
theorem CIo.g3 (h : CIo A X Lo n) : gN A 0 8 3 = some 22 := h_gN h.2.1 rfl
theorem CIo.g4 (h : CIo A X Lo n) : gN A 0 8 4 = some 26 := h_gN h.2.1 rfl
theorem CIo.g5 (h : CIo A X Lo n) : gN A 0 8 5 = some 29 := h_gN h.2.1 rfl
theorem CIo.g6 (h : CIo A X Lo n) : gN A 0 8 6 = some 32 := h_gN h.2.1 rfl
theorem CIo.g7 (h : CIo A X Lo n) : gN A 0 8 7 = some 35 := h_gN h.2.1 rfl
theorem CIo.g8 (h : CIo A X Lo n) : gN A 0 8 8 = some 36 := h_gN h.2.1 rfl
theorem CIo.g9 (h : CIo A X Lo n) : gN A 0 8 9 = some 43 := h_gN h.2.1 rfl
theorem CIo.g10 (h : CIo A X Lo n) : gN A 0 8 10 = some 44 := h_gN h.2.1 rfl
theorem CIo.g11 (h : CIo A X Lo n) : gN A 0 8 11 = some 45 := h_gN h.2.1 rfl
theorem CIo.g12 (h : CIo A X Lo n) : gN A 0 8 12 = some 46 := h_gN h.2.1 rfl
theorem CIo.g13 (h : CIo A X Lo n) : gN A 0 8 13 = some 47 := h_gN h.2.1 rfl
/-- the object's own ints change -/
theorem CIo.four (h : CIo A X Lo n) {q : Int32 × Int32 × Int32 × Int32} {fs : List Value} (hfs : fs = [.ref 1, .ref 8, .ref 15, .ref 22, .ref 26, .ref 29, .ref 32, .ref 35, .ref 36, .ref 43, .ref 44, .ref 45, .ref 46, .ref 47, .int q.2.1, .int q.2.2.1, .int q.2.2.2, .int q.1]) : CIo (A.set 0 (.inr (8, fs))) (X.1, X.2.1, X.2.2.1, X.2.2.2.1, q, X.2.2.2.2.2) Lo n := by
  obtain ⟨a, b, c, e, f, ⟨⟨g1, g2, g3⟩, i1, i2, i3⟩, j⟩ := h
  have kp : ∀ k, k ≠ 0 → (A.set 0 (.inr (8, fs)))[k]? = A[k]? := fun k hk => List.getElem?_set_ne (fun z => hk z.symm)
  refine ⟨by rw [List.length_set]; exact a, ?_, c.eq (fun q q1 q2 => kp q (by omega)) (fun q q1 q2 => kp q (by omega)) (fun q q1 q2 => kp q (by omega)) (fun q q1 q2 => kp q (by omega)), e.eq (List.length_set ..) (fun q q1 q2 => kp q (by omega)) (fun q q1 => kp q (by omega)), f.eq (fun q q1 q2 => kp q (by omega)), ⟨⟨g1, (kp 44 (by omega)).trans g2, g3⟩, i1, (kp 45 (by omega)).trans i2, i3⟩, j.eq (fun q q1 q2 => kp q (by omega)) (fun q q1 => kp q (by omega))⟩
  show (A.set 0 (.inr (8, fs)))[0]? = _
  rw [List.getElem?_set_self (by omega), hfs]
theorem CIo.p14 (h : CIo A X Lo n) (x : Int32) : pF A 0 8 14 (.int x) = some (A.set 0 (.inr (8, [.ref 1, .ref 8, .ref 15, .ref 22, .ref 26, .ref 29, .ref 32, .ref 35, .ref 36, .ref 43, .ref 44, .ref 45, .ref 46, .ref 47, .int x, .int X.2.2.2.2.1.2.2.1, .int X.2.2.2.2.1.2.2.2, .int X.2.2.2.2.1.1]))) := (h_pF h.2.1 (show 14 < 18 by omega)).trans rfl
theorem CIo.i14 (h : CIo A X Lo n) : gI A 0 8 14 = some (X.2.2.2.2.1.2.1) := h_gI h.2.1 rfl
theorem CIo.p15 (h : CIo A X Lo n) (x : Int32) : pF A 0 8 15 (.int x) = some (A.set 0 (.inr (8, [.ref 1, .ref 8, .ref 15, .ref 22, .ref 26, .ref 29, .ref 32, .ref 35, .ref 36, .ref 43, .ref 44, .ref 45, .ref 46, .ref 47, .int X.2.2.2.2.1.2.1, .int x, .int X.2.2.2.2.1.2.2.2, .int X.2.2.2.2.1.1]))) := (h_pF h.2.1 (show 15 < 18 by omega)).trans rfl
theorem CIo.i15 (h : CIo A X Lo n) : gI A 0 8 15 = some (X.2.2.2.2.1.2.2.1) := h_gI h.2.1 rfl
theorem CIo.p16 (h : CIo A X Lo n) (x : Int32) : pF A 0 8 16 (.int x) = some (A.set 0 (.inr (8, [.ref 1, .ref 8, .ref 15, .ref 22, .ref 26, .ref 29, .ref 32, .ref 35, .ref 36, .ref 43, .ref 44, .ref 45, .ref 46, .ref 47, .int X.2.2.2.2.1.2.1, .int X.2.2.2.2.1.2.2.1, .int x, .int X.2.2.2.2.1.1]))) := (h_pF h.2.1 (show 16 < 18 by omega)).trans rfl
theorem CIo.i16 (h : CIo A X Lo n) : gI A 0 8 16 = some (X.2.2.2.2.1.2.2.2) := h_gI h.2.1 rfl
theorem CIo.p17 (h : CIo A X Lo n) (x : Int32) : pF A 0 8 17 (.int x) = some (A.set 0 (.inr (8, [.ref 1, .ref 8, .ref 15, .ref 22, .ref 26, .ref 29, .ref 32, .ref 35, .ref 36, .ref 43, .ref 44, .ref 45, .ref 46, .ref 47, .int X.2.2.2.2.1.2.1, .int X.2.2.2.2.1.2.2.1, .int X.2.2.2.2.1.2.2.2, .int x]))) := (h_pF h.2.1 (show 17 < 18 by omega)).trans rfl
theorem CIo.i17 (h : CIo A X Lo n) : gI A 0 8 17 = some (X.2.2.2.2.1.1) := h_gI h.2.1 rfl
theorem c_grant (h : CIo A X Lo n) {x : Int32} : ∃ A', xC E (d + 1) 142 [.ref 0, .int x] A = some (some (.int x), A') ∧ CIo A' (Xgr X) Lo n ∧ A'.length = A.length ∧ ∀ q, q ≠ 0 → A'[q]? = A[q]? := by
  refine ⟨_, ?_, h.four (q := (0, X.2.2.2.2.1.2)) rfl, List.length_set .., fun q hq => List.getElem?_set_ne (fun z => hq z.symm)⟩
  rw [k142 _ _ _ _ _ h.cls, h.p17, Option.bind_some]
theorem c_refuse (h : CIo A X Lo n) {c : Nat} {x : Int32} (hc : c < 7) (hx : x = -nI c) (hx2 : -x = nI c) : ∃ A', xC E (d + 1) 141 [.ref 0, .int x] A = some (some (.int x), A') ∧ CIo A' (Xrf X c) Lo n ∧ A'.length = A.length ∧ ∀ q, q ≠ 0 → q ≠ 44 → A'[q]? = A[q]? := by
  have h4 := h.four (q := (x, X.2.2.2.2.1.2)) rfl
  obtain ⟨a, b, c', e, f, ⟨⟨g1, g2, g3⟩, i1, i2, i3⟩, j⟩ := id h4
  generalize hB : A.set 0 (.inr (8, [Value.ref 1, .ref 8, .ref 15, .ref 22, .ref 26, .ref 29, .ref 32, .ref 35, .ref 36, .ref 43, .ref 44, .ref 45, .ref 46, .ref 47, .int X.2.2.2.2.1.2.1, .int X.2.2.2.2.1.2.2.1, .int X.2.2.2.2.1.2.2.2, .int x])) = B at *
  have kp : ∀ k, k ≠ 44 → (B.set 44 (ia 7 (upd g1 c (g1 c + 1))))[k]? = B[k]? := fun k hk => List.getElem?_set_ne (fun z => hk z.symm)
  refine ⟨B.set 44 (ia 7 (upd g1 c (g1 c + 1))), ?_, ?_, by rw [List.length_set, ← hB, List.length_set], fun q q1 q2 => by rw [kp q q2, ← hB]; exact List.getElem?_set_ne (fun z => q1 z.symm)⟩
  · rw [k141 _ _ _ _ _ h.cls, h.p17, Option.bind_some, hB, h4.g10, Option.bind_some, hx2, h_aI g2 (by omega) (by omega), Option.bind_some, h_sI0 g2 (by omega) (by omega), Option.bind_some]
  · refine ⟨by rw [List.length_set]; exact a, ?_, c'.eq (fun q q1 q2 => kp q (by omega)) (fun q q1 q2 => kp q (by omega)) (fun q q1 q2 => kp q (by omega)) (fun q q1 q2 => kp q (by omega)), e.eq (List.length_set ..) (fun q q1 q2 => kp q (by omega)) (fun q q1 => kp q (by omega)), f.eq (fun q q1 q2 => kp q (by omega)), ⟨⟨_, List.getElem?_set_self (by omega), fun i hi => ?_⟩, i1, (kp 45 (by omega)).trans i2, i3⟩, j.eq (fun q q1 q2 => kp q (by omega)) (fun q q1 => kp q (by omega))⟩
    · show (B.set 44 _)[0]? = _
      rw [kp 0 (by omega), hx] at *
      exact b
    · show _ = upd _ c _ i
      by_cases z : i = c
      · subst z; rw [upd_s, upd_s, g3 i hi]
      · rw [upd_n z, upd_n z]; exact g3 i hi
theorem c_answer {p : Int32 × Xs} (h : CIo A p.2 Lo n) (hp : actR p.1) : ∃ A', xC E (d + 2) 143 [.ref 0, .int p.1] A = some (some (.int (aAns p).1), A') ∧ CIo A' (aAns p).2 Lo n := by
  rw [k143 _ _ _ _ _ h.cls]
  unfold aAns
  rcases hp with q | q | q | ⟨m, hm, q⟩
  · obtain ⟨A', r1, r2, -⟩ := c_refuse (E := E) (d := d) (c := 1) (x := p.1) h (by omega) (by rw [q]; decide) (by rw [q]; decide)
    rw [if_neg (by rw [q]; decide), if_pos q, r1, xI_s, Option.bind_some]
    exact ⟨A', rfl, r2⟩
  · obtain ⟨A', r1, r2, -⟩ := c_refuse (E := E) (d := d) (c := 3) (x := p.1) h (by omega) (by rw [q]; decide) (by rw [q]; decide)
    rw [if_neg (by rw [q]; decide), if_neg (by rw [q]; decide), if_pos q, r1, xI_s, Option.bind_some]
    exact ⟨A', rfl, r2⟩
  · obtain ⟨A', r1, r2, -⟩ := c_refuse (E := E) (d := d) (c := 5) (x := p.1) h (by omega) (by rw [q]; decide) (by rw [q]; decide)
    rw [if_neg (by rw [q]; decide), if_neg (by rw [q]; decide), if_neg (by rw [q]; decide), if_pos q, r1, xI_s, Option.bind_some]
    exact ⟨A', rfl, r2⟩
  · obtain ⟨A', r1, r2, -⟩ := c_grant (E := E) (d := d) (x := p.1) h
    rw [if_pos (by rw [q]; exact nI_le (a := 0) (by omega) hm), if_neg (by rw [q]; exact n_ng1 hm), if_neg (by rw [q]; exact n_ng3 hm), if_neg (by rw [q]; exact n_ng5 hm), r1, xI_s, Option.bind_some]
    exact ⟨A', rfl, r2⟩
end CSTATE
