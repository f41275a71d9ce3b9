/-! ===== the class: image, back ===== -/
section CIMAGE2
variable {E : Nat × (Nat → Int32)} {d : Nat} {A A' : xH} {X : Xs} {L Lo : List (St × Nat)} {I : Nat → Option Kp} {n : NM} {pl : Nat → Option Nat} {k p : Nat} {K : Kp}
def nRU (r : Nat) : xH := [.inr (3, [.ref (r + 1), .ref (r + 2), .ref (r + 3), .int 0, .int (-1), .int 1, .int 0, .int 0]), .inl (4, 6, .inr (.inr fun _ => none)), ia 7 (fun _ => 0), ia 64 (fun _ => 0)]
def nSG (g : Nat) : xH := [.inr (4, [.ref (g + 1), .ref (g + 2), .int 0]), ia 6 (fun _ => 0), ia 6 (fun _ => 0)]
def nIM (p : Nat) : xH := .inr (1, [.ref (p + 1), .ref (p + 8), .ref (p + 12)]) :: (nST (p + 1) ++ (nRU (p + 8) ++ nSG (p + 12)))
theorem c_rinit (A : xH) : xC E (d + 1) 26 [.ref A.length] (A ++ [.inr (3, [.null, .null, .null, .int 0, .int 0, .int 0, .int 0, .int 0])]) = some (none, A ++ nRU A.length) := by
  rw [k26 _ _ _ _ (ap_C (A := A) (p := A.length) (j := 0) rfl rfl)]
  simp only [ap_A, List.length_append, List.length_cons, List.length_nil, Nat.zero_add, List.cons_append, List.nil_append]
  rw [e26_10, ap_F (A := A) (p := A.length) (j := 0) rfl rfl (show 0 < 8 by omega), Option.bind_some]
  simp only [List.set]
  simp only [ap_A, List.length_append, List.length_cons, List.length_nil, Nat.zero_add, List.cons_append, List.nil_append]
  rw [e26_18, ap_F (A := A) (p := A.length) (j := 0) rfl rfl (show 1 < 8 by omega), Option.bind_some]
  simp only [List.set]
  simp only [ap_A, List.length_append, List.length_cons, List.length_nil, Nat.zero_add, List.cons_append, List.nil_append]
  rw [e26_26, ap_F (A := A) (p := A.length) (j := 0) rfl rfl (show 2 < 8 by omega), Option.bind_some, ap_F (A := A) (p := A.length) (j := 0) rfl rfl (show 3 < 8 by omega), Option.bind_some, ap_F (A := A) (p := A.length) (j := 0) rfl rfl (show 4 < 8 by omega), Option.bind_some, ap_F (A := A) (p := A.length) (j := 0) rfl rfl (show 5 < 8 by omega), Option.bind_some, ap_F (A := A) (p := A.length) (j := 0) rfl rfl (show 6 < 8 by omega), Option.bind_some, ap_F (A := A) (p := A.length) (j := 0) rfl rfl (show 7 < 8 by omega), Option.bind_some]
  rfl
theorem c_ginit (A : xH) : xC E (d + 1) 35 [.ref A.length] (A ++ [.inr (4, [.null, .null, .int 0])]) = some (none, A ++ nSG A.length) := by
  rw [k35 _ _ _ _ (ap_C (A := A) (p := A.length) (j := 0) rfl rfl)]
  simp only [ap_A, List.length_append, List.length_cons, List.length_nil, Nat.zero_add, List.cons_append, List.nil_append]
  rw [ap_F (A := A) (p := A.length) (j := 0) rfl rfl (show 0 < 3 by omega), Option.bind_some]
  simp only [List.set]
  simp only [ap_A, List.length_append, List.length_cons, List.length_nil, Nat.zero_add, List.cons_append, List.nil_append]
  rw [ap_F (A := A) (p := A.length) (j := 0) rfl rfl (show 1 < 3 by omega), Option.bind_some, ap_F (A := A) (p := A.length) (j := 0) rfl rfl (show 2 < 3 by omega), Option.bind_some]
  rfl
theorem c_iminit (A : xH) : xC E (d + 3) 7 [.ref A.length] (A ++ [.inr (1, [.null, .null, .null])]) = some (none, A ++ nIM A.length) := by
  rw [k7 _ _ _ _ (ap_C (A := A) (p := A.length) (j := 0) rfl rfl), e7_8, c_sinit, xV_s, Option.bind_some, List.append_assoc, ap_F (A := A) (p := A.length) (j := 0) rfl rfl (show 0 < 3 by omega), Option.bind_some, e7_19, c_rinit, xV_s, Option.bind_some, List.append_assoc, ap_F (A := A) (p := A.length) (j := 0) rfl rfl (show 1 < 3 by omega), Option.bind_some, e7_30, c_ginit, xV_s, Option.bind_some, List.append_assoc, ap_F (A := A) (p := A.length) (j := 0) rfl rfl (show 2 < 3 by omega), Option.bind_some]
  have l1 : ∀ a, (nST a).length = 7 := fun a => rfl
  have l2 : ∀ a, (nRU a).length = 4 := fun a => rfl
  simp only [List.length_append, List.length_cons, List.length_nil, List.length_set, l1, l2, Nat.add_assoc]
  rfl
theorem KC.sz {q : Nat} {c : xA} (h : KC A (p + 1) (p + 8) (p + 12) K) (h1 : p + 1 ≤ q) (h2 : q < p + 15) (hc : A[q]? = some c) : xsz c ≤ 500 := by
  by_cases e : q < p + 8
  · exact h.1.x.sz h1 (by omega) hc
  · obtain ⟨u, ⟨⟨a0, a1, ⟨w, a2⟩, t, a3⟩, -⟩, -⟩ := h.2.1
    obtain ⟨g0, f1, f2, g1, g2, -⟩ := h.2.2
    rcases (show q = p + 8 ∨ q = p + 8 + 1 ∨ q = p + 8 + 2 ∨ q = p + 8 + 3 ∨ q = p + 12 ∨ q = p + 12 + 1 ∨ q = p + 12 + 2 by omega) with rfl | rfl | rfl | rfl | rfl | rfl | rfl
    · rw [a0] at hc; cases hc; exact (show 8 ≤ 500 by omega)
    · rw [a1] at hc; cases hc; exact (show 6 ≤ 500 by omega)
    · rw [a2] at hc; cases hc; exact (show 7 ≤ 500 by omega)
    · rw [a3] at hc; cases hc; exact (show 64 ≤ 500 by omega)
    · rw [g0] at hc; cases hc; exact (show 3 ≤ 500 by omega)
    · rw [g1] at hc; cases hc; exact (show 6 ≤ 500 by omega)
    · rw [g2] at hc; cases hc; exact (show 6 ≤ 500 by omega)
theorem KC.bks {a r g : Nat} (h : KC A a r g K) : SX A a ∧ BK A r 4 3 ∧ BK A g 3 4 := by
  refine ⟨h.1.x, ?_, h.2.2.bk⟩
  obtain ⟨u, ⟨a, -⟩, -⟩ := h.2.1
  exact a.bk
theorem uI_s {I : Nat → Option Kp} : uI I k K k = some K := if_pos rfl
theorem uI_n {I : Nat → Option Kp} {j : Nat} (h : j ≠ k) : uI I k K j = I j := if_neg h
/-- an image that was there is written over -/
theorem HP.im (g : HP A pl L Lo I n) {K0 : Kp} (hk : k < 2) (hI : I k = some K0) (hpl : pl (34 + k) = some (p + 1)) (h69 : 69 ≤ p) (hp : A[p]? = some (.inr (1, [.ref (p + 1), .ref (p + 8), .ref (p + 12)]))) (hs : SX A (p + 1)) (hr : BK A (p + 8) 4 3) (hg : BK A (p + 12) 3 4) (hl : A'.length = A.length) (kp : ∀ q, ¬ (p + 1 ≤ q ∧ q < p + 15) → A'[q]? = A[q]?) (hK : KC A' (p + 1) (p + 8) (p + 12) K) : HP A' pl L Lo (uI I k K) n := by
  obtain ⟨hD, hS1, hS2, ⟨kk, c1, c2⟩, e1, e2, e3⟩ := g
  have ne : ∀ j p', j < 36 → j ≠ 34 + k → pl j = some p' → p' ≠ p + 1 := fun j p' hj hne hj2 z => hne (hD.1 j (34 + k) p' hj (by omega) hj2 (by rw [hpl, z]))
  have sx : ∀ a, SX A a → a ≠ p + 1 → SX A' a := fun a ha hne => by
    have := w_sx hs hr hg ha hne
    exact ha.eq (fun q q1 q2 => kp q (by omega))
  have row : ∀ h' b' L', hb2 h' b' → HS A h' b' pl L' → HS A' h' b' pl L' := by
    intro h' b' L' hb hh
    obtain ⟨a, ⟨k, b1, b2⟩, ⟨f, d1, d2⟩, e, gg⟩ := hh
    unfold hb2 at hb
    refine ⟨(kp _ (by omega)).trans a, ⟨k, (kp _ (by omega)).trans b1, b2⟩, ⟨f, (kp _ (by omega)).trans d1, d2⟩, e, fun i' q hq => ?_⟩
    obtain ⟨p', p1, p2⟩ := gg i' q hq
    have hil : i' < L'.length := (List.getElem?_eq_some_iff.mp hq).1
    have := w_sx hs hr hg p2.x (ne (b' + i') p' (by omega) (by omega) p1)
    exact ⟨p', p1, p2.eq (fun q q1 q2 => kp q (by omega))⟩
  refine ⟨⟨hD.1, fun j p' hj hj2 => ?_⟩, row 29 0 L (Or.inl ⟨rfl, rfl⟩) hS1, row 32 17 Lo (Or.inr ⟨rfl, rfl⟩) hS2, ⟨kk, (kp 35 (by omega)).trans c1, fun j hj => ?_⟩, by rw [hl]; exact e1, fun q c hq hc => ?_, fun q q1 q2 => (kp q (by omega)).trans (e3 q q1 q2)⟩
  · obtain ⟨x, y⟩ := hD.2 j p' hj hj2
    by_cases e : j = 34 + k
    · rw [e, hpl] at hj2
      cases hj2
      exact ⟨x, hK.1.x⟩
    · exact ⟨x, sx p' y (ne j p' hj e hj2)⟩
  · by_cases e : j = k
    · subst e
      rw [uI_s]
      refine ⟨fun z => (by cases z), fun K1 hK1 => ?_⟩
      cases hK1
      obtain ⟨p', p1, p2, p3, p4, p5⟩ := (c2 j hj).2 K0 hI
      have : p' = p := by
        rw [hpl] at p2
        have := Option.some.inj p2
        omega
      subst this
      exact ⟨p', p1, p2, p3, (kp p' (by omega)).trans p4, hK⟩
    · rw [uI_n e]
      refine ⟨(c2 j hj).1, fun K1 hK1 => ?_⟩
      obtain ⟨p', p1, p2, p3, p4, p5⟩ := (c2 j hj).2 K1 hK1
      have hne := ne (34 + j) (p' + 1) (by omega) (by omega) p2
      have := w_bk hs hr hg (BK.one p4) (by omega) (by omega) (by omega) (by omega) (by omega)
      exact ⟨p', p1, p2, p3, (kp p' (by omega)).trans p4, p5.im hs hr hg kp hne (by omega) (by omega)⟩
  · by_cases z : p + 1 ≤ q ∧ q < p + 15
    · exact hK.sz z.1 z.2 hc
    · exact e2 q c hq (by rw [← kp q z]; exact hc)
/-- an image is made -/
theorem HP.nim (g : HP A pl L Lo I n) (h69 : 69 ≤ A.length) (hk : k < 2) (hI : I k = none) (hl : A'.length = A.length + 15) (h1 : ∀ q, q < A.length → q ≠ 35 → A'[q]? = A[q]?) (h35 : ∀ kk, A[35]? = some (.inl (6, 2, .inr (.inr kk))) → A'[35]? = some (.inl (6, 2, .inr (.inr (va_up kk k (some A.length)))))) (hp : A'[A.length]? = some (.inr (1, [.ref (A.length + 1), .ref (A.length + 8), .ref (A.length + 12)]))) (hK : KC A' (A.length + 1) (A.length + 8) (A.length + 12) K) : HP A' (fun i => if i = 34 + k then some (A.length + 1) else pl i) L Lo (uI I k K) n := by
  obtain ⟨hD, hS1, hS2, ⟨kk, c1, c2⟩, e1, e2, e3⟩ := g
  have kp : ∀ q, 69 ≤ q → q < A.length → A'[q]? = A[q]? := fun q q1 q2 => h1 q q2 (by omega)
  have hpn : pl (34 + k) = none := ((c2 k hk).1 hI).2
  have row : ∀ h' b' L', hb2 h' b' → HS A h' b' pl L' → HS A' h' b' (fun i => if i = 34 + k then some (A.length + 1) else pl i) L' := by
    intro h' b' L' hb2' hh
    obtain ⟨a, ⟨k, b1, b2⟩, ⟨f, d1, d2⟩, e, gg⟩ := hh
    unfold hb2 at hb2'
    refine ⟨?_, ⟨k, (h1 _ (by omega) (by omega)).trans b1, fun i hi => ?_⟩, ⟨f, (h1 _ (by omega) (by omega)).trans d1, d2⟩, e, fun i' q hq => ?_⟩
    · dsimp only
      rw [h1 _ (by omega) (by omega), a, if_neg (by omega)]
    · dsimp only
      rw [if_neg (by omega)]; exact b2 i hi
    · obtain ⟨p', p1, p2⟩ := gg i' q hq
      have hil : i' < L'.length := (List.getElem?_eq_some_iff.mp hq).1
      refine ⟨p', ?_, p2.gr (hD.2 _ _ (by omega) p1).1 kp⟩
      dsimp only
      rw [if_neg (by omega)]; exact p1
  have lt : ∀ i p, i < 36 → pl i = some p → p < A.length := fun i p hi hp => by
    have := (hD.2 i p hi hp).2.len
    omega
  refine ⟨⟨fun i j p hi hj hi2 hj2 => ?_, fun i p hi hp => ?_⟩, row 29 0 L (Or.inl ⟨rfl, rfl⟩) hS1, row 32 17 Lo (Or.inr ⟨rfl, rfl⟩) hS2, ⟨va_up kk k (some A.length), h35 kk c1, fun j hj => ?_⟩, ?_, fun q c hq hc => ?_, fun q q1 q2 => (h1 q (by omega) (by omega)).trans (e3 q q1 q2)⟩
  · dsimp only at hi2 hj2
    split at hi2
    · cases hi2
      split at hj2
      · omega
      · have := lt j _ hj hj2; omega
    · split at hj2
      · cases hj2
        have := lt i _ hi hi2; omega
      · exact hD.1 i j p hi hj hi2 hj2
  · dsimp only at hp
    split at hp
    · cases hp; exact ⟨by omega, hK.1.x⟩
    · obtain ⟨x, y⟩ := hD.2 i p hi hp
      exact ⟨x, y.gr x kp⟩
  · by_cases e : j = k
    · subst e
      rw [uI_s, vu_s]
      refine ⟨fun z => (by cases z), fun K1 hK1 => ?_⟩
      cases hK1
      exact ⟨A.length, rfl, if_pos rfl, h69, hp, hK⟩
    · rw [uI_n e, vu_n e]
      dsimp only
      rw [if_neg (show ¬ 34 + j = 34 + k by omega)]
      refine ⟨(c2 j hj).1, fun K1 hK1 => ?_⟩
      obtain ⟨p', p1, p2, p3, p4, p5⟩ := (c2 j hj).2 K1 hK1
      have hp' : p' < A.length := (List.getElem?_eq_some_iff.mp p4).1
      exact ⟨p', p1, p2, p3, (kp p' p3 hp').trans p4, p5.gr (by omega) (by omega) (by omega) kp⟩
  · have hc := (cnt_upd (f := fun i => sO (pl i)) (g := fun i => sO (if i = 34 + k then some (A.length + 1) else pl i)) (m := 34 + k) (fun i hi => by rw [if_neg hi]) 34).2 (by omega)
    have s1 : sO (some (A.length + 1)) = 1 := rfl
    have s0 : sO none = 0 := rfl
    dsimp only
    rw [hl, hc]
    rcases (show k = 0 ∨ k = 1 by omega) with rfl | rfl
    · rw [if_pos rfl, if_neg (by omega), s1]
      rw [show (34 + 0 : Nat) = 34 from rfl] at hpn
      rw [hpn, s0] at e1
      omega
    · rw [if_neg (by omega), if_pos rfl, s1]
      rw [show (34 + 1 : Nat) = 35 from rfl] at hpn
      rw [hpn, s0] at e1
      omega
  · by_cases z : q < A.length
    · exact e2 q c hq (by rw [← kp q hq z]; exact hc)
    · have hq' := (List.getElem?_eq_some_iff.mp hc).1
      by_cases z2 : q = A.length
      · rw [z2, hp] at hc
        cases hc; exact (show 3 ≤ 500 by omega)
      · exact hK.sz (by omega) (by omega) hc
theorem CV.im (g : CV A X) (h69 : 69 ≤ p) (hs : SX A (p + 1)) (hr : BK A (p + 8) 4 3) (hg : BK A (p + 12) 3 4) (hl : A'.length = A.length) (kp : ∀ q, ¬ (p + 1 ≤ q ∧ q < p + 15) → A'[q]? = A[q]?) : CV A' X := by
  obtain ⟨a, b, c, f, ⟨⟨g1, g2, g3⟩, i1, i2, i3⟩, j⟩ := g
  exact ⟨by rw [hl]; exact a, (kp 0 (by omega)).trans b, c.im hs hr hg kp (by omega) (by omega) (by omega), f.eq (fun q q1 q2 => kp q (by omega)), ⟨⟨g1, (kp 44 (by omega)).trans g2, g3⟩, i1, (kp 45 (by omega)).trans i2, i3⟩, j.eq (fun q q1 q2 => kp q (by omega)) (fun q q1 => kp q (by omega))⟩
theorem nI_lt2 {k : Nat} (h : k < 2) : nI k < (2 : Int32) := nI_lt (b := 2) h (by omega)
theorem c_image (h : CIo A X Lo n) (hX : XI X) (x : Int32) : ∃ A', xC E (d + 4) 135 [.ref 0, .int x] A = some (some (.int (aImage X x).1), A') ∧ CIo A' (aImage X x).2 Lo n := by
  obtain ⟨B1, b1, b2, -⟩ := c_refuse (E := E) (d := d + 2) (c := 1) (x := -1) h (by omega) (by decide) (by decide)
  have hsl := hX.1.2.2.1
  rw [k135 _ _ _ _ _ h.cls]
  unfold aImage
  rcases pk_ix x (show 2 < 2 ^ 31 by omega) with q | q | ⟨k, hk, rfl⟩
  · rw [if_pos q, if_pos (Or.inl q), b1, xI_s, Option.bind_some]
    exact ⟨B1, rfl, b2⟩
  · rw [if_neg (n_nn (by omega) q), if_pos (Or.inr q), if_neg (show ¬ x < (2 : Int32) from Int32.not_lt.mpr q), b1, xI_s, Option.bind_some]
    exact ⟨B1, rfl, b2⟩
  · rw [if_neg (show ¬ nI k < 0 from nI_pos (by omega)), if_pos (nI_lt2 hk), h.g7, Option.bind_some, if_neg (n_out (by omega) hk), nI_clamp (by omega)]
    have hcv := h.cq
    obtain ⟨pl, hp⟩ := h.2.2.2.1
    obtain ⟨kk, c1, c2⟩ := hp.2.2.2.1
    rw [h_aR c1 hk (by omega), Option.bind_some]
    cases hI : X.2.2.1 k with
    | none =>
      rw [((c2 k hk).1 hI).1]
      dsimp only
      rw [c_iminit, xV_s, Option.bind_some]
      have hA69 := h.1
      generalize hA1 : A ++ nIM A.length = A1
      have l1 : A1.length = A.length + 15 := by rw [← hA1, List.length_append]; rfl
      have old : ∀ q, q < A.length → A1[q]? = A[q]? := fun q hq => by rw [← hA1, List.getElem?_append_left hq]
      have new : ∀ j, A1[A.length + j]? = (nIM A.length)[j]? := fun j => by rw [← hA1]; exact ap_G rfl
      have c1' : A1[35]? = some (.inl (6, 2, .inr (.inr kk))) := (old 35 (by omega)).trans c1
      have hx1 : xelok A1 6 (some A.length) = true := by
        unfold xelok
        dsimp only
        rw [h_cls (show A1[A.length]? = some (.inr (1, [.ref (A.length + 1), .ref (A.length + 8), .ref (A.length + 12)])) from new 0)]; rfl
      rw [h_gN ((old 0 (by omega)).trans h.2.1) rfl, Option.bind_some, h_sR c1' hk (by omega) hx1, Option.bind_some]
      generalize hA2 : A1.set 35 (.inl (6, 2, .inr (.inr (va_up kk k (some A.length))))) = A2
      have l2 : A2.length = A.length + 15 := by rw [← hA2, List.length_set, l1]
      have k2 : ∀ q, q ≠ 35 → A2[q]? = A1[q]? := fun q hq => by rw [← hA2]; exact List.getElem?_set_ne (fun z => hq z.symm)
      have n2 : ∀ j, A2[A.length + j]? = (nIM A.length)[j]? := fun j => (k2 _ (by omega)).trans (new j)
      have hp2 : A2[A.length]? = some (.inr (1, [.ref (A.length + 1), .ref (A.length + 8), .ref (A.length + 12)])) := n2 0
      have o2 : ∀ q, q < A.length → q ≠ 35 → A2[q]? = A[q]? := fun q q1 q2 => (k2 q q2).trans (old q q1)
      have hs2 : SX A2 (A.length + 1) := ⟨(fun _ => 0, fun _ => 0, fun _ => 0, fun _ => 0, 0, 0, 0, 0), n2 1, ⟨n2 2, n2 3⟩, ⟨n2 4, n2 5⟩, n2 6, n2 7⟩
      have hr2 : RU A2 (A.length + 8) (fun _ => none, 0, -1, 1, 0, 0) := ⟨n2 8, n2 9, ⟨_, n2 10⟩, _, n2 11⟩
      have hg2 : SG A2 (A.length + 12) [] := ⟨n2 12, _, _, n2 13, n2 14, fun i q hq => by cases hq⟩
      have cv2 : CV A2 X := hcv.gr (by omega) (fun q q1 q2 => o2 q q1 (by omega))
      obtain ⟨A3, f1, f2, f3, f4⟩ := c_imcopy (E := E) (d := d + 1) (w1 := .int (nI k)) cv2.2.1 cv2.2.2.1 hsl h.1 hp2 hs2 hr2 hg2
      have cv3 := cv2.im h.1 hs2 hr2.bk hg2.bk f3 f4
      have hp3 := HP.nim (A' := A3) hp h.1 hk hI (by omega) (fun q q1 q2 => (f4 q (by omega)).trans (o2 q q1 q2)) (fun kk' hkk => by
        rw [c1] at hkk
        cases hkk
        rw [f4 35 (by omega), ← hA2]
        exact List.getElem?_set_self (by omega)) ((f4 _ (by omega)).trans hp2) f2
      have ci3 : CIo A3 (X.1, X.2.1, uI X.2.2.1 k X.1, X.2.2.2) Lo n := CV.mk (X := (X.1, X.2.1, uI X.2.2.1 k X.1, X.2.2.2)) cv3 hp3
      obtain ⟨A4, g1, g2, -⟩ := c_grant (E := E) (d := d + 2) (x := 0) ci3
      refine ⟨A4, ?_, g2⟩
      rw [f1, g1, xI_s, Option.bind_some]
    | some K0 =>
      obtain ⟨p, p1, p2, p3, p4, p5⟩ := (c2 k hk).2 K0 hI
      rw [p1]
      dsimp only
      obtain ⟨hs, hr, hg⟩ := p5.bks
      obtain ⟨u, ⟨hru, -⟩, -⟩ := p5.2.1
      obtain ⟨A3, f1, f2, f3, f4⟩ := c_imcopy (E := E) (d := d + 1) (w1 := .int (nI k)) h.2.1 h.2.2.1 hsl p3 p4 hs hru p5.2.2
      have cv3 := hcv.im p3 hs hr hg f3 f4
      have hp3 := HP.im (A' := A3) hp hk hI p2 p3 p4 hs hr hg f3 f4 f2
      have ci3 : CIo A3 (X.1, X.2.1, uI X.2.2.1 k X.1, X.2.2.2) Lo n := CV.mk (X := (X.1, X.2.1, uI X.2.2.1 k X.1, X.2.2.2)) cv3 hp3
      obtain ⟨A4, g1, g2, -⟩ := c_grant (E := E) (d := d + 2) (x := 0) ci3
      refine ⟨A4, ?_, g2⟩
      rw [f1, g1, xI_s, Option.bind_some]
theorem c_back (h : CIo A X Lo n) (hX : XI X) (x : Int32) : ∃ A', xC E (d + 4) 136 [.ref 0, .int x] A = some (some (.int (aBack X x).1), A') ∧ CIo A' (aBack X x).2 Lo n := by
  obtain ⟨B1, b1, b2, -⟩ := c_refuse (E := E) (d := d + 2) (c := 1) (x := -1) h (by omega) (by decide) (by decide)
  obtain ⟨B2, b3, b4, -⟩ := c_refuse (E := E) (d := d + 2) (c := 2) (x := -2) h (by omega) (by decide) (by decide)
  rw [k136 _ _ _ _ _ h.cls]
  unfold aBack
  rcases pk_ix x (show 2 < 2 ^ 31 by omega) with q | q | ⟨k, hk, rfl⟩
  · rw [if_pos q, if_pos (Or.inl q), b1, xI_s, Option.bind_some]
    exact ⟨B1, rfl, b2⟩
  · rw [if_neg (n_nn (by omega) q), if_pos (Or.inr q), if_neg (show ¬ x < (2 : Int32) from Int32.not_lt.mpr q), b1, xI_s, Option.bind_some]
    exact ⟨B1, rfl, b2⟩
  · rw [if_neg (show ¬ nI k < 0 from nI_pos (by omega)), if_pos (nI_lt2 hk), h.g7, Option.bind_some, if_neg (n_out (by omega) hk), nI_clamp (by omega)]
    obtain ⟨pl, hp⟩ := h.2.2.2.1
    obtain ⟨kk, c1, c2⟩ := hp.2.2.2.1
    rw [h_aR c1 hk (by omega), Option.bind_some]
    cases hI : X.2.2.1 k with
    | none =>
      rw [((c2 k hk).1 hI).1]
      dsimp only
      rw [b3, xI_s, Option.bind_some]
      exact ⟨B2, rfl, b4⟩
    | some K0 =>
      obtain ⟨p, p1, p2, p3, p4, p5⟩ := (c2 k hk).2 K0 hI
      have hKI := hX.2.2.2.1 k K0 hI
      rw [p1]
      dsimp only
      obtain ⟨s, hS⟩ := h.2.2.1.1.x
      obtain ⟨s2, hS2, hRS2⟩ := p5.1
      obtain ⟨A1, s1, t1, t2, t3, t4⟩ := c_copyFrom (E := E) (d := d + 1) hS hS2 (by omega) hRS2
      have kp1 : ∀ q, (q < 1 ∨ 8 ≤ q) → A1[q]? = A[q]? := fun q hq => t4.2 q (fun z => by unfold inS at z; omega)
      obtain ⟨u, ⟨hru, -⟩, -⟩ := h.2.2.1.2.1
      have u1 : RU A1 22 u := hru.eq (fun q q1 q2 => kp1 q (by omega))
      have r1 : RC A1 (p + 8) K0.2.1 K0.2.2.1 := p5.2.1.eq (fun q q1 q2 => kp1 q (by omega)) (fun q q1 q2 => kp1 q (by omega))
      obtain ⟨A2, e1, e2, e3⟩ := c_rcopy (E := E) (d := d + 2) u1 r1 (by omega)
      have kp2 : ∀ q, q ≠ 22 → q ≠ 23 → A2[q]? = A1[q]? := fun q q1 q2 => e3.2 q (by omega)
      have g2 : SG A2 26 X.1.2.2.2 := h.2.2.1.2.2.eq (fun q q1 q2 => (kp2 q (by omega) (by omega)).trans (kp1 q (by omega)))
      have g2' : SG A2 (p + 12) K0.2.2.2 := p5.2.2.eq (fun q q1 q2 => (kp2 q (by omega) (by omega)).trans (kp1 q (by omega)))
      obtain ⟨A3, f1, f2, f3⟩ := c_sgCopy (E := E) (d := d + 2) g2 g2' (by omega) hKI.2.2.1
      have kp3 : ∀ q, (q < 26 ∨ 29 ≤ q) → A3[q]? = A2[q]? := fun q hq => f3.2 q (by omega)
      have hk3 : KC A3 1 22 26 K0 := ⟨⟨s1, t2.eq (fun q q1 q2 => (kp3 q (by omega)).trans (kp2 q (by omega) (by omega))), t3⟩, e2.eq (fun q q1 q2 => kp3 q (by omega)) (fun q q1 q2 => kp3 q (by omega)), f2⟩
      have ci3 := h.kc (A' := A3) (P := fun q => (1 ≤ q ∧ q ≤ 7) ∨ (22 ≤ q ∧ q ≤ 28)) ⟨by rw [f3.1, e3.1, t4.1], fun q hq => (kp3 q (by omega)).trans ((kp2 q (by omega) (by omega)).trans (kp1 q (by omega)))⟩ (fun q z => z) hk3
      obtain ⟨A4, v1, v2, -⟩ := c_hclear (E := E) (d := d + 2) ci3
      obtain ⟨A5, w1, w2, -⟩ := c_grant (E := E) (d := d + 2) (x := 0) v2
      refine ⟨A5, ?_, w2⟩
      have z1 : A1[0]? = A[0]? := kp1 0 (by omega)
      have z2 : A2[0]? = A[0]? := (kp2 0 (by omega) (by omega)).trans z1
      have q1 := (kp1 p (by omega)).trans p4
      have q2 := (kp2 p (by omega) (by omega)).trans q1
      rw [h.g0, Option.bind_some, h_gN p4 rfl, Option.bind_some, t1, xV_s, Option.bind_some, h_gN (z1.trans h.2.1) rfl, Option.bind_some, h_gN q1 rfl, Option.bind_some, e1, xV_s, Option.bind_some, h_gN (z2.trans h.2.1) rfl, Option.bind_some, h_gN q2 rfl, Option.bind_some, f1, xV_s, Option.bind_some, ci3.g5, Option.bind_some, v1, xV_s, Option.bind_some, w1, xI_s, Option.bind_some]
end CIMAGE2
