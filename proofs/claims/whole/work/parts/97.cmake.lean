/-! ===== the class: a store is made; what lies apart ===== -/
section AP
variable {A L : xH} {p j ci k : Nat} {fs : List Value} {v : Value} {c : xA}
theorem ap_G (hp : p = A.length + j) : (A ++ L)[p]? = L[j]? := by
  rw [hp, List.getElem?_append_right (by omega), Nat.add_sub_cancel_left]
theorem ap_S (hp : p = A.length + j) : (A ++ L).set p c = A ++ L.set j c := by
  rw [hp, List.set_append_right _ _ (by omega), Nat.add_sub_cancel_left]
theorem ap_F (hp : p = A.length + j) (h : L[j]? = some (.inr (ci, fs))) (hk : k < fs.length) : pF (A ++ L) p ci k v = some (A ++ L.set j (.inr (ci, fs.set k v))) := by
  rw [h_pF ((ap_G hp).trans h) hk, ap_S hp]
theorem ap_C (hp : p = A.length + j) (h : L[j]? = some (.inr (ci, fs))) : xcls (A ++ L) p = some ci := h_cls ((ap_G hp).trans h)
theorem ap_L : (A ++ L).length = A.length + L.length := List.length_append
theorem ap_A : (A ++ L) ++ [c] = A ++ (L ++ [c]) := List.append_assoc ..
end AP
section CMAKE
variable {E : Nat × (Nat → Int32)} {d : Nat} {A A' : xH} {X : Xs} {Lo : List (St × Nat)} {n : NM}
/-- a new store's cells -/
def nST (a : Nat) : xH := [.inr (5, [.ref (a + 1), .ref (a + 3), .ref (a + 5), .ref (a + 6), .int 0, .int 0, .int 0, .int 0]), .inr (2, [.ref (a + 2)]), ia 240 (fun _ => 0), .inr (2, [.ref (a + 4)]), ia 240 (fun _ => 0), ia 64 (fun _ => 0), ia 480 (fun _ => 0)]
theorem c_sinit (A : xH) : xC E (d + 2) 40 [.ref A.length] (A ++ [.inr (5, [.null, .null, .null, .null, .int 0, .int 0, .int 0, .int 0])]) = some (none, A ++ nST A.length) := by
  rw [k40 _ _ _ _ (ap_C (A := A) (p := A.length) (j := 0) rfl rfl)]
  simp only [ap_A, List.length_append, List.length_cons, List.length_nil, Nat.zero_add, List.cons_append, List.nil_append]
  rw [e40_8, k8 _ _ _ _ (ap_C (A := A) (p := A.length + 1) (j := 1) rfl rfl)]
  simp only [ap_A, List.length_append, List.length_cons, List.length_nil, Nat.zero_add, List.cons_append, List.nil_append]
  rw [ap_F (A := A) (p := A.length + 1) (j := 1) rfl rfl (show 0 < 1 by omega), Option.bind_some, xV_s, Option.bind_some, ap_F (A := A) (p := A.length) (j := 0) rfl rfl (show 0 < 8 by omega), Option.bind_some]
  simp only [List.set]
  simp only [ap_A, List.length_append, List.length_cons, List.length_nil, Nat.zero_add, List.cons_append, List.nil_append]
  rw [e40_19, k8 _ _ _ _ (ap_C (A := A) (p := A.length + 3) (j := 3) rfl rfl)]
  simp only [ap_A, List.length_append, List.length_cons, List.length_nil, Nat.zero_add, List.cons_append, List.nil_append]
  rw [ap_F (A := A) (p := A.length + 3) (j := 3) rfl rfl (show 0 < 1 by omega), Option.bind_some, xV_s, Option.bind_some, ap_F (A := A) (p := A.length) (j := 0) rfl rfl (show 1 < 8 by omega), Option.bind_some]
  simp only [List.set]
  simp only [ap_A, List.length_append, List.length_cons, List.length_nil, Nat.zero_add, List.cons_append, List.nil_append]
  rw [e40_31, ap_F (A := A) (p := A.length) (j := 0) rfl rfl (show 2 < 8 by omega), Option.bind_some]
  simp only [List.set]
  simp only [ap_A, List.length_append, List.length_cons, List.length_nil, Nat.zero_add, List.cons_append, List.nil_append]
  rw [e40_40, ap_F (A := A) (p := A.length) (j := 0) rfl rfl (show 3 < 8 by omega), Option.bind_some, ap_F (A := A) (p := A.length) (j := 0) rfl rfl (show 4 < 8 by omega), Option.bind_some, ap_F (A := A) (p := A.length) (j := 0) rfl rfl (show 5 < 8 by omega), Option.bind_some, ap_F (A := A) (p := A.length) (j := 0) rfl rfl (show 6 < 8 by omega), Option.bind_some, ap_F (A := A) (p := A.length) (j := 0) rfl rfl (show 7 < 8 by omega), Option.bind_some]
  rfl
theorem nST_ST (A : xH) : SX (A ++ nST A.length) A.length := ⟨(fun _ => 0, fun _ => 0, fun _ => 0, fun _ => 0, 0, 0, 0, 0), ap_G (j := 0) rfl, ⟨ap_G (j := 1) rfl, ap_G (j := 2) rfl⟩, ⟨ap_G (j := 3) rfl, ap_G (j := 4) rfl⟩, ap_G (j := 5) rfl, ap_G (j := 6) rfl⟩
/-! stores lie apart from each other and from all else: by what their cells are -/
theorem SX.at {p : Nat} (h : SX A p) : (∃ fs, A[p]? = some (.inr (5, fs))) ∧ ∀ j, 1 ≤ j → j < 7 → (∃ fs, A[p + j]? = some (.inr (2, fs))) ∨ ∃ z, A[p + j]? = some (.inl z) := by
  obtain ⟨s, h0, ⟨h1, h2⟩, ⟨h3, h4⟩, h5, h6⟩ := h
  refine ⟨⟨_, h0⟩, fun j j1 j2 => ?_⟩
  rcases (show j = 1 ∨ j = 2 ∨ j = 3 ∨ j = 4 ∨ j = 5 ∨ j = 6 by omega) with rfl | rfl | rfl | rfl | rfl | rfl
  · exact Or.inl ⟨_, h1⟩
  · exact Or.inr ⟨_, h2⟩
  · exact Or.inl ⟨_, h3⟩
  · exact Or.inr ⟨_, h4⟩
  · exact Or.inr ⟨_, h5⟩
  · exact Or.inr ⟨_, h6⟩
/-- an object that is no store and no pages, with arrays behind it, lies apart from a store -/
theorem SX.apart {p o m ci : Nat} (h : SX A p) (ho : ∃ fs, A[o]? = some (.inr (ci, fs))) (hc : ci ≠ 5) (hc2 : ci ≠ 2) (hm : ∀ j, 1 ≤ j → j < m → ∃ z, A[o + j]? = some (.inl z)) : o + m ≤ p ∨ p + 7 ≤ o := by
  obtain ⟨⟨f0, h0⟩, h1⟩ := h.at
  obtain ⟨fo, ho⟩ := ho
  by_cases e : o + m ≤ p ∨ p + 7 ≤ o
  · exact e
  · exfalso
    by_cases e1 : o < p
    · obtain ⟨z, hz⟩ := hm (p - o) (by omega) (by omega)
      rw [show o + (p - o) = p by omega, h0] at hz
      cases hz
    · by_cases e2 : o = p
      · rw [e2, h0] at ho
        cases ho; exact hc rfl
      · rcases h1 (o - p) (by omega) (by omega) with ⟨f, hf⟩ | ⟨z, hz⟩
        · rw [show p + (o - p) = o by omega, ho] at hf
          cases hf; exact hc2 rfl
        · rw [show p + (o - p) = o by omega, ho] at hz
          cases hz
theorem SX.two {p q : Nat} (h : SX A p) (g : SX A q) (hne : p ≠ q) : p + 7 ≤ q ∨ q + 7 ≤ p := by
  have key : ∀ p q : Nat, SX A p → SX A q → p < q → p + 7 ≤ q := fun p q h g hlt => by
    obtain ⟨-, h1⟩ := h.at
    obtain ⟨⟨f0, g0⟩, -⟩ := g.at
    by_cases e : p + 7 ≤ q
    · exact e
    · exfalso
      rcases h1 (q - p) (by omega) (by omega) with ⟨f, hf⟩ | ⟨z, hz⟩
      · rw [show p + (q - p) = q by omega, g0] at hf
        cases hf
      · rw [show p + (q - p) = q by omega, g0] at hz
        cases hz
  rcases Nat.lt_or_gt_of_ne hne with e | e
  · exact Or.inl (key p q h g e)
  · exact Or.inr (key q p g h e)
theorem SX.txt {p t : Nat} {code : List (Nat × Nat)} {cl : List (Nat → Nat)} {ask : List Nat} (h : SX A p) (g : TXT A t code cl ask) : t + 5 ≤ p ∨ p + 7 ≤ t := by
  obtain ⟨n0, n1, n2, n3, f0, f1, f2, f3, a0, a1, a2, a3, a4, hr⟩ := g
  refine h.apart ⟨_, a0⟩ (by omega) (by omega) (fun j j1 j2 => ?_)
  rcases (show j = 1 ∨ j = 2 ∨ j = 3 ∨ j = 4 by omega) with rfl | rfl | rfl | rfl
  · exact ⟨_, a1⟩
  · exact ⟨_, a2⟩
  · exact ⟨_, a3⟩
  · exact ⟨_, a4⟩
theorem SX.ru {p r : Nat} {u : xU} (h : SX A p) (g : RU A r u) : r + 4 ≤ p ∨ p + 7 ≤ r := by
  obtain ⟨a0, a1, ⟨w, a2⟩, t, a3⟩ := g
  refine h.apart ⟨_, a0⟩ (by omega) (by omega) (fun j j1 j2 => ?_)
  rcases (show j = 1 ∨ j = 2 ∨ j = 3 by omega) with rfl | rfl | rfl
  · exact ⟨_, a1⟩
  · exact ⟨_, a2⟩
  · exact ⟨_, a3⟩
theorem SX.sg {p g : Nat} {L : List (Nat × Nat)} (h : SX A p) (hg : SG A g L) : g + 3 ≤ p ∨ p + 7 ≤ g := by
  obtain ⟨a0, f1, f2, a1, a2, -⟩ := hg
  refine h.apart ⟨_, a0⟩ (by omega) (by omega) (fun j j1 j2 => ?_)
  rcases (show j = 1 ∨ j = 2 by omega) with rfl | rfl
  · exact ⟨_, a1⟩
  · exact ⟨_, a2⟩
theorem RC.st {p r k : Nat} {R : Ru} (h : RC A r R k) (g : SX A p) (hs : sm (inS p) A A') : RC A' r R k := by
  obtain ⟨u, a, b, c, e⟩ := h
  have hd := g.ru a.1
  refine ⟨u, a.sS (by omega) (fun i t hi ht => ?_) hs, b, c, fun i t hi ht => ?_⟩
  rotate_left
  · obtain ⟨e1, fs, e2⟩ := e i t hi ht
    have ha := g.apart ⟨_, e2⟩ (m := 1) (by omega) (by omega) (fun j j1 j2 => by omega)
    exact ⟨e1, fs, (hs.2 t (fun z => by unfold inS at z; omega)).trans e2⟩
  obtain ⟨-, t', b', c'⟩ := a.2.1.2.2 i R.1[i] (List.getElem?_eq_getElem hi)
  rw [ht] at b'
  cases b'
  exact g.txt c'
theorem SG.st {p g : Nat} {L : List (Nat × Nat)} (h : SG A g L) (hp : SX A p) (hs : sm (inS p) A A') : SG A' g L := by
  have := hp.sg h
  exact h.eq (fun q q1 q2 => hs.2 q (fun z => by unfold inS at z; omega))
theorem SC.st {p a : Nat} {S : St} (h : SC A a S) (hp : SX A p) (hne : p ≠ a) (hs : sm (inS p) A A') : SC A' a S := by
  have := hp.two h.x hne
  exact h.eq (fun q q1 q2 => hs.2 q (fun z => by unfold inS at z; omega))
theorem SX.st {p a : Nat} (h : SX A a) (hp : SX A p) (hne : p ≠ a) (hs : sm (inS p) A A') : SX A' a := by
  have := hp.two h hne
  exact h.eq (fun q q1 q2 => hs.2 q (fun z => by unfold inS at z; omega))
theorem KC.st {p a r g : Nat} {K : Kp} (h : KC A a r g K) (hp : SX A p) (hne : p ≠ a) (hs : sm (inS p) A A') : KC A' a r g K := ⟨h.1.st hp hne hs, h.2.1.st hp hs, h.2.2.st hp hs⟩
/-- a store's sizes -/
theorem SX.sz {p q : Nat} {c : xA} (h : SX A p) (h1 : p ≤ q) (h2 : q < p + 7) (hc : A[q]? = some c) : xsz c ≤ 500 := by
  obtain ⟨s, h0, ⟨a1, a2⟩, ⟨a3, a4⟩, h5, h6⟩ := h
  rcases (show q = p ∨ q = p + 1 ∨ q = p + 1 + 1 ∨ q = p + 3 ∨ q = p + 3 + 1 ∨ q = p + 5 ∨ q = p + 6 by omega) with rfl | rfl | rfl | rfl | rfl | rfl | rfl
  · rw [h0] at hc; cases hc; exact (show 8 ≤ 500 by omega)
  · rw [a1] at hc; cases hc; exact (show 1 ≤ 500 by omega)
  · rw [a2] at hc; cases hc; exact (show 240 ≤ 500 by omega)
  · rw [a3] at hc; cases hc; exact (show 1 ≤ 500 by omega)
  · rw [a4] at hc; cases hc; exact (show 240 ≤ 500 by omega)
  · rw [h5] at hc; cases hc; exact (show 64 ≤ 500 by omega)
  · rw [h6] at hc; cases hc; exact (show 480 ≤ 500 by omega)
end CMAKE
