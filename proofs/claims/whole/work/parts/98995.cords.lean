/-! ===== the class: orders; acts in a row, what is kept of them ===== -/
def T16 (L : List (St × Nat)) : List (St × Nat) := L.drop (L.length - 16)
theorem T16_le {L : List (St × Nat)} (h : L.length ≤ 16) : T16 L = L := by
  unfold T16
  rw [show L.length - 16 = 0 by omega]; rfl
theorem dr_ap {k n : Nat} {P Q : List (St × Nat)} (hk : P.length = k) (hn : k ≤ n) : (P ++ Q).drop n = Q.drop (n - k) := by
  rw [List.drop_append, List.drop_eq_nil_of_le (by omega), List.nil_append, hk]
theorem T16_l {P Q : List (St × Nat)} : T16 (T16 P ++ Q) = T16 (P ++ Q) := by
  have hm : min (P.length - 16) P.length = P.length - 16 := Nat.min_eq_left (by omega)
  have e : P ++ Q = P.take (P.length - 16) ++ (T16 P ++ Q) := by
    unfold T16
    rw [← List.append_assoc, List.take_append_drop]
  have hl : (T16 P).length = P.length - (P.length - 16) := by
    unfold T16
    rw [List.length_drop]
  have e2 : T16 (P ++ Q) = (P.take (P.length - 16) ++ (T16 P ++ Q)).drop ((P ++ Q).length - 16) := by
    conv => rhs; rw [← e]
    rfl
  have hq : (P ++ Q).length = P.length + Q.length := List.length_append
  have hq2 : (T16 P ++ Q).length = (T16 P).length + Q.length := List.length_append
  rw [e2, dr_ap (P := P.take (P.length - 16)) (k := P.length - 16) (by rw [List.length_take]; exact hm) (by omega)]
  show (T16 P ++ Q).drop ((T16 P ++ Q).length - 16) = _
  rw [hq2, hl, hq]
  congr 1
  omega
theorem T16_r {P Q : List (St × Nat)} : T16 (P ++ T16 Q) = T16 (P ++ Q) := by
  by_cases e : Q.length ≤ 16
  · rw [T16_le e]
  · unfold T16
    rw [dr_ap (k := P.length) rfl (by simp only [List.length_append, List.length_drop]; omega), dr_ap (k := P.length) rfl (by simp only [List.length_append]; omega), List.drop_drop]
    congr 1
    simp only [List.length_append, List.length_drop]
    omega
theorem kph_T {L : List (St × Nat)} {q : St × Nat} (h : L.length ≤ 16) : kph L q = T16 (L ++ [q]) := by
  unfold kph T16
  have hl : (L ++ [q]).length = L.length + 1 := by rw [List.length_append]; rfl
  rw [hl]
  split
  · rename_i e
    rw [e, List.drop_append_of_le_length (by omega)]
  · rw [show L.length + 1 - 16 = 0 by omega]; rfl
theorem fold_T {M : List (St × Nat)} : ∀ {L0 : List (St × Nat)}, L0.length ≤ 16 → M.foldl kph L0 = T16 (L0 ++ M) := by
  induction M with
  | nil => intro L0 h; rw [List.append_nil, T16_le h]; rfl
  | cons x M ih =>
    intro L0 h
    show M.foldl kph (kph L0 x) = _
    rw [ih (kph_len h), kph_T h, T16_l, List.append_assoc]; rfl
theorem T16_len {L : List (St × Nat)} : (T16 L).length ≤ 16 := by
  unfold T16
  rw [List.length_drop]; omega
theorem fold_kph {L0 Lo : List (St × Nat)} {q : St × Nat} (h0 : L0.length ≤ 16) (ho : Lo.length ≤ 16) : (kph Lo q).foldl kph L0 = kph (Lo.foldl kph L0) q := by
  rw [fold_T h0, fold_T h0, kph_T ho, kph_T T16_len, T16_r, T16_l, List.append_assoc]
theorem tI_lt0 {v : Int} (h1 : -1000000000 ≤ v) (h2 : v < 0) : tI v < 0 := by
  rw [Int32.lt_iff_toInt_lt, tI_toInt (by omega) (by omega)]
  exact h2
theorem tI_big {v : Int} (h1 : 1000000 < v) (h2 : v ≤ 1000000000) : ∃ m, 1000000 < m ∧ m ≤ 1000000000 ∧ tI v = nI m := ⟨v.toNat, by omega, by omega, by rw [← tI_nat]; congr 1; omega⟩
theorem smZ_in {v : Int} (h : ¬ (v < 0 ∨ 1000000 < v)) : smZ v = tI v := if_neg h
theorem smZ_out {v : Int} (h : v < 0 ∨ 1000000 < v) : smZ v = -1 := if_pos h
/-- an order's act by the reference, by the class -/
theorem oAct_b {X : Xs} (hX : XI X) {k : Nat} (hk : k < 4) {v w : Int} (hv1 : -1000000000 ≤ v) (hv2 : v ≤ 1000000000) (hw1 : -1000000000 ≤ w) (hw2 : w ≤ 1000000000) : ((bA X.1.2.1 k (tI v) (tI w) X.1.1).1 < 0 ∧ (oAct k v w X).1 < 0) ∨ (¬ (bA X.1.2.1 k (tI v) (tI w) X.1.1).1 < 0 ∧ oAct k v w X = bX X k (tI v) (tI w)) := by
  have hwl := hX.1.1.1.2.2.2.2.2.1
  have fin : oAct k v w X = bX X k (tI v) (tI w) → ((bA X.1.2.1 k (tI v) (tI w) X.1.1).1 < 0 ∧ (oAct k v w X).1 < 0) ∨ (¬ (bA X.1.2.1 k (tI v) (tI w) X.1.1).1 < 0 ∧ oAct k v w X = bX X k (tI v) (tI w)) := fun e => by
    by_cases z : (bA X.1.2.1 k (tI v) (tI w) X.1.1).1 < 0
    · exact Or.inl ⟨z, by rw [e]; exact z⟩
    · exact Or.inr ⟨z, e⟩
  have neg1 : (-1 : Int32) < 0 := by decide
  have neg3 : (-3 : Int32) < 0 := by decide
  have big : ∀ {u : Int}, 1000000 < u → u ≤ 1000000000 → ∀ m, m ≤ 1000000 → nI m ≤ tI u := fun h1 h2 m hm => by
    obtain ⟨m', a, b, c⟩ := tI_big h1 h2
    rw [c]; exact nI_le (by omega) (by omega)
  have bigp : ∀ {u : Int}, 1000000 < u → u ≤ 1000000000 → ¬ tI u < 0 := fun h1 h2 => by
    obtain ⟨m', a, b, c⟩ := tI_big h1 h2
    rw [c]; exact nI_pos (by omega)
  by_cases ev : v < 0 ∨ 1000000 < v
  · -- both refuse
    refine Or.inl ⟨?_, ?_⟩
    · unfold bA
      rcases (show k = 0 ∨ k = 1 ∨ k = 2 ∨ k = 3 by omega) with rfl | rfl | rfl | rfl
      · rw [if_pos rfl, if_pos (Or.inl (ev.elim (fun z => Or.inl (tI_lt0 hv1 z)) (fun z => Or.inr (big z hv2 1000 (by omega)))))]; exact neg1
      · rw [if_neg (by omega), if_pos rfl, if_pos (ev.elim (fun z => Or.inl (tI_lt0 hv1 z)) (fun z => Or.inr (big z hv2 1000 (by omega))))]; exact neg1
      · rw [if_neg (by omega), if_neg (by omega), if_pos rfl]
        rcases ev with z | z
        · rw [if_pos (tI_lt0 hv1 z)]; exact neg1
        · rw [if_neg (bigp z hv2), if_pos (big z hv2 _ (by omega))]; exact neg3
      · rw [if_neg (by omega), if_neg (by omega), if_neg (by omega)]
        rcases ev with z | z
        · rw [if_pos (tI_lt0 hv1 z)]; exact neg1
        · rw [if_neg (bigp z hv2), if_pos (big z hv2 _ (by omega))]; exact neg3
    · unfold oAct
      rw [smZ_out ev]
      rcases (show k = 0 ∨ k = 1 ∨ k = 2 ∨ k = 3 by omega) with rfl | rfl | rfl | rfl
      · rw [if_neg (by omega), if_neg (by omega), if_neg (by omega)]
        unfold aPut
        rw [if_pos (Or.inl (Or.inl neg1))]; exact neg1
      · rw [if_pos rfl]
        unfold aDrop
        rw [if_pos (Or.inl neg1)]; exact neg1
      · rw [if_neg (by omega), if_pos rfl]
        unfold aFlush
        rw [if_pos neg1]; exact neg1
      · rw [if_neg (by omega), if_neg (by omega), if_pos rfl]
        unfold aCrash
        rw [if_pos neg1]; exact neg1
  · by_cases k0 : k = 0
    · subst k0
      by_cases ew : w < 0 ∨ 1000000 < w
      · refine Or.inl ⟨?_, ?_⟩
        · unfold bA
          rw [if_pos rfl, if_pos (Or.inr (ew.elim (fun z => Or.inl (tI_lt0 hw1 z)) (fun z => Or.inr (big z hw2 100 (by omega)))))]; exact neg1
        · unfold oAct
          rw [smZ_out ew, if_neg (by omega), if_neg (by omega), if_neg (by omega)]
          unfold aPut
          rw [if_pos (Or.inr (Or.inl neg1))]; exact neg1
      · refine fin ?_
        unfold oAct
        rw [smZ_in ev, smZ_in ew, if_neg (by omega), if_neg (by omega), if_neg (by omega), bX_put]
    · refine fin ?_
      unfold oAct
      rw [smZ_in ev]
      rcases (show k = 1 ∨ k = 2 ∨ k = 3 by omega) with rfl | rfl | rfl
      · rw [if_pos rfl, bX_drop]
      · rw [if_neg (by omega), if_pos rfl, bX_flush hwl]
      · rw [if_neg (by omega), if_neg (by omega), if_pos rfl, bX_crash hX]
section CORDS
variable {E : Nat × (Nat → Int32)} {d : Nat} {A A' : xH} {X : Xs} {L0 Lo : List (St × Nat)} {n : NM} {code : List (Nat × Nat)} {cl : List (Nat → Nat)} {ask : List Nat}
theorem CIo.w43 (h : CIo A X Lo n) {w : Nat → Int32} : CIo (A.set 43 (ia 56 w)) X Lo n := by
  have h69 := h.1
  have kp : ∀ q, q ≠ 43 → (A.set 43 (ia 56 w))[q]? = A[q]? := fun q hq => List.getElem?_set_ne (fun z => hq z.symm)
  obtain ⟨w1, w2, ⟨ww, w3⟩, ⟨g, w4⟩, ⟨z, w5⟩⟩ := h.2.2.2.2.2.2
  exact h.wk1 (P := fun q => q = 43) (sm.set _ rfl) (fun q z => by unfold wkc; omega) (S := X.1.1) (h.2.2.1.1.eq (fun q q1 q2 => kp q (by omega))) (h.2.2.1.2.1.eq (fun q q1 q2 => kp q (by omega)) (fun q q1 q2 => kp q (by omega))) ⟨w1.eq (fun q q1 q2 => kp q (by omega)), w2.eq (fun q q1 q2 => kp q (by omega)), ⟨w, List.getElem?_set_self (by omega)⟩, ⟨g, (kp 46 (by omega)).trans w4⟩, ⟨z, (kp 47 (by omega)).trans w5⟩⟩
theorem CIo.s25 (h : CIo A X Lo n) {w : Nat → Int32} : CIo (A.set 25 (ia 64 w)) X Lo n := by
  have h69 := h.1
  have kp : ∀ q, q ≠ 25 → (A.set 25 (ia 64 w))[q]? = A[q]? := fun q hq => List.getElem?_set_ne (fun z => hq z.symm)
  obtain ⟨u, hu, hu5, hut, htx⟩ := h.2.2.1.2.1
  have hR : RU (A.set 25 (ia 64 w)) 22 u := ⟨(kp 22 (by omega)).trans hu.1.1, (kp 23 (by omega)).trans hu.1.2.1, by rw [kp 24 (by omega)]; exact hu.1.2.2.1, ⟨w, List.getElem?_set_self (by omega)⟩⟩
  exact h.scr (sm.set _ (Or.inr rfl)) (hu.eq hR (fun i t hi ht q q1 q2 => kp q (by have := hut i t hi ht; omega))) hu5 hut htx
theorem CIo.k25 (h : CIo A X Lo n) : gN A 22 3 2 = some 25 ∧ ∃ k, A[25]? = some (ia 64 k) := by
  obtain ⟨u, hu, -⟩ := h.2.2.1.2.1
  exact ⟨hu.1.g2, hu.1.2.2.2⟩
/-- one word that is asked -/
theorem tel_3 {B : Bk} {b : Nat} (hb : b < 24) : telI B (nI b) (3 : Int32) = oI ((B b).map (·.2.2.length)) := by
  unfold telI
  rw [if_neg (fun z => by
    rcases z with z | z | z | z
    · exact nI_pos (by omega) z
    · exact nI_ge (a := b) (b := 24) hb (by omega) z
    · exact absurd z (by decide)
    · exact absurd z (by decide)), nI_clamp (by omega), show (3 : Int32).toNatClampNeg = 3 by decide]
  cases hB : B b with
  | none => rfl
  | some q => rfl
theorem c_fi54 (hX : XI X) {Z : OS} (hZ : Z.1.1 = X.1) (h50 : ask.length ≤ 50) (hask : ∀ q ∈ ask, q < 1024) : ∀ (c i : Nat) (A : xH) (w : Nat → Int32) (w3 : Value), i + c = ask.length → CIo A X Lo n → TXT A 37 code cl ask → A[43]? = some (ia 56 w) → ∃ w', xD E (d + 5) 149 54 [.ref 0, .ref 37, .int (nI i), w3] [] A = some (none, A.set 43 (ia 56 w')) ∧ (∀ j, j < 6 + i → w' j = w j) ∧ ∀ j, 6 + i ≤ j → j < 6 + ask.length → w' j = tI (oWd Z ask j)
  | 0, i, A, w, w3, hi, h, hT, hw => by
    have hi' : i = ask.length := by omega
    subst hi'
    obtain ⟨n0, n1, n2, n3, f0, f1, f2, f3, a0, -⟩ := hT
    refine ⟨w, ?_, fun j _ => rfl, fun j j1 j2 => by omega⟩
    rw [e149_54, h_gI a0 rfl, Option.bind_some, if_pos (Int32.le_refl _), set_self hw]
  | c + 1, i, A, w, w3, hi, h, hT, hw => by
    have hT' := id hT
    obtain ⟨n0, n1, n2, n3, f0, f1, f2, f3, a0, a1, a2, a3, a4, b0, b1, b2, b3, l0, l1, l2, l3, r0, r1, r2⟩ := hT'
    obtain ⟨s, hS, hRS⟩ := h.2.2.1.1
    obtain ⟨u, hu, hu5, hut, htx⟩ := h.2.2.1.2.1
    have hia : i < ask.length := by omega
    obtain ⟨q, hq⟩ : ∃ q, ask[i]? = some q := ⟨ask[i], List.getElem?_eq_getElem hia⟩
    have hq24 := hask q (List.mem_of_getElem? hq)
    have hok := hX.1.1.1.1
    -- the value that is laid there
    have go : ∀ x : Int32, x = tI (oWd Z ask (6 + i)) → ∃ w', (sI 0 A 43 ((6 : Int32) + nI i) x).bind (fun A8 => xD E (d + 5) 149 54 [.ref 0, .ref 37, .int (nI i + (1 : Int32)), .int (nI q)] [] A8) = some (none, A.set 43 (ia 56 w')) ∧ (∀ j, j < 6 + i → w' j = w j) ∧ ∀ j, 6 + i ≤ j → j < 6 + ask.length → w' j = tI (oWd Z ask j) := fun x hx => by
      have hlen := h.1
      obtain ⟨w', y1, y2, y3⟩ := c_fi54 hX hZ h50 hask c (i + 1) (A.set 43 (ia 56 (upd w (6 + i) x))) (upd w (6 + i) x) (.int (nI q)) (by omega) h.w43 (hT.eq (fun q q1 q2 => List.getElem?_set_ne (by omega))) (List.getElem?_set_self (by omega))
      refine ⟨w', ?_, fun j hj => (y2 j (by omega)).trans (upd_n (by omega)), fun j j1 j2 => ?_⟩
      · rw [show (6 : Int32) = nI 6 from rfl, nI_add, h_sI0 hw (by omega) (by omega), Option.bind_some, nI_1, y1, xtr]
      · by_cases e : j = 6 + i
        · rw [y2 j (by omega), e, upd_s, hx]
        · exact y3 j (by omega) j2
    have w6 : oWd Z ask (6 + i) = if q < 1000 then oLV Z 19 q else oLV Z 12 (q - 1000) := by
      unfold oWd
      rw [if_neg (by omega), Nat.add_sub_cancel_left, hq]
    rw [e149_54, h_gI a0 rfl, Option.bind_some, if_neg (nI_ge hia (by omega)), if_neg (show ¬ (50 : Int32) ≤ nI i from nI_ge (b := 50) (by omega) (by omega)), h_gN a0 rfl, Option.bind_some, h_aI a4 (by omega) (by omega), Option.bind_some, r2 i q hq, h.g9, Option.bind_some]
    by_cases e : q < 1000
    · obtain ⟨w', y1, y2, y3⟩ := go (oI (valO (ents (X.1.1.1 (own X.1.1.1 (hsh X.1.2.1.2.2.2 q % 64)))) q)) (by
        rw [w6, if_pos e]
        unfold oLV
        rw [if_neg (by omega), if_neg (by omega), if_neg (by omega), if_neg (by omega), if_neg (by omega), if_neg (by omega), if_neg (by omega), oZ_I, hZ])
      refine ⟨w', ?_, y2, y3⟩
      rw [if_neg (show ¬ (1000 : Int32) ≤ nI q from nI_ge (b := 1000) e (by omega)), h.g0, Option.bind_some, h.g3, Option.bind_some, c_valueOf hS hu.1 hRS.1 hRS.2.2.1 (fun b e he => by have := ((hok.2 b).2.1 e he).1; omega) e hX.1.2.2.2.2.1 hu.2.2.2.2.2.2.2.1, xI_s, Option.bind_some]
      exact y1
    · obtain ⟨w', y1, y2, y3⟩ := go (oI ((X.1.1.1 (q - 1000)).map (·.2.2.length))) (by
        rw [w6, if_neg e]
        unfold oLV
        rw [if_pos rfl, oZ_I, hZ])
      refine ⟨w', ?_, y2, y3⟩
      rw [if_pos (show (1000 : Int32) ≤ nI q from nI_le (a := 1000) (by omega) (by omega)), h.g0, Option.bind_some, hS.g0, Option.bind_some, show (1000 : Int32) = nI 1000 from rfl, pk_sub (show 1000 ≤ q by omega), c_tell hS.2.1 hRS.1, tel_3 (by omega), xI_s, Option.bind_some]
      exact y1
end CORDS
