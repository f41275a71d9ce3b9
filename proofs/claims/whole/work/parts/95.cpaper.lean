/-! ===== the class: on paper; salts ===== -/
theorem bsH_le {h : Nat} : ∀ (n i : Nat) (x : (Nat → Nat) × Nat), (bsH h n i x).2 ≤ x.2 + n
  | 0, i, x => Nat.le_refl _
  | n + 1, i, x => by
    unfold bsH
    have := bsH_le (h := h) n (i + 1) (addC x.1 i (x.1 (i + h)), x.2 + if x.1 i + x.1 (i + h) ≤ 3 then 0 else 1)
    dsimp only at this
    split at this <;> split <;> omega
theorem bySalt_le (t : Nat) (B : Bk) : bySalt t B ≤ 64 := by
  unfold bySalt
  split
  · omega
  · rename_i c _
    unfold bsA
    have h1 := bsH_le (h := 32) 32 0 (c, 1)
    have h2 := bsH_le (h := 16) 16 0 (bsH 32 32 0 (c, 1))
    have h3 := bsH_le (h := 8) 8 0 (bsH 16 16 0 (bsH 32 32 0 (c, 1)))
    have h4 := bsH_le (h := 4) 4 0 (bsH 8 8 0 (bsH 16 16 0 (bsH 32 32 0 (c, 1))))
    have h5 := bsH_le (h := 2) 2 0 (bsH 4 4 0 (bsH 8 8 0 (bsH 16 16 0 (bsH 32 32 0 (c, 1)))))
    have h6 := bsH_le (h := 1) 1 0 (bsH 2 2 0 (bsH 4 4 0 (bsH 8 8 0 (bsH 16 16 0 (bsH 32 32 0 (c, 1))))))
    dsimp only at h1
    omega
section CPAPER
variable {E : Nat × (Nat → Int32)} {d : Nat} {A A' : xH} {X : Xs} {Lo : List (St × Nat)} {n : NM}
theorem c_lose {A : xH} {a r t' m : Nat} {s : xS} {u : xU} {R : Ru} {S : St} (hd : a + 7 ≤ r ∨ r + 4 ≤ a) (ha : sepL u R.1 a 7) (h : ST A a s) (hR : RUR A r u R) (hS : RS s S) (hI : SI t' S) (hn : m ≤ S.2.2.1.length) : ∃ A' s', xC E (d + 5) 61 [.ref a, .int (nI m), .ref r] A = some (some (.int (nI (keysN (lsS R.2.2.2 m S).1))), A') ∧ ST A' a s' ∧ RS s' (lsS R.2.2.2 m S) ∧ RUR A' r u R ∧ sm (inS a) A A' := by
  obtain ⟨G, hG⟩ := SI_gd m hI
  exact c_losePower hd ha h hR hS hn (fun q => (hG.2.2.1 q).1) (fun i hi => rebB_hG hG hi)
theorem c_lose_bad {A : xH} {a r : Nat} {s : xS} {S : St} (h : ST A a s) (hS : RS s S) {x : Int32} (hx : x < 0 ∨ nI S.2.2.1.length < x) : xC E (d + 2) 61 [.ref a, .int x, .ref r] A = some (some (.int (if x < 0 then -1 else -3)), A) := by
  rw [k61 _ _ _ _ _ _ h.cls, c_doWrites_no h hS hx, xI_s, Option.bind_some]
  dsimp only
  rw [if_neg (show ¬ 0 ≤ (if x < 0 then (-1 : Int32) else -3) by split <;> decide)]
/-- paper has changed -/
theorem CIo.pap (h : CIo A X Lo n) (hs : sm (inS 8) A A') (h8 : SX A' 8) : CIo A' X Lo n := by
  have kp : ∀ q, (q < 8 ∨ 15 ≤ q) → A'[q]? = A[q]? := fun q hq => hs.2 q (fun z => by unfold inS at z; omega)
  obtain ⟨-, w2, ⟨w, w3⟩, ⟨g, w4⟩, ⟨z, w5⟩⟩ := h.2.2.2.2.2.2
  exact h.wk1 hs (fun q z => by unfold wkc; unfold inS at z; omega) (S := X.1.1) (h.2.2.1.1.eq (fun q q1 q2 => kp q (by omega))) (h.2.2.1.2.1.eq (fun q q1 q2 => kp q (by omega)) (fun q q1 q2 => kp q (by omega))) ⟨h8, w2.eq (fun q q1 q2 => kp q (by omega)), ⟨w, (kp 43 (by omega)).trans w3⟩, ⟨g, (kp 46 (by omega)).trans w4⟩, ⟨z, (kp 47 (by omega)).trans w5⟩⟩
theorem c_paper (h : CIo A X Lo n) (hX : XI X) (x : Int32) : (x < 0 ∨ nI (X.1.1.2.2.1.length + 1) ≤ x → xC E (d + 6) 150 [.ref 0, .int x] A = some (some (.int 0), A)) ∧ ∀ m, m ≤ X.1.1.2.2.1.length → x = nI m → ∃ A', xC E (d + 6) 150 [.ref 0, .int x] A = some (some (.int 1), A') ∧ CIo A' X Lo n ∧ SC A' 8 (lsS X.1.2.1.2.2.2 m X.1.1) ∧ sm (inS 8) A A' := by
  obtain ⟨s, hS, hRS⟩ := h.2.2.1.1
  obtain ⟨u, hu, hu5, hut, htx⟩ := h.2.2.1.2.1
  obtain ⟨s8, h8⟩ := h.2.2.2.2.2.2.1
  have hwl := hX.1.1.1.2.2.2.2.2.1
  have hw : s.2.2.2.2.2.1 = nI X.1.1.2.2.1.length := hRS.2.2.2.2.1
  refine ⟨fun hx => ?_, fun m hm hx => ?_⟩
  · rw [k150 _ _ _ _ _ h.cls]
    rcases hx with hx | hx
    · rw [if_pos hx]
    · rw [if_neg (n_nn (by omega) hx), h.g0, Option.bind_some, hS.g5, Option.bind_some, hw, if_neg (show ¬ x ≤ nI X.1.1.2.2.1.length from Int32.not_le.mpr (Int32.lt_of_lt_of_le (nI_lt (by omega) (by omega)) hx))]
  · subst hx
    obtain ⟨A1, s1, c1, c2, c3, c4⟩ := c_copyFrom (E := E) (d := d + 3) h8 hS (by omega) hRS
    have hu1 : RUR A1 22 u X.1.2.1 := hu.sS (by omega) (fun i t hi ht => by have := hut i t hi ht; omega) c4
    obtain ⟨A2, s2, l1, l2, l3, l4, l5⟩ := c_lose (E := E) (d := d) (a := 8) (r := 22) (m := m) (by omega) (fun i t hi ht => by have := hut i t hi ht; omega) c2 hu1 c3 hX.1.1 hm
    have hci1 := h.pap c4 ⟨s1, c2⟩
    refine ⟨A2, ?_, h.pap (c4.trans l5) ⟨s2, l2⟩, ⟨s2, l2, l3⟩, c4.trans l5⟩
    rw [k150 _ _ _ _ _ h.cls, if_neg (show ¬ nI m < 0 from nI_pos (by omega)), h.g0, Option.bind_some, hS.g5, Option.bind_some, hw, if_pos (nI_le hm (by omega)), h.g1, Option.bind_some, Option.bind_some, c1, xV_s, Option.bind_some, hci1.g1, Option.bind_some, hci1.g3, Option.bind_some, l1, xI_s, Option.bind_some]
theorem n_to {x : Int32} {m : Nat} (hm : m + 1 < 2 ^ 31) (h : ¬ (x < 0 ∨ nI (m + 1) ≤ x)) : ∃ k, k ≤ m ∧ x = nI k := by
  rcases pk_ix x hm with q | q | ⟨k, hk, hx⟩
  · exact absurd (Or.inl q) h
  · exact absurd (Or.inr q) h
  · exact ⟨k, by omega, hx⟩
theorem c_behind (h : CIo A X Lo n) (hX : XI X) (x y : Int32) : ∃ A', xC E (d + 7) 119 [.ref 0, .int x, .int y] A = some (some (.int (aBehind X x y)), A') ∧ CIo A' X Lo n := by
  have hwl := hX.1.1.1.2.2.2.2.2.1
  obtain ⟨p1, p2⟩ := c_paper (E := E) (d := d) h hX x
  rw [k119 _ _ _ _ _ _ h.cls, c_isKey y, xI_s, Option.bind_some]
  dsimp only
  unfold aBehind
  by_cases hy : y < 0 ∨ nI 1000 ≤ y
  · rw [if_pos hy, if_pos (by rfl), if_pos (Or.inr hy)]; exact ⟨A, rfl, h⟩
  · rw [if_neg hy, if_neg (show ¬ nI 1 = 0 by decide)]
    by_cases hx : x < 0 ∨ nI (X.1.1.2.2.1.length + 1) ≤ x
    · rw [p1 hx, xI_s, Option.bind_some, if_pos (Or.inl hx)]
      dsimp only
      rw [if_pos rfl]; exact ⟨A, rfl, h⟩
    · rw [if_neg (fun z => z.elim hx hy)]
      obtain ⟨k, hk, rfl⟩ := n_to (by omega) hy
      obtain ⟨m, hm, rfl⟩ := n_to (by omega) hx
      obtain ⟨A1, q1, q2, ⟨s8, q3, q4⟩, q5⟩ := p2 m hm rfl
      obtain ⟨u, hu, hu5, hut, htx⟩ := q2.2.2.1.2.1
      have hok := (SI_ls (t := X.1.2.1.2.2.2) m hX.1.1).1.1
      have hks : ∀ b e, e ∈ ents ((lsS X.1.2.1.2.2.2 m X.1.1).1 b) → e.1 < 2 ^ 31 := fun b e he => by have := ((hok.2 b).2.1 e he).1; omega
      rw [nI_clamp (by omega), nI_clamp (by omega), q1, xI_s, Option.bind_some]
      dsimp only
      rw [if_neg (show ¬ (1 : Int32) = 0 by decide), q2.g1, Option.bind_some, q2.g3, Option.bind_some, c_valueOf q3 hu.1 q4.1 q4.2.2.1 hks (show k < 1000 by omega) hu.2.2.2.2.2.2.2.2 hu.2.2.2.2.2.2.2.1, xI_s, Option.bind_some]
      exact ⟨A1, rfl, q2⟩
theorem c_lost (h : CIo A X Lo n) (hX : XI X) (x : Int32) : ∃ A', xC E (d + 7) 120 [.ref 0, .int x] A = some (some (.int (aLost X x)), A') ∧ CIo A' X Lo n := by
  have hwl := hX.1.1.1.2.2.2.2.2.1
  obtain ⟨p1, p2⟩ := c_paper (E := E) (d := d) h hX x
  rw [k120 _ _ _ _ _ h.cls]
  unfold aLost
  by_cases hx : x < 0 ∨ nI (X.1.1.2.2.1.length + 1) ≤ x
  · rw [p1 hx, xI_s, Option.bind_some, if_pos hx]
    dsimp only
    rw [if_pos rfl]; exact ⟨A, rfl, h⟩
  · rw [if_neg hx]
    obtain ⟨m, hm, rfl⟩ := n_to (by omega) hx
    obtain ⟨A1, q1, q2, ⟨s8, q3, q4⟩, q5⟩ := p2 m hm rfl
    obtain ⟨s, hS, hRS⟩ := q2.2.2.1.1
    obtain ⟨u, hu, hu5, hut, htx⟩ := q2.2.2.1.2.1
    have hok := (SI_ls (t := X.1.2.1.2.2.2) m hX.1.1).1.1
    rw [nI_clamp (by omega), q1, xI_s, Option.bind_some]
    dsimp only
    rw [if_neg (show ¬ (1 : Int32) = 0 by decide), q2.g0, Option.bind_some, q2.g1, Option.bind_some, q2.g3, Option.bind_some, c_keysNotAlike (E := E) (d := d + 1) hS q3 hu hRS q4 hX.1.1.1.1 hok, xI_s, Option.bind_some]
    exact ⟨A1, rfl, q2⟩
theorem c_torn (h : CIo A X Lo n) (hX : XI X) (x : Int32) : ∃ A', xC E (d + 7) 121 [.ref 0, .int x] A = some (some (.int (aTorn X x)), A') ∧ CIo A' X Lo n := by
  have hwl := hX.1.1.1.2.2.2.2.2.1
  obtain ⟨p1, p2⟩ := c_paper (E := E) (d := d) h hX x
  rw [k121 _ _ _ _ _ h.cls]
  unfold aTorn
  by_cases hx : x < 0 ∨ nI (X.1.1.2.2.1.length + 1) ≤ x
  · rw [p1 hx, xI_s, Option.bind_some, if_pos hx]
    dsimp only
    rw [if_pos rfl]; exact ⟨A, rfl, h⟩
  · rw [if_neg hx]
    obtain ⟨m, hm, rfl⟩ := n_to (by omega) hx
    obtain ⟨A1, q1, q2, ⟨s8, q3, q4⟩, q5⟩ := p2 m hm rfl
    obtain ⟨s, hS, hRS⟩ := q2.2.2.1.1
    have hI := SI_ls (t := X.1.2.1.2.2.2) m hX.1.1
    have hd2 : (lsS X.1.2.1.2.2.2 m X.1.1).2.2.2.1 ≤ 6 := by rw [hI.2]; exact deepN_6 hI.1.1
    rw [nI_clamp (by omega), q1, xI_s, Option.bind_some]
    dsimp only
    rw [if_neg (show ¬ (1 : Int32) = 0 by decide), q2.g0, Option.bind_some, q2.g1, Option.bind_some, c_slotsNotAlike (E := E) (d := d + 4) hS q3 hRS q4 hX.deep hd2, xI_s, Option.bind_some]
    exact ⟨A1, rfl, q2⟩
/-- counts have changed -/
theorem CIo.cts (h : CIo A X Lo n) (hs : sm (fun z => z = 46) A A') (h46 : CX A' 46) : CIo A' X Lo n := by
  have kp : ∀ q, q ≠ 46 → A'[q]? = A[q]? := fun q hq => hs.2 q hq
  obtain ⟨w1, w2, ⟨w, w3⟩, -, ⟨z, w5⟩⟩ := h.2.2.2.2.2.2
  exact h.wk1 hs (fun q z => by unfold wkc; omega) (S := X.1.1) (h.2.2.1.1.eq (fun q q1 q2 => kp q (by omega))) (h.2.2.1.2.1.eq (fun q q1 q2 => kp q (by omega)) (fun q q1 q2 => kp q (by omega))) ⟨w1.eq (fun q q1 q2 => kp q (by omega)), w2.eq (fun q q1 q2 => kp q (by omega)), ⟨w, (kp 43 (by omega)).trans w3⟩, h46, ⟨z, (kp 47 (by omega)).trans w5⟩⟩
def slA (B : Bk) (i : Nat) : Int32 := match slS B i with
  | none => -1
  | some q => nI q.1
def slB (B : Bk) (i : Nat) : Int32 := match slS B i with
  | none => nI 25
  | some q => nI q.2
theorem c_sa8 (hX : XI X) {x : Int32} : ∀ (c i : Nat) (A : xH) (w5 : Value), i + c = 32 → CIo A X Lo n → ∃ A' w', xD E (d + 4) 125 8 [.ref 0, .int x, .int (slA X.1.1.1 i), .int (slB X.1.1.1 i), .int (nI i), w5] [] A = xD E (d + 4) 125 8 [.ref 0, .int x, .int (slA X.1.1.1 32), .int (slB X.1.1.1 32), .int (nI 32), w'] [] A' ∧ CIo A' X Lo n
  | 0, i, A, w5, hi, h => by
    have : i = 32 := by omega
    subst this
    exact ⟨A, w5, rfl, h⟩
  | c + 1, i, A, w5, hi, h => by
    obtain ⟨s, hS, hRS⟩ := h.2.2.1.1
    have hle := bySalt_le i X.1.1.1
    obtain ⟨A1, b1, b2, b3⟩ := c_bucketsBySalt (E := E) (d := d) (rc := 46) (t := i) hS hRS.1 (by omega) (by omega) (fun b e he => ((hX.1.1.1.1.2 b).2.1 e he).1) h.2.2.2.2.2.2.2.2.2.1
    obtain ⟨A2, w', g1, g2⟩ := c_sa8 hX (x := x) c (i + 1) A1 (.int (nI (bySalt i X.1.1.1))) (by omega) (h.cts b3 b2)
    refine ⟨A2, w', ?_, g2⟩
    rw [e125_8, if_neg (show ¬ (32 : Int32) ≤ nI i from nI_ge (b := 32) (by omega) (by omega)), h.g0, Option.bind_some, h.g12, Option.bind_some, b1, xI_s, Option.bind_some]
    dsimp only
    have hin := slS_in (B := X.1.1.1) i
    have st : slS X.1.1.1 (i + 1) = match slS X.1.1.1 i with
      | none => if bySalt i X.1.1.1 < 25 then some (i, bySalt i X.1.1.1) else none
      | some q => if bySalt i X.1.1.1 < q.2 then some (i, bySalt i X.1.1.1) else some q := rfl
    unfold slA slB at *
    rw [st] at g1
    cases hq : slS X.1.1.1 i with
    | none =>
      rw [hq] at g1
      dsimp only at g1 ⊢
      by_cases z : bySalt i X.1.1.1 < 25
      · rw [if_pos z] at g1
        rw [if_neg (nI_ge z (by omega)), nI_1]; exact g1
      · rw [if_neg z] at g1
        rw [if_pos (nI_le (by omega) (by omega)), nI_1]; exact g1
    | some q =>
      have := (hin q hq).2
      rw [hq] at g1
      dsimp only at g1 ⊢
      by_cases z : bySalt i X.1.1.1 < q.2
      · rw [if_pos z] at g1
        rw [if_neg (nI_ge z (by omega)), nI_1]; exact g1
      · rw [if_neg z] at g1
        rw [if_pos (nI_le (by omega) (by omega)), nI_1]; exact g1
theorem c_salts (h : CIo A X Lo n) (hX : XI X) (x : Int32) : ∃ A', xC E (d + 4) 125 [.ref 0, .int x] A = some (some (.int (aSalts X x)), A') ∧ CIo A' X Lo n := by
  obtain ⟨A', w', g1, g2⟩ := c_sa8 (E := E) (d := d) (x := x) hX 32 0 A xJ rfl h
  refine ⟨A', ?_, g2⟩
  rw [k125 _ _ _ _ _ h.cls]
  refine Eq.trans (show _ = _ from g1) ?_
  have hin := slS_in (B := X.1.1.1) 32
  rw [e125_8, if_pos (show (32 : Int32) ≤ nI 32 by decide)]
  unfold aSalts slA slB
  cases hq : slS X.1.1.1 32 with
  | none =>
    dsimp only
    rw [if_pos rfl]
    split <;> rfl
  | some q =>
    have := (hin q hq).1
    dsimp only
    rw [if_neg (n_m1ne (by omega))]
    rcases pk_ix x (show 2 < 2 ^ 31 by omega) with hx | hx | ⟨k, hk, rfl⟩
    · rw [if_pos hx, if_pos (Or.inl hx)]
    · rw [if_neg (n_nn (by omega) hx), if_neg (show ¬ x ≤ (1 : Int32) from Int32.not_le.mpr (Int32.lt_of_lt_of_le (by decide) hx)), if_pos (Or.inr hx)]
    · rw [if_neg (show ¬ nI k < 0 from nI_pos (by omega)), if_pos (show nI k ≤ (1 : Int32) from nI_le (b := 1) (by omega) (by omega)), if_neg (n_out (by omega) hk)]
      by_cases e : nI k = 0
      · rw [if_pos e, if_pos e]
      · rw [if_neg e, if_neg e]
end CPAPER
