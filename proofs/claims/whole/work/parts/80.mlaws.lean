/-! ===== the reference: laws in force, images, what was seen ===== -/
/-- a law's number: none, one that is, or no such -/
def frI (n : Nat) (x : Int32) : Option (Option Nat) := if x = -1 then some none else if x < 0 ∨ nI n ≤ x then none else some (some x.toNatClampNeg)
theorem n_ltm1 {x : Int32} (h : x < 0) (hne : x ≠ -1) : x < -1 := by
  rw [Int32.lt_iff_toInt_lt] at h ⊢
  have h0 : (0 : Int32).toInt = 0 := by decide
  have h1 : (-1 : Int32).toInt = -1 := by decide
  rw [h0] at h
  rw [h1]
  have : x.toInt ≠ -1 := fun z => hne (Int32.toInt_inj.mp (by rw [z, h1]))
  omega
theorem n_pre {n : Nat} {x : Int32} (hn : n < 2 ^ 30) (h : nI n ≤ x) : nI n - nI 1 < x := by
  cases n with
  | zero => exact Int32.lt_of_lt_of_le (by decide) h
  | succ m => rw [pk_sub (by omega), Nat.add_sub_cancel]; exact Int32.lt_of_lt_of_le (nI_lt (by omega) (by omega)) h
theorem frI_cases {n : Nat} (hn : n < 2 ^ 30) (x : Int32) : (x = -1 ∧ frI n x = some none) ∨ (x ≠ -1 ∧ (x < 0 ∨ nI n ≤ x) ∧ frI n x = none) ∨ ∃ i, i < n ∧ x = nI i ∧ frI n x = some (some i) := by
  unfold frI
  by_cases e : x = -1
  · rw [if_pos e]; exact Or.inl ⟨e, rfl⟩
  · rw [if_neg e]
    rcases pk_ix x (show n < 2 ^ 31 by omega) with q | q | ⟨i, hi, rfl⟩
    · rw [if_pos (Or.inl q)]; exact Or.inr (Or.inl ⟨e, Or.inl q, rfl⟩)
    · rw [if_pos (Or.inr q)]; exact Or.inr (Or.inl ⟨e, Or.inr q, rfl⟩)
    · rw [if_neg (n_out (by omega) hi), nI_clamp (by omega)]; exact Or.inr (Or.inr ⟨i, hi, rfl, rfl⟩)
def aForce (X : Xs) (x : Int32) : Int32 × Xs := match frI X.1.2.1.1.length x with
  | none => (-2, Xrf X 2)
  | some q => (oI X.1.2.1.2.1, Xgr (Xk X (X.1.1, (X.1.2.1.1, q, X.1.2.1.2.2), X.1.2.2)))
noncomputable def aCompare (X : Xs) (x y : Int32) : Int32 := match frI X.1.2.1.1.length x with
  | none => -1
  | some q => if y < 0 ∨ nI 24 ≤ y then -1 else nI (costF X.1.2.1.1 q (cws (X.1.1.1 y.toNatClampNeg) y.toNatClampNeg X.1.1.2.2.2.2 X.1.2.1.2.2.1 (-1) (-1)))
def uI (I : Nat → Option Kp) (k : Nat) (K : Kp) : Nat → Option Kp := fun j => if j = k then some K else I j
def aImage (X : Xs) (x : Int32) : Int32 × Xs := if x < 0 ∨ nI 2 ≤ x then (-1, Xrf X 1) else (0, Xgr (X.1, X.2.1, uI X.2.2.1 x.toNatClampNeg X.1, X.2.2.2))
def aBack (X : Xs) (x : Int32) : Int32 × Xs := if x < 0 ∨ nI 2 ≤ x then (-1, Xrf X 1) else match X.2.2.1 x.toNatClampNeg with
  | none => (-2, Xrf X 2)
  | some K => (0, Xgr (Xcl (Xk X K)))
def aSeen (X : Xs) (x y : Int32) : Int32 × Xs := if (x < 0 ∨ nI 64 ≤ x) ∨ y < 0 ∨ nI 2 ≤ y then (-1, Xrf X 1) else if X.1.2.2.2.length = 6 then (-5, Xrf X 5) else (nI (X.1.2.2.2.length + 1), Xgr (Xk X (X.1.1, X.1.2.1, X.1.2.2.1, X.1.2.2.2 ++ [(x.toNatClampNeg, y.toNatClampNeg)])))
def aForget (X : Xs) : Int32 × Xs := (nI X.1.2.2.2.length, Xk X (X.1.1, X.1.2.1, X.1.2.2.1, []))
theorem aForce_R {X : Xs} (hX : XI X) {x : Int32} : XI (aForce X x).2 := by
  have hl := hX.1.2.2.2.2.2.2.1
  unfold aForce
  rcases frI_cases (n := X.1.2.1.1.length) (by omega) x with ⟨-, h⟩ | ⟨-, -, h⟩ | ⟨i, hi, -, h⟩
  · rw [h]
    obtain ⟨k1, k2, k3, k4, k5, k6, k7, k8, k9⟩ := hX.1
    exact ⟨⟨k1, k2, k3, k4, k5, k6, k7, fun q z => (by cases z), k9⟩, hX.2⟩
  · rw [h]; exact hX
  · rw [h]
    obtain ⟨k1, k2, k3, k4, k5, k6, k7, k8, k9⟩ := hX.1
    exact ⟨⟨k1, k2, k3, k4, k5, k6, k7, fun q z => by have : some i = some q := z; rw [← Option.some.inj this]; exact hi, k9⟩, hX.2⟩
theorem aImage_R {X : Xs} (hX : XI X) {x : Int32} : XI (aImage X x).2 := by
  unfold aImage
  split
  · exact hX
  · refine ⟨hX.1, hX.2.1, hX.2.2.1, fun k K hK => ?_, hX.2.2.2.2⟩
    have hK2 : uI X.2.2.1 x.toNatClampNeg X.1 k = some K := hK
    unfold uI at hK2
    split at hK2
    · rw [← Option.some.inj hK2]; exact hX.1
    · exact hX.2.2.2.1 k K hK2
theorem aBack_R {X : Xs} (hX : XI X) {x : Int32} : XI (aBack X x).2 := by
  unfold aBack
  split
  · exact hX
  · cases h : X.2.2.1 x.toNatClampNeg with
    | none => exact hX
    | some K => exact ⟨hX.2.2.2.1 _ K h, Nat.zero_le _, fun q hq => by simp [Xcl, Xgr, Xk] at hq, hX.2.2.2⟩
theorem aSeen_R {X : Xs} (hX : XI X) {x y : Int32} : XI (aSeen X x y).2 := by
  unfold aSeen
  by_cases hb : (x < 0 ∨ nI 64 ≤ x) ∨ y < 0 ∨ nI 2 ≤ y
  · rw [if_pos hb]; exact hX
  · rw [if_neg hb]
    split
    · exact hX
    · rename_i h6
      obtain ⟨i, hi, rfl⟩ : ∃ i, i < 64 ∧ x = nI i := by
        rcases pk_ix x (show 64 < 2 ^ 31 by omega) with q | q | q
        · exact absurd (Or.inl (Or.inl q)) hb
        · exact absurd (Or.inl (Or.inr q)) hb
        · exact q
      obtain ⟨v, hv, rfl⟩ : ∃ v, v < 2 ∧ y = nI v := by
        rcases pk_ix y (show 2 < 2 ^ 31 by omega) with q | q | q
        · exact absurd (Or.inr (Or.inl q)) hb
        · exact absurd (Or.inr (Or.inr q)) hb
        · exact q
      rw [nI_clamp (by omega), nI_clamp (by omega)]
      obtain ⟨k1, k2, k3, k4, k5, k6, k7, k8, k9⟩ := hX.1
      refine ⟨⟨k1, k2, ?_, fun q hq => ?_, k5, k6, k7, k8, k9⟩, hX.2⟩
      · show (X.1.2.2.2 ++ [(i, v)]).length ≤ 6
        rw [List.length_append]; simp; omega
      · rcases List.mem_append.mp (show q ∈ X.1.2.2.2 ++ [(i, v)] from hq) with z | z
        · exact k4 q z
        · rw [List.mem_singleton.mp z]; exact ⟨hi, by show v ≤ 1; omega⟩
theorem aForget_R {X : Xs} (hX : XI X) : XI (aForget X).2 := by
  obtain ⟨k1, k2, k3, k4, k5, k6, k7, k8, k9⟩ := hX.1
  exact ⟨⟨k1, k2, Nat.zero_le _, fun q hq => by simp [aForget, Xk] at hq, k5, k6, k7, k8, k9⟩, hX.2⟩
section MLAWS
variable {E : Nat × (Nat → Int32)} {d : Nat} {A : xH} {al : Nat → Nat → Int64} {fl : Nat → Int32} {ar : Nat → Nat → Int32} {X : Xs}
theorem m_isLaw (hA : 69 ≤ A.length) {n : Nat} (hn : n ≤ 6) (h9 : ar 2 979 = nI n) {x : Int32} : xC E (d + 2) 218 [.ref 48, .int x] (mw A fl ar al) = some (some (.int (nI (if frI n x = none then 0 else 1))), mw A fl ar al) := by
  rw [k218 _ _ _ _ _ (m_k48 hA)]
  simp (disch := first | omega | exact m_k48 hA) only [Option.bind_some, xI_s, xV_s, m_r48_1 hA, m_r48_2 hA, m_r48_5 hA, m_a50 hA, m_s50 hA, m_l50 hA, k169, zl, pk_mul, nI_add, Nat.add_zero, sar_s, sar_sar, h9]
  rw [k154]
  rcases frI_cases (n := n) (by omega) x with ⟨hx, h⟩ | ⟨hx1, hx, h⟩ | ⟨i, hi, rfl, h⟩
  · rw [h, hx, if_neg (show ¬ (-1 : Int32) < -nI 1 by decide), if_neg (show ¬ nI n - nI 1 < (-1 : Int32) by
      cases n with
      | zero => decide
      | succ m => rw [pk_sub (by omega), Nat.add_sub_cancel]; exact fun z => nI_pos (n := m) (by omega) (Int32.lt_trans z (by decide))), xI_s, Option.bind_some, if_pos (show x01 (1 : Int32) = true by decide), if_neg (show ¬ (some none : Option (Option Nat)) = none by simp)]
    rfl
  · rw [h, if_pos rfl]
    by_cases q : x < 0
    · rw [if_pos (show x < -nI 1 from n_ltm1 q hx1), xI_s, Option.bind_some]; rfl
    · rw [if_neg (show ¬ x < -nI 1 from fun z => q (Int32.lt_trans z (by decide))), if_pos (n_pre (by omega) (hx.resolve_left q)), xI_s, Option.bind_some]; rfl
  · rw [h, if_neg (show ¬ nI i < -nI 1 from fun z => nI_pos (n := i) (by omega) (Int32.lt_trans z (by decide))), pk_sub (by omega), if_neg (nI_nlt (by omega) (by omega)), xI_s, Option.bind_some, if_pos (show x01 (1 : Int32) = true by decide), if_neg (show ¬ (some (some i) : Option (Option Nat)) = none by simp)]
    rfl
theorem isl1 {o : Option Nat} : ¬ nI (if (some o : Option (Option Nat)) = none then 0 else 1) = (0 : Int32) := by rw [if_neg (by simp)]; decide
theorem isl0 : nI (if (none : Option (Option Nat)) = none then 0 else 1) = (0 : Int32) := by rw [if_pos rfl]; rfl
theorem m_force (hA : 69 ≤ A.length) (h : MI fl ar X) (hX : XI X) {x : Int32} : ∃ fl' ar', xC E (d + 3) 219 [.ref 48, .int x] (mw A fl ar al) = some (some (.int (aForce X x).1), mw A fl' ar' al) ∧ MI fl' ar' (aForce X x).2 := by
  have hR := h.mr
  have hl := hR.2.2.2.2.2.1
  obtain ⟨f2, a2, r1, r2, -⟩ := m_refuses (E := E) (d := d + 1) (al := al) (c := 2) (x := -2) hA h (by omega) rfl (by decide)
  rw [k219 _ _ _ _ _ (m_k48 hA), m_isLaw hA hl hR.2.2.2.2.1, xI_s, Option.bind_some]
  unfold aForce
  have good : ∀ q : Option Nat, (∀ p, q = some p → p < X.1.2.1.1.length) → x = oI q → ∃ fl' ar', ((gN (mw A fl ar al) 48 9 2).bind fun n3 => (aI 0 (mw A fl ar al) n3 (980 : Int32)).bind fun x4 => (gN (mw A fl ar al) 48 9 2).bind fun n5 => (sI 0 (mw A fl ar al) n5 (980 : Int32) x).bind fun A6 => (xI (xC E (d + 2) 158 [.ref 48, .int x4] A6)).bind fun q7 => some (some (Value.int q7.1), q7.2)) = some (some (.int (oI X.1.2.1.2.1)), mw A fl' ar' al) ∧ MI fl' ar' (Xgr (Xk X (X.1.1, (X.1.2.1.1, q, X.1.2.1.2.2), X.1.2.2))) := by
    intro q hq hx
    obtain ⟨h1, h2, h3, h4, h5⟩ := h.1
    have hK : MK (upd (ar 2) 980 x) (X.1.1, (X.1.2.1.1, q, X.1.2.1.2.2), X.1.2.2) := by
      refine ⟨h1.cong (fun j hj => upd_n (by omega)), h2.frc (fun j j1 j2 => upd_n j1) (by rw [upd_s, hx]) hq, (upd_n (by omega)).trans h3, (upd_n (by omega)).trans h4, fun i p hp => ?_⟩
      have hi : i < X.1.2.2.2.length := (List.getElem?_eq_some_iff.mp hp).1
      have := hX.1.2.2.1
      rw [upd_n (by omega), upd_n (by omega)]; exact h5 i p hp
    obtain ⟨g1, g2⟩ := m_good (E := E) (d := d + 1) (al := al) (x := oI X.1.2.1.2.1) hA (h.kp hK)
    refine ⟨_, _, ?_, g2⟩
    have h80 : ar 2 980 = oI X.1.2.1.2.1 := hR.2.2.2.2.2.2.1
    simp (disch := first | omega | exact m_k48 hA) only [Option.bind_some, xI_s, xV_s, m_r48_1 hA, m_r48_2 hA, m_r48_5 hA, m_a50 hA, m_s50 hA, m_l50 hA, k169, zl, pk_mul, nI_add, Nat.add_zero, sar_s, sar_sar, h80]
    rw [g1, xI_s, Option.bind_some]; rfl
  rcases frI_cases (n := X.1.2.1.1.length) (by omega) x with ⟨hx, hf⟩ | ⟨-, -, hf⟩ | ⟨i, hi, hx, hf⟩
  · rw [hf]
    dsimp only
    rw [if_neg isl1]
    exact good none (fun p z => by cases z) hx
  · rw [hf]
    dsimp only
    rw [if_pos isl0]
    exact ⟨f2, a2, by rw [r1, xI_s, Option.bind_some], r2⟩
  · rw [hf]
    dsimp only
    rw [if_neg isl1]
    exact good (some i) (fun p z => by rw [← Option.some.inj z]; exact hi) hx
theorem m_compare (hA : 69 ≤ A.length) (h : MI fl ar X) (hX : XI X) {x y : Int32} : ∃ fl' ar', xC E (d + 48) 281 [.ref 48, .int x, .int y] (mw A fl ar al) = some (some (.int (aCompare X x y)), mw A fl' ar' al) ∧ MI fl' ar' X := by
  have hR := h.mr
  have hM := h.ms
  have hl := hR.2.2.2.2.2.1
  have h80 : ar 2 980 = oI X.1.2.1.2.1 := hR.2.2.2.2.2.2.1
  rw [k281 _ _ _ _ _ _ (m_k48 hA), m_isLaw hA hl hR.2.2.2.2.1, xI_s, Option.bind_some]
  unfold aCompare
  have good : ∀ q : Option Nat, (∀ p, q = some p → p < X.1.2.1.1.length) → x = oI q → ∃ fl' ar', ((xI (xC E (d + 47) 162 [.int y] (mw A fl ar al))).bind fun q2 => if q2.1 = 0 then some (some (Value.int (-1 : Int32)), q2.2) else (gN q2.2 48 9 2).bind fun n3 => (aI 0 q2.2 n3 (980 : Int32)).bind fun x4 => (gN q2.2 48 9 2).bind fun n5 => (sI 0 q2.2 n5 (980 : Int32) x).bind fun A6 => (xI (xC E (d + 47) 233 [.ref 48, .int y] A6)).bind fun q7 => (gN q7.2 48 9 2).bind fun n8 => (sI 0 q7.2 n8 (980 : Int32) x4).bind fun A9 => some (some (Value.int q7.1), A9)) = some (some (.int (if y < 0 ∨ nI 24 ≤ y then -1 else nI (costF X.1.2.1.1 q (cws (X.1.1.1 y.toNatClampNeg) y.toNatClampNeg X.1.1.2.2.2.2 X.1.2.1.2.2.1 (-1) (-1))))), mw A fl' ar' al) ∧ MI fl' ar' X := by
    intro q hq hx
    rw [m_isBucket, xI_s, Option.bind_some]
    dsimp only
    rcases pk_ix y (show 24 < 2 ^ 31 by omega) with hy | hy | ⟨b, hb, rfl⟩
    · rw [if_pos (n_liesI (n := 23) (by omega) (Or.inl hy)), if_pos (by rfl), if_pos (Or.inl hy)]
      exact ⟨fl, ar, rfl, h⟩
    · rw [if_pos (n_liesI (n := 23) (by omega) (Or.inr hy)), if_pos (by rfl), if_pos (Or.inr hy)]
      exact ⟨fl, ar, rfl, h⟩
    · rw [if_neg (n_liesN (by omega) (by omega)), if_neg (show ¬ nI 1 = 0 by decide), if_neg (n_out (by omega) hb), nI_clamp (by omega)]
      have M1 : MS ((sar ar 2 (upd (ar 2) 980 x)) 2) X.1.1 := by rw [sar_s]; exact hM.cong (fun j hj => upd_n (by omega))
      have R1 : MRR ((sar ar 2 (upd (ar 2) 980 x)) 2) (X.1.2.1.1, q, X.1.2.1.2.2) := by rw [sar_s]; exact hR.frc (fun j j1 j2 => upd_n j1) (by rw [upd_s, hx]) hq
      obtain ⟨fl', ga, c1, c2⟩ := m_costsOf (E := E) (d := d) (fl := fl) (al := al) hA M1 R1 hb (hX.1.1.1.1.2 b).2.2.1 hX.1.1.1.2.2.2.2.1
      refine ⟨fl', sar (sar (sar ar 2 (upd (ar 2) 980 x)) 26 ga) 2 (upd (upd (ar 2) 980 x) 980 (oI X.1.2.1.2.1)), ?_, ?_⟩
      · simp (disch := first | omega | exact m_k48 hA) only [Option.bind_some, xI_s, xV_s, m_r48_1 hA, m_r48_2 hA, m_r48_5 hA, m_a50 hA, m_s50 hA, m_l50 hA, k169, zl, pk_mul, nI_add, Nat.add_zero, sar_s, sar_sar, h80]
        rw [c1, xI_s, Option.bind_some]
        simp (disch := first | omega | exact m_k48 hA) only [Option.bind_some, xI_s, xV_s, m_r48_1 hA, m_r48_2 hA, m_r48_5 hA, m_a50 hA, m_s50 hA, m_l50 hA, k169, zl, pk_mul, nI_add, Nat.add_zero, sar_s, sar_sar, m_r48_26 hA, m_a60 hA, m_s60 hA, sar_n]
        rfl
      · have e9 : upd (upd (ar 2) 980 x) 980 (oI X.1.2.1.2.1) = ar 2 := by rw [upd_upd, ← h80, upd_self]
        rw [e9]
        exact h.st (S := X.1.1) (by rw [sar_s]; exact hM) c2 (fun i _ => by rw [sar_s]) (fun j q1 _ q3 _ _ _ => by rw [sar_n q1, sar_n q3, sar_n q1])
  rcases frI_cases (n := X.1.2.1.1.length) (by omega) x with ⟨hx, hf⟩ | ⟨-, -, hf⟩ | ⟨i, hi, hx, hf⟩
  · rw [hf]
    dsimp only
    rw [if_neg isl1]
    exact good none (fun p z => by cases z) hx
  · rw [hf]
    dsimp only
    rw [if_pos isl0]
    exact ⟨fl, ar, rfl, h⟩
  · rw [hf]
    dsimp only
    rw [if_neg isl1]
    exact good (some i) (fun p z => by rw [← Option.some.inj z]; exact hi) hx
theorem m_im17 (hA : 69 ≤ A.length) {k : Nat} (hk : k < 2) : ∀ (c i : Nat), i + c = 6588 → xD E (d + 2) 167 17 [.ref 48, .int (nI k), .int (nI i)] [] (mw A fl (sar ar 3 (cpx (ar 2) (ar 3) 0 (6588 * k) i)) al) = (xI (xC E (d + 1) 158 [.ref 48, .int (0 : Int32)] (mw A fl (sar (sar ar 3 (cpx (ar 2) (ar 3) 0 (6588 * k) 6588)) 4 (upd (ar 4) k 1)) al))).bind fun q3 => some (some (Value.int q3.1), q3.2)
  | 0, i, hi => by
    rw [e167_17, if_pos (by rw [zl]; exact nI_le (by omega) (by omega)), show i = 6588 by omega, m_r48_4 hA, Option.bind_some, m_s52 hA hk, Option.bind_some, show xnar 2 (1 : Int32) = 1 from by decide, sar_n (by omega : (4 : Nat) ≠ 3)]
  | c + 1, i, hi => by
    have hst := cpx_step (ar 2) (ar 3) 0 (6588 * k) i
    rw [Nat.zero_add] at hst
    rw [e167_17, if_neg (by rw [zl]; exact nI_ge (by omega) (by omega))]
    have ih := m_im17 hA hk c (i + 1) (by omega)
    simp (disch := first | omega | exact m_k48 hA) only [Option.bind_some, xI_s, xV_s, m_r48_1 hA, m_r48_2 hA, m_r48_5 hA, m_a50 hA, m_s50 hA, m_l50 hA, k169, zl, pk_mul, nI_add, Nat.add_zero, sar_s, sar_sar, m_r48_3 hA, m_s51 hA, sar_n, hst] at ih ⊢
    exact ih
theorem m_image (hA : 69 ≤ A.length) (h : MI fl ar X) (hX : XI X) {x : Int32} : ∃ fl' ar', xC E (d + 2) 167 [.ref 48, .int x] (mw A fl ar al) = some (some (.int (aImage X x).1), mw A fl' ar' al) ∧ MI fl' ar' (aImage X x).2 := by
  obtain ⟨f1, a1, r1, r2, -⟩ := m_refuses (E := E) (d := d) (al := al) (c := 1) (x := -1) hA h (by omega) rfl (by decide)
  rw [k167 _ _ _ _ _ (m_k48 hA), show (0 : Int32) = nI 0 from rfl, show (1 : Int32) = nI 1 from rfl, m_liesI, xI_s, Option.bind_some]
  dsimp only
  unfold aImage
  rcases pk_ix x (show 2 < 2 ^ 31 by omega) with hx | hx | ⟨k, hk, rfl⟩
  · rw [if_pos (n_liesI (n := 1) (by omega) (Or.inl hx)), if_pos rfl, if_pos (Or.inl hx)]
    exact ⟨f1, a1, by rw [show (-nI 1 : Int32) = -1 from rfl, r1, xI_s, Option.bind_some], r2⟩
  · rw [if_pos (n_liesI (n := 1) (by omega) (Or.inr hx)), if_pos rfl, if_pos (Or.inr hx)]
    exact ⟨f1, a1, by rw [show (-nI 1 : Int32) = -1 from rfl, r1, xI_s, Option.bind_some], r2⟩
  · rw [if_neg (n_liesN (by omega) (by omega)), if_neg (show ¬ nI 1 = nI 0 by decide), if_neg (n_out (by omega) hk), nI_clamp (by omega)]
    have hM : MI fl (sar (sar ar 3 (cpx (ar 2) (ar 3) 0 (6588 * k) 6588)) 4 (upd (ar 4) k 1)) (X.1, X.2.1, uI X.2.2.1 k X.1, X.2.2.2) := by
      obtain ⟨h1, ⟨h3, h4⟩, h5, ⟨h6, h7⟩, h8, h12, h13, h14⟩ := h
      refine ⟨by rw [sar_n (by omega), sar_n (by omega)]; exact h1, ⟨h3, by rw [sar_n (by omega), sar_n (by omega)]; exact h4⟩, ?_, ⟨h6, by unfold tbR; rw [sar_n (by omega), sar_n (by omega)]; exact h7⟩, h8, by rw [sar_n (by omega), sar_n (by omega)]; exact h12, by rw [sar_n (by omega), sar_n (by omega)]; exact h13, by unfold wdR; rw [sar_n (by omega), sar_n (by omega)]; exact h14⟩
      rw [sar_n (by omega : (3 : Nat) ≠ 4), sar_s, sar_s]
      intro j hj
      show (uI X.2.2.1 k X.1 j = none → _) ∧ ∀ K, uI X.2.2.1 k X.1 j = some K → _
      unfold uI
      by_cases e : j = k
      · subst e
        rw [if_pos rfl]
        refine ⟨fun z => (by cases z), fun K hK => ⟨upd_s, ?_⟩⟩
        rw [← Option.some.inj hK]
        refine h1.cong hX.1.2.2.1 (fun q hq => ?_)
        show cpx (ar 2) (ar 3) 0 (6588 * j) 6588 (6588 * j + q) = ar 2 q
        rw [cpx_in hq, Nat.zero_add]
      · rw [if_neg e]
        obtain ⟨z1, z2⟩ := h5 j hj
        refine ⟨fun z => (upd_n e).trans (z1 z), fun K hK => ⟨(upd_n e).trans (z2 K hK).1, ?_⟩⟩
        refine (z2 K hK).2.cong ((hX.2.2.2.1 j K hK).2.2.1) (fun q hq => ?_)
        show cpx (ar 2) (ar 3) 0 (6588 * k) 6588 (6588 * j + q) = ar 3 (6588 * j + q)
        exact cpx_out (by omega)
    obtain ⟨g1, g2⟩ := m_good (E := E) (d := d) (al := al) (x := 0) hA hM
    have h17 := m_im17 (E := E) (d := d) (fl := fl) (ar := ar) (al := al) (k := k) hA hk 6588 0 rfl
    rw [cpx_0, sar_self, g1, xI_s, Option.bind_some] at h17
    exact ⟨_, _, h17, g2⟩
theorem m_bk33 (hA : 69 ≤ A.length) {k : Nat} (hk : k < 2) : ∀ (c i : Nat), i + c = 6588 → xD E (d + 3) 168 33 [.ref 48, .int (nI k), .int (nI i)] [] (mw A fl (sar ar 2 (cpx (ar 3) (ar 2) (6588 * k) 0 i)) al) = (xI (xC E (d + 2) 159 [.ref 48, .int (0 : Int32)] (mw A fl (sar ar 2 (cpx (ar 3) (ar 2) (6588 * k) 0 6588)) al))).bind fun q1 => some (some (Value.int q1.1), q1.2)
  | 0, i, hi => by
    rw [e168_33, if_pos (by rw [zl]; exact nI_le (by omega) (by omega)), show i = 6588 by omega]
  | c + 1, i, hi => by
    have hst := cpx_step (ar 3) (ar 2) (6588 * k) 0 i
    rw [Nat.zero_add] at hst
    rw [e168_33, if_neg (by rw [zl]; exact nI_ge (by omega) (by omega))]
    have ih := m_bk33 hA hk c (i + 1) (by omega)
    simp (disch := first | omega | exact m_k48 hA) only [Option.bind_some, xI_s, xV_s, m_r48_1 hA, m_r48_2 hA, m_r48_5 hA, m_a50 hA, m_s50 hA, m_l50 hA, k169, zl, pk_mul, nI_add, Nat.add_zero, sar_s, sar_sar, m_r48_3 hA, m_a51 hA, sar_n, hst] at ih ⊢
    exact ih
theorem m_back (hA : 69 ≤ A.length) (h : MI fl ar X) (hX : XI X) {x : Int32} : ∃ fl' ar', xC E (d + 3) 168 [.ref 48, .int x] (mw A fl ar al) = some (some (.int (aBack X x).1), mw A fl' ar' al) ∧ MI fl' ar' (aBack X x).2 := by
  obtain ⟨f1, a1, r1, r2, -⟩ := m_refuses (E := E) (d := d + 1) (al := al) (c := 1) (x := -1) hA h (by omega) rfl (by decide)
  obtain ⟨f2, a2, r3, r4, -⟩ := m_refuses (E := E) (d := d + 1) (al := al) (c := 2) (x := -2) hA h (by omega) rfl (by decide)
  have hli : ∀ H : xH, xC E (d + 2) 154 [.int x, .int (0 : Int32), .int (1 : Int32)] H = some (some (.int (nI (if x < nI 0 ∨ nI 1 < x then 0 else 1))), H) := fun H => m_liesI
  rw [k168 _ _ _ _ _ (m_k48 hA), hli, xI_s, Option.bind_some]
  dsimp only
  unfold aBack
  rcases pk_ix x (show 2 < 2 ^ 31 by omega) with hx | hx | ⟨k, hk, rfl⟩
  · rw [if_pos (n_liesI (n := 1) (by omega) (Or.inl hx)), if_pos (by rfl), if_pos (Or.inl hx)]
    exact ⟨f1, a1, by rw [r1, xI_s, Option.bind_some], r2⟩
  · rw [if_pos (n_liesI (n := 1) (by omega) (Or.inr hx)), if_pos (by rfl), if_pos (Or.inr hx)]
    exact ⟨f1, a1, by rw [r1, xI_s, Option.bind_some], r2⟩
  · rw [if_neg (n_liesN (by omega) (by omega)), if_neg (show ¬ nI 1 = 0 by decide), if_neg (n_out (by omega) hk), nI_clamp (by omega), m_r48_4 hA, Option.bind_some, m_a52 hA hk, Option.bind_some]
    obtain ⟨z1, z2⟩ := h.2.2.1 k hk
    cases hI : X.2.2.1 k with
    | none =>
      rw [if_pos (z1 hI)]
      exact ⟨f2, a2, by rw [r3, xI_s, Option.bind_some], r4⟩
    | some K =>
      obtain ⟨z3, z4⟩ := z2 K hI
      rw [z3, if_neg (by decide)]
      have hM := h.kp (g := cpx (ar 3) (ar 2) (6588 * k) 0 6588) (z4.cong ((hX.2.2.2.1 k K hI).2.2.1) (fun q hq => by
        have := cpx_in (src := ar 3) (dst := ar 2) (fr := 6588 * k) (to := 0) (n := 6588) hq
        rw [Nat.zero_add] at this
        exact this))
      obtain ⟨fl', s1, s2⟩ := m_settled (E := E) (d := d) (al := al) (x := 0) hA hM
      have h33 := m_bk33 (E := E) (d := d) (fl := fl) (ar := ar) (al := al) (k := k) hA hk 6588 0 rfl
      rw [cpx_0, sar_self, s1, xI_s, Option.bind_some] at h33
      exact ⟨_, _, h33, s2⟩
theorem m_seen (hA : 69 ≤ A.length) (h : MI fl ar X) (hX : XI X) {x y : Int32} : ∃ fl' ar', xC E (d + 2) 275 [.ref 48, .int x, .int y] (mw A fl ar al) = some (some (.int (aSeen X x y).1), mw A fl' ar' al) ∧ MI fl' ar' (aSeen X x y).2 := by
  obtain ⟨f1, a1, r1, r2, -⟩ := m_refuses (E := E) (d := d) (al := al) (c := 1) (x := -1) hA h (by omega) rfl (by decide)
  obtain ⟨f5, a5, r3, r4, -⟩ := m_refuses (E := E) (d := d) (al := al) (c := 5) (x := -5) hA h (by omega) rfl (by decide)
  have hli : ∀ H : xH, xC E (d + 1) 154 [.int x, .int (0 : Int32), .int (63 : Int32)] H = some (some (.int (nI (if x < nI 0 ∨ nI 63 < x then 0 else 1))), H) := fun H => m_liesI
  have hli2 : ∀ H : xH, xC E (d + 1) 154 [.int y, .int (0 : Int32), .int (1 : Int32)] H = some (some (.int (nI (if y < nI 0 ∨ nI 1 < y then 0 else 1))), H) := fun H => m_liesI
  rw [k275 _ _ _ _ _ _ (m_k48 hA), hli, xI_s, Option.bind_some]
  dsimp only
  unfold aSeen
  by_cases hx : x < 0 ∨ nI 64 ≤ x
  · rw [if_pos (n_liesI (n := 63) (by omega) hx), if_pos (by rfl), if_pos (Or.inl hx)]
    exact ⟨f1, a1, by rw [r1, xI_s, Option.bind_some], r2⟩
  · obtain ⟨i, hi, rfl⟩ : ∃ i, i < 64 ∧ x = nI i := by
      rcases pk_ix x (show 64 < 2 ^ 31 by omega) with q | q | q
      · exact absurd (Or.inl q) hx
      · exact absurd (Or.inr q) hx
      · exact q
    rw [if_neg (n_liesN (by omega) (by omega)), if_neg (show ¬ nI 1 = 0 by decide), hli2, xI_s, Option.bind_some]
    dsimp only
    by_cases hy : y < 0 ∨ nI 2 ≤ y
    · rw [if_pos (n_liesI (n := 1) (by omega) hy), if_pos (by rfl), if_pos (Or.inr hy)]
      exact ⟨f1, a1, by rw [r1, xI_s, Option.bind_some], r2⟩
    · obtain ⟨v, hv, rfl⟩ : ∃ v, v < 2 ∧ y = nI v := by
        rcases pk_ix y (show 2 < 2 ^ 31 by omega) with q | q | q
        · exact absurd (Or.inl q) hy
        · exact absurd (Or.inr q) hy
        · exact q
      rw [if_neg (n_liesN (by omega) (by omega)), if_neg (show ¬ nI 1 = 0 by decide), if_neg (fun z => z.elim hx hy), nI_clamp (by omega), nI_clamp (by omega)]
      obtain ⟨h1, h2, h3, h4, h5⟩ := h.1
      have hl6 := hX.1.2.2.1
      generalize hn : X.1.2.2.2.length = n at *
      by_cases e6 : n = 6
      · rw [if_pos e6]
        refine ⟨f5, a5, ?_, r4⟩
        simp (disch := first | omega | exact m_k48 hA) only [Option.bind_some, xI_s, xV_s, m_r48_1 hA, m_r48_2 hA, m_r48_5 hA, m_a50 hA, m_s50 hA, m_l50 hA, k169, zl, pk_mul, nI_add, Nat.add_zero, sar_s, sar_sar, h4]
        rw [if_pos (by rw [e6]), show (-nI 5 : Int32) = -5 from rfl, r3, xI_s, Option.bind_some]
      · rw [if_neg e6]
        have hK : MK (upd (upd (upd (ar 2) (963 + 2 * n) (nI i)) (963 + 2 * n + 1) (nI v)) 978 (nI (n + 1))) (X.1.1, X.1.2.1, X.1.2.2.1, X.1.2.2.2 ++ [(i, v)]) := by
          have hout : ∀ j, (j < 963 + 2 * n ∨ 963 + 2 * n + 2 ≤ j) → j ≠ 978 → upd (upd (upd (ar 2) (963 + 2 * n) (nI i)) (963 + 2 * n + 1) (nI v)) 978 (nI (n + 1)) j = ar 2 j := fun j j1 j2 => by rw [upd_n j2, upd_n (by omega), upd_n (by omega)]
          refine ⟨h1.cong (fun j hj => hout j (by omega) (by omega)), ?_, (hout 975 (by omega) (by omega)).trans h3, ?_, fun j q hq => ?_⟩
          · exact h2.chg (fun j hj => hout j (by omega) (by omega)) ((hout 976 (by omega) (by omega)).trans h2.1) h2.2.1 ((hout 977 (by omega) (by omega)).trans h2.2.2.1) h2.2.2.2.1
          · show _ = nI (X.1.2.2.2 ++ [(i, v)]).length
            rw [List.length_append, hn]; exact upd_s
          · have hq2 : (X.1.2.2.2 ++ [(i, v)])[j]? = some q := hq
            by_cases e : j = n
            · rw [e] at hq2 ⊢
              rw [List.getElem?_append_right (by omega), show n - X.1.2.2.2.length = 0 by omega] at hq2
              cases hq2
              exact ⟨by rw [upd_n (by omega), upd_n (by omega)]; exact upd_s, by rw [upd_n (by omega)]; exact upd_s⟩
            · have hj : j < n := by
                have := (List.getElem?_eq_some_iff.mp hq2).1
                rw [List.length_append] at this
                simp at this
                omega
              rw [List.getElem?_append_left (by omega)] at hq2
              rw [hout _ (by omega) (by omega), hout _ (by omega) (by omega)]; exact h5 j q hq2
        obtain ⟨g1, g2⟩ := m_good (E := E) (d := d) (al := al) (x := nI (n + 1)) hA (h.kp hK)
        have h78 : upd (upd (ar 2) (963 + 2 * n) (nI i)) (963 + 2 * n + 1) (nI v) 978 = nI n := by rw [upd_n (by omega), upd_n (by omega)]; exact h4
        refine ⟨_, _, ?_, g2⟩
        simp (disch := first | omega | exact m_k48 hA) only [Option.bind_some, xI_s, xV_s, m_r48_1 hA, m_r48_2 hA, m_r48_5 hA, m_a50 hA, m_s50 hA, m_l50 hA, k169, zl, pk_mul, nI_add, Nat.add_zero, sar_s, sar_sar, h4]
        rw [if_neg (fun z => e6 ((nI_eq (b := 6) (by omega) (by omega)).mp z))]
        simp (disch := first | omega | exact m_k48 hA) only [Option.bind_some, xI_s, xV_s, m_r48_1 hA, m_r48_2 hA, m_r48_5 hA, m_a50 hA, m_s50 hA, m_l50 hA, k169, zl, pk_mul, nI_add, Nat.add_zero, sar_s, sar_sar, h78]
        rw [e275_93]
        simp (disch := first | omega | exact m_k48 hA) only [Option.bind_some, xI_s, xV_s, m_r48_1 hA, m_r48_2 hA, m_r48_5 hA, m_a50 hA, m_s50 hA, m_l50 hA, k169, zl, pk_mul, nI_add, Nat.add_zero, sar_s, sar_sar, upd_s]
        rw [g1, xI_s, Option.bind_some]; rfl
theorem m_forget (hA : 69 ≤ A.length) (h : MI fl ar X) (hX : XI X) : ∃ fl' ar', xC E (d + 1) 276 [.ref 48] (mw A fl ar al) = some (some (.int (aForget X).1), mw A fl' ar' al) ∧ MI fl' ar' (aForget X).2 := by
  obtain ⟨h1, h2, h3, h4, h5⟩ := h.1
  have hK : MK (upd (ar 2) 978 (nI 0)) (X.1.1, X.1.2.1, X.1.2.2.1, []) := ⟨h1.cong (fun j hj => upd_n (by omega)), h2.chg (fun j hj => upd_n (by omega)) ((upd_n (by omega)).trans h2.1) h2.2.1 ((upd_n (by omega)).trans h2.2.2.1) h2.2.2.2.1, (upd_n (by omega)).trans h3, upd_s, fun i q hq => by simp at hq⟩
  refine ⟨fl, _, ?_, h.kp hK⟩
  rw [k276 _ _ _ _ (m_k48 hA)]
  simp (disch := first | omega | exact m_k48 hA) only [Option.bind_some, xI_s, xV_s, m_r48_1 hA, m_r48_2 hA, m_r48_5 hA, m_a50 hA, m_s50 hA, m_l50 hA, k169, zl, pk_mul, nI_add, Nat.add_zero, sar_s, sar_sar, h4]
  rfl
theorem m_tears (hA : 69 ≤ A.length) (h : MI fl ar X) : xC E (d + 1) 190 [.ref 48] (mw A fl ar al) = some (some (.int X.2.2.2.2.1.2.1), mw A fl ar al) := by
  rw [k190 _ _ _ _ (m_k48 hA), m_g48_6 hA, Option.bind_some, h.2.2.2.2.1.2.1]
theorem m_fault (hA : 69 ≤ A.length) (h : MI fl ar X) : xC E (d + 1) 217 [.ref 48] (mw A fl ar al) = some (some (.int X.2.2.2.2.1.2.2.1), mw A fl ar al) := by
  rw [k217 _ _ _ _ (m_k48 hA), m_g48_14 hA, Option.bind_some, h.2.2.2.2.1.2.2.1]
theorem m_stopped (hA : 69 ≤ A.length) (h : MI fl ar X) : xC E (d + 1) 282 [.ref 48] (mw A fl ar al) = some (some (.int X.2.2.2.2.1.2.2.2), mw A fl ar al) := by
  rw [k282 _ _ _ _ (m_k48 hA), m_g48_36 hA, Option.bind_some, h.2.2.2.2.1.2.2.2]
theorem m_status (hA : 69 ≤ A.length) (h : MI fl ar X) : xC E (d + 1) 293 [.ref 48] (mw A fl ar al) = some (some (.int X.2.2.2.2.1.1), mw A fl ar al) := by
  rw [k293 _ _ _ _ (m_k48 hA), m_g48_0 hA, Option.bind_some, h.2.2.2.2.1.1]
def aDrawn (X : Xs) (x : Int32) : Int32 := if x < 0 ∨ nI 40 ≤ x then -1 else X.2.2.2.2.2.2 x.toNatClampNeg
theorem m_drawn (hA : 69 ≤ A.length) (h : MI fl ar X) {x : Int32} : xC E (d + 2) 291 [.ref 48, .int x] (mw A fl ar al) = some (some (.int (aDrawn X x)), mw A fl ar al) := by
  have hli : ∀ H : xH, xC E (d + 1) 154 [.int x, .int (0 : Int32), .int (39 : Int32)] H = some (some (.int (nI (if x < nI 0 ∨ nI 39 < x then 0 else 1))), H) := fun H => m_liesI
  rw [k291 _ _ _ _ _ (m_k48 hA), m_g48_44 hA, Option.bind_some]
  unfold aDrawn
  rcases h.2.2.2.2.2.2.1 with ⟨z1, z2⟩ | ⟨z1, z2⟩
  · rw [z1, if_pos rfl]
    rcases pk_ix x (show 40 < 2 ^ 31 by omega) with hx | hx | ⟨k, hk, rfl⟩
    · rw [if_pos (Or.inl hx)]
    · rw [if_pos (Or.inr hx)]
    · rw [if_neg (n_out (by omega) hk), nI_clamp (by omega), z2 k hk]
  · rw [z1, if_neg (by decide), hli, xI_s, Option.bind_some]
    dsimp only
    rcases pk_ix x (show 40 < 2 ^ 31 by omega) with hx | hx | ⟨k, hk, rfl⟩
    · rw [if_pos (n_liesI (n := 39) (by omega) (Or.inl hx)), if_pos (by rfl), if_pos (Or.inl hx)]
    · rw [if_pos (n_liesI (n := 39) (by omega) (Or.inr hx)), if_pos (by rfl), if_pos (Or.inr hx)]
    · rw [if_neg (n_liesN (by omega) (by omega)), if_neg (show ¬ nI 1 = 0 by decide), m_r48_43 hA, Option.bind_some, m_a68 hA hk, Option.bind_some, if_neg (n_out (by omega) hk), nI_clamp (by omega), z2 k hk]
end MLAWS
