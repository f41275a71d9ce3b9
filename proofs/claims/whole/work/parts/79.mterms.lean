/-! ===== the reference: terms, counts, laws in force, images ===== -/
def getT (K : Kp) (i : Nat) : Nat := if i = 0 then K.1.2.2.2.2 else if i = 1 then K.2.2.1 else if i = 2 then K.2.1.2.2.1 else K.2.1.2.2.2
def setT (K : Kp) (i v : Nat) : Kp := if i = 0 then ((K.1.1, K.1.2.1, K.1.2.2.1, K.1.2.2.2.1, v), K.2) else if i = 1 then (K.1, K.2.1, v, K.2.2.2) else if i = 2 then (K.1, (K.2.1.1, K.2.1.2.1, v, K.2.1.2.2.2), K.2.2) else (K.1, (K.2.1.1, K.2.1.2.1, K.2.1.2.2.1, v), K.2.2)
def mxT (i : Nat) : Nat := if i = 0 then 999 else if i = 1 then 10 else if i = 2 then 9 else 999
def tAt (i : Nat) : Nat := if i = 0 then 962 else if i = 1 then 975 else if i = 2 then 976 else 977
def trI (x : Int32) : Option Nat := if x = 0 then some 0 else if x = 1 then some 1 else if x = 2 then some 2 else if x = 3 then some 3 else none
def aTerms (X : Xs) (x y : Int32) : Int32 × Xs := match trI x with
  | none => (-1, Xrf X 1)
  | some i => if y < 0 ∨ nI (mxT i + 1) ≤ y then (-1, Xrf X 1) else if i = 3 ∧ keysN X.1.1.1 ≠ 0 then (-3, Xrf X 3) else (nI (getT X.1 i), Xgr (Xcl (Xk X (setT X.1 i y.toNatClampNeg))))
theorem trI_some {x : Int32} {i : Nat} (h : trI x = some i) : i < 4 ∧ x = nI i := by
  unfold trI at h
  split at h
  · rename_i e; cases h; exact ⟨by omega, e⟩
  · split at h
    · rename_i e; cases h; exact ⟨by omega, e⟩
    · split at h
      · rename_i e; cases h; exact ⟨by omega, e⟩
      · split at h
        · rename_i e; cases h; exact ⟨by omega, e⟩
        · cases h
theorem mxT_lt (i : Nat) : mxT i < 1000 := by unfold mxT; split <;> (try split) <;> (try split) <;> omega
theorem aTerms_R {X : Xs} (hX : XI X) {x y : Int32} : XI (aTerms X x y).2 := by
  unfold aTerms
  cases ht : trI x with
  | none => exact hX
  | some i =>
    dsimp only
    split
    · exact hX
    · rename_i hy
      split
      · exact hX
      · rename_i h3
        obtain ⟨v, hv, rfl⟩ : ∃ v, v < mxT i + 1 ∧ y = nI v := by
          have := mxT_lt i
          rcases pk_ix y (show mxT i + 1 < 2 ^ 31 by omega) with q | q | q
          · exact absurd (Or.inl q) hy
          · exact absurd (Or.inr q) hy
          · exact q
        have hm := mxT_lt i
        rw [nI_clamp (by omega)]
        obtain ⟨hi, -⟩ := trI_some ht
        have hK : KI (setT X.1 i v) := by
          obtain ⟨k1, k2, k3, k4, k5, k6, k7, k8, k9⟩ := hX.1
          rcases (show i = 0 ∨ i = 1 ∨ i = 2 ∨ i = 3 by omega) with rfl | rfl | rfl | rfl
          · exact ⟨SI_time k1 (show v ≤ 999 by have : v < 999 + 1 := hv; omega), k2, k3, k4, k5, k6, k7, k8, k9⟩
          · exact ⟨k1, show v ≤ 10 by have : v < 10 + 1 := hv; omega, k3, k4, k5, k6, k7, k8, k9⟩
          · exact ⟨k1, k2, k3, k4, k5, show v ≤ 9 by have : v < 9 + 1 := hv; omega, k7, k8, k9⟩
          · refine ⟨SI_salt k1 ?_, k2, k3, k4, show v < 1000 by have : v < 999 + 1 := hv; omega, k6, k7, k8, k9⟩
            cases hk : keysN X.1.1.1 with
            | zero => exact hk
            | succ n => exact absurd ⟨rfl, by omega⟩ h3
        exact ⟨hK, Nat.zero_le _, fun q hq => by simp [Xcl, Xgr, Xk] at hq, hX.2.2.2⟩
section MTERMS
variable {E : Nat × (Nat → Int32)} {d : Nat} {A : xH} {al : Nat → Nat → Int64} {fl : Nat → Int32} {ar : Nat → Nat → Int32} {X : Xs}
theorem MRR.chg {f g : Nat → Int32} {R : Ru} {m t : Nat} (h : MRR f R) (hg : ∀ j, 979 ≤ j → g j = f j) (h6 : g 976 = nI m) (hm : m ≤ 9) (h7 : g 977 = nI t) (ht : t < 1000) : MRR g (R.1, R.2.1, m, t) := by
  obtain ⟨r1, r2, r3, r4, r5, r6, r7, r8, r9⟩ := h
  refine ⟨h6, hm, h7, ht, (hg _ (by omega)).trans r5, r6, (hg _ (by omega)).trans r7, r8, fun i L hi => ?_⟩
  obtain ⟨a, b, c1, c2, c3, c4, c5⟩ := r9 i L hi
  refine ⟨a, (hg _ (by omega)).trans b, c1, c2, c3, c4, fun j hj => ?_⟩
  obtain ⟨z1, w, z2, z3⟩ := c5 j hj
  exact ⟨(hg _ (by omega)).trans z1, w, (hg _ (by omega)).trans z2, z3⟩
theorem MRR.frc {f g : Nat → Int32} {R : Ru} {q : Option Nat} (h : MRR f R) (hg : ∀ j, j ≠ 980 → 963 ≤ j → g j = f j) (h0 : g 980 = oI q) (hq : ∀ p, q = some p → p < R.1.length) : MRR g (R.1, q, R.2.2) := by
  obtain ⟨r1, r2, r3, r4, r5, r6, r7, r8, r9⟩ := h
  refine ⟨(hg _ (by omega) (by omega)).trans r1, r2, (hg _ (by omega) (by omega)).trans r3, r4, (hg _ (by omega) (by omega)).trans r5, r6, h0, hq, fun i L hi => ?_⟩
  obtain ⟨a, b, c1, c2, c3, c4, c5⟩ := r9 i L hi
  refine ⟨a, (hg _ (by omega) (by omega)).trans b, c1, c2, c3, c4, fun j hj => ?_⟩
  obtain ⟨z1, w, z2, z3⟩ := c5 j hj
  exact ⟨(hg _ (by omega) (by omega)).trans z1, w, (hg _ (by omega) (by omega)).trans z2, z3⟩
theorem MK.get {f : Nat → Int32} {K : Kp} (h : MK f K) {i : Nat} (hi : i < 4) : f (tAt i) = nI (getT K i) := by
  obtain ⟨h1, h2, h3, h4, h5⟩ := h
  rcases (show i = 0 ∨ i = 1 ∨ i = 2 ∨ i = 3 by omega) with rfl | rfl | rfl | rfl
  · exact h1.ti
  · exact h3
  · exact h2.1
  · exact h2.2.2.1
theorem MK.set {f : Nat → Int32} {K : Kp} (h : MK f K) (hl : K.2.2.2.length ≤ 6) {i v : Nat} (hi : i < 4) (hv : v ≤ mxT i) : MK (upd f (tAt i) (nI v)) (setT K i v) := by
  obtain ⟨h1, h2, h3, h4, h5⟩ := h
  rcases (show i = 0 ∨ i = 1 ∨ i = 2 ∨ i = 3 by omega) with rfl | rfl | rfl | rfl
  · refine ⟨h1.setT v, h2.cong (fun j hj => upd_n (by show j ≠ 962; omega)), (upd_n (by decide)).trans h3, (upd_n (by decide)).trans h4, fun i q hq => ?_⟩
    rw [upd_n (by show _ ≠ 962; omega), upd_n (by show _ ≠ 962; omega)]; exact h5 i q hq
  · refine ⟨h1.cong (fun j hj => upd_n (by show j ≠ 975; omega)), ?_, upd_s, (upd_n (by decide)).trans h4, fun i q hq => ?_⟩
    · exact h2.chg (fun j hj => upd_n (by show j ≠ 975; omega)) ((upd_n (by decide)).trans h2.1) h2.2.1 ((upd_n (by decide)).trans h2.2.2.1) h2.2.2.2.1
    · have hi2 : i < K.2.2.2.length := (List.getElem?_eq_some_iff.mp hq).1
      rw [upd_n (by show _ ≠ 975; omega), upd_n (by show _ ≠ 975; omega)]; exact h5 i q hq
  · refine ⟨h1.cong (fun j hj => upd_n (by show j ≠ 976; omega)), ?_, (upd_n (by decide)).trans h3, (upd_n (by decide)).trans h4, fun i q hq => ?_⟩
    · exact h2.chg (fun j hj => upd_n (by show j ≠ 976; omega)) upd_s hv ((upd_n (by decide)).trans h2.2.2.1) h2.2.2.2.1
    · have hi2 : i < K.2.2.2.length := (List.getElem?_eq_some_iff.mp hq).1
      rw [upd_n (by show _ ≠ 976; omega), upd_n (by show _ ≠ 976; omega)]; exact h5 i q hq
  · refine ⟨h1.cong (fun j hj => upd_n (by show j ≠ 977; omega)), ?_, (upd_n (by decide)).trans h3, (upd_n (by decide)).trans h4, fun i q hq => ?_⟩
    · exact h2.chg (fun j hj => upd_n (by show j ≠ 977; omega)) ((upd_n (by decide)).trans h2.1) h2.2.1 upd_s (by have : v ≤ 999 := hv; omega)
    · have hi2 : i < K.2.2.2.length := (List.getElem?_eq_some_iff.mp hq).1
      rw [upd_n (by show _ ≠ 977; omega), upd_n (by show _ ≠ 977; omega)]; exact h5 i q hq
/-- what is kept has changed alone -/
theorem MI.kp (h : MI fl ar X) {g : Nat → Int32} {K : Kp} (hK : MK g K) : MI fl (sar ar 2 g) (Xk X K) := by
  obtain ⟨h1, ⟨h3, h4⟩, h5, ⟨h6, h7⟩, h8, h12, h13, h14⟩ := h
  refine ⟨by rw [sar_s]; exact hK, ⟨h3, by rw [sar_n (by omega)]; exact h4⟩, by rw [sar_n (by omega), sar_n (by omega)]; exact h5, ⟨h6, by unfold tbR; rw [sar_n (by omega)]; exact h7⟩, h8, by rw [sar_n (by omega)]; exact h12, by rw [sar_n (by omega)]; exact h13, by unfold wdR; rw [sar_n (by omega)]; exact h14⟩
def isTm (x y : Int32) : Nat := match trI x with
  | none => 0
  | some i => if y < nI 0 ∨ nI (mxT i) < y then 0 else 1
theorem m_isTerm {x y : Int32} : xC E (d + 2) 186 [.int x, .int y] A = some (some (.int (nI (isTm x y))), A) := by
  rw [k186]
  unfold isTm trI
  simp only [zl]
  by_cases e0 : x = nI 0
  · rw [if_pos e0, if_pos e0, m_liesI, xI_s, Option.bind_some]; dsimp only; rw [if_pos (by split <;> decide)]; rfl
  · rw [if_neg e0, if_neg e0]
    by_cases e1 : x = nI 1
    · rw [if_pos e1, if_pos e1, m_liesI, xI_s, Option.bind_some]; dsimp only; rw [if_pos (by split <;> decide)]; rfl
    · rw [if_neg e1, if_neg e1]
      by_cases e2 : x = nI 2
      · rw [if_pos e2, if_pos e2, m_liesI, xI_s, Option.bind_some]; dsimp only; rw [if_pos (by split <;> decide)]; rfl
      · rw [if_neg e2, if_neg e2]
        by_cases e3 : x = nI 3
        · rw [if_pos e3, if_pos e3, m_liesI, xI_s, Option.bind_some]; dsimp only; rw [if_pos (by split <;> decide)]; rfl
        · rw [if_neg e3, if_neg e3]
theorem m_termAt {i : Nat} (hi : i < 4) : xC E (d + 1) 187 [.int (nI i)] A = some (some (.int (nI (tAt i))), A) := by
  rw [k187]
  rcases (show i = 0 ∨ i = 1 ∨ i = 2 ∨ i = 3 by omega) with rfl | rfl | rfl | rfl
  · rw [if_pos (by rfl)]; rfl
  · rw [if_neg (by decide), if_pos (by rfl)]; rfl
  · rw [if_neg (by decide), if_neg (by decide), if_pos (by rfl)]; rfl
  · rw [if_neg (by decide), if_neg (by decide), if_neg (by decide)]; rfl
theorem tAt_lt {i : Nat} : tAt i < 978 := by unfold tAt; split <;> (try split) <;> (try split) <;> omega
theorem m_terms (hA : 69 ≤ A.length) (h : MI fl ar X) (hX : XI X) {x y : Int32} : ∃ fl' ar', xC E (d + 4) 188 [.ref 48, .int x, .int y] (mw A fl ar al) = some (some (.int (aTerms X x y).1), mw A fl' ar' al) ∧ MI fl' ar' (aTerms X x y).2 := by
  obtain ⟨f1, a1, r1, r2, -⟩ := m_refuses (E := E) (d := d + 2) (al := al) (c := 1) (x := -1) hA h (by omega) rfl (by decide)
  obtain ⟨f3, a3, r3, r4, -⟩ := m_refuses (E := E) (d := d + 2) (al := al) (c := 3) (x := -3) hA h (by omega) rfl (by decide)
  rw [k188 _ _ _ _ _ _ (m_k48 hA), m_isTerm, xI_s, Option.bind_some]
  unfold aTerms
  cases ht : trI x with
  | none =>
    rw [show isTm x y = 0 by unfold isTm; rw [ht]]
    dsimp only
    rw [if_pos (by rfl)]
    exact ⟨f1, a1, by rw [r1, xI_s, Option.bind_some], r2⟩
  | some i =>
    obtain ⟨hi, rfl⟩ := trI_some ht
    have hm := mxT_lt i
    dsimp only
    by_cases hy : y < 0 ∨ nI (mxT i + 1) ≤ y
    · rw [if_pos hy, show isTm (nI i) y = 0 by unfold isTm; rw [ht]; exact if_pos (n_liesI (by omega) hy), if_pos (by rfl)]
      exact ⟨f1, a1, by rw [r1, xI_s, Option.bind_some], r2⟩
    · obtain ⟨v, hv, rfl⟩ : ∃ v, v < mxT i + 1 ∧ y = nI v := by
        rcases pk_ix y (show mxT i + 1 < 2 ^ 31 by omega) with q | q | q
        · exact absurd (Or.inl q) hy
        · exact absurd (Or.inr q) hy
        · exact q
      rw [if_neg hy, show isTm (nI i) (nI v) = 1 by unfold isTm; rw [ht]; exact if_neg (n_liesN (by omega) (by omega)), if_neg (show ¬ nI 1 = 0 by decide), nI_clamp (by omega)]
      have hkl := keysN_le hX.1.1.1.1
      have hlt := tAt_lt (i := i)
      have good : ∀ w3 : Value, ∃ fl' ar', xD E (d + 4) 188 33 [.ref 48, .int (nI i), .int (nI v), w3] [] (mw A fl ar al) = some (some (.int (nI (getT X.1 i))), mw A fl' ar' al) ∧ MI fl' ar' (Xgr (Xcl (Xk X (setT X.1 i v)))) := by
        intro w3
        have hM := h.kp (h.1.set hX.1.2.2.1 hi (show v ≤ mxT i by omega))
        obtain ⟨fl', s1, s2⟩ := m_settled (E := E) (d := d + 1) (al := al) (x := nI (getT X.1 i)) hA hM
        refine ⟨fl', _, ?_, s2⟩
        have hta : ∀ H : xH, xC E (d + 3) 187 [.int (nI i)] H = some (some (.int (nI (tAt i))), H) := fun H => m_termAt hi
        rw [e188_33]
        simp (disch := first | omega | exact m_k48 hA) only [Option.bind_some, xI_s, xV_s, m_r48_1 hA, m_r48_2 hA, m_r48_5 hA, m_a50 hA, m_s50 hA, m_l50 hA, k169, zl, pk_mul, nI_add, Nat.add_zero, sar_s, sar_sar, hta, h.1.get hi]
        rw [s1, xI_s, Option.bind_some]
      by_cases e3 : i = 3
      · subst e3
        rw [if_pos (show nI 3 = (3 : Int32) from rfl), m_keyMany hA h.ms, xI_s, Option.bind_some]
        dsimp only
        by_cases ek : keysN X.1.1.1 = 0
        · rw [if_pos (show nI (keysN X.1.1.1) ≤ 0 by rw [ek]; decide), if_neg (fun z => z.2 ek)]
          exact good _
        · rw [if_neg (show ¬ nI (keysN X.1.1.1) ≤ (0 : Int32) from nI_ge (a := 0) (by omega) (by omega)), if_pos ⟨rfl, ek⟩]
          exact ⟨f3, a3, by rw [r3, xI_s, Option.bind_some], r4⟩
      · rw [if_neg (show ¬ nI i = (3 : Int32) from fun z => e3 ((nI_eq (b := 3) (by omega) (by omega)).mp z)), if_neg (fun z => e3 z.1)]
        exact good _

def aCount (X : Xs) (x : Int32) : Int32 := if x = 0 then nI X.1.1.2.2.2.1 else if x = 1 then nI (usedN X.1.1.1) else if x = 2 then nI (keysN X.1.1.1) else if x = 3 then nI X.1.1.2.2.1.length else if x = 4 then nI X.1.2.2.2.length else if x = 5 then nI X.1.2.1.1.length else if x = 6 then nI X.2.1.length else if x = 7 then nI X.2.2.2.1.2 else if x = 8 then X.2.2.2.2.2.1 1 else if x = 9 then X.2.2.2.2.2.1 2 else if x = 10 then X.2.2.2.2.2.1 3 else if x = 11 then X.2.2.2.2.2.1 5 else if x = 12 then X.2.2.2.2.2.1 6 else if x = 13 then oI X.1.2.1.2.1 else if x = 14 then nI (getT X.1 0) else if x = 15 then nI (getT X.1 1) else if x = 16 then nI (getT X.1 2) else if x = 17 then nI (getT X.1 3) else -1
theorem m_count (hA : 69 ≤ A.length) (h : MI fl ar X) {x : Int32} : xC E (d + 4) 292 [.ref 48, .int x] (mw A fl ar al) = some (some (.int (aCount X x)), mw A fl ar al) := by
  have hta : ∀ (i : Nat) (H : xH), i < 4 → xC E (d + 3) 187 [.int (nI i)] H = some (some (.int (nI (tAt i))), H) := fun i H hi => m_termAt hi
  have hR := h.mr
  rw [k292 _ _ _ _ _ (m_k48 hA)]
  unfold aCount
  by_cases e : x = 0
  · rw [if_pos e, if_pos e]; rw [m_r48_2 hA, Option.bind_some, show (961 : Int32) = nI 961 from rfl, m_a50 hA (by omega), Option.bind_some, h.ms.de]
  rw [if_neg e, if_neg e]; clear e
  by_cases e : x = 1
  · rw [if_pos e, if_pos e]; rw [m_usedMany hA h.ms, xI_s, Option.bind_some]
  rw [if_neg e, if_neg e]; clear e
  by_cases e : x = 2
  · rw [if_pos e, if_pos e]; rw [m_keyMany hA h.ms, xI_s, Option.bind_some]
  rw [if_neg e, if_neg e]; clear e
  by_cases e : x = 3
  · rw [if_pos e, if_pos e]; rw [m_r48_2 hA, Option.bind_some, show (960 : Int32) = nI 960 from rfl, m_a50 hA (by omega), Option.bind_some, h.ms.wn]
  rw [if_neg e, if_neg e]; clear e
  by_cases e : x = 4
  · rw [if_pos e, if_pos e]; rw [m_r48_2 hA, Option.bind_some, show (978 : Int32) = nI 978 from rfl, m_a50 hA (by omega), Option.bind_some, h.1.2.2.2.1]
  rw [if_neg e, if_neg e]; clear e
  by_cases e : x = 5
  · rw [if_pos e, if_pos e]; rw [m_r48_2 hA, Option.bind_some, show (979 : Int32) = nI 979 from rfl, m_a50 hA (by omega), Option.bind_some, hR.2.2.2.2.1]
  rw [if_neg e, if_neg e]; clear e
  by_cases e : x = 6
  · rw [if_pos e, if_pos e]; rw [m_g48_32 hA, Option.bind_some, h.2.1.1]
  rw [if_neg e, if_neg e]; clear e
  by_cases e : x = 7
  · rw [if_pos e, if_pos e]; rw [m_g48_13 hA, Option.bind_some, h.2.2.2.1.1]
  rw [if_neg e, if_neg e]; clear e
  by_cases e : x = 8
  · rw [if_pos e, if_pos e]; rw [m_r48_1 hA, Option.bind_some, e, show (8 : Int32) - 7 = nI 1 from rfl, m_a49 hA (by omega), Option.bind_some, h.2.2.2.2.2.1 1 (by omega)]
  rw [if_neg e, if_neg e]; clear e
  by_cases e : x = 9
  · rw [if_pos e, if_pos e]; rw [m_r48_1 hA, Option.bind_some, e, show (9 : Int32) - 7 = nI 2 from rfl, m_a49 hA (by omega), Option.bind_some, h.2.2.2.2.2.1 2 (by omega)]
  rw [if_neg e, if_neg e]; clear e
  by_cases e : x = 10
  · rw [if_pos e, if_pos e]; rw [m_r48_1 hA, Option.bind_some, e, show (10 : Int32) - 7 = nI 3 from rfl, m_a49 hA (by omega), Option.bind_some, h.2.2.2.2.2.1 3 (by omega)]
  rw [if_neg e, if_neg e]; clear e
  by_cases e : x = 11
  · rw [if_pos e, if_pos e]; rw [m_r48_1 hA, Option.bind_some, show (5 : Int32) = nI 5 from rfl, m_a49 hA (by omega), Option.bind_some, h.2.2.2.2.2.1 5 (by omega)]
  rw [if_neg e, if_neg e]; clear e
  by_cases e : x = 12
  · rw [if_pos e, if_pos e]; rw [m_r48_1 hA, Option.bind_some, show (6 : Int32) = nI 6 from rfl, m_a49 hA (by omega), Option.bind_some, h.2.2.2.2.2.1 6 (by omega)]
  rw [if_neg e, if_neg e]; clear e
  by_cases e : x = 13
  · rw [if_pos e, if_pos e]; rw [m_r48_2 hA, Option.bind_some, show (980 : Int32) = nI 980 from rfl, m_a50 hA (by omega), Option.bind_some, hR.2.2.2.2.2.2.1]
  rw [if_neg e, if_neg e]; clear e
  by_cases e : x = 14
  · rw [if_pos e, if_pos e]; rw [m_r48_2 hA, Option.bind_some, e, show (14 : Int32) - 14 = nI 0 from rfl, hta 0 _ (by omega), xI_s, Option.bind_some]; dsimp only; rw [m_a50 hA (by decide), Option.bind_some, h.1.get (by omega)]
  rw [if_neg e, if_neg e]; clear e
  by_cases e : x = 15
  · rw [if_pos e, if_pos e]; rw [m_r48_2 hA, Option.bind_some, e, show (15 : Int32) - 14 = nI 1 from rfl, hta 1 _ (by omega), xI_s, Option.bind_some]; dsimp only; rw [m_a50 hA (by decide), Option.bind_some, h.1.get (by omega)]
  rw [if_neg e, if_neg e]; clear e
  by_cases e : x = 16
  · rw [if_pos e, if_pos e]; rw [m_r48_2 hA, Option.bind_some, e, show (16 : Int32) - 14 = nI 2 from rfl, hta 2 _ (by omega), xI_s, Option.bind_some]; dsimp only; rw [m_a50 hA (by decide), Option.bind_some, h.1.get (by omega)]
  rw [if_neg e, if_neg e]; clear e
  by_cases e : x = 17
  · rw [if_pos e, if_pos e]; rw [m_r48_2 hA, Option.bind_some, e, show (17 : Int32) - 14 = nI 3 from rfl, hta 3 _ (by omega), xI_s, Option.bind_some]; dsimp only; rw [m_a50 hA (by decide), Option.bind_some, h.1.get (by omega)]
  rw [if_neg e, if_neg e]
end MTERMS
