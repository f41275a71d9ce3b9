/-! ===== the reference: few, the tape, rows ===== -/
def fwS (f : Int32) (c : Nat → Int64) (j : Nat) : Int64 := c j * ((10 : Int32) - f).toInt64 / 10 + (if j = 0 then 0 else c (j - 1) * f.toInt64 / 10)
def fw0 (j : Nat) : Int64 := if j = 0 then 1000000000000 else 0
def fwN (f : Int32) : Nat → Nat → Int64
  | 0 => fw0
  | n + 1 => fwS f (fwN f n)
def fwT (c : Nat → Int64) : Nat → Int64
  | 0 => 0
  | k + 1 => fwT c k + c k
def aFew (X : Xs) (x y : Int32) : Int64 := if (x < 1 ∨ nI 21 ≤ x) ∨ y < 0 ∨ nI 100 ≤ y then -1 else fwT (fwN (nI X.1.2.2.1) y.toNatClampNeg) x.toNatClampNeg
theorem fwT_cong {c c' : Nat → Int64} : ∀ k, (∀ j, j < k → c j = c' j) → fwT c k = fwT c' k
  | 0, _ => rfl
  | k + 1, h => by
    show fwT c k + c k = fwT c' k + c' k
    rw [fwT_cong k (fun j hj => h j (by omega)), h k (by omega)]
theorem fwS_cong {f : Int32} {c c' : Nat → Int64} {j : Nat} (h : ∀ i, i ≤ j → c i = c' i) : fwS f c j = fwS f c' j := by
  unfold fwS
  rw [h j (Nat.le_refl _)]
  by_cases e : j = 0
  · rw [if_pos e, if_pos e]
  · rw [if_neg e, if_neg e, h (j - 1) (by omega)]
theorem updL_s {f : Nat → Int64} {k : Nat} {x : Int64} : vp_updL f k x k = x := by unfold vp_updL; rw [if_pos rfl]
theorem updL_n {f : Nat → Int64} {k q : Nat} {x : Int64} (h : q ≠ k) : vp_updL f k x q = f q := by unfold vp_updL; rw [if_neg h]
section MFEW
variable {E : Nat × (Nat → Int32)} {d : Nat} {A : xH} {fl : Nat → Int32} {ar : Nat → Nat → Int32} {X : Xs}
theorem m_fw26 (hA : 69 ≤ A.length) {x1 x2 : Int32} : ∀ (c i : Nat) (al : Nat → Nat → Int64) (w4 w5 : Value), i + c = 21 → (∀ j, j < i → al 35 j = fw0 j) → ∃ al', xD E (d + 1) 280 26 [.ref 48, .int x1, .int x2, .int (nI i), w4, w5] [] (mw A fl ar al) = xD E (d + 1) 280 57 [.ref 48, .int x1, .int x2, .int (nI 0), xJ, xJ] [] (mw A fl ar al') ∧ ∀ j, j < 21 → al' 35 j = fw0 j
  | 0, i, al, w4, w5, hi, h => by
    refine ⟨al, ?_, fun j hj => h j (by omega)⟩
    rw [e280_26, if_pos (show (20 : Int32) < nI i from nI_lt (a := 20) (by omega) (by omega))]; rfl
  | c + 1, i, al, w4, w5, hi, h => by
    have ih := m_fw26 hA (x1 := x1) (x2 := x2) c (i + 1) (sal al 35 (vp_updL (al 35) i (fw0 i))) xJ xJ (by omega) (fun j hj => by
      rw [sal_s]
      by_cases e : j = i
      · subst e; exact updL_s
      · rw [updL_n e]; exact h j (by omega))
    obtain ⟨al', i1, i2⟩ := ih
    refine ⟨al', ?_, i2⟩
    rw [e280_26, if_neg (show ¬ (20 : Int32) < nI i from nI_nlt (a := 20) (by omega) (by omega)), m_r48_35 hA, Option.bind_some]
    unfold fw0 at i1
    by_cases e : i = 0
    · rw [if_pos (show nI i = 0 by rw [e]; rfl), m_s66 hA (by omega), Option.bind_some, nI_1]
      rw [if_pos e] at i1
      exact i1
    · rw [if_neg (nI_ne0 (by omega) (by omega)), m_s66 hA (by omega), Option.bind_some, nI_1]
      rw [if_neg e] at i1
      exact i1
theorem m_fw67 (hA : 69 ≤ A.length) {k : Nat} {f x2 i3 : Int32} {c : Nat → Int64} (hk : k ≤ 20) (hk1 : 1 ≤ k) (hf : ar 2 975 = f) : ∀ (m : Nat) (al : Nat → Nat → Int64) (w5 : Value), m ≤ k → (∀ j, j < m → al 35 j = c j) → (m < k → al 35 m = c m * ((10 : Int32) - f).toInt64 / 10) → (∀ j, m < j → j < k → al 35 j = fwS f c j) → ∃ al' w, xD E (d + 1) 280 67 [.ref 48, .int (nI k), .int x2, .int i3, .int (dI m), w5] [] (mw A fl ar al) = xD E (d + 1) 280 57 [.ref 48, .int (nI k), .int x2, .int (i3 + 1), w, xJ] [] (mw A fl ar al') ∧ ∀ j, j < k → al' 35 j = fwS f c j
  | 0, al, w5, hm, h1, h2, h3 => by
    refine ⟨al, .int (dI 0), ?_, fun j hj => ?_⟩
    · rw [e280_67, if_pos (show dI 0 < 0 by decide)]
    · by_cases e : j = 0
      · subst e
        rw [h2 (by omega)]
        unfold fwS
        rw [if_pos rfl, Int64.add_zero]
      · exact h3 j (by omega) hj
  | m + 1, al, w5, hm, h1, h2, h3 => by
    have hcm := h1 m (by omega)
    have ih := m_fw67 hA (x2 := x2) (i3 := i3) (c := c) hk hk1 hf m (sal al 35 (vp_updL (vp_updL (al 35) (m + 1) (al 35 (m + 1) + c m * f.toInt64 / 10)) m (c m * ((10 : Int32) - f).toInt64 / 10))) xJ (by omega)
      (fun j hj => by rw [sal_s, updL_n (by omega), updL_n (by omega)]; exact h1 j (by omega))
      (fun _ => by rw [sal_s]; exact updL_s)
      (fun j j1 j2 => by
        rw [sal_s, updL_n (by omega)]
        by_cases e : j = m + 1
        · subst e
          rw [updL_s, h2 (by omega)]
          unfold fwS
          rw [if_neg (by omega), Nat.add_sub_cancel]
        · rw [updL_n e]; exact h3 j (by omega) j2)
    obtain ⟨al', w, i1, i2⟩ := ih
    refine ⟨al', w, ?_, i2⟩
    show xD E (d + 1) 280 67 [.ref 48, .int (nI k), .int x2, .int i3, .int (nI m), w5] [] (mw A fl ar al) = _
    rw [e280_67, if_neg (nI_pos (by omega)), m_r48_35 hA, Option.bind_some, nI_1, m_a66 hA (by omega), Option.bind_some, Option.bind_some, m_a66 hA (by omega), Option.bind_some, hcm, m_r48_2 hA, Option.bind_some, show (975 : Int32) = nI 975 from rfl, m_a50 hA (by omega), Option.bind_some, hf, m_s66 hA (by omega), Option.bind_some, m_r48_35 hA, Option.bind_some, Option.bind_some, m_a66 hA (by omega), Option.bind_some, m_r48_2 hA, Option.bind_some, m_a50 hA (by omega), Option.bind_some, hf, m_s66 hA (by omega), Option.bind_some, sal_sal, sal_s, updL_n (show m ≠ m + 1 by omega), hcm, dI_dn]
    exact i1
theorem m_fw57 (hA : 69 ≤ A.length) {k n : Nat} {f : Int32} (hk : k ≤ 20) (hk1 : 1 ≤ k) (hn : n < 100) (hf : ar 2 975 = f) : ∀ (c i : Nat) (al : Nat → Nat → Int64) (w4 w5 : Value), i + c = n → (∀ j, j < k → al 35 j = fwN f i j) → ∃ al', xD E (d + 1) 280 57 [.ref 48, .int (nI k), .int (nI n), .int (nI i), w4, w5] [] (mw A fl ar al) = xD E (d + 1) 280 153 [.ref 48, .int (nI k), .int (nI n), .long 0, xJ, .int (nI 0)] [] (mw A fl ar al') ∧ ∀ j, j < k → al' 35 j = fwN f n j
  | 0, i, al, w4, w5, hi, h => by
    refine ⟨al, ?_, fun j hj => by rw [show n = i by omega]; exact h j hj⟩
    rw [e280_57, if_pos (nI_le (by omega) (by omega))]; rfl
  | c + 1, i, al, w4, w5, hi, h => by
    obtain ⟨al1, w, p1, p2⟩ := m_fw67 (E := E) (d := d) (fl := fl) (A := A) hA (k := k) (f := f) (x2 := nI n) (i3 := nI i) (c := fun j => al 35 j) hk hk1 hf k al xJ (Nat.le_refl _) (fun j _ => rfl) (fun z => by omega) (fun j j1 j2 => by omega)
    obtain ⟨al2, q1, q2⟩ := m_fw57 hA hk hk1 hn hf c (i + 1) al1 w xJ (by omega) (fun j hj => by
      rw [p2 j hj]
      exact fwS_cong (fun i' hi' => h i' (by omega)))
    refine ⟨al2, ?_, q2⟩
    have hdI : nI k - (1 : Int32) = dI k := by
      obtain ⟨k', rfl⟩ : ∃ k', k = k' + 1 := ⟨k - 1, by omega⟩
      rw [show (1 : Int32) = nI 1 from rfl, pk_sub (by omega), Nat.add_sub_cancel]; rfl
    rw [e280_57, if_neg (nI_ge (by omega) (by omega)), hdI]
    refine Eq.trans p1 ?_
    rw [nI_1]
    exact q1
theorem m_fw153 (hA : 69 ≤ A.length) {k : Nat} {al : Nat → Nat → Int64} (hk : k ≤ 20) : ∀ (c i : Nat) (w2 : Value), i + c = k → xD E (d + 1) 280 153 [.ref 48, .int (nI k), w2, .long (fwT (al 35) i), xJ, .int (nI i)] [] (mw A fl ar al) = some (some (.long (fwT (al 35) k)), mw A fl ar al)
  | 0, i, w2, hi => by
    rw [e280_153, if_pos (nI_le (by omega) (by omega)), show i = k by omega]
  | c + 1, i, w2, hi => by
    rw [e280_153, if_neg (nI_ge (by omega) (by omega)), m_r48_35 hA, Option.bind_some, m_a66 hA (by omega), Option.bind_some, nI_1]
    exact m_fw153 hA hk c (i + 1) xJ (by omega)
theorem n_lies1 {x : Int32} (h : x < 1 ∨ nI 21 ≤ x) : x < nI 1 ∨ nI 20 < x := h.elim Or.inl (fun z => Or.inr (Int32.lt_of_lt_of_le (nI_lt (by omega) (by omega)) z))
theorem m_few {al : Nat → Nat → Int64} (hA : 69 ≤ A.length) (h : MI fl ar X) {x y : Int32} : ∃ al', xC E (d + 2) 280 [.ref 48, .int x, .int y] (mw A fl ar al) = some (some (.long (aFew X x y)), mw A fl ar al') := by
  have hli : ∀ H : xH, xC E (d + 1) 154 [.int x, .int (1 : Int32), .int (20 : Int32)] H = some (some (.int (nI (if x < nI 1 ∨ nI 20 < x then 0 else 1))), H) := fun H => m_liesI
  have hli2 : ∀ H : xH, xC E (d + 1) 154 [.int y, .int (0 : Int32), .int (99 : Int32)] H = some (some (.int (nI (if y < nI 0 ∨ nI 99 < y then 0 else 1))), H) := fun H => m_liesI
  rw [k280 _ _ _ _ _ _ (m_k48 hA), hli, xI_s, Option.bind_some]
  dsimp only
  unfold aFew
  by_cases hx : x < 1 ∨ nI 21 ≤ x
  · rw [if_pos (n_lies1 hx), if_pos (by rfl), if_pos (Or.inl hx)]
    exact ⟨al, rfl⟩
  · obtain ⟨k, hk1, hk, rfl⟩ : ∃ k, 1 ≤ k ∧ k ≤ 20 ∧ x = nI k := by
      rcases pk_ix x (show 21 < 2 ^ 31 by omega) with q | q | ⟨k, q1, q2⟩
      · exact absurd (Or.inl (Int32.lt_trans q (by decide))) hx
      · exact absurd (Or.inr q) hx
      · refine ⟨k, ?_, by omega, q2⟩
        rcases Nat.eq_zero_or_pos k with z | z
        · subst z; rw [q2] at hx; exact absurd (Or.inl (by decide)) hx
        · exact z
    rw [if_neg (show ¬ (nI k < nI 1 ∨ nI 20 < nI k) from fun z => z.elim (nI_nlt (by omega) (by omega)) (nI_nlt (by omega) (by omega))), if_neg (show ¬ nI 1 = 0 by decide), hli2, xI_s, Option.bind_some]
    dsimp only
    by_cases hy : y < 0 ∨ nI 100 ≤ y
    · rw [if_pos (n_liesI (n := 99) (by omega) hy), if_pos (by rfl), if_pos (Or.inr hy)]
      exact ⟨al, rfl⟩
    · obtain ⟨n, hn, rfl⟩ : ∃ n, n < 100 ∧ y = nI n := by
        rcases pk_ix y (show 100 < 2 ^ 31 by omega) with q | q | q
        · exact absurd (Or.inl q) hy
        · exact absurd (Or.inr q) hy
        · exact q
      rw [if_neg (n_liesN (by omega) (by omega)), if_neg (show ¬ nI 1 = 0 by decide), if_neg (fun z => z.elim hx hy), nI_clamp (by omega), nI_clamp (by omega)]
      obtain ⟨al1, p1, p2⟩ := m_fw26 (E := E) (d := d + 1) (fl := fl) (ar := ar) (x1 := nI k) (x2 := nI n) hA 21 0 al xJ xJ rfl (fun j hj => by omega)
      obtain ⟨al2, q1, q2⟩ := m_fw57 (E := E) (d := d + 1) (fl := fl) (ar := ar) (k := k) (n := n) (f := nI X.1.2.2.1) hA hk hk1 hn h.1.2.2.1 n 0 al1 xJ xJ (by omega) (fun j hj => p2 j (by omega))
      refine ⟨al2, ?_⟩
      refine Eq.trans p1 (Eq.trans q1 ?_)
      rw [← fwT_cong k q2]
      exact m_fw153 hA hk k 0 _ (by omega)
end MFEW
/-! the tape -/
def fb (x : Int32) (s : Nat) : Nat := x.toBitVec.toNat / 2 ^ s % 256
def five (a b c e f : Int32) (i : Nat) : Int32 := if i = 0 then a else if i = 1 then b else if i = 2 then c else if i = 3 then e else f
def fdB (bs : Nat → Nat) (n : Nat) (g : Nat → Int32) (m : Nat) : Nat → Nat := fun j => if n ≤ j ∧ j < n + m then fb (g ((j - n) / 4)) (24 - 8 * ((j - n) % 4)) else bs j
def Xtp (X : Xs) (bs : Nat → Nat) (n : Nat) : Xs := (X.1, X.2.1, X.2.2.1, (bs, n), X.2.2.2.2)
def aFeed (X : Xs) (a b c e f : Int32) : Int32 × Xs := if X.2.2.2.1.2 ≤ 380 then (nI (X.2.2.2.1.2 + 20), Xtp X (fdB X.2.2.2.1.1 X.2.2.2.1.2 (five a b c e f) 20) (X.2.2.2.1.2 + 20)) else (-1, X)
def aEnd (X : Xs) (x : Int32) : Int32 × Xs := if x < 0 ∨ nI (X.2.2.2.1.2 + 1) ≤ x then (-1, X) else (x, Xtp X X.2.2.2.1.1 x.toNatClampNeg)
theorem fb_lt (x : Int32) (s : Nat) : fb x s < 256 := Nat.mod_lt _ (by omega)
theorem fdB_lt {bs : Nat → Nat} {n m : Nat} {g : Nat → Int32} (h : ∀ j, bs j < 256) (j : Nat) : fdB bs n g m j < 256 := by
  unfold fdB
  split
  · exact fb_lt _ _
  · exact h j
theorem aFeed_R {X : Xs} (hX : XI X) {a b c e f : Int32} : XI (aFeed X a b c e f).2 := by
  unfold aFeed
  split
  · exact ⟨hX.1, hX.2.1, hX.2.2.1, hX.2.2.2.1, by show X.2.2.2.1.2 + 20 ≤ 400; omega, fun j => fdB_lt hX.2.2.2.2.2 j⟩
  · exact hX
theorem aEnd_R {X : Xs} (hX : XI X) {x : Int32} : XI (aEnd X x).2 := by
  unfold aEnd
  split
  · exact hX
  · rename_i hx
    refine ⟨hX.1, hX.2.1, hX.2.2.1, hX.2.2.2.1, ?_, hX.2.2.2.2.2⟩
    have := hX.2.2.2.2.1
    rcases pk_ix x (show X.2.2.2.1.2 + 1 < 2 ^ 31 by omega) with q | q | ⟨k, q1, rfl⟩
    · exact absurd (Or.inl q) hx
    · exact absurd (Or.inr q) hx
    · show (nI k).toNatClampNeg ≤ 400
      rw [nI_clamp (by omega)]; omega
theorem shr_byte {x s : Int32} {k : Nat} (hk : k = 24 ∨ k = 16 ∨ k = 8 ∨ k = 0) (hs : (s.toBitVec.smod 32).toNat = k) : xnar 1 ((x >>> s).toInt8.toInt32) = sb (fb x k) := by
  show vp_nar .byte ((x >>> s).toInt8.toInt32) = vp_nar .byte (nI (fb x k))
  rw [pk_vb, vp_nar_byte]
  congr 1
  apply Int8.toBitVec_inj.mp
  rw [Int32.toBitVec_toInt8, Int32.toBitVec_toInt8]
  apply BitVec.eq_of_toNat_eq
  rw [BitVec.signExtend_eq_setWidth_of_le _ (by omega), BitVec.signExtend_eq_setWidth_of_le _ (by omega), BitVec.toNat_setWidth, BitVec.toNat_setWidth]
  have h1 := pk_shr x s k hs
  have h2 : (x >>> s).toInt = if 2 * (x >>> s).toBitVec.toNat < 2 ^ 32 then ((x >>> s).toBitVec.toNat : Int) else ((x >>> s).toBitVec.toNat : Int) - ((2 ^ 32 : Nat) : Int) := BitVec.toInt_eq_toNat_cond _
  have h3 : x.toInt = if 2 * x.toBitVec.toNat < 2 ^ 32 then (x.toBitVec.toNat : Int) else (x.toBitVec.toNat : Int) - ((2 ^ 32 : Nat) : Int) := BitVec.toInt_eq_toNat_cond _
  have h4 : (nI (fb x k)).toBitVec.toNat = fb x k := by
    have := fb_lt x k
    show (BitVec.ofNat 32 (fb x k)).toNat = fb x k
    rw [BitVec.toNat_ofNat]; exact Nat.mod_eq_of_lt (by omega)
  have hlt := x.toBitVec.isLt
  have hlt2 := (x >>> s).toBitVec.isLt
  rw [h4]
  rw [Int.shiftRight_eq_div_pow] at h1
  unfold fb
  generalize (x >>> s).toBitVec.toNat = M at *
  generalize x.toBitVec.toNat = N at *
  generalize (x >>> s).toInt = zi at *
  generalize x.toInt = xi at *
  subst h2 h3
  rcases hk with rfl | rfl | rfl | rfl
  · simp only [Nat.reducePow, Int.reducePow, Int.cast_ofNat_Int] at *; split at h1 <;> split at h1 <;> omega
  · simp only [Nat.reducePow, Int.reducePow, Int.cast_ofNat_Int] at *; split at h1 <;> split at h1 <;> omega
  · simp only [Nat.reducePow, Int.reducePow, Int.cast_ofNat_Int] at *; split at h1 <;> split at h1 <;> omega
  · simp only [Nat.reducePow, Int.reducePow, Int.cast_ofNat_Int] at *; split at h1 <;> split at h1 <;> omega
