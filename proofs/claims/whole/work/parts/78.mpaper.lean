/-! ===== the reference: on paper ===== -/
def aBehind (X : Xs) (x y : Int32) : Int32 := if (x < 0 ∨ nI (X.1.1.2.2.1.length + 1) ≤ x) ∨ y < 0 ∨ nI 1000 ≤ y then -1 else oI (valO (ents ((lsS X.1.2.1.2.2.2 x.toNatClampNeg X.1.1).1 (own (lsS X.1.2.1.2.2.2 x.toNatClampNeg X.1.1).1 (hsh X.1.2.1.2.2.2 y.toNatClampNeg % 64)))) y.toNatClampNeg)
def aLost (X : Xs) (x : Int32) : Int32 := if x < 0 ∨ nI (X.1.1.2.2.1.length + 1) ≤ x then -1 else nI (keysNA X.1.2.1.2.2.2 X.1.1.1 (lsS X.1.2.1.2.2.2 x.toNatClampNeg X.1.1).1)
def aTorn (X : Xs) (x : Int32) : Int32 := if x < 0 ∨ nI (X.1.1.2.2.1.length + 1) ≤ x then -1 else nI (slotsNA X.1.1 (lsS X.1.2.1.2.2.2 x.toNatClampNeg X.1.1))
theorem valO_lt {B : Bk} {b k w : Nat} (h : okk B) (hv : valO (ents (B b)) k = some w) : w < 2 ^ 31 := by
  have := valO_le h hv
  omega
theorem cnt_s {f : Nat → Nat} {i : Nat} : cnt f (i + 1) = cnt f i + f i := rfl
section MPAPER
variable {E : Nat × (Nat → Int32)} {d : Nat} {A : xH} {al : Nat → Nat → Int64} {fl : Nat → Int32} {ar : Nat → Nat → Int32} {X : Xs}
/-- what was laid aside first comes back -/
theorem m_back0 (h : MI fl ar X) {fl2 : Nat → Int32} {ar2 : Nat → Nat → Int32} (hf : ∀ j, j ≠ 22 → j ≠ 23 → j ≠ 24 → j ≠ 25 → fl2 j = fl j) (h2 : ∀ i, 963 ≤ i → ar2 2 i = ar 2 i) (ha : ∀ j, j ≠ 2 → j ≠ 5 → j ≠ 26 → j ≠ 29 → j ≠ 33 → j ≠ 34 → ar2 j = ar j) (h5 : ∀ j, j < 963 → ar2 5 j = ar 2 j) : MI fl2 (sar ar2 2 (cpx (ar2 5) (ar2 2) (963 * 0) 0 963)) X := by
  refine h.st (S := X.1.1) (by
    rw [sar_s]
    refine h.ms.cong (fun j hj => ?_)
    have := cpx_in (src := ar2 5) (dst := ar2 2) (fr := 963 * 0) (to := 0) (n := 963) hj
    simp only [Nat.zero_add, Nat.mul_zero] at this
    rw [Nat.mul_zero, this]; exact h5 j hj) hf (fun i hi => by rw [sar_s, cpx_out (by omega)]; exact h2 i hi) (fun j q1 q2 q3 q4 q5 q6 => by rw [sar_n q1]; exact ha j q1 q2 q3 q4 q5 q6)
/-- the row aside -/
theorem aside0 : ∀ j, j < 963 → (sar ar 5 (cpx (ar 2) (ar 5) 0 (963 * 0) 963)) 5 j = ar 2 j := fun j hj => by
  have := cpx_in (src := ar 2) (dst := ar 5) (fr := 0) (to := 963 * 0) (n := 963) hj
  simp only [Nat.zero_add, Nat.mul_zero] at this
  rw [sar_s, Nat.mul_zero, this]
theorem n_wait {x : Int32} {n : Nat} (hn : n ≤ 40) (hx : x < 0 ∨ nI (n + 1) ≤ x) : x < nI 0 ∨ nI n < x := n_liesI (by omega) hx
theorem m_behind (hA : 69 ≤ A.length) (h : MI fl ar X) (hX : XI X) {x y : Int32} : ∃ fl' ar', xC E (d + 8) 264 [.ref 48, .int x, .int y] (mw A fl ar al) = some (some (.int (aBehind X x y)), mw A fl' ar' al) ∧ MI fl' ar' X := by
  have hwl := h.ms.wl
  have hl0 : ∀ H : xH, xC E (d + 7) 154 [.int x, .int (nI 0), .int (nI X.1.1.2.2.1.length)] H = some (some (.int (nI (if x < nI 0 ∨ nI X.1.1.2.2.1.length < x then 0 else 1))), H) := fun H => m_liesI
  have hk0 : ∀ H : xH, xC E (d + 7) 163 [.int y] H = some (some (.int (nI (if y < nI 0 ∨ nI 999 < y then 0 else 1))), H) := fun H => m_isKey
  rw [k264 _ _ _ _ _ _ (m_k48 hA)]
  unfold aBehind
  by_cases hx : x < 0 ∨ nI (X.1.1.2.2.1.length + 1) ≤ x
  · rw [if_pos (Or.inl hx)]
    refine ⟨fl, ar, ?_, h⟩
    simp (disch := first | omega | exact m_k48 hA) only [Option.bind_some, xI_s, xV_s, m_r48_1 hA, m_r48_2 hA, m_r48_5 hA, m_a50 hA, m_s50 hA, m_l50 hA, k169, zl, pk_mul, nI_add, Nat.add_zero, sar_s, sar_sar, h.ms.wn, hl0]
    rw [if_pos (n_wait hwl hx), if_pos rfl]
  · by_cases hy : y < 0 ∨ nI 1000 ≤ y
    · rw [if_pos (Or.inr hy)]
      refine ⟨fl, ar, ?_, h⟩
      simp (disch := first | omega | exact m_k48 hA) only [Option.bind_some, xI_s, xV_s, m_r48_1 hA, m_r48_2 hA, m_r48_5 hA, m_a50 hA, m_s50 hA, m_l50 hA, k169, zl, pk_mul, nI_add, Nat.add_zero, sar_s, sar_sar, h.ms.wn, hl0, hk0]
      rw [if_pos (n_liesI (n := 999) (by omega) hy), if_pos rfl, ite_self]
    · rw [if_neg (fun z => z.elim hx hy)]
      obtain ⟨n, hn, rfl⟩ : ∃ n, n < X.1.1.2.2.1.length + 1 ∧ x = nI n := by
        rcases pk_ix x (show X.1.1.2.2.1.length + 1 < 2 ^ 31 by omega) with q | q | q
        · exact absurd (Or.inl q) hx
        · exact absurd (Or.inr q) hx
        · exact q
      obtain ⟨k, hk, rfl⟩ : ∃ k, k < 1000 ∧ y = nI k := by
        rcases pk_ix y (show 1000 < 2 ^ 31 by omega) with q | q | q
        · exact absurd (Or.inl q) hy
        · exact absurd (Or.inr q) hy
        · exact q
      rw [nI_clamp (by omega), nI_clamp (by omega)]
      have hR := h.mr
      have hla := m_laysAside (E := E) (d := d + 6) (fl := fl) (ar := ar) (al := al) (k := 0) hA (by omega)
      have a0 := aside0 (ar := ar)
      have a1 : MS ((sar ar 5 (cpx (ar 2) (ar 5) 0 (963 * 0) 963)) 2) X.1.1 := by rw [sar_n (by omega)]; exact h.ms
      have a2 : ∀ j, j ≠ 5 → (sar ar 5 (cpx (ar 2) (ar 5) 0 (963 * 0) 963)) j = ar j := fun j q => sar_n q
      generalize (sar ar 5 (cpx (ar 2) (ar 5) 0 (963 * 0) 963)) = ar1 at *
      obtain ⟨ar2, l1, l2, l3⟩ := m_loses (E := E) (d := d + 2) (fl := fl) (ar := ar1) (al := al) (n := n) hA hR.2.2.2.1 (by rw [a2 2 (by omega)]; exact hR.2.2.1) a1 hX.1.1 (by omega)
      have hSI := SI_ls (t := X.1.2.1.2.2.2) n hX.1.1
      have hv := m_valueOrNone (E := E) (d := d + 1) (fl := fl) (ar := ar2) (al := al) (k := k) hA l2 hSI.1.1 hk hR.2.2.2.1 (by rw [l3.2 _ (by omega), a2 2 (by omega)]; exact hR.2.2.1)
      have htb := m_takesBack (E := E) (d := d + 6) (fl := fl) (ar := ar2) (al := al) (k := 0) hA (by omega)
      refine ⟨fl, _, ?_, m_back0 (ar2 := ar2) h (fun _ _ _ _ _ => rfl) (fun i hi => by rw [l3.2 i hi, a2 2 (by omega)]) (fun j q1 q2 q3 q4 _ _ => by rw [l3.1 j q1 q3 q4, a2 j q2]) (fun j hj => by rw [l3.1 5 (by omega) (by omega) (by omega)]; exact a0 j hj)⟩
      rotate_left
      · simp (disch := first | omega | exact m_k48 hA) only [Option.bind_some, xI_s, xV_s, m_r48_1 hA, m_r48_2 hA, m_r48_5 hA, m_a50 hA, m_s50 hA, m_l50 hA, k169, zl, pk_mul, nI_add, Nat.add_zero, sar_s, sar_sar, h.ms.wn, hl0, hk0]
        rw [if_neg (n_liesN (by omega) (by omega)), if_neg (show ¬ nI 1 = nI 0 by decide), if_neg (n_liesN (by omega) (by omega)), if_neg (show ¬ nI 1 = nI 0 by decide), hla, xV_s, Option.bind_some, l1, xV_s, Option.bind_some, hv, xI_s, Option.bind_some]
        dsimp only
        rw [htb, xV_s, Option.bind_some]
theorem m_vals (hA : 69 ≤ A.length) {S : St} {t : Nat} (ho : okk S.1) (ht : t < 1000) {m pc : Nat} {L : Int32 → List Value} (step : ∀ (ar : Nat → Nat → Int32) (i : Nat), i < 1000 → MS (ar 2) S → ar 2 977 = nI t → xD E (d + 7) m pc (L (nI i)) [] (mw A fl ar al) = xD E (d + 7) m pc (L (nI (i + 1))) [] (mw A fl (sar ar 33 (upd (ar 33) i (oI (valO (ents (S.1 (own S.1 (hsh t i % 64)))) i)))) al)) : ∀ (c i : Nat) (ar : Nat → Nat → Int32), i + c = 1000 → MS (ar 2) S → ar 2 977 = nI t → (∀ j, j < i → ar 33 j = oI (valO (ents (S.1 (own S.1 (hsh t j % 64)))) j)) → ∃ ar', xD E (d + 7) m pc (L (nI i)) [] (mw A fl ar al) = xD E (d + 7) m pc (L (nI 1000)) [] (mw A fl ar' al) ∧ (∀ j, j < 1000 → ar' 33 j = oI (valO (ents (S.1 (own S.1 (hsh t j % 64)))) j)) ∧ ∀ j, j ≠ 33 → ar' j = ar j
  | 0, i, ar, hi, h, hs, hv => ⟨ar, by rw [show i = 1000 by omega], fun j hj => hv j (by omega), fun _ _ => rfl⟩
  | c + 1, i, ar, hi, h, hs, hv => by
    obtain ⟨ar', i1, i2, i3⟩ := m_vals hA ho ht step c (i + 1) (sar ar 33 (upd (ar 33) i (oI (valO (ents (S.1 (own S.1 (hsh t i % 64)))) i)))) (by omega) (by rw [sar_n (by omega)]; exact h) (by rw [sar_n (by omega)]; exact hs) (fun j hj => by
      rw [sar_s]
      by_cases e : j = i
      · subst e; exact upd_s
      · rw [upd_n e]; exact hv j (by omega))
    exact ⟨ar', (step ar i (by omega) h hs).trans i1, i2, fun j hj => (i3 j hj).trans (sar_n hj)⟩
theorem oI_inj {o p : Option Nat} (ho : ∀ w, o = some w → w < 2 ^ 31) (hp : ∀ w, p = some w → w < 2 ^ 31) : oI o = oI p ↔ o = p := by
  cases o with
  | none =>
    cases p with
    | none => exact ⟨fun _ => rfl, fun _ => rfl⟩
    | some w => exact ⟨fun z => absurd z.symm (n_m1ne (hp w rfl)), fun z => by cases z⟩
  | some v =>
    cases p with
    | none => exact ⟨fun z => absurd z (n_m1ne (ho v rfl)), fun z => by cases z⟩
    | some w => rw [oI_s, oI_s, nI_eq (ho v rfl) (hp w rfl)]; exact ⟨fun z => by rw [z], fun z => Option.some.inj z⟩
theorem m_lo58 (hA : 69 ≤ A.length) {S2 : St} {t : Nat} (ho2 : okk S2.1) (ht : t < 1000) (h : MS (ar 2) S2) (hs : ar 2 977 = nI t) {v : Nat → Option Nat} (hv : ∀ j, j < 1000 → ar 33 j = oI (v j)) (hv2 : ∀ j w, v j = some w → w < 2 ^ 31) : ∀ (c i : Nat) (w1 : Value), i + c = 1000 → xD E (d + 7) 265 58 [.ref 48, w1, .int (nI (cnt (fun k => vg (fun k v => if valO (ents (S2.1 (own S2.1 (hsh t k % 64)))) k = some v then 0 else 1) (v k) k) i)), .int (nI i)] [] (mw A fl ar al) = xD E (d + 7) 265 58 [.ref 48, xJ, .int (nI (cnt (fun k => vg (fun k v => if valO (ents (S2.1 (own S2.1 (hsh t k % 64)))) k = some v then 0 else 1) (v k) k) 1000)), .int (nI 1000)] [] (mw A fl ar al)
  | 0, i, w1, hi => by
    rw [show i = 1000 by omega]
    exact (e265_58 ..).trans (e265_58 ..).symm
  | c + 1, i, w1, hi => by
    have hlt : i < 1000 := by omega
    have ih := m_lo58 hA ho2 ht h hs hv hv2 c (i + 1) xJ (by omega)
    rw [cnt_s] at ih
    have hvn := m_valueOrNone (E := E) (d := d) (fl := fl) (al := al) (k := i) hA h ho2 hlt ht hs
    rw [e265_58, if_neg (by rw [zl]; exact nI_ge (by omega) (by omega))]
    simp (disch := first | omega | exact m_k48 hA) only [Option.bind_some, xI_s, xV_s, m_r48_1 hA, m_r48_2 hA, m_r48_5 hA, m_a50 hA, m_s50 hA, m_l50 hA, k169, zl, pk_mul, nI_add, Nat.add_zero, sar_s, sar_sar, m_r48_33 hA, m_a64 hA, hv i hlt]
    cases hvi : v i with
    | none =>
      rw [hvi] at ih
      rw [oI_m, if_pos rfl]
      exact ih
    | some w =>
      rw [hvi] at ih
      rw [oI_s, if_neg (n_m1n (hv2 i w hvi))]
      simp (disch := first | omega | exact m_k48 hA) only [Option.bind_some, xI_s, xV_s, m_r48_1 hA, m_r48_2 hA, m_r48_5 hA, m_a50 hA, m_s50 hA, m_l50 hA, k169, zl, pk_mul, nI_add, Nat.add_zero, sar_s, sar_sar, m_r48_33 hA, m_a64 hA, hv i hlt, hvn]
      have hiff := oI_inj (o := valO (ents (S2.1 (own S2.1 (hsh t i % 64)))) i) (p := some w) (fun u hu => valO_lt ho2 hu) (fun u hu => by rw [← Option.some.inj hu]; exact hv2 i w hvi)
      rw [oI_s] at hiff
      rw [hvi, oI_s]
      rw [show vg (fun k v => if valO (ents (S2.1 (own S2.1 (hsh t k % 64)))) k = some v then 0 else 1) (some w) i = if valO (ents (S2.1 (own S2.1 (hsh t i % 64)))) i = some w then 0 else 1 from rfl] at ih
      by_cases e : valO (ents (S2.1 (own S2.1 (hsh t i % 64)))) i = some w
      · rw [if_pos (hiff.mpr e)]
        rw [if_pos e] at ih
        exact ih
      · rw [if_neg (fun z => e (hiff.mp z))]
        rw [if_neg e] at ih
        exact ih
theorem m_lost (hA : 69 ≤ A.length) (h : MI fl ar X) (hX : XI X) {x : Int32} : ∃ fl' ar', xC E (d + 8) 265 [.ref 48, .int x] (mw A fl ar al) = some (some (.int (aLost X x)), mw A fl' ar' al) ∧ MI fl' ar' X := by
  have hwl := h.ms.wl
  have hl0 : ∀ H : xH, xC E (d + 7) 154 [.int x, .int (nI 0), .int (nI X.1.1.2.2.1.length)] H = some (some (.int (nI (if x < nI 0 ∨ nI X.1.1.2.2.1.length < x then 0 else 1))), H) := fun H => m_liesI
  rw [k265 _ _ _ _ _ (m_k48 hA)]
  unfold aLost
  by_cases hx : x < 0 ∨ nI (X.1.1.2.2.1.length + 1) ≤ x
  · rw [if_pos hx]
    refine ⟨fl, ar, ?_, h⟩
    simp (disch := first | omega | exact m_k48 hA) only [Option.bind_some, xI_s, xV_s, m_r48_1 hA, m_r48_2 hA, m_r48_5 hA, m_a50 hA, m_s50 hA, m_l50 hA, k169, zl, pk_mul, nI_add, Nat.add_zero, sar_s, sar_sar, h.ms.wn, hl0]
    rw [if_pos (n_wait hwl hx), if_pos rfl]
  · rw [if_neg hx]
    obtain ⟨n, hn, rfl⟩ : ∃ n, n < X.1.1.2.2.1.length + 1 ∧ x = nI n := by
      rcases pk_ix x (show X.1.1.2.2.1.length + 1 < 2 ^ 31 by omega) with q | q | q
      · exact absurd (Or.inl q) hx
      · exact absurd (Or.inr q) hx
      · exact q
    rw [nI_clamp (by omega)]
    have hR := h.mr
    have hok := hX.1.1.1.1
    obtain ⟨ar0, v1, v2, v3⟩ := m_vals (E := E) (d := d + 1) (fl := fl) (al := al) (S := X.1.1) (t := X.1.2.1.2.2.2) (m := 265) (pc := 20) (L := fun z => [.ref 48, .int (nI n), .int z, xJ]) hA hok hR.2.2.2.1 (fun ar i hi hM hs => by
      have hvn := m_valueOrNone (E := E) (d := d + 1) (fl := fl) (ar := ar) (al := al) (k := i) hA hM hok hi hR.2.2.2.1 hs
      rw [e265_20, if_neg (by rw [zl]; exact nI_ge (by omega) (by omega))]
      simp (disch := first | omega | exact m_k48 hA) only [Option.bind_some, xI_s, xV_s, m_r48_1 hA, m_r48_2 hA, m_r48_5 hA, m_a50 hA, m_s50 hA, m_l50 hA, k169, zl, pk_mul, nI_add, Nat.add_zero, sar_s, sar_sar, m_r48_33 hA, hvn, m_s64 hA]) 1000 0 ar rfl h.ms hR.2.2.1 (fun j hj => by omega)
    have hla := m_laysAside (E := E) (d := d + 6) (fl := fl) (ar := ar0) (al := al) (k := 0) hA (by omega)
    have a0 := aside0 (ar := ar0)
    have a1 : MS ((sar ar0 5 (cpx (ar0 2) (ar0 5) 0 (963 * 0) 963)) 2) X.1.1 := by rw [sar_n (by omega), v3 2 (by omega)]; exact h.ms
    have a2 : ∀ j, j ≠ 5 → (sar ar0 5 (cpx (ar0 2) (ar0 5) 0 (963 * 0) 963)) j = ar0 j := fun j q => sar_n q
    generalize (sar ar0 5 (cpx (ar0 2) (ar0 5) 0 (963 * 0) 963)) = ar1 at *
    obtain ⟨ar2, l1, l2, l3⟩ := m_loses (E := E) (d := d + 2) (fl := fl) (ar := ar1) (al := al) (n := n) hA hR.2.2.2.1 (by rw [a2 2 (by omega), v3 2 (by omega)]; exact hR.2.2.1) a1 hX.1.1 (by omega)
    have hSI := SI_ls (t := X.1.2.1.2.2.2) n hX.1.1
    have h58 := m_lo58 (E := E) (d := d + 1) (fl := fl) (ar := ar2) (al := al) (S2 := lsS X.1.2.1.2.2.2 n X.1.1) (t := X.1.2.1.2.2.2) (v := fun j => valO (ents (X.1.1.1 (own X.1.1.1 (hsh X.1.2.1.2.2.2 j % 64)))) j) hA hSI.1.1 hR.2.2.2.1 l2 (by rw [l3.2 _ (by omega), a2 2 (by omega), v3 2 (by omega)]; exact hR.2.2.1) (fun j hj => by rw [l3.1 33 (by omega) (by omega) (by omega), a2 33 (by omega)]; exact v2 j hj) (fun j w hw => valO_lt hok hw) 1000 0 (.int (nI n)) rfl
    rw [← keysNA_cnt hok hX.1.1.1.2.1 hX.1.1.1.2.2.1] at h58
    have htb := m_takesBack (E := E) (d := d + 6) (fl := fl) (ar := ar2) (al := al) (k := 0) hA (by omega)
    refine ⟨fl, _, ?_, m_back0 (ar2 := ar2) h (fun _ _ _ _ _ => rfl) (fun i hi => by rw [l3.2 i hi, a2 2 (by omega), v3 2 (by omega)]) (fun j q1 q2 q3 q4 q5 _ => by rw [l3.1 j q1 q3 q4, a2 j q2, v3 j q5]) (fun j hj => by rw [l3.1 5 (by omega) (by omega) (by omega), a0 j hj, v3 2 (by omega)])⟩
    rotate_left
    · simp (disch := first | omega | exact m_k48 hA) only [Option.bind_some, xI_s, xV_s, m_r48_1 hA, m_r48_2 hA, m_r48_5 hA, m_a50 hA, m_s50 hA, m_l50 hA, k169, zl, pk_mul, nI_add, Nat.add_zero, sar_s, sar_sar, h.ms.wn, hl0]
      rw [if_neg (n_liesN (by omega) (by omega)), if_neg (show ¬ nI 1 = nI 0 by decide)]
      refine Eq.trans v1 ?_
      rw [e265_20, if_pos (show (1000 : Int32) ≤ nI 1000 by decide), show (0 : Int32) = nI 0 from rfl, hla, xV_s, Option.bind_some, l1, xV_s, Option.bind_some]
      refine Eq.trans h58 ?_
      rw [e265_58, if_pos (show (1000 : Int32) ≤ nI 1000 by decide), show (0 : Int32) = nI 0 from rfl, htb, xV_s, Option.bind_some]
theorem m_to20 (hA : 69 ≤ A.length) {S : St} (ho : okk S.1) (hd : S.2.2.2.1 ≤ 6) {n : Nat} : ∀ (c i : Nat) (ar : Nat → Nat → Int32) (w3 : Value), i + c = 64 → MS (ar 2) S → (∀ j, j < i → ar 34 j = slI S (nI j)) → ∃ ar', xD E (d + 5) 266 20 [.ref 48, .int (nI n), .int (nI i), w3] [] (mw A fl ar al) = xD E (d + 5) 266 20 [.ref 48, .int (nI n), .int (nI 64), xJ] [] (mw A fl ar' al) ∧ (∀ j, j < 64 → ar' 34 j = slI S (nI j)) ∧ ∀ j, j ≠ 34 → ar' j = ar j
  | 0, i, ar, w3, hi, h, hv => ⟨ar, by rw [show i = 64 by omega]; exact (e266_20 ..).trans (e266_20 ..).symm, fun j hj => hv j (by omega), fun _ _ => rfl⟩
  | c + 1, i, ar, w3, hi, h, hv => by
    have hsl := m_slot (E := E) (d := d) (fl := fl) (ar := ar) (al := al) (x := nI i) hA h ho hd
    obtain ⟨ar', i1, i2, i3⟩ := m_to20 hA ho hd c (i + 1) (sar ar 34 (upd (ar 34) i (slI S (nI i)))) xJ (by omega) (by rw [sar_n (by omega)]; exact h) (fun j hj => by
      rw [sar_s]
      by_cases e : j = i
      · subst e; exact upd_s
      · rw [upd_n e]; exact hv j (by omega))
    refine ⟨ar', ?_, i2, fun j hj => (i3 j hj).trans (sar_n hj)⟩
    rw [e266_20, if_neg (by rw [zl]; exact nI_ge (by omega) (by omega))]
    simp (disch := first | omega | exact m_k48 hA) only [Option.bind_some, xI_s, xV_s, m_r48_1 hA, m_r48_2 hA, m_r48_5 hA, m_a50 hA, m_s50 hA, m_l50 hA, k169, zl, pk_mul, nI_add, Nat.add_zero, sar_s, sar_sar, m_r48_34 hA, hsl, m_s65 hA]
    exact i1
theorem m_to57 (hA : 69 ≤ A.length) {S S2 : St} (ho2 : okk S2.1) (hd2 : S2.2.2.2.1 ≤ 6) (h : MS (ar 2) S2) (hv : ∀ j, j < 64 → ar 34 j = slI S (nI j)) : ∀ (c i : Nat) (w1 : Value), i + c = 64 → xD E (d + 5) 266 57 [.ref 48, w1, .int (nI (cnt (fun i => if slI S2 (nI i) = slI S (nI i) then 0 else 1) i)), .int (nI i)] [] (mw A fl ar al) = xD E (d + 5) 266 57 [.ref 48, xJ, .int (nI (cnt (fun i => if slI S2 (nI i) = slI S (nI i) then 0 else 1) 64)), .int (nI 64)] [] (mw A fl ar al)
  | 0, i, w1, hi => by
    rw [show i = 64 by omega]
    exact (e266_57 ..).trans (e266_57 ..).symm
  | c + 1, i, w1, hi => by
    have ih := m_to57 hA ho2 hd2 h hv c (i + 1) xJ (by omega)
    rw [cnt_s] at ih
    have hsl := m_slot (E := E) (d := d) (fl := fl) (ar := ar) (al := al) (x := nI i) hA h ho2 hd2
    rw [e266_57, if_neg (by rw [zl]; exact nI_ge (by omega) (by omega))]
    simp (disch := first | omega | exact m_k48 hA) only [Option.bind_some, xI_s, xV_s, m_r48_1 hA, m_r48_2 hA, m_r48_5 hA, m_a50 hA, m_s50 hA, m_l50 hA, k169, zl, pk_mul, nI_add, Nat.add_zero, sar_s, sar_sar, hsl, m_r48_34 hA, m_a65 hA, hv i (show i < 64 by omega)]
    by_cases e : slI S2 (nI i) = slI S (nI i)
    · rw [if_pos e]
      rw [if_pos e] at ih
      exact ih
    · rw [if_neg e]
      rw [if_neg e] at ih
      exact ih
theorem m_torn (hA : 69 ≤ A.length) (h : MI fl ar X) (hX : XI X) {x : Int32} : ∃ fl' ar', xC E (d + 6) 266 [.ref 48, .int x] (mw A fl ar al) = some (some (.int (aTorn X x)), mw A fl' ar' al) ∧ MI fl' ar' X := by
  have hwl := h.ms.wl
  have hl0 : ∀ H : xH, xC E (d + 5) 154 [.int x, .int (nI 0), .int (nI X.1.1.2.2.1.length)] H = some (some (.int (nI (if x < nI 0 ∨ nI X.1.1.2.2.1.length < x then 0 else 1))), H) := fun H => m_liesI
  rw [k266 _ _ _ _ _ (m_k48 hA)]
  unfold aTorn
  by_cases hx : x < 0 ∨ nI (X.1.1.2.2.1.length + 1) ≤ x
  · rw [if_pos hx]
    refine ⟨fl, ar, ?_, h⟩
    simp (disch := first | omega | exact m_k48 hA) only [Option.bind_some, xI_s, xV_s, m_r48_1 hA, m_r48_2 hA, m_r48_5 hA, m_a50 hA, m_s50 hA, m_l50 hA, k169, zl, pk_mul, nI_add, Nat.add_zero, sar_s, sar_sar, h.ms.wn, hl0]
    rw [if_pos (n_wait hwl hx), if_pos rfl]
  · rw [if_neg hx]
    obtain ⟨n, hn, rfl⟩ : ∃ n, n < X.1.1.2.2.1.length + 1 ∧ x = nI n := by
      rcases pk_ix x (show X.1.1.2.2.1.length + 1 < 2 ^ 31 by omega) with q | q | q
      · exact absurd (Or.inl q) hx
      · exact absurd (Or.inr q) hx
      · exact q
    rw [nI_clamp (by omega)]
    have hR := h.mr
    have hok := hX.1.1.1.1
    have hdp : X.1.1.2.2.2.1 ≤ 6 := by rw [hX.1.1.2]; exact deepN_6 hok
    obtain ⟨ar0, v1, v2, v3⟩ := m_to20 (E := E) (d := d + 1) (fl := fl) (al := al) (S := X.1.1) (n := n) hA hok hdp 64 0 ar xJ rfl h.ms (fun j hj => by omega)
    have hla := m_laysAside (E := E) (d := d + 4) (fl := fl) (ar := ar0) (al := al) (k := 0) hA (by omega)
    have a0 := aside0 (ar := ar0)
    have a1 : MS ((sar ar0 5 (cpx (ar0 2) (ar0 5) 0 (963 * 0) 963)) 2) X.1.1 := by rw [sar_n (by omega), v3 2 (by omega)]; exact h.ms
    have a2 : ∀ j, j ≠ 5 → (sar ar0 5 (cpx (ar0 2) (ar0 5) 0 (963 * 0) 963)) j = ar0 j := fun j q => sar_n q
    generalize (sar ar0 5 (cpx (ar0 2) (ar0 5) 0 (963 * 0) 963)) = ar1 at *
    obtain ⟨ar2, l1, l2, l3⟩ := m_loses (E := E) (d := d) (fl := fl) (ar := ar1) (al := al) (n := n) hA hR.2.2.2.1 (by rw [a2 2 (by omega), v3 2 (by omega)]; exact hR.2.2.1) a1 hX.1.1 (by omega)
    have hSI := SI_ls (t := X.1.2.1.2.2.2) n hX.1.1
    have hdp2 : (lsS X.1.2.1.2.2.2 n X.1.1).2.2.2.1 ≤ 6 := by rw [hSI.2]; exact deepN_6 hSI.1.1
    have h57 := m_to57 (E := E) (d := d + 1) (fl := fl) (ar := ar2) (al := al) (S := X.1.1) (S2 := lsS X.1.2.1.2.2.2 n X.1.1) hA hSI.1.1 hdp2 l2 (fun j hj => by rw [l3.1 34 (by omega) (by omega) (by omega), a2 34 (by omega)]; exact v2 j hj) 64 0 (.int (nI n)) rfl
    rw [← slotsNA_cnt hdp hdp2] at h57
    have htb := m_takesBack (E := E) (d := d + 4) (fl := fl) (ar := ar2) (al := al) (k := 0) hA (by omega)
    refine ⟨fl, _, ?_, m_back0 (ar2 := ar2) h (fun _ _ _ _ _ => rfl) (fun i hi => by rw [l3.2 i hi, a2 2 (by omega), v3 2 (by omega)]) (fun j q1 q2 q3 q4 _ q6 => by rw [l3.1 j q1 q3 q4, a2 j q2, v3 j q6]) (fun j hj => by rw [l3.1 5 (by omega) (by omega) (by omega), a0 j hj, v3 2 (by omega)])⟩
    rotate_left
    · simp (disch := first | omega | exact m_k48 hA) only [Option.bind_some, xI_s, xV_s, m_r48_1 hA, m_r48_2 hA, m_r48_5 hA, m_a50 hA, m_s50 hA, m_l50 hA, k169, zl, pk_mul, nI_add, Nat.add_zero, sar_s, sar_sar, h.ms.wn, hl0]
      rw [if_neg (n_liesN (by omega) (by omega)), if_neg (show ¬ nI 1 = nI 0 by decide)]
      refine Eq.trans v1 ?_
      rw [e266_20, if_pos (show (64 : Int32) ≤ nI 64 by decide), show (0 : Int32) = nI 0 from rfl, hla, xV_s, Option.bind_some, l1, xV_s, Option.bind_some]
      refine Eq.trans h57 ?_
      rw [e266_57, if_pos (show (64 : Int32) ≤ nI 64 by decide), show (0 : Int32) = nI 0 from rfl, htb, xV_s, Option.bind_some]
theorem m_wouldSplit (hA : 69 ≤ A.length) (h : MI fl ar X) (hX : XI X) {k : Nat} (hk : k < 1000) : ∃ fl' ar', xC E (d + 51) 267 [.ref 48, .int (nI k)] (mw A fl ar al) = some (some (.int (nI (wsp X.1.2.1 X.1.1 k))), mw A fl' ar' al) ∧ MI fl' ar' X := by
  have hM := h.ms
  have hR := h.mr
  have hok := hX.1.1.1.1
  have hb := own_lt X.1.1.1 (hsh X.1.2.1.2.2.2 k % 64)
  have hl := hM.ln hb
  have hsk := m_soughtIn (E := E) (d := d + 46) (fl := fl) (al := al) hA hM hok hk hR.2.2.2.1 hR.2.2.1
  have hmn := hM.mn hb
  rw [k267 _ _ _ _ _ (m_k48 hA)]
  simp (disch := first | omega | exact m_k48 hA) only [Option.bind_some, xI_s, xV_s, m_r48_1 hA, m_r48_2 hA, m_r48_5 hA, m_a50 hA, m_s50 hA, m_l50 hA, k169, zl, pk_mul, nI_add, Nat.add_zero, sar_s, sar_sar, hsk, hmn]
  unfold wsp
  by_cases e3 : (ents (X.1.1.1 (own X.1.1.1 (hsh X.1.2.1.2.2.2 k % 64)))).length < 3
  · rw [if_pos (nI_lt e3 (by omega))]
    refine ⟨fl, ar, ?_, h⟩
    cases kIdx (ents (X.1.1.1 (own X.1.1.1 (hsh X.1.2.1.2.2.2 k % 64)))) k with
    | some i => rfl
    | none =>
      dsimp only
      rw [show ndS X.1.2.1.2.2.2 X.1.1.1 (own X.1.1.1 (hsh X.1.2.1.2.2.2 k % 64)) (hsh X.1.2.1.2.2.2 k) = some 0 from if_pos e3]
      rfl
  · rw [if_neg (nI_nlt (by omega) (by omega)), m_placeOf hA hM hok hk hR.2.2.2.1 hR.2.2.1, xI_s, Option.bind_some]
    dsimp only
    cases hi : kIdx (ents (X.1.1.1 (own X.1.1.1 (hsh X.1.2.1.2.2.2 k % 64)))) k with
    | some i =>
      obtain ⟨w, hw⟩ := kIdx_some hi
      have := (List.getElem?_eq_some_iff.mp hw).1
      rw [oI_s, if_neg (n_m1n (by omega))]
      exact ⟨fl, ar, rfl, h⟩
    | none =>
      rw [oI_m, if_pos rfl]
      dsimp only
      obtain ⟨fl1, ga, b1, b2⟩ := m_isBarred (E := E) (d := d + 3) (fl := fl) (al := al) hA hM hR hok hX.1.1.1.2.2.2.2.1 hk
      have hM1 : MI fl1 (sar ar 26 ga) X := h.st (S := X.1.1) (by rw [sar_n (by omega)]; exact hM) b2 (fun i _ => by rw [sar_n (by omega)]) (fun j _ _ q _ _ _ => sar_n q)
      rw [b1, xI_s, Option.bind_some]
      dsimp only
      by_cases br : brR X.1.2.1 X.1.1.1 X.1.1.2.2.2.2 k = true
      · rw [if_pos br, if_neg (show ¬ nI 1 = nI 0 by decide)]
        refine ⟨fl1, _, ?_, hM1⟩
        cases ndS X.1.2.1.2.2.2 X.1.1.1 (own X.1.1.1 (hsh X.1.2.1.2.2.2 k % 64)) (hsh X.1.2.1.2.2.2 k) with
        | none => rfl
        | some n => dsimp only; rw [if_pos br, ite_self]
      · rw [if_neg br, if_pos (show nI 0 = nI 0 by rfl)]
        generalize (sar ar 26 ga) = ar0 at *
        have hla := m_laysAside (E := E) (d := d + 49) (fl := fl1) (ar := ar0) (al := al) (k := 0) hA (by omega)
        have a0 := aside0 (ar := ar0)
        have a1 : MS ((sar ar0 5 (cpx (ar0 2) (ar0 5) 0 (963 * 0) 963)) 2) X.1.1 := by rw [sar_n (by omega)]; exact hM1.ms
        have a2 : ∀ j, j ≠ 5 → (sar ar0 5 (cpx (ar0 2) (ar0 5) 0 (963 * 0) 963)) j = ar0 j := fun j q => sar_n q
        generalize (sar ar0 5 (cpx (ar0 2) (ar0 5) 0 (963 * 0) 963)) = ar1 at *
        have hR1 : MRR (ar1 2) X.1.2.1 := by rw [a2 2 (by omega)]; exact hM1.mr
        have hk242 : xC E (d + 50) 242 [.ref 48, .int (nI k), .int (nI 0)] (mw A fl1 ar1 al) = xD E (d + 50) 242 2 [.ref 48, .int (nI k), .int (nI 0), .int (nI 0)] [] (mw A fl1 ar1 al) := by
          rw [k242 _ _ _ _ _ _ (m_k48 hA)]; rfl
        rw [hla, xV_s, Option.bind_some, hk242]
        have fin : ∀ (fl2 : Nat → Int32) (ar2 : Nat → Nat → Int32), MF fl1 ar1 fl2 ar2 → MI fl2 (sar ar2 2 (cpx (ar2 5) (ar2 2) (963 * 0) 0 963)) X := fun fl2 ar2 c2 => m_back0 hM1 c2.1 (fun i hi => by rw [c2.2.2 i hi, a2 2 (by omega)]) (fun j q1 q2 q3 q4 _ _ => by rw [c2.2.1 j q1 q3 q4, a2 j q2]) (fun j hj => by rw [c2.2.1 5 (by omega) (by omega) (by omega)]; exact a0 j hj)
        cases hn : ndS X.1.2.1.2.2.2 X.1.1.1 (own X.1.1.1 (hsh X.1.2.1.2.2.2 k % 64)) (hsh X.1.2.1.2.2.2 k) with
        | none =>
          obtain ⟨fl2, ar2, c1, c2⟩ := m_comes_no (E := E) (d := d) (al := al) (R := X.1.2.1) (x2 := nI 0) hA hk 6 0 X.1.1 fl1 ar1 a1 hR1 hX.1.1 (nrm_of hok hn) (by omega)
          rw [c1, xI_s, Option.bind_some]
          dsimp only
          rw [m_takesBack hA (by omega), xV_s, Option.bind_some, if_pos (show (-1 : Int32) ≤ nI 0 by decide)]
          exact ⟨fl2, _, rfl, fin fl2 ar2 c2⟩
        | some n =>
          have hr := rmF_of hok hn
          have hr2 := hr.1.2.1
          obtain ⟨fl2, ar2, c1, c2, c3⟩ := m_comes_yes (E := E) (d := d) (al := al) (R := X.1.2.1) (v := 0) hA hk (by omega) n 0 X.1.1 fl1 ar1 a1 hR1 hX.1.1 hr (by omega)
          rw [c1, xI_s, Option.bind_some, Nat.zero_add]
          dsimp only
          rw [m_takesBack hA (by omega), xV_s, Option.bind_some]
          by_cases e0 : n = 0
          · subst e0
            rw [if_pos (show nI 0 ≤ nI 0 by decide), if_pos rfl]
            exact ⟨fl2, _, rfl, fin fl2 ar2 c3⟩
          · rw [if_neg (show ¬ nI n ≤ nI 0 from nI_ge (by omega) (by omega)), if_neg e0, if_neg br]
            exact ⟨fl2, _, rfl, fin fl2 ar2 c3⟩
theorem wsp_le {R : Ru} {S : St} {k : Nat} : wsp R S k ≤ 1 := by
  unfold wsp
  split
  · omega
  · split
    · omega
    · split
      · omega
      · split <;> omega
theorem m_sp4 (hA : 69 ≤ A.length) (hX : XI X) : ∀ (c i : Nat) (fl : Nat → Int32) (ar : Nat → Nat → Int32), i + c = 1000 → MI fl ar X → ∃ fl' ar', xD E (d + 52) 268 4 [.ref 48, .int (nI (cnt (fun k => wsp X.1.2.1 X.1.1 k) i)), .int (nI i)] [] (mw A fl ar al) = some (some (.int (nI (cnt (fun k => wsp X.1.2.1 X.1.1 k) 1000))), mw A fl' ar' al) ∧ MI fl' ar' X
  | 0, i, fl, ar, hi, h => by
    refine ⟨fl, ar, ?_, h⟩
    rw [e268_4, if_pos (by rw [zl]; exact nI_le (by omega) (by omega)), show i = 1000 by omega]
  | c + 1, i, fl, ar, hi, h => by
    obtain ⟨fl1, ar1, p1, p2⟩ := m_wouldSplit (E := E) (d := d) (al := al) hA h hX (k := i) (by omega)
    obtain ⟨fl2, ar2, q1, q2⟩ := m_sp4 hA hX c (i + 1) fl1 ar1 (by omega) p2
    refine ⟨fl2, ar2, ?_, q2⟩
    rw [e268_4, if_neg (by rw [zl]; exact nI_ge (by omega) (by omega)), p1, xI_s, Option.bind_some]
    dsimp only
    rw [cnt_s] at q1
    have := wsp_le (R := X.1.2.1) (S := X.1.1) (k := i)
    rcases (show wsp X.1.2.1 X.1.1 i = 0 ∨ wsp X.1.2.1 X.1.1 i = 1 by omega) with e | e
    · rw [e] at q1 ⊢
      rw [if_pos (show nI 0 = 0 by rfl)]
      simp only [zl, nI_add]
      exact q1
    · rw [e] at q1 ⊢
      rw [if_neg (show ¬ nI 1 = 0 by decide)]
      simp only [zl, nI_add]
      exact q1
theorem m_splits (hA : 69 ≤ A.length) (h : MI fl ar X) (hX : XI X) : ∃ fl' ar', xC E (d + 52) 268 [.ref 48] (mw A fl ar al) = some (some (.int (nI (cnt (fun k => wsp X.1.2.1 X.1.1 k) 1000))), mw A fl' ar' al) ∧ MI fl' ar' X := by
  obtain ⟨fl2, ar2, q1, q2⟩ := m_sp4 (E := E) (d := d) (al := al) hA hX 1000 0 fl ar rfl h
  exact ⟨fl2, ar2, by rw [k268 _ _ _ _ (m_k48 hA)]; exact q1, q2⟩
theorem m_room (hA : 69 ≤ A.length) (h : MI fl ar X) : xC E (d + 4) 269 [.ref 48] (mw A fl ar al) = some (some (.int (nI (3 * usedN X.1.1.1) - nI (keysN X.1.1.1))), mw A fl ar al) := by
  rw [k269 _ _ _ _ (m_k48 hA), m_usedMany hA h.ms, xI_s, Option.bind_some]
  dsimp only
  rw [m_keyMany hA h.ms, xI_s, Option.bind_some, show (3 : Int32) = nI 3 from rfl, pk_mul]
def aTwin (X : Xs) (x : Int32) : Int32 := if x < 0 ∨ nI 24 ≤ x then -1 else oI (twn X.1.1.1 x.toNatClampNeg)
theorem m_twin (hA : 69 ≤ A.length) (h : MI fl ar X) (hX : XI X) {x : Int32} : xC E (d + 4) 270 [.ref 48, .int x] (mw A fl ar al) = some (some (.int (aTwin X x)), mw A fl ar al) := by
  rw [k270 _ _ _ _ _ (m_k48 hA), m_isBucket, xI_s, Option.bind_some]
  dsimp only
  unfold aTwin
  rcases pk_ix x (show 24 < 2 ^ 31 by omega) with hx | hx | ⟨i, hi, rfl⟩
  · rw [if_pos (n_liesI (n := 23) (by omega) (Or.inl hx)), if_pos (by rfl), if_pos (Or.inl hx)]
  · rw [if_pos (n_liesI (n := 23) (by omega) (Or.inr hx)), if_pos (by rfl), if_pos (Or.inr hx)]
  · rw [if_neg (n_liesN (by omega) (by omega)), if_neg (show ¬ nI 1 = 0 by decide), if_neg (n_out (by omega) hi), nI_clamp (by omega), m_isUsed hA h.ms hi, xI_s, Option.bind_some]
    dsimp only
    by_cases e : X.1.1.1 i = none
    · rw [e, if_pos (by rfl)]
      have : twn X.1.1.1 i = none := by unfold twn; rw [if_pos (by rw [e]; rfl)]
      rw [this]; rfl
    · have hus : pus (X.1.1.1 i) = 1 := by
        cases hB : X.1.1.1 i with
        | none => exact absurd hB e
        | some w => rfl
      rw [hus, if_neg (show ¬ nI 1 = 0 by decide), m_twinOf hA h.ms hX.1.1.1.1 hi e, xI_s, Option.bind_some]
theorem m_sn4 (hA : 69 ≤ A.length) {S : St} (h : MS (ar 2) S) : ∀ c i v, i + c = S.2.2.1.length → xD E (d + 2) 274 4 [.ref 48, .int (nI v), .int (nI i)] [] (mw A fl ar al) = some (some (.int (nI (v + wsum (S.2.2.1.drop i)))), mw A fl ar al)
  | 0, i, v, hc => by
    have hwl := h.wl
    rw [e274_4]
    simp (disch := first | omega | exact m_k48 hA) only [Option.bind_some, xI_s, xV_s, m_r48_1 hA, m_r48_2 hA, m_r48_5 hA, m_a50 hA, m_s50 hA, m_l50 hA, k169, zl, pk_mul, nI_add, Nat.add_zero, sar_s, sar_sar, h.wn]
    rw [if_pos (nI_le (by omega) (by omega)), List.drop_of_length_le (by omega)]; rfl
  | c + 1, i, v, hc => by
    have hwl := h.wl
    have hi : i < S.2.2.1.length := by omega
    obtain ⟨q1, q2, q3, q4⟩ := h.2.2.1.2 i S.2.2.1[i] (List.getElem?_eq_getElem hi)
    have ih := m_sn4 hA h c (i + 1) (v + S.2.2.1[i].2.1) (by omega)
    rw [e274_4]
    simp (disch := first | omega | exact m_k48 hA) only [Option.bind_some, xI_s, xV_s, m_r48_1 hA, m_r48_2 hA, m_r48_5 hA, m_a50 hA, m_s50 hA, m_l50 hA, k169, zl, pk_mul, nI_add, Nat.add_zero, sar_s, sar_sar, h.wn]
    rw [if_neg (nI_ge hi (by omega))]
    simp (disch := first | omega | exact m_k48 hA) only [Option.bind_some, xI_s, xV_s, m_r48_1 hA, m_r48_2 hA, m_r48_5 hA, m_a50 hA, m_s50 hA, m_l50 hA, k169, zl, pk_mul, nI_add, Nat.add_zero, sar_s, sar_sar, k182, q2]
    rw [ih, List.drop_eq_getElem_cons hi]
    simp only [wsum, Nat.add_assoc]
theorem m_spent (hA : 69 ≤ A.length) (h : MI fl ar X) : xC E (d + 2) 274 [.ref 48] (mw A fl ar al) = some (some (.int (nI (wsum X.1.1.2.2.1))), mw A fl ar al) := by
  have := m_sn4 (E := E) (d := d) (fl := fl) (al := al) hA h.ms X.1.1.2.2.1.length 0 0 (by omega)
  rw [List.drop_zero, Nat.zero_add] at this
  rw [k274 _ _ _ _ (m_k48 hA)]; exact this
end MPAPER
