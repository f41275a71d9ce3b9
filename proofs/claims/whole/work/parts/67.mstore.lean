/-! ===== the reference's store: its beginning of the kept row is a store ===== -/
def MS (f : Nat → Int32) (S : St) : Prop := (∀ b, b < 24 → pgR f (10 * b) (S.1 b)) ∧ (∀ b, b < 24 → pgR f (240 + 10 * b) (S.2.1 b)) ∧ (S.2.2.1.length ≤ 40 ∧ ∀ i q, S.2.2.1[i]? = some q → wrR f (480 + 12 * i) q) ∧ f 960 = nI S.2.2.1.length ∧ f 961 = nI S.2.2.2.1 ∧ f 962 = nI S.2.2.2.2
theorem MS.cong {f g : Nat → Int32} {S : St} (h : MS f S) (hg : ∀ j, j < 963 → g j = f j) : MS g S := by
  obtain ⟨h1, h2, ⟨h3, h4⟩, h5, h6, h7⟩ := h
  refine ⟨fun b hb => pgR_cong (h1 b hb) (fun j _ j2 => hg j (by omega)), fun b hb => pgR_cong (h2 b hb) (fun j _ j2 => hg j (by omega)), ⟨h3, fun i q hq => ?_⟩, by rw [hg _ (by omega)]; exact h5, by rw [hg _ (by omega)]; exact h6, by rw [hg _ (by omega)]; exact h7⟩
  have hi : i < S.2.2.1.length := (List.getElem?_eq_some_iff.mp hq).1
  exact wrR_cong (h4 i q hq) (fun j _ j2 => hg j (by omega))
/-- the reference's rules, in its kept row -/
def evF (T : Nat → Nat × Nat) (N g0 : Nat) (f : Nat → Int32) : Prop := evR T N g0 (fun _ => f)
theorem evF.ar {T : Nat → Nat × Nat} {N g0 : Nat} {ar : Nat → Nat → Int32} (h : evF T N g0 (ar 2)) : evR T N g0 ar := h
theorem evF.cong {T : Nat → Nat × Nat} {N g0 : Nat} {f g : Nat → Int32} (h : evF T N g0 f) (hg : ∀ j, 963 ≤ j → g j = f j) : evF T N g0 g := by
  obtain ⟨h1, h2, h3, h4, h5⟩ := h
  refine ⟨h1, h2, h3, h4, fun i hi => ?_⟩
  obtain ⟨a, w, b, c⟩ := h5 i hi
  exact ⟨(hg _ (by omega)).trans a, w, (hg _ (by omega)).trans b, c⟩
def MRR (f : Nat → Int32) (R : Ru) : Prop := f 976 = nI R.2.2.1 ∧ R.2.2.1 ≤ 9 ∧ f 977 = nI R.2.2.2 ∧ R.2.2.2 < 1000 ∧ f 979 = nI R.1.length ∧ R.1.length ≤ 6 ∧ f 980 = oI R.2.1 ∧ (∀ q, R.2.1 = some q → q < R.1.length) ∧ ∀ i L, R.1[i]? = some L → lawK L ∧ f (981 + i) = nI (tkN L.1 L.2) ∧ evF (tok L.1 L.2) (tkN L.1 L.2) (400 * i) f
theorem MRR.cong {f g : Nat → Int32} {R : Ru} (h : MRR f R) (hg : ∀ j, 963 ≤ j → g j = f j) : MRR g R := by
  obtain ⟨h1, h2, h3, h4, h5, h6, h7, h8, h9⟩ := h
  refine ⟨(hg _ (by omega)).trans h1, h2, (hg _ (by omega)).trans h3, h4, (hg _ (by omega)).trans h5, h6, (hg _ (by omega)).trans h7, h8, fun i L hi => ?_⟩
  obtain ⟨a, b, c⟩ := h9 i L hi
  exact ⟨a, (hg _ (by omega)).trans b, c.cong hg⟩
/-- what the store's acts leave of the reference: fields 22 .. 25, the store's cells, what is asked, the pages of slots may change -/
def kF (ar ar' : Nat → Nat → Int32) : Prop := (∀ j, j ≠ 2 → j ≠ 26 → j ≠ 29 → ar' j = ar j) ∧ ∀ i, 963 ≤ i → ar' 2 i = ar 2 i
def MF (fl : Nat → Int32) (ar : Nat → Nat → Int32) (fl' : Nat → Int32) (ar' : Nat → Nat → Int32) : Prop := eG fl fl' ∧ kF ar ar'
theorem kF.rf {ar : Nat → Nat → Int32} : kF ar ar := ⟨fun _ _ _ _ => rfl, fun _ _ => rfl⟩
theorem kF.tr {a b c : Nat → Nat → Int32} (h : kF a b) (g : kF b c) : kF a c := ⟨fun j q1 q2 q3 => (g.1 j q1 q2 q3).trans (h.1 j q1 q2 q3), fun i q => (g.2 i q).trans (h.2 i q)⟩
theorem MF.rf {fl : Nat → Int32} {ar : Nat → Nat → Int32} : MF fl ar fl ar := ⟨eG.rf, kF.rf⟩
theorem MF.tr {f1 f2 f3 : Nat → Int32} {a b c : Nat → Nat → Int32} (h : MF f1 a f2 b) (g : MF f2 b f3 c) : MF f1 a f3 c := ⟨h.1.tr g.1, h.2.tr g.2⟩
/-- cells of the store alone have changed -/
theorem kF.k2 {ar : Nat → Nat → Int32} {g : Nat → Int32} (h : ∀ i, 963 ≤ i → g i = ar 2 i) : kF ar (sar ar 2 g) := ⟨fun j q1 _ _ => sar_n q1, fun i q => by rw [sar_s]; exact h i q⟩
theorem kF.k26 {ar : Nat → Nat → Int32} {g : Nat → Int32} : kF ar (sar ar 26 g) := ⟨fun j _ q1 _ => sar_n q1, fun i _ => by rw [sar_n (by omega)]⟩
theorem MF.k2 {fl : Nat → Int32} {ar : Nat → Nat → Int32} {g : Nat → Int32} (h : ∀ i, 963 ≤ i → g i = ar 2 i) : MF fl ar fl (sar ar 2 g) := ⟨eG.rf, kF.k2 h⟩
theorem MRR.kF {ar ar' : Nat → Nat → Int32} {R : Ru} (h : MRR (ar 2) R) (hk : kF ar ar') : MRR (ar' 2) R := h.cong hk.2
section MST
variable {f : Nat → Int32} {S : St} {b i : Nat}
theorem MS.us (h : MS f S) (hb : b < 24) : f (10 * b) = nI (pus (S.1 b)) := (h.1 b hb).2.1
theorem MS.us0 (h : MS f S) (hb : b < 24) : f (10 * b + 0) = nI (pus (S.1 b)) := (h.1 b hb).2.1
theorem MS.mn (h : MS f S) (hb : b < 24) : f (10 * b + 3) = nI (ents (S.1 b)).length := (h.1 b hb).2.2.1
theorem MS.dp (h : MS f S) (hb : b < 24) (hu : S.1 b ≠ none) : f (10 * b + 1) = nI (pdp (S.1 b)) := ((h.1 b hb).2.2.2.2 hu).1
theorem MS.px (h : MS f S) (hb : b < 24) (hu : S.1 b ≠ none) : f (10 * b + 2) = nI (ppx (S.1 b)) := ((h.1 b hb).2.2.2.2 hu).2
theorem MS.ky (h : MS f S) (hb : b < 24) {k v : Nat} (hi : (ents (S.1 b))[i]? = some (k, v)) : f (10 * b + (4 + i)) = nI k := by
  rw [← Nat.add_assoc]; exact ((h.1 b hb).2.2.2.1 i k v hi).1
theorem MS.vl (h : MS f S) (hb : b < 24) {k v : Nat} (hi : (ents (S.1 b))[i]? = some (k, v)) : f (10 * b + (7 + i)) = nI v := by
  rw [← Nat.add_assoc]; exact ((h.1 b hb).2.2.2.1 i k v hi).2
theorem MS.ln (h : MS f S) (hb : b < 24) : (ents (S.1 b)).length ≤ 3 := (h.1 b hb).1
theorem MS.wl (h : MS f S) : S.2.2.1.length ≤ 40 := h.2.2.1.1
theorem MS.wn (h : MS f S) : f 960 = nI S.2.2.1.length := h.2.2.2.1
theorem MS.de (h : MS f S) : f 961 = nI S.2.2.2.1 := h.2.2.2.2.1
theorem MS.ti (h : MS f S) : f 962 = nI S.2.2.2.2 := h.2.2.2.2.2
end MST
section MRD
variable {E : Nat × (Nat → Int32)} {d : Nat} {A : xH} {fl : Nat → Int32} {ar : Nat → Nat → Int32} {al : Nat → Nat → Int64} {S : St} {R : Ru} {b : Nat}
theorem m_isUsed (hA : 69 ≤ A.length) (h : MS (ar 2) S) (hb : b < 24) : xC E (d + 2) 170 [.ref 48, .int (nI b)] (mw A fl ar al) = some (some (.int (nI (pus (S.1 b)))), mw A fl ar al) := by
  rw [k170 _ _ _ _ _ (m_k48 hA)]
  simp (disch := first | omega | exact m_k48 hA) only [Option.bind_some, xI_s, xV_s, m_r48_1 hA, m_r48_2 hA, m_r48_5 hA, m_a50 hA, m_s50 hA, m_l50 hA, k169, zl, pk_mul, nI_add, Nat.add_zero, sar_s, sar_sar, h.us hb]
  cases S.1 b with
  | none => rw [if_neg (by show ¬ nI 0 = nI 1; decide)]; rfl
  | some q => rw [if_pos (by rfl)]; rfl
theorem m_used_loop (hA : 69 ≤ A.length) (h : MS (ar 2) S) : ∀ c i, i + c = 24 → xD E (d + 2) 171 4 [.ref 48, .int (nI (cnt (fun b => pus (S.1 b)) i)), .int (nI i)] [] (mw A fl ar al) = some (some (.int (nI (usedN S.1))), mw A fl ar al)
  | 0, i, hc => by
    rw [e171_4, if_pos (by rw [zl]; exact nI_le (by omega) (by omega)), show i = 24 by omega]; rfl
  | c + 1, i, hc => by
    rw [e171_4, if_neg (by rw [zl]; exact nI_ge (by omega) (by omega))]
    simp (disch := first | omega | exact m_k48 hA) only [Option.bind_some, xI_s, xV_s, m_r48_1 hA, m_r48_2 hA, m_r48_5 hA, m_a50 hA, m_s50 hA, m_l50 hA, k169, zl, pk_mul, nI_add, Nat.add_zero, sar_s, sar_sar, h.us (show i < 24 by omega)]
    exact m_used_loop hA h c (i + 1) (by omega)
theorem m_usedMany (hA : 69 ≤ A.length) (h : MS (ar 2) S) : xC E (d + 2) 171 [.ref 48] (mw A fl ar al) = some (some (.int (nI (usedN S.1))), mw A fl ar al) := by
  rw [k171 _ _ _ _ (m_k48 hA)]; simp only [zl]; exact m_used_loop hA h 24 0 rfl
theorem m_keys_loop (hA : 69 ≤ A.length) (h : MS (ar 2) S) : ∀ c i, i + c = 24 → xD E (d + 3) 172 4 [.ref 48, .int (nI (cnt (fun b => (ents (S.1 b)).length) i)), .int (nI i)] [] (mw A fl ar al) = some (some (.int (nI (keysN S.1))), mw A fl ar al)
  | 0, i, hc => by
    rw [e172_4, if_pos (by rw [zl]; exact nI_le (by omega) (by omega)), show i = 24 by omega]; rfl
  | c + 1, i, hc => by
    have ih := m_keys_loop hA h c (i + 1) (by omega)
    have hmn := h.mn (show i < 24 by omega)
    have hc1 : cnt (fun b => (ents (S.1 b)).length) (i + 1) = cnt (fun b => (ents (S.1 b)).length) i + (ents (S.1 i)).length := rfl
    rw [hc1] at ih
    rw [e172_4, if_neg (by rw [zl]; exact nI_ge (by omega) (by omega)), m_isUsed hA h (by omega), xI_s, Option.bind_some]
    dsimp only
    cases hB : S.1 i with
    | none =>
      rw [hB] at ih
      rw [if_pos (by rfl)]
      simp only [zl, nI_add]
      exact ih
    | some q =>
      rw [if_neg (by show ¬ nI 1 = 0; decide)]
      simp (disch := first | omega | exact m_k48 hA) only [Option.bind_some, xI_s, xV_s, m_r48_1 hA, m_r48_2 hA, m_r48_5 hA, m_a50 hA, m_s50 hA, m_l50 hA, k169, zl, pk_mul, nI_add, Nat.add_zero, sar_s, sar_sar, hmn]
      exact ih
theorem m_keyMany (hA : 69 ≤ A.length) (h : MS (ar 2) S) : xC E (d + 3) 172 [.ref 48] (mw A fl ar al) = some (some (.int (nI (keysN S.1))), mw A fl ar al) := by
  rw [k172 _ _ _ _ (m_k48 hA)]; simp only [zl]; exact m_keys_loop hA h 24 0 rfl
theorem m_hashOf (hA : 69 ≤ A.length) {k t : Nat} (hk : k < 1000) (ht : t < 1000) (hs : ar 2 977 = nI t) : xC E (d + 1) 174 [.ref 48, .int (nI k)] (mw A fl ar al) = some (some (.int (nI (hsh t k))), mw A fl ar al) := by
  rw [k174 _ _ _ _ _ (m_k48 hA)]
  simp (disch := first | omega | exact m_k48 hA) only [Option.bind_some, xI_s, xV_s, m_r48_1 hA, m_r48_2 hA, m_r48_5 hA, m_a50 hA, m_s50 hA, m_l50 hA, k169, zl, pk_mul, nI_add, Nat.add_zero, sar_s, sar_sar, hs]
  rw [n_rem (by omega) (by omega) (by omega)]; rfl
theorem n_low {h k : Nat} (hh : h < 2 ^ 31) (hk : k ≤ 6) : nI h &&& (((1 : Int32) <<< (nI k &&& 31)) - (1 : Int32)) = nI (h % 2 ^ k) := by
  have h1 : ∀ k, k ≤ 6 → ((1 : Int32) <<< (nI k &&& 31)) - (1 : Int32) = nI (2 ^ k - 1) := by decide +kernel
  have h2 : ∀ k, k ≤ 6 → ∀ (x : Nat), x < 2 ^ 31 → nI x &&& nI (2 ^ k - 1) = nI (x % 2 ^ k) := fun k hk x hx => pk_andN (by omega) k (by
    rcases (show k = 0 ∨ k = 1 ∨ k = 2 ∨ k = 3 ∨ k = 4 ∨ k = 5 ∨ k = 6 by omega) with rfl | rfl | rfl | rfl | rfl | rfl | rfl <;> decide +kernel)
  rw [h1 k hk, h2 k hk h hh]
theorem m_lowBits {x k : Nat} (hh : x < 2 ^ 31) (hk : k ≤ 6) : xC E (d + 1) 173 [.int (nI x), .int (nI k)] A = some (some (.int (nI (x % 2 ^ k))), A) := by
  rw [k173, n_low hh hk]
/-- whose a slot, or a hash, is -/
theorem m_own_loop (hA : 69 ≤ A.length) (h : MS (ar 2) S) (hdp : ∀ q, pdp (S.1 q) ≤ 6) (hpx : ∀ q, ppx (S.1 q) < 64) {x : Nat} (hx : x < 2 ^ 31) : ∀ c i o, i + c = 24 → fst1 (fun b => clm (S.1 b) x) c i = some o → xD E (d + 3) 175 2 [.ref 48, .int (nI x), .int (nI i)] [] (mw A fl ar al) = some (some (.int (nI o)), mw A fl ar al)
  | 0, i, o, hc, ho => by cases ho
  | c + 1, i, o, hc, ho => by
    have hi : i < 24 := by omega
    unfold fst1 at ho
    rw [e175_2, m_isUsed hA h hi, xI_s, Option.bind_some]
    dsimp only
    cases hB : S.1 i with
    | none =>
      rw [hB, if_neg (by simp [clm])] at ho
      rw [if_pos (by rfl), nI_1]
      exact m_own_loop hA h hdp hpx hx c (i + 1) o (by omega) ho
    | some q =>
      have hu : S.1 i ≠ none := by rw [hB]; simp
      have hd6 := hdp i
      have hp6 := hpx i
      have hcl : clm (S.1 i) x = true ↔ x % 2 ^ pdp (S.1 i) = ppx (S.1 i) := clm_iff hu
      have hl := Nat.mod_lt x (Nat.two_pow_pos (pdp (S.1 i)))
      have h64 := pow6 hd6
      rw [if_neg (by show ¬ nI 1 = 0; decide)]
      simp (disch := first | omega | exact m_k48 hA) only [Option.bind_some, xI_s, xV_s, m_r48_1 hA, m_r48_2 hA, m_r48_5 hA, m_a50 hA, m_s50 hA, m_l50 hA, k169, zl, pk_mul, nI_add, Nat.add_zero, sar_s, sar_sar, h.px hi hu, h.dp hi hu, m_lowBits hx hd6]
      by_cases e : x % 2 ^ pdp (S.1 i) = ppx (S.1 i)
      · rw [if_pos (hcl.mpr e)] at ho
        rw [e, if_pos rfl, Option.some.inj ho]
      · rw [if_neg (fun z => e (hcl.mp z))] at ho
        rw [if_neg (fun z => e ((nI_eq (by omega) (by omega)).mp z).symm)]
        exact m_own_loop hA h hdp hpx hx c (i + 1) o (by omega) ho
theorem okk_px {B : Bk} (h : okk B) (q : Nat) : ppx (B q) < 64 := by
  have := (h.2 q).2.2.2
  have := pow6 (h.2 q).2.2.1
  omega
theorem clm_64 {P : Pg} (hd : pdp P ≤ 6) (i : Nat) : clm P (i % 64) = clm P i := by
  cases P with
  | none => rfl
  | some q => simp only [clm, mod64 (show q.1 ≤ 6 from hd)]
theorem own_64 {B : Bk} (h : okk B) (i : Nat) : own B (i % 64) = own B i := by
  unfold own
  rw [show (fun b => clm (B b) (i % 64)) = fun b => clm (B b) i from funext fun b => clm_64 (h.2 b).2.2.1 i]
theorem own_fst {B : Bk} (h : okk B) (i : Nat) : fst1 (fun b => clm (B b) i) 24 0 = some (own B i) := by
  obtain ⟨o, o1, o2, o3⟩ := h.1 (i % 64) (Nat.mod_lt _ (by omega))
  have e : (fun b => clm (B b) (i % 64)) = fun b => clm (B b) i := funext fun b => clm_64 (h.2 b).2.2.1 i
  have h1 := fst1_un (P := fun b => clm (B b) (i % 64)) o2 24 0 (by omega) (by omega) (fun c _ c2 => o3 c (by omega))
  rw [e] at h1
  rw [h1]
  unfold own
  rw [h1]; rfl
theorem m_ownerOf (hA : 69 ≤ A.length) (h : MS (ar 2) S) (ho : okk S.1) {x : Nat} (hx : x < 2 ^ 31) : xC E (d + 3) 175 [.ref 48, .int (nI x)] (mw A fl ar al) = some (some (.int (nI (own S.1 x))), mw A fl ar al) := by
  rw [k175 _ _ _ _ _ (m_k48 hA)]
  simp only [zl]
  exact m_own_loop hA h (fun q => (ho.2 q).2.2.1) (okk_px ho) hx 24 0 _ rfl (own_fst ho x)
theorem m_soughtIn (hA : 69 ≤ A.length) (h : MS (ar 2) S) (ho : okk S.1) {k t : Nat} (hk : k < 1000) (ht : t < 1000) (hs : ar 2 977 = nI t) : xC E (d + 4) 176 [.ref 48, .int (nI k)] (mw A fl ar al) = some (some (.int (nI (own S.1 (hsh t k % 64)))), mw A fl ar al) := by
  have := hsh_lt t k
  rw [k176 _ _ _ _ _ (m_k48 hA), m_hashOf hA hk ht hs, xI_s, Option.bind_some]
  dsimp only
  rw [m_ownerOf hA h ho (by omega), xI_s, Option.bind_some, own_64 ho]
theorem m_plc_loop (hA : 69 ≤ A.length) (h : MS (ar 2) S) (hb : b < 24) {k : Nat} (hk : k < 2 ^ 31) (hks : ∀ e ∈ ents (S.1 b), e.1 < 2 ^ 31) : ∀ (rest pre : List (Nat × Nat)), ents (S.1 b) = pre ++ rest → kIdx pre k = none → xD E (d + 2) 177 8 [.ref 48, .int (nI k), .int (nI b), .int (nI pre.length)] [] (mw A fl ar al) = some (some (.int (oI ((kIdx rest k).map (pre.length + ·)))), mw A fl ar al)
  | [], pre, he, hp => by
    have hl := h.ln hb
    have hl2 : (ents (S.1 b)).length = pre.length := by rw [he, List.append_nil]
    rw [e177_8]
    simp (disch := first | omega | exact m_k48 hA) only [Option.bind_some, xI_s, xV_s, m_r48_1 hA, m_r48_2 hA, m_r48_5 hA, m_a50 hA, m_s50 hA, m_l50 hA, k169, zl, pk_mul, nI_add, Nat.add_zero, sar_s, sar_sar, h.mn hb]
    rw [hl2, if_pos (nI_le (Nat.le_refl _) (by omega))]; rfl
  | e :: rest, pre, he, hp => by
    have hl := h.ln hb
    have hl2 : (ents (S.1 b)).length = pre.length + (rest.length + 1) := by rw [he, List.length_append]; rfl
    have hi : (ents (S.1 b))[pre.length]? = some (e.1, e.2) := by
      rw [he, List.getElem?_append_right (Nat.le_refl _), Nat.sub_self]; rfl
    have hek := hks e (by rw [he]; simp)
    rw [e177_8]
    simp (disch := first | omega | exact m_k48 hA) only [Option.bind_some, xI_s, xV_s, m_r48_1 hA, m_r48_2 hA, m_r48_5 hA, m_a50 hA, m_s50 hA, m_l50 hA, k169, zl, pk_mul, nI_add, Nat.add_zero, sar_s, sar_sar, h.mn hb]
    rw [if_neg (nI_ge (by omega) (by omega))]
    simp (disch := first | omega | exact m_k48 hA) only [Option.bind_some, xI_s, xV_s, m_r48_1 hA, m_r48_2 hA, m_r48_5 hA, m_a50 hA, m_s50 hA, m_l50 hA, k169, zl, pk_mul, nI_add, Nat.add_zero, sar_s, sar_sar, h.ky hb hi]
    unfold kIdx
    by_cases q : e.1 = k
    · rw [if_pos q, if_pos (by rw [q])]; rfl
    · rw [if_neg q, if_neg (fun z => q ((nI_eq hek hk).mp z))]
      have ih := m_plc_loop hA h hb hk hks rest (pre ++ [e]) (by rw [he, List.append_assoc]; rfl) (by
        refine kIdx_none.mpr (fun x hx => ?_)
        rcases List.mem_append.mp hx with z | z
        · exact kIdx_none.mp hp x z
        · rw [List.mem_singleton.mp z]; exact q)
      rw [List.length_append] at ih
      refine Eq.trans ih ?_
      rw [Option.map_map, show (fun x => pre.length + [e].length + x) = ((fun x => pre.length + x) ∘ fun x => x + 1) from funext fun z => by show pre.length + 1 + z = pre.length + (z + 1); omega]
theorem m_placeOf (hA : 69 ≤ A.length) (h : MS (ar 2) S) (ho : okk S.1) {k t : Nat} (hk : k < 1000) (ht : t < 1000) (hs : ar 2 977 = nI t) : xC E (d + 5) 177 [.ref 48, .int (nI k)] (mw A fl ar al) = some (some (.int (oI (kIdx (ents (S.1 (own S.1 (hsh t k % 64)))) k))), mw A fl ar al) := by
  rw [k177 _ _ _ _ _ (m_k48 hA), m_soughtIn hA h ho hk ht hs, xI_s, Option.bind_some]
  dsimp only
  have hW := ho.2 (own S.1 (hsh t k % 64))
  have := m_plc_loop (E := E) (d := d + 3) (fl := fl) (al := al) hA h (own_lt S.1 (hsh t k % 64)) (k := k) (by omega) (fun e he => by have := (hW.2.1 e he).1; omega) (ents (S.1 (own S.1 (hsh t k % 64)))) [] rfl rfl
  rw [zl]
  refine Eq.trans this ?_
  cases kIdx (ents (S.1 (own S.1 (hsh t k % 64)))) k with
  | none => rfl
  | some i => simp only [Option.map_some, List.length_nil, Nat.zero_add]
theorem m_valueOrNone (hA : 69 ≤ A.length) (h : MS (ar 2) S) (ho : okk S.1) {k t : Nat} (hk : k < 1000) (ht : t < 1000) (hs : ar 2 977 = nI t) : xC E (d + 6) 178 [.ref 48, .int (nI k)] (mw A fl ar al) = some (some (.int (oI (valO (ents (S.1 (own S.1 (hsh t k % 64)))) k))), mw A fl ar al) := by
  rw [k178 _ _ _ _ _ (m_k48 hA), m_placeOf hA h ho hk ht hs, xI_s, Option.bind_some]
  dsimp only
  unfold valO
  have hb := own_lt S.1 (hsh t k % 64)
  cases hi : kIdx (ents (S.1 (own S.1 (hsh t k % 64)))) k with
  | none => rw [oI_n, if_pos rfl]; rfl
  | some i =>
    obtain ⟨w, hw⟩ := kIdx_some hi
    have hi2 := (List.getElem?_eq_some_iff.mp hw).1
    have hl3 := h.ln hb
    rw [oI_s, if_neg (n_m1ne (by omega)), Option.bind_some, hw]
    simp (disch := first | omega | exact m_k48 hA) only [Option.bind_some, xI_s, xV_s, m_r48_1 hA, m_r48_2 hA, m_r48_5 hA, m_a50 hA, m_s50 hA, m_l50 hA, k169, zl, pk_mul, nI_add, Nat.add_zero, sar_s, sar_sar, m_soughtIn hA h ho hk ht hs, h.vl hb hw]
    rfl
end MRD
