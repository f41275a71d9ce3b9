/-! ===== the reference's store: power is lost ===== -/
theorem dwN_cong {D : Bk} {i j : Nat} (h : ∀ b, clm (D b) i = clm (D b) j) : ∀ n, dwN D i n = dwN D j n
  | 0 => rfl
  | n + 1 => by
    show dwS D i (dwN D i n) n = dwS D j (dwN D j n) n
    unfold dwS
    rw [dwN_cong h n, h n]
theorem mod_le {h d n : Nat} (hd : d ≤ n) : h % 2 ^ n % 2 ^ d = h % 2 ^ d := Nat.mod_mod_of_dvd h (Nat.pow_dvd_pow 2 hd)
theorem clm_mod {P : Pg} {n : Nat} (hd : pdp P ≤ n) (i : Nat) : clm P (i % 2 ^ n) = clm P i := by
  cases P with
  | none => rfl
  | some q => simp only [clm, mod_le (show q.1 ≤ n from hd)]
theorem dow_mod {D : Bk} {n : Nat} (hd : ∀ b, pdp (D b) ≤ n) (h6 : n ≤ 6) (h : Nat) : dow D (h % 2 ^ n) = dow D (h % 64) := dwN_cong (fun b => by rw [clm_mod (hd b), clm_64 (Nat.le_trans (hd b) h6)]) 24
theorem gdk_dp {G D : Bk} {b : Nat} (h : gdk G D) : pdp (G b) ≤ deepN D := by
  rcases h.2.2.2.2 b with q | ⟨Y, y1, y2, y3, y4, y5, y6, y7, y8, y9⟩
  · rw [q.2.1]
    by_cases hb : b < 24
    · exact deepN_ge D hb
    · rw [h.2.2.2.1 b (by omega)]; exact Nat.zero_le _
  · rw [y6, ← y8]; exact deepN_ge D y1
theorem gdk_dpD {G D : Bk} (h : gdk G D) (b : Nat) : pdp (D b) ≤ deepN D := by
  by_cases hb : b < 24
  · exact deepN_ge D hb
  · rw [h.2.2.2.1 b (by omega)]; exact Nat.zero_le _
theorem gdk_6 {G D : Bk} (h : gdk G D) : deepN D ≤ 6 := deepN_le (fun b _ => (h.2.2.1 b).1.2.2.1)
/-- slots counted from above: how many, the lowest -/
def bldL (P : Nat → Bool) : Nat → Nat × Nat → Nat × Nat
  | 0, x => x
  | j + 1, x => bldL P j (if P j = true then (x.1 + 1, j) else x)
theorem bld_no {P : Nat → Bool} : ∀ (j : Nat) (x : Nat × Nat), (∀ i, i < j → P i = false) → bldL P j x = x
  | 0, x, _ => rfl
  | j + 1, x, h => by
    show bldL P j (if P j = true then (x.1 + 1, j) else x) = x
    rw [h j (by omega), if_neg (by decide)]
    exact bld_no j x (fun i hi => h i (by omega))
theorem bld_1 {P : Nat → Bool} : ∀ (j : Nat) (x : Nat × Nat), (bldL P j x).1 = x.1 + cnt (fun i => if P i = true then 1 else 0) j
  | 0, x => rfl
  | j + 1, x => by
    show (bldL P j (if P j = true then (x.1 + 1, j) else x)).1 = x.1 + (cnt (fun i => if P i = true then 1 else 0) j + if P j = true then 1 else 0)
    rw [bld_1 j]
    by_cases e : P j = true
    · rw [if_pos e, if_pos e]
      show x.1 + 1 + _ = _
      omega
    · rw [if_neg e, if_neg e]; omega
theorem bld_2 {P : Nat → Bool} {p : Nat} (hp : P p = true) (hlo : ∀ i, i < p → P i = false) : ∀ (j : Nat) (x : Nat × Nat), p < j → (bldL P j x).2 = p
  | 0, x, h => by omega
  | j + 1, x, h => by
    show (bldL P j (if P j = true then (x.1 + 1, j) else x)).2 = p
    by_cases e : j = p
    · subst e; rw [if_pos hp, bld_no j _ hlo]
    · exact bld_2 hp hlo j _ (by omega)
section MSD
variable {f : Nat → Int32} {S : St} {b i : Nat}
theorem MS.us2 (h : MS f S) (hb : b < 24) : f (240 + 10 * b) = nI (pus (S.2.1 b)) := (h.2.1 b hb).2.1
theorem MS.mn2 (h : MS f S) (hb : b < 24) : f (240 + 10 * b + 3) = nI (ents (S.2.1 b)).length := (h.2.1 b hb).2.2.1
theorem MS.dp2 (h : MS f S) (hb : b < 24) (hu : S.2.1 b ≠ none) : f (240 + 10 * b + 1) = nI (pdp (S.2.1 b)) := ((h.2.1 b hb).2.2.2.2 hu).1
theorem MS.dp3 (h : MS f S) (hb : b < 24) (hu : S.2.1 b ≠ none) : f (240 + (10 * b + 1)) = nI (pdp (S.2.1 b)) := ((h.2.1 b hb).2.2.2.2 hu).1
theorem MS.px2 (h : MS f S) (hb : b < 24) (hu : S.2.1 b ≠ none) : f (240 + 10 * b + 2) = nI (ppx (S.2.1 b)) := ((h.2.1 b hb).2.2.2.2 hu).2
theorem MS.ky2 (h : MS f S) (hb : b < 24) {k v : Nat} (hi : (ents (S.2.1 b))[i]? = some (k, v)) : f (240 + 10 * b + 4 + i) = nI k := ((h.2.1 b hb).2.2.2.1 i k v hi).1
theorem MS.vl2 (h : MS f S) (hb : b < 24) {k v : Nat} (hi : (ents (S.2.1 b))[i]? = some (k, v)) : f (240 + 10 * b + 7 + i) = nI v := ((h.2.1 b hb).2.2.2.1 i k v hi).2
theorem MS.ln2 (h : MS f S) (hb : b < 24) : (ents (S.2.1 b)).length ≤ 3 := (h.2.1 b hb).1
end MSD
section MLOSE
variable {E : Nat × (Nat → Int32)} {d : Nat} {A : xH} {al : Nat → Nat → Int64} {R : Ru} {S : St} {b : Nat} {fl : Nat → Int32}
theorem m_dp_loop {ar : Nat → Nat → Int32} (hA : 69 ≤ A.length) (h : MS (ar 2) S) (hW : ∀ q, pgW (S.2.1 q)) {x : Nat} (hx : x < 64) : ∀ c i (w4 : Value), i + c = 24 → xD E (d + 2) 249 4 [.ref 48, .int (nI x), .int (oI (dwN S.2.1 x i)), .int (nI i), w4] [] (mw A fl ar al) = some (some (.int (oI (dow S.2.1 x))), mw A fl ar al)
  | 0, i, w4, hc => by
    rw [e249_4, if_pos (by rw [zl]; exact nI_le (by omega) (by omega)), show i = 24 by omega]; rfl
  | c + 1, i, w4, hc => by
    have hi : i < 24 := by omega
    have ih' : ∀ w, xD E (d + 2) 249 4 [.ref 48, .int (nI x), .int (oI (dwN S.2.1 x (i + 1))), .int (nI (i + 1)), w] [] (mw A fl ar al) = some (some (.int (oI (dow S.2.1 x))), mw A fl ar al) := fun w => m_dp_loop hA h hW hx c (i + 1) w (by omega)
    have hi6 := (hW i).2.2.1
    have hi7 := (hW i).2.2.2
    have hp6 := pow6 hi6
    rw [e249_4, if_neg (by rw [zl]; exact nI_ge (by omega) (by omega))]
    simp (disch := first | omega | exact m_k48 hA) only [Option.bind_some, xI_s, xV_s, m_r48_1 hA, m_r48_2 hA, m_r48_5 hA, m_a50 hA, m_s50 hA, m_l50 hA, k169, zl, pk_mul, nI_add, Nat.add_zero, sar_s, sar_sar, h.us2 hi]
    cases hB : S.2.1 i with
    | none =>
      have e : dwN S.2.1 x (i + 1) = dwN S.2.1 x i := dwN_no (by rw [hB]; rfl)
      rw [if_pos (show nI (pus none) = nI 0 by rfl), ← e]
      exact ih' _
    | some q =>
      have hu : S.2.1 i ≠ none := by rw [hB]; simp
      have hcl : clm (S.2.1 i) x = true ↔ x % 2 ^ pdp (S.2.1 i) = ppx (S.2.1 i) := clm_iff hu
      have hl := Nat.mod_lt x (Nat.two_pow_pos (pdp (S.2.1 i)))
      have hlb : ∀ H : xH, xC E (d + 1) 173 [.int (nI x), .int (nI (pdp (S.2.1 i)))] H = some (some (.int (nI (x % 2 ^ pdp (S.2.1 i)))), H) := fun H => m_lowBits (by omega) hi6
      rw [if_neg (show ¬ nI (pus (some q)) = nI 0 by show ¬ nI 1 = nI 0; decide)]
      simp (disch := first | omega | exact m_k48 hA) only [Option.bind_some, xI_s, xV_s, m_r48_1 hA, m_r48_2 hA, m_r48_5 hA, m_a50 hA, m_s50 hA, m_l50 hA, k169, zl, pk_mul, nI_add, Nat.add_zero, sar_s, sar_sar, h.px2 hi hu, h.dp2 hi hu, hlb]
      by_cases e : x % 2 ^ pdp (S.2.1 i) = ppx (S.2.1 i)
      · have hst : dwN S.2.1 x (i + 1) = dwS S.2.1 x (dwN S.2.1 x i) i := rfl
        unfold dwS at hst
        rw [if_pos (hcl.mpr e)] at hst
        rw [e, if_pos rfl]
        cases hd : dwN S.2.1 x i with
        | none =>
          rw [hd] at hst
          rw [oI_m, if_pos rfl]
          rw [show dwN S.2.1 x (i + 1) = some i from hst, oI_s] at ih'
          exact ih' _
        | some o =>
          rw [hd] at hst
          obtain ⟨z1, z2⟩ := dwN_some hd
          have huo := (clm_some z2).1
          have ho6 := (hW o).2.2.1
          rw [oI_s, if_neg (n_m1n (by omega))]
          simp (disch := first | omega | exact m_k48 hA) only [Option.bind_some, xI_s, xV_s, m_r48_1 hA, m_r48_2 hA, m_r48_5 hA, m_a50 hA, m_s50 hA, m_l50 hA, k169, zl, pk_mul, nI_add, Nat.add_zero, sar_s, sar_sar, h.dp2 hi hu, h.dp3 (show o < 24 by omega) huo]
          rw [e249_89]
          by_cases e2 : pdp (S.2.1 o) < pdp (S.2.1 i)
          · rw [show dwN S.2.1 x (i + 1) = some i by rw [hst]; dsimp only; rw [if_pos e2], oI_s] at ih'
            rw [if_neg (nI_ge e2 (by omega)), nI_1]
            exact ih' _
          · rw [show dwN S.2.1 x (i + 1) = some o by rw [hst]; dsimp only; rw [if_neg e2], oI_s] at ih'
            rw [if_pos (nI_le (by omega) (by omega)), nI_1]
            exact ih' _
      · have e3 : dwN S.2.1 x (i + 1) = dwN S.2.1 x i := dwN_no (by
          cases hc2 : clm (S.2.1 i) x with
          | false => rfl
          | true => exact absurd (hcl.mp hc2) e)
        rw [if_neg (fun z => e ((nI_eq (by omega) (by omega)).mp z).symm), ← e3]
        exact ih' _
theorem m_deepestPage {ar : Nat → Nat → Int32} (hA : 69 ≤ A.length) (h : MS (ar 2) S) (hW : ∀ q, pgW (S.2.1 q)) {x : Nat} (hx : x < 64) : xC E (d + 2) 249 [.ref 48, .int (nI x)] (mw A fl ar al) = some (some (.int (oI (dow S.2.1 x))), mw A fl ar al) := by
  rw [k249 _ _ _ _ _ (m_k48 hA)]
  exact m_dp_loop hA h hW hx 24 0 _ rfl
theorem m_bl23 {ar : Nat → Nat → Int32} (hA : 69 ≤ A.length) {D : Bk} {n : Nat} (hb : b < 24) (hn : n ≤ 64) (hp : ∀ i, i < n → ar 29 i = oI (dow D i)) {x2 x3 : Int32} : ∀ (j : Nat) (x : Nat × Nat) (w7 : Value), j ≤ n → xD E (d + 1) 250 23 [.ref 48, .int (nI b), .int x2, .int x3, .int (nI x.1), .int (nI x.2), .int (dI j), w7] [] (mw A fl ar al) = xD E (d + 1) 250 58 [.ref 48, .int (nI b), .int x2, .int x3, .int (nI (bldL (fun i => dow D i == some b) j x).1), .int (nI (bldL (fun i => dow D i == some b) j x).2), .int x2, xJ] [] (mw A fl ar al)
  | 0, x, w7, hj => by
    rw [e250_23, if_pos (show dI 0 < 0 by decide)]; rfl
  | j + 1, x, w7, hj => by
    have hq : ar 29 j = nI b ↔ dow D j = some b := by
      rw [hp j (by omega)]
      cases hv : dow D j with
      | none => exact ⟨fun z => absurd z.symm (n_m1ne (by omega)), fun z => by cases z⟩
      | some c =>
        have := (dwN_some hv).1
        rw [oI_s, nI_eq (by omega) (by omega)]
        exact ⟨fun z => by rw [z], fun z => Option.some.inj z⟩
    show xD E (d + 1) 250 23 [.ref 48, .int (nI b), .int x2, .int x3, .int (nI x.1), .int (nI x.2), .int (nI j), w7] [] (mw A fl ar al) = xD E (d + 1) 250 58 [.ref 48, .int (nI b), .int x2, .int x3, .int (nI (bldL (fun i => dow D i == some b) j (if (dow D j == some b) = true then (x.1 + 1, j) else x)).1), .int (nI (bldL (fun i => dow D i == some b) j (if (dow D j == some b) = true then (x.1 + 1, j) else x)).2), .int x2, xJ] [] (mw A fl ar al)
    rw [e250_23, if_neg (nI_pos (by omega)), m_r48_29 hA, Option.bind_some, m_a61 hA (by omega), Option.bind_some, dI_dn]
    by_cases e : dow D j = some b
    · rw [if_pos (hq.mpr e), if_pos (by simpa using e), nI_1]
      exact m_bl23 hA hb hn hp j (x.1 + 1, j) xJ (by omega)
    · rw [if_neg (fun z => e (hq.mp z)), if_neg (by simpa using e)]
      exact m_bl23 hA hb hn hp j x xJ (by omega)
theorem m_bl58 {ar : Nat → Nat → Int32} {deep e : Nat} (hd : deep ≤ 6) (he : e ≤ deep) {x3 x5 : Int32} : ∀ (c k : Nat) (w7 : Value), k + c = e → ∃ w7', xD E (d + 1) 250 58 [.ref 48, .int (nI b), .int (nI deep), .int x3, .int (nI (2 ^ e)), .int x5, .int (nI (deep - k)), w7] [] (mw A fl ar al) = xD E (d + 1) 250 58 [.ref 48, .int (nI b), .int (nI deep), .int x3, .int (nI (2 ^ e)), .int x5, .int (nI (deep - e)), w7'] [] (mw A fl ar al)
  | 0, k, w7, hk => by
    rw [Nat.add_zero] at hk
    exact ⟨w7, by rw [hk]⟩
  | c + 1, k, w7, hk => by
    have hlt : 2 ^ k < 2 ^ e := Nat.pow_lt_pow_right (by omega) (by omega)
    have h6 := pow6 (n := e) (by omega)
    obtain ⟨w7', ih⟩ := m_bl58 (ar := ar) hd he (x3 := x3) (x5 := x5) c (k + 1) xJ (by omega)
    refine ⟨w7', ?_⟩
    rw [e250_58, pk_sub (by omega), show deep - (deep - k) = k by omega, n_shl _ (by omega), if_neg (nI_ge hlt (by omega)), show nI (deep - k) + (-1 : Int32) = nI (deep - (k + 1)) by rw [show deep - k = (deep - (k + 1)) + 1 by omega]; exact pk_m1 _]
    exact ih
/-- the keys of a page come into its bucket -/
theorem m_bl133 {t deep : Nat} (hA : 69 ≤ A.length) (hb : b < 24) {D : Bk} {X : List Wr × Nat × Nat} (hd6 : deep ≤ 6) (hdD : ∀ q, pdp (D q) ≤ deep) {x4 : Int32} (hx4 : ¬ x4 ≤ 0) (hk : ∀ e ∈ ents (D b), e.1 < 1000) {dd px : Nat} {B : Bk} : ∀ (rest pre : List (Nat × Nat)) (ar : Nat → Nat → Int32) (w5 w6 : Value), MS (ar 2) (ub B b (some (dd, px, pre.filter fun e => dow D (hsh t e.1 % 64) == some b)), D, X) → ar 2 977 = nI t → t < 1000 → (∀ i, i < 2 ^ deep → ar 29 i = oI (dow D i)) → ents (D b) = pre ++ rest → ∃ ar', xD E (d + 3) 250 133 [.ref 48, .int (nI b), .int (nI deep), .int (nI (240 + 10 * b)), .int x4, w5, w6, .int (nI pre.length)] [] (mw A fl ar al) = some (none, mw A fl ar' al) ∧ MS (ar' 2) (ub B b (some (dd, px, (ents (D b)).filter fun e => dow D (hsh t e.1 % 64) == some b)), D, X) ∧ (∀ j, j ≠ 2 → ar' j = ar j) ∧ ∀ i, 963 ≤ i → ar' 2 i = ar 2 i
  | [], pre, ar, w5, w6, h, hs, ht, hp, he => by
    have hl2 : (ents (D b)).length = pre.length := by rw [he, List.append_nil]
    have hmn : ar 2 (240 + 10 * b + 3) = nI (ents (D b)).length := h.mn2 hb
    have hln : (ents (D b)).length ≤ 3 := h.ln2 hb
    refine ⟨ar, ?_, by rw [he, List.append_nil]; exact h, fun _ _ => rfl, fun _ _ => rfl⟩
    rw [e250_133]
    simp (disch := first | omega | exact m_k48 hA) only [Option.bind_some, xI_s, xV_s, m_r48_1 hA, m_r48_2 hA, m_r48_5 hA, m_a50 hA, m_s50 hA, m_l50 hA, k169, zl, pk_mul, nI_add, Nat.add_zero, sar_s, sar_sar, hmn]
    rw [hl2, if_pos (nI_le (Nat.le_refl _) (by omega))]
  | e :: rest, pre, ar, w5, w6, h, hs, ht, hp, he => by
    have hl2 : (ents (D b)).length = pre.length + (rest.length + 1) := by rw [he, List.length_append]; rfl
    have hmn : ar 2 (240 + 10 * b + 3) = nI (ents (D b)).length := h.mn2 hb
    have hln : (ents (D b)).length ≤ 3 := h.ln2 hb
    have hi : (ents (D b))[pre.length]? = some (e.1, e.2) := by
      rw [he, List.getElem?_append_right (Nat.le_refl _), Nat.sub_self]; rfl
    have hky : ar 2 (240 + 10 * b + 4 + pre.length) = nI e.1 := h.ky2 hb hi
    have hvl : ar 2 (240 + 10 * b + 7 + pre.length) = nI e.2 := h.vl2 hb hi
    have hek := hk e (by rw [he]; simp)
    have hh := hsh_lt t e.1
    have hhs := m_hashOf (E := E) (d := d + 1) (fl := fl) (ar := ar) (al := al) hA hek ht hs
    have hlb : ∀ H : xH, xC E (d + 2) 173 [.int (nI (hsh t e.1)), .int (nI deep)] H = some (some (.int (nI (hsh t e.1 % 2 ^ deep))), H) := fun H => m_lowBits (by omega) hd6
    have hml := Nat.mod_lt (hsh t e.1) (Nat.two_pow_pos deep)
    have hp6 := pow6 hd6
    have hpg : ar 29 (hsh t e.1 % 2 ^ deep) = oI (dow D (hsh t e.1 % 64)) := by rw [hp _ hml, dow_mod hdD hd6]
    have he2 : ents (D b) = (pre ++ [e]) ++ rest := by rw [he, List.append_assoc]; rfl
    have e0 : (pre ++ [e]).length = pre.length + 1 := by rw [List.length_append]; rfl
    have hfl := List.length_filter_le (fun e : Nat × Nat => dow D (hsh t e.1 % 64) == some b) pre
    have hq : oI (dow D (hsh t e.1 % 64)) = nI b ↔ dow D (hsh t e.1 % 64) = some b := by
      cases hv : dow D (hsh t e.1 % 64) with
      | none => exact ⟨fun z => absurd z.symm (n_m1ne (by omega)), fun z => by cases z⟩
      | some c =>
        have := (dwN_some hv).1
        rw [oI_s, nI_eq (by omega) (by omega)]
        exact ⟨fun z => by rw [z], fun z => Option.some.inj z⟩
    rw [e250_133]
    simp (disch := first | omega | exact m_k48 hA) only [Option.bind_some, xI_s, xV_s, m_r48_1 hA, m_r48_2 hA, m_r48_5 hA, m_a50 hA, m_s50 hA, m_l50 hA, k169, zl, pk_mul, nI_add, Nat.add_zero, sar_s, sar_sar, hmn]
    rw [if_neg (nI_ge (by omega) (by omega)), e250_146, if_neg hx4]
    simp (disch := first | omega | exact m_k48 hA) only [Option.bind_some, xI_s, xV_s, m_r48_1 hA, m_r48_2 hA, m_r48_5 hA, m_a50 hA, m_s50 hA, m_l50 hA, k169, zl, pk_mul, nI_add, Nat.add_zero, sar_s, sar_sar, m_r48_29 hA, hky, hhs, hlb, m_a61 hA, hpg]
    by_cases q : dow D (hsh t e.1 % 64) = some b
    · have c1 : (pre ++ [e]).filter (fun e => dow D (hsh t e.1 % 64) == some b) = pre.filter (fun e => dow D (hsh t e.1 % 64) == some b) ++ [(e.1, e.2)] := by rw [List.filter_append]; simp [q]
      obtain ⟨g, g1, g2, g3⟩ := m_comesInto (E := E) (d := d) (fl := fl) (al := al) (k := e.1) (v := e.2) hA h hb (ub_self _ _ _) (by omega)
      have e9 : ub (ub B b (some (dd, px, pre.filter fun e => dow D (hsh t e.1 % 64) == some b))) b (some (dd, px, (pre.filter fun e => dow D (hsh t e.1 % 64) == some b) ++ [(e.1, e.2)])) = ub B b (some (dd, px, (pre ++ [e]).filter fun e => dow D (hsh t e.1 % 64) == some b)) := by
        rw [c1]
        funext c
        unfold ub
        by_cases z : c = b
        · rw [if_pos z, if_pos z]
        · rw [if_neg z, if_neg z, if_neg z]
      have g2' : MS ((sar ar 2 g) 2) (ub B b (some (dd, px, (pre ++ [e]).filter fun e => dow D (hsh t e.1 % 64) == some b)), D, X) := by rw [sar_s, ← e9]; exact g2
      obtain ⟨ar', i1, i2, i3, i4⟩ := m_bl133 hA hb hd6 hdD hx4 hk rest (pre ++ [e]) (sar ar 2 g) xJ xJ g2' (by rw [sar_s, g3 _ (by omega)]; exact hs) ht (fun i hi => by rw [sar_n (by omega)]; exact hp i hi) he2
      rw [e0] at i1
      refine ⟨ar', ?_, i2, fun j hj => by rw [i3 j hj, sar_n hj], fun i hi => by rw [i4 i hi, sar_s, g3 i hi]⟩
      rw [if_pos (hq.mpr q)]
      simp (disch := first | omega | exact m_k48 hA) only [Option.bind_some, xI_s, xV_s, m_r48_1 hA, m_r48_2 hA, m_r48_5 hA, m_a50 hA, m_s50 hA, m_l50 hA, k169, zl, pk_mul, nI_add, Nat.add_zero, sar_s, sar_sar, hky, hvl, g1]
      exact i1
    · have c1 : (pre ++ [e]).filter (fun e => dow D (hsh t e.1 % 64) == some b) = pre.filter (fun e => dow D (hsh t e.1 % 64) == some b) := by rw [List.filter_append]; simp [q]
      obtain ⟨ar', i1, i2, i3, i4⟩ := m_bl133 hA hb hd6 hdD hx4 hk rest (pre ++ [e]) ar xJ xJ (by rw [c1]; exact h) hs ht hp he2
      rw [e0] at i1
      refine ⟨ar', ?_, i2, i3, i4⟩
      rw [if_neg (fun z => q (hq.mp z))]
      exact i1
theorem m_builds {ar : Nat → Nat → Int32} {t : Nat} (hA : 69 ≤ A.length) (hb : b < 24) {G D B : Bk} {X : List Wr × Nat × Nat} (hG : gdk G D) (h : MS (ar 2) (B, D, X)) (hs : ar 2 977 = nI t) (ht : t < 1000) (hp : ∀ i, i < 2 ^ deepN D → ar 29 i = oI (dow D i)) : ∃ ar', xC E (d + 3) 250 [.ref 48, .int (nI b), .int (nI (deepN D))] (mw A fl ar al) = some (none, mw A fl ar' al) ∧ MS (ar' 2) (ub B b (gbp t G D b), D, X) ∧ (∀ j, j ≠ 2 → ar' j = ar j) ∧ ∀ i, 963 ≤ i → ar' 2 i = ar 2 i := by
  have hd6 := gdk_6 hG
  have hp6 := pow6 hd6
  have hdI : (nI (2 ^ deepN D) - nI 1) = dI (2 ^ deepN D) := by
    rw [pk_sub (by omega)]
    generalize hz : 2 ^ deepN D = z at hp6
    obtain ⟨y, rfl⟩ : ∃ y, z = y + 1 := ⟨z - 1, by omega⟩
    rw [Nat.add_sub_cancel]; rfl
  have h23 := m_bl23 (E := E) (d := d + 2) (fl := fl) (al := al) (D := D) (n := 2 ^ deepN D) hA hb (by omega) hp (x2 := nI (deepN D)) (x3 := nI (240 + 10 * b)) (2 ^ deepN D) (0, 0) xJ (Nat.le_refl _)
  have hstart : xC E (d + 3) 250 [.ref 48, .int (nI b), .int (nI (deepN D))] (mw A fl ar al) = xD E (d + 3) 250 58 [.ref 48, .int (nI b), .int (nI (deepN D)), .int (nI (240 + 10 * b)), .int (nI (bldL (fun i => dow D i == some b) (2 ^ deepN D) (0, 0)).1), .int (nI (bldL (fun i => dow D i == some b) (2 ^ deepN D) (0, 0)).2), .int (nI (deepN D)), xJ] [] (mw A fl ar al) := by
    rw [k250 _ _ _ _ _ _ (m_k48 hA), n_shl _ (by omega)]
    simp (disch := first | omega | exact m_k48 hA) only [Option.bind_some, xI_s, xV_s, m_r48_1 hA, m_r48_2 hA, m_r48_5 hA, m_a50 hA, m_s50 hA, m_l50 hA, k169, zl, pk_mul, nI_add, Nat.add_zero, sar_s, sar_sar, hdI]
    exact h23
  rw [hstart]
  have hPi : ∀ i, i < 2 ^ deepN D → ((dow D i == some b) = true ↔ own G i = b) := fun i hi => by
    rw [dow_gd hG (by omega)]; simp
  have hpg := h.1 b hb
  /- behind the depth -/
  have st94 : ∀ (P : Pg) (x4 : Int32) (u5 u6 : Nat) (w7 : Value) (s2 : Int32), s2 = nI (pus P) → (P ≠ none → u6 = pdp P ∧ u5 = ppx P) → ents P = [] → ∃ ar1, xD E (d + 3) 250 94 [.ref 48, .int (nI b), .int (nI (deepN D)), .int (nI (240 + 10 * b)), .int x4, .int (nI u5), .int (nI u6), w7] [.int s2, .int (nI (10 * b)), .ref 50] (mw A fl ar al) = xD E (d + 3) 250 133 [.ref 48, .int (nI b), .int (nI (deepN D)), .int (nI (240 + 10 * b)), .int x4, .int (nI u5), .int (nI u6), .int (nI 0)] [] (mw A fl ar1 al) ∧ MS (ar1 2) (ub B b P, D, X) ∧ (∀ j, j ≠ 2 → ar1 j = ar j) ∧ ∀ i, 963 ≤ i → ar1 2 i = ar 2 i := by
    intro P x4 u5 u6 w7 s2 hs2 hPu hPe
    refine ⟨sar ar 2 (upd (upd (upd (upd (ar 2) (10 * b) s2) (10 * b + 1) (nI u6)) (10 * b + 2) (nI u5)) (10 * b + 3) (nI 0)), ?_, ?_, fun j hj => sar_n hj, fun i hi => by rw [sar_s, upd_n (by omega), upd_n (by omega), upd_n (by omega), upd_n (by omega)]⟩
    · rw [e250_94]
      simp (disch := first | omega | exact m_k48 hA) only [Option.bind_some, xI_s, xV_s, m_r48_1 hA, m_r48_2 hA, m_r48_5 hA, m_a50 hA, m_s50 hA, m_l50 hA, k169, zl, pk_mul, nI_add, Nat.add_zero, sar_s, sar_sar]
    · rw [sar_s]
      refine h.file (S := (B, D, X)) (fun j hj => by rw [upd_n (by omega), upd_n (by omega), upd_n (by omega), upd_n (by omega)]) hb ⟨by rw [hPe]; simp, ?_, ?_, fun i k v hi => by rw [hPe] at hi; simp at hi, fun z => ?_⟩
      · rw [upd_n (by omega), upd_n (by omega), upd_n (by omega), hs2.symm]; exact upd_s
      · rw [hPe]; exact upd_s
      · obtain ⟨z1, z2⟩ := hPu z
        rw [← z1, ← z2]
        exact ⟨by rw [upd_n (by omega), upd_n (by omega)]; exact upd_s, by rw [upd_n (by omega)]; exact upd_s⟩
  cases hGb : G b with
  | none =>
    have hz : bldL (fun i => dow D i == some b) (2 ^ deepN D) (0, 0) = (0, 0) := bld_no _ _ (fun i hi => by
      cases hc : (dow D i == some b) with
      | false => rfl
      | true =>
        have h1 := (hPi i hi).mp hc
        have h2 := (hG.1.own (show i < 64 by omega)).1
        rw [h1, hGb] at h2
        simp [clm] at h2)
    rw [hz]
    obtain ⟨ar1, s1, s2, s3, s4⟩ := st94 none (nI 0) 0 (deepN D) xJ (nI 0) rfl (fun z => absurd rfl z) rfl
    have hnd : ents (D b) = [] := by rw [(gdk_none hG).mp hGb]; rfl
    refine ⟨ar1, ?_, by unfold gbp; rw [hGb]; exact s2, s3, s4⟩
    rw [e250_58, if_pos (by rw [pk_sub (Nat.le_refl _), Nat.sub_self]; decide)]
    simp (disch := first | omega | exact m_k48 hA) only [Option.bind_some, xI_s, xV_s, m_r48_1 hA, m_r48_2 hA, m_r48_5 hA, m_a50 hA, m_s50 hA, m_l50 hA, k169, zl, pk_mul, nI_add, Nat.add_zero, sar_s, sar_sar]
    rw [if_pos (show nI 0 ≤ nI 0 by decide), s1, e250_133]
    have hmn : ar1 2 (240 + 10 * b + 3) = nI (ents (D b)).length := s2.mn2 hb
    rw [hnd] at hmn
    simp (disch := first | omega | exact m_k48 hA) only [Option.bind_some, xI_s, xV_s, m_r48_1 hA, m_r48_2 hA, m_r48_5 hA, m_a50 hA, m_s50 hA, m_l50 hA, k169, zl, pk_mul, nI_add, Nat.add_zero, sar_s, sar_sar, hmn]
    rw [if_pos (by decide)]
  | some q =>
    have hu : G b ≠ none := by rw [hGb]; simp
    obtain ⟨w1, w2, w3, w4⟩ := hG.2.1 b
    have hdg := gdk_dp (b := b) hG
    have h64 := pow6 w3
    have hpxl : ppx (G b) < 2 ^ deepN D := Nat.lt_of_lt_of_le w4 (Nat.pow_le_pow_right (by omega) hdg)
    have hc : (bldL (fun i => dow D i == some b) (2 ^ deepN D) (0, 0)).1 = 2 ^ (deepN D - pdp (G b)) := by
      rw [bld_1, ← cls_cnt (deepN D) hd6 (pdp (G b)) hdg (ppx (G b)) (by omega) w4]
      show 0 + _ = _
      rw [Nat.zero_add]
      refine cnt_cong _ (fun i hi => ?_)
      by_cases z : own G i = b
      · rw [if_pos ((hPi i hi).mpr z), if_pos ((own_iff hG.1 hb hu (by omega)).mp z)]
      · rw [if_neg (fun y => z ((hPi i hi).mp y)), if_neg (fun y => z ((own_iff hG.1 hb hu (by omega)).mpr y))]
    have hl : (bldL (fun i => dow D i == some b) (2 ^ deepN D) (0, 0)).2 = ppx (G b) := bld_2 ((hPi _ hpxl).mpr ((own_iff hG.1 hb hu (by omega)).mpr (Nat.mod_eq_of_lt w4))) (fun i hi => by
      cases hc2 : (dow D i == some b) with
      | false => rfl
      | true =>
        have h1 := (own_iff hG.1 hb hu (show i < 64 by omega)).mp ((hPi i (by omega)).mp hc2)
        rw [Nat.mod_eq_of_lt (by omega)] at h1
        omega) _ _ hpxl
    rw [hc, hl]
    obtain ⟨w7', h58⟩ := m_bl58 (E := E) (d := d + 2) (fl := fl) (ar := ar) (al := al) (A := A) (b := b) (e := deepN D - pdp (G b)) hd6 (by omega) (x3 := nI (240 + 10 * b)) (x5 := nI (ppx (G b))) (deepN D - pdp (G b)) 0 xJ (by omega)
    rw [Nat.sub_zero, show deepN D - (deepN D - pdp (G b)) = pdp (G b) by omega] at h58
    have hp2 := Nat.two_pow_pos (deepN D - pdp (G b))
    have hp3 := pow6 (n := deepN D - pdp (G b)) (by omega)
    have hx4 : ¬ nI (2 ^ (deepN D - pdp (G b))) ≤ (0 : Int32) := nI_ge (a := 0) hp2 (by omega)
    obtain ⟨ar1, s1, s2, s3, s4⟩ := st94 (some (pdp (G b), ppx (G b), [])) (nI (2 ^ (deepN D - pdp (G b)))) (ppx (G b)) (pdp (G b)) xJ (nI 1) rfl (fun _ => ⟨rfl, rfl⟩) rfl
    obtain ⟨ar2, l1, l2, l3, l4⟩ := m_bl133 (E := E) (d := d) (fl := fl) (al := al) (t := t) (deep := deepN D) (D := D) (X := X) (B := B) (dd := pdp (G b)) (px := ppx (G b)) hA hb hd6 (gdk_dpD hG) hx4 (fun e he => ((hG.2.2.1 b).1.2.1 e he).1) (ents (D b)) [] ar1 (.int (nI (ppx (G b)))) (.int (nI (pdp (G b)))) s2 (by rw [s4 _ (by omega)]; exact hs) ht (fun i hi => by rw [s3 29 (by omega)]; exact hp i hi) rfl
    refine ⟨ar2, ?_, ?_, fun j hj => (l3 j hj).trans (s3 j hj), fun i hi => (l4 i hi).trans (s4 i hi)⟩
    · refine Eq.trans h58 ?_
      rw [e250_58, pk_sub (by omega), n_shl _ (by omega), if_pos (nI_le (Nat.le_refl _) (by omega))]
      simp (disch := first | omega | exact m_k48 hA) only [Option.bind_some, xI_s, xV_s, m_r48_1 hA, m_r48_2 hA, m_r48_5 hA, m_a50 hA, m_s50 hA, m_l50 hA, k169, zl, pk_mul, nI_add, Nat.add_zero, sar_s, sar_sar]
      rw [if_neg (show ¬ nI (2 ^ (deepN D - pdp (G b))) ≤ nI 0 from hx4), s1]
      exact l1
    · unfold gbp
      rw [hGb] at l2 ⊢
      exact l2
end MLOSE
