/-! ===== the reference's years ===== -/
/-- what drawn acts keep -/
def yF (fl : Nat → Int32) (ar : Nat → Nat → Int32) (fl' : Nat → Int32) (ar' : Nat → Nat → Int32) : Prop := (∀ j, j ≠ 22 → j ≠ 23 → j ≠ 24 → j ≠ 25 → j ≠ 45 → fl' j = fl j) ∧ (∀ j, j ≠ 2 → j ≠ 5 → j ≠ 26 → j ≠ 29 → ar' j = ar j) ∧ (∀ i, 963 ≤ i → ar' 2 i = ar 2 i) ∧ ∀ i, i < 963 → ar' 5 i = ar 5 i
theorem yF.rf {fl : Nat → Int32} {ar : Nat → Nat → Int32} : yF fl ar fl ar := ⟨fun _ _ _ _ _ _ => rfl, fun _ _ _ _ _ => rfl, fun _ _ => rfl, fun _ _ => rfl⟩
theorem yF.tr {f1 f2 f3 : Nat → Int32} {a b c : Nat → Nat → Int32} (h : yF f1 a f2 b) (g : yF f2 b f3 c) : yF f1 a f3 c := ⟨fun j q1 q2 q3 q4 q5 => (g.1 j q1 q2 q3 q4 q5).trans (h.1 j q1 q2 q3 q4 q5), fun j q1 q2 q3 q4 => (g.2.1 j q1 q2 q3 q4).trans (h.2.1 j q1 q2 q3 q4), fun i q => (g.2.2.1 i q).trans (h.2.2.1 i q), fun i q => (g.2.2.2 i q).trans (h.2.2.2 i q)⟩
theorem MP.y {fl fl' : Nat → Int32} {ar ar' : Nat → Nat → Int32} (h : MP fl ar fl' ar') : yF fl ar fl' ar' := ⟨fun j q1 q2 q3 q4 _ => h.1 j q1 q2 q3 q4, h.2.1, h.2.2.1, fun i q => h.2.2.2 i (by omega)⟩
theorem MF.y {fl fl' : Nat → Int32} {ar ar' : Nat → Nat → Int32} (h : MF fl ar fl' ar') : yF fl ar fl' ar' := h.p.y
theorem yF.p45 {fl : Nat → Int32} {ar : Nat → Nat → Int32} {z : Int32} : yF fl ar (upd fl 45 z) ar := ⟨fun j _ _ _ _ q => upd_n q, fun _ _ _ _ _ => rfl, fun _ _ => rfl, fun _ _ => rfl⟩
section MYEARS
variable {E : Nat × (Nat → Int32)} {d : Nat} {A : xH} {al : Nat → Nat → Int64} {fl : Nat → Int32} {ar : Nat → Nat → Int32} {X : Xs}
theorem MI.dr {fl' : Nat → Int32} {ar' : Nat → Nat → Int32} {g : Nat → Int32} (h : MI fl ar X) (hf : ∀ j, j ≠ 22 → j ≠ 23 → j ≠ 24 → j ≠ 25 → j ≠ 45 → j ≠ 44 → fl' j = fl j) (h44 : fl' 44 = 1) (h2 : ar' 2 = ar 2) (ha : ∀ j, j ≠ 2 → j ≠ 5 → j ≠ 26 → j ≠ 29 → j ≠ 43 → ar' j = ar j) (hg : ∀ k, k < 40 → ar' 43 k = g k) : MI fl' ar' (Xdr X g) := by
  obtain ⟨h1, ⟨h3, h4⟩, h5, ⟨h6, h7⟩, ⟨h8, h9, h10, h11⟩, h12, h13, h14⟩ := h
  refine ⟨by rw [h2]; exact h1, ⟨(hf 32 (by omega) (by omega) (by omega) (by omega) (by omega) (by omega)).trans h3, ?_⟩, ?_, ⟨(hf 13 (by omega) (by omega) (by omega) (by omega) (by omega) (by omega)).trans h6, ?_⟩, ⟨(hf 0 (by omega) (by omega) (by omega) (by omega) (by omega) (by omega)).trans h8, (hf 6 (by omega) (by omega) (by omega) (by omega) (by omega) (by omega)).trans h9, (hf 14 (by omega) (by omega) (by omega) (by omega) (by omega) (by omega)).trans h10, (hf 36 (by omega) (by omega) (by omega) (by omega) (by omega) (by omega)).trans h11⟩, ?_, Or.inr ⟨h44, hg⟩, ?_⟩
  · rw [ha 30 (by omega) (by omega) (by omega) (by omega) (by omega)]; exact h4
  · rw [ha 3 (by omega) (by omega) (by omega) (by omega) (by omega), ha 4 (by omega) (by omega) (by omega) (by omega) (by omega)]; exact h5
  · unfold tbR; rw [ha 11 (by omega) (by omega) (by omega) (by omega) (by omega)]; exact h7
  · rw [ha 1 (by omega) (by omega) (by omega) (by omega) (by omega)]; exact h12
  · unfold wdR; rw [ha 7 (by omega) (by omega) (by omega) (by omega) (by omega)]; exact h14
theorem m_draws (hA : 69 ≤ A.length) {s m : Nat} (hs : fl 45 = nI s) (hs2 : s ≤ 1000002) (hm : 0 < m) (hm2 : m < 2 ^ 30) : xC E (d + 1) 288 [.ref 48, .int (nI m)] (mw A fl ar al) = some (some (.int (nI (drN s % m))), mw A (upd fl 45 (nI (drN s))) ar al) := by
  have := drN_le s
  rw [k288 _ _ _ _ _ (m_k48 hA), m_g48_45 hA, Option.bind_some, hs, (n_draw hs2).1, m_p48_45 hA, Option.bind_some, m_g48_45 hA, Option.bind_some, upd_s, if_neg (by rw [zl]; exact fun z => by have := (nI_eq (by omega) (by omega)).mp z; omega), n_rem (by omega) (by omega) (by omega)]
theorem m_drawnAct (hA : 69 ≤ A.length) {R : Ru} {S : St} {s : Nat} (hs : fl 45 = nI s) (hs2 : s ≤ 1000002) (h : MS (ar 2) S) (hR : MRR (ar 2) R) (hS : SI R.2.2.2 S) : ∃ fl' ar', xC E (d + 52) 289 [.ref 48] (mw A fl ar al) = some (none, mw A fl' ar' al) ∧ MS (ar' 2) (yr1 R (drN s % 40) (drN (drN s) % 8) (drN (drN (drN s)) % 8) S) ∧ yF fl ar fl' ar' ∧ fl' 45 = nI (drN (drN (drN s))) := by
  have g1 := m_draws (E := E) (d := d + 50) (al := al) (ar := ar) (m := 40) hA hs hs2 (by omega) (by omega)
  have g2 := m_draws (E := E) (d := d + 50) (al := al) (ar := ar) (fl := upd fl 45 (nI (drN s))) (m := 8) hA upd_s (drN_le s) (by omega) (by omega)
  have g3 := m_draws (E := E) (d := d + 50) (al := al) (ar := ar) (fl := upd (upd fl 45 (nI (drN s))) 45 (nI (drN (drN s)))) (m := 8) hA upd_s (drN_le _) (by omega) (by omega)
  have hy : yF fl ar (upd (upd (upd fl 45 (nI (drN s))) 45 (nI (drN (drN s)))) 45 (nI (drN (drN (drN s))))) ar := yF.p45.tr (yF.p45.tr yF.p45)
  have hu : upd (upd (upd fl 45 (nI (drN s))) 45 (nI (drN (drN s)))) 45 (nI (drN (drN (drN s)))) 45 = nI (drN (drN (drN s))) := upd_s
  rw [k289 _ _ _ _ (m_k48 hA), show (40 : Int32) = nI 40 from rfl, show (8 : Int32) = nI 8 from rfl, g1, xI_s, Option.bind_some, g2, xI_s, Option.bind_some, g3, xI_s, Option.bind_some]
  generalize (upd (upd (upd fl 45 (nI (drN s))) 45 (nI (drN (drN s)))) 45 (nI (drN (drN (drN s))))) = fl1 at *
  have l1 : drN s % 40 < 40 := Nat.mod_lt _ (by omega)
  have l2 : drN (drN s) % 8 < 8 := Nat.mod_lt _ (by omega)
  have l3 : drN (drN (drN s)) % 8 < 8 := Nat.mod_lt _ (by omega)
  dsimp only
  unfold yr1
  generalize drN (drN (drN s)) % 8 = a at *
  generalize drN (drN s) % 8 = v at *
  generalize drN s % 40 = k at *
  by_cases e5 : a < 5
  · rw [if_neg (show ¬ (5 : Int32) ≤ nI a from nI_ge (b := 5) e5 (by omega)), if_pos e5]
    obtain ⟨fl2, ar2, p1, p2, p3⟩ := m_puts (E := E) (d := d) (al := al) (fl := fl1) (ar := ar) (k := k) (v := v) hA (by omega) (by omega) h hR hS
    rw [p1, xI_s, Option.bind_some]
    exact ⟨fl2, ar2, rfl, p2, hy.tr p3.y, by rw [p3.1 45 (by omega) (by omega) (by omega) (by omega)]; exact hu⟩
  · rw [if_pos (show (5 : Int32) ≤ nI a from nI_le (a := 5) (by omega) (by omega)), if_neg e5]
    by_cases e7 : a < 7
    · rw [if_neg (show ¬ (7 : Int32) ≤ nI a from nI_ge (b := 7) e7 (by omega)), if_pos e7]
      obtain ⟨fl2, ar2, p1, p2, p3⟩ := m_drops (E := E) (d := d + 1) (al := al) (fl := fl1) (ar := ar) (k := k) hA (by omega) h hR hS.1.1 hS.1.2.2.2.2.1
      rw [p1, xI_s, Option.bind_some]
      exact ⟨fl2, ar2, rfl, p2, hy.tr p3.p.y, by rw [p3.1 45 (by omega) (by omega) (by omega) (by omega)]; exact hu⟩
    · rw [if_pos (show (7 : Int32) ≤ nI a from nI_le (a := 7) (by omega) (by omega)), if_neg e7]
      have hwl := h.wl
      have hle := m_lesser (E := E) (d := d + 50) (A := mw A fl1 ar al) (x := v) (y := S.2.2.1.length) (by omega) (by omega)
      obtain ⟨ar2, p1, p2, p3⟩ := m_loses (E := E) (d := d + 46) (al := al) (fl := fl1) (ar := ar) (t := R.2.2.2) (n := min v S.2.2.1.length) hA hR.2.2.2.1 hR.2.2.1 h hS (by omega)
      rw [m_r48_2 hA, Option.bind_some, show (960 : Int32) = nI 960 from rfl, m_a50 hA (by omega), Option.bind_some, h.wn, hle, xI_s, Option.bind_some]
      dsimp only
      rw [p1, xV_s, Option.bind_some]
      exact ⟨fl1, ar2, rfl, p2, hy.tr (MF.y ⟨eG.rf, p3⟩), hu⟩
theorem m_yr43 (hA : 69 ≤ A.length) {R : Ru} {y : Nat} (hy : y < 2 ^ 30) : ∀ (n i s : Nat) (S : St) (fl : Nat → Int32) (ar : Nat → Nat → Int32) (w1 w4 : Value), i + n = y → fl 45 = nI s → s ≤ 1000002 → MS (ar 2) S → MRR (ar 2) R → SI R.2.2.2 S → ∃ fl' ar' w1' w4', xD E (d + 53) 290 43 [.ref 48, w1, .int (nI y), .int (nI i), w4] [] (mw A fl ar al) = xD E (d + 53) 290 43 [.ref 48, w1', .int (nI y), .int (nI y), w4'] [] (mw A fl' ar' al) ∧ MS (ar' 2) (yrN R n s S) ∧ yF fl ar fl' ar'
  | 0, i, s, S, fl, ar, w1, w4, hi, hs, hs2, h, hR, hS => by
    have : i = y := by omega
    subst this
    exact ⟨fl, ar, w1, w4, rfl, h, yF.rf⟩
  | n + 1, i, s, S, fl, ar, w1, w4, hi, hs, hs2, h, hR, hS => by
    obtain ⟨fl2, ar2, p1, p2, p3, p4⟩ := m_drawnAct (E := E) (d := d) (al := al) hA hs hs2 h hR hS
    have hR2 : MRR (ar2 2) R := hR.cong (fun i hi => p3.2.2.1 i hi)
    obtain ⟨fl3, ar3, w5, w6, q1, q2, q3⟩ := m_yr43 hA hy n (i + 1) _ _ fl2 ar2 xJ xJ (by omega) p4 (drN_le _) p2 hR2 (yr1_SI (by omega) (by omega) hS)
    refine ⟨fl3, ar3, w5, w6, ?_, q2, p3.tr q3⟩
    rw [e290_43, if_neg (nI_ge (by omega) (by omega)), p1, xV_s, Option.bind_some, nI_1]
    exact q1
theorem m_yr66 (hA : 69 ≤ A.length) {S : St} (ho : okk S.1) {t : Nat} (ht : t < 1000) {m : Nat} : ∀ (c i : Nat) (ar : Nat → Nat → Int32) (w1 w2 : Value), i + c = 40 → MS (ar 2) S → ar 2 977 = nI t → (∀ k, k < i → ar 43 k = oI (valO (ents (S.1 (own S.1 (hsh t k % 64)))) k)) → ∃ ar' w1' w2', xD E (d + 8) 290 66 [.ref 48, w1, w2, .int (nI m), .int (nI i)] [] (mw A fl ar al) = xD E (d + 8) 290 66 [.ref 48, w1', w2', .int (nI m), .int (nI 40)] [] (mw A fl ar' al) ∧ (∀ k, k < 40 → ar' 43 k = oI (valO (ents (S.1 (own S.1 (hsh t k % 64)))) k)) ∧ ∀ j, j ≠ 43 → ar' j = ar j
  | 0, i, ar, w1, w2, hi, h, hs, hg => by
    have : i = 40 := by omega
    subst this
    exact ⟨ar, w1, w2, rfl, hg, fun _ _ => rfl⟩
  | c + 1, i, ar, w1, w2, hi, h, hs, hg => by
    have hv := m_valueOrNone (E := E) (d := d + 1) (fl := fl) (ar := ar) (al := al) (k := i) hA h ho (by omega) ht hs
    obtain ⟨ar2, w5, w6, q1, q2, q3⟩ := m_yr66 hA ho ht c (i + 1) (sar ar 43 (upd (ar 43) i (oI (valO (ents (S.1 (own S.1 (hsh t i % 64)))) i)))) xJ xJ (by omega) (by rw [sar_n (by omega)]; exact h) (by rw [sar_n (by omega)]; exact hs) (fun k hk => by
      rw [sar_s]
      by_cases e : k = i
      · rw [e, upd_s]
      · rw [upd_n e]; exact hg k (by omega))
    refine ⟨ar2, w5, w6, ?_, q2, fun j hj => (q3 j hj).trans (sar_n hj)⟩
    rw [e290_66, if_neg (show ¬ (40 : Int32) ≤ nI i from nI_ge (b := 40) (by omega) (by omega)), m_r48_43 hA, Option.bind_some, hv, xI_s, Option.bind_some]
    dsimp only
    rw [m_s68 hA (by omega), Option.bind_some, nI_1]
    exact q1
theorem m_years (hA : 69 ≤ A.length) (h : MI fl ar X) (hX : XI X) {x y : Int32} : ∃ fl' ar', xC E (d + 53) 290 [.ref 48, .int x, .int y] (mw A fl ar al) = some (some (.int (aYears X x y).1), mw A fl' ar' al) ∧ MI fl' ar' (aYears X x y).2 := by
  have hl1 : ∀ H : xH, xC E (d + 52) 154 [.int x, .int (0 : Int32), .int (1000000 : Int32)] H = some (some (.int (nI (if x < nI 0 ∨ nI 1000000 < x then 0 else 1))), H) := fun H => m_liesI
  have hl2 : ∀ H : xH, xC E (d + 52) 154 [.int y, .int (1 : Int32), .int (60 : Int32)] H = some (some (.int (nI (if y < nI 1 ∨ nI 60 < y then 0 else 1))), H) := fun H => m_liesI
  obtain ⟨flr, arr, r1, r2, -, -⟩ := m_refuses (E := E) (d := d + 51) (al := al) (c := 1) (x := -1) hA h (by omega) (by decide) (by decide)
  rw [k290 _ _ _ _ _ _ (m_k48 hA), hl1, xI_s, Option.bind_some]
  dsimp only
  unfold aYears
  rcases pk_ix x (show 1000001 < 2 ^ 31 by omega) with hx | hx | ⟨s, hs, rfl⟩
  · rw [if_pos (n_liesI (n := 1000000) (by omega) (Or.inl hx)), if_pos (by rfl), if_pos (Or.inl (Or.inl hx)), r1, xI_s, Option.bind_some]
    exact ⟨flr, arr, rfl, r2⟩
  · rw [if_pos (n_liesI (n := 1000000) (by omega) (Or.inr hx)), if_pos (by rfl), if_pos (Or.inl (Or.inr hx)), r1, xI_s, Option.bind_some]
    exact ⟨flr, arr, rfl, r2⟩
  · rw [if_neg (n_liesN (by omega) (by omega)), if_neg (show ¬ nI 1 = 0 by decide), hl2, xI_s, Option.bind_some]
    dsimp only
    have bad : (y < 1 ∨ nI 61 ≤ y) → ∃ fl' ar', ((if nI (if y < nI 1 ∨ nI 60 < y then 0 else 1) = 0 then (xI (xC E (d + 52) 157 [.ref 48, .int (-1 : Int32)] (mw A fl ar al))).bind fun q4 => some (some (.int q4.1), q4.2) else none) : Option (Option Value × xH)) = some (some (.int (-1)), mw A fl' ar' al) ∧ MI fl' ar' (Xrf X 1) := fun z => by
      rw [if_pos (show y < nI 1 ∨ nI 60 < y from z.elim Or.inl (fun w => Or.inr (Int32.lt_of_lt_of_le (by decide) w))), if_pos (by rfl), r1, xI_s, Option.bind_some]
      exact ⟨flr, arr, rfl, r2⟩
    rcases pk_ix y (show 61 < 2 ^ 31 by omega) with hy | hy | ⟨n, hn, rfl⟩
    · have hz : y < 1 := Int32.lt_trans hy (by decide)
      rw [if_pos (show y < nI 1 ∨ nI 60 < y from Or.inl hz), if_pos (by rfl), if_pos (Or.inr (Or.inl hz)), r1, xI_s, Option.bind_some]
      exact ⟨flr, arr, rfl, r2⟩
    · rw [if_pos (show y < nI 1 ∨ nI 60 < y from Or.inr (Int32.lt_of_lt_of_le (by decide) hy)), if_pos (by rfl), if_pos (Or.inr (Or.inr hy)), r1, xI_s, Option.bind_some]
      exact ⟨flr, arr, rfl, r2⟩
    · by_cases e0 : n = 0
      · subst e0
        rw [if_pos (show nI 0 < nI 1 ∨ nI 60 < nI 0 from Or.inl (by decide)), if_pos (by rfl), if_pos (Or.inr (Or.inl (by decide))), r1, xI_s, Option.bind_some]
        exact ⟨flr, arr, rfl, r2⟩
      · rw [if_neg (show ¬ (nI n < nI 1 ∨ nI 60 < nI n) from fun z => z.elim (nI_nlt (by omega) (by omega)) (nI_nlt (by omega) (by omega))), if_neg (show ¬ nI 1 = 0 by decide), if_neg (show ¬ ((nI s < 0 ∨ nI 1000001 ≤ nI s) ∨ nI n < 1 ∨ nI 61 ≤ nI n) from fun z => z.elim (fun z => n_out (by omega) hs z) (fun z => z.elim (nI_nlt (a := n) (b := 1) (by omega) (by omega)) (nI_ge (by omega) (by omega)))), nI_clamp (by omega), nI_clamp (by omega)]
        have hR := h.mr
        rw [m_p48_45 hA, Option.bind_some, m_p48_44 hA, Option.bind_some]
        have hla := m_laysAside (E := E) (d := d + 51) (fl := upd (upd fl 45 (nI s)) 44 1) (ar := ar) (al := al) (k := 0) hA (by omega)
        rw [show (0 : Int32) = nI 0 from rfl, hla, xV_s, Option.bind_some]
        have a0 := aside0 (ar := ar)
        have a2 : ∀ j, j ≠ 5 → (sar ar 5 (cpx (ar 2) (ar 5) 0 (963 * 0) 963)) j = ar j := fun j q => sar_n q
        generalize (sar ar 5 (cpx (ar 2) (ar 5) 0 (963 * 0) 963)) = ar1 at *
        obtain ⟨fl2, ar2, w5, w6, q1, q2, q3⟩ := m_yr43 (E := E) (d := d) (al := al) (R := X.1.2.1) (y := n) hA (by omega) n 0 s X.1.1 (upd (upd fl 45 (nI s)) 44 1) ar1 (.int (nI s)) xJ (by omega) (by rw [upd_n (by omega), upd_s]) (by omega) (by rw [a2 2 (by omega)]; exact h.ms) (by rw [a2 2 (by omega)]; exact hR) hX.1.1
        have hSI := yrN_SI (R := X.1.2.1) n s X.1.1 hX.1.1
        generalize yrN X.1.2.1 n s X.1.1 = S2 at *
        have h977 : ar2 2 977 = nI X.1.2.1.2.2.2 := by rw [q3.2.2.1 _ (by omega), a2 2 (by omega)]; exact hR.2.2.1
        obtain ⟨ar3, w7, w8, v1, v2, v3⟩ := m_yr66 (E := E) (d := d + 45) (fl := fl2) (al := al) (m := keysN S2.1) hA hSI.1.1 hR.2.2.2.1 40 0 ar2 xJ (.int (nI n)) rfl q2 h977 (fun k hk => by omega)
        have hkm := m_keyMany (E := E) (d := d + 49) (fl := fl2) (al := al) hA q2
        have htb := m_takesBack (E := E) (d := d + 51) (fl := fl2) (ar := ar3) (al := al) (k := 0) hA (by omega)
        have e2 : (sar ar3 2 (cpx (ar3 5) (ar3 2) (963 * 0) 0 963)) 2 = ar 2 := by
          rw [sar_s]
          funext j
          by_cases hj : j < 963
          · have := cpx_in (src := ar3 5) (dst := ar3 2) (fr := 963 * 0) (to := 0) (n := 963) hj
            simp only [Nat.zero_add, Nat.mul_zero] at this
            rw [Nat.mul_zero, this, v3 5 (by omega), q3.2.2.2 j hj, a0 j hj]
          · rw [cpx_out (by omega), v3 2 (by omega), q3.2.2.1 j (by omega), a2 2 (by omega)]
        have hMI : MI fl2 (sar ar3 2 (cpx (ar3 5) (ar3 2) (963 * 0) 0 963)) (Xdr X fun k => oI (valO (ents (S2.1 (own S2.1 (hsh X.1.2.1.2.2.2 k % 64)))) k)) := by
          refine h.dr (fun j z1 z2 z3 z4 z5 z6 => ?_) ?_ e2 (fun j z1 z2 z3 z4 z5 => ?_) (fun k hk => ?_)
          · rw [q3.1 j z1 z2 z3 z4 z5, upd_n z6, upd_n z5]
          · rw [q3.1 44 (by omega) (by omega) (by omega) (by omega) (by omega), upd_s]
          · rw [sar_n z1, v3 j z5, q3.2.1 j z1 z2 z3 z4, a2 j z2]
          · rw [sar_n (by omega)]; exact v2 k hk
        obtain ⟨g1, g2⟩ := m_good (E := E) (d := d + 51) (al := al) (x := nI (keysN S2.1)) hA hMI
        refine ⟨_, _, ?_, g2⟩
        refine Eq.trans q1 ?_
        rw [e290_43, if_pos (nI_le (by omega) (by omega)), hkm, xI_s, Option.bind_some]
        dsimp only
        refine Eq.trans v1 ?_
        rw [e290_66, if_pos (show (40 : Int32) ≤ nI 40 by decide), show (0 : Int32) = nI 0 from rfl, htb, xV_s, Option.bind_some, g1, xI_s, Option.bind_some]
        rfl
end MYEARS
