/-! ===== the reference's store: a key is put ===== -/
section MCOMES
variable {E : Nat × (Nat → Int32)} {d : Nat} {A : xH} {al : Nat → Nat → Int64} {R : Ru}
theorem m_comes_yes (hA : 69 ≤ A.length) {k v : Nat} (hk : k < 1000) (hv : v ≤ 99) : ∀ (n j : Nat) (S : St) (fl : Nat → Int32) (ar : Nat → Nat → Int32), MS (ar 2) S → MRR (ar 2) R → SI R.2.2.2 S → rmF R.2.2.2 S.1 (hsh R.2.2.2 k) n → j + n < 100 → ∃ fl' ar', xD E (d + 50) 242 2 [.ref 48, .int (nI k), .int (nI v), .int (nI j)] [] (mw A fl ar al) = some (some (.int (nI (j + n))), mw A fl' ar' al) ∧ MS (ar' 2) (plc R k v n S) ∧ MF fl ar fl' ar'
  | 0, j, S, fl, ar, h, hR, hS, hr, hj => by
    have hok := hS.1.1
    have hb := own_lt S.1 (hsh R.2.2.2 k % 64)
    have hl := hr.1.2.2.1 rfl
    obtain ⟨o1, o2⟩ := hok.1.own (show hsh R.2.2.2 k % 64 < 64 from Nat.mod_lt _ (by omega))
    have o3 := (clm_some o1).1
    have hsk := m_soughtIn (E := E) (d := d + 45) (fl := fl) (al := al) hA h hok hk hR.2.2.2.1 hR.2.2.1
    have hmn := h.mn hb
    have hW := hok.2 (own S.1 (hsh R.2.2.2 k % 64))
    obtain ⟨q, hq⟩ : ∃ q, S.1 (own S.1 (hsh R.2.2.2 k % 64)) = some q := by
      cases hB : S.1 (own S.1 (hsh R.2.2.2 k % 64)) with
      | none => exact absurd hB o3
      | some q => exact ⟨q, rfl⟩
    have hl2 : q.2.2.length < 3 := by rw [hq] at hl; exact hl
    obtain ⟨g, c1, c2, c3⟩ := m_comesInto (E := E) (d := d + 47) (fl := fl) (al := al) (k := k) (v := v) hA h hb hq hl2
    have hk2 : kF ar (sar ar 2 g) := kF.k2 c3
    have hown : own (ub S.1 (own S.1 (hsh R.2.2.2 k % 64)) (some (q.1, q.2.1, q.2.2 ++ [(k, v)]))) (hsh R.2.2.2 k % 64) = own S.1 (hsh R.2.2.2 k % 64) := own_cong (clm_ub (fun i => by rw [hq]; rfl)) _
    have hadP : adP (S.1 (own S.1 (hsh R.2.2.2 k % 64))) k v = some (q.1, q.2.1, q.2.2 ++ [(k, v)]) := by unfold adP; rw [hq]; rfl
    have hok2 : okk (ub S.1 (own S.1 (hsh R.2.2.2 k % 64)) (some (q.1, q.2.1, q.2.2 ++ [(k, v)]))) := by
      rw [← hadP]
      exact plc_okk hk hv 0 S hok hr.1
    have c2' : MS ((sar ar 2 g) 2) (ub S.1 (own S.1 (hsh R.2.2.2 k % 64)) (some (q.1, q.2.1, q.2.2 ++ [(k, v)])), S.2) := by rw [sar_s]; exact c2
    have hsk2 := m_soughtIn (E := E) (d := d + 45) (fl := fl) (al := al) hA c2' hok2 hk (hR.kF hk2).2.2.2.1 (hR.kF hk2).2.2.1
    rw [show own ((ub S.1 (own S.1 (hsh R.2.2.2 k % 64)) (some (q.1, q.2.1, q.2.2 ++ [(k, v)])), S.2) : St).1 (hsh R.2.2.2 k % 64) = _ from hown] at hsk2
    obtain ⟨fl', ar', w1, w2, w3⟩ := m_writes (E := E) (d := d + 1) (fl := fl) (al := al) hA c2' (hR.kF hk2) hb (hok2.2 _).2.2.1 hS.1.2.2.2.2.1
    refine ⟨fl', ar', ?_, ?_, MF.tr ⟨eG.rf, hk2⟩ w3⟩
    · rw [e242_2]
      simp (disch := first | omega | exact m_k48 hA) only [Option.bind_some, xI_s, xV_s, m_r48_1 hA, m_r48_2 hA, m_r48_5 hA, m_a50 hA, m_s50 hA, m_l50 hA, k169, zl, pk_mul, nI_add, Nat.add_zero, sar_s, sar_sar, hsk, hmn]
      rw [if_neg (fun z => by have := (nI_eq (b := 3) (by omega) (by omega)).mp z; omega)]
      simp (disch := first | omega | exact m_k48 hA) only [Option.bind_some, xI_s, xV_s, m_r48_1 hA, m_r48_2 hA, m_r48_5 hA, m_a50 hA, m_s50 hA, m_l50 hA, k169, zl, pk_mul, nI_add, Nat.add_zero, sar_s, sar_sar, hsk, c1, hsk2, w1]
    · show MS (ar' 2) (wrt R (ub S.1 (own S.1 (hsh R.2.2.2 k % 64)) (adP (S.1 (own S.1 (hsh R.2.2.2 k % 64))) k v), S.2) (own S.1 (hsh R.2.2.2 k % 64)))
      rw [hadP]; exact w2
  | n + 1, j, S, fl, ar, h, hR, hS, hr, hj => by
    have hok := hS.1.1
    have hb := own_lt S.1 (hsh R.2.2.2 k % 64)
    have hl := hr.2 (by omega)
    have r1 := hr.1.1
    have r2 := hr.1.2.1
    obtain ⟨o1, o2⟩ := hok.1.own (show hsh R.2.2.2 k % 64 < 64 from Nat.mod_lt _ (by omega))
    have o3 := (clm_some o1).1
    have hsk := m_soughtIn (E := E) (d := d + 45) (fl := fl) (al := al) hA h hok hk hR.2.2.2.1 hR.2.2.1
    have hmn := h.mn hb
    rw [hl] at hmn
    obtain ⟨m, f1, f2, f3⟩ := free_of (B := S.1) (by omega)
    have hd1 : S.2.2.2.1 = deepN S.1 := hS.2
    obtain ⟨fl1, ar1, p1, p2, p3⟩ := m_splits0 (E := E) (d := d) (fl := fl) (al := al) hA h hR hok hb o3 (by omega) f1 (by rw [hd1]; exact deepN_ge _ hb) (by rw [hd1]; exact deepN_6 hok) hS.1.2.2.2.2.1
    have hpl : plS R k S = wrt R (wrt R (spl R.2.2.2 S.1 (own S.1 (hsh R.2.2.2 k % 64)) m, S.2.1, S.2.2.1, max S.2.2.2.1 (pdp (S.1 (own S.1 (hsh R.2.2.2 k % 64))) + 1), S.2.2.2.2) m) (own S.1 (hsh R.2.2.2 k % 64)) := by unfold plS; rw [f1]; rfl
    rw [← hpl] at p2
    have hfl : (plS R k S).1 = spl R.2.2.2 S.1 (own S.1 (hsh R.2.2.2 k % 64)) m := by rw [hpl]; rfl
    obtain ⟨fl2, ar2, i1, i2, i3⟩ := m_comes_yes hA hk hv n (j + 1) (plS R k S) fl1 ar1 p2 (hR.kF p3.2) (plS_SI hS (by omega) (by omega)) (by rw [hfl]; exact rmF_step hok hr f2 f3) (by omega)
    refine ⟨fl2, ar2, ?_, i2, p3.tr i3⟩
    rw [e242_2]
    simp (disch := first | omega | exact m_k48 hA) only [Option.bind_some, xI_s, xV_s, m_r48_1 hA, m_r48_2 hA, m_r48_5 hA, m_a50 hA, m_s50 hA, m_l50 hA, k169, zl, pk_mul, nI_add, Nat.add_zero, sar_s, sar_sar, hsk, hmn]
    rw [if_pos trivial]
    simp (disch := first | omega | exact m_k48 hA) only [Option.bind_some, xI_s, xV_s, m_r48_1 hA, m_r48_2 hA, m_r48_5 hA, m_a50 hA, m_s50 hA, m_l50 hA, k169, zl, pk_mul, nI_add, Nat.add_zero, sar_s, sar_sar, hsk, p1]
    rw [if_neg (show ¬ nI 1 = nI 0 by decide), show j + (n + 1) = j + 1 + n by omega]
    exact i1
theorem m_comes_no (hA : 69 ≤ A.length) {k : Nat} {x2 : Int32} (hk : k < 1000) : ∀ (c j : Nat) (S : St) (fl : Nat → Int32) (ar : Nat → Nat → Int32), MS (ar 2) S → MRR (ar 2) R → SI R.2.2.2 S → nrm R.2.2.2 S.1 (hsh R.2.2.2 k) → 6 ≤ pdp (S.1 (own S.1 (hsh R.2.2.2 k % 64))) + c → ∃ fl' ar', xD E (d + 50) 242 2 [.ref 48, .int (nI k), .int x2, .int (nI j)] [] (mw A fl ar al) = some (some (.int (-1)), mw A fl' ar' al) ∧ MF fl ar fl' ar'
  | c, j, S, fl, ar, h, hR, hS, hr, hc => by
    have hok := hS.1.1
    have hb := own_lt S.1 (hsh R.2.2.2 k % 64)
    have hl := hr.1
    obtain ⟨o1, o2⟩ := hok.1.own (show hsh R.2.2.2 k % 64 < 64 from Nat.mod_lt _ (by omega))
    have o3 := (clm_some o1).1
    have hsk := m_soughtIn (E := E) (d := d + 45) (fl := fl) (al := al) hA h hok hk hR.2.2.2.1 hR.2.2.1
    have hmn := h.mn hb
    rw [hl] at hmn
    have hd6 := (hok.2 (own S.1 (hsh R.2.2.2 k % 64))).2.2.1
    rw [e242_2]
    simp (disch := first | omega | exact m_k48 hA) only [Option.bind_some, xI_s, xV_s, m_r48_1 hA, m_r48_2 hA, m_r48_5 hA, m_a50 hA, m_s50 hA, m_l50 hA, k169, zl, pk_mul, nI_add, Nat.add_zero, sar_s, sar_sar, hsk, hmn]
    rw [if_pos trivial]
    by_cases hno : pdp (S.1 (own S.1 (hsh R.2.2.2 k % 64))) = 6 ∨ freeN S.1 = none
    · have hsp := m_splits0_no (E := E) (d := d + 45) (fl := fl) (ar := ar) (al := al) hA h hb o3 hd6 hno
      refine ⟨fl, ar, ?_, MF.rf⟩
      simp (disch := first | omega | exact m_k48 hA) only [Option.bind_some, xI_s, xV_s, m_r48_1 hA, m_r48_2 hA, m_r48_5 hA, m_a50 hA, m_s50 hA, m_l50 hA, k169, zl, pk_mul, nI_add, Nat.add_zero, sar_s, sar_sar, hsk, hsp]
      rw [if_pos trivial]
    · obtain ⟨m, f1⟩ : ∃ m, freeN S.1 = some m := by
        cases hf : freeN S.1 with
        | none => exact absurd (Or.inr hf) hno
        | some m => exact ⟨m, rfl⟩
      have hd5 : pdp (S.1 (own S.1 (hsh R.2.2.2 k % 64))) ≤ 5 := by
        have : pdp (S.1 (own S.1 (hsh R.2.2.2 k % 64))) ≠ 6 := fun z => hno (Or.inl z)
        omega
      obtain ⟨g1, g2, g3⟩ := fst1_lt f1
      have f2 : m < 24 := by omega
      have f3 : S.1 m = none := by simpa using g3
      have hus : usedN S.1 < 24 := by
        have h1 := spl_used (t := R.2.2.2) (B := S.1) (b := own S.1 (hsh R.2.2.2 k % 64)) f2 o3 f3
        have h2 := usedN_le (spl R.2.2.2 S.1 (own S.1 (hsh R.2.2.2 k % 64)) m)
        omega
      have hd1 : S.2.2.2.1 = deepN S.1 := hS.2
      obtain ⟨fl1, ar1, p1, p2, p3⟩ := m_splits0 (E := E) (d := d) (fl := fl) (al := al) hA h hR hok hb o3 hd5 f1 (by rw [hd1]; exact deepN_ge _ hb) (by rw [hd1]; exact deepN_6 hok) hS.1.2.2.2.2.1
      have hpl : plS R k S = wrt R (wrt R (spl R.2.2.2 S.1 (own S.1 (hsh R.2.2.2 k % 64)) m, S.2.1, S.2.2.1, max S.2.2.2.1 (pdp (S.1 (own S.1 (hsh R.2.2.2 k % 64))) + 1), S.2.2.2.2) m) (own S.1 (hsh R.2.2.2 k % 64)) := by unfold plS; rw [f1]; rfl
      rw [← hpl] at p2
      have hfl : (plS R k S).1 = spl R.2.2.2 S.1 (own S.1 (hsh R.2.2.2 k % 64)) m := by rw [hpl]; rfl
      obtain ⟨s1, s2⟩ := nrm_step hok hr f2 f3 hus hd5
      obtain ⟨c', rfl⟩ : ∃ c', c = c' + 1 := ⟨c - 1, by omega⟩
      obtain ⟨fl2, ar2, i1, i3⟩ := m_comes_no hA (x2 := x2) hk c' (j + 1) (plS R k S) fl1 ar1 p2 (hR.kF p3.2) (plS_SI hS hus hd5) (by rw [hfl]; exact s1) (by rw [hfl, s2]; omega)
      refine ⟨fl2, ar2, ?_, p3.tr i3⟩
      simp (disch := first | omega | exact m_k48 hA) only [Option.bind_some, xI_s, xV_s, m_r48_1 hA, m_r48_2 hA, m_r48_5 hA, m_a50 hA, m_s50 hA, m_l50 hA, k169, zl, pk_mul, nI_add, Nat.add_zero, sar_s, sar_sar, hsk, p1]
      rw [if_neg (show ¬ nI 1 = nI 0 by decide)]
      exact i1
theorem m_la_loop (hA : 69 ≤ A.length) {fl : Nat → Int32} {ar : Nat → Nat → Int32} {k : Nat} (hk : k < 4) : ∀ c i, i + c = 963 → xD E (d + 1) 165 2 [.ref 48, .int (nI k), .int (nI i)] [] (mw A fl (sar ar 5 (cpx (ar 2) (ar 5) 0 (963 * k) i)) al) = some (none, mw A fl (sar ar 5 (cpx (ar 2) (ar 5) 0 (963 * k) 963)) al)
  | 0, i, hc => by
    rw [e165_2, if_pos (by rw [zl]; exact nI_le (by omega) (by omega)), show i = 963 by omega]
  | c + 1, i, hc => by
    have hst := cpx_step (ar 2) (ar 5) 0 (963 * k) i
    rw [Nat.zero_add] at hst
    rw [e165_2, if_neg (by rw [zl]; exact nI_ge (by omega) (by omega))]
    simp (disch := first | omega | exact m_k48 hA) only [Option.bind_some, xI_s, xV_s, m_r48_1 hA, m_r48_2 hA, m_r48_5 hA, m_a50 hA, m_s50 hA, m_l50 hA, k169, zl, pk_mul, nI_add, Nat.add_zero, sar_s, sar_sar, sar_n, m_s53 hA, hst]
    exact m_la_loop hA hk c (i + 1) (by omega)
theorem m_laysAside (hA : 69 ≤ A.length) {fl : Nat → Int32} {ar : Nat → Nat → Int32} {k : Nat} (hk : k < 4) : xC E (d + 1) 165 [.ref 48, .int (nI k)] (mw A fl ar al) = some (none, mw A fl (sar ar 5 (cpx (ar 2) (ar 5) 0 (963 * k) 963)) al) := by
  have := m_la_loop (E := E) (d := d) (fl := fl) (ar := ar) (al := al) hA hk 963 0 rfl
  rw [cpx_0, sar_self] at this
  rw [k165 _ _ _ _ _ (m_k48 hA), zl]; exact this
theorem m_tb_loop (hA : 69 ≤ A.length) {fl : Nat → Int32} {ar : Nat → Nat → Int32} {k : Nat} (hk : k < 4) : ∀ c i, i + c = 963 → xD E (d + 1) 166 2 [.ref 48, .int (nI k), .int (nI i)] [] (mw A fl (sar ar 2 (cpx (ar 5) (ar 2) (963 * k) 0 i)) al) = some (none, mw A fl (sar ar 2 (cpx (ar 5) (ar 2) (963 * k) 0 963)) al)
  | 0, i, hc => by
    rw [e166_2, if_pos (by rw [zl]; exact nI_le (by omega) (by omega)), show i = 963 by omega]
  | c + 1, i, hc => by
    have hst := cpx_step (ar 5) (ar 2) (963 * k) 0 i
    rw [Nat.zero_add] at hst
    rw [e166_2, if_neg (by rw [zl]; exact nI_ge (by omega) (by omega))]
    simp (disch := first | omega | exact m_k48 hA) only [Option.bind_some, xI_s, xV_s, m_r48_1 hA, m_r48_2 hA, m_r48_5 hA, m_a50 hA, m_s50 hA, m_l50 hA, k169, zl, pk_mul, nI_add, Nat.add_zero, sar_s, sar_sar, sar_n, m_a53 hA, hst]
    exact m_tb_loop hA hk c (i + 1) (by omega)
theorem m_takesBack (hA : 69 ≤ A.length) {fl : Nat → Int32} {ar : Nat → Nat → Int32} {k : Nat} (hk : k < 4) : xC E (d + 1) 166 [.ref 48, .int (nI k)] (mw A fl ar al) = some (none, mw A fl (sar ar 2 (cpx (ar 5) (ar 2) (963 * k) 0 963)) al) := by
  have := m_tb_loop (E := E) (d := d) (fl := fl) (ar := ar) (al := al) hA hk 963 0 rfl
  rw [cpx_0, sar_self] at this
  rw [k166 _ _ _ _ _ (m_k48 hA), zl]; exact this
theorem m_liesI {x : Int32} {lo hi : Nat} : xC E (d + 1) 154 [.int x, .int (nI lo), .int (nI hi)] A = some (some (.int (nI (if x < nI lo ∨ nI hi < x then 0 else 1))), A) := by
  rw [k154]
  by_cases e : x < nI lo
  · rw [if_pos e, if_pos (Or.inl e)]; rfl
  · rw [if_neg e]
    by_cases e2 : nI hi < x
    · rw [if_pos e2, if_pos (Or.inr e2)]; rfl
    · rw [if_neg e2, if_neg (fun z => z.elim e e2)]; rfl
theorem n_in {x : Int32} {hi : Nat} (hh : hi < 2 ^ 30) : (x < nI 0 ∨ nI hi < x) ∨ ∃ i, i ≤ hi ∧ x = nI i ∧ ¬ (x < nI 0 ∨ nI hi < x) := by
  rcases pk_ix x (show hi + 1 < 2 ^ 31 by omega) with h | h | ⟨i, h1, h2⟩
  · exact Or.inl (Or.inl h)
  · refine Or.inl (Or.inr ?_)
    exact Int32.lt_of_lt_of_le (nI_lt (by omega) (by omega)) h
  · refine Or.inr ⟨i, by omega, h2, ?_⟩
    rw [h2]
    exact fun z => z.elim (nI_pos (by omega)) (nI_nlt (by omega) (by omega))
theorem m_isKey {x : Int32} : xC E (d + 2) 163 [.int x] A = some (some (.int (nI (if x < nI 0 ∨ nI 999 < x then 0 else 1))), A) := by
  rw [k163]
  simp only [zl]
  rw [m_liesI, xI_s, Option.bind_some]
  dsimp only
  rw [if_pos (by split <;> decide)]
theorem m_isBucket {x : Int32} : xC E (d + 2) 162 [.int x] A = some (some (.int (nI (if x < nI 0 ∨ nI 23 < x then 0 else 1))), A) := by
  rw [k162]
  simp only [zl]
  rw [m_liesI, xI_s, Option.bind_some]
  dsimp only
  rw [if_pos (by split <;> decide)]
/-- what puts leave: the third row aside may change too -/
def kP (ar ar' : Nat → Nat → Int32) : Prop := (∀ j, j ≠ 2 → j ≠ 5 → j ≠ 26 → j ≠ 29 → ar' j = ar j) ∧ (∀ i, 963 ≤ i → ar' 2 i = ar 2 i) ∧ ∀ i, (i < 1926 ∨ 2889 ≤ i) → ar' 5 i = ar 5 i
def MP (fl : Nat → Int32) (ar : Nat → Nat → Int32) (fl' : Nat → Int32) (ar' : Nat → Nat → Int32) : Prop := eG fl fl' ∧ kP ar ar'
theorem kF.p {ar ar' : Nat → Nat → Int32} (h : kF ar ar') : kP ar ar' := ⟨fun j q1 _ q3 q4 => h.1 j q1 q3 q4, h.2, fun i _ => by rw [h.1 5 (by omega) (by omega) (by omega)]⟩
theorem MF.p {fl fl' : Nat → Int32} {ar ar' : Nat → Nat → Int32} (h : MF fl ar fl' ar') : MP fl ar fl' ar' := ⟨h.1, h.2.p⟩
theorem kP.tr {a b c : Nat → Nat → Int32} (h : kP a b) (g : kP b c) : kP a c := ⟨fun j q1 q2 q3 q4 => (g.1 j q1 q2 q3 q4).trans (h.1 j q1 q2 q3 q4), fun i q => (g.2.1 i q).trans (h.2.1 i q), fun i q => (g.2.2 i q).trans (h.2.2 i q)⟩
theorem MP.tr {f1 f2 f3 : Nat → Int32} {a b c : Nat → Nat → Int32} (h : MP f1 a f2 b) (g : MP f2 b f3 c) : MP f1 a f3 c := ⟨h.1.tr g.1, h.2.tr g.2⟩
theorem MP.rf {fl : Nat → Int32} {ar : Nat → Nat → Int32} : MP fl ar fl ar := MF.rf.p
theorem MRR.kP {ar ar' : Nat → Nat → Int32} (h : MRR (ar 2) R) (hk : kP ar ar') : MRR (ar' 2) R := h.cong hk.2.1
theorem m_puts_bad {fl : Nat → Int32} {ar : Nat → Nat → Int32} (hA : 69 ≤ A.length) {x y : Int32} (hx : (x < nI 0 ∨ nI 999 < x) ∨ y < nI 0 ∨ nI 99 < y) : xC E (d + 3) 243 [.ref 48, .int x, .int y] (mw A fl ar al) = some (some (.int (-1)), mw A fl ar al) := by
  rw [k243 _ _ _ _ _ _ (m_k48 hA), m_isKey, xI_s, Option.bind_some]
  dsimp only
  by_cases e : x < nI 0 ∨ nI 999 < x
  · rw [if_pos e, if_pos (by rfl)]
  · rw [if_neg e, if_neg (by show ¬ nI 1 = 0; decide)]
    simp only [zl]
    rw [m_liesI, xI_s, Option.bind_some]
    dsimp only
    rw [if_pos (hx.resolve_left e), if_pos (by rfl)]
theorem m_puts (hA : 69 ≤ A.length) {S : St} {fl : Nat → Int32} {ar : Nat → Nat → Int32} {k v : Nat} (hk : k < 1000) (hv : v ≤ 99) (h : MS (ar 2) S) (hR : MRR (ar 2) R) (hS : SI R.2.2.2 S) : ∃ fl' ar', xC E (d + 51) 243 [.ref 48, .int (nI k), .int (nI v)] (mw A fl ar al) = some (some (.int (putS R k v S).1), mw A fl' ar' al) ∧ MS (ar' 2) (putS R k v S).2 ∧ MP fl ar fl' ar' := by
  have hok := hS.1.1
  have hb := own_lt S.1 (hsh R.2.2.2 k % 64)
  have hsk := m_soughtIn (E := E) (d := d + 46) (fl := fl) (al := al) hA h hok hk hR.2.2.2.1 hR.2.2.1
  have hW := hok.2 (own S.1 (hsh R.2.2.2 k % 64))
  rw [k243 _ _ _ _ _ _ (m_k48 hA), m_isKey, xI_s, Option.bind_some]
  dsimp only
  rw [if_neg (show ¬ (nI k < nI 0 ∨ nI 999 < nI k) from fun z => z.elim (nI_pos (by omega)) (nI_nlt (by omega) (by omega))), if_neg (show ¬ nI 1 = 0 by decide)]
  simp only [zl]
  rw [m_liesI, xI_s, Option.bind_some]
  dsimp only
  rw [if_neg (show ¬ (nI v < nI 0 ∨ nI 99 < nI v) from fun z => z.elim (nI_pos (by omega)) (nI_nlt (by omega) (by omega))), if_neg (show ¬ nI 1 = nI 0 by decide), m_placeOf hA h hok hk hR.2.2.2.1 hR.2.2.1, xI_s, Option.bind_some]
  dsimp only
  unfold putS
  cases hi : kIdx (ents (S.1 (own S.1 (hsh R.2.2.2 k % 64)))) k with
  | some i =>
    obtain ⟨w, hw⟩ := kIdx_some hi
    have hi2 := (List.getElem?_eq_some_iff.mp hw).1
    have hl3 := hW.1
    have hM : MS (upd (ar 2) (10 * own S.1 (hsh R.2.2.2 k % 64) + (7 + i)) (nI v)) (ub S.1 (own S.1 (hsh R.2.2.2 k % 64)) (stP (S.1 (own S.1 (hsh R.2.2.2 k % 64))) i k v), S.2) := h.file (fun j hj => upd_n (by omega)) hb (pgR_set (h.1 _ hb) hw)
    have hok2 : okk (ub S.1 (own S.1 (hsh R.2.2.2 k % 64)) (stP (S.1 (own S.1 (hsh R.2.2.2 k % 64))) i k v)) := by
      have := putS_okk (R := R) (k := k) (v := v) hk hv hok
      unfold putS at this
      rw [hi] at this
      exact this
    have hM' : MS ((sar ar 2 (upd (ar 2) (10 * own S.1 (hsh R.2.2.2 k % 64) + (7 + i)) (nI v))) 2) (ub S.1 (own S.1 (hsh R.2.2.2 k % 64)) (stP (S.1 (own S.1 (hsh R.2.2.2 k % 64))) i k v), S.2) := by rw [sar_s]; exact hM
    have hk2 : kF ar (sar ar 2 (upd (ar 2) (10 * own S.1 (hsh R.2.2.2 k % 64) + (7 + i)) (nI v))) := kF.k2 (fun j hj => upd_n (by omega))
    have hsk2 := m_soughtIn (E := E) (d := d + 46) (fl := fl) (al := al) hA hM' hok2 hk (hR.kF hk2).2.2.2.1 (hR.kF hk2).2.2.1
    rw [show own ((ub S.1 (own S.1 (hsh R.2.2.2 k % 64)) (stP (S.1 (own S.1 (hsh R.2.2.2 k % 64))) i k v), S.2) : St).1 (hsh R.2.2.2 k % 64) = own S.1 (hsh R.2.2.2 k % 64) from own_cong (clm_ub (fun j => clm_map (f := fun l => l.set i (k, v)) j)) _] at hsk2
    obtain ⟨fl', ar', w1, w2, w3⟩ := m_writes (E := E) (d := d + 2) (fl := fl) (al := al) hA hM' (hR.kF hk2) hb (hok2.2 _).2.2.1 hS.1.2.2.2.2.1
    refine ⟨fl', ar', ?_, w2, (MF.tr ⟨eG.rf, hk2⟩ w3).p⟩
    rw [oI_s, if_neg (n_m1n (by omega))]
    simp (disch := first | omega | exact m_k48 hA) only [Option.bind_some, xI_s, xV_s, m_r48_1 hA, m_r48_2 hA, m_r48_5 hA, m_a50 hA, m_s50 hA, m_l50 hA, k169, zl, pk_mul, nI_add, Nat.add_zero, sar_s, sar_sar, hsk, hsk2, w1]
  | none =>
    rw [oI_m, if_pos rfl]
    obtain ⟨fl1, ga, b1, b2⟩ := m_isBarred (E := E) (d := d + 3) (fl := fl) (al := al) hA h hR hok hS.1.2.2.2.2.1 hk
    have hk1 : kF ar (sar ar 26 ga) := kF.k26
    have hM1 : MS ((sar ar 26 ga) 2) S := by rw [sar_n (by omega)]; exact h
    rw [b1, xI_s, Option.bind_some]
    dsimp only
    by_cases br : brR R S.1 S.2.2.2.2 k = true
    · rw [if_pos br, if_pos br, if_neg (show ¬ nI 1 = nI 0 by decide)]
      exact ⟨fl1, _, rfl, hM1, b2, hk1.p⟩
    · rw [if_neg br, if_neg br, if_pos (show nI 0 = nI 0 by rfl), m_laysAside hA (by omega), xV_s, Option.bind_some]
      have hpP : kP ar (sar (sar ar 26 ga) 5 (cpx ((sar ar 26 ga) 2) ((sar ar 26 ga) 5) 0 (963 * 2) 963)) := by
        refine ⟨fun j q1 q2 q3 q4 => by rw [sar_n q2, sar_n q3], fun i hi => by rw [sar_n (by omega), sar_n (by omega)], fun i hi => ?_⟩
        rw [sar_s, cpx_out (by omega), sar_n (by omega)]
      have hM2 : MS ((sar (sar ar 26 ga) 5 (cpx ((sar ar 26 ga) 2) ((sar ar 26 ga) 5) 0 (963 * 2) 963)) 2) S := by rw [sar_n (by omega)]; exact hM1
      have hasd : ∀ j, j < 963 → (sar (sar ar 26 ga) 5 (cpx ((sar ar 26 ga) 2) ((sar ar 26 ga) 5) 0 (963 * 2) 963)) 5 (963 * 2 + j) = ar 2 j := fun j hj => by
        rw [sar_s, cpx_in hj, Nat.zero_add, sar_n (by omega)]
      generalize (sar (sar ar 26 ga) 5 (cpx ((sar ar 26 ga) 2) ((sar ar 26 ga) 5) 0 (963 * 2) 963)) = ar1 at hpP hM2 hasd ⊢
      have hR1 := hR.kP hpP
      have hk242 : xC E (d + 50) 242 [.ref 48, .int (nI k), .int (nI v)] (mw A fl1 ar1 al) = xD E (d + 50) 242 2 [.ref 48, .int (nI k), .int (nI v), .int (nI 0)] [] (mw A fl1 ar1 al) := by
        rw [k242 _ _ _ _ _ _ (m_k48 hA)]; rfl
      rw [hk242]
      cases hn : ndS R.2.2.2 S.1 (own S.1 (hsh R.2.2.2 k % 64)) (hsh R.2.2.2 k) with
      | none =>
        obtain ⟨fl2, ar2, c1, c2⟩ := m_comes_no (E := E) (d := d) (al := al) (R := R) (x2 := nI v) hA hk 6 0 S fl1 ar1 hM2 hR1 hS (nrm_of hok hn) (by omega)
        rw [c1, xI_s, Option.bind_some]
        dsimp only
        rw [if_pos (show (-1 : Int32) = -nI 1 from rfl), m_takesBack hA (by omega), xV_s, Option.bind_some]
        refine ⟨fl2, _, rfl, ?_, b2.tr c2.1, hpP.tr (c2.2.p.tr ?_)⟩
        · rw [sar_s]
          refine h.cong (fun j hj => ?_)
          have : cpx (ar2 5) (ar2 2) (963 * 2) 0 963 j = ar2 5 (963 * 2 + j) := by have := cpx_in (src := ar2 5) (dst := ar2 2) (fr := 963 * 2) (to := 0) (n := 963) hj; rw [Nat.zero_add] at this; exact this
          rw [this, c2.2.1 5 (by omega) (by omega) (by omega)]; exact hasd j hj
        · exact (kF.k2 (fun i hi => cpx_out (by omega))).p
      | some n =>
        have hr := rmF_of hok hn
        have hr2 := hr.1.2.1
        obtain ⟨fl2, ar2, c1, c2, c3⟩ := m_comes_yes (E := E) (d := d) (al := al) (R := R) hA hk hv n 0 S fl1 ar1 hM2 hR1 hS hr (by omega)
        rw [c1, xI_s, Option.bind_some, Nat.zero_add]
        dsimp only
        rw [if_neg (n_m1n (by omega))]
        exact ⟨fl2, ar2, rfl, c2, b2.tr c3.1, hpP.tr c3.2.p⟩
end MCOMES
