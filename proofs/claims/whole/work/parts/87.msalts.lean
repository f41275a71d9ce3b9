/-! ===== the reference: salts ===== -/
noncomputable def insN (R : Ru) (P : Nat → Bool) : Nat → Nat → St → Option St
  | 0, _, S => some S
  | c + 1, i, S => if P i = true then (match ndS R.2.2.2 S.1 (own S.1 (hsh R.2.2.2 i % 64)) (hsh R.2.2.2 i) with
    | none => none
    | some n => insN R P c (i + 1) (plc R i 0 n S)) else insN R P c (i + 1) S
theorem ins_JB {R : Ru} {P : Nat → Bool} : ∀ (c i : Nat) (S : St), i + c = 1000 → JB R.2.2.2 P i i S.1 → (∀ S', insN R P c i S = some S' → JB R.2.2.2 P 1000 1000 S'.1) ∧ (insN R P c i S = none → badK P R.2.2.2)
  | 0, i, S, hi, h => ⟨fun S' q => by rw [← Option.some.inj q]; rw [show i = 1000 by omega] at h; exact h, fun q => by cases q⟩
  | c + 1, i, S, hi, h => by
    unfold insN
    by_cases hP : P i = true
    · rw [if_pos hP]
      cases hn : ndS R.2.2.2 S.1 (own S.1 (hsh R.2.2.2 i % 64)) (hsh R.2.2.2 i) with
      | none => exact ⟨fun S' q => (by cases q), fun _ => JB_fail (by omega) hP 6 S.1 (JB_next h) (nrm_of h.1 hn) (by omega)⟩
      | some n => exact ins_JB c (i + 1) _ (by omega) (JB_plc (by omega) hP n S (JB_next h) (rmF_of h.1 hn))
    · rw [if_neg hP]
      exact ins_JB c (i + 1) S (by omega) (JB_skip h hP)
theorem st0_JB (t : Nat) (P : Nat → Bool) : JB t P 0 0 st0.1 := by
  obtain ⟨⟨h1, h2, h3, h4, -⟩, -⟩ := st0_SI t
  have hE : ∀ b, ents (st0.1 b) = [] := fun b => by
    show ents (if b = 0 then some (0, 0, []) else none) = []
    split <;> rfl
  have hd : ∀ b, pdp (st0.1 b) = 0 := fun b => by
    show pdp (if b = 0 then some (0, 0, []) else none) = 0
    split <;> rfl
  refine ⟨h1, h2, h3, h4, fun k => ⟨fun ⟨b, v, _, he⟩ => by rw [hE] at he; simp at he, fun z => by omega⟩, fun p _ d hd2 => by rw [hd] at hd2; omega, ?_⟩
  have hz : nIn st0.1 = 0 := cnt_z 6 (fun d _ => cnt_z _ (fun p _ => by rw [hd, if_neg (by omega)]))
  rw [hz]
  show cnt (fun b => pus (if b = 0 then some (0, 0, []) else none)) 24 = 1
  rw [cnt_1 (b := 0) 24 (fun i _ hi => by rw [if_neg hi]; rfl) (by omega), if_pos rfl]; rfl
/-- the salt so far, and how many buckets -/
def slS (B : Bk) : Nat → Option (Nat × Nat)
  | 0 => none
  | n + 1 => match slS B n with
    | none => if bySalt n B < 25 then some (n, bySalt n B) else none
    | some q => if bySalt n B < q.2 then some (n, bySalt n B) else some q
def aSalts (X : Xs) (x : Int32) : Int32 := if x < 0 ∨ nI 2 ≤ x then -1 else match slS X.1.1.1 32 with
  | none => -1
  | some q => if x = 0 then nI q.1 else nI q.2
theorem slS_in {B : Bk} : ∀ (n : Nat) (q : Nat × Nat), slS B n = some q → q.1 < n ∧ q.2 < 25
  | 0, q, h => by cases h
  | n + 1, q, h => by
    unfold slS at h
    cases hs : slS B n with
    | none =>
      rw [hs] at h
      dsimp only at h
      split at h
      · cases h; exact ⟨by show n < n + 1; omega, by assumption⟩
      · cases h
    | some p =>
      obtain ⟨p1, p2⟩ := slS_in n p hs
      rw [hs] at h
      dsimp only at h
      split at h
      · cases h; exact ⟨by show n < n + 1; omega, by show bySalt n B < 25; omega⟩
      · cases h; exact ⟨by omega, p2⟩
section MSALTS
variable {E : Nat × (Nat → Int32)} {d : Nat} {A : xH} {al : Nat → Nat → Int64} {X : Xs}
def nbV (o : Option St) : Int32 := match o with
  | none => -1
  | some S => nI (usedN S.1)
theorem m_nb15 (hA : 69 ≤ A.length) {R : Ru} {v : Nat → Option Nat} (hv2 : ∀ j w, v j = some w → w < 2 ^ 31) : ∀ (c i : Nat) (S : St) (fl : Nat → Int32) (ar : Nat → Nat → Int32) (w1 : Value), i + c = 1000 → MS (ar 2) S → MRR (ar 2) R → SI R.2.2.2 S → JB R.2.2.2 (fun k => (v k).isSome) i i S.1 → (∀ j, j < 1000 → ar 33 j = oI (v j)) → ∃ fl' ar', xD E (d + 51) 272 15 [.ref 48, w1, .int (nI i)] [] (mw A fl ar al) = some (some (.int (nbV (insN R (fun k => (v k).isSome) c i S))), mw A fl' ar' al) ∧ MF fl ar fl' ar'
  | 0, i, S, fl, ar, w1, hi, h, hR, hS, hJ, hv => by
    refine ⟨fl, ar, ?_, MF.rf⟩
    rw [e272_15, if_pos (by rw [zl]; exact nI_le (by omega) (by omega)), m_usedMany hA h, xI_s, Option.bind_some]; rfl
  | c + 1, i, S, fl, ar, w1, hi, h, hR, hS, hJ, hv => by
    have hlt : i < 1000 := by omega
    rw [e272_15, if_neg (by rw [zl]; exact nI_ge (by omega) (by omega)), m_r48_33 hA, Option.bind_some, m_a64 hA hlt, Option.bind_some, hv i hlt]
    unfold insN
    cases hvi : v i with
    | none =>
      rw [oI_n, if_pos rfl, nI_1, if_neg (by decide)]
      exact m_nb15 hA hv2 c (i + 1) S fl ar xJ (by omega) h hR hS (JB_skip hJ (by rw [hvi]; decide)) hv
    | some w =>
      rw [oI_s, if_neg (n_m1ne (hv2 i w hvi)), if_pos (by rfl)]
      have hk242 : xC E (d + 50) 242 [.ref 48, .int (nI i), .int (0 : Int32)] (mw A fl ar al) = xD E (d + 50) 242 2 [.ref 48, .int (nI i), .int (nI 0), .int (nI 0)] [] (mw A fl ar al) := by
        rw [k242 _ _ _ _ _ _ (m_k48 hA)]; rfl
      rw [hk242]
      cases hn : ndS R.2.2.2 S.1 (own S.1 (hsh R.2.2.2 i % 64)) (hsh R.2.2.2 i) with
      | none =>
        obtain ⟨fl2, ar2, c1, c2⟩ := m_comes_no (E := E) (d := d) (al := al) (R := R) (x2 := nI 0) hA hlt 6 0 S fl ar h hR hS (nrm_of hS.1.1 hn) (by omega)
        rw [c1, xI_s, Option.bind_some]
        dsimp only
        rw [if_pos rfl]
        exact ⟨fl2, ar2, rfl, c2⟩
      | some n =>
        have hr := rmF_of hS.1.1 hn
        have hr2 := hr.1.2.1
        obtain ⟨fl2, ar2, c1, c2, c3⟩ := m_comes_yes (E := E) (d := d) (al := al) (R := R) (v := 0) hA hlt (by omega) n 0 S fl ar h hR hS hr (by omega)
        have hno : ∀ e ∈ ents (S.1 (own S.1 (hsh R.2.2.2 i % 64))), e.1 ≠ i := fun e he z => by
          have := ((hJ.2.2.2.2.1 e.1).mp ⟨_, e.2, own_lt _ _, he⟩).1
          omega
        obtain ⟨fl3, ar3, i1, i2⟩ := m_nb15 hA hv2 c (i + 1) (plc R i 0 n S) fl2 ar2 xJ (by omega) c2 (hR.kF c3.2) (plc_SI hlt (by omega) n S hS hr.1 hno) (JB_plc hlt (by rw [hvi]; rfl) n S (JB_next hJ) hr) (fun j hj => by rw [c3.2.1 33 (by omega) (by omega) (by omega)]; exact hv j hj)
        rw [c1, xI_s, Option.bind_some, Nat.zero_add]
        dsimp only
        rw [if_neg (n_m1ne (by omega)), nI_1]
        exact ⟨fl3, ar3, i1, c3.tr i2⟩
theorem m_em2 (hA : 69 ≤ A.length) {fl : Nat → Int32} {ar : Nat → Nat → Int32} : ∀ (c i : Nat), i + c = 963 → xD E (d + 1) 271 2 [.ref 48, .int (nI i)] [] (mw A fl (sar ar 2 (fil (ar 2) 0 i (nI 0))) al) = some (none, mw A fl (sar ar 2 (upd (upd (fil (ar 2) 0 963 (nI 0)) 0 (nI 1)) 240 (nI 1))) al)
  | 0, i, hi => by
    rw [e271_2, if_pos (by rw [zl]; exact nI_le (by omega) (by omega)), show i = 963 by omega]
    simp (disch := first | omega | exact m_k48 hA) only [Option.bind_some, xI_s, xV_s, m_r48_1 hA, m_r48_2 hA, m_r48_5 hA, m_a50 hA, m_s50 hA, m_l50 hA, k169, zl, pk_mul, nI_add, Nat.add_zero, sar_s, sar_sar]
  | c + 1, i, hi => by
    have hst : upd (fil (ar 2) 0 i (nI 0)) i (nI 0) = fil (ar 2) 0 (i + 1) (nI 0) := by
      funext j
      unfold fil upd
      by_cases e : j = i
      · rw [if_pos e, if_pos (by omega)]
      · rw [if_neg e]
        dsimp only
        by_cases q : 0 ≤ j ∧ j < i
        · rw [if_pos q, if_pos (by omega)]
        · rw [if_neg q, if_neg (by omega)]
    rw [e271_2, if_neg (by rw [zl]; exact nI_ge (by omega) (by omega))]
    simp (disch := first | omega | exact m_k48 hA) only [Option.bind_some, xI_s, xV_s, m_r48_1 hA, m_r48_2 hA, m_r48_5 hA, m_a50 hA, m_s50 hA, m_l50 hA, k169, zl, pk_mul, nI_add, Nat.add_zero, sar_s, sar_sar, hst]
    exact m_em2 hA c (i + 1) (by omega)
theorem m_empties (hA : 69 ≤ A.length) {fl : Nat → Int32} {ar : Nat → Nat → Int32} : ∃ g, xC E (d + 1) 271 [.ref 48] (mw A fl ar al) = some (none, mw A fl (sar ar 2 g) al) ∧ MS g st0 ∧ ∀ i, 963 ≤ i → g i = ar 2 i := by
  refine ⟨upd (upd (fil (ar 2) 0 963 (nI 0)) 0 (nI 1)) 240 (nI 1), ?_, ?_, fun i hi => by rw [upd_n (by omega), upd_n (by omega)]; exact if_neg (by omega)⟩
  · have := m_em2 (E := E) (d := d) (al := al) (fl := fl) (ar := ar) hA 963 0 rfl
    rw [fil_nil, sar_self] at this
    rw [k271 _ _ _ _ (m_k48 hA)]; exact this
  · have hz : ∀ j, j < 963 → j ≠ 0 → j ≠ 240 → upd (upd (fil (ar 2) 0 963 (nI 0)) 0 (nI 1)) 240 (nI 1) j = nI 0 := fun j hj h0 h2 => by rw [upd_n h2, upd_n h0]; exact if_pos (by omega)
    refine ⟨fun b hb => ?_, fun b hb => ?_, ⟨Nat.zero_le _, fun i q hq => by simp [st0] at hq⟩, hz _ (by omega) (by omega) (by omega), hz _ (by omega) (by omega) (by omega), hz _ (by omega) (by omega) (by omega)⟩
    · show pgR _ (10 * b) (if b = 0 then some (0, 0, []) else none)
      by_cases e : b = 0
      · subst e
        rw [if_pos rfl]
        exact ⟨by simp [ents], by rw [upd_n (by omega)]; exact upd_s, hz _ (by omega) (by omega) (by omega), fun i k v hi => by simp [ents] at hi, fun _ => ⟨hz _ (by omega) (by omega) (by omega), hz _ (by omega) (by omega) (by omega)⟩⟩
      · rw [if_neg e]
        exact pgR_none (hz _ (by omega) (by omega) (by omega)) (hz _ (by omega) (by omega) (by omega))
    · show pgR _ (240 + 10 * b) (if b = 0 then some (0, 0, []) else none)
      by_cases e : b = 0
      · subst e
        rw [if_pos rfl]
        exact ⟨by simp [ents], upd_s, hz _ (by omega) (by omega) (by omega), fun i k v hi => by simp [ents] at hi, fun _ => ⟨hz _ (by omega) (by omega) (by omega), hz _ (by omega) (by omega) (by omega)⟩⟩
      · rw [if_neg e]
        exact pgR_none (hz _ (by omega) (by omega) (by omega)) (hz _ (by omega) (by omega) (by omega))
/-- all but the store, the salt may change -/
def sF (fl : Nat → Int32) (ar : Nat → Nat → Int32) (fl' : Nat → Int32) (ar' : Nat → Nat → Int32) : Prop := eG fl fl' ∧ (∀ j, j ≠ 2 → j ≠ 26 → j ≠ 29 → ar' j = ar j) ∧ ∀ i, 963 ≤ i → i ≠ 977 → ar' 2 i = ar 2 i
theorem sF.rf {fl : Nat → Int32} {ar : Nat → Nat → Int32} : sF fl ar fl ar := ⟨eG.rf, fun _ _ _ _ => rfl, fun _ _ _ => rfl⟩
theorem sF.tr {f1 f2 f3 : Nat → Int32} {a b c : Nat → Nat → Int32} (h : sF f1 a f2 b) (g : sF f2 b f3 c) : sF f1 a f3 c := ⟨h.1.tr g.1, fun j q1 q2 q3 => (g.2.1 j q1 q2 q3).trans (h.2.1 j q1 q2 q3), fun i q1 q2 => (g.2.2 i q1 q2).trans (h.2.2 i q1 q2)⟩
theorem MF.s {fl fl' : Nat → Int32} {ar ar' : Nat → Nat → Int32} (h : MF fl ar fl' ar') : sF fl ar fl' ar' := ⟨h.1, h.2.1, fun i q _ => h.2.2 i q⟩
theorem MRR.s {f g : Nat → Int32} {R : Ru} {s : Nat} (h : MRR f R) (hg : ∀ i, 963 ≤ i → i ≠ 977 → g i = f i) (hs : s < 1000) (h7 : g 977 = nI s) : MRR g (R.1, R.2.1, R.2.2.1, s) := h.chg (fun j hj => hg j (by omega) (by omega)) ((hg 976 (by omega) (by omega)).trans h.1) h.2.1 h7 hs
theorem m_neededBy (hA : 69 ≤ A.length) {R : Ru} {v : Nat → Option Nat} {fl : Nat → Int32} {ar : Nat → Nat → Int32} {s : Nat} (hs : s < 1000) (hv2 : ∀ j w, v j = some w → w < 2 ^ 31) (hR : ∃ f, MRR f R ∧ ∀ i, 963 ≤ i → i ≠ 977 → ar 2 i = f i) (hv : ∀ j, j < 1000 → ar 33 j = oI (v j)) : ∃ fl' ar', xC E (d + 51) 272 [.ref 48, .int (nI s)] (mw A fl ar al) = some (some (.int (nbV (insN (R.1, R.2.1, R.2.2.1, s) (fun k => (v k).isSome) 1000 0 st0))), mw A fl' ar' al) ∧ sF fl ar fl' ar' := by
  obtain ⟨f, hRf, hfr⟩ := hR
  obtain ⟨g, g1, g2, g3⟩ := m_empties (E := E) (d := d + 49) (al := al) (fl := fl) (ar := ar) hA
  have hM : MS ((sar ar 2 (upd g 977 (nI s))) 2) st0 := by rw [sar_s]; exact g2.cong (fun j hj => upd_n (by omega))
  have hR2 : MRR ((sar ar 2 (upd g 977 (nI s))) 2) (R.1, R.2.1, R.2.2.1, s) := by
    rw [sar_s]
    exact hRf.s (fun i q1 q2 => by rw [upd_n q2, g3 i q1]; exact hfr i q1 q2) hs upd_s
  obtain ⟨fl2, ar2, i1, i2⟩ := m_nb15 (E := E) (d := d) (al := al) (R := (R.1, R.2.1, R.2.2.1, s)) (v := v) hA hv2 1000 0 st0 fl (sar ar 2 (upd g 977 (nI s))) (.int (nI s)) rfl hM hR2 (st0_SI s) (st0_JB s _) (fun j hj => by rw [sar_n (by omega)]; exact hv j hj)
  refine ⟨fl2, ar2, ?_, sF.tr ⟨eG.rf, fun j q1 _ _ => sar_n q1, fun i q1 q2 => by rw [sar_s, upd_n q2]; exact g3 i q1⟩ i2.s⟩
  rw [k272 _ _ _ _ _ (m_k48 hA), g1, xV_s, Option.bind_some]
  simp (disch := first | omega | exact m_k48 hA) only [Option.bind_some, xI_s, xV_s, m_r48_1 hA, m_r48_2 hA, m_r48_5 hA, m_a50 hA, m_s50 hA, m_l50 hA, k169, zl, pk_mul, nI_add, Nat.add_zero, sar_s, sar_sar]
  exact i1
theorem m_sl60 (hA : 69 ≤ A.length) {R : Ru} {B0 : Bk} {v : Nat → Option Nat} {i1 i2 : Int32} (hv2 : ∀ j w, v j = some w → w < 2 ^ 31) (hok : okk B0) (hh : ∀ b, hsT R.2.2.2 (B0 b)) (hV : ∀ b, pgV (B0 b)) (hm : ∀ k, inF B0 k ↔ k < 1000 ∧ (v k).isSome = true) (f : Nat → Int32) (hRf : MRR f R) : ∀ (c s : Nat) (fl : Nat → Int32) (ar : Nat → Nat → Int32) (w6 : Value), s + c = 32 → (∀ i, 963 ≤ i → i ≠ 977 → ar 2 i = f i) → (∀ j, j < 1000 → ar 33 j = oI (v j)) → ∃ fl' ar' w6', xD E (d + 52) 273 60 [.ref 48, .int i1, .int i2, .int (oI ((slS B0 s).map (·.1))), .int (match slS B0 s with
    | none => 1000000
    | some q => nI q.2), .int (nI s), w6] [] (mw A fl ar al) = xD E (d + 52) 273 60 [.ref 48, .int i1, .int i2, .int (oI ((slS B0 32).map (·.1))), .int (match slS B0 32 with
    | none => 1000000
    | some q => nI q.2), .int (nI 32), w6'] [] (mw A fl' ar' al) ∧ sF fl ar fl' ar'
  | 0, s, fl, ar, w6, hs, hf, hv => ⟨fl, ar, w6, by rw [show s = 32 by omega], sF.rf⟩
  | c + 1, s, fl, ar, w6, hs, hf, hv => by
    obtain ⟨fl1, ar1, p1, p2⟩ := m_neededBy (E := E) (d := d) (al := al) (R := R) (v := v) (fl := fl) (ar := ar) (s := s) hA (by omega) hv2 ⟨f, hRf, hf⟩ hv
    obtain ⟨J1, J2⟩ := ins_JB (R := (R.1, R.2.1, R.2.2.1, s)) (P := fun k => (v k).isSome) 1000 0 st0 rfl (st0_JB s _)
    obtain ⟨b1, b2, b3⟩ := by_salt (t := s) (P := fun k => (v k).isSome) hok hh hV hm
    have ih : ∀ w, _ := fun w => m_sl60 hA (i1 := i1) (i2 := i2) hv2 hok hh hV hm f hRf c (s + 1) fl1 ar1 w (by omega) (fun i q1 q2 => (p2.2.2 i q1 q2).trans (hf i q1 q2)) (fun j hj => by rw [p2.2.1 33 (by omega) (by omega) (by omega)]; exact hv j hj)
    have hstep : slS B0 (s + 1) = (match slS B0 s with
      | none => if bySalt s B0 < 25 then some (s, bySalt s B0) else none
      | some q => if bySalt s B0 < q.2 then some (s, bySalt s B0) else some q) := rfl
    have hin := slS_in (B := B0) s
    rw [e273_60, if_neg (by rw [zl]; exact nI_ge (by omega) (by omega)), p1, xI_s, Option.bind_some]
    dsimp only
    cases hI : insN (R.1, R.2.1, R.2.2.1, s) (fun k => (v k).isSome) 1000 0 st0 with
    | none =>
      have hge : 25 ≤ bySalt s B0 := by
        rcases J2 hI with q | q
        · rw [b1 q]; omega
        · have q' : 24 ≤ nK (fun k => (v k).isSome) s := q
          rcases b2 with z | z
          · omega
          · omega
      have hsame : slS B0 (s + 1) = slS B0 s := by
        rw [hstep]
        cases hq : slS B0 s with
        | none => dsimp only; rw [if_neg (by omega)]
        | some q => have := (hin q hq).2; dsimp only; rw [if_neg (by omega)]
      rw [hsame] at ih
      obtain ⟨fl2, ar2, w, j1, j2⟩ := ih (.int (-1))
      refine ⟨fl2, ar2, w, ?_, p2.tr j2⟩
      rw [show nbV none = -1 from rfl, if_pos rfl, nI_1]
      exact j1
    | some S =>
      obtain ⟨e1, e2⟩ := JB_end (J1 S hI)
      have hbs : bySalt s B0 = usedN S.1 := by rw [b3 e2]; exact e1.symm
      have hu := usedN_le S.1
      rw [hbs] at hstep
      obtain ⟨fl2, ar2, w, j1, j2⟩ := ih (.int (nI (usedN S.1)))
      refine ⟨fl2, ar2, w, ?_, p2.tr j2⟩
      rw [show nbV (some S) = nI (usedN S.1) from rfl, if_neg (n_m1ne (by omega)), nI_1]
      rw [hstep] at j1
      cases hq : slS B0 s with
      | none =>
        rw [hq] at j1
        dsimp only at j1 ⊢
        rw [if_pos (show usedN S.1 < 25 by omega)] at j1
        rw [if_pos (show nI (usedN S.1) < (1000000 : Int32) from nI_lt (b := 1000000) (by omega) (by omega))]
        exact j1
      | some q =>
        obtain ⟨q1, q2⟩ := hin q hq
        rw [hq] at j1
        dsimp only at j1 ⊢
        by_cases z : usedN S.1 < q.2
        · rw [if_pos z] at j1
          rw [if_pos (nI_lt z (by omega))]
          exact j1
        · rw [if_neg z] at j1
          rw [if_neg (nI_nlt (by omega) (by omega))]
          exact j1
theorem m_salts (hA : 69 ≤ A.length) {fl : Nat → Int32} {ar : Nat → Nat → Int32} (h : MI fl ar X) (hX : XI X) {x : Int32} : ∃ fl' ar', xC E (d + 53) 273 [.ref 48, .int x] (mw A fl ar al) = some (some (.int (aSalts X x)), mw A fl' ar' al) ∧ MI fl' ar' X := by
  have hli : ∀ H : xH, xC E (d + 52) 154 [.int x, .int (0 : Int32), .int (1 : Int32)] H = some (some (.int (nI (if x < nI 0 ∨ nI 1 < x then 0 else 1))), H) := fun H => m_liesI
  rw [k273 _ _ _ _ _ (m_k48 hA), hli, xI_s, Option.bind_some]
  dsimp only
  unfold aSalts
  by_cases hx : x < 0 ∨ nI 2 ≤ x
  · rw [if_pos (n_liesI (n := 1) (by omega) hx), if_pos (by rfl), if_pos hx]
    exact ⟨fl, ar, rfl, h⟩
  · obtain ⟨k, hk, rfl⟩ : ∃ k, k < 2 ∧ x = nI k := by
      rcases pk_ix x (show 2 < 2 ^ 31 by omega) with q | q | q
      · exact absurd (Or.inl q) hx
      · exact absurd (Or.inr q) hx
      · exact q
    rw [if_neg (n_liesN (by omega) (by omega)), if_neg (show ¬ nI 1 = 0 by decide), if_neg hx]
    have hR := h.mr
    have hok := hX.1.1.1.1
    have h77 : ar 2 977 = nI X.1.2.1.2.2.2 := hR.2.2.1
    obtain ⟨ar0, v1, v2, v3⟩ := m_vals (E := E) (d := d + 46) (fl := fl) (al := al) (S := X.1.1) (t := X.1.2.1.2.2.2) (m := 273) (pc := 13) (L := fun z => [.ref 48, .int (nI k), .int z, xJ, xJ, xJ, xJ]) hA hok hR.2.2.2.1 (fun ar i hi hM hs => by
      have hvn := m_valueOrNone (E := E) (d := d + 46) (fl := fl) (ar := ar) (al := al) (k := i) hA hM hok hi hR.2.2.2.1 hs
      rw [e273_13, if_neg (by rw [zl]; exact nI_ge (by omega) (by omega))]
      simp (disch := first | omega | exact m_k48 hA) only [Option.bind_some, xI_s, xV_s, m_r48_1 hA, m_r48_2 hA, m_r48_5 hA, m_a50 hA, m_s50 hA, m_l50 hA, k169, zl, pk_mul, nI_add, Nat.add_zero, sar_s, sar_sar, m_r48_33 hA, hvn, m_s64 hA]) 1000 0 ar rfl h.ms hR.2.2.1 (fun j hj => by omega)
    have hla := m_laysAside (E := E) (d := d + 51) (fl := fl) (ar := ar0) (al := al) (k := 0) hA (by omega)
    have a0 := aside0 (ar := ar0)
    have a2 : ∀ j, j ≠ 5 → (sar ar0 5 (cpx (ar0 2) (ar0 5) 0 (963 * 0) 963)) j = ar0 j := fun j q => sar_n q
    generalize (sar ar0 5 (cpx (ar0 2) (ar0 5) 0 (963 * 0) 963)) = ar1 at *
    have hmem : ∀ q, inF X.1.1.1 q ↔ q < 1000 ∧ ((fun j => valO (ents (X.1.1.1 (own X.1.1.1 (hsh X.1.2.1.2.2.2 j % 64)))) j) q).isSome = true := fun q => by
      rw [inF_val hok hX.1.1.1.2.1 q, Option.isSome_iff_ne_none]
      constructor
      · intro z
        refine ⟨?_, z⟩
        cases hv : valO (ents (X.1.1.1 (own X.1.1.1 (hsh X.1.2.1.2.2.2 q % 64)))) q with
        | none => exact absurd hv z
        | some w => exact ((hok.2 _).2.1 (q, w) (valO_some hv)).1
      · intro z; exact z.2
    obtain ⟨fl2, ar2, w6', i1, i2⟩ := m_sl60 (E := E) (d := d + 1) (al := al) (R := X.1.2.1) (B0 := X.1.1.1) (v := fun j => valO (ents (X.1.1.1 (own X.1.1.1 (hsh X.1.2.1.2.2.2 j % 64)))) j) (i1 := nI k) (i2 := nI X.1.2.1.2.2.2) hA (fun j w hw => valO_lt hok hw) hok hX.1.1.1.2.1 hX.1.1.1.2.2.1 hmem (ar 2) hR 32 0 fl ar1 xJ rfl (fun i _ _ => by rw [a2 2 (by omega), v3 2 (by omega)]) (fun j hj => by rw [a2 33 (by omega)]; exact v2 j hj)
    have htb := m_takesBack (E := E) (d := d + 51) (fl := fl2) (ar := ar2) (al := al) (k := 0) hA (by omega)
    have hMI : MI fl2 (sar ar2 2 (upd (cpx (ar2 5) (ar2 2) (963 * 0) 0 963) 977 (nI X.1.2.1.2.2.2))) X := by
      refine h.st (S := X.1.1) ?_ i2.1 (fun i hi => ?_) (fun j q1 q2 q3 q4 q5 _ => by rw [sar_n q1, i2.2.1 j q1 q3 q4, a2 j q2, v3 j q5])
      · rw [sar_s]
        refine h.ms.cong (fun j hj => ?_)
        have := cpx_in (src := ar2 5) (dst := ar2 2) (fr := 963 * 0) (to := 0) (n := 963) hj
        simp only [Nat.zero_add, Nat.mul_zero] at this
        rw [upd_n (by omega), Nat.mul_zero, this, i2.2.1 5 (by omega) (by omega) (by omega), a0 j hj, v3 2 (by omega)]
      · rw [sar_s]
        by_cases e : i = 977
        · rw [e, upd_s, h77]
        · rw [upd_n e, cpx_out (by omega), i2.2.2 i hi e, a2 2 (by omega), v3 2 (by omega)]
    have hin := slS_in (B := X.1.1.1) 32
    refine ⟨fl2, _, ?_, hMI⟩
    refine Eq.trans v1 ?_
    have h07 : ar0 2 977 = nI X.1.2.1.2.2.2 := by rw [v3 2 (by omega)]; exact h77
    rw [e273_13, if_pos (show (1000 : Int32) ≤ nI 1000 by decide), m_r48_2 hA, Option.bind_some, show (977 : Int32) = nI 977 from rfl, m_a50 hA (by omega), Option.bind_some, h07, show (0 : Int32) = nI 0 from rfl, hla, xV_s, Option.bind_some]
    refine Eq.trans i1 ?_
    rw [e273_60, if_pos (show (32 : Int32) ≤ nI 32 by decide), show (0 : Int32) = nI 0 from rfl, htb, xV_s, Option.bind_some, m_r48_2 hA, Option.bind_some, show (977 : Int32) = nI 977 from rfl, m_s50 hA (by omega), Option.bind_some, sar_sar, sar_s]
    cases hq : slS X.1.1.1 32 with
    | none => rw [show oI ((none : Option (Nat × Nat)).map (·.1)) = -1 from rfl, if_pos rfl]
    | some q =>
      have := (hin q hq).1
      rw [show oI ((some q).map (·.1)) = nI q.1 from rfl, if_neg (n_m1ne (by omega))]
      dsimp only
      by_cases e : nI k = nI 0
      · rw [if_pos e, if_pos e]
      · rw [if_neg e, if_neg e]
end MSALTS
