/-! ===== the reference's store: costs, bars, writes ===== -/
/-- what the words of a law tell, by the reference's numbers -/
def lvl (ws : List Int) : Nat → Nat → Int := fun c _ => match wdL c with
  | none => 0
  | some w => wdl ws w
noncomputable def tellF (Ls : List Lw) (f : Option Nat) (h t : Nat) (ws : List Int) : Nat := match f with
  | none => t
  | some q => match Ls[q]? with
    | none => t
    | some L => tfold (lcd L) (wdl ws) 7 (h + 3) (lcs L) t
theorem tellF_c {Ls : List Lw} {f : Option Nat} {ws : List Int} : tellF Ls f 1 1 ws = costF Ls f ws := by
  cases f with
  | none => rfl
  | some q =>
    unfold tellF costF
    dsimp only
    cases Ls[q]? <;> rfl
theorem tellF_b {Ls : List Lw} {f : Option Nat} {ws : List Int} : tellF Ls f 2 0 ws = barF Ls f ws := by
  cases f with
  | none => rfl
  | some q =>
    unfold tellF barF
    dsimp only
    cases Ls[q]? <;> rfl
section MWR
variable {E : Nat × (Nat → Int32)} {d : Nat} {A : xH} {fl : Nat → Int32} {ar : Nat → Nat → Int32} {al : Nat → Nat → Int64} {S : St} {R : Ru} {b : Nat}
theorem m_tellR (hA : 69 ≤ A.length) (hR : MRR (ar 2) R) {ws : List Int} (hw : wsB ws) (hask : ∀ c w, wdL c = some w → ar 26 (c - 7) = tI (wdl ws w)) {h t : Nat} (hh : h = 1 ∨ h = 2) (ht : t ≤ 99) : ∃ fl', xC E (d + 46) 232 [.ref 48, .int (nI h), .int (nI t)] (mw A fl ar al) = some (some (.int (nI (tellF R.1 R.2.1 h t ws))), mw A fl' ar al) ∧ eG fl fl' := by
  obtain ⟨r1, r2, r3, r4, r5, r6, r7, r8, r9⟩ := hR
  cases hf : R.2.1 with
  | none =>
    rw [hf] at r7
    refine ⟨fl, ?_, eG.rf⟩
    rw [k232 _ _ _ _ _ _ (m_k48 hA), m_r48_2 hA, Option.bind_some, show (980 : Int32) = nI 980 from rfl, m_a50 hA (by omega), Option.bind_some, r7, oI_n, if_pos rfl]
    rfl
  | some q =>
    have hq := r8 q hf
    rw [hf] at r7
    obtain ⟨⟨l1, l2, w, hw2⟩, l4, l5⟩ := r9 q R.1[q] (List.getElem?_eq_getElem hq)
    have hlv : ∀ f1 : Nat → Int32, lvR E A ar al f1 false (wdl ws) 7 w.1.2.2.2 (lvl ws) := fun f1 => by
      have hnw := hw.nw.2
      refine ⟨fun c k => ?_, fun _ => ⟨rfl, fun c v hc => ?_⟩, fun z => by cases z⟩
      · unfold lvl
        cases wdL c with
        | none => dsimp only; omega
        | some v => exact hnw v
      · have e : lvl ws c 0 = wdl ws v := by unfold lvl; rw [hc]
        rw [e]; exact ⟨hask c v hc, rfl⟩
    obtain ⟨fl', k1, k2⟩ := m_tells (E := E) (d := d) (fl := fl) (bs := R.1[q].1) (n := R.1[q].2) hA (q := q) (by omega) r7 l4 l5.ar (y := w.1) (cs := w.2) hw2 hlv hh ht
    refine ⟨fl', ?_, k2⟩
    rw [k1]
    unfold tellF lcd lcs
    dsimp only
    rw [List.getElem?_eq_getElem hq]
    dsimp only
    rw [hw2]
theorem m_setsAsked (hA : 69 ≤ A.length) (h : MS (ar 2) S) (hb : b < 24) {mood : Nat} {key hash : Int} (hm : ar 2 976 = nI mood) : ∃ g, xC E (d + 3) 231 [.ref 48, .int (nI b), .int (tI key), .int (tI hash)] (mw A fl ar al) = some (none, mw A fl (sar ar 26 g) al) ∧ ∀ c w, wdL c = some w → g (c - 7) = tI (wdl (cws (S.1 b) b S.2.2.2.2 mood key hash) w) := by
  have h' : ∀ g, MS ((sar ar 26 g) 2) S := fun g => by rw [sar_n (by omega)]; exact h
  have hmn := h.mn hb
  have hti := h.ti
  have tail : ∀ (g0 : Nat → Int32) (s2 : Int32), xD E (d + 3) 231 34 [.ref 48, .int (nI b), .int (tI key), .int (tI hash)] [.int s2, .int (nI 1), .ref 60] (mw A fl (sar ar 26 g0) al) = some (none, mw A fl (sar ar 26 (upd (upd (upd (upd (upd (upd g0 1 s2) 2 (tI key)) 3 (tI hash)) 4 (nI mood)) 5 (nI (ents (S.1 b)).length)) 6 (nI S.2.2.2.2))) al) := by
    intro g0 s2
    rw [e231_34]
    simp (disch := first | omega | exact m_k48 hA) only [Option.bind_some, xI_s, xV_s, m_r48_1 hA, m_r48_2 hA, m_r48_5 hA, m_a50 hA, m_s50 hA, m_l50 hA, k169, zl, pk_mul, nI_add, Nat.add_zero, sar_s, sar_sar, m_r48_26 hA, m_a60 hA, m_s60 hA, sar_n, hm]
    rw [m_isUsed hA (h' _) hb, xI_s, Option.bind_some]
    dsimp only
    cases hP : S.1 b with
    | none =>
      rw [if_pos (by rfl)]
      simp (disch := first | omega | exact m_k48 hA) only [Option.bind_some, xI_s, xV_s, m_r48_1 hA, m_r48_2 hA, m_r48_5 hA, m_a50 hA, m_s50 hA, m_l50 hA, k169, zl, pk_mul, nI_add, Nat.add_zero, sar_s, sar_sar, m_r48_26 hA, m_a60 hA, m_s60 hA, sar_n, hti]
      rfl
    | some q =>
      rw [hP] at hmn
      rw [if_neg (by show ¬ nI 1 = nI 0; decide)]
      simp (disch := first | omega | exact m_k48 hA) only [Option.bind_some, xI_s, xV_s, m_r48_1 hA, m_r48_2 hA, m_r48_5 hA, m_a50 hA, m_s50 hA, m_l50 hA, k169, zl, pk_mul, nI_add, Nat.add_zero, sar_s, sar_sar, m_r48_26 hA, m_a60 hA, m_s60 hA, sar_n, hti, hmn]
  refine ⟨upd (upd (upd (upd (upd (upd (upd (ar 26) 0 (nI b)) 1 (match S.1 b with
    | none => -1
    | some q => nI q.1)) 2 (tI key)) 3 (tI hash)) 4 (nI mood)) 5 (nI (ents (S.1 b)).length)) 6 (nI S.2.2.2.2), ?_, ?_⟩
  · rw [k231 _ _ _ _ _ _ _ (m_k48 hA)]
    simp (disch := first | omega | exact m_k48 hA) only [Option.bind_some, xI_s, xV_s, m_r48_1 hA, m_r48_2 hA, m_r48_5 hA, m_a50 hA, m_s50 hA, m_l50 hA, k169, zl, pk_mul, nI_add, Nat.add_zero, sar_s, sar_sar, m_r48_26 hA, m_a60 hA, m_s60 hA, sar_n]
    rw [m_isUsed hA (h' _) hb, xI_s, Option.bind_some]
    dsimp only
    cases hP : S.1 b with
    | none =>
      rw [if_pos (by rfl)]
      have := tail (upd (ar 26) 0 (nI b)) (-1)
      rw [hP] at this
      exact this
    | some q =>
      have hdp := h.dp hb (by rw [hP]; simp)
      rw [hP] at hdp
      have hdp2 : ar 2 (10 * b + 1) = nI q.1 := hdp
      rw [if_neg (by show ¬ nI 1 = nI 0; decide)]
      simp (disch := first | omega | exact m_k48 hA) only [Option.bind_some, xI_s, xV_s, m_r48_1 hA, m_r48_2 hA, m_r48_5 hA, m_a50 hA, m_s50 hA, m_l50 hA, k169, zl, pk_mul, nI_add, Nat.add_zero, sar_s, sar_sar, m_r48_26 hA, m_a60 hA, m_s60 hA, sar_n, hdp2]
      have := tail (upd (ar 26) 0 (nI b)) (nI q.1)
      rw [hP] at this
      exact this
  · intro c w hc
    unfold wdL at hc
    have t0 : tI ((b : Nat) : Int) = nI b := tI_nat _
    have t2 : tI (((ents (S.1 b)).length : Nat) : Int) = nI (ents (S.1 b)).length := tI_nat _
    have t5 : tI ((S.2.2.2.2 : Nat) : Int) = nI S.2.2.2.2 := tI_nat _
    have t6 : tI ((mood : Nat) : Int) = nI mood := tI_nat _
    split at hc
    · rename_i e; cases hc; subst e; exact t0.symm
    · split at hc
      · rename_i e; cases hc; subst e
        show (match S.1 b with
          | none => (-1 : Int32)
          | some q => nI q.1) = tI (match S.1 b with
          | none => -1
          | some q => (q.1 : Int))
        cases S.1 b with
        | none => decide
        | some q => exact (tI_nat _).symm
      · split at hc
        · rename_i e; cases hc; subst e; exact t2.symm
        · split at hc
          · rename_i e; cases hc; subst e; rfl
          · split at hc
            · rename_i e; cases hc; subst e; rfl
            · split at hc
              · rename_i e; cases hc; subst e; exact t5.symm
              · split at hc
                · rename_i e; cases hc; subst e; exact t6.symm
                · cases hc
theorem MRR.n26 (h : MRR (ar 2) R) {g : Nat → Int32} : MRR ((sar ar 26 g) 2) R := by rw [sar_n (by omega)]; exact h
theorem m_costsOf (hA : 69 ≤ A.length) (h : MS (ar 2) S) (hR : MRR (ar 2) R) (hb : b < 24) (hdp : pdp (S.1 b) ≤ 6) (ht : S.2.2.2.2 ≤ 999) : ∃ fl' g, xC E (d + 47) 233 [.ref 48, .int (nI b)] (mw A fl ar al) = some (some (.int (nI (ctR R (S.1 b) b S.2.2.2.2))), mw A fl' (sar ar 26 g) al) ∧ eG fl fl' := by
  obtain ⟨g, g1, g2⟩ := m_setsAsked (E := E) (d := d + 43) (fl := fl) (al := al) (key := -1) (hash := -1) hA h hb hR.1
  have hws := cws_B (P := S.1 b) (b := b) (time := S.2.2.2.2) (mood := R.2.2.1) (key := -1) (hash := -1) (h.ln hb) hdp hb ht hR.2.1 (by omega) (by omega)
  obtain ⟨fl', k1, k2⟩ := m_tellR (E := E) (d := d) (fl := fl) (al := al) hA (hR.n26 (g := g)) hws (by rw [sar_s]; exact g2) (h := 1) (t := 1) (Or.inl rfl) (by omega)
  refine ⟨fl', g, ?_, k2⟩
  rw [k233 _ _ _ _ _ (m_k48 hA), show xC E (d + 46) 231 [.ref 48, .int (nI b), .int (-1 : Int32), .int (-1 : Int32)] (mw A fl ar al) = _ from g1, xV_s, Option.bind_some, show xC E (d + 46) 232 [.ref 48, .int (1 : Int32), .int (1 : Int32)] (mw A fl (sar ar 26 g) al) = _ from k1, xI_s, Option.bind_some, tellF_c]
  rfl
theorem m_isBarred (hA : 69 ≤ A.length) (h : MS (ar 2) S) (hR : MRR (ar 2) R) (ho : okk S.1) (ht : S.2.2.2.2 ≤ 999) {k : Nat} (hk : k < 1000) : ∃ fl' g, xC E (d + 47) 234 [.ref 48, .int (nI k)] (mw A fl ar al) = some (some (.int (nI (if brR R S.1 S.2.2.2.2 k = true then 1 else 0))), mw A fl' (sar ar 26 g) al) ∧ eG fl fl' := by
  have hb := own_lt S.1 (hsh R.2.2.2 k % 64)
  have hh := hsh_lt R.2.2.2 k
  obtain ⟨g, g1, g2⟩ := m_setsAsked (E := E) (d := d + 43) (fl := fl) (al := al) (key := (k : Int)) (hash := (hsh R.2.2.2 k : Int)) hA h hb hR.1
  have hws := cws_B (P := S.1 (own S.1 (hsh R.2.2.2 k % 64))) (b := own S.1 (hsh R.2.2.2 k % 64)) (time := S.2.2.2.2) (mood := R.2.2.1) (key := (k : Int)) (hash := (hsh R.2.2.2 k : Int)) (h.ln hb) (ho.2 _).2.2.1 hb ht hR.2.1 (by omega) (by omega)
  obtain ⟨fl', k1, k2⟩ := m_tellR (E := E) (d := d) (fl := fl) (al := al) hA (hR.n26 (g := g)) hws (by rw [sar_s]; exact g2) (h := 2) (t := 0) (Or.inr rfl) (by omega)
  refine ⟨fl', g, ?_, k2⟩
  rw [tI_nat, tI_nat] at g1
  rw [k234 _ _ _ _ _ (m_k48 hA), m_soughtIn hA h ho hk hR.2.2.2.1 hR.2.2.1, xI_s, Option.bind_some]
  dsimp only
  rw [m_hashOf hA hk hR.2.2.2.1 hR.2.2.1, xI_s, Option.bind_some]
  dsimp only
  rw [g1, xV_s, Option.bind_some, show xC E (d + 46) 232 [.ref 48, .int (2 : Int32), .int (0 : Int32)] (mw A fl (sar ar 26 g) al) = _ from k1, xI_s, Option.bind_some, tellF_b]
  dsimp only
  unfold brR
  have hle : barF R.1 R.2.1 (cws (S.1 (own S.1 (hsh R.2.2.2 k % 64))) (own S.1 (hsh R.2.2.2 k % 64)) S.2.2.2.2 R.2.2.1 (k : Int) (hsh R.2.2.2 k : Int)) ≤ 99 := by
    unfold barF
    split
    · omega
    · split
      · omega
      · exact tfold_le _ _ (by omega)
  generalize barF R.1 R.2.1 _ = v at hle ⊢
  by_cases e : v = 1
  · subst e; rw [if_pos (by rfl)]; rfl
  · rw [if_neg (show ¬ nI v = (1 : Int32) from fun z => e ((nI_eq (b := 1) (by omega) (by omega)).mp z)), if_neg (by simpa using e)]; rfl
/-- behind what may be done ahead -/
theorem m_w17 (hA : 69 ≤ A.length) (h : MS (ar 2) S) (hR : MRR (ar 2) R) (hb : b < 24) (hdp : pdp (S.1 b) ≤ 6) (ht : S.2.2.2.2 ≤ 999) (hl : S.2.2.1.length < 40) {w2 : Value} : ∃ fl' ar', xD E (d + 48) 237 17 [.ref 48, .int (nI b), w2] [] (mw A fl ar al) = some (none, mw A fl' ar' al) ∧ MS (ar' 2) (S.1, S.2.1, S.2.2.1 ++ [(b, ctR R (S.1 b) b S.2.2.2.2, S.1 b)], S.2.2.2.1, min (S.2.2.2.2 + 1) 999) ∧ MF fl ar fl' ar' := by
  have hwn := h.wn
  have hti := h.ti
  have hde := h.de
  generalize hn : S.2.2.1.length = n at hl hwn
  have hM1 : MS ((sar ar 2 (upd (ar 2) (480 + 12 * n) (nI b))) 2) S := by
    rw [sar_s]
    obtain ⟨h1, h2, ⟨h3, h4⟩, h5, h6, h7⟩ := h
    refine ⟨fun c hc => pgR_cong (h1 c hc) (fun j j1 j2 => upd_n (by omega)), fun c hc => pgR_cong (h2 c hc) (fun j j1 j2 => upd_n (by omega)), ⟨h3, fun i q hq => ?_⟩, by rw [upd_n (by omega)]; exact h5, by rw [upd_n (by omega)]; exact h6, by rw [upd_n (by omega)]; exact h7⟩
    have hi : i < S.2.2.1.length := (List.getElem?_eq_some_iff.mp hq).1
    exact wrR_cong (h4 i q hq) (fun j j1 j2 => upd_n (by omega))
  have hR1 : MRR ((sar ar 2 (upd (ar 2) (480 + 12 * n) (nI b))) 2) R := by
    rw [sar_s]; exact hR.cong (fun j hj => upd_n (by omega))
  obtain ⟨f1, ga, c1, c2⟩ := m_costsOf (E := E) (d := d) (fl := fl) (al := al) hA hM1 hR1 hb hdp ht
  generalize ctR R (S.1 b) b S.2.2.2.2 = ct at *
  have hcp := m_copies (E := E) (d := d + 46) (fl := f1) (al := al) (ar := sar (sar (sar ar 2 (upd (ar 2) (480 + 12 * n) (nI b))) 26 ga) 2 (upd (upd (ar 2) (480 + 12 * n) (nI b)) (480 + 12 * n + 1) (nI ct))) hA (fr := 10 * b) (to := 480 + 12 * n + 2) (by omega) (by omega) (by omega)
  rw [sar_s, sar_sar] at hcp
  generalize hg3 : cpx (upd (upd (ar 2) (480 + 12 * n) (nI b)) (480 + 12 * n + 1) (nI ct)) (upd (upd (ar 2) (480 + 12 * n) (nI b)) (480 + 12 * n + 1) (nI ct)) (10 * b) (480 + 12 * n + 2) 10 = g3 at hcp
  have hout : ∀ j, (j < 480 + 12 * n ∨ 480 + 12 * n + 12 ≤ j) → g3 j = ar 2 j := fun j hj => by
    rw [← hg3, cpx_out (by omega), upd_n (by omega), upd_n (by omega)]
  have hi0 : g3 (480 + 12 * n) = nI b := by rw [← hg3, cpx_out (by omega), upd_n (by omega)]; exact upd_s
  have hi1 : g3 (480 + 12 * n + 1) = nI ct := by rw [← hg3, cpx_out (by omega)]; exact upd_s
  have hi2 : ∀ j, j < 10 → g3 (480 + 12 * n + 2 + j) = ar 2 (10 * b + j) := fun j hj => by rw [← hg3, cpx_in (by omega), upd_n (by omega), upd_n (by omega)]
  have w960 : g3 960 = nI n := (hout 960 (by omega)).trans hwn
  have w962 : upd g3 960 (nI (n + 1)) 962 = nI S.2.2.2.2 := by rw [upd_n (by omega), hout 962 (by omega), hti]
  refine ⟨f1, sar (sar (sar ar 2 (upd (ar 2) (480 + 12 * n) (nI b))) 26 ga) 2 (upd (upd g3 960 (nI (n + 1))) 962 (nI (min 999 (S.2.2.2.2 + 1)))), ?_, ?_, c2, ?_⟩
  · rw [e237_17]
    simp (disch := first | omega | exact m_k48 hA) only [Option.bind_some, xI_s, xV_s, m_r48_1 hA, m_r48_2 hA, m_r48_5 hA, m_a50 hA, m_s50 hA, m_l50 hA, k169, zl, pk_mul, nI_add, Nat.add_zero, sar_s, sar_sar, hwn, k182]
    rw [c1, xI_s, Option.bind_some]
    simp (disch := first | omega | exact m_k48 hA) only [Option.bind_some, xI_s, xV_s, m_r48_1 hA, m_r48_2 hA, m_r48_5 hA, m_a50 hA, m_s50 hA, m_l50 hA, k169, zl, pk_mul, nI_add, Nat.add_zero, sar_s, sar_sar, m_r48_26 hA, m_a60 hA, m_s60 hA, sar_n, hcp, w960, w962]
    rw [e237_95, m_lesser (by omega) (by omega), xI_s, Option.bind_some]
    simp (disch := first | omega | exact m_k48 hA) only [Option.bind_some, xI_s, xV_s, m_r48_1 hA, m_r48_2 hA, m_r48_5 hA, m_a50 hA, m_s50 hA, m_l50 hA, k169, zl, pk_mul, nI_add, Nat.add_zero, sar_s, sar_sar, m_r48_26 hA, m_a60 hA, m_s60 hA, sar_n]
  · rw [sar_s]
    obtain ⟨h1, h2, ⟨h3, h4⟩, h5, h6, h7⟩ := h
    have hend : ∀ j, (j < 480 + 12 * n ∨ (480 + 12 * n + 12 ≤ j ∧ j < 960) ∨ j = 961) → upd (upd g3 960 (nI (n + 1))) 962 (nI (min 999 (S.2.2.2.2 + 1))) j = ar 2 j := fun j hj => by rw [upd_n (by omega), upd_n (by omega), hout j (by omega)]
    have hll : (S.2.2.1 ++ [(b, ct, S.1 b)]).length = n + 1 := by rw [List.length_append, hn]; rfl
    refine ⟨fun c hc => pgR_cong (h1 c hc) (fun j j1 j2 => hend j (by omega)), fun c hc => pgR_cong (h2 c hc) (fun j j1 j2 => hend j (by omega)), ⟨by show (S.2.2.1 ++ [(b, ct, S.1 b)]).length ≤ 40; omega, fun i q hq => ?_⟩, ?_, ?_, ?_⟩
    · have hq2 : (S.2.2.1 ++ [(b, ct, S.1 b)])[i]? = some q := hq
      by_cases ei : i = n
      · rw [ei] at hq2 ⊢
        rw [List.getElem?_append_right (by omega), show n - S.2.2.1.length = 0 by omega] at hq2
        cases hq2
        refine ⟨?_, ?_, pgR_mv (h1 b hb) (fun j hj => ?_), hb⟩
        · rw [upd_n (by omega), upd_n (by omega)]; exact hi0
        · rw [upd_n (by omega), upd_n (by omega)]; exact hi1
        · rw [upd_n (by omega), upd_n (by omega)]; exact hi2 j hj
      · have hi : i < n := by
          have := (List.getElem?_eq_some_iff.mp hq2).1
          omega
        rw [List.getElem?_append_left (by omega)] at hq2
        exact wrR_cong (h4 i q hq2) (fun j j1 j2 => hend j (by omega))
    · show _ = nI (S.2.2.1 ++ [(b, ct, S.1 b)]).length
      rw [hll, upd_n (by omega)]; exact upd_s
    · rw [hend 961 (by omega)]; exact h6
    · show _ = nI (min (S.2.2.2.2 + 1) 999)
      rw [Nat.min_comm]; exact upd_s
  · refine ⟨fun j q1 q2 q3 => by rw [sar_n q1, sar_n q2, sar_n q1], fun i hi => ?_⟩
    rw [sar_s, upd_n (by omega), upd_n (by omega), hout i (by omega)]
theorem m_writes (hA : 69 ≤ A.length) (h : MS (ar 2) S) (hR : MRR (ar 2) R) (hb : b < 24) (hdp : pdp (S.1 b) ≤ 6) (ht : S.2.2.2.2 ≤ 999) : ∃ fl' ar', xC E (d + 48) 237 [.ref 48, .int (nI b)] (mw A fl ar al) = some (none, mw A fl' ar' al) ∧ MS (ar' 2) (wrt R S b) ∧ MF fl ar fl' ar' := by
  have hwl := h.wl
  rw [k237 _ _ _ _ _ (m_k48 hA)]
  simp (disch := first | omega | exact m_k48 hA) only [Option.bind_some, xI_s, xV_s, m_r48_1 hA, m_r48_2 hA, m_r48_5 hA, m_a50 hA, m_s50 hA, m_l50 hA, k169, zl, pk_mul, nI_add, Nat.add_zero, sar_s, sar_sar, h.wn]
  unfold wrt
  by_cases e40 : S.2.2.1.length = 40
  · rw [if_pos e40, if_pos (show nI S.2.2.1.length = nI 40 by rw [e40])]
    cases hW : S.2.2.1 with
    | nil => rw [hW] at e40; cases e40
    | cons q W =>
      obtain ⟨g, p1, p2, p3⟩ := m_doesEldest (E := E) (d := d + 45) (fl := fl) (al := al) hA h hW
      have he : eld S = (S.1, ub S.2.1 q.1 q.2.2, W, S.2.2.2) := by unfold eld; rw [hW]
      have hk : kF ar (sar ar 2 g) := kF.k2 p3
      have hlt : (eld S).2.2.1.length < 40 := by rw [eld_len]; omega
      have hf : (eld S).1 = S.1 := eld_file S
      have htm : (eld S).2.2.2 = S.2.2.2 := eld_time S
      obtain ⟨fl', ar', w1, w2, w3⟩ := m_w17 (E := E) (d := d) (fl := fl) (ar := sar ar 2 g) (al := al) (S := eld S) (R := R) (b := b) (w2 := xJ) hA (by rw [sar_s]; exact p2) (hR.kF hk) hb (by rw [hf]; exact hdp) (by rw [htm]; exact ht) hlt
      rw [hf, htm] at w2
      refine ⟨fl', ar', ?_, w2, MF.tr ⟨eG.rf, hk⟩ w3⟩
      rw [p1, xV_s, Option.bind_some]; exact w1
  · rw [if_neg e40, if_neg (fun z => e40 ((nI_eq (b := 40) (by omega) (by omega)).mp z))]
    exact m_w17 hA h hR hb hdp ht (by omega)
end MWR
