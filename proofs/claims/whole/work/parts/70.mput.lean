/-! ===== the reference's store: a key comes ===== -/
/-- no split makes room -/
def nrm (t : Nat) (B : Bk) (h : Nat) : Prop := (ents (B (own B (h % 64)))).length = 3 ∧ ∀ q, pdp (B (own B (h % 64))) ≤ q → q < 6 → usedN B + (q - pdp (B (own B (h % 64))) + 1) ≤ 24 → ∀ e ∈ ents (B (own B (h % 64))), (hsh t e.1).testBit q = h.testBit q
theorem nrm_of {t h : Nat} {B : Bk} (hB : okk B) (hn : ndS t B (own B (h % 64)) h = none) : nrm t B h := by
  have hW := hB.2 (own B (h % 64))
  unfold ndS at hn
  unfold nrm
  generalize own B (h % 64) = b at hW hn ⊢
  by_cases q : (ents (B b)).length < 3
  · rw [if_pos q] at hn; cases hn
  · rw [if_neg q] at hn
    refine ⟨by have := hW.1; omega, fun k k1 k2 k3 e he => ?_⟩
    have hb : bitT (difB t h 0 (ents (B b))) k = false := by
      cases hf : fst1 (bitT (difB t h 0 (ents (B b)))) (6 - pdp (B b)) (pdp (B b)) with
      | none => exact fst1_none hf k k1 (by omega)
      | some j =>
        rw [hf] at hn
        simp only [ndE, Option.bind_some] at hn
        obtain ⟨j1, j2, j3⟩ := fst1_lt hf
        split at hn
        · cases hn
        · exact fst1_min hf k k1 (by omega)
    rw [bitT_tb, difB_tb, Bool.or_eq_false_iff] at hb
    have h2 := List.any_eq_false.mp hb.2 e he
    revert h2
    cases (hsh t e.1).testBit k <;> cases h.testBit k <;> simp
theorem flt_all {l : List (Nat × Nat)} {p : Nat × Nat → Bool} (h : ∀ e ∈ l, p e = true) : l.filter p = l := List.filter_eq_self.mpr h
theorem nrm_step {t h m : Nat} {B : Bk} (hB : okk B) (hr : nrm t B h) (hm : m < 24) (hf : B m = none) (hu : usedN B < 24) (hd : pdp (B (own B (h % 64))) ≤ 5) : nrm t (spl t B (own B (h % 64)) m) h ∧ pdp (spl t B (own B (h % 64)) m (own (spl t B (own B (h % 64)) m) (h % 64))) = pdp (B (own B (h % 64))) + 1 := by
  have hi : h % 64 < 64 := Nat.mod_lt _ (by omega)
  obtain ⟨o1, o2⟩ := hB.1.own hi
  obtain ⟨r1, r2⟩ := hr
  obtain ⟨p, hp⟩ := spl_at (t := t) (h := h) hB hm hf hd
  have hus := spl_used (t := t) hm (clm_some o1).1 hf
  unfold nrm
  rw [hp, hus]
  have hfl : (ents (B (own B (h % 64)))).filter (fun e => (hsh t e.1).testBit (pdp (B (own B (h % 64)))) == h.testBit (pdp (B (own B (h % 64))))) = ents (B (own B (h % 64))) := flt_all (fun e he => by
    rw [r2 _ (Nat.le_refl _) (by omega) (by omega) e he]; simp)
  rw [hfl]
  refine ⟨⟨r1, fun q q1 q2 q3 e he => ?_⟩, rfl⟩
  have q1' : pdp (B (own B (h % 64))) + 1 ≤ q := q1
  have q3' : usedN B + 1 + (q - (pdp (B (own B (h % 64))) + 1) + 1) ≤ 24 := q3
  exact r2 q (by omega) q2 (by omega) e he
/-- n splits make room, and all are due -/
def rmF (t : Nat) (B : Bk) (h n : Nat) : Prop := room t B h n ∧ (n ≠ 0 → (ents (B (own B (h % 64)))).length = 3)
theorem rmF_of {t h n : Nat} {B : Bk} (hB : okk B) (hn : ndS t B (own B (h % 64)) h = some n) : rmF t B h n := ⟨room_of hB hn, fun z => by
  have hW := (hB.2 (own B (h % 64))).1
  unfold ndS at hn
  by_cases q : (ents (B (own B (h % 64)))).length < 3
  · rw [if_pos q] at hn; cases hn; exact absurd rfl z
  · omega⟩
theorem rmF_step {t h n m : Nat} {B : Bk} (hB : okk B) (hr : rmF t B h (n + 1)) (hm : m < 24) (hf : B m = none) : rmF t (spl t B (own B (h % 64)) m) h n := by
  refine ⟨room_step hB hr.1 hm hf, fun z => ?_⟩
  have hl := hr.2 (by omega)
  obtain ⟨r1, r2, -, r4⟩ := hr.1
  obtain ⟨p, hp⟩ := spl_at (t := t) (h := h) hB hm hf (by omega)
  rw [hp]
  show ((ents (B (own B (h % 64)))).filter (fun e => (hsh t e.1).testBit (pdp (B (own B (h % 64)))) == h.testBit (pdp (B (own B (h % 64)))))).length = 3
  rw [flt_all (fun e he => by rw [(r4 (by omega)).1 e he _ (Nat.le_refl _) (by omega)]; simp), hl]
section PGF2
variable {f : Nat → Int32} {o : Nat} {S : St}
theorem pgR_dep {dd px x : Nat} {l : List (Nat × Nat)} (h : pgR f o (some (dd, px, l))) : pgR (upd f (o + 1) (nI x)) o (some (x, px, l)) := by
  obtain ⟨q0, q1, q2, q3, q4⟩ := h
  refine ⟨q0, by rw [upd_n (by omega)]; exact q1, by rw [upd_n (by omega)]; exact q2, fun i k v hi => ?_, fun _ => ⟨upd_s, by rw [upd_n (by omega)]; exact (q4 (by simp)).2⟩⟩
  rw [upd_n (by omega), upd_n (by omega)]; exact q3 i k v hi
theorem pgR_set {P : Pg} {i k v w : Nat} (h : pgR f o P) (hi : (ents P)[i]? = some (k, w)) : pgR (upd f (o + (7 + i)) (nI v)) o (stP P i k v) := by
  cases P with
  | none => simp [ents] at hi
  | some q =>
    obtain ⟨q0, q1, q2, q3, q4⟩ := h
    have hi2 : i < q.2.2.length := (List.getElem?_eq_some_iff.mp hi).1
    have q0' : q.2.2.length ≤ 3 := q0
    have hl : (q.2.2.set i (k, v)).length = q.2.2.length := List.length_set ..
    refine ⟨by show (q.2.2.set i (k, v)).length ≤ 3; omega, by rw [upd_n (by omega)]; exact q1, ?_, fun j k' v' hj => ?_, fun _ => ⟨by rw [upd_n (by omega)]; exact (q4 (by simp)).1, by rw [upd_n (by omega)]; exact (q4 (by simp)).2⟩⟩
    · show _ = nI (q.2.2.set i (k, v)).length
      rw [hl, upd_n (by omega)]; exact q2
    · have hj2 : (q.2.2.set i (k, v))[j]? = some (k', v') := hj
      have hjl : j < q.2.2.length := by rw [← hl]; exact (List.getElem?_eq_some_iff.mp hj2).1
      rw [List.getElem?_set] at hj2
      by_cases e : i = j
      · subst e
        rw [if_pos rfl, if_pos hi2] at hj2
        cases hj2
        have := q3 i k w hi
        exact ⟨by rw [upd_n (by omega)]; exact this.1, by rw [show o + 7 + i = o + (7 + i) by omega]; exact upd_s⟩
      · rw [if_neg e] at hj2
        have := q3 j k' v' hj2
        exact ⟨by rw [upd_n (by omega)]; exact this.1, by rw [upd_n (by omega)]; exact this.2⟩
theorem MS.setD (h : MS f S) (x : Nat) : MS (upd f 961 (nI x)) (S.1, S.2.1, S.2.2.1, x, S.2.2.2.2) := by
  obtain ⟨h1, h2, ⟨h3, h4⟩, h5, h6, h7⟩ := h
  refine ⟨fun c hc => pgR_cong (h1 c hc) (fun j j1 j2 => upd_n (by omega)), fun c hc => pgR_cong (h2 c hc) (fun j j1 j2 => upd_n (by omega)), ⟨h3, fun i q hq => ?_⟩, by rw [upd_n (by omega)]; exact h5, upd_s, by rw [upd_n (by omega)]; exact h7⟩
  have hi : i < S.2.2.1.length := (List.getElem?_eq_some_iff.mp hq).1
  exact wrR_cong (h4 i q hq) (fun j j1 j2 => upd_n (by omega))
theorem MS.setT (h : MS f S) (x : Nat) : MS (upd f 962 (nI x)) (S.1, S.2.1, S.2.2.1, S.2.2.2.1, x) := by
  obtain ⟨h1, h2, ⟨h3, h4⟩, h5, h6, h7⟩ := h
  refine ⟨fun c hc => pgR_cong (h1 c hc) (fun j j1 j2 => upd_n (by omega)), fun c hc => pgR_cong (h2 c hc) (fun j j1 j2 => upd_n (by omega)), ⟨h3, fun i q hq => ?_⟩, by rw [upd_n (by omega)]; exact h5, by rw [upd_n (by omega)]; exact h6, upd_s⟩
  have hi : i < S.2.2.1.length := (List.getElem?_eq_some_iff.mp hq).1
  exact wrR_cong (h4 i q hq) (fun j j1 j2 => upd_n (by omega))
end PGF2
section MPUT
variable {E : Nat × (Nat → Int32)} {d : Nat} {A : xH} {al : Nat → Nat → Int64} {R : Ru}
theorem m_spl_loop (hA : 69 ≤ A.length) {b n dd px p2 : Nat} {B : Bk} {X : Bk × List Wr × Nat × Nat} (hb : b < 24) (hn : n < 24) (hne : n ≠ b) (hdd : dd < 6) {fl : Nat → Int32} : ∀ (rest pre : List (Nat × Nat)) (ar : Nat → Nat → Int32) (w5 : Value), MS (ar 2) (two B n b (some (dd + 1, p2, pre.filter (hiE R.2.2.2 dd))) (some (dd + 1, px, pre.filter (loE R.2.2.2 dd) ++ rest)), X) → MRR (ar 2) R → pre.length + rest.length ≤ 3 → (∀ e ∈ rest, e.1 < 1000) → ∃ ar' w5', xD E (d + 3) 241 128 [.ref 48, .int (nI b), .int (nI dd), .int (nI n), .int (nI (pre.filter (loE R.2.2.2 dd)).length), w5] [] (mw A fl ar al) = xD E (d + 3) 241 128 [.ref 48, .int (nI b), .int (nI dd), .int (nI n), .int (nI ((pre ++ rest).filter (loE R.2.2.2 dd)).length), w5'] [] (mw A fl ar' al) ∧ MS (ar' 2) (two B n b (some (dd + 1, p2, (pre ++ rest).filter (hiE R.2.2.2 dd))) (some (dd + 1, px, (pre ++ rest).filter (loE R.2.2.2 dd))), X) ∧ MF fl ar fl ar'
  | [], pre, ar, w5, h, hR, hl, hk => by
    rw [List.append_nil] at h
    exact ⟨ar, w5, by rw [List.append_nil], by rw [List.append_nil]; exact h, MF.rf⟩
  | e :: rest, pre, ar, w5, h, hR, hl, hk => by
    have hf := List.length_filter_le (loE R.2.2.2 dd) pre
    have hf2 := List.length_filter_le (hiE R.2.2.2 dd) pre
    have hl2 : pre.length + (rest.length + 1) ≤ 3 := hl
    have hek := hk e (List.mem_cons_self ..)
    have hh := hsh_lt R.2.2.2 e.1
    have hmn := h.mn hb
    have hmn2 : ar 2 (10 * b + 3) = nI ((pre.filter (loE R.2.2.2 dd)).length + (rest.length + 1)) := by
      rw [hmn]
      show nI (ents (two B n b _ _ b)).length = _
      rw [two_b]
      show nI (pre.filter (loE R.2.2.2 dd) ++ e :: rest).length = _
      rw [List.length_append]; rfl
    have hi : (ents (((two B n b (some (dd + 1, p2, pre.filter (hiE R.2.2.2 dd))) (some (dd + 1, px, pre.filter (loE R.2.2.2 dd) ++ e :: rest)), X) : St).1 b))[(pre.filter (loE R.2.2.2 dd)).length]? = some (e.1, e.2) := by
      show (ents (two B n b _ _ b))[_]? = _
      rw [two_b]
      show (pre.filter (loE R.2.2.2 dd) ++ e :: rest)[(pre.filter (loE R.2.2.2 dd)).length]? = _
      rw [List.getElem?_append_right (Nat.le_refl _), Nat.sub_self]; rfl
    have hky := h.ky hb hi
    have hvl := h.vl hb hi
    have hhs := m_hashOf (E := E) (d := d + 1) (fl := fl) (al := al) hA hek hR.2.2.2.1 hR.2.2.1
    have hisIn : ∀ H : xH, xC E (d + 2) 160 [.int (nI (hsh R.2.2.2 e.1)), .int (nI dd)] H = some (some (.int (nI (if hsh R.2.2.2 e.1 / 2 ^ dd % 2 = 1 then 1 else 0))), H) := fun H => by
      rw [k160, n_bit (by omega) hdd]
      by_cases q : hsh R.2.2.2 e.1 / 2 ^ dd % 2 = 1
      · rw [if_pos q, q, if_pos (by rfl)]; rfl
      · rw [if_neg q, if_neg (show ¬ nI (hsh R.2.2.2 e.1 / 2 ^ dd % 2) = (1 : Int32) from fun w => q ((nI_eq (b := 1) (by omega) (by omega)).mp w))]; rfl
    rw [e241_128]
    simp (disch := first | omega | exact m_k48 hA) only [Option.bind_some, xI_s, xV_s, m_r48_1 hA, m_r48_2 hA, m_r48_5 hA, m_a50 hA, m_s50 hA, m_l50 hA, k169, zl, pk_mul, nI_add, Nat.add_zero, sar_s, sar_sar, hmn2]
    rw [if_neg (nI_ge (by omega) (by omega))]
    simp (disch := first | omega | exact m_k48 hA) only [Option.bind_some, xI_s, xV_s, m_r48_1 hA, m_r48_2 hA, m_r48_5 hA, m_a50 hA, m_s50 hA, m_l50 hA, k169, zl, pk_mul, nI_add, Nat.add_zero, sar_s, sar_sar, hky, hhs, hisIn]
    by_cases q : hsh R.2.2.2 e.1 / 2 ^ dd % 2 = 1
    · have q1 : hiE R.2.2.2 dd e = true := by unfold hiE; rw [q]; rfl
      have q2 : loE R.2.2.2 dd e = false := by unfold loE; rw [q1]; rfl
      rw [if_pos q, if_neg (show ¬ nI 1 = nI 0 by decide)]
      obtain ⟨g1, a1, a2, a3⟩ := m_comesInto (E := E) (d := d) (fl := fl) (al := al) (k := e.1) (v := e.2) hA h hn (two_n hne) (by omega)
      have a2' : MS ((sar ar 2 g1) 2) (ub (two B n b (some (dd + 1, p2, pre.filter (hiE R.2.2.2 dd))) (some (dd + 1, px, pre.filter (loE R.2.2.2 dd) ++ e :: rest))) n (some (dd + 1, p2, pre.filter (hiE R.2.2.2 dd) ++ [(e.1, e.2)])), X) := by rw [sar_s]; exact a2
      rw [two_un hne] at a2'
      obtain ⟨g2, b1, b2, b3⟩ := m_goesOut (E := E) (d := d) (fl := fl) (al := al) (i := (pre.filter (loE R.2.2.2 dd)).length) hA a2' hb two_b (by simp)
      rw [sar_sar] at b1
      have b2' : MS ((sar ar 2 g2) 2) (ub (two B n b (some (dd + 1, p2, pre.filter (hiE R.2.2.2 dd) ++ [(e.1, e.2)])) (some (dd + 1, px, pre.filter (loE R.2.2.2 dd) ++ e :: rest))) b (some (dd + 1, px, (pre.filter (loE R.2.2.2 dd) ++ e :: rest).eraseIdx (pre.filter (loE R.2.2.2 dd)).length)), X) := by rw [sar_s]; exact b2
      rw [two_ub, List.eraseIdx_append_of_length_le (Nat.le_refl _), Nat.sub_self, List.eraseIdx_cons_zero] at b2'
      have c1 : (pre ++ [e]).filter (hiE R.2.2.2 dd) = pre.filter (hiE R.2.2.2 dd) ++ [(e.1, e.2)] := by rw [List.filter_append]; simp [q1]
      have c2 : (pre ++ [e]).filter (loE R.2.2.2 dd) = pre.filter (loE R.2.2.2 dd) := by rw [List.filter_append]; simp [q2]
      have hg2 : ∀ i, 963 ≤ i → g2 i = ar 2 i := fun i hi => by rw [b3 i hi, sar_s, a3 i hi]
      have hk2 : kF ar (sar ar 2 g2) := kF.k2 hg2
      obtain ⟨ar', w5', i1, i2, i3⟩ := m_spl_loop hA hb hn hne hdd rest (pre ++ [e]) (sar ar 2 g2) (.int (nI e.1)) (by rw [c1, c2]; exact b2') (hR.kF hk2) (by simp; omega) (fun x hx => hk x (List.mem_cons_of_mem _ hx))
      rw [c2] at i1
      rw [List.append_assoc] at i1 i2
      refine ⟨ar', w5', ?_, i2, MF.tr ⟨eG.rf, hk2⟩ i3⟩
      simp (disch := first | omega | exact m_k48 hA) only [Option.bind_some, xI_s, xV_s, m_r48_1 hA, m_r48_2 hA, m_r48_5 hA, m_a50 hA, m_s50 hA, m_l50 hA, k169, zl, pk_mul, nI_add, Nat.add_zero, sar_s, sar_sar, hvl, a1, b1]
      exact i1
    · have q1 : hiE R.2.2.2 dd e = false := by unfold hiE; simp [q]
      have q2 : loE R.2.2.2 dd e = true := by unfold loE; rw [q1]; rfl
      have c1 : (pre ++ [e]).filter (hiE R.2.2.2 dd) = pre.filter (hiE R.2.2.2 dd) := by rw [List.filter_append]; simp [q1]
      have c2 : (pre ++ [e]).filter (loE R.2.2.2 dd) = pre.filter (loE R.2.2.2 dd) ++ [e] := by rw [List.filter_append]; simp [q2]
      obtain ⟨ar', w5', i1, i2, i3⟩ := m_spl_loop hA hb hn hne hdd rest (pre ++ [e]) ar (.int (nI e.1)) (by rw [c1, c2, List.append_assoc]; exact h) hR (by simp; omega) (fun x hx => hk x (List.mem_cons_of_mem _ hx))
      rw [c2, List.length_append] at i1
      rw [List.append_assoc] at i1 i2
      refine ⟨ar', w5', ?_, i2, i3⟩
      rw [if_neg q, if_pos (show nI 0 = nI 0 by rfl)]
      exact i1
theorem m_splits0 (hA : 69 ≤ A.length) {S : St} {fl : Nat → Int32} {ar : Nat → Nat → Int32} {b n : Nat} (h : MS (ar 2) S) (hR : MRR (ar 2) R) (hok : okk S.1) (hb : b < 24) (hu : S.1 b ≠ none) (hd5 : pdp (S.1 b) ≤ 5) (hfr : freeN S.1 = some n) (hdeep : pdp (S.1 b) ≤ S.2.2.2.1) (hd6 : S.2.2.2.1 ≤ 6) (ht : S.2.2.2.2 ≤ 999) : ∃ fl' ar', xC E (d + 49) 241 [.ref 48, .int (nI b)] (mw A fl ar al) = some (some (.int (nI 1)), mw A fl' ar' al) ∧ MS (ar' 2) (wrt R (wrt R (spl R.2.2.2 S.1 b n, S.2.1, S.2.2.1, max S.2.2.2.1 (pdp (S.1 b) + 1), S.2.2.2.2) n) b) ∧ MF fl ar fl' ar' := by
  obtain ⟨f1, f2, f3⟩ := fst1_lt hfr
  have hn : n < 24 := by omega
  have hnn : S.1 n = none := by simpa using f3
  have hne : n ≠ b := fun q => hu (q ▸ hnn)
  have hlen := h.ln hb
  have hW := hok.2 b
  have hdp := h.dp hb hu
  have hpx := h.px hb hu
  obtain ⟨q, hq⟩ : ∃ q, S.1 b = some q := by
    cases hB : S.1 b with
    | none => exact absurd hB hu
    | some q => exact ⟨q, rfl⟩
  have hpw := pow6 (n := pdp (S.1 b)) (by omega)
  /- behind the depth -/
  have step : ∀ (g0 : Nat → Int32), MS g0 (S.1, S.2.1, S.2.2.1, max S.2.2.2.1 (pdp (S.1 b) + 1), S.2.2.2.2) → (∀ i, 963 ≤ i → g0 i = ar 2 i) → (∀ j, j < 240 → g0 j = ar 2 j) → ∀ w4 w5 : Value, ∃ fl' ar', xD E (d + 49) 241 53 [.ref 48, .int (nI b), .int (nI (pdp (S.1 b))), .int (nI n), w4, w5] [] (mw A fl (sar ar 2 g0) al) = some (some (.int (nI 1)), mw A fl' ar' al) ∧ MS (ar' 2) (wrt R (wrt R (spl R.2.2.2 S.1 b n, S.2.1, S.2.2.1, max S.2.2.2.1 (pdp (S.1 b) + 1), S.2.2.2.2) n) b) ∧ MF fl ar fl' ar' := by
    intro g0 hM hfrm hlow w4 w5
    generalize hmx : max S.2.2.2.1 (pdp (S.1 b) + 1) = mx at hM ⊢
    have hpx0 : g0 (10 * b + 2) = nI (ppx (S.1 b)) := (hlow _ (by omega)).trans hpx
    have M1 := hM.file (b := n) (g := upd (upd (upd (upd g0 (10 * n) (nI 1)) (10 * n + 1) (nI (pdp (S.1 b) + 1))) (10 * n + 2) (nI (ppx (S.1 b) + 2 ^ pdp (S.1 b)))) (10 * n + 3) (nI 0)) (P := some (pdp (S.1 b) + 1, ppx (S.1 b) + 2 ^ pdp (S.1 b), [])) (fun j hj => by rw [upd_n (by omega), upd_n (by omega), upd_n (by omega), upd_n (by omega)]) hn
      ⟨by simp [ents], by rw [upd_n (by omega), upd_n (by omega), upd_n (by omega)]; exact upd_s, upd_s, fun i k v hi => by simp [ents] at hi, fun _ => ⟨by rw [upd_n (by omega), upd_n (by omega)]; exact upd_s, by rw [upd_n (by omega)]; exact upd_s⟩⟩
    generalize hg1 : upd (upd (upd (upd g0 (10 * n) (nI 1)) (10 * n + 1) (nI (pdp (S.1 b) + 1))) (10 * n + 2) (nI (ppx (S.1 b) + 2 ^ pdp (S.1 b)))) (10 * n + 3) (nI 0) = g1 at M1
    have hpg : pgR g1 (10 * b) (some (q.1, q.2.1, q.2.2)) := by
      have := M1.1 b hb
      rw [show ((ub S.1 n (some (pdp (S.1 b) + 1, ppx (S.1 b) + 2 ^ pdp (S.1 b), [])), S.2.1, S.2.2.1, mx, S.2.2.2.2) : St).1 b = S.1 b from ub_ne (Ne.symm hne), hq] at this
      exact this
    have M2 := M1.file (b := b) (g := upd g1 (10 * b + 1) (nI (pdp (S.1 b) + 1))) (P := some (pdp (S.1 b) + 1, q.2.1, q.2.2)) (fun j hj => by rw [upd_n (by omega)]) hb (pgR_dep hpg)
    have eq2 : ((ub (ub S.1 n (some (pdp (S.1 b) + 1, ppx (S.1 b) + 2 ^ pdp (S.1 b), []))) b (some (pdp (S.1 b) + 1, q.2.1, q.2.2)), S.2.1, S.2.2.1, mx, S.2.2.2.2) : St) = (two S.1 n b (some (pdp (S.1 b) + 1, ppx (S.1 b) + 2 ^ pdp (S.1 b), ([] : List (Nat × Nat)).filter (hiE R.2.2.2 (pdp (S.1 b))))) (some (pdp (S.1 b) + 1, ppx (S.1 b), ([] : List (Nat × Nat)).filter (loE R.2.2.2 (pdp (S.1 b))) ++ ents (S.1 b))), S.2.1, S.2.2.1, mx, S.2.2.2.2) := by
      rw [hq]; rfl
    have M3 : MS ((sar ar 2 (upd g1 (10 * b + 1) (nI (pdp (S.1 b) + 1)))) 2) (two S.1 n b (some (pdp (S.1 b) + 1, ppx (S.1 b) + 2 ^ pdp (S.1 b), ([] : List (Nat × Nat)).filter (hiE R.2.2.2 (pdp (S.1 b))))) (some (pdp (S.1 b) + 1, ppx (S.1 b), ([] : List (Nat × Nat)).filter (loE R.2.2.2 (pdp (S.1 b))) ++ ents (S.1 b))), S.2.1, S.2.2.1, mx, S.2.2.2.2) := by
      rw [sar_s, ← eq2]; exact M2
    have hk3 : kF ar (sar ar 2 (upd g1 (10 * b + 1) (nI (pdp (S.1 b) + 1)))) := kF.k2 (fun i hi => by rw [upd_n (by omega), ← hg1, upd_n (by omega), upd_n (by omega), upd_n (by omega), upd_n (by omega)]; exact hfrm i hi)
    obtain ⟨ar4, w5', l1, l2, l3⟩ := m_spl_loop (E := E) (d := d + 46) (al := al) (R := R) (fl := fl) hA hb hn hne (by omega) (ents (S.1 b)) [] _ xJ M3 (hR.kF hk3) (by simpa using hlen) (fun e he => (hW.2.1 e he).1)
    rw [List.nil_append] at l1 l2
    have hspl : (two S.1 n b (some (pdp (S.1 b) + 1, ppx (S.1 b) + 2 ^ pdp (S.1 b), (ents (S.1 b)).filter (hiE R.2.2.2 (pdp (S.1 b))))) (some (pdp (S.1 b) + 1, ppx (S.1 b), (ents (S.1 b)).filter (loE R.2.2.2 (pdp (S.1 b)))))) = spl R.2.2.2 S.1 b n := rfl
    rw [hspl] at l2
    have hok2 := spl_okk (t := R.2.2.2) hok hb hn hu hnn hd5
    have hR4 := (hR.kF hk3).kF l3.2
    obtain ⟨fl5, ar5, w1, w2, w3⟩ := m_writes (E := E) (d := d) (fl := fl) (al := al) hA l2 hR4 hn (hok2.2 _).2.2.1 ht
    obtain ⟨fl6, ar6, v1, v2, v3⟩ := m_writes (E := E) (d := d) (fl := fl5) (al := al) (b := b) hA w2 (hR4.kF w3.2) hb (hok2.2 _).2.2.1 (Nat.min_le_right _ _)
    refine ⟨fl6, ar6, ?_, v2, ((MF.tr ⟨eG.rf, hk3⟩ l3).tr w3).tr v3⟩
    have hmn := l2.mn hb
    have hmn2 : ar4 2 (10 * b + 3) = nI ((ents (S.1 b)).filter (loE R.2.2.2 (pdp (S.1 b)))).length := by
      rw [hmn]
      show nI (ents (spl R.2.2.2 S.1 b n b)).length = _
      rw [show spl R.2.2.2 S.1 b n b = _ from two_b]; rfl
    have hpx1 : upd (upd g0 (10 * n) (nI 1)) (10 * n + 1) (nI (pdp (S.1 b) + 1)) (10 * b + 2) = nI (ppx (S.1 b)) := by rw [upd_n (by omega), upd_n (by omega)]; exact hpx0
    have hshl : (1 : Int32) <<< (nI (pdp (S.1 b)) &&& 31) = nI (2 ^ pdp (S.1 b)) := n_shl _ (by omega)
    rw [e241_53, hshl]
    simp (disch := first | omega | exact m_k48 hA) only [Option.bind_some, xI_s, xV_s, m_r48_1 hA, m_r48_2 hA, m_r48_5 hA, m_a50 hA, m_s50 hA, m_l50 hA, k169, zl, pk_mul, nI_add, Nat.add_zero, sar_s, sar_sar, hpx1, hg1]
    rw [e241_125]
    refine Eq.trans l1 ?_
    rw [e241_128]
    simp (disch := first | omega | exact m_k48 hA) only [Option.bind_some, xI_s, xV_s, m_r48_1 hA, m_r48_2 hA, m_r48_5 hA, m_a50 hA, m_s50 hA, m_l50 hA, k169, zl, pk_mul, nI_add, Nat.add_zero, sar_s, sar_sar, hmn2]
    rw [if_pos (nI_le (Nat.le_refl _) (by have := List.length_filter_le (loE R.2.2.2 (pdp (S.1 b))) (ents (S.1 b)); omega)), w1, xV_s, Option.bind_some, v1, xV_s, Option.bind_some]
  rw [k241 _ _ _ _ _ (m_k48 hA)]
  simp (disch := first | omega | exact m_k48 hA) only [Option.bind_some, xI_s, xV_s, m_r48_1 hA, m_r48_2 hA, m_r48_5 hA, m_a50 hA, m_s50 hA, m_l50 hA, k169, zl, pk_mul, nI_add, Nat.add_zero, sar_s, sar_sar, hdp]
  rw [m_lowestFree hA h, xI_s, Option.bind_some, hfr, oI_s]
  dsimp only
  rw [if_neg (fun z => by have := (nI_eq (b := 6) (by omega) (by omega)).mp z; omega), if_neg (n_m1n (by omega))]
  simp (disch := first | omega | exact m_k48 hA) only [Option.bind_some, xI_s, xV_s, m_r48_1 hA, m_r48_2 hA, m_r48_5 hA, m_a50 hA, m_s50 hA, m_l50 hA, k169, zl, pk_mul, nI_add, Nat.add_zero, sar_s, sar_sar, h.de]
  by_cases e : pdp (S.1 b) = S.2.2.2.1
  · rw [if_pos (by rw [e])]
    refine step (upd (ar 2) 961 (nI (S.2.2.2.1 + 1))) ?_ (fun i hi => upd_n (by omega)) (fun j hj => upd_n (by omega)) xJ xJ
    have := h.setD (S.2.2.2.1 + 1)
    rw [show max S.2.2.2.1 (pdp (S.1 b) + 1) = S.2.2.2.1 + 1 by omega]
    exact this
  · rw [if_neg (fun z => e ((nI_eq (by omega) (by omega)).mp z))]
    have := step (ar 2) (by rw [show max S.2.2.2.1 (pdp (S.1 b) + 1) = S.2.2.2.1 by omega]; exact h) (fun _ _ => rfl) (fun _ _ => rfl) xJ xJ
    rw [sar_self] at this
    exact this
theorem m_splits0_no (hA : 69 ≤ A.length) {S : St} {fl : Nat → Int32} {ar : Nat → Nat → Int32} {b : Nat} (h : MS (ar 2) S) (hb : b < 24) (hu : S.1 b ≠ none) (hd6 : pdp (S.1 b) ≤ 6) (hno : pdp (S.1 b) = 6 ∨ freeN S.1 = none) : xC E (d + 4) 241 [.ref 48, .int (nI b)] (mw A fl ar al) = some (some (.int (nI 0)), mw A fl ar al) := by
  have hdp := h.dp hb hu
  rw [k241 _ _ _ _ _ (m_k48 hA)]
  simp (disch := first | omega | exact m_k48 hA) only [Option.bind_some, xI_s, xV_s, m_r48_1 hA, m_r48_2 hA, m_r48_5 hA, m_a50 hA, m_s50 hA, m_l50 hA, k169, zl, pk_mul, nI_add, Nat.add_zero, sar_s, sar_sar, hdp]
  rw [m_lowestFree hA h, xI_s, Option.bind_some]
  dsimp only
  by_cases e : pdp (S.1 b) = 6
  · rw [if_pos (by rw [e])]
  · rw [if_neg (fun z => e ((nI_eq (b := 6) (by omega) (by omega)).mp z)), hno.resolve_left e, oI_m, if_pos rfl]
end MPUT
