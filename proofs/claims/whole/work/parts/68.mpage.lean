/-! ===== the reference's store: pages change ===== -/
section PGF
variable {f g : Nat → Int32} {o : Nat} {S : St} {b : Nat}
theorem pgR_app {dd px k v : Nat} {l : List (Nat × Nat)} (h : pgR f o (some (dd, px, l))) (hl : l.length < 3) : pgR (upd (upd (upd f (o + (4 + l.length)) (nI k)) (o + (7 + l.length)) (nI v)) (o + 3) (nI (l.length + 1))) o (some (dd, px, l ++ [(k, v)])) := by
  obtain ⟨q0, q1, q2, q3, q4⟩ := h
  have hll : (l ++ [(k, v)]).length = l.length + 1 := by simp
  refine ⟨by simp only [ents, hll]; omega, ?_, ?_, fun j k' v' hj => ?_, fun _ => ⟨?_, ?_⟩⟩
  · rw [upd_n (by omega), upd_n (by omega), upd_n (by omega), q1]; rfl
  · simp only [ents, hll]; exact upd_s
  · simp only [ents] at hj
    have hj3 : j < l.length + 1 := by rw [← hll]; exact (List.getElem?_eq_some_iff.mp hj).1
    by_cases e : j = l.length
    · subst e
      rw [List.getElem?_append_right (Nat.le_refl _), Nat.sub_self] at hj
      cases hj
      refine ⟨?_, ?_⟩
      · rw [upd_n (by omega), upd_n (by omega), show o + 4 + l.length = o + (4 + l.length) by omega]; exact upd_s
      · rw [upd_n (by omega), show o + 7 + l.length = o + (7 + l.length) by omega]; exact upd_s
    · rw [List.getElem?_append_left (by omega)] at hj
      rw [upd_n (by omega), upd_n (by omega), upd_n (by omega), upd_n (by omega), upd_n (by omega), upd_n (by omega)]
      exact q3 j k' v' hj
  · rw [upd_n (by omega), upd_n (by omega), upd_n (by omega)]; exact (q4 (by simp)).1
  · rw [upd_n (by omega), upd_n (by omega), upd_n (by omega)]; exact (q4 (by simp)).2
/-- a bucket's cells have changed -/
theorem MS.file {P : Pg} (h : MS f S) (hg : ∀ j, (j < 10 * b ∨ 10 * b + 10 ≤ j) → g j = f j) (hb : b < 24) (hP : pgR g (10 * b) P) : MS g (ub S.1 b P, S.2) := by
  obtain ⟨h1, h2, ⟨h3, h4⟩, h5, h6, h7⟩ := h
  refine ⟨fun c hc => ?_, fun c hc => pgR_cong (h2 c hc) (fun j j1 j2 => hg j (by omega)), ⟨h3, fun i q hq => ?_⟩, by rw [hg _ (by omega)]; exact h5, by rw [hg _ (by omega)]; exact h6, by rw [hg _ (by omega)]; exact h7⟩
  · show pgR g (10 * c) (ub S.1 b P c)
    by_cases e : c = b
    · subst e; rw [ub_self]; exact hP
    · rw [ub_ne e]; exact pgR_cong (h1 c hc) (fun j j1 j2 => hg j (by omega))
  · exact wrR_cong (h4 i q hq) (fun j j1 j2 => hg j (by omega))
/-- a stretch is copied -/
def cpx (src dst : Nat → Int32) (fr to n : Nat) : Nat → Int32 := fun j => if to ≤ j ∧ j < to + n then src (fr + (j - to)) else dst j
theorem cpx_0 (src dst : Nat → Int32) (fr to : Nat) : cpx src dst fr to 0 = dst := funext fun j => if_neg (by omega)
theorem cpx_step (src dst : Nat → Int32) (fr to i : Nat) : upd (cpx src dst fr to i) (to + i) (src (fr + i)) = cpx src dst fr to (i + 1) := by
  funext j
  unfold cpx upd
  by_cases e : j = to + i
  · subst e; rw [if_pos rfl, if_pos (by omega), Nat.add_sub_cancel_left]
  · rw [if_neg e]
    dsimp only
    by_cases q : to ≤ j ∧ j < to + i
    · rw [if_pos q, if_pos (by omega)]
    · rw [if_neg q, if_neg (by omega)]
theorem cpx_in {src dst : Nat → Int32} {fr to n : Nat} {j : Nat} (h : j < n) : cpx src dst fr to n (to + j) = src (fr + j) := by
  unfold cpx
  rw [if_pos (by omega), Nat.add_sub_cancel_left]
theorem cpx_out {src dst : Nat → Int32} {fr to n : Nat} {j : Nat} (h : j < to ∨ to + n ≤ j) : cpx src dst fr to n j = dst j := by
  unfold cpx
  rw [if_neg (by omega)]
end PGF
theorem n_m1n {a : Nat} (h : a < 2 ^ 31) : ¬ nI a = -nI 1 := n_m1ne h
theorem oI_m : oI none = -nI 1 := rfl
section MPG
variable {E : Nat × (Nat → Int32)} {d : Nat} {A : xH} {fl : Nat → Int32} {ar : Nat → Nat → Int32} {al : Nat → Nat → Int64} {S : St} {R : Ru} {b : Nat}
theorem m_comesInto (hA : 69 ≤ A.length) (h : MS (ar 2) S) (hb : b < 24) {dd px k v : Nat} {l : List (Nat × Nat)} (hP : S.1 b = some (dd, px, l)) (hl : l.length < 3) : ∃ g, xC E (d + 2) 238 [.ref 48, .int (nI b), .int (nI k), .int (nI v)] (mw A fl ar al) = some (none, mw A fl (sar ar 2 g) al) ∧ MS g (ub S.1 b (some (dd, px, l ++ [(k, v)])), S.2) ∧ ∀ i, 963 ≤ i → g i = ar 2 i := by
  have hm := h.mn hb
  rw [hP] at hm
  have hm2 : ar 2 (10 * b + 3) = nI l.length := hm
  refine ⟨upd (upd (upd (ar 2) (10 * b + (4 + l.length)) (nI k)) (10 * b + (7 + l.length)) (nI v)) (10 * b + 3) (nI (l.length + 1)), ?_, ?_, fun i hi => ?_⟩
  · rw [k238 _ _ _ _ _ _ _ (m_k48 hA)]
    simp (disch := first | omega | exact m_k48 hA) only [Option.bind_some, xI_s, xV_s, m_r48_1 hA, m_r48_2 hA, m_r48_5 hA, m_a50 hA, m_s50 hA, m_l50 hA, k169, zl, pk_mul, nI_add, Nat.add_zero, sar_s, sar_sar, hm2]
  · have h1 := h.1 b hb
    rw [hP] at h1
    exact h.file (fun j hj => by rw [upd_n (by omega), upd_n (by omega), upd_n (by omega)]) hb (pgR_app h1 hl)
  · rw [upd_n (by omega), upd_n (by omega), upd_n (by omega)]
theorem m_out_loop (hA : 69 ≤ A.length) {o last i : Nat} {l : List (Nat × Nat)} {f0 : Nat → Int32} (hb : b < 24) (ho : o = 10 * b) (hl : l.length = last + 1) (h3 : last < 3) : ∀ (c j : Nat) (ar : Nat → Nat → Int32) (w : Value), j + c = last → i ≤ j → (∀ t e, t < j → (l.eraseIdx i)[t]? = some e → entR (ar 2) o t e) → (∀ t e, j ≤ t → l[t]? = some e → entR (ar 2) o t e) → (∀ q, (q < o + 4 ∨ o + 10 ≤ q) → ar 2 q = f0 q) →
    ∃ g, xD E (d + 2) 239 16 [.ref 48, .int (nI b), w, .int (nI last), .int (nI j)] [] (mw A fl ar al) = some (none, mw A fl (sar ar 2 g) al) ∧ (∀ t e, t < last → (l.eraseIdx i)[t]? = some e → entR g o t e) ∧ g (o + 3) = nI last ∧ (∀ q, (q < o + 3 ∨ o + 10 ≤ q) → g q = f0 q)
  | 0, j, ar, w, hc, hij, h1, h2, hf => by
    refine ⟨upd (ar 2) (10 * b + 3) (nI last), ?_, fun t e ht he => ?_, by rw [ho]; exact upd_s, fun q hq => ?_⟩
    · rw [e239_16, if_pos (nI_le (by omega) (by omega))]
      simp (disch := first | omega | exact m_k48 hA) only [Option.bind_some, xI_s, xV_s, m_r48_1 hA, m_r48_2 hA, m_r48_5 hA, m_a50 hA, m_s50 hA, m_l50 hA, k169, zl, pk_mul, nI_add, Nat.add_zero, sar_s, sar_sar]
    · have := h1 t e (by omega) he
      exact ⟨by rw [upd_n (by omega)]; exact this.1, by rw [upd_n (by omega)]; exact this.2⟩
    · rw [upd_n (by omega)]; exact hf q (by omega)
  | c + 1, j, ar, w, hc, hij, h1, h2, hf => by
    have hj1 : j + 1 < l.length := by omega
    have he1 := h2 (j + 1) l[j + 1] (by omega) (List.getElem?_eq_getElem hj1)
    have hsh : (l.eraseIdx i)[j]? = some l[j + 1] := by
      rw [List.getElem?_eraseIdx, if_neg (by omega), List.getElem?_eq_getElem hj1]
    generalize l[j + 1] = ee at he1 hsh
    have hk : ar 2 (10 * b + (4 + j + 1)) = nI ee.1 := by
      have := he1.1
      rw [ho] at this
      rw [show 10 * b + (4 + j + 1) = 10 * b + 4 + (j + 1) by omega]; exact this
    have hv : ar 2 (10 * b + (7 + j + 1)) = nI ee.2 := by
      have := he1.2
      rw [ho] at this
      rw [show 10 * b + (7 + j + 1) = 10 * b + 7 + (j + 1) by omega]; exact this
    have hgg : sar ar 2 (upd (upd (ar 2) (10 * b + (4 + j)) (nI ee.1)) (10 * b + (7 + j)) (nI ee.2)) 2 = upd (upd (ar 2) (10 * b + (4 + j)) (nI ee.1)) (10 * b + (7 + j)) (nI ee.2) := sar_s
    obtain ⟨g, hg, k1, k2, k3⟩ := m_out_loop hA (i := i) (last := last) (l := l) (o := o) (f0 := f0) hb ho hl h3 c (j + 1) (sar ar 2 (upd (upd (ar 2) (10 * b + (4 + j)) (nI ee.1)) (10 * b + (7 + j)) (nI ee.2))) xJ (by omega) (by omega)
      (fun t e ht he => by
        rw [hgg]
        by_cases q : t = j
        · subst q
          rw [hsh] at he
          cases he
          subst ho
          refine ⟨?_, ?_⟩
          · rw [show 10 * b + 4 + t = 10 * b + (4 + t) by omega, upd_n (by omega)]; exact upd_s
          · rw [show 10 * b + 7 + t = 10 * b + (7 + t) by omega]; exact upd_s
        · have := h1 t e (by omega) he
          exact ⟨by rw [upd_n (by omega), upd_n (by omega)]; exact this.1, by rw [upd_n (by omega), upd_n (by omega)]; exact this.2⟩)
      (fun t e ht he => by
        rw [hgg]
        have htl : t < l.length := (List.getElem?_eq_some_iff.mp he).1
        have := h2 t e (by omega) he
        exact ⟨by rw [upd_n (by omega), upd_n (by omega)]; exact this.1, by rw [upd_n (by omega), upd_n (by omega)]; exact this.2⟩)
      (fun q hq => by rw [hgg, upd_n (by omega), upd_n (by omega)]; exact hf q hq)
    refine ⟨g, ?_, k1, k2, k3⟩
    rw [sar_sar] at hg
    rw [e239_16, if_neg (nI_ge (by omega) (by omega))]
    have hv2 : upd (ar 2) (10 * b + (4 + j)) (nI ee.1) (10 * b + (7 + j + 1)) = nI ee.2 := by rw [upd_n (by omega)]; exact hv
    simp (disch := first | omega | exact m_k48 hA) only [Option.bind_some, xI_s, xV_s, m_r48_1 hA, m_r48_2 hA, m_r48_5 hA, m_a50 hA, m_s50 hA, m_l50 hA, k169, zl, pk_mul, nI_add, Nat.add_zero, sar_s, sar_sar, hk, hv2]
    exact hg
theorem m_goesOut (hA : 69 ≤ A.length) (h : MS (ar 2) S) (hb : b < 24) {dd px i : Nat} {l : List (Nat × Nat)} (hP : S.1 b = some (dd, px, l)) (hi : i < l.length) : ∃ g, xC E (d + 2) 239 [.ref 48, .int (nI b), .int (nI i)] (mw A fl ar al) = some (none, mw A fl (sar ar 2 g) al) ∧ MS g (ub S.1 b (some (dd, px, l.eraseIdx i)), S.2) ∧ ∀ i, 963 ≤ i → g i = ar 2 i := by
  have h0 := h.1 b hb
  rw [hP] at h0
  have hl3 : l.length ≤ 3 := h0.1
  obtain ⟨q0, q1, q2, q3, q4⟩ := h0
  obtain ⟨g, hg, k1, k2, k3⟩ := m_out_loop (E := E) (d := d) (fl := fl) (al := al) hA (b := b) (i := i) (o := 10 * b) (last := l.length - 1) (l := l) (f0 := ar 2) hb rfl (by omega) (by omega) (l.length - 1 - i) i ar (.int (nI i)) (by omega) (by omega)
    (fun t e ht he => by
      rw [List.getElem?_eraseIdx, if_pos ht] at he
      exact q3 t e.1 e.2 he)
    (fun t e ht he => q3 t e.1 e.2 he) (fun _ _ => rfl)
  have hel : (l.eraseIdx i).length = l.length - 1 := by rw [List.length_eraseIdx, if_pos hi]
  refine ⟨g, ?_, ?_, fun j hj => k3 j (by omega)⟩
  · rw [k239 _ _ _ _ _ _ (m_k48 hA)]
    have q2' : ar 2 (10 * b + 3) = nI l.length := q2
    simp (disch := first | omega | exact m_k48 hA) only [Option.bind_some, xI_s, xV_s, m_r48_1 hA, m_r48_2 hA, m_r48_5 hA, m_a50 hA, m_s50 hA, m_l50 hA, k169, zl, pk_mul, nI_add, Nat.add_zero, sar_s, sar_sar, q2']
    rw [pk_sub (by omega)]
    exact hg
  · refine h.file (fun j hj => k3 j (by omega)) hb ?_
    refine ⟨by simp only [ents, hel]; omega, ?_, ?_, fun j k' v' hj => ?_, fun _ => ⟨?_, ?_⟩⟩
    · rw [k3 _ (by omega), q1]; rfl
    · simp only [ents, hel]; exact k2
    · simp only [ents] at hj
      exact k1 j (k', v') (by rw [← hel]; exact (List.getElem?_eq_some_iff.mp hj).1) hj
    · rw [k3 _ (by omega)]; exact (q4 (by simp)).1
    · rw [k3 _ (by omega)]; exact (q4 (by simp)).2
theorem m_cp_loop (hA : 69 ≤ A.length) {fr to : Nat} (h1 : fr + 10 ≤ 963) (h2 : to + 10 ≤ 963) (hd : fr + 10 ≤ to ∨ to + 10 ≤ fr) : ∀ c i, i + c = 10 → xD E (d + 1) 235 2 [.ref 48, .int (nI fr), .int (nI to), .int (nI i)] [] (mw A fl (sar ar 2 (cpx (ar 2) (ar 2) fr to i)) al) = some (none, mw A fl (sar ar 2 (cpx (ar 2) (ar 2) fr to 10)) al)
  | 0, i, hc => by
    rw [e235_2, if_pos (by rw [zl]; exact nI_le (by omega) (by omega)), show i = 10 by omega]
  | c + 1, i, hc => by
    have hr : cpx (ar 2) (ar 2) fr to i (fr + i) = ar 2 (fr + i) := cpx_out (by omega)
    rw [e235_2, if_neg (by rw [zl]; exact nI_ge (by omega) (by omega))]
    simp (disch := first | omega | exact m_k48 hA) only [Option.bind_some, xI_s, xV_s, m_r48_1 hA, m_r48_2 hA, m_r48_5 hA, m_a50 hA, m_s50 hA, m_l50 hA, k169, zl, pk_mul, nI_add, Nat.add_zero, sar_s, sar_sar, hr, cpx_step]
    exact m_cp_loop hA h1 h2 hd c (i + 1) (by omega)
theorem m_copies (hA : 69 ≤ A.length) {fr to : Nat} (h1 : fr + 10 ≤ 963) (h2 : to + 10 ≤ 963) (hd : fr + 10 ≤ to ∨ to + 10 ≤ fr) : xC E (d + 1) 235 [.ref 48, .int (nI fr), .int (nI to)] (mw A fl ar al) = some (none, mw A fl (sar ar 2 (cpx (ar 2) (ar 2) fr to 10)) al) := by
  rw [k235 _ _ _ _ _ _ (m_k48 hA)]
  have := m_cp_loop (E := E) (d := d) (fl := fl) (ar := ar) (al := al) hA h1 h2 hd 10 0 rfl
  rw [cpx_0, sar_self] at this
  rw [zl]; exact this
theorem m_sh_loop (hA : 69 ≤ A.length) {n : Nat} {g : Nat → Int32} (hn : n ≤ 39) (hg : g 960 = nI n) : ∀ c i, i + c = 12 * n → xD E (d + 1) 236 37 [.ref 48, .int (nI i)] [] (mw A fl (sar ar 2 (cpx g g 492 480 i)) al) = some (none, mw A fl (sar ar 2 (cpx g g 492 480 (12 * n))) al)
  | 0, i, hc => by
    have hw : cpx g g 492 480 i 960 = nI n := (cpx_out (by omega)).trans hg
    rw [e236_37]
    simp (disch := first | omega | exact m_k48 hA) only [Option.bind_some, xI_s, xV_s, m_r48_1 hA, m_r48_2 hA, m_r48_5 hA, m_a50 hA, m_s50 hA, m_l50 hA, k169, zl, pk_mul, nI_add, Nat.add_zero, sar_s, sar_sar, hw]
    rw [if_pos (nI_le (by omega) (by omega)), show i = 12 * n by omega]
  | c + 1, i, hc => by
    have hw : cpx g g 492 480 i 960 = nI n := (cpx_out (by omega)).trans hg
    have hr : cpx g g 492 480 i (492 + i) = g (492 + i) := cpx_out (by omega)
    rw [e236_37]
    simp (disch := first | omega | exact m_k48 hA) only [Option.bind_some, xI_s, xV_s, m_r48_1 hA, m_r48_2 hA, m_r48_5 hA, m_a50 hA, m_s50 hA, m_l50 hA, k169, zl, pk_mul, nI_add, Nat.add_zero, sar_s, sar_sar, hw]
    rw [if_neg (nI_ge (by omega) (by omega))]
    simp (disch := first | omega | exact m_k48 hA) only [Option.bind_some, xI_s, xV_s, m_r48_1 hA, m_r48_2 hA, m_r48_5 hA, m_a50 hA, m_s50 hA, m_l50 hA, k169, zl, pk_mul, nI_add, Nat.add_zero, sar_s, sar_sar, hr, cpx_step]
    exact m_sh_loop hA hn hg c (i + 1) (by omega)
theorem m_doesEldest (hA : 69 ≤ A.length) (h : MS (ar 2) S) {q : Wr} {W : List Wr} (hW : S.2.2.1 = q :: W) : ∃ g, xC E (d + 2) 236 [.ref 48] (mw A fl ar al) = some (none, mw A fl (sar ar 2 g) al) ∧ MS g (eld S) ∧ ∀ i, 963 ≤ i → g i = ar 2 i := by
  obtain ⟨h1, h2, ⟨h3, h4⟩, h5, h6, h7⟩ := h
  have hlen : S.2.2.1.length = W.length + 1 := by rw [hW]; rfl
  obtain ⟨p1, p2, p3, p4⟩ := h4 0 q (by rw [hW]; rfl)
  rw [Nat.mul_zero, Nat.add_zero] at p1 p2 p3
  have hg0 : upd (cpx (ar 2) (ar 2) 482 (240 + 10 * q.1) 10) 960 (nI W.length) 960 = nI W.length := upd_s
  have hsh := m_sh_loop (E := E) (d := d + 1) (fl := fl) (ar := ar) (al := al) hA (n := W.length) (g := upd (cpx (ar 2) (ar 2) 482 (240 + 10 * q.1) 10) 960 (nI W.length)) (by omega) hg0 (12 * W.length) 0 (by omega)
  rw [cpx_0] at hsh
  have hpre : ∀ j, j < 480 → cpx (upd (cpx (ar 2) (ar 2) 482 (240 + 10 * q.1) 10) 960 (nI W.length)) (upd (cpx (ar 2) (ar 2) 482 (240 + 10 * q.1) 10) 960 (nI W.length)) 492 480 (12 * W.length) j = cpx (ar 2) (ar 2) 482 (240 + 10 * q.1) 10 j := fun j hj => by rw [cpx_out (by omega), upd_n (by omega)]
  have hpost : ∀ j, 961 ≤ j → cpx (upd (cpx (ar 2) (ar 2) 482 (240 + 10 * q.1) 10) 960 (nI W.length)) (upd (cpx (ar 2) (ar 2) 482 (240 + 10 * q.1) 10) 960 (nI W.length)) 492 480 (12 * W.length) j = ar 2 j := fun j hj => by rw [cpx_out (by omega), upd_n (by omega), cpx_out (by omega)]
  refine ⟨cpx (upd (cpx (ar 2) (ar 2) 482 (240 + 10 * q.1) 10) 960 (nI W.length)) (upd (cpx (ar 2) (ar 2) 482 (240 + 10 * q.1) 10) 960 (nI W.length)) 492 480 (12 * W.length), ?_, ?_, fun i hi => hpost i (by omega)⟩
  · have hcp := m_copies (E := E) (d := d) (fl := fl) (ar := ar) (al := al) hA (fr := 482) (to := 240 + 10 * q.1) (by omega) (by omega) (by omega)
    have hw : cpx (ar 2) (ar 2) 482 (240 + 10 * q.1) 10 960 = nI (W.length + 1) := by rw [cpx_out (by omega), h5, hlen]
    rw [k236 _ _ _ _ (m_k48 hA)]
    simp (disch := first | omega | exact m_k48 hA) only [Option.bind_some, xI_s, xV_s, m_r48_1 hA, m_r48_2 hA, m_r48_5 hA, m_a50 hA, m_s50 hA, m_l50 hA, k169, zl, pk_mul, nI_add, Nat.add_zero, sar_s, sar_sar, p1, Nat.add_zero, hcp, hw]
    rw [pk_sub (by omega), Nat.add_sub_cancel]
    exact hsh
  · have he : eld S = (S.1, ub S.2.1 q.1 q.2.2, W, S.2.2.2) := by unfold eld; rw [hW]
    rw [he]
    refine ⟨fun c hc => pgR_cong (h1 c hc) (fun j j1 j2 => ?_), fun c hc => ?_, ⟨by show W.length ≤ 40; omega, fun i w hw => ?_⟩, ?_, ?_, ?_⟩
    · rw [hpre j (by omega), cpx_out (by omega)]
    · show pgR _ (240 + 10 * c) (ub S.2.1 q.1 q.2.2 c)
      by_cases e : c = q.1
      · subst e
        rw [ub_self]
        refine pgR_mv p3 (fun j hj => ?_)
        rw [hpre _ (by omega), cpx_in (by omega)]
      · rw [ub_ne e]
        refine pgR_cong (h2 c hc) (fun j j1 j2 => ?_)
        rw [hpre j (by omega), cpx_out (by omega)]
    · have hi : i < W.length := (List.getElem?_eq_some_iff.mp hw).1
      have := h4 (i + 1) w (by rw [hW]; exact hw)
      obtain ⟨w1, w2, w3, w4⟩ := this
      have hmv : ∀ j, j < 12 → cpx (upd (cpx (ar 2) (ar 2) 482 (240 + 10 * q.1) 10) 960 (nI W.length)) (upd (cpx (ar 2) (ar 2) 482 (240 + 10 * q.1) 10) 960 (nI W.length)) 492 480 (12 * W.length) (480 + 12 * i + j) = ar 2 (480 + 12 * (i + 1) + j) := fun j hj => by
        rw [show 480 + 12 * i + j = 480 + (12 * i + j) by omega, cpx_in (by omega), upd_n (by omega), cpx_out (by omega), show 492 + (12 * i + j) = 480 + 12 * (i + 1) + j by omega]
      refine ⟨?_, ?_, pgR_mv w3 (fun j hj => ?_), w4⟩
      · have := hmv 0 (by omega); rw [Nat.add_zero] at this; rw [this]; exact w1
      · rw [hmv 1 (by omega)]; exact w2
      · rw [show 480 + 12 * i + 2 + j = 480 + 12 * i + (2 + j) by omega, hmv (2 + j) (by omega), show 480 + 12 * (i + 1) + (2 + j) = 480 + 12 * (i + 1) + 2 + j by omega]
    · show _ = nI W.length
      rw [cpx_out (by omega)]; exact upd_s
    · rw [hpost _ (by omega)]; exact h6
    · rw [hpost _ (by omega)]; exact h7
theorem m_free_loop (hA : 69 ≤ A.length) (h : MS (ar 2) S) : ∀ c i, i + c = 24 → xD E (d + 3) 240 2 [.ref 48, .int (nI i)] [] (mw A fl ar al) = some (some (.int (oI (fst1 (fun b => (S.1 b).isNone) c i))), mw A fl ar al)
  | 0, i, hc => by
    rw [e240_2, if_pos (by rw [zl]; exact nI_le (by omega) (by omega)), show i = 24 by omega, if_pos (by rfl)]; rfl
  | c + 1, i, hc => by
    rw [e240_2, if_neg (by rw [zl]; exact nI_ge (by omega) (by omega)), m_isUsed hA h (by omega), xI_s]
    simp only [Option.bind_some, zl, nI_add]
    unfold fst1
    cases hP : S.1 i with
    | none =>
      rw [if_pos (show nI (pus none) = nI 0 by rfl), if_neg (fun z => by have := (nI_eq (by omega) (by omega)).mp z; omega)]; rfl
    | some q =>
      rw [if_neg (show ¬ nI (pus (some q)) = nI 0 by show ¬ nI 1 = nI 0; decide), m_free_loop hA h c (i + 1) (by omega)]; rfl
theorem m_lowestFree (hA : 69 ≤ A.length) (h : MS (ar 2) S) : xC E (d + 3) 240 [.ref 48] (mw A fl ar al) = some (some (.int (oI (freeN S.1))), mw A fl ar al) := by
  rw [k240 _ _ _ _ (m_k48 hA)]; simp only [zl]; exact m_free_loop hA h 24 0 rfl
theorem m_greater {x y : Nat} (hx : x < 2 ^ 31) (hy : y < 2 ^ 31) : xC E (d + 1) 156 [.int (nI x), .int (nI y)] A = some (some (.int (nI (max x y))), A) := by
  rw [k156]
  by_cases e : x ≤ y
  · rw [if_pos (nI_le e hy), Nat.max_eq_right e]
  · rw [if_neg (nI_ge (by omega) hx), Nat.max_eq_left (by omega)]
theorem m_lesser {x y : Nat} (hx : x < 2 ^ 31) (hy : y < 2 ^ 31) : xC E (d + 1) 155 [.int (nI x), .int (nI y)] A = some (some (.int (nI (min x y))), A) := by
  rw [k155]
  by_cases e : y ≤ x
  · rw [if_pos (nI_le e hx), Nat.min_eq_right e]
  · rw [if_neg (nI_ge (by omega) hy), Nat.min_eq_left (by omega)]
theorem m_deep_loop (hA : 69 ≤ A.length) (h : MS (ar 2) S) (h31 : ∀ q, pdp (S.1 q) ≤ 6) : ∀ c i, i + c = 24 → xD E (d + 3) 247 4 [.ref 48, .int (nI (gst (fun b => pdp (S.1 b)) i)), .int (nI i)] [] (mw A fl ar al) = some (some (.int (nI (deepN S.1))), mw A fl ar al)
  | 0, i, hc => by
    rw [e247_4, if_pos (by rw [zl]; exact nI_le (by omega) (by omega)), show i = 24 by omega]; rfl
  | c + 1, i, hc => by
    have hg := gst_le h31 i
    have hi := h31 i
    have hr := m_deep_loop hA h h31 c (i + 1) (by omega)
    simp only [gst] at hr
    rw [e247_4, if_neg (by rw [zl]; exact nI_ge (by omega) (by omega)), m_isUsed hA h (by omega), xI_s]
    simp only [Option.bind_some]
    cases hP : S.1 i with
    | none =>
      rw [if_pos (by rfl), nI_1]
      rw [hP] at hr
      rw [show max (gst (fun b => pdp (S.1 b)) i) (pdp none) = gst (fun b => pdp (S.1 b)) i from Nat.max_eq_left (Nat.zero_le _)] at hr
      exact hr
    | some q =>
      have hu : S.1 i ≠ none := by rw [hP]; simp
      rw [if_neg (by show ¬ nI 1 = 0; decide)]
      simp (disch := first | omega | exact m_k48 hA) only [Option.bind_some, xI_s, xV_s, m_r48_1 hA, m_r48_2 hA, m_r48_5 hA, m_a50 hA, m_s50 hA, m_l50 hA, k169, zl, pk_mul, nI_add, Nat.add_zero, sar_s, sar_sar, h.dp (show i < 24 by omega) hu, m_greater]
      exact hr
theorem m_deepestOf (hA : 69 ≤ A.length) (h : MS (ar 2) S) (h31 : ∀ q, pdp (S.1 q) ≤ 6) : xC E (d + 3) 247 [.ref 48] (mw A fl ar al) = some (some (.int (nI (deepN S.1))), mw A fl ar al) := by
  rw [k247 _ _ _ _ (m_k48 hA)]; simp only [zl]; exact m_deep_loop hA h h31 24 0 rfl
end MPG
