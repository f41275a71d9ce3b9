/-! ===== the reference reads a text ===== -/
section MREADS
variable {E : Nat × (Nat → Int32)} {d : Nat} {A : xH} {fl : Nat → Int32} {ar : Nat → Nat → Int32} {al : Nat → Nat → Int64} {bs : Nat → Nat} {n : Nat} {o : Bool}
theorem cu_rec (hA : 69 ≤ A.length) (hn : n ≤ 400) (hbs : ∀ j, bs j < 256) (htb : tbR bs n ar) (hwd : wdR ar) {p i : Nat} {w5 : Value} (hp : p < n) (hps : ps bs n i = p) (hi : i < 400) (h18 : fl 18 = nI i) : ∃ ar' w3 w4 w5', xD E (d + 2) 196 100 [.ref 48, .int (nI n), .int (nI p), .int (sb (bs p)), .int (nI (en bs n p)), w5] [] (mw A fl ar al) = xD E (d + 2) 196 7 [.ref 48, .int (nI n), .int (nI (en bs n p)), w3, w4, w5'] [] (mw A (upd fl 18 (nI (i + 1))) ar' al) ∧ tkR bs n ar' i ∧ (∀ j, j ≠ i → ar' 15 j = ar 15 j ∧ ar' 16 j = ar 16 j ∧ ar' 17 j = ar 17 j) ∧ (∀ k, k ≠ 15 → k ≠ 16 → k ≠ 17 → ar' k = ar k) := by
  have hen := en_lt (bs := bs) hp
  have hbp := hbs p
  have head : xD E (d + 2) 196 100 [.ref 48, .int (nI n), .int (nI p), .int (sb (bs p)), .int (nI (en bs n p)), w5] [] (mw A fl ar al) = xD E (d + 2) 196 169 [.ref 48, .int (nI n), .int (nI p), .int (sb (bs p)), .int (nI (en bs n p)), .int (nI p)] [] (mw A fl (sar (sar (sar ar 17 (upd (ar 17) i (nI p))) 16 (upd (ar 16) i 0)) 15 (upd (ar 15) i (nI (tcd bs n p)))) al) := by
    rw [e196_100]
    simp (disch := omega) only [m_r48_17, m_r48_16, m_r48_15, m_g48_18, h18, m_s59, m_s58, Option.bind_some, sar_n]
    rw [m_isSmall hbp, xI_s, Option.bind_some]
    dsimp only
    have hnp : ¬ n ≤ p := by omega
    unfold tcd
    simp only [if_neg hnp]
    by_cases e1 : isL (bs p) = true
    · have hw := m_wordOf (E := E) (d := d) (A := A) (fl := fl) (ar := sar (sar ar 17 (upd (ar 17) i (nI p))) 16 (upd (ar 16) i 0)) (al := al) hA hn hbs (fun j hj => by rw [sar_n (by omega), sar_n (by omega)]; exact htb j hj) (fun j hj => by rw [sar_n (by omega), sar_n (by omega)]; exact hwd j hj) (Nat.le_of_lt hen.1) hen.2
      simp only [if_pos e1]
      rw [i_if, hw, xI_s, Option.bind_some]
      dsimp only
      rw [m_s57 hA (by omega), Option.bind_some, sar_n (show 15 ≠ 16 by omega), sar_n (show 15 ≠ 17 by omega)]
    · simp only [if_neg e1, if_true]
      rw [m_isDigit hbp, xI_s, Option.bind_some]
      dsimp only
      by_cases e2 : isD (bs p) = true
      · simp only [if_pos e2]
        rw [i_if, m_s57 hA (by omega), Option.bind_some, sar_n (show 15 ≠ 16 by omega), sar_n (show 15 ≠ 17 by omega)]; rfl
      · simp only [if_neg e2, if_true]
        rw [m_s57 hA (by omega), Option.bind_some, sb_and _ hbp, sar_n (show 15 ≠ 16 by omega), sar_n (show 15 ≠ 17 by omega)]
  rw [head]
  by_cases e2 : isD (bs p) = true
  · have e1 : ¬ isL (bs p) = true := by
      unfold isL isD at *; simp at e2 ⊢; omega
    have hek : en bs n p = skp isD bs (n - p) p := by unfold en; rw [if_neg (by omega), if_neg e1, if_pos e2]
    obtain ⟨ar', w, k1, k2, k3, k4, k5, k6⟩ := cu_v (E := E) (d := d) (fl := fl) (al := al) (t := en bs n p) hA hn hbs hbp e2 (by omega) h18 (n - p) p 0 0 (sar (sar (sar ar 17 (upd (ar 17) i (nI p))) 16 (upd (ar 16) i 0)) 15 (upd (ar 15) i (nI (tcd bs n p)))) (.int (nI p)) (fun j hj => by rw [sar_n (by omega), sar_n (by omega), sar_n (by omega)]; exact htb j hj) (by omega) hek (by rw [sar_n (by omega), sar_s]; exact upd_s) (by omega) (by omega)
    refine ⟨ar', _, _, _, k1, ⟨?_, ?_, w, k2, ?_, k4⟩, fun j hj => ⟨?_, ?_, ?_⟩, fun k h15 h16 h17 => ?_⟩
    · rw [k6 15 (by omega), sar_s, upd_s]; unfold tok; rw [hps]
    · rw [k6 17 (by omega), sar_n (by omega), sar_n (by omega), sar_s, upd_s, hps]
    · rw [k3]; unfold tok tvl; rw [hps, if_neg (by omega), if_pos e2]
    · rw [k6 15 (by omega), sar_s, upd_n hj]
    · rw [k5 j hj, sar_n (by omega), sar_s, upd_n hj]
    · rw [k6 17 (by omega), sar_n (by omega), sar_n (by omega), sar_s, upd_n hj]
    · rw [k6 k h16, sar_n h15, sar_n h16, sar_n h17]
  · refine ⟨sar (sar (sar ar 17 (upd (ar 17) i (nI p))) 16 (upd (ar 16) i 0)) 15 (upd (ar 15) i (nI (tcd bs n p))), .int (sb (bs p)), .int (nI (en bs n p)), .int (nI p), ?_, ⟨?_, ?_, 0, ?_, ?_, by omega⟩, fun j hj => ⟨?_, ?_, ?_⟩, fun k h15 h16 h17 => ?_⟩
    rotate_left
    · rw [sar_s, upd_s]; unfold tok; rw [hps]
    · rw [sar_n (by omega), sar_n (by omega), sar_s, upd_s, hps]
    · rw [sar_n (by omega), sar_s]; exact upd_s
    · unfold tok tvl; rw [hps, if_neg (by omega), if_neg e2]; rfl
    · rw [sar_s, upd_n hj]
    · rw [sar_n (by omega), sar_s, upd_n hj]
    · rw [sar_n (by omega), sar_n (by omega), sar_s, upd_n hj]
    · rw [sar_n h15, sar_n h16, sar_n h17]
    · rw [e196_169, if_neg (nI_ge hen.1 (by omega)), m_isDigit hbp, xI_s, Option.bind_some]
      dsimp only
      rw [if_neg e2, i_if0, m_g48_18 hA, Option.bind_some, h18, nI_1, m_p48_18 hA, Option.bind_some]
theorem cu_loop (hA : 69 ≤ A.length) (hn : n ≤ 400) (hbs : ∀ j, bs j < 256) : ∀ (c p i : Nat) (fl : Nat → Int32) (ar : Nat → Nat → Int32) (w3 w4 w5 : Value), tbR bs n ar → wdR ar → n ≤ p + c → p ≤ n → sk bs n p = ps bs n i → (∀ j, j < i → tkR bs n ar j ∧ ps bs n j < n) → fl 18 = nI i → ∃ fl' ar', xD E (d + 2) 196 7 [.ref 48, .int (nI n), .int (nI p), w3, w4, w5] [] (mw A fl ar al) = some (none, mw A fl' ar' al) ∧ fl' 18 = nI (tkN bs n) ∧ (∀ j, j ≠ 18 → fl' j = fl j) ∧ (∀ j, j ≤ tkN bs n → tkR bs n ar' j) ∧ (∀ k, k ≠ 15 → k ≠ 16 → k ≠ 17 → ar' k = ar k) := by
  have hN := tkN_le (bs := bs) (n := n)
  have endc : ∀ (i : Nat) (fl : Nat → Int32) (ar : Nat → Nat → Int32) (w3 w4 w5 : Value), sk bs n n = ps bs n i → (∀ j, j < i → tkR bs n ar j ∧ ps bs n j < n) → fl 18 = nI i → ∃ fl' ar', xD E (d + 2) 196 7 [.ref 48, .int (nI n), .int (nI n), w3, w4, w5] [] (mw A fl ar al) = some (none, mw A fl' ar' al) ∧ fl' 18 = nI (tkN bs n) ∧ (∀ j, j ≠ 18 → fl' j = fl j) ∧ (∀ j, j ≤ tkN bs n → tkR bs n ar' j) ∧ (∀ k, k ≠ 15 → k ≠ 16 → k ≠ 17 → ar' k = ar k) := by
    intro i fl ar w3 w4 w5 hsk hrec h18
    have hpi : ps bs n i = n := by
      have := sk_le (bs := bs) (n := n) (p := n) (Nat.le_refl _); omega
    have hiN : i = tkN bs n := by
      rcases Nat.lt_trichotomy i (tkN bs n) with h | h | h
      · have := tkN_lt h; omega
      · exact h
      · have := (hrec _ h).2
        rw [tkN_end] at this; omega
    refine ⟨fl, sar (sar (sar ar 17 (upd (ar 17) i (nI n))) 15 (upd (ar 15) i 0)) 16 (upd (ar 16) i 0), ?_, by rw [h18, hiN], fun _ _ => rfl, fun j hj => ?_, fun k h15 h16 h17 => by rw [sar_n h16, sar_n h15, sar_n h17]⟩
    · rw [e196_7, if_pos (nI_le (Nat.le_refl _) (by omega))]
      simp (disch := omega) only [m_r48_17, m_r48_16, m_r48_15, m_g48_18, h18, m_s59, m_s58, m_s57, Option.bind_some, sar_n]
    · by_cases e : j = i
      · subst e
        refine ⟨?_, ?_, 0, ?_, ?_, by omega⟩
        · rw [sar_n (by omega), sar_s, upd_s, tok_end (by omega)]; rfl
        · rw [sar_n (by omega), sar_n (by omega), sar_s, upd_s, hpi]
        · rw [sar_s]; exact upd_s
        · rw [tok_end (by omega)]; rfl
      · obtain ⟨⟨a1, a2, w, a3, a4, a5⟩, _⟩ := hrec j (by omega)
        refine ⟨?_, ?_, w, ?_, a4, a5⟩
        · rw [sar_n (by omega), sar_s, upd_n e]; exact a1
        · rw [sar_n (by omega), sar_n (by omega), sar_s, upd_n e]; exact a2
        · rw [sar_s, upd_n e]; exact a3
  intro c
  induction c with
  | zero =>
    intro p i fl ar w3 w4 w5 htb hwd hc hp hsk hrec h18
    rw [show p = n by omega] at hsk ⊢
    exact endc i fl ar w3 w4 w5 hsk hrec h18
  | succ c ih =>
    intro p i fl ar w3 w4 w5 htb hwd hc hp hsk hrec h18
    by_cases hpn : p = n
    · rw [hpn] at hsk ⊢
      exact endc i fl ar w3 w4 w5 hsk hrec h18
    · have hlt : p < n := by omega
      have hbp := hbs p
      obtain ⟨m, hm⟩ : ∃ m, n - p = m + 1 := ⟨n - p - 1, by omega⟩
      rw [e196_7, if_neg (nI_ge hlt (by omega)), m_r48_11 hA, Option.bind_some, m_a55 hA (by omega), Option.bind_some, htb p hlt]
      by_cases e : bs p = 32
      · rw [if_pos ((sb_32 _ hbp).mpr e), nI_1]
        refine ih (p + 1) i fl ar _ _ _ htb hwd (by omega) (by omega) ?_ hrec h18
        rw [← hsk]
        unfold sk
        rw [hm]
        unfold skp
        rw [if_pos (by simp [isB, e]), show n - (p + 1) = m by omega]
        cases m <;> rfl
      · have hps : ps bs n i = p := by
          rw [← hsk]; unfold sk; rw [hm]; unfold skp; rw [if_neg (by simp [isB, e])]
        have hiN : i < tkN bs n := by
          by_cases q : i < tkN bs n
          · exact q
          · have := ps_ge (bs := bs) (n := n) (i := i) (by omega); omega
        obtain ⟨ar', v3, v4, v5, k1, k2, k3, k4⟩ := cu_rec (E := E) (d := d) (fl := fl) (al := al) (w5 := xJ) hA hn hbs htb hwd hlt hps (by omega) h18
        have hen := en_lt (bs := bs) hlt
        have go : ∃ fl' ar'', xD E (d + 2) 196 100 [.ref 48, .int (nI n), .int (nI p), .int (sb (bs p)), .int (nI (en bs n p)), xJ] [] (mw A fl ar al) = some (none, mw A fl' ar'' al) ∧ fl' 18 = nI (tkN bs n) ∧ (∀ j, j ≠ 18 → fl' j = fl j) ∧ (∀ j, j ≤ tkN bs n → tkR bs n ar'' j) ∧ (∀ k, k ≠ 15 → k ≠ 16 → k ≠ 17 → ar'' k = ar k) := by
          obtain ⟨fl', ar'', q1, q2, q3, q4, q5⟩ := ih (en bs n p) (i + 1) (upd fl 18 (nI (i + 1))) ar' v3 v4 v5 (fun j hj => by rw [k4 11 (by omega) (by omega) (by omega)]; exact htb j hj) (fun j hj => by rw [k4 7 (by omega) (by omega) (by omega)]; exact hwd j hj) (by omega) hen.2 (by rw [← hps]; rfl) (fun j hj => by
            by_cases ej : j = i
            · subst ej; exact ⟨k2, by omega⟩
            · obtain ⟨⟨a1, a2, w, a3, a4, a5⟩, b⟩ := hrec j (by omega)
              obtain ⟨c1, c2, c3⟩ := k3 j ej
              exact ⟨⟨by rw [c1]; exact a1, by rw [c3]; exact a2, w, by rw [c2]; exact a3, a4, a5⟩, b⟩) upd_s
          refine ⟨fl', ar'', by rw [k1, q1], q2, fun j hj => by rw [q3 j hj, upd_n hj], q4, fun k a b c' => by rw [q5 k a b c', k4 k a b c']⟩
        rw [if_neg (fun q => e ((sb_32 _ hbp).mp q)), m_isSmall hbp, xI_s, Option.bind_some]
        dsimp only
        by_cases e1 : isL (bs p) = true
        · have e2 : isD (bs p) = false := by unfold isL isD at *; simp at e1 ⊢; omega
          have hek : en bs n p = skp isL bs (n - (p + 1)) (p + 1) := by
            unfold en; rw [if_neg (by omega), if_pos e1, hm]; unfold skp; rw [if_pos e1, show n - (p + 1) = m by omega]
            cases m <;> rfl
          rw [if_pos e1, i_if, nI_1, cu_l hA hn hbs htb hbp e2 (n - (p + 1)) (p + 1) xJ (by omega), ← hek]
          exact go
        · rw [if_neg e1, i_if0, m_isDigit hbp, xI_s, Option.bind_some]
          dsimp only
          by_cases e2 : isD (bs p) = true
          · have hek : en bs n p = skp isD bs (n - (p + 1)) (p + 1) := by
              unfold en; rw [if_neg (by omega), if_neg e1, if_pos e2, hm]; unfold skp; rw [if_pos e2, show n - (p + 1) = m by omega]
              cases m <;> rfl
            rw [if_pos e2, i_if, nI_1, cu_d hA hn hbs htb (n - (p + 1)) (p + 1) xJ (by omega), ← hek]
            exact go
          · have hek : en bs n p = p + 1 := by unfold en; rw [if_neg (by omega), if_neg e1, if_neg e2]
            rw [if_neg e2, i_if0, nI_1, ← hek]
            exact go
theorem m_cutsUp (hA : 69 ≤ A.length) (hn : n ≤ 400) (hbs : ∀ j, bs j < 256) (htb : tbR bs n ar) (hwd : wdR ar) : ∃ fl' ar', xC E (d + 2) 196 [.ref 48, .int (nI n)] (mw A fl ar al) = some (none, mw A fl' ar' al) ∧ fl' 18 = nI (tkN bs n) ∧ (∀ j, j ≠ 18 → fl' j = fl j) ∧ mkR bs n ar' ∧ (∀ k, k ≠ 15 → k ≠ 16 → k ≠ 17 → ar' k = ar k) := by
  obtain ⟨fl', ar', k1, k2, k3, k4, k5⟩ := cu_loop (E := E) (d := d) (al := al) hA hn hbs n 0 0 (upd fl 18 0) ar xJ xJ xJ htb hwd (by omega) (by omega) rfl (fun j hj => by omega) upd_s
  refine ⟨fl', ar', ?_, k2, fun j hj => by rw [k3 j hj, upd_n hj], k4, k5⟩
  rw [k196 _ _ _ _ _ (m_k48 hA), m_p48_18 hA, Option.bind_some]
  exact k1
/-- the reference reads what is on its tape -/
theorem m_readsAs (hA : 69 ≤ A.length) (hn : n ≤ 400) (hbs : ∀ j, bs j < 256) (htb : tbR bs n ar) (hwd : wdR ar) (h13 : fl 13 = nI n) : ∃ fl' ar', (∀ j, j ≠ 8 → j ≠ 9 → j ≠ 10 → j ≠ 13 → j ≠ 14 → j ≠ 18 → j ≠ 19 → j ≠ 20 → j ≠ 21 → fl' j = fl j) ∧ fl' 13 = 0 ∧ fl' 18 = nI (tkN bs n) ∧ mkR bs n ar' ∧ (∀ k, k ≠ 15 → k ≠ 16 → k ≠ 17 → ar' k = ar k) ∧ match pText (tok bs n) o (tkN bs n) with
    | .inl t => xC E (d + 37) 214 [.ref 48, .int (if o = true then 1 else 0)] (mw A fl ar al) = some (some (.int 0), mw A fl' ar' al) ∧ fl' 14 = nI (ps bs n t)
    | .inr _ => xC E (d + 37) 214 [.ref 48, .int (if o = true then 1 else 0)] (mw A fl ar al) = some (some (.int 1), mw A fl' ar' al) ∧ fl' 14 = -1 := by
  have hN := tkN_le (bs := bs) (n := n)
  have hx0 : x01 (if o = true then 1 else 0) = true := by cases o <;> decide
  generalize hf0 : upd (upd (upd fl 10 (if o = true then 1 else 0)) 8 (if o = true then nI 12 else nI 7)) 9 (if o = true then nI 19 else nI 13) = f0
  have f013 : f0 13 = nI n := by rw [← hf0, upd_n (by omega), upd_n (by omega), upd_n (by omega)]; exact h13
  have f0st : mst o f0 := by
    rw [← hf0]
    exact ⟨by rw [upd_n (by omega), upd_n (by omega)]; exact upd_s, by rw [upd_n (by omega)]; exact upd_s, upd_s⟩
  have f0j : ∀ j, j ≠ 8 → j ≠ 9 → j ≠ 10 → f0 j = fl j := fun j a b c => by rw [← hf0, upd_n b, upd_n a, upd_n c]
  obtain ⟨f1, a1, k1, k2, k3, k4, k5⟩ := m_cutsUp (E := E) (d := d + 33) (fl := f0) (al := al) hA hn hbs htb hwd
  generalize hf2 : upd (upd (upd (upd f1 13 0) 19 0) 20 0) 21 (-1) = f2
  have f2j : ∀ j, j ≠ 13 → j ≠ 19 → j ≠ 20 → j ≠ 21 → f2 j = f1 j := fun j a b c e => by rw [← hf2, upd_n e, upd_n c, upd_n b, upd_n a]
  have hR : mpR (0, 0, [], []) f2 := by
    rw [← hf2]
    exact ⟨by rw [upd_n (by omega), upd_n (by omega)]; exact upd_s, by rw [upd_n (by omega)]; exact upd_s, upd_s⟩
  have f213 : f2 13 = 0 := by rw [← hf2, upd_n (by omega), upd_n (by omega), upd_n (by omega)]; exact upd_s
  have f2st : mst o f2 := ⟨by rw [f2j 10 (by omega) (by omega) (by omega) (by omega), k3 10 (by omega)]; exact f0st.1, by rw [f2j 8 (by omega) (by omega) (by omega) (by omega), k3 8 (by omega)]; exact f0st.2.1, by rw [f2j 9 (by omega) (by omega) (by omega) (by omega), k3 9 (by omega)]; exact f0st.2.2⟩
  have f218 : f2 18 = nI (tkN bs n) := by rw [f2j 18 (by omega) (by omega) (by omega) (by omega)]; exact k2
  have hx : mok (tkN bs n) (0, 0, [], []) := ⟨Nat.zero_le _, Nat.zero_le _⟩
  have hg := gc_clause (bs := bs) (n := n) (o := o) (x := (0, 0, [], [])) (Nat.zero_le _)
  obtain ⟨f3, z1, z2, z3⟩ := (m_one (E := E) (d := d) (al := al) (x := (0, 0, [], [])) hA hn hbs k4 f2st).2 hx hR
  have rd : MW A a1 al bs n f2 (pText (tok bs n) o (tkN bs n)) (xC E (d + 36) 213 [.ref 48] (mw A f0 ar al)) := by
    rw [k213 _ _ _ _ (m_k48 hA), m_g48_13 hA, Option.bind_some, f013, k1, xV_s, Option.bind_some, m_p48_13 hA, Option.bind_some, m_p48_19 hA, Option.bind_some, m_p48_20 hA, Option.bind_some, m_p48_21 hA, Option.bind_some, hf2, z1, xV_s, Option.bind_some]
    refine MW.tr z2 ?_
    unfold pText
    cases hr : pClause (tok bs n) o (0, 0, [], []) with
    | inl t =>
      rw [hr] at z3
      exact m_rt0 hA hn z3.1
    | inr w =>
      obtain ⟨y, l⟩ := w
      rw [hr] at z3 hg
      exact m_rt_loop hA hn hbs k4 11 [l] y f3 rfl (by simp) (f2st.f3 z2) (by rw [z2 18 (by omega) (by omega) (by omega)]; exact f218) (hx.le hg.1) z3
  obtain ⟨f4, r1, r2⟩ := rd
  have head : xC E (d + 37) 214 [.ref 48, .int (if o = true then 1 else 0)] (mw A fl ar al) = (xI (xC E (d + 36) 213 [.ref 48] (mw A f0 ar al))).bind fun q3 => if x01 q3.1 = true then some (some (.int q3.1), q3.2) else none := by
    rw [k214 _ _ _ _ _ (m_k48 hA), if_pos hx0, m_p48_10 hA, Option.bind_some]
    cases o with
    | false =>
      simp only [Bool.false_eq_true, if_false, if_true] at hf0 ⊢
      rw [e214_17, m_p48_8 hA, Option.bind_some, if_pos rfl, m_p48_9 hA, Option.bind_some, ← hf0]; rfl
    | true =>
      simp only [if_true] at hf0 ⊢
      rw [i_if, e214_17, m_p48_8 hA, Option.bind_some, i_if, m_p48_9 hA, Option.bind_some, ← hf0]; rfl
  refine ⟨f4, a1, fun j a b c e f g h i k => ?_, ?_, ?_, k4, k5, ?_⟩
  · rw [r1 j f h i k, f2j j e h i k, k3 j g, f0j j a b c]
  · rw [r1 13 (by omega) (by omega) (by omega) (by omega)]; exact f213
  · rw [r1 18 (by omega) (by omega) (by omega) (by omega)]; exact f218
  · rw [head]
    cases hr : pText (tok bs n) o (tkN bs n) with
    | inl t =>
      rw [hr] at r2
      refine ⟨?_, r2.2⟩
      rw [r2.1, xI_s, Option.bind_some]; exact if_pos (show x01 0 = true by decide)
    | inr w =>
      rw [hr] at r2
      refine ⟨?_, r2.2⟩
      rw [r2.1, xI_s, Option.bind_some]; exact if_pos (show x01 1 = true by decide)
end MREADS
