/-! ===== the reference's store: power is lost, to the end ===== -/
/-- nothing but the store's cells has changed -/
def k2F (ar ar' : Nat → Nat → Int32) : Prop := (∀ j, j ≠ 2 → ar' j = ar j) ∧ ∀ i, 963 ≤ i → ar' 2 i = ar 2 i
theorem k2F.rf {ar : Nat → Nat → Int32} : k2F ar ar := ⟨fun _ _ => rfl, fun _ _ => rfl⟩
theorem k2F.tr {a b c : Nat → Nat → Int32} (h : k2F a b) (g : k2F b c) : k2F a c := ⟨fun j q => (g.1 j q).trans (h.1 j q), fun i q => (g.2 i q).trans (h.2 i q)⟩
theorem k2F.st {ar : Nat → Nat → Int32} {g : Nat → Int32} (h : ∀ i, 963 ≤ i → g i = ar 2 i) : k2F ar (sar ar 2 g) := ⟨fun j q => sar_n q, fun i q => by rw [sar_s]; exact h i q⟩
theorem k2F.k {ar ar' : Nat → Nat → Int32} (h : k2F ar ar') : kF ar ar' := ⟨fun j q _ _ => h.1 j q, h.2⟩
def blN (t : Nat) (G D B : Bk) (i : Nat) : Bk := fun b => if b < i then gbp t G D b else B b
theorem blN_ub {t i : Nat} {G D B : Bk} : ub (blN t G D B i) i (gbp t G D i) = blN t G D B (i + 1) := by
  funext b
  unfold blN ub
  by_cases e : b = i
  · subst e; rw [if_pos rfl, if_pos (by omega)]
  · rw [if_neg e]
    dsimp only
    by_cases e2 : b < i
    · rw [if_pos e2, if_pos (by omega)]
    · rw [if_neg e2, if_neg (by omega)]
section MPOW
variable {E : Nat × (Nat → Int32)} {d : Nat} {A : xH} {al : Nat → Nat → Int64} {R : Ru} {fl : Nat → Int32}
theorem m_elds (hA : 69 ≤ A.length) {S : St} {ar : Nat → Nat → Int32} (h : MS (ar 2) S) (hl : S.2.2.1 ≠ []) : ∃ g, xC E (d + 2) 236 [.ref 48] (mw A fl ar al) = some (none, mw A fl (sar ar 2 g) al) ∧ MS g (eld S) ∧ ∀ i, 963 ≤ i → g i = ar 2 i := by
  cases hW : S.2.2.1 with
  | nil => exact absurd hW hl
  | cons q W => exact m_doesEldest hA h hW
theorem m_ls2 (hA : 69 ≤ A.length) {n : Nat} (hn : n < 100) : ∀ (c i : Nat) (S : St) (ar : Nat → Nat → Int32) (w3 : Value), i + c = n → c ≤ S.2.2.1.length → MS (ar 2) S → ∃ ar', xD E (d + 3) 251 2 [.ref 48, .int (nI n), .int (nI i), w3] [] (mw A fl ar al) = xD E (d + 3) 251 21 [.ref 48, .int (nI n), .int (nI 0), .int (nI 0)] [] (mw A fl ar' al) ∧ MS (ar' 2) (eldN c S) ∧ k2F ar ar'
  | 0, i, S, ar, w3, hi, hc, h => by
    refine ⟨ar, ?_, h, k2F.rf⟩
    rw [e251_2, if_pos (nI_le (by omega) (by omega))]; rfl
  | c + 1, i, S, ar, w3, hi, hc, h => by
    obtain ⟨g, g1, g2, g3⟩ := m_elds (E := E) (d := d) (fl := fl) (al := al) hA h (fun z => by rw [z] at hc; simp at hc)
    have hlen := eld_len (S := S)
    obtain ⟨ar', i1, i2, i3⟩ := m_ls2 hA hn c (i + 1) (eld S) (sar ar 2 g) xJ (by omega) (by omega) (by rw [sar_s]; exact g2)
    refine ⟨ar', ?_, i2, (k2F.st g3).tr i3⟩
    rw [e251_2, if_neg (nI_ge (by omega) (by omega)), g1, xV_s, Option.bind_some, nI_1]
    exact i1
theorem m_ls21 (hA : 69 ≤ A.length) {S : St} {ar : Nat → Nat → Int32} (h : MS (ar 2) S) (hW : ∀ q, pgW (S.2.1 q)) : ∀ (c i : Nat) (w1 : Value), i + c = 24 → xD E (d + 3) 251 21 [.ref 48, w1, .int (nI (gst (fun b => pdp (S.2.1 b)) i)), .int (nI i)] [] (mw A fl ar al) = xD E (d + 3) 251 72 [.ref 48, xJ, .int (nI (deepN S.2.1)), .int (nI 0)] [] (mw A fl ar al)
  | 0, i, w1, hi => by
    rw [e251_21, if_pos (by rw [zl]; exact nI_le (by omega) (by omega)), show i = 24 by omega]; rfl
  | c + 1, i, w1, hi => by
    have hlt : i < 24 := by omega
    have hg := gst_le (h := fun b => pdp (S.2.1 b)) (m := 6) (fun q => (hW q).2.2.1) i
    have hi6 := (hW i).2.2.1
    have ih := m_ls21 hA h hW c (i + 1) xJ (by omega)
    simp only [gst] at ih
    rw [e251_21, if_neg (by rw [zl]; exact nI_ge (by omega) (by omega))]
    simp (disch := first | omega | exact m_k48 hA) only [Option.bind_some, xI_s, xV_s, m_r48_1 hA, m_r48_2 hA, m_r48_5 hA, m_a50 hA, m_s50 hA, m_l50 hA, k169, zl, pk_mul, nI_add, Nat.add_zero, sar_s, sar_sar, h.us2 hlt]
    cases hB : S.2.1 i with
    | none =>
      rw [hB] at ih
      rw [show max (gst (fun b => pdp (S.2.1 b)) i) (pdp none) = gst (fun b => pdp (S.2.1 b)) i from Nat.max_eq_left (Nat.zero_le _)] at ih
      rw [if_neg (show ¬ nI (pus none) = nI 1 by show ¬ nI 0 = nI 1; decide)]
      exact ih
    | some q =>
      have hu : S.2.1 i ≠ none := by rw [hB]; simp
      rw [if_pos (show nI (pus (some q)) = nI 1 by rfl)]
      simp (disch := first | omega | exact m_k48 hA) only [Option.bind_some, xI_s, xV_s, m_r48_1 hA, m_r48_2 hA, m_r48_5 hA, m_a50 hA, m_s50 hA, m_l50 hA, k169, zl, pk_mul, nI_add, Nat.add_zero, sar_s, sar_sar, h.dp3 hlt hu, m_greater]
      exact ih
theorem m_ls72 (hA : 69 ≤ A.length) {S : St} {n : Nat} (hn : n ≤ 6) (hW : ∀ q, pgW (S.2.1 q)) : ∀ (c i : Nat) (w1 : Value) (ar : Nat → Nat → Int32), i + c = 2 ^ n → MS (ar 2) S → (∀ j, j < i → ar 29 j = oI (dow S.2.1 j)) → ∃ ar', xD E (d + 3) 251 72 [.ref 48, w1, .int (nI n), .int (nI i)] [] (mw A fl ar al) = xD E (d + 3) 251 98 [.ref 48, xJ, .int (nI n), .int (nI 0)] [] (mw A fl ar' al) ∧ (∀ j, j < 2 ^ n → ar' 29 j = oI (dow S.2.1 j)) ∧ ∀ j, j ≠ 29 → ar' j = ar j
  | 0, i, w1, ar, hi, h, hp => by
    have hp6 := pow6 hn
    refine ⟨ar, ?_, fun j hj => hp j (by omega), fun _ _ => rfl⟩
    rw [e251_72, n_shl _ (by omega), if_pos (nI_le (by omega) (by omega))]; rfl
  | c + 1, i, w1, ar, hi, h, hp => by
    have hp6 := pow6 hn
    have hdp := m_deepestPage (E := E) (d := d) (fl := fl) (al := al) hA h hW (x := i) (by omega)
    obtain ⟨ar', i1, i2, i3⟩ := m_ls72 hA hn hW c (i + 1) xJ (sar ar 29 (upd (ar 29) i (oI (dow S.2.1 i)))) (by omega) (by rw [sar_n (by omega)]; exact h) (fun j hj => by
      rw [sar_s]
      by_cases e : j = i
      · subst e; exact upd_s
      · rw [upd_n e]; exact hp j (by omega))
    refine ⟨ar', ?_, i2, fun j hj => (i3 j hj).trans (sar_n hj)⟩
    rw [e251_72, n_shl _ (by omega), if_neg (nI_ge (by omega) (by omega)), m_r48_29 hA, Option.bind_some, hdp, xI_s, Option.bind_some]
    dsimp only
    rw [m_s61 hA (by omega), Option.bind_some, nI_1]
    exact i1
theorem m_ls98 (hA : 69 ≤ A.length) {t : Nat} (ht : t < 1000) {G D B : Bk} {X : List Wr × Nat × Nat} (hG : gdk G D) : ∀ (c i : Nat) (w1 : Value) (ar : Nat → Nat → Int32), i + c = 24 → MS (ar 2) (blN t G D B i, D, X) → ar 2 977 = nI t → (∀ j, j < 2 ^ deepN D → ar 29 j = oI (dow D j)) → ∃ ar', xD E (d + 4) 251 98 [.ref 48, w1, .int (nI (deepN D)), .int (nI i)] [] (mw A fl ar al) = xD E (d + 4) 251 118 [.ref 48, xJ, .int (nI (deepN D)), .int (nI 0)] [] (mw A fl ar' al) ∧ MS (ar' 2) (blN t G D B 24, D, X) ∧ k2F ar ar'
  | 0, i, w1, ar, hi, h, hs, hp => by
    rw [show i = 24 by omega] at h ⊢
    refine ⟨ar, ?_, h, k2F.rf⟩
    rw [e251_98, if_pos (show (24 : Int32) ≤ nI 24 by decide)]; rfl
  | c + 1, i, w1, ar, hi, h, hs, hp => by
    obtain ⟨ar1, b1, b2, b3, b4⟩ := m_builds (E := E) (d := d) (fl := fl) (al := al) (b := i) hA (by omega) hG h hs ht hp
    rw [blN_ub] at b2
    obtain ⟨ar', i1, i2, i3⟩ := m_ls98 hA ht hG c (i + 1) xJ ar1 (by omega) b2 (by rw [b4 _ (by omega)]; exact hs) (fun j hj => by rw [b3 29 (by omega)]; exact hp j hj)
    refine ⟨ar', ?_, i2, k2F.tr ⟨b3, b4⟩ i3⟩
    rw [e251_98, if_neg (by rw [zl]; exact nI_ge (by omega) (by omega)), b1, xV_s, Option.bind_some, nI_1]
    exact i1
theorem m_ls118 (hA : 69 ≤ A.length) {ar : Nat → Nat → Int32} {F D : Bk} {W : List Wr} {dp tm : Nat} (h : MS (ar 2) (F, D, W, dp, tm)) (hF : ∀ q, pdp (F q) ≤ 6) : ∀ (c i : Nat) (w1 w2 : Value), i + c = 240 → ∃ ar', xD E (d + 4) 251 118 [.ref 48, w1, w2, .int (nI i)] [] (mw A fl (sar ar 2 (cpx (ar 2) (ar 2) 0 240 i)) al) = some (none, mw A fl ar' al) ∧ MS (ar' 2) (F, F, [], deepN F, tm) ∧ k2F ar ar'
  | 0, i, w1, w2, hi => by
    rw [show i = 240 by omega]
    obtain ⟨h1, h2, ⟨h3, h4⟩, h5, h6, h7⟩ := h
    have hlo : ∀ j, j < 240 → upd (cpx (ar 2) (ar 2) 0 240 240) 960 (nI 0) j = ar 2 j := fun j hj => by rw [upd_n (by omega), cpx_out (by omega)]
    have M1 : MS (upd (cpx (ar 2) (ar 2) 0 240 240) 960 (nI 0)) (F, F, [], dp, tm) := by
      refine ⟨fun b hb => pgR_cong (h1 b hb) (fun j j1 j2 => hlo j (by omega)), fun b hb => ?_, ⟨Nat.zero_le _, fun i q hq => by simp at hq⟩, upd_s, ?_, ?_⟩
      · refine pgR_mv (h1 b hb) (fun j hj => ?_)
        rw [upd_n (by omega), show 240 + 10 * b + j = 240 + (10 * b + j) by omega, cpx_in (by omega), Nat.zero_add]
      · rw [upd_n (by omega), cpx_out (by omega)]; exact h6
      · rw [upd_n (by omega), cpx_out (by omega)]; exact h7
    have hde := m_deepestOf (E := E) (d := d) (fl := fl) (al := al) (ar := sar ar 2 (upd (cpx (ar 2) (ar 2) 0 240 240) 960 (nI 0))) hA (by rw [sar_s]; exact M1) hF
    refine ⟨sar ar 2 (upd (upd (cpx (ar 2) (ar 2) 0 240 240) 960 (nI 0)) 961 (nI (deepN F))), ?_, ?_, k2F.st (fun i hi => by rw [upd_n (by omega), upd_n (by omega), cpx_out (by omega)])⟩
    · rw [e251_118, if_pos (by decide)]
      simp (disch := first | omega | exact m_k48 hA) only [Option.bind_some, xI_s, xV_s, m_r48_1 hA, m_r48_2 hA, m_r48_5 hA, m_a50 hA, m_s50 hA, m_l50 hA, k169, zl, pk_mul, nI_add, Nat.add_zero, sar_s, sar_sar, hde]
    · rw [sar_s]; exact M1.setD _
  | c + 1, i, w1, w2, hi => by
    have hst := cpx_step (ar 2) (ar 2) 0 240 i
    rw [Nat.zero_add] at hst
    have hr : cpx (ar 2) (ar 2) 0 240 i i = ar 2 i := cpx_out (by omega)
    obtain ⟨ar', i1, i2, i3⟩ := m_ls118 hA h hF c (i + 1) xJ xJ (by omega)
    refine ⟨ar', ?_, i2, i3⟩
    rw [e251_118, if_neg (by rw [zl]; exact nI_ge (by omega) (by omega))]
    simp (disch := first | omega | exact m_k48 hA) only [Option.bind_some, xI_s, xV_s, m_r48_1 hA, m_r48_2 hA, m_r48_5 hA, m_a50 hA, m_s50 hA, m_l50 hA, k169, zl, pk_mul, nI_add, Nat.add_zero, sar_s, sar_sar, hr, hst]
    exact i1
theorem m_loses (hA : 69 ≤ A.length) {S : St} {ar : Nat → Nat → Int32} {t t' n : Nat} (ht : t < 1000) (hs : ar 2 977 = nI t) (h : MS (ar 2) S) (hS : SI t' S) (hn : n ≤ S.2.2.1.length) : ∃ ar', xC E (d + 5) 251 [.ref 48, .int (nI n)] (mw A fl ar al) = some (none, mw A fl ar' al) ∧ MS (ar' 2) (lsS t n S) ∧ kF ar ar' := by
  obtain ⟨G, hG⟩ := SI_gd n hS
  have hS1 := SI_eldN n hS
  have hwl := h.wl
  obtain ⟨ar1, a1, a2, a3⟩ := m_ls2 (E := E) (d := d + 2) (fl := fl) (al := al) hA (n := n) (by omega) n 0 S ar xJ (by omega) hn h
  generalize hX : eldN n S = S1 at *
  have hW : ∀ q, pgW (S1.2.1 q) := fun q => (hG.2.2.1 q).1
  have hd6 := gdk_6 hG
  have b1 := m_ls21 (E := E) (d := d + 2) (fl := fl) (al := al) hA a2 hW 24 0 (.int (nI n)) rfl
  obtain ⟨ar2, c1, c2, c3⟩ := m_ls72 (E := E) (d := d + 2) (fl := fl) (al := al) hA hd6 hW (2 ^ deepN S1.2.1) 0 xJ ar1 (by omega) a2 (fun j hj => by omega)
  have hB0 : blN t G S1.2.1 S1.1 0 = S1.1 := funext fun b => if_neg (by omega)
  obtain ⟨ar3, e1, e2, e3⟩ := m_ls98 (E := E) (d := d + 1) (fl := fl) (al := al) hA ht (B := S1.1) (X := S1.2.2) hG 24 0 xJ ar2 rfl (by rw [hB0, c3 2 (by omega)]; exact a2) (by rw [c3 2 (by omega), a3.2 _ (by omega)]; exact hs) c2
  have hF : blN t G S1.2.1 S1.1 24 = rebB t S1.2.1 := by
    rw [rebB_gd hG]
    funext b
    unfold blN
    by_cases q : b < 24
    · rw [if_pos q]
    · rw [if_neg q]
      unfold gbp
      rw [(gdk_none hG).mpr (hG.2.2.2.1 b (by omega)), hS1.1.2.2.2.1 b (by omega)]; rfl
  rw [hF] at e2
  obtain ⟨ar4, f1, f2, f3⟩ := m_ls118 (E := E) (d := d + 1) (fl := fl) (al := al) (ar := ar3) (F := rebB t S1.2.1) (D := S1.2.1) (W := S1.2.2.1) (dp := S1.2.2.2.1) (tm := S1.2.2.2.2) hA e2 (fun q => ((rebB_okk hG).2 q).2.2.1) 240 0 xJ (.int (nI (deepN S1.2.1))) rfl
  rw [cpx_0, sar_self] at f1
  have k12 : kF ar1 ar2 := ⟨fun j q1 q2 q3 => c3 j q3, fun i _ => by rw [c3 2 (by omega)]⟩
  refine ⟨ar4, ?_, ?_, ((a3.k.tr k12).tr e3.k).tr f3.k⟩
  · rw [k251 _ _ _ _ _ (m_k48 hA)]
    refine Eq.trans a1 (Eq.trans b1 (Eq.trans c1 (Eq.trans e1 ?_)))
    exact f1
  · unfold lsS
    rw [hX]; exact f2
end MPOW
