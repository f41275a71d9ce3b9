/-! ===== the reference's store: a key is dropped ===== -/
theorem n_shlN (k : Nat) (h : k < 31) : nI 1 <<< (nI k &&& nI 31) = nI (2 ^ k) := n_shl k h
def twB (B : Bk) (b o : Nat) : Bool := (B o).isSome && (pdp (B o) == pdp (B b)) && ((ppx (B o) ^^^ ppx (B b)) == 2 ^ (pdp (B b) - 1))
theorem fst1_no {P : Nat → Bool} : ∀ (n i : Nat), (∀ c, i ≤ c → c < i + n → P c = false) → fst1 P n i = none
  | 0, i, _ => rfl
  | n + 1, i, h => by
    unfold fst1
    rw [if_neg (by rw [h i (Nat.le_refl _) (by omega)]; decide)]
    exact fst1_no n (i + 1) (fun c c1 c2 => h c (by omega) (by omega))
theorem twB_own {B : Bk} {b o : Nat} (h : okk B) (ho : o < 24) (hb : twB B b o = true) (hm : pdp (B b) ≠ 0) : o = own B (ppx (B b) ^^^ 2 ^ (pdp (B b) - 1)) ∧ pdp (B o) = pdp (B b) := by
  unfold twB at hb
  simp only [Bool.and_eq_true, beq_iff_eq] at hb
  obtain ⟨⟨h1, h2⟩, h3⟩ := hb
  have hu : B o ≠ none := fun z => by rw [z] at h1; simp at h1
  obtain ⟨-, -, w3, w4⟩ := h.2 o
  have hX : ppx (B b) ^^^ 2 ^ (pdp (B b) - 1) = ppx (B o) := by
    rw [← h3, Nat.xor_comm (ppx (B o)), ← Nat.xor_assoc, Nat.xor_self, Nat.zero_xor]
  have h64 := okk_px h o
  rw [hX]
  refine ⟨(h.1.own (show ppx (B o) < 64 by omega)).2 o ho ((clm_iff hu).mpr (Nat.mod_eq_of_lt w4)), h2⟩
theorem twB_fst {B : Bk} {b : Nat} (h : okk B) (hm : pdp (B b) ≠ 0) : fst1 (twB B b) 24 0 = twn B b := by
  obtain ⟨-, -, w3, w4⟩ := h.2 b
  unfold twn
  rw [if_neg hm]
  by_cases e : pdp (B (own B (ppx (B b) ^^^ 2 ^ (pdp (B b) - 1)))) = pdp (B b)
  · rw [if_pos e]
    have hlt := own_lt B (ppx (B b) ^^^ 2 ^ (pdp (B b) - 1))
    have hxlt : ppx (B b) ^^^ 2 ^ (pdp (B b) - 1) < 2 ^ pdp (B b) := Nat.xor_lt_two_pow w4 (Nat.pow_lt_pow_right (by omega) (by omega))
    have h64 := pow6 w3
    obtain ⟨o1, o2⟩ := h.1.own (show ppx (B b) ^^^ 2 ^ (pdp (B b) - 1) < 64 by omega)
    obtain ⟨o3, o4⟩ := clm_some o1
    rw [e, Nat.mod_eq_of_lt hxlt] at o4
    refine fst1_un ?_ 24 0 (by omega) (by omega) (fun c _ c2 c3 => (twB_own h (by omega) c3 hm).1)
    unfold twB
    simp only [Bool.and_eq_true, beq_iff_eq]
    refine ⟨⟨Option.isSome_iff_ne_none.mpr o3, e⟩, ?_⟩
    rw [← o4, Nat.xor_comm, ← Nat.xor_assoc, Nat.xor_self, Nat.zero_xor]
  · rw [if_neg e]
    refine fst1_no 24 0 (fun c _ c2 => ?_)
    cases hc : twB B b c with
    | false => rfl
    | true =>
      obtain ⟨q1, q2⟩ := twB_own h (by omega) hc hm
      rw [← q1] at e
      exact absurd q2 e
section MDROP
variable {E : Nat × (Nat → Int32)} {d : Nat} {A : xH} {al : Nat → Nat → Int64} {R : Ru} {S : St} {b : Nat}
theorem m_tw_loop {fl : Nat → Int32} {ar : Nat → Nat → Int32} (hA : 69 ≤ A.length) (h : MS (ar 2) S) (hok : okk S.1) (hb : b < 24) (hu : S.1 b ≠ none) {m : Nat} (hm : pdp (S.1 b) = m + 1) : ∀ c i, i + c = 24 → xD E (d + 3) 244 13 [.ref 48, .int (nI b), .int (nI (m + 1)), .int (nI i)] [] (mw A fl ar al) = some (some (.int (oI (fst1 (twB S.1 b) c i))), mw A fl ar al)
  | 0, i, hc => by
    rw [e244_13, if_pos (by rw [zl]; exact nI_le (by omega) (by omega))]; rfl
  | c + 1, i, hc => by
    have hi : i < 24 := by omega
    have hb6 := (hok.2 b).2.2.1
    have hi6 := (hok.2 i).2.2.1
    have hbp := okk_px hok b
    have hip := okk_px hok i
    have ih := m_tw_loop (fl := fl) hA h hok hb hu hm c (i + 1) (by omega)
    rw [e244_13, if_neg (by rw [zl]; exact nI_ge (by omega) (by omega)), if_neg (by show ¬ nI (m + 1) ≤ nI 0; exact nI_ge (by omega) (by omega)), m_isUsed hA h hi, xI_s, Option.bind_some]
    dsimp only
    unfold fst1
    cases hB : S.1 i with
    | none =>
      rw [if_pos (by rfl), nI_1, ih, if_neg (by unfold twB; rw [hB]; simp)]
    | some q =>
      have hui : S.1 i ≠ none := by rw [hB]; simp
      have hdp := h.dp hi hui
      rw [if_neg (show ¬ nI (pus (some q)) = 0 by show ¬ nI 1 = 0; decide)]
      simp (disch := first | omega | exact m_k48 hA) only [Option.bind_some, xI_s, xV_s, m_r48_1 hA, m_r48_2 hA, m_r48_5 hA, m_a50 hA, m_s50 hA, m_l50 hA, k169, zl, pk_mul, nI_add, Nat.add_zero, sar_s, sar_sar, hdp]
      by_cases e1 : pdp (S.1 i) = m + 1
      · rw [if_pos (by rw [e1])]
        have hsh : nI 1 <<< (nI m &&& nI 31) = nI (2 ^ m) := n_shlN m (by omega)
        have hx := Nat.xor_lt_two_pow (n := 6) hip hbp
        have hp6 := pow6 (n := m) (by omega)
        have hsub : nI (m + 1) - nI 1 = nI m := by rw [pk_sub (by omega), Nat.add_sub_cancel]
        simp (disch := first | omega | exact m_k48 hA) only [Option.bind_some, xI_s, xV_s, m_r48_1 hA, m_r48_2 hA, m_r48_5 hA, m_a50 hA, m_s50 hA, m_l50 hA, k169, zl, pk_mul, nI_add, Nat.add_zero, sar_s, sar_sar, h.px hi hui, h.px hb hu, n_xr, hsub, hsh]
        by_cases e2 : ppx (S.1 i) ^^^ ppx (S.1 b) = 2 ^ m
        · rw [if_pos (by rw [e2]), if_pos (by unfold twB; rw [hB] at e1 e2 ⊢; simp only [hm, Bool.and_eq_true, beq_iff_eq, Nat.add_sub_cancel]; exact ⟨⟨rfl, e1⟩, e2⟩)]; rfl
        · rw [if_neg (fun z => e2 ((nI_eq (by omega) (by omega)).mp z)), ih, if_neg (by unfold twB; simp only [hm, Bool.and_eq_true, beq_iff_eq, Nat.add_sub_cancel]; exact fun z => e2 z.2)]
      · rw [if_neg (fun z => e1 ((nI_eq (by omega) (by omega)).mp z)), ih, if_neg (by unfold twB; simp only [hm, Bool.and_eq_true, beq_iff_eq]; exact fun z => e1 z.1.2)]
theorem m_twinOf {fl : Nat → Int32} {ar : Nat → Nat → Int32} (hA : 69 ≤ A.length) (h : MS (ar 2) S) (hok : okk S.1) (hb : b < 24) (hu : S.1 b ≠ none) : xC E (d + 3) 244 [.ref 48, .int (nI b)] (mw A fl ar al) = some (some (.int (oI (twn S.1 b))), mw A fl ar al) := by
  have hdp := h.dp hb hu
  have hb6 := (hok.2 b).2.2.1
  rw [k244 _ _ _ _ _ (m_k48 hA)]
  simp (disch := first | omega | exact m_k48 hA) only [Option.bind_some, xI_s, xV_s, m_r48_1 hA, m_r48_2 hA, m_r48_5 hA, m_a50 hA, m_s50 hA, m_l50 hA, k169, zl, pk_mul, nI_add, Nat.add_zero, sar_s, sar_sar, hdp]
  by_cases e : pdp (S.1 b) = 0
  · rw [e244_13, e, if_neg (show ¬ (24 : Int32) ≤ nI 0 by decide), if_pos (show nI 0 ≤ 0 by decide)]
    unfold twn
    rw [if_pos e]; rfl
  · obtain ⟨m, hm⟩ : ∃ m, pdp (S.1 b) = m + 1 := ⟨pdp (S.1 b) - 1, by omega⟩
    rw [← twB_fst hok e, hm]
    exact m_tw_loop hA h hok hb hu hm 24 0 rfl
theorem m_canJoin {fl : Nat → Int32} {ar : Nat → Nat → Int32} (hA : 69 ≤ A.length) (h : MS (ar 2) S) (hok : okk S.1) (hb : b < 24) (hu : S.1 b ≠ none) : xC E (d + 4) 245 [.ref 48, .int (nI b)] (mw A fl ar al) = some (some (.int (nI (match twn S.1 b with
    | none => 0
    | some w => if (ents (S.1 b)).length + (ents (S.1 w)).length ≤ 3 then 1 else 0))), mw A fl ar al) := by
  rw [k245 _ _ _ _ _ (m_k48 hA), m_twinOf hA h hok hb hu, xI_s, Option.bind_some]
  dsimp only
  have hl := h.ln hb
  cases hw : twn S.1 b with
  | none => rw [oI_n, if_pos rfl]; rfl
  | some w =>
    obtain ⟨t1, t2, -⟩ := twn_spec hok hw
    have hl2 := h.ln t1
    rw [oI_s, if_neg (n_m1ne (by omega))]
    simp (disch := first | omega | exact m_k48 hA) only [Option.bind_some, xI_s, xV_s, m_r48_1 hA, m_r48_2 hA, m_r48_5 hA, m_a50 hA, m_s50 hA, m_l50 hA, k169, zl, pk_mul, nI_add, Nat.add_zero, sar_s, sar_sar, h.mn hb, h.mn t1]
    by_cases e : (ents (S.1 b)).length + (ents (S.1 w)).length ≤ 3
    · rw [if_neg (nI_nlt e (by omega)), if_pos e]
    · rw [if_pos (nI_lt (by omega) (by omega)), if_neg e]
theorem pgR_none {f : Nat → Int32} {o : Nat} (h0 : f o = nI 0) (h3 : f (o + 3) = nI 0) : pgR f o none := ⟨by simp [ents], h0, h3, fun i k v hi => by simp [ents] at hi, fun z => absurd rfl z⟩
theorem m_jn_loop (hA : 69 ≤ A.length) {fl : Nat → Int32} {lo up m px : Nat} {l0 : List (Nat × Nat)} {X : Bk × List Wr × Nat × Nat} (hlo : lo < 24) (hup : up < 24) (hne : up ≠ lo) {B : Bk} (hl : l0.length + (ents (B up)).length ≤ 3) : ∀ (rest pre : List (Nat × Nat)) (ar : Nat → Nat → Int32) (w1 w2 w3 : Value), MS (ar 2) (ub B lo (some (m, px, l0 ++ pre)), X) → ents (B up) = pre ++ rest → ∃ ar', xD E (d + 3) 246 75 [.ref 48, w1, w2, w3, .int (nI lo), .int (nI up), .int (nI pre.length)] [] (mw A fl ar al) = xD E (d + 3) 246 75 [.ref 48, xJ, xJ, xJ, .int (nI lo), .int (nI up), .int (nI (ents (B up)).length)] [] (mw A fl ar' al) ∧ MS (ar' 2) (ub B lo (some (m, px, l0 ++ ents (B up))), X) ∧ MF fl ar fl ar'
  | [], pre, ar, w1, w2, w3, h, he => by
    rw [List.append_nil] at he
    exact ⟨ar, by rw [he]; exact (e246_75 ..).trans (e246_75 ..).symm, by rw [he]; exact h, MF.rf⟩
  | e :: rest, pre, ar, w1, w2, w3, h, he => by
    have hl2 : (ents (B up)).length = pre.length + (rest.length + 1) := by rw [he, List.length_append]; rfl
    have hmn := h.mn hup
    rw [show ((ub B lo (some (m, px, l0 ++ pre)), X) : St).1 up = B up from ub_ne hne] at hmn
    have hi : (ents (((ub B lo (some (m, px, l0 ++ pre)), X) : St).1 up))[pre.length]? = some (e.1, e.2) := by
      rw [show ((ub B lo (some (m, px, l0 ++ pre)), X) : St).1 up = B up from ub_ne hne, he, List.getElem?_append_right (Nat.le_refl _), Nat.sub_self]; rfl
    have hky := h.ky hup hi
    have hvl := h.vl hup hi
    obtain ⟨g, c1, c2, c3⟩ := m_comesInto (E := E) (d := d) (fl := fl) (al := al) (k := e.1) (v := e.2) hA h hlo (ub_self _ _ _) (by rw [List.length_append]; omega)
    have hub : ub (ub B lo (some (m, px, l0 ++ pre))) lo (some (m, px, l0 ++ pre ++ [(e.1, e.2)])) = ub B lo (some (m, px, l0 ++ (pre ++ [e]))) := by
      funext c
      unfold ub
      by_cases z : c = lo
      · rw [if_pos z, if_pos z, List.append_assoc]
      · rw [if_neg z, if_neg z, if_neg z]
    have c2' : MS ((sar ar 2 g) 2) (ub B lo (some (m, px, l0 ++ (pre ++ [e]))), X) := by rw [sar_s, ← hub]; exact c2
    obtain ⟨ar', i1, i2, i3⟩ := m_jn_loop hA hlo hup hne hl rest (pre ++ [e]) (sar ar 2 g) xJ xJ xJ c2' (by rw [he, List.append_assoc]; rfl)
    rw [List.length_append] at i1
    refine ⟨ar', ?_, i2, MF.tr (MF.k2 c3) i3⟩
    rw [e246_75]
    simp (disch := first | omega | exact m_k48 hA) only [Option.bind_some, xI_s, xV_s, m_r48_1 hA, m_r48_2 hA, m_r48_5 hA, m_a50 hA, m_s50 hA, m_l50 hA, k169, zl, pk_mul, nI_add, Nat.add_zero, sar_s, sar_sar, hmn]
    rw [if_neg (nI_ge (by omega) (by omega))]
    simp (disch := first | omega | exact m_k48 hA) only [Option.bind_some, xI_s, xV_s, m_r48_1 hA, m_r48_2 hA, m_r48_5 hA, m_a50 hA, m_s50 hA, m_l50 hA, k169, zl, pk_mul, nI_add, Nat.add_zero, sar_s, sar_sar, hky, hvl, c1]
    exact i1
theorem m_joins {fl : Nat → Int32} {ar : Nat → Nat → Int32} (hA : 69 ≤ A.length) (h : MS (ar 2) S) (hR : MRR (ar 2) R) (hok : okk S.1) (ht : S.2.2.2.2 ≤ 999) (hb : b < 24) (hu : S.1 b ≠ none) {w lo up : Nat} (hw : twn S.1 b = some w) (hlu : (ppx (S.1 w) ≤ ppx (S.1 b) ∧ lo = w ∧ up = b) ∨ (ppx (S.1 b) < ppx (S.1 w) ∧ lo = b ∧ up = w)) (hl : (ents (S.1 b)).length + (ents (S.1 w)).length ≤ 3) : ∃ fl' ar', xC E (d + 49) 246 [.ref 48, .int (nI b)] (mw A fl ar al) = some (some (.int (nI lo)), mw A fl' ar' al) ∧ MS (ar' 2) (wrt R (wrt R (jn S.1 lo up, S.2) lo) up) ∧ MF fl ar fl' ar' := by
  obtain ⟨t1, t2, m, t3, t4, t5, t6⟩ := twn_spec hok hw
  have hpm := Nat.two_pow_pos m
  have hbp := okk_px hok b
  have hwp := okk_px hok w
  have hside : lo < 24 ∧ up < 24 ∧ up ≠ lo ∧ S.1 lo ≠ none ∧ S.1 up ≠ none ∧ pdp (S.1 lo) = m + 1 ∧ pdp (S.1 up) = m + 1 ∧ ppx (S.1 lo) < 2 ^ m ∧ ppx (S.1 up) = ppx (S.1 lo) + 2 ^ m ∧ (ents (S.1 lo)).length + (ents (S.1 up)).length ≤ 3 := by
    rcases hlu with ⟨q1, rfl, rfl⟩ | ⟨q1, rfl, rfl⟩
    · have t7 := t6.resolve_left (fun z => by omega)
      exact ⟨t1, hb, fun z => by rw [z] at t7; omega, t2, hu, t5, t4, t7.1, t7.2, by omega⟩
    · have t7 := t6.resolve_right (fun z => by omega)
      exact ⟨hb, t1, fun z => by rw [z] at t7; omega, hu, t2, t4, t5, t7.1, t7.2, hl⟩
  obtain ⟨s1, s2, s3, s4, s5, s6, s7, s8, s9, s10⟩ := hside
  have hok2 := jn_okk hok s1 s2 s3 s4 s5 s6 s7 t3 s8 s9 s10
  obtain ⟨q, hq⟩ : ∃ q, S.1 lo = some q := by
    cases hB : S.1 lo with
    | none => exact absurd hB s4
    | some q => exact ⟨q, rfl⟩
  /- from the depth on -/
  have step : ∀ w1 w2 w3 w5 w6 : Value, ∃ fl' ar', xD E (d + 49) 246 55 [.ref 48, w1, w2, w3, .int (nI lo), w5, w6] [.int (nI up)] (mw A fl ar al) = some (some (.int (nI lo)), mw A fl' ar' al) ∧ MS (ar' 2) (wrt R (wrt R (jn S.1 lo up, S.2) lo) up) ∧ MF fl ar fl' ar' := by
    intro w1 w2 w3 w5 w6
    have hdp := h.dp s1 s4
    rw [s6] at hdp
    have hpg := h.1 lo s1
    rw [hq] at hpg
    have M1 : MS (upd (ar 2) (10 * lo + 1) (nI m)) (ub S.1 lo (some (m, q.2.1, q.2.2 ++ [])), S.2) := by
      rw [List.append_nil]
      exact h.file (fun j hj => upd_n (by omega)) s1 (pgR_dep hpg)
    have hk1 : kF ar (sar ar 2 (upd (ar 2) (10 * lo + 1) (nI m))) := kF.k2 (fun i hi => upd_n (by omega))
    have hql : q.2.2.length + (ents (S.1 up)).length ≤ 3 := by rw [hq] at s10; exact s10
    obtain ⟨ar2, l1, l2, l3⟩ := m_jn_loop (E := E) (d := d + 46) (al := al) (fl := fl) hA s1 s2 s3 (B := S.1) hql (ents (S.1 up)) [] (sar ar 2 (upd (ar 2) (10 * lo + 1) (nI m))) xJ xJ xJ (by rw [sar_s]; exact M1) rfl
    have hmn := l2.mn s2
    rw [show ((ub S.1 lo (some (m, q.2.1, q.2.2 ++ ents (S.1 up))), S.2) : St).1 up = S.1 up from ub_ne s3] at hmn
    have hln := h.ln s2
    have M3 := l2.file (b := up) (g := upd (upd (ar2 2) (10 * up) (nI 0)) (10 * up + 3) (nI 0)) (P := none) (fun j hj => by rw [upd_n (by omega), upd_n (by omega)]) s2 (pgR_none (by rw [upd_n (by omega)]; exact upd_s) upd_s)
    have hjn : ub (ub S.1 lo (some (m, q.2.1, q.2.2 ++ ents (S.1 up)))) up none = jn S.1 lo up := by
      funext c
      unfold jn
      rw [s6, hq, Nat.add_sub_cancel]
      by_cases c1 : c = up
      · subst c1; rw [ub_self, two_n s3]
      · rw [ub_ne c1]
        by_cases c2 : c = lo
        · subst c2; rw [ub_self, two_b]; rfl
        · rw [ub_ne c2, two_o c1 c2]
    have M4 : MS ((sar ar2 2 (upd (upd (ar2 2) (10 * up) (nI 0)) (10 * up + 3) (nI 0))) 2) (jn S.1 lo up, S.2) := by
      rw [sar_s, ← hjn]; exact M3
    have hk3 : kF ar2 (sar ar2 2 (upd (upd (ar2 2) (10 * up) (nI 0)) (10 * up + 3) (nI 0))) := kF.k2 (fun i hi => by rw [upd_n (by omega), upd_n (by omega)])
    have hRa := ((hR.kF hk1).kF l3.2).kF hk3
    obtain ⟨fl5, ar5, v1, v2, v3⟩ := m_writes (E := E) (d := d) (fl := fl) (al := al) hA M4 hRa s1 (hok2.2 _).2.2.1 ht
    obtain ⟨fl6, ar6, z1, z2, z3⟩ := m_writes (E := E) (d := d) (fl := fl5) (al := al) (b := up) hA v2 (hRa.kF v3.2) s2 (hok2.2 _).2.2.1 (Nat.min_le_right _ _)
    refine ⟨fl6, ar6, ?_, z2, (((MF.tr ⟨eG.rf, hk1⟩ l3).tr ⟨eG.rf, hk3⟩).tr v3).tr z3⟩
    have hsub : nI (m + 1) - nI 1 = nI m := by rw [pk_sub (by omega), Nat.add_sub_cancel]
    rw [e246_55]
    simp (disch := first | omega | exact m_k48 hA) only [Option.bind_some, xI_s, xV_s, m_r48_1 hA, m_r48_2 hA, m_r48_5 hA, m_a50 hA, m_s50 hA, m_l50 hA, k169, zl, pk_mul, nI_add, Nat.add_zero, sar_s, sar_sar, hdp, hsub]
    refine Eq.trans l1 ?_
    rw [e246_75]
    simp (disch := first | omega | exact m_k48 hA) only [Option.bind_some, xI_s, xV_s, m_r48_1 hA, m_r48_2 hA, m_r48_5 hA, m_a50 hA, m_s50 hA, m_l50 hA, k169, zl, pk_mul, nI_add, Nat.add_zero, sar_s, sar_sar, hmn]
    rw [if_pos (nI_le (Nat.le_refl _) (by omega))]
    simp (disch := first | omega | exact m_k48 hA) only [Option.bind_some, xI_s, xV_s, m_r48_1 hA, m_r48_2 hA, m_r48_5 hA, m_a50 hA, m_s50 hA, m_l50 hA, k169, zl, pk_mul, nI_add, Nat.add_zero, sar_s, sar_sar, v1, z1]
  rw [k246 _ _ _ _ _ (m_k48 hA), m_twinOf hA h hok hb hu, xI_s, Option.bind_some, hw, oI_s]
  dsimp only
  simp (disch := first | omega | exact m_k48 hA) only [Option.bind_some, xI_s, xV_s, m_r48_1 hA, m_r48_2 hA, m_r48_5 hA, m_a50 hA, m_s50 hA, m_l50 hA, k169, zl, pk_mul, nI_add, Nat.add_zero, sar_s, sar_sar, h.px hb hu, h.px t1 t2]
  rcases hlu with ⟨q1, rfl, rfl⟩ | ⟨q1, rfl, rfl⟩
  · rw [if_pos (nI_le q1 (by omega)), e246_34, if_pos (show nI 0 = 0 by rfl), if_pos (show nI 0 = 0 by rfl)]
    exact step _ _ _ _ _
  · rw [if_neg (nI_ge q1 (by omega)), e246_34, if_neg (show ¬ nI 1 = 0 by decide), if_neg (show ¬ nI 1 = 0 by decide)]
    exact step _ _ _ _ _
theorem jn_dp {B : Bk} {lo up m : Nat} (hd1 : pdp (B lo) = m + 1) : pdp (jn B lo up lo) = m := by
  unfold jn
  rw [two_b, hd1, Nat.add_sub_cancel]; rfl
theorem m_dr_loop (hA : 69 ≤ A.length) : ∀ (c j : Nat) (S : St) (b : Nat) (fl : Nat → Int32) (ar : Nat → Nat → Int32) (w1 w2 : Value), MS (ar 2) S → MRR (ar 2) R → okk S.1 → S.2.2.2.2 ≤ 999 → b < 24 → S.1 b ≠ none → pdp (S.1 b) ≤ c → j + c < 100 → ∃ fl' ar', xD E (d + 50) 248 43 [.ref 48, w1, w2, .int (nI b), .int (nI j)] [] (mw A fl ar al) = some (some (.int (nI (j + (drL R c b S).1))), mw A fl' ar' al) ∧ MS (ar' 2) (finS (drL R c b S).2) ∧ MF fl ar fl' ar'
  | c, j, S, b, fl, ar, w1, w2, h, hR, hok, ht, hb, hu, hc, hj => by
    have hcj := m_canJoin (E := E) (d := d + 45) (fl := fl) (al := al) hA h hok hb hu
    have fin : (match twn S.1 b with
        | none => 0
        | some w => if (ents (S.1 b)).length + (ents (S.1 w)).length ≤ 3 then 1 else 0) = 0 → drL R c b S = (0, S) → ∃ fl' ar', xD E (d + 50) 248 43 [.ref 48, w1, w2, .int (nI b), .int (nI j)] [] (mw A fl ar al) = some (some (.int (nI (j + (drL R c b S).1))), mw A fl' ar' al) ∧ MS (ar' 2) (finS (drL R c b S).2) ∧ MF fl ar fl' ar' := by
      intro h0 hd
      rw [h0] at hcj
      have hde := m_deepestOf (E := E) (d := d + 46) (fl := fl) (al := al) hA h (fun q => (hok.2 q).2.2.1)
      refine ⟨fl, sar ar 2 (upd (ar 2) 961 (nI (deepN S.1))), ?_, ?_, MF.k2 (fun i hi => upd_n (by omega))⟩
      · rw [e248_43, hcj, xI_s, Option.bind_some]
        dsimp only
        rw [if_pos (show nI 0 = 0 by rfl)]
        simp (disch := first | omega | exact m_k48 hA) only [Option.bind_some, xI_s, xV_s, m_r48_1 hA, m_r48_2 hA, m_r48_5 hA, m_a50 hA, m_s50 hA, m_l50 hA, k169, zl, pk_mul, nI_add, Nat.add_zero, sar_s, sar_sar, hde, hd]
      · rw [sar_s, hd, show finS ((0, S) : Nat × St).2 = (S.1, S.2.1, S.2.2.1, deepN S.1, S.2.2.2.2) by simp only [finS]]
        exact h.setD _
    cases c with
    | zero =>
      have htw : twn S.1 b = none := by unfold twn; rw [if_pos (by omega)]
      exact fin (by rw [htw]) rfl
    | succ c =>
      cases hw : twn S.1 b with
      | none => exact fin (by rw [hw]) (by unfold drL; rw [hw])
      | some w =>
        obtain ⟨t1, t2, m, t3, t4, t5, t6⟩ := twn_spec hok hw
        have hpm := Nat.two_pow_pos m
        by_cases q : (ents (S.1 b)).length + (ents (S.1 w)).length ≤ 3
        · rw [hw] at hcj
          dsimp only at hcj
          rw [if_pos q] at hcj
          by_cases p : ppx (S.1 w) ≤ ppx (S.1 b)
          · have t7 := t6.resolve_left (fun z => by omega)
            have hne : b ≠ w := fun z => by rw [z] at t7; omega
            have hok1 := jn_okk hok t1 hb hne t2 hu t5 t4 t3 t7.1 t7.2 (by omega)
            obtain ⟨fl1, ar1, p1, p2, p3⟩ := m_joins (E := E) (d := d) (fl := fl) (al := al) hA h hR hok ht hb hu hw (Or.inl ⟨p, rfl, rfl⟩) q
            obtain ⟨fl2, ar2, i1, i2, i3⟩ := m_dr_loop hA c (j + 1) _ w fl1 ar1 xJ xJ p2 (hR.kF p3.2) hok1 (Nat.min_le_right _ _) t1 (by show jn S.1 w b w ≠ none; unfold jn; rw [two_b]; simp) (by show pdp (jn S.1 w b w) ≤ c; rw [jn_dp t5]; omega) (by omega)
            have hd : drL R (c + 1) b S = ((drL R c w (wrt R (wrt R (jn S.1 w b, S.2) w) b)).1 + 1, (drL R c w (wrt R (wrt R (jn S.1 w b, S.2) w) b)).2) := by
              conv => lhs; unfold drL
              rw [hw]
              dsimp only
              rw [if_pos q, if_pos p]
            rw [hd]
            refine ⟨fl2, ar2, ?_, i2, p3.tr i3⟩
            rw [e248_43, hcj, xI_s, Option.bind_some]
            dsimp only
            rw [if_neg (show ¬ nI 1 = 0 by decide), p1, xI_s, Option.bind_some]
            dsimp only
            rw [nI_1, i1, Nat.add_assoc, Nat.add_comm 1]
          · have t7 := t6.resolve_right (fun z => by omega)
            have hne : w ≠ b := fun z => by rw [z] at t7; omega
            have hok1 := jn_okk hok hb t1 hne hu t2 t4 t5 t3 t7.1 t7.2 q
            obtain ⟨fl1, ar1, p1, p2, p3⟩ := m_joins (E := E) (d := d) (fl := fl) (al := al) hA h hR hok ht hb hu hw (Or.inr ⟨by omega, rfl, rfl⟩) q
            obtain ⟨fl2, ar2, i1, i2, i3⟩ := m_dr_loop hA c (j + 1) _ b fl1 ar1 xJ xJ p2 (hR.kF p3.2) hok1 (Nat.min_le_right _ _) hb (by show jn S.1 b w b ≠ none; unfold jn; rw [two_b]; simp) (by show pdp (jn S.1 b w b) ≤ c; rw [jn_dp t4]; omega) (by omega)
            have hd : drL R (c + 1) b S = ((drL R c b (wrt R (wrt R (jn S.1 b w, S.2) b) w)).1 + 1, (drL R c b (wrt R (wrt R (jn S.1 b w, S.2) b) w)).2) := by
              conv => lhs; unfold drL
              rw [hw]
              dsimp only
              rw [if_pos q, if_neg p]
            rw [hd]
            refine ⟨fl2, ar2, ?_, i2, p3.tr i3⟩
            rw [e248_43, hcj, xI_s, Option.bind_some]
            dsimp only
            rw [if_neg (show ¬ nI 1 = 0 by decide), p1, xI_s, Option.bind_some]
            dsimp only
            rw [nI_1, i1, Nat.add_assoc, Nat.add_comm 1]
        · refine fin (by rw [hw]; dsimp only; rw [if_neg q]) ?_
          unfold drL
          rw [hw]
          dsimp only
          rw [if_neg q]
theorem m_drops_bad {fl : Nat → Int32} {ar : Nat → Nat → Int32} (hA : 69 ≤ A.length) {x : Int32} (hx : x < nI 0 ∨ nI 999 < x) : xC E (d + 3) 248 [.ref 48, .int x] (mw A fl ar al) = some (some (.int (-1)), mw A fl ar al) := by
  rw [k248 _ _ _ _ _ (m_k48 hA), m_isKey, xI_s, Option.bind_some]
  dsimp only
  rw [if_pos hx, if_pos (by rfl)]
theorem m_drops {fl : Nat → Int32} {ar : Nat → Nat → Int32} (hA : 69 ≤ A.length) {k : Nat} (hk : k < 1000) (h : MS (ar 2) S) (hR : MRR (ar 2) R) (hok : okk S.1) (ht : S.2.2.2.2 ≤ 999) : ∃ fl' ar', xC E (d + 50) 248 [.ref 48, .int (nI k)] (mw A fl ar al) = some (some (.int (dropS R k S).1), mw A fl' ar' al) ∧ MS (ar' 2) (dropS R k S).2 ∧ MF fl ar fl' ar' := by
  have hb := own_lt S.1 (hsh R.2.2.2 k % 64)
  have hW := hok.2 (own S.1 (hsh R.2.2.2 k % 64))
  obtain ⟨o1, o2⟩ := hok.1.own (show hsh R.2.2.2 k % 64 < 64 from Nat.mod_lt _ (by omega))
  obtain ⟨o3, -⟩ := clm_some o1
  obtain ⟨q, hq⟩ : ∃ q, S.1 (own S.1 (hsh R.2.2.2 k % 64)) = some q := by
    cases hB : S.1 (own S.1 (hsh R.2.2.2 k % 64)) with
    | none => exact absurd hB o3
    | some q => exact ⟨q, rfl⟩
  rw [k248 _ _ _ _ _ (m_k48 hA), m_isKey, xI_s, Option.bind_some]
  dsimp only
  rw [if_neg (show ¬ (nI k < nI 0 ∨ nI 999 < nI k) from fun z => z.elim (nI_pos (by omega)) (nI_nlt (by omega) (by omega))), if_neg (show ¬ nI 1 = 0 by decide), m_placeOf hA h hok hk hR.2.2.2.1 hR.2.2.1, xI_s, Option.bind_some]
  dsimp only
  unfold dropS
  cases hi : kIdx (ents (S.1 (own S.1 (hsh R.2.2.2 k % 64)))) k with
  | none =>
    rw [oI_n, if_pos rfl]
    exact ⟨fl, ar, rfl, h, MF.rf⟩
  | some i =>
    obtain ⟨w, hw⟩ := kIdx_some hi
    have hi2 := (List.getElem?_eq_some_iff.mp hw).1
    have hl3 := hW.1
    have hi3 : i < q.2.2.length := by rw [hq] at hi2; exact hi2
    obtain ⟨g, g1, g2, g3⟩ := m_goesOut (E := E) (d := d + 47) (fl := fl) (al := al) (i := i) hA h hb hq hi3
    have hrm : rmP (S.1 (own S.1 (hsh R.2.2.2 k % 64))) i = some (q.1, q.2.1, q.2.2.eraseIdx i) := by unfold rmP; rw [hq]; rfl
    have hok1 := rm_okk (b := own S.1 (hsh R.2.2.2 k % 64)) (i := i) hok
    have hk1 : kF ar (sar ar 2 g) := kF.k2 g3
    have g2' : MS ((sar ar 2 g) 2) (ub S.1 (own S.1 (hsh R.2.2.2 k % 64)) (rmP (S.1 (own S.1 (hsh R.2.2.2 k % 64))) i), S.2) := by rw [sar_s, hrm]; exact g2
    obtain ⟨fl2, ar2, e1, e2, e3⟩ := m_writes (E := E) (d := d + 1) (fl := fl) (al := al) hA g2' (hR.kF hk1) hb (hok1.2 _).2.2.1 ht
    obtain ⟨fl3, ar3, i1, i2, i3⟩ := m_dr_loop (E := E) (d := d) (al := al) hA 6 0 _ (own S.1 (hsh R.2.2.2 k % 64)) fl2 ar2 (.int (nI k)) (.int (nI i)) e2 ((hR.kF hk1).kF e3.2) hok1 (Nat.min_le_right _ _) hb (by show ub _ _ _ _ ≠ none; rw [ub_self, hrm]; simp) (hok1.2 _).2.2.1 (by omega)
    refine ⟨fl3, ar3, ?_, i2, ((MF.tr ⟨eG.rf, hk1⟩ e3).tr i3)⟩
    rw [oI_s, if_neg (n_m1ne (by omega)), m_soughtIn hA h hok hk hR.2.2.2.1 hR.2.2.1, xI_s, Option.bind_some]
    dsimp only
    rw [g1, xV_s, Option.bind_some, e1, xV_s, Option.bind_some]
    rw [Nat.zero_add] at i1
    exact i1
end MDROP
