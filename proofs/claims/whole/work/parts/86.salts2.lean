/-! ===== salts: the counts and the buckets ===== -/
/-- nodes with more than three keys -/
def nK (P : Nat → Bool) (t : Nat) : Nat := cnt (fun d => cnt (fun p => if 3 < cP P t d p 1000 then 1 else 0) (2 ^ d)) 6
section SALT2
variable {t : Nat} {B : Bk} {P : Nat → Bool}
theorem JB_add {i : Nat} (h : JB t P i (i + 1) B) (hi : i < 1000) (hP : P i = true) (h3 : (ents (B (own B (hsh t i % 64)))).length < 3) : JB t P (i + 1) (i + 1) (ub B (own B (hsh t i % 64)) (adP (B (own B (hsh t i % 64))) i 0)) := by
  obtain ⟨j1, j2, j3, j4, j5, j6, j7⟩ := h
  obtain ⟨o1, o2⟩ := j1.1.own (show hsh t i % 64 < 64 from Nat.mod_lt _ (by omega))
  have o3 := (clm_some o1).1
  have hb := own_lt B (hsh t i % 64)
  have ho := hsT_own (t := t) (k := i) j1
  have hV := j3 (own B (hsh t i % 64))
  have hT := j2 (own B (hsh t i % 64))
  have hno : ∀ e ∈ ents (B (own B (hsh t i % 64))), e.1 ≠ i := fun e he z => by
    have := ((j5 e.1).mp ⟨_, e.2, hb, he⟩).1
    omega
  generalize own B (hsh t i % 64) = b at *
  have hg : geq (adP (B b) i 0) (B b) := map_geq (f := fun l => l ++ [(i, 0)])
  have hgc : ∀ c, geq (ub B b (adP (B b) i 0) c) (B c) := ub_geq hg
  have hown : ∀ x, own (ub B b (adP (B b) i 0)) x = own B x := own_cong (fun c x => geq_clm (hgc c) x)
  have hdp : ∀ x, pdp (ub B b (adP (B b) i 0) (own (ub B b (adP (B b) i 0)) x)) = pdp (B (own B x)) := fun x => by rw [hown]; exact (hgc _).2.1
  have hall : ∀ (Q : Pg → Prop), Q (adP (B b) i 0) → (∀ c, Q (B c)) → ∀ c, Q (ub B b (adP (B b) i 0) c) := fun Q q1 q2 c => by
    unfold ub
    split
    · exact q1
    · exact q2 c
  obtain ⟨q, hq⟩ : ∃ q, B b = some q := by
    cases hB : B b with
    | none => exact absurd hB o3
    | some q => exact ⟨q, rfl⟩
  have had : adP (B b) i 0 = some (q.1, q.2.1, q.2.2 ++ [(i, 0)]) := by unfold adP; rw [hq]; rfl
  have hVn : pgV (adP (B b) i 0) := by
    rw [had]
    rw [hq] at hV h3 hno
    obtain ⟨⟨w1, w2, w3, w4⟩, w5⟩ := hV
    refine ⟨⟨?_, fun e he => ?_, w3, w4⟩, ?_⟩
    · show (q.2.2 ++ [(i, 0)]).length ≤ 3
      rw [List.length_append]
      have : q.2.2.length < 3 := h3
      simp; omega
    · rcases List.mem_append.mp (show e ∈ q.2.2 ++ [(i, 0)] from he) with z | z
      · exact w2 e z
      · rw [List.mem_singleton.mp z]; exact ⟨hi, by show 0 ≤ 99; omega⟩
    · show ((q.2.2 ++ [(i, 0)]).map Prod.fst).Nodup
      rw [List.map_append, List.nodup_append]
      refine ⟨w5, by simp, fun a ha c hc => ?_⟩
      obtain ⟨e, e1, e2⟩ := List.mem_map.mp ha
      have : c = i := by simpa using hc
      rw [this, ← e2]; exact hno e e1
  have hTn : hsT t (adP (B b) i 0) := by
    rw [had]
    rw [hq] at hT ho
    intro e he
    rcases List.mem_append.mp (show e ∈ q.2.2 ++ [(i, 0)] from he) with z | z
    · exact hT e z
    · rw [List.mem_singleton.mp z]; exact ho
  refine ⟨⟨prt_geq j1.1 hgc, fun c => (hall pgV hVn j3 c).1⟩, hall (hsT t) hTn j2, hall pgV hVn j3, fun c hc => by rw [ub_ne (by omega)]; exact j4 c hc, fun k => ⟨?_, ?_⟩, fun p hp d hd => ?_, ?_⟩
  · intro ⟨c, v, c1, c2⟩
    by_cases e : c = b
    · subst e
      rw [ub_self, had] at c2
      rcases List.mem_append.mp (show (k, v) ∈ q.2.2 ++ [(i, 0)] from c2) with z | z
      · have := (j5 k).mp ⟨c, v, c1, by rw [hq]; exact z⟩
        exact ⟨by omega, this.2⟩
      · have z2 := List.mem_singleton.mp z
        have : k = i := congrArg Prod.fst z2
        rw [this]; exact ⟨by omega, hP⟩
    · rw [ub_ne e] at c2
      have := (j5 k).mp ⟨c, v, c1, c2⟩
      exact ⟨by omega, this.2⟩
  · intro ⟨k1, k2⟩
    by_cases e : k = i
    · subst e
      exact ⟨b, 0, hb, by rw [ub_self, had]; exact List.mem_append_right _ (List.mem_singleton.mpr rfl)⟩
    · obtain ⟨c, v, c1, c2⟩ := (j5 k).mpr ⟨by omega, k2⟩
      by_cases z : c = b
      · subst z
        rw [hq] at c2
        exact ⟨c, v, c1, by rw [ub_self, had]; exact List.mem_append_left _ c2⟩
      · exact ⟨c, v, c1, by rw [ub_ne z]; exact c2⟩
  · rw [hdp] at hd
    exact j6 p hp d hd
  · have e1 : usedN (ub B b (adP (B b) i 0)) = usedN B := by
      unfold usedN
      refine cnt_cong 24 (fun c _ => ?_)
      have hn := (hgc c).1
      cases h1 : ub B b (adP (B b) i 0) c with
      | none => rw [hn.mp h1]
      | some w =>
        cases h2 : B c with
        | none => rw [hn.mpr h2] at h1; cases h1
        | some w2 => rfl
    have e2 : nIn (ub B b (adP (B b) i 0)) = nIn B := by
      unfold nIn
      refine cnt_cong 6 (fun d _ => cnt_cong _ (fun p _ => ?_))
      rw [hdp]
    rw [e1, e2]; exact j7
theorem JB_skip {i : Nat} (h : JB t P i i B) (hP : ¬ P i = true) : JB t P (i + 1) (i + 1) B := by
  obtain ⟨j1, j2, j3, j4, j5, j6, j7⟩ := h
  refine ⟨j1, j2, j3, j4, fun k => (j5 k).trans ⟨fun z => ⟨by omega, z.2⟩, fun z => ⟨?_, z.2⟩⟩, fun p hp d hd => Nat.lt_of_lt_of_le (j6 p hp d hd) (cP_mono (by omega)), j7⟩
  have : k ≠ i := fun q => hP (q ▸ z.2)
  omega
theorem JB_next {i : Nat} (h : JB t P i i B) : JB t P i (i + 1) B := ⟨h.1, h.2.1, h.2.2.1, h.2.2.2.1, h.2.2.2.2.1, fun p hp d hd => Nat.lt_of_lt_of_le (h.2.2.2.2.2.1 p hp d hd) (cP_mono (by omega)), h.2.2.2.2.2.2⟩
theorem JB_plc {R : Ru} {i : Nat} (hi : i < 1000) (hP : P i = true) : ∀ (n : Nat) (S : St), JB R.2.2.2 P i (i + 1) S.1 → rmF R.2.2.2 S.1 (hsh R.2.2.2 i) n → JB R.2.2.2 P (i + 1) (i + 1) (plc R i 0 n S).1
  | 0, S, h, hr => JB_add h hi hP (hr.1.2.2.1 rfl)
  | n + 1, S, h, hr => by
    have r1 := hr.1.1
    have r2 := hr.1.2.1
    obtain ⟨m, f1, f2, f3⟩ := free_of (B := S.1) (by omega)
    have hfl : (plS R i S).1 = spl R.2.2.2 S.1 (own S.1 (hsh R.2.2.2 i % 64)) m := by unfold plS; rw [f1]; rfl
    exact JB_plc hi hP n (plS R i S) (by rw [hfl]; exact JB_spl h hi hP (hr.2 (by omega)) (by omega) f2 f3) (by rw [hfl]; exact rmF_step h.1 hr f2 f3)
/-- no room: a slot or the nodes are too many -/
def badK (P : Nat → Bool) (t : Nat) : Prop := (∃ p, p < 64 ∧ 3 < cP P t 6 p 1000) ∨ 24 ≤ nK P t
theorem nIn_lt {i d0 p0 : Nat} (h : JB t P i (i + 1) B) (hi : i < 1000) (hd0 : d0 < 6) (hp0 : p0 < 2 ^ d0) (hdp : pdp (B (own B p0)) ≤ d0) (h4 : 3 < cP P t d0 p0 1000) : nIn B + 1 ≤ nK P t := by
  have hone : cnt (fun d => cnt (fun p => if d = d0 ∧ p = p0 then 1 else 0) (2 ^ d)) 6 = 1 := by
    rw [cnt_1 (b := d0) 6 (fun d _ hd => cnt_z _ (fun p _ => if_neg (fun z => hd z.1))) hd0, cnt_1 (b := p0) _ (fun p _ hp => if_neg (fun z => hp z.2)) hp0, if_pos ⟨rfl, rfl⟩]
  have hle : cnt (fun d => cnt (fun p => if d < pdp (B (own B p)) then 1 else 0) (2 ^ d) + cnt (fun p => if d = d0 ∧ p = p0 then 1 else 0) (2 ^ d)) 6 ≤ nK P t := by
    refine cnt_lem 6 (fun d hd => ?_)
    rw [← cnt_add]
    refine cnt_lem _ (fun p hp => ?_)
    have h6 := pow6 (n := d) (by omega)
    by_cases q : d = d0 ∧ p = p0
    · rw [if_pos q, q.1, q.2, if_neg (by omega), if_pos h4]; exact Nat.le_refl _
    · rw [if_neg q]
      by_cases z : d < pdp (B (own B p))
      · have := h.2.2.2.2.2.1 p (by omega) d z
        rw [Nat.mod_eq_of_lt hp] at this
        rw [if_pos z, if_pos (Nat.lt_of_lt_of_le this (cP_mono (by omega)))]; exact Nat.le_refl _
      · rw [if_neg z]; exact Nat.zero_le _
  rw [cnt_add, hone] at hle
  exact hle
theorem JB_fail {i : Nat} (hi : i < 1000) (hP : P i = true) : ∀ (c : Nat) (B : Bk), JB t P i (i + 1) B → nrm t B (hsh t i) → 6 ≤ pdp (B (own B (hsh t i % 64))) + c → badK P t
  | c, B, h, hr, hc => by
    obtain ⟨o1, o2⟩ := h.1.1.own (show hsh t i % 64 < 64 from Nat.mod_lt _ (by omega))
    have o3 := (clm_some o1).1
    have hb := own_lt B (hsh t i % 64)
    obtain ⟨w1, w2, w3, w4⟩ := h.1.2 (own B (hsh t i % 64))
    have h4 := full_cP h.1 h.2.1 h.2.2.1 hi hP h.2.2.2.2.1 hr.1
    have h4' : 3 < cP P t (pdp (B (own B (hsh t i % 64)))) (ppx (B (own B (hsh t i % 64)))) 1000 := Nat.lt_of_lt_of_le (by rw [h4]; omega) (cP_mono (show i + 1 ≤ 1000 by omega))
    have hpx := okk_px h.1 (own B (hsh t i % 64))
    by_cases e6 : pdp (B (own B (hsh t i % 64))) = 6
    · rw [e6] at h4'
      exact Or.inl ⟨_, hpx, h4'⟩
    · cases hf : freeN B with
      | none =>
        have hus : usedN B = 24 := cnt_all 24 (fun q hq => by
          have := fst1_none hf q (by omega) (by omega)
          cases hB : B q with
          | none => rw [hB] at this; cases this
          | some w => rfl)
        have hown : own B (ppx (B (own B (hsh t i % 64)))) = own B (hsh t i % 64) := (own_iff h.1.1 hb o3 hpx).mpr (Nat.mod_eq_of_lt w4)
        have := nIn_lt h hi (show pdp (B (own B (hsh t i % 64))) < 6 by omega) w4 (by rw [hown]; omega) h4'
        have h7 := h.2.2.2.2.2.2
        exact Or.inr (by omega)
      | some m =>
        obtain ⟨g1, g2, g3⟩ := fst1_lt hf
        have f2 : m < 24 := by omega
        have f3 : B m = none := by simpa using g3
        have hus : usedN B < 24 := by
          have h1 := spl_used (t := t) (B := B) (b := own B (hsh t i % 64)) f2 o3 f3
          have h2 := usedN_le (spl t B (own B (hsh t i % 64)) m)
          omega
        obtain ⟨s1, s2⟩ := nrm_step h.1 hr f2 f3 hus (by omega)
        obtain ⟨c', rfl⟩ : ∃ c', c = c' + 1 := ⟨c - 1, by omega⟩
        exact JB_fail hi hP c' _ (JB_spl h hi hP hr.1 (by omega) f2 f3) s1 (by rw [s2]; omega)
theorem JB_end (h : JB t P 1000 1000 B) : usedN B = 1 + nK P t ∧ ∀ p, p < 64 → cP P t 6 p 1000 ≤ 3 := by
  obtain ⟨j1, j2, j3, j4, j5, j6, j7⟩ := h
  have hle : ∀ d p, d ≤ 6 → p < 64 → pdp (B (own B p)) ≤ d → cP P t d (p % 2 ^ d) 1000 ≤ 3 := fun d p hd hp hdp => by
    obtain ⟨o1, o2⟩ := j1.1.own hp
    obtain ⟨o3, o4⟩ := clm_some o1
    have hl := len_cP j1 j2 j3 (Nat.le_refl 1000) j5 (own_lt B p) o3
    have h1 := cP_deep (P := P) (t := t) (p := p % 2 ^ d) (m := 1000) hdp
    rw [Nat.mod_mod_of_dvd _ (Nat.pow_dvd_pow 2 hdp), o4, ← hl] at h1
    exact Nat.le_trans h1 (j1.2 _).1
  refine ⟨?_, fun p hp => ?_⟩
  · rw [j7]
    congr 1
    unfold nIn nK
    refine cnt_cong 6 (fun d hd => cnt_cong _ (fun p hp => ?_))
    have h6 := pow6 (n := d) (by omega)
    by_cases q : d < pdp (B (own B p))
    · have := j6 p (by omega) d q
      rw [Nat.mod_eq_of_lt hp] at this
      rw [if_pos q, if_pos this]
    · have := hle d p (by omega) (by omega) (by omega)
      rw [Nat.mod_eq_of_lt hp] at this
      rw [if_neg q, if_neg (by omega)]
  · have := hle 6 p (Nat.le_refl _) hp (j1.2 _).2.2.1
    rwa [Nat.mod_eq_of_lt (show p < 2 ^ 6 from hp)] at this
/-! the class's counts -/
theorem bsP_spec : ∀ (l : List (Nat × Nat)) (c : Nat → Nat), (∀ c', bsP t l c = some c' → ∀ j, j < 64 → c' j = c j + lsum (fun k _ => ind t 6 j k) l) ∧ (bsP t l c = none → ∃ j, j < 64 ∧ 3 < c j + lsum (fun k _ => ind t 6 j k) l)
  | [], c => ⟨fun c' h j _ => by rw [← Option.some.inj h]; rfl, fun h => by cases h⟩
  | e :: l, c => by
    have hm : hsh t e.1 % 64 < 64 := Nat.mod_lt _ (by omega)
    have hind : ∀ j, ind t 6 j e.1 = if j = hsh t e.1 % 64 then 1 else 0 := fun j => by
      unfold ind
      by_cases q : hsh t e.1 % 2 ^ 6 = j
      · rw [if_pos q, if_pos q.symm]
      · rw [if_neg q, if_neg (fun z => q z.symm)]
    have hls : ∀ j, lsum (fun k _ => ind t 6 j k) (e :: l) = ind t 6 j e.1 + lsum (fun k _ => ind t 6 j k) l := fun j => rfl
    obtain ⟨i1, i2⟩ := bsP_spec l (incC c (hsh t e.1 % 64))
    unfold bsP
    by_cases q : c (hsh t e.1 % 64) + 1 ≤ 3
    · rw [if_pos q]
      have hinc : ∀ j, incC c (hsh t e.1 % 64) j + lsum (fun k _ => ind t 6 j k) l = c j + lsum (fun k _ => ind t 6 j k) (e :: l) := fun j => by
        rw [hls, hind]
        unfold incC
        by_cases z : j = hsh t e.1 % 64
        · rw [if_pos z, if_pos z]; omega
        · rw [if_neg z, if_neg z]; omega
      refine ⟨fun c' h j hj => by rw [i1 c' h j hj, hinc], fun h => ?_⟩
      obtain ⟨j, j1, j2⟩ := i2 h
      exact ⟨j, j1, by rw [← hinc]; exact j2⟩
    · rw [if_neg q]
      refine ⟨fun c' h => (by cases h), fun _ => ⟨_, hm, ?_⟩⟩
      rw [hls, hind, if_pos rfl]; omega
theorem bsH_spec {h : Nat} : ∀ (n i : Nat) (x : (Nat → Nat) × Nat), i + n = h → (∀ j, (bsH h n i x).1 j = if i ≤ j ∧ j < h then x.1 j + x.1 (j + h) else x.1 j) ∧ (bsH h n i x).2 = x.2 + cnt (fun q => if 3 < x.1 (i + q) + x.1 (i + q + h) then 1 else 0) n
  | 0, i, x, hi => ⟨fun j => by rw [if_neg (by omega)]; rfl, rfl⟩
  | n + 1, i, x, hi => by
    obtain ⟨i1, i2⟩ := bsH_spec (h := h) n (i + 1) (addC x.1 i (x.1 (i + h)), x.2 + if x.1 i + x.1 (i + h) ≤ 3 then 0 else 1) (by omega)
    have hne : ∀ j, j ≠ i → addC x.1 i (x.1 (i + h)) j = x.1 j := fun j hj => if_neg hj
    refine ⟨fun j => ?_, ?_⟩
    · show (bsH h n (i + 1) _).1 j = _
      rw [i1 j]
      dsimp only
      by_cases e : j = i
      · subst e
        rw [if_neg (by omega), if_pos (by omega)]
        exact if_pos rfl
      · by_cases q : i + 1 ≤ j ∧ j < h
        · rw [if_pos q, if_pos (by omega), hne j e, hne (j + h) (by omega)]
        · rw [if_neg q, if_neg (by omega), hne j e]
    · show (bsH h n (i + 1) _).2 = _
      rw [i2]
      dsimp only
      have e1 : cnt (fun q => if 3 < addC x.1 i (x.1 (i + h)) (i + 1 + q) + addC x.1 i (x.1 (i + h)) (i + 1 + q + h) then 1 else 0) n = cnt (fun q => if 3 < x.1 (i + (1 + q)) + x.1 (i + (1 + q) + h) then 1 else 0) n := cnt_cong n (fun q _ => by
        rw [hne _ (by omega), hne _ (by omega), Nat.add_assoc i 1 q])
      have e2 := cnt_split (f := fun q => if 3 < x.1 (i + q) + x.1 (i + q + h) then 1 else 0) 1 n
      rw [Nat.add_comm 1 n] at e2
      rw [e1, e2]
      have e3 : cnt (fun q => if 3 < x.1 (i + q) + x.1 (i + q + h) then 1 else 0) 1 = if x.1 i + x.1 (i + h) ≤ 3 then 0 else 1 := by
        show 0 + (if 3 < x.1 (i + 0) + x.1 (i + 0 + h) then 1 else 0) = _
        rw [Nat.add_zero]
        by_cases q : x.1 i + x.1 (i + h) ≤ 3
        · rw [if_pos q, if_neg (by omega)]
        · rw [if_neg q, if_pos (by omega)]
      rw [e3]; omega
theorem ind_split {d p k : Nat} (hp : p < 2 ^ d) : ind t d p k = ind t (d + 1) p k + ind t (d + 1) (p + 2 ^ d) k := by
  obtain ⟨m1, m2⟩ := mod_spl (i := hsh t k) hp
  have hpos := Nat.two_pow_pos d
  unfold ind
  by_cases q : hsh t k % 2 ^ d = p
  · rw [if_pos q]
    rcases Nat.mod_two_eq_zero_or_one (hsh t k / 2 ^ d) with w | w
    · rw [if_pos (m1.mpr ⟨q, w⟩), if_neg (fun z => by have := (m2.mp z).2; omega)]
    · rw [if_pos (m2.mpr ⟨q, w⟩), if_neg (fun z => by have := (m1.mp z).2; omega)]
  · rw [if_neg q, if_neg (fun z => q (m1.mp z).1), if_neg (fun z => q (m2.mp z).1)]
theorem cP_split {d p m : Nat} (hp : p < 2 ^ d) : cP P t d p m = cP P t (d + 1) p m + cP P t (d + 1) (p + 2 ^ d) m := by
  unfold cP
  rw [← cnt_add]
  refine cnt_cong m (fun k _ => ?_)
  by_cases e : P k = true
  · rw [if_pos e, if_pos e, if_pos e]; exact ind_split hp
  · rw [if_neg e, if_neg e, if_neg e]
theorem bs_step {d : Nat} {x : (Nat → Nat) × Nat} (h : ∀ j, j < 2 ^ (d + 1) → x.1 j = cP P t (d + 1) j 1000) : (∀ j, j < 2 ^ d → (bsH (2 ^ d) (2 ^ d) 0 x).1 j = cP P t d j 1000) ∧ (bsH (2 ^ d) (2 ^ d) 0 x).2 = x.2 + cnt (fun p => if 3 < cP P t d p 1000 then 1 else 0) (2 ^ d) := by
  obtain ⟨i1, i2⟩ := bsH_spec (h := 2 ^ d) (2 ^ d) 0 x (by omega)
  have hpow : 2 ^ (d + 1) = 2 ^ d * 2 := Nat.pow_succ ..
  refine ⟨fun j hj => ?_, ?_⟩
  · rw [i1 j, if_pos ⟨Nat.zero_le _, hj⟩, h j (by omega), h (j + 2 ^ d) (by omega), cP_split hj]
  · rw [i2]
    congr 1
    refine cnt_cong _ (fun p hp => ?_)
    rw [Nat.zero_add, h p (by omega), h (p + 2 ^ d) (by omega), cP_split hp]
theorem by_salt {t0 : Nat} {B0 : Bk} (h : okk B0) (hh : ∀ b, hsT t0 (B0 b)) (hV : ∀ b, pgV (B0 b)) (hm : ∀ k, inF B0 k ↔ k < 1000 ∧ P k = true) : ((∃ p, p < 64 ∧ 3 < cP P t 6 p 1000) → bySalt t B0 = 25) ∧ (bySalt t B0 = 25 ∨ bySalt t B0 = 1 + nK P t) ∧ ((∀ p, p < 64 → cP P t 6 p 1000 ≤ 3) → bySalt t B0 = 1 + nK P t) := by
  have hE : ∀ d p, lsum (fun k _ => ind t d p k) (allE B0 24 0) = cP P t d p 1000 := fun d p => (memE h hh hV (Nat.le_refl _) hm (ind t d p)).symm
  obtain ⟨s1, s2⟩ := bsP_spec (t := t) (allE B0 24 0) (fun _ => 0)
  unfold bySalt
  cases hb : bsP t (allE B0 24 0) (fun _ => 0) with
  | none =>
    refine ⟨fun _ => rfl, Or.inl rfl, fun hle => ?_⟩
    obtain ⟨j, j1, j2⟩ := s2 hb
    rw [Nat.zero_add, hE] at j2
    have := hle j j1
    omega
  | some c =>
    have h6 : ∀ j, j < 2 ^ 6 → c j = cP P t 6 j 1000 := fun j hj => by rw [s1 c hb j hj, Nat.zero_add, hE]
    have hc3 := bsP_le _ _ _ (fun _ => by omega) hb
    obtain ⟨a5, v5⟩ := bs_step (P := P) (t := t) (d := 5) (x := (c, 1)) h6
    obtain ⟨a4, v4⟩ := bs_step (P := P) (t := t) (d := 4) a5
    obtain ⟨a3, v3⟩ := bs_step (P := P) (t := t) (d := 3) a4
    obtain ⟨a2, v2⟩ := bs_step (P := P) (t := t) (d := 2) a3
    obtain ⟨a1, v1⟩ := bs_step (P := P) (t := t) (d := 1) a2
    obtain ⟨a0, v0⟩ := bs_step (P := P) (t := t) (d := 0) a1
    have hfin : (bsA c).2 = 1 + nK P t := by
      show (bsH (2 ^ 0) (2 ^ 0) 0 (bsH (2 ^ 1) (2 ^ 1) 0 (bsH (2 ^ 2) (2 ^ 2) 0 (bsH (2 ^ 3) (2 ^ 3) 0 (bsH (2 ^ 4) (2 ^ 4) 0 (bsH (2 ^ 5) (2 ^ 5) 0 (c, 1))))))).2 = _
      rw [v0, v1, v2, v3, v4, v5]
      have six : ∀ F : Nat → Nat, cnt F 6 = F 0 + F 1 + F 2 + F 3 + F 4 + F 5 := fun F => by
        show 0 + F 0 + F 1 + F 2 + F 3 + F 4 + F 5 = _
        omega
      unfold nK
      rw [six]
      omega
    refine ⟨fun ⟨p, p1, p2⟩ => ?_, Or.inr hfin, fun _ => hfin⟩
    have := hc3 p
    rw [h6 p p1] at this
    omega
end SALT2
