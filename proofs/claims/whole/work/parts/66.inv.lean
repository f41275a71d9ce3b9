/-! ===== the store's invariant and the acts ===== -/
/-- the store's invariant; F: the disk when all writes are done -/
def SJ (t : Nat) (S : St) (F : Bk) : Prop := okk S.1 ∧ (∀ b, hsT t (S.1 b)) ∧ (∀ b, pgV (S.1 b)) ∧ (∀ b, 24 ≤ b → S.1 b = none) ∧ S.2.2.2.2 ≤ 999 ∧ S.2.2.1.length ≤ 40 ∧ wgd S.2.1 S.2.2.1 F
def SI (t : Nat) (S : St) : Prop := SJ t S S.1 ∧ S.2.2.2.1 = deepN S.1
theorem gst_ge {f : Nat → Nat} : ∀ n i, i < n → f i ≤ gst f n
  | 0, i, h => by omega
  | n + 1, i, h => by
    simp only [gst]
    by_cases e : i = n
    · subst e; omega
    · have := gst_ge (f := f) n i (by omega); omega
theorem gst_le2 {f : Nat → Nat} {m : Nat} : ∀ n, (∀ i, i < n → f i ≤ m) → gst f n ≤ m
  | 0, _ => Nat.zero_le _
  | n + 1, h => by
    simp only [gst]
    have := gst_le2 n (fun i hi => h i (by omega))
    have := h n (by omega)
    omega
theorem deepN_ge (B : Bk) {b : Nat} (h : b < 24) : pdp (B b) ≤ deepN B := gst_ge (f := fun b => pdp (B b)) 24 b h
theorem deepN_le {B : Bk} {m : Nat} (h : ∀ b, b < 24 → pdp (B b) ≤ m) : deepN B ≤ m := gst_le2 (f := fun b => pdp (B b)) 24 h
theorem deepN_geq {B B' : Bk} (h : ∀ b, pdp (B' b) = pdp (B b)) : deepN B' = deepN B := by
  unfold deepN
  rw [show (fun b => pdp (B' b)) = fun b => pdp (B b) from funext h]
theorem deepN_6 {B : Bk} (h : okk B) : deepN B ≤ 6 := deepN_le (fun b _ => (h.2 b).2.2.1)
theorem ub_geq {B : Bk} {b : Nat} {P : Pg} (h : geq P (B b)) (c : Nat) : geq (ub B b P c) (B c) := by
  unfold ub
  split
  · rename_i e; rw [e]; exact h
  · exact geq.rf _
theorem map_geq {P : Pg} {f : List (Nat × Nat) → List (Nat × Nat)} : geq (P.map fun q => (q.1, q.2.1, f q.2.2)) P := by
  cases P with
  | none => exact geq.rf none
  | some q => exact ⟨by simp, rfl, rfl⟩
theorem SJ_wr {R : Ru} {S : St} {b t : Nat} {P : Pg} (h : SJ t S S.1) (hb : b < 24) (hg : geq P (S.1 b)) (hV : pgV P) (hh : hsT t P) : SJ t (wrt R (ub S.1 b P, S.2) b) (ub S.1 b P) := by
  obtain ⟨h1, h2, h3, h4, h5, h6, h7⟩ := h
  have hall : ∀ (Q : Pg → Prop), Q P → (∀ c, Q (S.1 c)) → ∀ c, Q (ub S.1 b P c) := fun Q q1 q2 c => by
    unfold ub
    split
    · exact q1
    · exact q2 c
  have hok : okk (ub S.1 b P) := ⟨prt_geq h1.1 (ub_geq hg), hall pgW hV.1 h1.2⟩
  have hV2 := hall pgV hV h3
  have h24 : ∀ c, 24 ≤ c → ub S.1 b P c = none := fun c hc => by rw [ub_ne (by omega)]; exact h4 c hc
  refine ⟨hok, hall (hsT t) hh h2, hV2, h24, Nat.min_le_right _ _, wrt_len (S := (ub S.1 b P, S.2)) h6, ?_⟩
  have hg2 := gdk_self hok hV2 h24
  have e : ub S.1 b (ub S.1 b P b) = ub S.1 b P := by rw [ub_self]
  have t1 := wgd_wrt (R := R) (S := (ub S.1 b P, S.2)) (F := S.1) (G := ub S.1 b P) h7 hb (by show gdk _ (ub S.1 b (ub S.1 b P b)); rw [e]; exact hg2)
  have t2 : wgd (wrt R (ub S.1 b P, S.2) b).2.1 (wrt R (ub S.1 b P, S.2) b).2.2.1 (ub S.1 b (ub S.1 b P b)) := t1
  rw [e] at t2
  exact t2
theorem nod_filter {l : List (Nat × Nat)} {p : Nat × Nat → Bool} (h : (l.map Prod.fst).Nodup) : ((l.filter p).map Prod.fst).Nodup := List.Nodup.sublist (List.Sublist.map _ List.filter_sublist) h
theorem spl_all {t : Nat} {B : Bk} {b n : Nat} (h : okk B) (hh : ∀ c, hsT t (B c)) (hV : ∀ c, pgV (B c)) (h24 : ∀ c, 24 ≤ c → B c = none) (hb : b < 24) (hn : n < 24) (hu : B b ≠ none) (hf : B n = none) (hd : pdp (B b) ≤ 5) : okk (spl t B b n) ∧ (∀ c, hsT t (spl t B b n c)) ∧ (∀ c, pgV (spl t B b n c)) ∧ (∀ c, 24 ≤ c → spl t B b n c = none) := by
  have hok := spl_okk (t := t) h hb hn hu hf hd
  have hne : n ≠ b := fun q => hu (q ▸ hf)
  have hp := (h.2 b).2.2.2
  refine ⟨hok, fun c => ?_, fun c => ⟨hok.2 c, ?_⟩, fun c hc => ?_⟩
  · unfold spl
    by_cases c1 : c = n
    · subst c1
      rw [two_n hne]
      intro e he
      have h1 := List.mem_filter.mp he
      have h2 : hsh t e.1 / 2 ^ pdp (B b) % 2 = 1 := by simpa [hiE] using h1.2
      exact (mod_spl hp).2.mpr ⟨hh b e h1.1, h2⟩
    · by_cases c2 : c = b
      · subst c2
        rw [two_b]
        intro e he
        have h1 := List.mem_filter.mp he
        have h2 : ¬ hsh t e.1 / 2 ^ pdp (B c) % 2 = 1 := by simpa [loE, hiE] using h1.2
        exact (mod_spl hp).1.mpr ⟨hh c e h1.1, by omega⟩
      · rw [two_o c1 c2]; exact hh c
  · unfold spl
    by_cases c1 : c = n
    · subst c1
      rw [two_n hne]
      exact nod_filter (hV b).2
    · by_cases c2 : c = b
      · subst c2
        rw [two_b]
        exact nod_filter (hV c).2
      · rw [two_o c1 c2]; exact (hV c).2
  · unfold spl
    rw [two_o (by omega) (by omega)]; exact h24 c hc
theorem SJ_spl {R : Ru} {S : St} {b n t : Nat} (x : Nat) (h : SJ t S S.1) (hb : b < 24) (hn : n < 24) (hu : S.1 b ≠ none) (hf : S.1 n = none) (hd : pdp (S.1 b) ≤ 5) : SJ t (wrt R (wrt R (spl t S.1 b n, S.2.1, S.2.2.1, x, S.2.2.2.2) n) b) (spl t S.1 b n) := by
  obtain ⟨h1, h2, h3, h4, h5, h6, h7⟩ := h
  obtain ⟨a1, a2, a3, a4⟩ := spl_all h1 h2 h3 h4 hb hn hu hf hd
  have hne : n ≠ b := fun q => hu (q ▸ hf)
  have hbn : spl t S.1 b n b = some (pdp (S.1 b) + 1, ppx (S.1 b), (ents (S.1 b)).filter (loE t (pdp (S.1 b)))) := two_b
  have hnn : spl t S.1 b n n = some (pdp (S.1 b) + 1, ppx (S.1 b) + 2 ^ pdp (S.1 b), (ents (S.1 b)).filter (hiE t (pdp (S.1 b)))) := two_n hne
  have hg1 : gdk (spl t S.1 b n) (ub S.1 n (spl t S.1 b n n)) := by
    refine ⟨a1.1, a1.2, fun c => ?_, fun c hc => ?_, fun c => ?_⟩
    · unfold ub
      split
      · exact a3 n
      · exact h3 c
    · rw [ub_ne (by omega)]; exact h4 c hc
    · by_cases c1 : c = n
      · subst c1; rw [ub_self]; exact Or.inl (geq.rf _)
      · rw [ub_ne c1]
        by_cases c2 : c = b
        · subst c2
          refine Or.inr ⟨n, hn, ?_, ?_, ?_, ?_, ?_, ?_, ?_, ?_⟩
          · rw [ub_ne (Ne.symm hne)]; exact hu
          · rw [hbn]; simp
          · rw [ub_self, hnn]; simp
          · rw [ub_self]; exact geq.rf _
          · rw [ub_ne (Ne.symm hne), hbn]; rfl
          · rw [ub_ne (Ne.symm hne), hbn]; rfl
          · rw [ub_self, ub_ne (Ne.symm hne), hnn]; rfl
          · rw [ub_self, ub_ne (Ne.symm hne), hnn]; rfl
        · left
          unfold spl
          rw [two_o c1 c2]; exact geq.rf _
  have e2 : ub (ub S.1 n (spl t S.1 b n n)) b (spl t S.1 b n b) = spl t S.1 b n := by
    rw [hbn, hnn]; rfl
  have w1 := wgd_wrt (R := R) (S := (spl t S.1 b n, S.2.1, S.2.2.1, x, S.2.2.2.2)) (F := S.1) h7 hn hg1
  have w2 := wgd_wrt (R := R) (S := wrt R (spl t S.1 b n, S.2.1, S.2.2.1, x, S.2.2.2.2) n) (G := spl t S.1 b n) (b := b) w1 hb (by
    show gdk _ (ub (ub S.1 n (spl t S.1 b n n)) b (spl t S.1 b n b))
    rw [e2]; exact gdk_self a1 a3 a4)
  refine ⟨a1, a2, a3, a4, Nat.min_le_right _ _, wrt_len (wrt_len (S := (spl t S.1 b n, S.2.1, S.2.2.1, x, S.2.2.2.2)) h6), ?_⟩
  have w3 : wgd (wrt R (wrt R (spl t S.1 b n, S.2.1, S.2.2.1, x, S.2.2.2.2) n) b).2.1 (wrt R (wrt R (spl t S.1 b n, S.2.1, S.2.2.1, x, S.2.2.2.2) n) b).2.2.1 (ub (ub S.1 n (spl t S.1 b n n)) b (spl t S.1 b n b)) := w2
  rw [e2] at w3
  exact w3
theorem spl_deep {t : Nat} {B : Bk} {b n : Nat} (hb : b < 24) (hn : n < 24) (hu : B b ≠ none) (hf : B n = none) : deepN (spl t B b n) = max (deepN B) (pdp (B b) + 1) := by
  have hne : n ≠ b := fun q => hu (q ▸ hf)
  have hbd : pdp (spl t B b n b) = pdp (B b) + 1 := by unfold spl; rw [two_b]; rfl
  have hb1 := deepN_ge (spl t B b n) hb
  apply Nat.le_antisymm
  · refine deepN_le (fun c hc => ?_)
    unfold spl
    by_cases c1 : c = n
    · subst c1; rw [two_n hne]; exact Nat.le_max_right _ _
    · by_cases c2 : c = b
      · subst c2; rw [two_b]; exact Nat.le_max_right _ _
      · rw [two_o c1 c2]; exact Nat.le_trans (deepN_ge B hc) (Nat.le_max_left _ _)
  · refine Nat.max_le.mpr ⟨deepN_le (fun c hc => ?_), by omega⟩
    by_cases c1 : c = n
    · subst c1; rw [hf]; exact Nat.zero_le _
    · by_cases c2 : c = b
      · subst c2; omega
      · have := deepN_ge (spl t B b n) hc
        unfold spl at this
        rw [two_o c1 c2] at this
        exact this
theorem plS_SI {R : Ru} {k : Nat} {S : St} (h : SI R.2.2.2 S) (h1 : usedN S.1 < 24) (h2 : pdp (S.1 (own S.1 (hsh R.2.2.2 k % 64))) ≤ 5) : SI R.2.2.2 (plS R k S) := by
  obtain ⟨o1, o2⟩ := h.1.1.1.own (show hsh R.2.2.2 k % 64 < 64 from Nat.mod_lt _ (by omega))
  obtain ⟨m, f1, f2, f3⟩ := free_of (B := S.1) h1
  unfold plS
  rw [f1]
  refine ⟨SJ_spl _ h.1 (own_lt _ _) f2 (clm_some o1).1 f3 h2, ?_⟩
  show max S.2.2.2.1 (pdp (S.1 (own S.1 (hsh R.2.2.2 k % 64))) + 1) = deepN (spl R.2.2.2 S.1 (own S.1 (hsh R.2.2.2 k % 64)) m)
  rw [spl_deep (own_lt _ _) f2 (clm_some o1).1 f3, h.2]
theorem hsT_own {t k : Nat} {B : Bk} (h : okk B) : hsh t k % 2 ^ pdp (B (own B (hsh t k % 64))) = ppx (B (own B (hsh t k % 64))) := by
  have h1 := (clm_some (h.1.own (show hsh t k % 64 < 64 from Nat.mod_lt _ (by omega))).1).2
  rwa [mod64 (h.2 _).2.2.1] at h1
theorem plc_SI {R : Ru} {k v : Nat} (hk : k < 1000) (hv : v ≤ 99) : ∀ (n : Nat) (S : St), SI R.2.2.2 S → room R.2.2.2 S.1 (hsh R.2.2.2 k) n → (∀ e ∈ ents (S.1 (own S.1 (hsh R.2.2.2 k % 64))), e.1 ≠ k) → SI R.2.2.2 (plc R k v n S)
  | 0, S, h, hr, hn => by
    have hl := hr.2.2.1 rfl
    have hb := own_lt S.1 (hsh R.2.2.2 k % 64)
    have ho := hsT_own (t := R.2.2.2) (k := k) h.1.1
    obtain ⟨o1, o2⟩ := h.1.1.1.own (show hsh R.2.2.2 k % 64 < 64 from Nat.mod_lt _ (by omega))
    have o3 := (clm_some o1).1
    have hV := h.1.2.2.1 (own S.1 (hsh R.2.2.2 k % 64))
    have hT := h.1.2.1 (own S.1 (hsh R.2.2.2 k % 64))
    show SI R.2.2.2 (wrt R (ub S.1 (own S.1 (hsh R.2.2.2 k % 64)) (adP (S.1 (own S.1 (hsh R.2.2.2 k % 64))) k v), S.2) (own S.1 (hsh R.2.2.2 k % 64)))
    generalize own S.1 (hsh R.2.2.2 k % 64) = b at *
    have hg : geq (adP (S.1 b) k v) (S.1 b) := map_geq (f := fun l => l ++ [(k, v)])
    refine ⟨SJ_wr h.1 hb hg ?_ ?_, ?_⟩
    · obtain ⟨⟨w1, w2, w3, w4⟩, w5⟩ := hV
      cases hB : S.1 b with
      | none => exact absurd hB o3
      | some q =>
        rw [hB] at hl w1 w2 w3 w4 w5 hn
        refine ⟨⟨?_, fun e he => ?_, w3, w4⟩, ?_⟩
        · show (q.2.2 ++ [(k, v)]).length ≤ 3
          rw [List.length_append]
          have : q.2.2.length < 3 := hl
          simp; omega
        · rcases List.mem_append.mp (show e ∈ q.2.2 ++ [(k, v)] from he) with z | z
          · exact w2 e z
          · rw [List.mem_singleton.mp z]; exact ⟨hk, hv⟩
        · show ((q.2.2 ++ [(k, v)]).map Prod.fst).Nodup
          rw [List.map_append, List.nodup_append]
          refine ⟨w5, by simp, fun a ha c hc => ?_⟩
          obtain ⟨e, e1, e2⟩ := List.mem_map.mp ha
          have : c = k := by simpa using hc
          rw [this, ← e2]; exact hn e e1
    · cases hB : S.1 b with
      | none => exact absurd hB o3
      | some q =>
        rw [hB] at hT ho
        intro e he
        rcases List.mem_append.mp (show e ∈ q.2.2 ++ [(k, v)] from he) with z | z
        · exact hT e z
        · rw [List.mem_singleton.mp z]; exact ho
    · show S.2.2.2.1 = deepN (ub S.1 b (adP (S.1 b) k v))
      rw [deepN_geq (B := S.1) (fun c => (ub_geq hg c).2.1), h.2]
  | n + 1, S, h, hr, hn => by
    have r1 := hr.1
    have r2 := hr.2.1
    obtain ⟨m, f1, f2, f3⟩ := free_of (B := S.1) (by omega)
    have hfl : (plS R k S).1 = spl R.2.2.2 S.1 (own S.1 (hsh R.2.2.2 k % 64)) m := by unfold plS; rw [f1]; rfl
    have hS := plS_SI (k := k) h (by omega) (by omega)
    refine plc_SI hk hv n (plS R k S) hS (by rw [hfl]; exact room_step h.1.1 hr f2 f3) (fun e he => ?_)
    obtain ⟨p, hp⟩ := spl_at (t := R.2.2.2) (h := hsh R.2.2.2 k) h.1.1 f2 f3 (by omega)
    rw [hfl, hp] at he
    exact hn e (List.mem_filter.mp he).1
theorem set_fst {l : List (Nat × Nat)} {i k v w : Nat} (h : l[i]? = some (k, w)) : (l.set i (k, v)).map Prod.fst = l.map Prod.fst := by
  apply List.ext_getElem?
  intro j
  rw [List.getElem?_map, List.getElem?_map, List.getElem?_set]
  by_cases e : i = j
  · subst e
    rw [if_pos rfl, if_pos (List.getElem?_eq_some_iff.mp h).1, h]; rfl
  · rw [if_neg e]
theorem putS_SI {R : Ru} {k v : Nat} (hk : k < 1000) (hv : v ≤ 99) {S : St} (h : SI R.2.2.2 S) : SI R.2.2.2 (putS R k v S).2 := by
  unfold putS
  cases hi : kIdx (ents (S.1 (own S.1 (hsh R.2.2.2 k % 64)))) k with
  | some i =>
    obtain ⟨w, hw⟩ := kIdx_some hi
    have hb := own_lt S.1 (hsh R.2.2.2 k % 64)
    have hV := h.1.2.2.1 (own S.1 (hsh R.2.2.2 k % 64))
    have hT := h.1.2.1 (own S.1 (hsh R.2.2.2 k % 64))
    dsimp only
    generalize own S.1 (hsh R.2.2.2 k % 64) = b at *
    have hg : geq (stP (S.1 b) i k v) (S.1 b) := map_geq (f := fun l => l.set i (k, v))
    refine ⟨SJ_wr h.1 hb hg ?_ ?_, ?_⟩
    · obtain ⟨⟨w1, w2, w3, w4⟩, w5⟩ := hV
      cases hB : S.1 b with
      | none => rw [hB] at hw; simp [ents] at hw
      | some q =>
        rw [hB] at hw w1 w2 w3 w4 w5
        refine ⟨⟨?_, fun e he => ?_, w3, w4⟩, ?_⟩
        · show (q.2.2.set i (k, v)).length ≤ 3
          rw [List.length_set]; exact w1
        · rcases List.mem_or_eq_of_mem_set (show e ∈ q.2.2.set i (k, v) from he) with z | z
          · exact w2 e z
          · rw [z]; exact ⟨hk, hv⟩
        · show ((q.2.2.set i (k, v)).map Prod.fst).Nodup
          rw [set_fst (l := q.2.2) (w := w) hw]; exact w5
    · cases hB : S.1 b with
      | none => rw [hB] at hw; simp [ents] at hw
      | some q =>
        rw [hB] at hT hw
        intro e he
        rcases List.mem_or_eq_of_mem_set (show e ∈ q.2.2.set i (k, v) from he) with z | z
        · exact hT e z
        · rw [z]; exact hT (k, w) (List.mem_of_getElem? hw)
    · show S.2.2.2.1 = deepN (ub S.1 b (stP (S.1 b) i k v))
      rw [deepN_geq (B := S.1) (fun c => (ub_geq hg c).2.1), h.2]
  | none =>
    dsimp only
    split
    · exact h
    · cases hn : ndS R.2.2.2 S.1 (own S.1 (hsh R.2.2.2 k % 64)) (hsh R.2.2.2 k) with
      | none => exact h
      | some n => exact plc_SI hk hv n S h (room_of h.1.1 hn) (kIdx_none.mp hi)
theorem SJ_jn {R : Ru} {S : St} {lo up m t : Nat} (h : SJ t S S.1) (hlo : lo < 24) (hup : up < 24) (hne : up ≠ lo) (hu1 : S.1 lo ≠ none) (hu2 : S.1 up ≠ none) (hd1 : pdp (S.1 lo) = m + 1) (hd2 : pdp (S.1 up) = m + 1) (hm : m ≤ 5) (hp1 : ppx (S.1 lo) < 2 ^ m) (hp2 : ppx (S.1 up) = ppx (S.1 lo) + 2 ^ m) (hl : (ents (S.1 lo)).length + (ents (S.1 up)).length ≤ 3) : SJ t (wrt R (wrt R (jn S.1 lo up, S.2) lo) up) (jn S.1 lo up) := by
  obtain ⟨h1, h2, h3, h4, h5, h6, h7⟩ := h
  have hok := jn_okk h1 hlo hup hne hu1 hu2 hd1 hd2 hm hp1 hp2 hl
  have hlo2 : jn S.1 lo up lo = some (m, ppx (S.1 lo), ents (S.1 lo) ++ ents (S.1 up)) := by unfold jn; rw [two_b, hd1, Nat.add_sub_cancel]
  have hup2 : jn S.1 lo up up = none := two_n hne
  have hT1 : ∀ e ∈ ents (S.1 lo), hsh t e.1 % 2 ^ (m + 1) = ppx (S.1 lo) := fun e he => by have := h2 lo e he; rwa [hd1] at this
  have hT2 : ∀ e ∈ ents (S.1 up), hsh t e.1 % 2 ^ (m + 1) = ppx (S.1 lo) + 2 ^ m := fun e he => by have := h2 up e he; rwa [hd2, hp2] at this
  have hnd : ((ents (S.1 lo) ++ ents (S.1 up)).map Prod.fst).Nodup := by
    rw [List.map_append, List.nodup_append]
    refine ⟨(h3 lo).2, (h3 up).2, fun a ha c hc => ?_⟩
    obtain ⟨e, e1, e2⟩ := List.mem_map.mp ha
    obtain ⟨f, f1, f2⟩ := List.mem_map.mp hc
    intro z
    have w1 := hT1 e e1
    have w2 := hT2 f f1
    rw [e2, z, ← f2, w2] at w1
    have := Nat.two_pow_pos m
    omega
  have hTall : ∀ c, hsT t (jn S.1 lo up c) := fun c => by
    by_cases c2 : c = lo
    · subst c2
      rw [hlo2]
      intro e he
      rcases List.mem_append.mp (show e ∈ ents (S.1 c) ++ ents (S.1 up) from he) with z | z
      · exact ((mod_spl hp1).1.mp (hT1 e z)).1
      · exact ((mod_spl hp1).2.mp (hT2 e z)).1
    · by_cases c1 : c = up
      · subst c1; rw [hup2]; intro e he; simp [ents] at he
      · unfold jn; rw [two_o c1 c2]; exact h2 c
  have hVall : ∀ c, pgV (jn S.1 lo up c) := fun c => ⟨hok.2 c, by
    by_cases c2 : c = lo
    · subst c2; rw [hlo2]; exact hnd
    · by_cases c1 : c = up
      · subst c1; rw [hup2]; simp [ents]
      · unfold jn; rw [two_o c1 c2]; exact (h3 c).2⟩
  have h24 : ∀ c, 24 ≤ c → jn S.1 lo up c = none := fun c hc => by unfold jn; rw [two_o (by omega) (by omega)]; exact h4 c hc
  have hg1 : gdk S.1 (ub S.1 lo (jn S.1 lo up lo)) := by
    refine ⟨h1.1, h1.2, fun c => ?_, fun c hc => ?_, fun c => ?_⟩
    · unfold ub
      split
      · exact hVall lo
      · exact h3 c
    · rw [ub_ne (by omega)]; exact h4 c hc
    · by_cases c2 : c = lo
      · subst c2
        refine Or.inr ⟨up, hup, ?_, hu1, ?_, ?_, ?_, ?_, ?_, ?_⟩
        · rw [ub_self, hlo2]; simp
        · rw [ub_ne hne]; exact hu2
        · rw [ub_ne hne]; exact geq.rf _
        · rw [ub_self, hlo2]; exact hd1
        · rw [ub_self, hlo2]; rfl
        · rw [ub_ne hne, ub_self, hlo2]; exact hd2
        · rw [ub_ne hne, ub_self, hlo2]; exact hp2
      · rw [ub_ne c2]; exact Or.inl (geq.rf _)
  have e2 : ub (ub S.1 lo (jn S.1 lo up lo)) up (jn S.1 lo up up) = jn S.1 lo up := by
    funext c
    by_cases c1 : c = up
    · subst c1; rw [ub_self]
    · rw [ub_ne c1]
      by_cases c2 : c = lo
      · subst c2; rw [ub_self]
      · rw [ub_ne c2]; unfold jn; rw [two_o c1 c2]
  have w1 := wgd_wrt (R := R) (S := (jn S.1 lo up, S.2)) (F := S.1) h7 hlo hg1
  have w2 := wgd_wrt (R := R) (S := wrt R (jn S.1 lo up, S.2) lo) (G := jn S.1 lo up) (b := up) w1 hup (by
    show gdk _ (ub (ub S.1 lo (jn S.1 lo up lo)) up (jn S.1 lo up up))
    rw [e2]; exact gdk_self hok hVall h24)
  refine ⟨hok, hTall, hVall, h24, Nat.min_le_right _ _, wrt_len (wrt_len (S := (jn S.1 lo up, S.2)) h6), ?_⟩
  have w3 : wgd (wrt R (wrt R (jn S.1 lo up, S.2) lo) up).2.1 (wrt R (wrt R (jn S.1 lo up, S.2) lo) up).2.2.1 (ub (ub S.1 lo (jn S.1 lo up lo)) up (jn S.1 lo up up)) := w2
  rw [e2] at w3
  exact w3
theorem drL_SJ {R : Ru} {t : Nat} : ∀ (c b : Nat) (S : St), SJ t S S.1 → b < 24 → S.1 b ≠ none → SJ t (drL R c b S).2 (drL R c b S).2.1
  | 0, b, S, h, hb, hu => h
  | c + 1, b, S, h, hb, hu => by
    unfold drL
    cases hw : twn S.1 b with
    | none => exact h
    | some w =>
      obtain ⟨t1, t2, m, t3, t4, t5, t6⟩ := twn_spec h.1 hw
      have hpm := Nat.two_pow_pos m
      dsimp only
      by_cases q : (ents (S.1 b)).length + (ents (S.1 w)).length ≤ 3
      · rw [if_pos q]
        by_cases p : ppx (S.1 w) ≤ ppx (S.1 b)
        · have t7 := t6.resolve_left (fun z => by omega)
          have hne : b ≠ w := fun z => by rw [z] at t7; omega
          rw [if_pos p]
          exact drL_SJ c w _ (SJ_jn h t1 hb hne t2 hu t5 t4 t3 t7.1 t7.2 (by omega)) t1 (by show jn S.1 w b w ≠ none; unfold jn; rw [two_b]; simp)
        · have t7 := t6.resolve_right (fun z => by omega)
          have hne : w ≠ b := fun z => by rw [z] at t7; omega
          rw [if_neg p]
          exact drL_SJ c b _ (SJ_jn h hb t1 hne hu t2 t4 t5 t3 t7.1 t7.2 q) hb (by show jn S.1 b w b ≠ none; unfold jn; rw [two_b]; simp)
      · rw [if_neg q]; exact h
theorem SJ_fin {t : Nat} {S : St} (h : SJ t S S.1) : SI t (finS S) := by
  have e : finS S = (S.1, S.2.1, S.2.2.1, deepN S.1, S.2.2.2.2) := by simp only [finS]
  rw [e]
  generalize hd : deepN S.1 = dd
  exact ⟨h, hd.symm⟩
theorem rm_SJ {R : Ru} {S : St} {b i t : Nat} (h : SJ t S S.1) (hb : b < 24) : SJ t (wrt R (ub S.1 b (rmP (S.1 b) i), S.2) b) (ub S.1 b (rmP (S.1 b) i)) := by
  have hV := h.2.2.1 b
  have hT := h.2.1 b
  refine SJ_wr h hb (map_geq (f := fun l => l.eraseIdx i)) ?_ ?_
  · cases hB : S.1 b with
    | none => rw [hB] at hV; exact hV
    | some q =>
      rw [hB] at hV
      obtain ⟨⟨w1, w2, w3, w4⟩, w5⟩ := hV
      refine ⟨⟨Nat.le_trans (List.length_eraseIdx_le _ _) w1, fun e he => w2 e (List.mem_of_mem_eraseIdx he), w3, w4⟩, ?_⟩
      exact List.Nodup.sublist (List.Sublist.map _ (List.eraseIdx_sublist _ _)) w5
  · cases hB : S.1 b with
    | none => intro e he; simp [rmP, ents] at he
    | some q =>
      rw [hB] at hT
      intro e he
      exact hT e (List.mem_of_mem_eraseIdx (show e ∈ q.2.2.eraseIdx i from he))
theorem dropS_SI {R : Ru} {k : Nat} {S : St} (h : SI R.2.2.2 S) : SI R.2.2.2 (dropS R k S).2 := by
  obtain ⟨o1, o2⟩ := h.1.1.1.own (show hsh R.2.2.2 k % 64 < 64 from Nat.mod_lt _ (by omega))
  have o3 := (clm_some o1).1
  unfold dropS
  cases hi : kIdx (ents (S.1 (own S.1 (hsh R.2.2.2 k % 64)))) k with
  | none => exact h
  | some i =>
    have hb := own_lt S.1 (hsh R.2.2.2 k % 64)
    dsimp only
    generalize own S.1 (hsh R.2.2.2 k % 64) = b at *
    have hne : ub S.1 b (rmP (S.1 b) i) b ≠ none := by
      rw [ub_self]
      unfold rmP
      cases hB : S.1 b with
      | none => exact absurd hB o3
      | some q => simp
    exact SJ_fin (drL_SJ 6 b (wrt R (ub S.1 b (rmP (S.1 b) i), S.2) b) (rm_SJ h.1 hb) hb hne)
/-- power is lost behind n writes -/
def lsS (t n : Nat) (S : St) : St := (rebB t (eldN n S).2.1, rebB t (eldN n S).2.1, [], deepN (rebB t (eldN n S).2.1), (eldN n S).2.2.2.2)
theorem SI_eldN {t : Nat} {S : St} (n : Nat) (h : SI t S) : SI t (eldN n S) := by
  obtain ⟨⟨h1, h2, h3, h4, h5, h6, h7⟩, h8⟩ := h
  have e1 := eldN_file n S
  have e2 := eldN_time n S
  have e3 := eldN_len n S
  have w := wgd_eldN n S h7
  refine ⟨⟨by rw [e1]; exact h1, by rw [e1]; exact h2, by rw [e1]; exact h3, by rw [e1]; exact h4, by rw [e2]; exact h5, by rw [e3]; omega, by rw [e1]; exact w⟩, by rw [e1, e2]; exact h8⟩
theorem SI_gd {t : Nat} {S : St} (n : Nat) (h : SI t S) : ∃ G, gdk G (eldN n S).2.1 := wgd_head (SI_eldN n h).1.2.2.2.2.2.2
theorem SI_ls {t t' : Nat} {S : St} (n : Nat) (h : SI t' S) : SI t (lsS t n S) := by
  obtain ⟨G, hg⟩ := SI_gd n h
  have hok := rebB_okk (t := t) hg
  have hV := rebB_pgV (t := t) hg
  have ht := (SI_eldN n h).1.2.2.2.2.1
  have h24 : ∀ b, 24 ≤ b → rebB t (eldN n S).2.1 b = none := fun b hb => by
    unfold rebB rebN
    rw [if_neg (by omega)]; exact hg.2.2.2.1 b hb
  unfold lsS
  generalize hd : deepN (rebB t (eldN n S).2.1) = dd
  exact ⟨⟨hok, rebB_hsT hg, hV, h24, ht, Nat.zero_le _, rfl, _, gdk_self hok hV h24⟩, hd.symm⟩
theorem SI_time {t : Nat} {S : St} (h : SI t S) {x : Nat} (hx : x ≤ 999) : SI t (S.1, S.2.1, S.2.2.1, S.2.2.2.1, x) := ⟨⟨h.1.1, h.1.2.1, h.1.2.2.1, h.1.2.2.2.1, hx, h.1.2.2.2.2.2⟩, h.2⟩
theorem cnt_0 {f : Nat → Nat} : ∀ n, cnt f n = 0 → ∀ i, i < n → f i = 0
  | 0, _, i, hi => by omega
  | n + 1, h, i, hi => by
    simp only [cnt] at h
    by_cases e : i = n
    · subst e; omega
    · exact cnt_0 n (by omega) i (by omega)
theorem SI_salt {t t' : Nat} {S : St} (h : SI t S) (hk : keysN S.1 = 0) : SI t' S := ⟨⟨h.1.1, fun b e he => by
  by_cases hb : b < 24
  · have := cnt_0 (f := fun b => (ents (S.1 b)).length) 24 hk b hb
    rw [List.length_eq_zero_iff.mp this] at he; simp at he
  · rw [h.1.2.2.2.1 b (by omega)] at he; simp [ents] at he, h.1.2.2⟩, h.2⟩
/-- the store at first -/
def st0 : St := (fun b => if b = 0 then some (0, 0, []) else none, fun b => if b = 0 then some (0, 0, []) else none, [], 0, 0)
theorem st0_SI (t : Nat) : SI t st0 := by
  have hok : okk st0.1 := by
    refine ⟨fun i hi => ⟨0, by omega, ?_, fun c hc q => ?_⟩, fun b => ?_⟩
    · show clm (if (0 : Nat) = 0 then some (0, 0, []) else none) i = true
      rw [if_pos rfl]
      exact clm_of.mpr (Nat.mod_one i)
    · by_cases e : c = 0
      · exact e
      · have : clm (if c = 0 then some (0, 0, []) else none) i = true := q
        rw [if_neg e] at this
        simp [clm] at this
    · show pgW (if b = 0 then some (0, 0, []) else none)
      split
      · exact ⟨by simp [ents], by simp [ents], by simp [pdp], by simp [ppx, pdp]⟩
      · exact ⟨by simp [ents], by simp [ents], by simp [pdp], by simp [ppx, pdp]⟩
  have hE : ∀ b, ents (st0.1 b) = [] := fun b => by
    show ents (if b = 0 then some (0, 0, []) else none) = []
    split <;> rfl
  have hV : ∀ b, pgV (st0.1 b) := fun b => ⟨hok.2 b, by rw [hE]; simp⟩
  have h24 : ∀ b, 24 ≤ b → st0.1 b = none := fun b hb => if_neg (by omega)
  refine ⟨⟨hok, fun b e he => by rw [hE] at he; simp at he, hV, h24, by show 0 ≤ 999; omega, by show 0 ≤ 40; omega, rfl, _, gdk_self hok hV h24⟩, ?_⟩
  show 0 = deepN st0.1
  apply Nat.le_antisymm (Nat.zero_le _)
  refine deepN_le (fun b _ => ?_)
  show pdp (if b = 0 then some (0, 0, []) else none) ≤ 0
  split <;> simp [pdp]
