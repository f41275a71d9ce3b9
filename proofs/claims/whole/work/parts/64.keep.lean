/-! ===== the store's form is kept ===== -/
theorem map_okk {B : Bk} {b : Nat} {f : List (Nat × Nat) → List (Nat × Nat)} (h : okk B) (h1 : (f (ents (B b))).length ≤ 3) (h2 : ∀ e ∈ f (ents (B b)), e.1 < 1000 ∧ e.2 ≤ 99) : okk (ub B b ((B b).map fun q => (q.1, q.2.1, f q.2.2))) := by
  have hc : ∀ c j, clm (ub B b ((B b).map fun q => (q.1, q.2.1, f q.2.2)) c) j = clm (B c) j := clm_ub (fun j => clm_map (f := f) j)
  refine ⟨fun j hj => ?_, fun c => ?_⟩
  · obtain ⟨q, q1, q2, q3⟩ := h.1 j hj
    exact ⟨q, q1, by rw [hc]; exact q2, fun c c1 c2 => q3 c c1 (by rw [hc] at c2; exact c2)⟩
  · unfold ub
    split
    · have hW := h.2 b
      cases hB : B b with
      | none => rw [hB] at hW; exact hW
      | some w =>
        rw [hB] at hW h1 h2
        exact ⟨h1, h2, hW.2.2⟩
    · exact h.2 c
theorem plc_okk {R : Ru} {k v : Nat} (hk : k < 1000) (hv : v ≤ 99) : ∀ (n : Nat) (S : St), okk S.1 → room R.2.2.2 S.1 (hsh R.2.2.2 k) n → okk (plc R k v n S).1
  | 0, S, h, hr => by
    have hl := hr.2.2.1 rfl
    have hW := h.2 (own S.1 (hsh R.2.2.2 k % 64))
    refine map_okk (f := fun l => l ++ [(k, v)]) h ?_ (fun e he => ?_)
    · rw [List.length_append]
      show _ + 1 ≤ 3
      omega
    · rcases List.mem_append.mp he with q | q
      · exact hW.2.1 e q
      · rw [List.mem_singleton.mp q]; exact ⟨hk, hv⟩
  | n + 1, S, h, hr => by
    obtain ⟨o1, o2⟩ := h.1.own (show hsh R.2.2.2 k % 64 < 64 from Nat.mod_lt _ (by omega))
    have r1 := hr.1
    have r2 := hr.2.1
    obtain ⟨m, f1, f2, f3⟩ := free_of (B := S.1) (by omega)
    have hfl : (plS R k S).1 = spl R.2.2.2 S.1 (own S.1 (hsh R.2.2.2 k % 64)) m := by unfold plS; rw [f1]; rfl
    show okk (plc R k v n (plS R k S)).1
    exact plc_okk hk hv n _ (by rw [hfl]; exact spl_okk h (own_lt _ _) f2 (clm_some o1).1 f3 (by omega)) (by rw [hfl]; exact room_step h hr f2 f3)
theorem putS_okk {R : Ru} {k v : Nat} (hk : k < 1000) (hv : v ≤ 99) {S : St} (h : okk S.1) : okk (putS R k v S).2.1 := by
  have hW := h.2 (own S.1 (hsh R.2.2.2 k % 64))
  unfold putS
  cases hi : kIdx (ents (S.1 (own S.1 (hsh R.2.2.2 k % 64)))) k with
  | some i =>
    refine map_okk (f := fun l => l.set i (k, v)) h ?_ (fun e he => ?_)
    · rw [List.length_set]; exact hW.1
    · rcases List.mem_or_eq_of_mem_set he with q | q
      · exact hW.2.1 e q
      · rw [q]; exact ⟨hk, hv⟩
  | none =>
    dsimp only
    split
    · exact h
    · cases hn : ndS R.2.2.2 S.1 (own S.1 (hsh R.2.2.2 k % 64)) (hsh R.2.2.2 k) with
      | none => exact h
      | some n => exact plc_okk hk hv n S h (room_of h hn)
theorem drL_okk {R : Ru} : ∀ (c b : Nat) (S : St), okk S.1 → b < 24 → S.1 b ≠ none → okk (drL R c b S).2.1
  | 0, b, S, h, hb, hu => h
  | c + 1, b, S, h, hb, hu => by
    unfold drL
    cases hw : twn S.1 b with
    | none => exact h
    | some w =>
      obtain ⟨t1, t2, m, t3, t4, t5, t6⟩ := twn_spec h hw
      have hpm := Nat.two_pow_pos m
      dsimp only
      by_cases q : (ents (S.1 b)).length + (ents (S.1 w)).length ≤ 3
      · rw [if_pos q]
        by_cases p : ppx (S.1 w) ≤ ppx (S.1 b)
        · have t7 := t6.resolve_left (fun z => by omega)
          have hne : b ≠ w := fun z => by rw [z] at t7; omega
          rw [if_pos p]
          exact drL_okk c w _ (jn_okk h t1 hb hne t2 hu t5 t4 t3 t7.1 t7.2 (by omega)) t1 (by show jn S.1 w b w ≠ none; unfold jn; rw [two_b]; simp)
        · have t7 := t6.resolve_right (fun z => by omega)
          have hne : w ≠ b := fun z => by rw [z] at t7; omega
          rw [if_neg p]
          exact drL_okk c b _ (jn_okk h hb t1 hne hu t2 t4 t5 t3 t7.1 t7.2 q) hb (by show jn S.1 b w b ≠ none; unfold jn; rw [two_b]; simp)
      · rw [if_neg q]; exact h
theorem fin_1 (S : St) : (finS S).1 = S.1 := by simp only [finS]
theorem dropS_okk {R : Ru} {k : Nat} {S : St} (h : okk S.1) : okk (dropS R k S).2.1 := by
  obtain ⟨o1, o2⟩ := h.1.own (show hsh R.2.2.2 k % 64 < 64 from Nat.mod_lt _ (by omega))
  have o3 := (clm_some o1).1
  unfold dropS
  cases hi : kIdx (ents (S.1 (own S.1 (hsh R.2.2.2 k % 64)))) k with
  | none => exact h
  | some i =>
    have hne : ub S.1 (own S.1 (hsh R.2.2.2 k % 64)) (rmP (S.1 (own S.1 (hsh R.2.2.2 k % 64))) i) (own S.1 (hsh R.2.2.2 k % 64)) ≠ none := by
      rw [ub_self]
      unfold rmP
      cases hB : S.1 (own S.1 (hsh R.2.2.2 k % 64)) with
      | none => exact absurd hB o3
      | some q => simp
    have hb := own_lt S.1 (hsh R.2.2.2 k % 64)
    have hr := rm_okk (b := own S.1 (hsh R.2.2.2 k % 64)) (i := i) h
    dsimp only
    rw [fin_1]
    generalize own S.1 (hsh R.2.2.2 k % 64) = b at *
    exact drL_okk 6 b (wrt R (ub S.1 b (rmP (S.1 b) i), S.2) b) hr hb hne
