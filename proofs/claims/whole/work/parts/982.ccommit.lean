/-! ===== the class: an act is kept ===== -/
theorem cnt_ap (F : Nat → Nat) (a : Nat) : ∀ c, cnt F (a + c) = cnt F a + cnt (fun i => F (a + i)) c
  | 0 => rfl
  | c + 1 => by
    show cnt F (a + c) + F (a + c) = cnt F a + (cnt (fun i => F (a + i)) c + F (a + c))
    rw [cnt_ap F a c]; omega
theorem cnt_hd (F : Nat → Nat) : ∀ c, cnt F (c + 1) = F 0 + cnt (fun i => F (i + 1)) c
  | 0 => by show 0 + F 0 = F 0 + 0; omega
  | c + 1 => by
    have := cnt_hd F c
    show cnt F (c + 1) + F (c + 1) = F 0 + (cnt (fun i => F (i + 1)) c + F (c + 1))
    omega
theorem cnt_sw {F : Nat → Nat} {a c N : Nat} (ha : a < N) (hc : c < N) (hne : a ≠ c) : cnt (fun i => if i = a then F c else if i = c then F a else F i) N = cnt F N := by
  have h1 := (cnt_upd (f := F) (g := fun i => if i = a then F c else F i) (m := a) (fun i hi => if_neg hi) N).1 ha
  have h2 := (cnt_upd (f := fun i => if i = a then F c else F i) (g := fun i => if i = a then F c else if i = c then F a else F i) (m := c) (fun i hi => by
    by_cases z : i = a
    · rw [if_pos z, if_pos z]
    · rw [if_neg z, if_neg z, if_neg hi]) N).1 hc
  rw [if_pos rfl] at h1
  rw [if_neg (fun z => hne z.symm), if_neg (fun z => hne z.symm), if_pos rfl] at h2
  omega
theorem cnt_rot {F : Nat → Nat} {b N : Nat} (hb : b + 16 ≤ N) : cnt (fun i => if b ≤ i ∧ i < b + 15 then F (i + 1) else if i = b + 15 then F b else F i) N = cnt F N := by
  obtain ⟨e, rfl⟩ : ∃ e, N = b + 16 + e := ⟨N - (b + 16), by omega⟩
  generalize hG : (fun i => if b ≤ i ∧ i < b + 15 then F (i + 1) else if i = b + 15 then F b else F i) = G
  have g : ∀ i, G i = if b ≤ i ∧ i < b + 15 then F (i + 1) else if i = b + 15 then F b else F i := fun i => by rw [← hG]
  have e1 : cnt G b = cnt F b := cnt_cong b (fun i hi => by rw [g, if_neg (by omega), if_neg (by omega)])
  have e2 : cnt (fun i => G (b + 16 + i)) e = cnt (fun i => F (b + 16 + i)) e := cnt_cong e (fun i hi => by rw [g, if_neg (by omega), if_neg (by omega)])
  have e3 : cnt (fun i => G (b + i)) 15 = cnt (fun i => F (b + (i + 1))) 15 := cnt_cong 15 (fun i hi => by rw [g, if_pos (by omega)]; rfl)
  have e4 : G (b + 15) = F b := by rw [g, if_neg (by omega), if_pos rfl]
  have h1 := cnt_ap G (b + 16) e
  have h2 := cnt_ap F (b + 16) e
  have h3 := cnt_ap G b 16
  have h4 := cnt_ap F b 16
  have h5 : cnt (fun i => F (b + i)) 16 = F b + cnt (fun i => F (b + (i + 1))) 15 := cnt_hd (fun i => F (b + i)) 15
  have h6 : cnt (fun i => G (b + i)) 16 = cnt (fun i => G (b + i)) 15 + G (b + 15) := rfl
  omega
/-- which place comes where when a row from j0 is kept in a history of m rows -/
def sgm (b j0 m i : Nat) : Nat := if m = 16 then (if i = j0 then b else if b ≤ i ∧ i < b + 15 then i + 1 else if i = b + 15 then j0 else i) else if i = b + m then j0 else if i = j0 then b + m else i
theorem sgm_cnt {F : Nat → Nat} {b j0 m : Nat} (hb : b + 16 ≤ 34) (hj : j0 < 34) (hj2 : j0 < b ∨ b + 16 ≤ j0) (hm : m ≤ 16) : cnt (fun i => F (sgm b j0 m i)) 34 = cnt F 34 := by
  unfold sgm
  by_cases e : m = 16
  · have h1 := cnt_rot (F := F) (b := b) (N := 34) hb
    have h2 := cnt_sw (F := fun i => if b ≤ i ∧ i < b + 15 then F (i + 1) else if i = b + 15 then F b else F i) (a := b + 15) (c := j0) (N := 34) (by omega) hj (by omega)
    rw [← h1, ← h2]
    refine cnt_cong _ (fun i hi => ?_)
    rw [if_pos e]
    by_cases z1 : i = j0
    · rw [if_pos z1, if_neg (show ¬ i = b + 15 by omega), if_pos z1, if_neg (show ¬ (b ≤ b + 15 ∧ b + 15 < b + 15) by omega), if_pos rfl]
    · rw [if_neg z1]
      by_cases z2 : b ≤ i ∧ i < b + 15
      · rw [if_pos z2, if_neg (show ¬ i = b + 15 by omega), if_neg z1, if_pos z2]
      · rw [if_neg z2]
        by_cases z3 : i = b + 15
        · rw [if_pos z3, if_pos z3, if_neg (show ¬ (b ≤ j0 ∧ j0 < b + 15) by omega), if_neg (show ¬ j0 = b + 15 by omega)]
        · rw [if_neg z3, if_neg z3, if_neg z1, if_neg z2, if_neg z3]
  · have h2 := cnt_sw (F := F) (a := b + m) (c := j0) (N := 34) (by omega) hj (by omega)
    rw [← h2]
    refine cnt_cong _ (fun i hi => ?_)
    rw [if_neg e]
    by_cases z1 : i = b + m
    · rw [if_pos z1, if_pos z1]
    · rw [if_neg z1, if_neg z1]
      by_cases z2 : i = j0
      · rw [if_pos z2, if_pos z2]
      · rw [if_neg z2, if_neg z2]
theorem sgm_lt {b j0 m i : Nat} (hb : b + 16 ≤ 34) (hj : j0 < 34) (hm : m ≤ 16) (hi : i < 36) : sgm b j0 m i < 36 := by
  unfold sgm
  repeat' split
  all_goals omega
theorem sgm_inj {b j0 m i j : Nat} (hj2 : j0 < b ∨ b + 16 ≤ j0) (hm : m ≤ 16) (h : sgm b j0 m i = sgm b j0 m j) : i = j := by
  unfold sgm at h
  by_cases e : m = 16
  · rw [if_pos e, if_pos e] at h
    repeat' split at h
    all_goals omega
  · rw [if_neg e, if_neg e] at h
    repeat' split at h
    all_goals omega
theorem sgm_no {b j0 m i : Nat} (h1 : i < b ∨ b + 16 ≤ i) (h2 : i ≠ j0) (hm : m ≤ 16) : sgm b j0 m i = i := by
  unfold sgm
  repeat' split
  all_goals omega
theorem kph_get {L : List (St × Nat)} {x q : St × Nat} {i : Nat} (hl : L.length ≤ 16) (h : (kph L x)[i]? = some q) : (i = (if L.length = 16 then 15 else L.length) ∧ q = x) ∨ (i < (if L.length = 16 then 15 else L.length) ∧ L[if L.length = 16 then i + 1 else i]? = some q) := by
  unfold kph at h
  by_cases e : L.length = 16
  · rw [if_pos e] at h
    rw [if_pos e, if_pos e]
    have hdl : (L.drop 1).length = 15 := by rw [List.length_drop]; omega
    by_cases z : i < 15
    · rw [List.getElem?_append_left (by omega), List.getElem?_drop, Nat.add_comm] at h
      exact Or.inr ⟨z, h⟩
    · rw [List.getElem?_append_right (by omega), hdl] at h
      have hi := (List.getElem?_eq_some_iff.mp h).1
      have hi' : i - 15 < 1 := hi
      have : i = 15 := by omega
      subst this
      cases h
      exact Or.inl ⟨rfl, rfl⟩
  · rw [if_neg e] at h
    rw [if_neg e, if_neg e]
    by_cases z : i < L.length
    · rw [List.getElem?_append_left z] at h
      exact Or.inr ⟨z, h⟩
    · rw [List.getElem?_append_right (by omega)] at h
      have hi := (List.getElem?_eq_some_iff.mp h).1
      have hi' : i - L.length < 1 := hi
      have : i = L.length := by omega
      subst this
      rw [Nat.sub_self] at h
      cases h
      exact Or.inl ⟨rfl, rfl⟩
theorem kph_ln {L : List (St × Nat)} {x : St × Nat} (hl : L.length ≤ 16) : (kph L x).length = if L.length = 16 then 16 else L.length + 1 := by
  unfold kph
  rw [List.length_append]
  by_cases e : L.length = 16
  · rw [if_pos e, if_pos e, List.length_drop]; simp; omega
  · rw [if_neg e, if_neg e]; rfl
section CCOMMIT
variable {E : Nat × (Nat → Int32)} {d : Nat} {A A' : xH} {X : Xs} {L Lo : List (St × Nat)} {I : Nat → Option Kp} {n : NM} {pl : Nat → Option Nat} {h b : Nat}
theorem SX.ok {p : Nat} (g : SX A p) : xelok A 5 (some p) = true := by
  obtain ⟨s, g⟩ := g
  unfold xelok
  dsimp only
  rw [g.cls]; rfl
/-- after rows have been moved: the history that took one -/
theorem HS.kept (hb : hb2 h b) {L' : List (St × Nat)} (hh : HS A h b pl L') (hD : DP A pl) {j0 p kd : Nat} {S : St} (hj : j0 < 36) (hj2 : j0 < b ∨ b + 16 ≤ j0) (hpl : pl j0 = some p) (hsc : SC A p S) {k2 : Nat → Option Nat} {f f2 : Nat → Int32} (hk2 : ∀ j, j < 16 → k2 j = if L'.length = 16 then (if j = 15 then some p else pl (b + (j + 1))) else if j = L'.length then some p else pl (b + j)) (hf : ∀ i q, L'[i]? = some q → f i = nI q.2) (hf2 : ∀ j, j < 16 → f2 j = if L'.length = 16 then (if j = 15 then nI kd else f (j + 1)) else if j = L'.length then nI kd else f j) (hR : HR A' h (oV (pl (sgm b j0 L'.length (b + 16)))) (if L'.length = 16 then 16 else L'.length + 1) k2 f2) (hc : ∀ q, 69 ≤ q → A'[q]? = A[q]?) : HS A' h b (fun i => pl (sgm b j0 L'.length i)) (kph L' (S, kd)) := by
  have hb' := id hb
  unfold hb2 at hb'
  obtain ⟨-, -, -, hl, hrow⟩ := hh
  have hln := kph_ln (x := (S, kd)) hl
  refine ⟨by rw [hln]; exact hR.1, ⟨k2, hR.2.1, fun i hi => ?_⟩, ⟨f2, hR.2.2, fun i q hq => ?_⟩, by rw [hln]; split <;> omega, fun i q hq => ?_⟩
  · rw [hk2 i hi]
    unfold sgm
    dsimp only
    by_cases e : L'.length = 16
    · rw [if_pos e, if_pos e, if_neg (show ¬ b + i = j0 by omega)]
      by_cases z : i = 15
      · rw [if_pos z, if_neg (by omega), if_pos (by omega), hpl]
      · rw [if_neg z, if_pos (by omega)]; rfl
    · rw [if_neg e, if_neg e]
      by_cases z : i = L'.length
      · rw [if_pos z, if_pos (by omega), hpl]
      · rw [if_neg z, if_neg (by omega), if_neg (show ¬ b + i = j0 by omega)]
  · have hi16 : i < 16 := by
      have := (List.getElem?_eq_some_iff.mp hq).1
      rw [hln] at this
      split at this <;> omega
    rw [hf2 i hi16]
    rcases kph_get hl hq with ⟨h1, rfl⟩ | ⟨h1, h2⟩
    · by_cases e : L'.length = 16
      · rw [if_pos e] at h1
        rw [if_pos e, if_pos h1]
      · rw [if_neg e] at h1
        rw [if_neg e, if_pos h1]
    · by_cases e : L'.length = 16
      · rw [if_pos e] at h1 h2
        rw [if_pos e, if_neg (by omega)]; exact hf _ _ h2
      · rw [if_neg e] at h1 h2
        rw [if_neg e, if_neg (by omega)]; exact hf _ _ h2
  · rcases kph_get hl hq with ⟨h1, rfl⟩ | ⟨h1, h2⟩
    · refine ⟨p, ?_, hsc.eq (fun q q1 q2 => hc q ?_)⟩
      · dsimp only
        unfold sgm
        by_cases e : L'.length = 16
        · rw [if_pos e] at h1
          rw [if_pos e, if_neg (by omega), if_neg (by omega), if_pos (by omega), hpl]
        · rw [if_neg e] at h1
          rw [if_neg e, if_pos (by omega), hpl]
      · have := (hD.2 j0 p hj hpl).1
        omega
    · obtain ⟨p', p1, p2⟩ := hrow _ _ h2
      refine ⟨p', ?_, p2.eq (fun q q1 q2 => hc q ?_)⟩
      · dsimp only
        unfold sgm
        by_cases e : L'.length = 16
        · rw [if_pos e] at h1 p1
          rw [if_pos e, if_neg (by omega), if_pos (by omega)]; exact p1
        · rw [if_neg e] at h1 p1
          rw [if_neg e, if_neg (by omega), if_neg (by omega)]; exact p1
      · have hi' := (List.getElem?_eq_some_iff.mp h2).1
        have := (hD.2 _ p' (by omega) p1).1
        omega
end CCOMMIT
