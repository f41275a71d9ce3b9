/-! ===== the class's store: power is lost ===== -/
section LOSE
variable {E : Nat × (Nat → Int32)} {d a r : Nat} {u : xU}
theorem c_soughtAt {A : xH} {s : xS} (h : ST A a s) (hu : RU A r u) {k t : Nat} (hk : k < 1000) (ht : t < 1000) (hs : u.2.2.2.2.2 = nI t) : xC E (d + 3) 45 [.ref a, .int (nI k), .ref r] A = some (some (.int (s.2.2.1 (hsh t k % 64))), A) := by
  have h1 := hsh_lt t k
  rw [k45 _ _ _ _ _ _ h.cls, c_hashOf hu hk ht hs, xI_s, Option.bind_some, n_and63 (by omega), c_ownerOf h (by omega), xI_s, Option.bind_some]
theorem c_rb124 {D B : Bk} {b t dd px : Nat} (hb : b < 24) (hd : a + 7 ≤ r ∨ r + 4 ≤ a) (ht : t < 1000) (hs : u.2.2.2.2.2 = nI t) (hk : ∀ e ∈ ents (D b), e.1 < 1000) (hl : (ents (D b)).length ≤ 3) : ∀ (rest pre : List (Nat × Nat)) (A : xH) (s : xS) (w3 w4 w5 w6 w8 : Value), ST A a s → RU A r u → pgs s.2.1 0 D → (∀ j, j < 64 → s.2.2.1 j = oI (dow D j)) → ents (D b) = pre ++ rest → pgs s.1 0 (ub B b (some (dd, px, pre.filter fun e => dow D (hsh t e.1 % 64) == some b))) → ∃ A' f, xD E (d + 4) 63 123 [.ref a, .int (nI b), .ref r, w3, w4, w5, w6, .int (nI pre.length), w8] [] A = some (none, A') ∧ ST A' a (f, s.2) ∧ pgs f 0 (ub B b (some (dd, px, (ents (D b)).filter fun e => dow D (hsh t e.1 % 64) == some b))) ∧ sm (inS a) A A'
  | [], pre, A, s, w3, w4, w5, w6, w8, h, hu, hD, ho, he, hB => by
    have hl2 : (ents (D b)).length = pre.length := by rw [he, List.append_nil]
    refine ⟨A, s.1, ?_, h, by rw [he, List.append_nil]; exact hB, sm.refl _ _⟩
    rw [e63_123, h.g1, Option.bind_some, c_many h.2.2.1 hD hb, xI_s, Option.bind_some]
    dsimp only
    rw [hl2, if_pos (nI_le (Nat.le_refl _) (by omega))]
  | e :: rest, pre, A, s, w3, w4, w5, w6, w8, h, hu, hD, ho, he, hB => by
    have hl2 : (ents (D b)).length = pre.length + (rest.length + 1) := by rw [he, List.length_append]; rfl
    have hi : (ents (D b))[pre.length]? = some (e.1, e.2) := by
      rw [he, List.getElem?_append_right (Nat.le_refl _), Nat.sub_self]; rfl
    have hek := hk e (by rw [he]; simp)
    have hfl := List.length_filter_le (fun e : Nat × Nat => dow D (hsh t e.1 % 64) == some b) pre
    have he2 : ents (D b) = (pre ++ [e]) ++ rest := by rw [he, List.append_assoc]; rfl
    have e0 : nI (pre ++ [e]).length = nI (pre.length + 1) := by rw [List.length_append]; rfl
    have hq : oI (dow D (hsh t e.1 % 64)) = nI b ↔ dow D (hsh t e.1 % 64) = some b := by
      cases hv : dow D (hsh t e.1 % 64) with
      | none => exact ⟨fun z => absurd z.symm (n_m1ne (by omega)), fun z => by cases z⟩
      | some c =>
        have := (dwN_some hv).1
        rw [oI_s, nI_eq (by omega) (by omega)]
        exact ⟨fun z => by rw [z], fun z => Option.some.inj z⟩
    rw [e63_123, h.g1, Option.bind_some, c_many h.2.2.1 hD hb, xI_s, Option.bind_some]
    dsimp only
    rw [if_neg (nI_ge (by omega) (by omega)), h.g1, Option.bind_some, c_keyAt h.2.2.1 hD hb hi, xI_s, Option.bind_some]
    dsimp only
    rw [c_soughtAt h hu hek ht hs, xI_s, Option.bind_some, ho _ (Nat.mod_lt _ (by omega))]
    dsimp only
    by_cases q : dow D (hsh t e.1 % 64) = some b
    · have c1 : (pre ++ [e]).filter (fun e => dow D (hsh t e.1 % 64) == some b) = pre.filter (fun e => dow D (hsh t e.1 % 64) == some b) ++ [(e.1, e.2)] := by rw [List.filter_append]; simp [q]
      obtain ⟨g, g1, g2⟩ := c_append (E := E) (d := d) (k := e.1) (v := e.2) h.2.1 hB hb (ub_self _ _ _) (by omega)
      obtain ⟨a1, m1⟩ := h.sF g
      have e9 : ub (ub B b (some (dd, px, pre.filter fun e => dow D (hsh t e.1 % 64) == some b))) b (some (dd, px, (pre.filter fun e => dow D (hsh t e.1 % 64) == some b) ++ [(e.1, e.2)])) = ub B b (some (dd, px, (pre ++ [e]).filter fun e => dow D (hsh t e.1 % 64) == some b)) := by
        rw [c1]
        funext c
        unfold ub
        by_cases z : c = b
        · rw [if_pos z, if_pos z]
        · rw [if_neg z, if_neg z, if_neg z]
      rw [e9] at g2
      obtain ⟨A', f, i1, i2, i3, i4⟩ := c_rb124 hb hd ht hs hk hl rest (pre ++ [e]) _ _ xJ xJ xJ xJ (.int (nI e.1)) a1 (hu.kp m1 (fun q q1 q2 q3 => by have := q3.1; have := q3.2; omega)) hD ho he2 g2
      refine ⟨A', f, ?_, i2, i3, m1.trans i4⟩
      rw [if_pos (hq.mpr q), h.g0, Option.bind_some, h.g1, Option.bind_some, c_valueAt h.2.2.1 hD hb hi, xI_s, Option.bind_some]
      dsimp only
      rw [g1, xV_s, Option.bind_some, nI_1, ← e0]
      exact i1
    · have c1 : (pre ++ [e]).filter (fun e => dow D (hsh t e.1 % 64) == some b) = pre.filter (fun e => dow D (hsh t e.1 % 64) == some b) := by rw [List.filter_append]; simp [q]
      obtain ⟨A', f, i1, i2, i3, i4⟩ := c_rb124 hb hd ht hs hk hl rest (pre ++ [e]) A s xJ xJ xJ xJ (.int (nI e.1)) h hu hD ho he2 (by rw [c1]; exact hB)
      refine ⟨A', f, ?_, i2, i3, i4⟩
      rw [if_neg (fun z => q (hq.mp z)), nI_1, ← e0]
      exact i1
theorem c_rebuildBucket {A : xH} {s : xS} {D B : Bk} {b t : Nat} (hb : b < 24) (hd : a + 7 ≤ r ∨ r + 4 ≤ a) (ht : t < 1000) (hs : u.2.2.2.2.2 = nI t) (h : ST A a s) (hu : RU A r u) (hB : pgs s.1 0 B) (hD : pgs s.2.1 0 D) (hW : pgW (D b)) (hu2 : D b ≠ none) (ho : ∀ j, j < 64 → s.2.2.1 j = oI (dow D j)) : ∃ A' f, xC E (d + 4) 63 [.ref a, .int (nI b), .ref r] A = some (none, A') ∧ ST A' a (f, s.2) ∧ pgs f 0 (ub B b (reb t D b)) ∧ sm (inS a) A A' := by
  obtain ⟨w1, w2, w3, w4⟩ := hW
  have hst := pow6 w3
  obtain ⟨z1, z2⟩ := mine_skip (D := D) (b := b) (p := 0) (ppx (D b)) (fun j j1 j2 => by
    cases hz : mine D b j with
    | zero => rfl
    | succ z =>
      have h9 := (clm_iff hu2).mp (mine_clm (D := D) (b := b) (j := j) (by omega)).2
      rw [Nat.mod_eq_of_lt (by omega)] at h9
      omega)
  rw [Nat.zero_add] at z1 z2
  have h27 := c_rb27 (E := E) (d := d + 2) (r := r) hb hu2 w3 h ho 64 (ppx (D b)) xJ xJ (by omega) (by omega) (Nat.mod_eq_of_lt w4)
  rw [z1, z2] at h27
  obtain ⟨g1, c1, c2⟩ := c_clear (E := E) (d := d) h.2.1 hB hb
  obtain ⟨a1, m1⟩ := h.sF g1
  have hle := mine_cnt D b 64
  have hrun : xC E (d + 4) 63 [.ref a, .int (nI b), .ref r] A = if nI (cnt (mine D b) 64) = 0 then some (none, A.set (a + 1 + 1) (ia 240 g1)) else xD E (d + 4) 63 90 [.ref a, .int (nI b), .ref r, .int (oI (lwN D b 64)), .int (nI (cnt (mine D b) 64)), .int (nI (2 ^ pdp (D b))), .int (6 : Int32), .int (1 : Int32), xJ] [] (A.set (a + 1 + 1) (ia 240 g1)) := by
    rw [k63 _ _ _ _ _ _ h.cls, h.g1, Option.bind_some, c_depth h.2.2.1 hD hb hu2, xI_s, Option.bind_some]
    dsimp only
    rw [h.g1, Option.bind_some, c_prefix h.2.2.1 hD hb hu2, xI_s, Option.bind_some, n_shl _ (by omega)]
    dsimp only
    refine Eq.trans h27 ?_
    rw [e63_27, if_pos (show (64 : Int32) ≤ nI 64 by decide), h.g0, Option.bind_some, c1, xV_s, Option.bind_some]
  rw [hrun]
  unfold reb
  by_cases e0 : cnt (mine D b) 64 = 0
  · rw [if_pos (show nI (cnt (mine D b) 64) = 0 by rw [e0]; rfl), if_pos e0]
    exact ⟨_, g1, rfl, a1, c2, m1⟩
  · rw [if_neg (nI_ne0 (by omega) (by omega)), if_neg e0]
    obtain ⟨lw, hlw⟩ : ∃ lw, lwN D b 64 = some lw := by
      cases hq : lwN D b 64 with
      | none => exact absurd ((lwN_iff 64).1.mp hq) e0
      | some j => exact ⟨j, rfl⟩
    obtain ⟨w8', h91⟩ := c_rb91 (E := E) (d := d + 3) (a := a) (r := r) (A := A.set (a + 1 + 1) (ia 240 g1)) hle (by omega) 6 0 xJ (.int (nI (2 ^ pdp (D b)))) xJ (nI b) (oI (lwN D b 64)) rfl
    obtain ⟨g2, c3, c4⟩ := c_setPlace (E := E) (d := d + 1) (dd := 6 - lgF (cnt (mine D b) 64) 6 0) (px := lw) a1.2.1 c2 hb
    obtain ⟨a2, m2⟩ := a1.sF g2
    have e9 : ub (ub B b none) b (some (6 - lgF (cnt (mine D b) 64) 6 0, lw, ents (ub B b none b))) = ub B b (some (6 - lgF (cnt (mine D b) 64) 6 0, lw, ([] : List (Nat × Nat)).filter fun e => dow D (hsh t e.1 % 64) == some b)) := by
      rw [ub_self]
      funext c
      unfold ub
      by_cases z : c = b
      · rw [if_pos z, if_pos z]; rfl
      · rw [if_neg z, if_neg z, if_neg z]
    rw [e9] at c4
    obtain ⟨A3, f, i1, i2, i3, i4⟩ := c_rb124 (E := E) (d := d) hb hd ht hs (fun e he => (w2 e he).1) w1 (ents (D b)) [] _ _ (.int (oI (lwN D b 64))) (.int (nI (cnt (mine D b) 64))) xJ (.int (nI (6 - lgF (cnt (mine D b) 64) 6 0))) w8' a2 (hu.kp (m1.trans m2) (fun q q1 q2 q3 => by have := q3.1; have := q3.2; omega)) hD ho rfl c4
    refine ⟨A3, f, ?_, i2, by rw [hlw]; exact i3, (m1.trans m2).trans i4⟩
    refine Eq.trans h91 ?_
    rw [a1.g0, Option.bind_some]
    rw [hlw, oI_s] at i1 ⊢
    rw [c3, xV_s, Option.bind_some]
    exact i1
end LOSE
