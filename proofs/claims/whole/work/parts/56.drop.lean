/-! ===== the class's store: a key is taken away ===== -/
theorem xor_tw : ∀ m, m < 6 → ∀ p, p < 64 → p < 2 ^ (m + 1) → p ^^^ 2 ^ m = if p < 2 ^ m then p + 2 ^ m else p - 2 ^ m := by decide +kernel
theorem twn_spec {B : Bk} {b w : Nat} (h : okk B) (hw : twn B b = some w) : w < 24 ∧ B w ≠ none ∧ ∃ m, m ≤ 5 ∧ pdp (B b) = m + 1 ∧ pdp (B w) = m + 1 ∧ ((ppx (B b) < 2 ^ m ∧ ppx (B w) = ppx (B b) + 2 ^ m) ∨ (ppx (B w) < 2 ^ m ∧ ppx (B b) = ppx (B w) + 2 ^ m)) := by
  obtain ⟨-, -, w3, w4⟩ := h.2 b
  unfold twn at hw
  split at hw
  · cases hw
  · rename_i e
    obtain ⟨m, hm⟩ : ∃ m, pdp (B b) = m + 1 := ⟨pdp (B b) - 1, by omega⟩
    rw [hm, Nat.add_sub_cancel] at hw
    rw [hm] at w4
    have h64 := pow6 (n := m + 1) (by omega)
    have hx := xor_tw m (by omega) (ppx (B b)) (by omega) w4
    have hpow : 2 ^ (m + 1) = 2 ^ m * 2 := Nat.pow_succ ..
    rw [hx] at hw
    have hlt : (if ppx (B b) < 2 ^ m then ppx (B b) + 2 ^ m else ppx (B b) - 2 ^ m) < 2 ^ (m + 1) := by split <;> omega
    have hX : ∀ X, (if ppx (B b) < 2 ^ m then ppx (B b) + 2 ^ m else ppx (B b) - 2 ^ m) = X → (ppx (B b) < 2 ^ m ∧ X = ppx (B b) + 2 ^ m) ∨ (X < 2 ^ m ∧ ppx (B b) = X + 2 ^ m) := by
      intro X q
      split at q
      · exact Or.inl ⟨‹_›, q.symm⟩
      · right; omega
    generalize (if ppx (B b) < 2 ^ m then ppx (B b) + 2 ^ m else ppx (B b) - 2 ^ m) = X at hw hlt hX
    obtain ⟨o1, o2⟩ := h.1.own (show X < 64 by omega)
    by_cases e2 : pdp (B (own B X)) = m + 1
    · rw [if_pos e2] at hw
      obtain rfl := Option.some.inj hw
      obtain ⟨o3, o4⟩ := clm_some o1
      rw [e2, Nat.mod_eq_of_lt hlt] at o4
      refine ⟨own_lt _ _, o3, m, by omega, hm, e2, ?_⟩
      rw [← o4]; exact hX X rfl
    · rw [if_neg e2] at hw; cases hw
theorem jn_okk {B : Bk} {lo up m : Nat} (h : okk B) (hlo : lo < 24) (hup : up < 24) (hne : up ≠ lo) (hu1 : B lo ≠ none) (hu2 : B up ≠ none) (hd1 : pdp (B lo) = m + 1) (hd2 : pdp (B up) = m + 1) (hm : m ≤ 5) (hp1 : ppx (B lo) < 2 ^ m) (hp2 : ppx (B up) = ppx (B lo) + 2 ^ m) (hl : (ents (B lo)).length + (ents (B up)).length ≤ 3) : okk (jn B lo up) := by
  refine ⟨jn_prt h.1 hlo hup hne hu1 hu2 hd1 hd2 hp1 hp2, fun c => ?_⟩
  unfold jn
  by_cases c2 : c = lo
  · subst c2
    rw [two_b, hd1, Nat.add_sub_cancel]
    refine ⟨?_, fun e he => ?_, ?_, hp1⟩
    · show (ents (B c) ++ ents (B up)).length ≤ 3
      rw [List.length_append]; exact hl
    · have he2 : e ∈ ents (B c) ++ ents (B up) := he
      rcases List.mem_append.mp he2 with q | q
      · exact (h.2 c).2.1 e q
      · exact (h.2 up).2.1 e q
    · show m ≤ 6
      omega
  · by_cases c1 : c = up
    · subst c1
      rw [two_n hne]
      exact ⟨by simp [ents], fun e he => by simp [ents] at he, by simp [pdp], by simp [ppx, pdp]⟩
    · rw [two_o c1 c2]; exact h.2 c
/-- twins join as long as they fit; from bucket b, at most c times -/
noncomputable def drL (R : Ru) : Nat → Nat → St → Nat × St
  | 0, _, S => (0, S)
  | c + 1, b, S => match twn S.1 b with
    | none => (0, S)
    | some w => if (ents (S.1 b)).length + (ents (S.1 w)).length ≤ 3 then
        (if ppx (S.1 w) ≤ ppx (S.1 b) then ((drL R c w (wrt R (wrt R (jn S.1 w b, S.2) w) b)).1 + 1, (drL R c w (wrt R (wrt R (jn S.1 w b, S.2) w) b)).2)
         else ((drL R c b (wrt R (wrt R (jn S.1 b w, S.2) b) w)).1 + 1, (drL R c b (wrt R (wrt R (jn S.1 b w, S.2) b) w)).2)) else (0, S)
def finS (S : St) : St := (S.1, S.2.1, S.2.2.1, deepN S.1, S.2.2.2.2)
def rmP (P : Pg) (i : Nat) : Pg := P.map fun q => (q.1, q.2.1, q.2.2.eraseIdx i)
/-- drop, as mathematics -/
noncomputable def dropS (R : Ru) (k : Nat) (S : St) : Int32 × St := match kIdx (ents (S.1 (own S.1 (hsh R.2.2.2 k % 64)))) k with
  | none => (-3, S)
  | some i => (nI (drL R 6 (own S.1 (hsh R.2.2.2 k % 64)) (wrt R (ub S.1 (own S.1 (hsh R.2.2.2 k % 64)) (rmP (S.1 (own S.1 (hsh R.2.2.2 k % 64))) i), S.2) (own S.1 (hsh R.2.2.2 k % 64)))).1, finS (drL R 6 (own S.1 (hsh R.2.2.2 k % 64)) (wrt R (ub S.1 (own S.1 (hsh R.2.2.2 k % 64)) (rmP (S.1 (own S.1 (hsh R.2.2.2 k % 64))) i), S.2) (own S.1 (hsh R.2.2.2 k % 64)))).2)
section DROP
variable {E : Nat × (Nat → Int32)} {d a r : Nat} {u : xU} {R : Ru}
theorem RS.dp {s : xS} {S : St} (hS : RS s S) (n : Nat) : RS (s.1, s.2.1, s.2.2.1, s.2.2.2.1, s.2.2.2.2.1, s.2.2.2.2.2.1, nI n, s.2.2.2.2.2.2.2) (S.1, S.2.1, S.2.2.1, n, S.2.2.2.2) := ⟨hS.1, hS.2.1, hS.2.2.1, hS.2.2.2.1, hS.2.2.2.2.1, rfl, hS.2.2.2.2.2.2⟩
theorem c_dr_loop (hd : a + 7 ≤ r ∨ r + 4 ≤ a) (ha : sepL u R.1 a 7) : ∀ (c j : Nat) (A : xH) (s : xS) (S : St) (b : Nat) (w1 w4 w7 w8 w9 w10 : Value), ST A a s → RUR A r u R → RS s S → okk S.1 → S.2.2.2.2 ≤ 999 → b < 24 → S.1 b ≠ none → j + c = 6 → ∃ A' s', xD E (d + 6) 52 58 [.ref a, w1, .ref r, .int (nI b), w4, .int (nI j), .int (nI j), w7, w8, w9, w10] [] A = some (some (.int (nI (j + (drL R c b S).1))), A') ∧ ST A' a s' ∧ RS s' (finS (drL R c b S).2) ∧ RUR A' r u R ∧ sm (inSR a r) A A'
  | 0, j, A, s, S, b, w1, w4, w7, w8, w9, w10, h, hR, hS, hok, ht, hb, hu, hj => by
    rw [e52_58, if_pos (show (6 : Int32) ≤ nI j from nI_le (a := 6) (by omega) (by omega))]
    obtain ⟨A1, e1, e2, e3⟩ := h.p6 (nI (deepN S.1))
    refine ⟨A1, _, ?_, e2, hS.dp (deepN S.1), hR.sS hd ha e3, e3.toSR1⟩
    rw [h.g0, Option.bind_some, c_greatestDepth h.2.1 hS.1 (fun q => (hok.2 q).2.2.1), xI_s, Option.bind_some]
    dsimp only
    rw [e1, Option.bind_some]; rfl
  | c + 1, j, A, s, S, b, w1, w4, w7, w8, w9, w10, h, hR, hS, hok, ht, hb, hu, hj => by
    have hWb := hok.2 b
    rw [e52_58, if_neg (show ¬ (6 : Int32) ≤ nI j from nI_ge (b := 6) (by omega) (by omega)), c_twinOf h hS hok.1 hb hu hWb.2.2.1 hWb.2.2.2 (fun q => (hok.2 q).2.2.1), xI_s, Option.bind_some]
    dsimp only
    unfold drL
    cases hw : twn S.1 b with
    | none =>
      rw [oI_n, if_pos rfl]
      obtain ⟨A1, e1, e2, e3⟩ := h.p6 (nI (deepN S.1))
      refine ⟨A1, _, ?_, e2, hS.dp (deepN S.1), hR.sS hd ha e3, e3.toSR1⟩
      rw [h.g0, Option.bind_some, c_greatestDepth h.2.1 hS.1 (fun q => (hok.2 q).2.2.1), xI_s, Option.bind_some]
      dsimp only
      rw [e1, Option.bind_some]; rfl
    | some w =>
      obtain ⟨t1, t2, m, t3, t4, t5, t6⟩ := twn_spec hok hw
      have hl1 := hWb.1
      have hl2 := (hok.2 w).1
      have hpm := Nat.two_pow_pos m
      have hp64 := pow6 (n := m) (by omega)
      rw [oI_s, if_neg (n_m1ne (by omega)), h.g0, Option.bind_some, c_many h.2.1 hS.1 hb, xI_s, Option.bind_some]
      dsimp only
      rw [h.g0, Option.bind_some, c_many h.2.1 hS.1 t1, xI_s, Option.bind_some]
      dsimp only
      rw [nI_add]
      by_cases q : (ents (S.1 b)).length + (ents (S.1 w)).length ≤ 3
      · rw [if_pos (show nI ((ents (S.1 b)).length + (ents (S.1 w)).length) ≤ (3 : Int32) from nI_le (b := 3) q (by omega)), if_pos q, h.g0, Option.bind_some, c_prefix h.2.1 hS.1 hb hu, xI_s, Option.bind_some]
        dsimp only
        rw [h.g0, Option.bind_some, c_prefix h.2.1 hS.1 t1 t2, xI_s, Option.bind_some]
        dsimp only
        by_cases p : ppx (S.1 w) ≤ ppx (S.1 b)
        · have t7 := t6.resolve_left (fun z => by omega)
          have hne : b ≠ w := fun z => by rw [z] at t7; omega
          obtain ⟨A1, s1, p1, p2, p3, p4⟩ := c_joinTwins (E := E) (d := d + 1) h hS hok.1 t1 hb hne t2 hu t5 t4 t3 t7.1 t7.2 (by omega)
          have hok1 := jn_okk hok t1 hb hne t2 hu t5 t4 t3 t7.1 t7.2 (by omega)
          obtain ⟨A2, s2, q1, q2, q3, q4, q5⟩ := c_queueWrite (E := E) (d := d) p2 (hR.sS hd ha p4) hd ha p3 t1 ht (hok1.2 _).2.2.1
          obtain ⟨A3, s3, z1, z2, z3, z4, z5⟩ := c_queueWrite (E := E) (d := d) q2 q4 hd ha q3 hb (Nat.min_le_right _ _) (hok1.2 _).2.2.1
          obtain ⟨A4, s4, i1, i2, i3, i4, i5⟩ := c_dr_loop hd ha c (j + 1) A3 s3 _ w xJ xJ xJ xJ (.int (nI w)) (.int (nI b)) z2 z4 z3 hok1 (Nat.min_le_right _ _) t1 (by show jn S.1 w b w ≠ none; unfold jn; rw [two_b]; simp) (by omega)
          refine ⟨A4, s4, ?_, ?_, ?_, i4, ((p4.toSR1.trans q5).trans z5).trans i5⟩
          · rw [if_pos (nI_le p (by omega)), e52_128, if_pos rfl, if_pos rfl, e52_154, p1, xV_s, Option.bind_some, q1, xV_s, Option.bind_some, z1, xV_s, Option.bind_some, nI_1, i1, if_pos p]
            dsimp only
            rw [Nat.add_assoc, Nat.add_comm 1]
          · exact i2
          · rw [if_pos p]
            exact i3
        · have t7 := t6.resolve_right (fun z => by omega)
          have hne : w ≠ b := fun z => by rw [z] at t7; omega
          obtain ⟨A1, s1, p1, p2, p3, p4⟩ := c_joinTwins (E := E) (d := d + 1) h hS hok.1 hb t1 hne hu t2 t4 t5 t3 t7.1 t7.2 q
          have hok1 := jn_okk hok hb t1 hne hu t2 t4 t5 t3 t7.1 t7.2 q
          obtain ⟨A2, s2, q1, q2, q3, q4, q5⟩ := c_queueWrite (E := E) (d := d) p2 (hR.sS hd ha p4) hd ha p3 hb ht (hok1.2 _).2.2.1
          obtain ⟨A3, s3, z1, z2, z3, z4, z5⟩ := c_queueWrite (E := E) (d := d) q2 q4 hd ha q3 t1 (Nat.min_le_right _ _) (hok1.2 _).2.2.1
          obtain ⟨A4, s4, i1, i2, i3, i4, i5⟩ := c_dr_loop hd ha c (j + 1) A3 s3 _ b xJ xJ xJ xJ (.int (nI b)) (.int (nI w)) z2 z4 z3 hok1 (Nat.min_le_right _ _) hb (by show jn S.1 b w b ≠ none; unfold jn; rw [two_b]; simp) (by omega)
          refine ⟨A4, s4, ?_, ?_, ?_, i4, ((p4.toSR1.trans q5).trans z5).trans i5⟩
          · rw [if_neg (nI_ge (by omega) (by omega)), e52_128, if_neg (by decide), if_neg (by decide), e52_154, p1, xV_s, Option.bind_some, q1, xV_s, Option.bind_some, z1, xV_s, Option.bind_some, nI_1, i1, if_neg p]
            dsimp only
            rw [Nat.add_assoc, Nat.add_comm 1]
          · exact i2
          · rw [if_neg p]
            exact i3
      · rw [if_neg (show ¬ nI ((ents (S.1 b)).length + (ents (S.1 w)).length) ≤ (3 : Int32) from nI_ge (a := 3) (by omega) (by omega)), if_neg q]
        obtain ⟨A1, e1, e2, e3⟩ := h.p6 (nI (deepN S.1))
        refine ⟨A1, _, ?_, e2, hS.dp (deepN S.1), hR.sS hd ha e3, e3.toSR1⟩
        rw [h.g0, Option.bind_some, c_greatestDepth h.2.1 hS.1 (fun q => (hok.2 q).2.2.1), xI_s, Option.bind_some]
        dsimp only
        rw [e1, Option.bind_some]; rfl
theorem rm_okk {B : Bk} {b i : Nat} (h : okk B) : okk (ub B b (rmP (B b) i)) := by
  have hc : ∀ c j, clm (ub B b (rmP (B b) i) c) j = clm (B c) j := clm_ub (fun j => clm_map (f := fun l => l.eraseIdx i) j)
  refine ⟨fun j hj => ?_, fun c => ?_⟩
  · obtain ⟨q, q1, q2, q3⟩ := h.1 j hj
    exact ⟨q, q1, by rw [hc]; exact q2, fun c c1 c2 => q3 c c1 (by rw [hc] at c2; exact c2)⟩
  · unfold ub
    split
    · have hW := h.2 b
      unfold rmP
      cases hB : B b with
      | none => rw [hB] at hW; exact hW
      | some w =>
        rw [hB] at hW
        obtain ⟨w1, w2, w3, w4⟩ := hW
        exact ⟨Nat.le_trans (List.length_eraseIdx_le _ _) w1, fun e he => w2 e (List.mem_of_mem_eraseIdx he), w3, w4⟩
    · exact h.2 c
theorem c_removeKey {A : xH} {s : xS} {S : St} {k : Nat} (hk : k < 1000) (hd : a + 7 ≤ r ∨ r + 4 ≤ a) (ha : sepL u R.1 a 7) (h : ST A a s) (hR : RUR A r u R) (hS : RS s S) (hok : okk S.1) (ht : S.2.2.2.2 ≤ 999) : ∃ A' s', xC E (d + 6) 52 [.ref a, .int (nI k), .ref r] A = some (some (.int (dropS R k S).1), A') ∧ ST A' a s' ∧ RS s' (dropS R k S).2 ∧ RUR A' r u R ∧ sm (inSR a r) A A' := by
  have hsl := hR.2.2.2.2.2.2.2.2
  have hsl2 := hR.2.2.2.2.2.2.2.1
  obtain ⟨o1, o2⟩ := hok.1.own (show hsh R.2.2.2 k % 64 < 64 from Nat.mod_lt _ (by omega))
  obtain ⟨o3, -⟩ := clm_some o1
  have hb := own_lt S.1 (hsh R.2.2.2 k % 64)
  have hW := hok.2 (own S.1 (hsh R.2.2.2 k % 64))
  obtain ⟨q, hq⟩ : ∃ q, S.1 (own S.1 (hsh R.2.2.2 k % 64)) = some q := by
    cases hB : S.1 (own S.1 (hsh R.2.2.2 k % 64)) with
    | none => exact absurd hB o3
    | some q => exact ⟨q, rfl⟩
  rw [k52 _ _ _ _ _ _ h.cls, c_isKey, xI_s, Option.bind_some]
  dsimp only
  rw [if_neg (show ¬ (nI k < 0 ∨ nI 1000 ≤ nI k) from fun z => z.elim (nI_pos (by omega)) (nI_ge hk (by omega))), if_neg (show ¬ nI 1 = 0 by decide), c_soughtIn h hR.1 hS.2.2.1 hk hsl hsl2, xI_s, Option.bind_some]
  dsimp only
  rw [h.g0, Option.bind_some, c_find h.2.1 hS.1 hb (by omega) (fun e he => by have := (hW.2.1 e he).1; omega), xI_s, Option.bind_some]
  dsimp only
  unfold dropS
  cases hi : kIdx (ents (S.1 (own S.1 (hsh R.2.2.2 k % 64)))) k with
  | none =>
    rw [oI_n, if_pos rfl]
    exact ⟨A, s, rfl, h, hS, hR, sm.refl _ _⟩
  | some i =>
    obtain ⟨w, hw⟩ := kIdx_some hi
    have hi2 := (List.getElem?_eq_some_iff.mp hw).1
    have hl3 := hW.1
    have hi3 : i < q.2.2.length := by rw [hq] at hi2; exact hi2
    obtain ⟨g, g1, g2⟩ := c_removeAt (E := E) (d := d + 2) (i := i) h.2.1 hS.1 hb hq hi3
    obtain ⟨a1, m1⟩ := h.sF g
    have hS1 := hS.file (P := rmP (S.1 (own S.1 (hsh R.2.2.2 k % 64))) i) (g := g) (by unfold rmP; rw [hq]; exact g2) (fun j => clm_map (f := fun l => l.eraseIdx i) j)
    have hok1 := rm_okk (b := own S.1 (hsh R.2.2.2 k % 64)) (i := i) hok
    obtain ⟨A2, s2, e1, e2, e3, e4, e5⟩ := c_queueWrite (E := E) (d := d) a1 (hR.sS hd ha m1) hd ha hS1 hb ht (hok1.2 _).2.2.1
    obtain ⟨A3, s3, i1, i2, i3, i4, i5⟩ := c_dr_loop (E := E) (d := d) hd ha 6 0 A2 s2 _ (own S.1 (hsh R.2.2.2 k % 64)) (.int (nI k)) (.int (nI i)) xJ xJ xJ xJ e2 e4 e3 hok1 (Nat.min_le_right _ _) hb (by show ub _ _ _ _ ≠ none; rw [ub_self]; unfold rmP; rw [hq]; simp) rfl
    refine ⟨A3, s3, ?_, i2, i3, i4, (m1.toSR1.trans e5).trans i5⟩
    rw [oI_s, if_neg (n_m1ne (by omega)), h.g0, Option.bind_some, g1, xV_s, Option.bind_some, e1, xV_s, Option.bind_some]
    rw [Nat.zero_add] at i1
    exact i1
end DROP
