/-! ===== the class's store: a bucket is split ===== -/
/-- each slot is claimed by one bucket -/
def prt (B : Bk) : Prop := ∀ i, i < 64 → ∃ b, b < 24 ∧ clm (B b) i = true ∧ ∀ c, c < 24 → clm (B c) i = true → c = b
theorem fst1_un {P : Nat → Bool} {b : Nat} (hP : P b = true) : ∀ (n i : Nat), i ≤ b → b < i + n → (∀ c, i ≤ c → c < i + n → P c = true → c = b) → fst1 P n i = some b
  | 0, i, h1, h2, _ => by omega
  | n + 1, i, h1, h2, h3 => by
    unfold fst1
    by_cases e : P i = true
    · rw [if_pos e]; exact congrArg some (h3 i (Nat.le_refl _) (by omega) e)
    · rw [if_neg e]
      have : i ≠ b := fun q => e (q ▸ hP)
      exact fst1_un hP n (i + 1) (by omega) (by omega) (fun c c1 c2 => h3 c (by omega) (by omega))
theorem own_un {B : Bk} {i b : Nat} (hb : b < 24) (h1 : clm (B b) i = true) (h2 : ∀ c, c < 24 → clm (B c) i = true → c = b) : own B i = b := by
  unfold own
  rw [fst1_un (P := fun b => clm (B b) i) h1 24 0 (by omega) (by omega) (fun c _ c2 => h2 c (by omega))]; rfl
theorem prt.own {B : Bk} (h : prt B) {i : Nat} (hi : i < 64) : clm (B (own B i)) i = true ∧ ∀ c, c < 24 → clm (B c) i = true → c = own B i := by
  obtain ⟨b, b1, b2, b3⟩ := h i hi
  rw [own_un b1 b2 b3]; exact ⟨b2, b3⟩
theorem clm_some {P : Pg} {i : Nat} (h : clm P i = true) : P ≠ none ∧ i % 2 ^ pdp P = ppx P := by
  cases P with
  | none => simp [clm] at h
  | some q => exact ⟨by simp, by simp only [clm, beq_iff_eq] at h; exact h.symm⟩
theorem clm_of {q : Nat × Nat × List (Nat × Nat)} {i : Nat} : clm (some q) i = true ↔ i % 2 ^ q.1 = q.2.1 := by
  simp only [clm, beq_iff_eq]; exact eq_comm
def two (B : Bk) (n b : Nat) (P Q : Pg) : Bk := ub (ub B n P) b Q
theorem two_b {B : Bk} {n b : Nat} {P Q : Pg} : two B n b P Q b = Q := ub_self _ _ _
theorem two_n {B : Bk} {n b : Nat} {P Q : Pg} (h : n ≠ b) : two B n b P Q n = P := by unfold two; rw [ub_ne h, ub_self]
theorem two_o {B : Bk} {n b c : Nat} {P Q : Pg} (h : c ≠ n) (h2 : c ≠ b) : two B n b P Q c = B c := by unfold two; rw [ub_ne h2, ub_ne h]
theorem two_ub {B : Bk} {n b : Nat} {P Q Q' : Pg} : ub (two B n b P Q) b Q' = two B n b P Q' := by
  funext c
  unfold two ub
  by_cases h : c = b
  · rw [if_pos h, if_pos h]
  · rw [if_neg h, if_neg h, if_neg h]
theorem two_un {B : Bk} {n b : Nat} {P Q P' : Pg} (hne : n ≠ b) : ub (two B n b P Q) n P' = two B n b P' Q := by
  funext c
  unfold two ub
  by_cases h : c = n
  · rw [if_pos h, if_neg (h ▸ hne), if_pos h]
  · rw [if_neg h, if_neg h, if_neg h]
/-- whether a key goes to the new bucket -/
def hiE (t dd : Nat) (e : Nat × Nat) : Bool := hsh t e.1 / 2 ^ dd % 2 == 1
def loE (t dd : Nat) (e : Nat × Nat) : Bool := !hiE t dd e
def spl (t : Nat) (B : Bk) (b n : Nat) : Bk := two B n b (some (pdp (B b) + 1, ppx (B b) + 2 ^ pdp (B b), (ents (B b)).filter (hiE t (pdp (B b))))) (some (pdp (B b) + 1, ppx (B b), (ents (B b)).filter (loE t (pdp (B b)))))
theorem mod_spl {i dd px : Nat} (hp : px < 2 ^ dd) : (i % 2 ^ (dd + 1) = px ↔ i % 2 ^ dd = px ∧ i / 2 ^ dd % 2 = 0) ∧ (i % 2 ^ (dd + 1) = px + 2 ^ dd ↔ i % 2 ^ dd = px ∧ i / 2 ^ dd % 2 = 1) := by
  have h1 := Nat.mod_lt i (show 0 < 2 ^ dd from Nat.two_pow_pos dd)
  rw [Nat.mod_pow_succ]
  rcases Nat.mod_two_eq_zero_or_one (i / 2 ^ dd) with e | e
  · rw [e]; constructor <;> omega
  · rw [e]; constructor <;> omega
theorem spl_own {t : Nat} {B : Bk} {b n i : Nat} (h : prt B) (hb : b < 24) (hn : n < 24) (hu : B b ≠ none) (hf : B n = none) (hp : ppx (B b) < 2 ^ pdp (B b)) (hi : i < 64) : clm (spl t B b n (if i % 2 ^ (pdp (B b) + 1) = ppx (B b) + 2 ^ pdp (B b) then n else own B i)) i = true ∧ ∀ c, c < 24 → clm (spl t B b n c) i = true → c = if i % 2 ^ (pdp (B b) + 1) = ppx (B b) + 2 ^ pdp (B b) then n else own B i := by
  have hne : n ≠ b := fun q => hu (q ▸ hf)
  obtain ⟨m1, m2⟩ := mod_spl (i := i) hp
  obtain ⟨o1, o2⟩ := h.own hi
  have hbc : i % 2 ^ pdp (B b) = ppx (B b) → b = own B i := fun q => o2 b hb (by
    cases hB : B b with
    | none => exact absurd hB hu
    | some w => rw [hB] at q; exact clm_of.mpr q)
  have hnc : own B i ≠ n := fun q => by rw [q, hf] at o1; simp [clm] at o1
  unfold spl
  by_cases e : i % 2 ^ (pdp (B b) + 1) = ppx (B b) + 2 ^ pdp (B b)
  · rw [if_pos e]
    refine ⟨by rw [two_n hne]; exact clm_of.mpr e, fun c hc q => ?_⟩
    by_cases c1 : c = n
    · exact c1
    · by_cases c2 : c = b
      · subst c2
        rw [two_b] at q
        have := clm_of.mp q
        dsimp only at this
        have := Nat.two_pow_pos (pdp (B c))
        omega
      · rw [two_o c1 c2] at q
        have := o2 c hc q
        exact absurd (this.trans (hbc (m2.mp e).1).symm) c2
  · rw [if_neg e]
    refine ⟨?_, fun c hc q => ?_⟩
    · by_cases c2 : own B i = b
      · rw [c2, two_b]
        rw [c2] at o1
        refine clm_of.mpr ?_
        dsimp only
        have h9 := (clm_some o1).2
        refine m1.mpr ⟨h9, ?_⟩
        rcases Nat.mod_two_eq_zero_or_one (i / 2 ^ pdp (B b)) with w | w
        · exact w
        · exact absurd (m2.mpr ⟨h9, w⟩) e
      · rw [two_o hnc c2]; exact o1
    · by_cases c1 : c = n
      · subst c1
        rw [two_n hne] at q
        exact absurd (clm_of.mp q) e
      · by_cases c2 : c = b
        · subst c2
          rw [two_b] at q
          exact hbc (m1.mp (clm_of.mp q)).1
        · rw [two_o c1 c2] at q
          exact o2 c hc q
theorem spl_prt {t : Nat} {B : Bk} {b n : Nat} (h : prt B) (hb : b < 24) (hn : n < 24) (hu : B b ≠ none) (hf : B n = none) (hp : ppx (B b) < 2 ^ pdp (B b)) : prt (spl t B b n) := fun i hi => by
  obtain ⟨h1, h2⟩ := spl_own (t := t) h hb hn hu hf hp hi
  refine ⟨_, ?_, h1, h2⟩
  split
  · exact hn
  · exact own_lt _ _
theorem n_bit {h k : Nat} (hh : h < 2 ^ 31) (hk : k < 6) : (nI h >>> (nI k &&& 31)) &&& (1 : Int32) = nI (h / 2 ^ k % 2) := by
  have h1 : ∀ k, k < 6 → ((nI k &&& 31).toBitVec.smod 32).toNat = k := by decide +kernel
  rw [pk_shrN hh _ k (h1 k hk), pk_andN (by have := Nat.div_le_self h (2 ^ k); omega) 1 (by decide +kernel), Nat.pow_one]
section SPLIT
variable {E : Nat × (Nat → Int32)} {d a r : Nat} {A : xH} {s : xS} {u : xU} {R : Ru} {S : St}
theorem c_spl_loop {b n dd px p2 t : Nat} {B : Bk} (hb : b < 24) (hn : n < 24) (hne : n ≠ b) (hdd : dd < 6) (hd : a + 7 ≤ r ∨ r + 4 ≤ a) (ht : t < 1000) (hs : u.2.2.2.2.2 = nI t) : ∀ (rest pre : List (Nat × Nat)) (A : xH) (s : xS) (w5 w8 : Value), ST A a s → RU A r u → pgs s.1 0 (two B n b (some (dd + 1, p2, pre.filter (hiE t dd))) (some (dd + 1, px, pre.filter (loE t dd) ++ rest))) → pre.length + rest.length ≤ 3 → (∀ e ∈ rest, e.1 < 1000) → ∃ A' f, xD E (d + 4) 50 82 [.ref a, .int (nI b), .ref r, .int (nI n), .int (nI dd), w5, .int (nI (pre.filter (loE t dd)).length), .int (nI pre.length), w8] [] A = xD E (d + 4) 50 170 [.ref a, xJ, xJ, .int (nI n), .int (nI dd), xJ, xJ, xJ, xJ] [] A' ∧ ST A' a (f, s.2) ∧ pgs f 0 (two B n b (some (dd + 1, p2, (pre ++ rest).filter (hiE t dd))) (some (dd + 1, px, (pre ++ rest).filter (loE t dd)))) ∧ sm (inS a) A A'
  | [], pre, A, s, w5, w8, h, hu, hB, hl, hk => by
    refine ⟨A, s.1, ?_, h, by rw [List.append_nil] at hB ⊢; exact hB, sm.refl _ _⟩
    rw [e50_82]
    by_cases q : 3 ≤ pre.length
    · rw [if_pos (show (3 : Int32) ≤ nI pre.length from nI_le (a := 3) q (by simp at hl; omega))]
      exact (e50_170 ..).trans (e50_170 ..).symm
    · rw [if_neg (show ¬ (3 : Int32) ≤ nI pre.length from nI_ge (b := 3) (by omega) (by omega)), h.g0, Option.bind_some, c_many h.2.1 hB hb, xI_s, Option.bind_some, two_b]
      dsimp only
      have hf := List.length_filter_le (loE t dd) pre
      rw [if_pos (nI_le (by simp [ents]) (by omega))]
      exact (e50_170 ..).trans (e50_170 ..).symm
  | e :: rest, pre, A, s, w5, w8, h, hu, hB, hl, hk => by
    have hf := List.length_filter_le (loE t dd) pre
    have hf2 := List.length_filter_le (hiE t dd) pre
    have hl2 : pre.length + (rest.length + 1) ≤ 3 := hl
    have hi : (ents (two B n b (some (dd + 1, p2, pre.filter (hiE t dd))) (some (dd + 1, px, pre.filter (loE t dd) ++ e :: rest)) b))[(pre.filter (loE t dd)).length]? = some (e.1, e.2) := by
      rw [two_b]
      show (pre.filter (loE t dd) ++ e :: rest)[(pre.filter (loE t dd)).length]? = _
      rw [List.getElem?_append_right (Nat.le_refl _), Nat.sub_self]; rfl
    have hek := hk e (List.mem_cons_self ..)
    have hh := hsh_lt t e.1
    rw [e50_82, if_neg (show ¬ (3 : Int32) ≤ nI pre.length from nI_ge (b := 3) (by omega) (by omega)), h.g0, Option.bind_some, c_many h.2.1 hB hb, xI_s, Option.bind_some]
    dsimp only
    rw [if_neg (by rw [two_b]; exact nI_ge (by simp [ents]) (by simp only [ents, List.length_append, List.length_cons]; omega)), h.g0, Option.bind_some, c_keyAt h.2.1 hB hb hi, xI_s, Option.bind_some]
    dsimp only
    rw [c_hashOf hu hek ht hs, xI_s, Option.bind_some]
    dsimp only
    rw [n_bit (by omega) hdd]
    by_cases q : hsh t e.1 / 2 ^ dd % 2 = 1
    · have q1 : hiE t dd e = true := by unfold hiE; rw [q]; rfl
      have q2 : loE t dd e = false := by unfold loE; rw [q1]; rfl
      obtain ⟨g, g1, g2⟩ := c_append (E := E) (d := d) (k := e.1) (v := e.2) h.2.1 hB hn (two_n hne) (by omega)
      obtain ⟨a1, m1⟩ := h.sF g
      rw [two_un hne] at g2
      obtain ⟨g', g3, g4⟩ := c_removeAt (E := E) (d := d) (i := (pre.filter (loE t dd)).length) a1.2.1 g2 hb two_b (by simp)
      obtain ⟨a2, m2⟩ := a1.sF g'
      rw [two_ub, List.eraseIdx_append_of_length_le (Nat.le_refl _), Nat.sub_self, List.eraseIdx_cons_zero] at g4
      have m3 := m1.trans m2
      have c1 : (pre ++ [e]).filter (hiE t dd) = pre.filter (hiE t dd) ++ [(e.1, e.2)] := by rw [List.filter_append]; simp [q1]
      have c2 : (pre ++ [e]).filter (loE t dd) = pre.filter (loE t dd) := by rw [List.filter_append]; simp [q2]
      have ih := c_spl_loop hb hn hne hdd hd ht hs rest (pre ++ [e]) _ _ xJ (.int (nI e.1)) a2 (hu.kp m3 (fun q q1 q2 q3 => by have := q3.1; have := q3.2; omega)) (by rw [c1, c2]; exact g4) (by simp; omega) (fun x hx => hk x (List.mem_cons_of_mem _ hx))
      obtain ⟨A', f, i1, i2, i3, i4⟩ := ih
      rw [c2, List.length_append] at i1
      rw [List.append_assoc] at i3
      refine ⟨A', f, ?_, i2, i3, m3.trans i4⟩
      rw [if_pos (show nI (hsh t e.1 / 2 ^ dd % 2) = (1 : Int32) by rw [q]; rfl), h.g0, Option.bind_some, Option.bind_some, c_valueAt h.2.1 hB hb hi, xI_s, Option.bind_some]
      dsimp only
      rw [g1, xV_s, Option.bind_some, a1.g0, Option.bind_some, g3, xV_s, Option.bind_some, nI_1]
      exact i1
    · have q1 : hiE t dd e = false := by unfold hiE; simp [q]
      have q2 : loE t dd e = true := by unfold loE; rw [q1]; rfl
      have c1 : (pre ++ [e]).filter (hiE t dd) = pre.filter (hiE t dd) := by rw [List.filter_append]; simp [q1]
      have c2 : (pre ++ [e]).filter (loE t dd) = pre.filter (loE t dd) ++ [e] := by rw [List.filter_append]; simp [q2]
      have ih := c_spl_loop hb hn hne hdd hd ht hs rest (pre ++ [e]) _ _ xJ (.int (nI e.1)) h hu (by rw [c1, c2, List.append_assoc]; exact hB) (by simp; omega) (fun x hx => hk x (List.mem_cons_of_mem _ hx))
      obtain ⟨A', f, i1, i2, i3, i4⟩ := ih
      rw [c2, List.length_append, List.length_append] at i1
      rw [List.append_assoc] at i3
      refine ⟨A', f, ?_, i2, i3, i4⟩
      rw [if_neg (show ¬ nI (hsh t e.1 / 2 ^ dd % 2) = (1 : Int32) from fun w => q ((nI_eq (b := 1) (by omega) (by omega)).mp w)), nI_1, nI_1]
      exact i1
theorem c_splitBucket (h : ST A a s) (hR : RUR A r u R) (hd : a + 7 ≤ r ∨ r + 4 ≤ a) (ha : sepL u R.1 a 7) (hS : RS s S) {b n : Nat} (hb : b < 24) (hp : prt S.1) (hu : S.1 b ≠ none) (hdp : pdp (S.1 b) ≤ 5) (hpx : ppx (S.1 b) < 2 ^ pdp (S.1 b)) (hk : ∀ e ∈ ents (S.1 b), e.1 < 1000) (hf : freeN S.1 = some n) (hdeep : S.2.2.2.1 ≤ 6) : ∃ A' s', xC E (d + 4) 50 [.ref a, .int (nI b), .ref r] A = some (some (.int (nI n)), A') ∧ ST A' a s' ∧ RS s' (spl R.2.2.2 S.1 b n, S.2.1, S.2.2.1, max S.2.2.2.1 (pdp (S.1 b) + 1), S.2.2.2.2) ∧ RUR A' r u R ∧ sm (inS a) A A' := by
  obtain ⟨f1, f2, f3⟩ := fst1_lt hf
  have hn : n < 24 := by omega
  have hnn : S.1 n = none := by simpa using f3
  have hne : n ≠ b := fun q => hu (q ▸ hnn)
  have hlen := hS.1.len hb
  obtain ⟨g1, c1, c2⟩ := c_clear (E := E) (d := d) h.2.1 hS.1 hn
  obtain ⟨a1, m1⟩ := h.sF g1
  obtain ⟨g2, c3, c4⟩ := c_setPlace (E := E) (d := d + 1) (dd := pdp (S.1 b) + 1) (px := ppx (S.1 b) + 2 ^ pdp (S.1 b)) a1.2.1 c2 hn
  obtain ⟨a2, m2⟩ := a1.sF g2
  obtain ⟨g3, c5, c6⟩ := c_setPlace (E := E) (d := d + 1) (dd := pdp (S.1 b) + 1) (px := ppx (S.1 b)) a2.2.1 c4 hb
  obtain ⟨a3, m3⟩ := a2.sF g3
  have m4 := (m1.trans m2).trans m3
  have e6 : ub (ub (ub S.1 n none) n (some (pdp (S.1 b) + 1, ppx (S.1 b) + 2 ^ pdp (S.1 b), ents (ub S.1 n none n)))) b (some (pdp (S.1 b) + 1, ppx (S.1 b), ents (ub (ub S.1 n none) n (some (pdp (S.1 b) + 1, ppx (S.1 b) + 2 ^ pdp (S.1 b), ents (ub S.1 n none n))) b))) = two S.1 n b (some (pdp (S.1 b) + 1, ppx (S.1 b) + 2 ^ pdp (S.1 b), [])) (some (pdp (S.1 b) + 1, ppx (S.1 b), ents (S.1 b))) := by
    rw [ub_self, ub_ne (Ne.symm hne), ub_ne (Ne.symm hne)]
    funext c
    unfold two ub
    by_cases e1 : c = b
    · rw [if_pos e1, if_pos e1]
    · rw [if_neg e1, if_neg e1]
      by_cases e2 : c = n
      · rw [if_pos e2, if_pos e2]; rfl
      · rw [if_neg e2, if_neg e2, if_neg e2]
  rw [e6] at c6
  obtain ⟨A4, f, l1, l2, l3, l4⟩ := c_spl_loop (E := E) (d := d) (p2 := ppx (S.1 b) + 2 ^ pdp (S.1 b)) (px := ppx (S.1 b)) (dd := pdp (S.1 b)) hb hn hne (by omega) hd hR.2.2.2.2.2.2.2.2 hR.2.2.2.2.2.2.2.1 (ents (S.1 b)) [] _ _ (.int (nI (ppx (S.1 b)))) xJ a3 (hR.1.kp m4 (fun q q1 q2 q3 => by have := q3.1; have := q3.2; omega)) c6 (by simpa using hlen) hk
  rw [List.nil_append] at l3
  have hB4 : pgs f 0 (spl R.2.2.2 S.1 b n) := l3
  have hsn : spl R.2.2.2 S.1 b n n = some (pdp (S.1 b) + 1, ppx (S.1 b) + 2 ^ pdp (S.1 b), (ents (S.1 b)).filter (hiE R.2.2.2 (pdp (S.1 b)))) := two_n hne
  have hd1 : pdp (spl R.2.2.2 S.1 b n n) = pdp (S.1 b) + 1 := by rw [hsn]; rfl
  have hp1 : ppx (spl R.2.2.2 S.1 b n n) = ppx (S.1 b) + 2 ^ pdp (S.1 b) := by rw [hsn]; rfl
  obtain ⟨A5, o, s1, s2, s3, s4⟩ := c_giveSlots (E := E) (d := d) (to := n) l2 hB4 hn (by rw [hsn]; simp) (by omega) (by rw [hd1, hp1, Nat.pow_succ]; omega)
  obtain ⟨A6, t1, t2, t3⟩ := s2.p6 (nI (max S.2.2.2.1 (pdp (S.1 b) + 1)))
  have mm := ((m4.trans l4).trans s4).trans t3
  refine ⟨A6, _, ?_, t2, ⟨hB4, hS.2.1, fun i hi => ?_, hS.2.2.2.1, hS.2.2.2.2.1, rfl, hS.2.2.2.2.2.2⟩, hR.sS hd ha mm, mm⟩
  · rw [k50 _ _ _ _ _ _ h.cls, h.g0, Option.bind_some, c_lowestFree h.2.1 hS.1, xI_s, Option.bind_some, hf, oI_s]
    dsimp only
    rw [if_neg (n_m1ne (by omega)), h.g0, Option.bind_some, c_depth h.2.1 hS.1 hb hu, xI_s, Option.bind_some]
    dsimp only
    rw [h.g0, Option.bind_some, c_prefix h.2.1 hS.1 hb hu, xI_s, Option.bind_some]
    dsimp only
    rw [h.g0, Option.bind_some, c1, xV_s, Option.bind_some, a1.g0, Option.bind_some, n_shl _ (by omega), nI_add, nI_1, c3, xV_s, Option.bind_some, a2.g0, Option.bind_some, c5, xV_s, Option.bind_some]
    refine l1.trans ?_
    rw [e50_170, s1, xV_s, Option.bind_some, s2.g6, Option.bind_some, hS.2.2.2.2.2.1, nI_1, n_max (by omega) (by omega), t1, Option.bind_some]
  · obtain ⟨w1, w2⟩ := spl_own (t := R.2.2.2) hp hb hn hu hnn hpx hi
    have w0 : (if i % 2 ^ (pdp (S.1 b) + 1) = ppx (S.1 b) + 2 ^ pdp (S.1 b) then n else own S.1 i) < 24 := by
      split
      · exact hn
      · exact own_lt _ _
    show o i = _
    rw [own_un w0 w1 w2, s3 i hi, hd1, hp1]
    split
    · rfl
    · exact hS.2.2.1 i hi
end SPLIT
