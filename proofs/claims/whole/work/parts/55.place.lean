/-! ===== the class's store: a key is placed ===== -/
theorem cnt_upd {f g : Nat → Nat} {m : Nat} (h : ∀ i, i ≠ m → g i = f i) : ∀ n, (m < n → cnt g n + f m = cnt f n + g m) ∧ (n ≤ m → cnt g n = cnt f n)
  | 0 => ⟨fun q => by omega, fun _ => rfl⟩
  | n + 1 => by
    obtain ⟨h1, h2⟩ := cnt_upd h n
    simp only [cnt]
    refine ⟨fun q => ?_, fun q => ?_⟩
    · by_cases e : n = m
      · subst e
        have := h2 (Nat.le_refl _)
        omega
      · have := h1 (by omega)
        have := h n e
        omega
    · rw [h2 (by omega), h n (by omega)]
theorem cnt_all {f : Nat → Nat} : ∀ n, (∀ i, i < n → f i = 1) → cnt f n = n
  | 0, _ => rfl
  | n + 1, h => by
    simp only [cnt]
    rw [cnt_all n (fun i hi => h i (by omega)), h n (by omega)]
theorem fst1_none {P : Nat → Bool} : ∀ {n i : Nat}, fst1 P n i = none → ∀ c, i ≤ c → c < i + n → P c = false
  | 0, i, _, c, c1, c2 => by omega
  | n + 1, i, h, c, c1, c2 => by
    unfold fst1 at h
    by_cases e : P i = true
    · rw [if_pos e] at h; cases h
    · rw [if_neg e] at h
      by_cases q : c = i
      · rw [q]; simpa using e
      · exact fst1_none h c (by omega) (by omega)
theorem fst1_min {P : Nat → Bool} : ∀ {n i j : Nat}, fst1 P n i = some j → ∀ c, i ≤ c → c < j → P c = false
  | 0, i, j, h, c, c1, c2 => by simp [fst1] at h
  | n + 1, i, j, h, c, c1, c2 => by
    unfold fst1 at h
    by_cases e : P i = true
    · rw [if_pos e] at h; cases h; omega
    · rw [if_neg e] at h
      by_cases q : c = i
      · rw [q]; simpa using e
      · exact fst1_min h c (by omega) c2
theorem free_of {B : Bk} (h : usedN B < 24) : ∃ m, freeN B = some m ∧ m < 24 ∧ B m = none := by
  cases hf : freeN B with
  | none =>
    have h1 := fst1_none hf
    have : usedN B = 24 := cnt_all 24 (fun i hi => by
      have := h1 i (by omega) (by omega)
      cases hB : B i with
      | none => rw [hB] at this; cases this
      | some q => rfl)
    omega
  | some m =>
    obtain ⟨h1, h2, h3⟩ := fst1_lt hf
    exact ⟨m, rfl, by omega, by simpa using h3⟩
/-- the file's form: slots parted, pages within bounds -/
def okk (B : Bk) : Prop := prt B ∧ ∀ b, pgW (B b)
theorem hiE_tb {t dd : Nat} {e : Nat × Nat} : hiE t dd e = (hsh t e.1).testBit dd := by
  unfold hiE
  rw [Nat.testBit_eq_decide_div_mod_eq]; rfl
theorem bitT_tb {D k : Nat} : bitT D k = D.testBit k := by
  unfold bitT
  rw [Nat.testBit_eq_decide_div_mod_eq]; rfl
theorem difB_tb {t h k : Nat} : ∀ (l : List (Nat × Nat)) (D : Nat), (difB t h D l).testBit k = (D.testBit k || l.any fun e => h.testBit k ^^ (hsh t e.1).testBit k)
  | [], D => by simp [difB]
  | e :: l, D => by
    have := difB_tb (t := t) (h := h) (k := k) l (D ||| (h ^^^ hsh t e.1))
    rw [show difB t h D (e :: l) = difB t h (D ||| (h ^^^ hsh t e.1)) l from rfl, this, Nat.testBit_or, Nat.testBit_xor, List.any_cons, Bool.or_assoc]
/-- n splits make room -/
def room (t : Nat) (B : Bk) (h n : Nat) : Prop := usedN B + n ≤ 24 ∧ pdp (B (own B (h % 64))) + n ≤ 6 ∧ (n = 0 → (ents (B (own B (h % 64)))).length < 3) ∧ (n ≠ 0 → (∀ e ∈ ents (B (own B (h % 64))), ∀ k, pdp (B (own B (h % 64))) ≤ k → k + 1 < pdp (B (own B (h % 64))) + n → (hsh t e.1).testBit k = h.testBit k) ∧ ∃ e ∈ ents (B (own B (h % 64))), (hsh t e.1).testBit (pdp (B (own B (h % 64))) + n - 1) ≠ h.testBit (pdp (B (own B (h % 64))) + n - 1))
theorem room_of {t : Nat} {B : Bk} {h n : Nat} (hB : okk B) (hn : ndS t B (own B (h % 64)) h = some n) : room t B h n := by
  have hW := hB.2 (own B (h % 64))
  have hu := usedN_le B
  unfold ndS at hn
  unfold room
  generalize own B (h % 64) = b at hW hn ⊢
  by_cases q : (ents (B b)).length < 3
  · rw [if_pos q] at hn
    cases hn
    exact ⟨by omega, hW.2.2.1, fun _ => q, fun w => absurd rfl w⟩
  · rw [if_neg q] at hn
    cases hf : fst1 (bitT (difB t h 0 (ents (B b)))) (6 - pdp (B b)) (pdp (B b)) with
    | none => rw [hf] at hn; simp [ndE] at hn
    | some k =>
      rw [hf] at hn
      simp only [ndE, Option.bind_some] at hn
      obtain ⟨k1, k2, k3⟩ := fst1_lt hf
      split at hn
      · rename_i w
        cases hn
        refine ⟨w, by omega, fun z => by omega, fun _ => ⟨fun e he j j1 j2 => ?_, ?_⟩⟩
        · have h1 := fst1_min hf j j1 (by omega)
          rw [bitT_tb, difB_tb, Bool.or_eq_false_iff] at h1
          have h2 := List.any_eq_false.mp h1.2 e he
          revert h2
          cases (hsh t e.1).testBit j <;> cases h.testBit j <;> simp
        · rw [bitT_tb, difB_tb, Nat.zero_testBit, Bool.false_or, List.any_eq_true] at k3
          obtain ⟨e, e1, e2⟩ := k3
          refine ⟨e, e1, ?_⟩
          rw [show pdp (B b) + (k - pdp (B b) + 1) - 1 = k by omega]
          revert e2
          cases (hsh t e.1).testBit k <;> cases h.testBit k <;> simp
      · cases hn
theorem spl_ownI {t : Nat} {B : Bk} {b n i : Nat} (h : prt B) (hb : b < 24) (hn : n < 24) (hu : B b ≠ none) (hf : B n = none) (hp : ppx (B b) < 2 ^ pdp (B b)) (hi : i < 64) : own (spl t B b n) i = if i % 2 ^ (pdp (B b) + 1) = ppx (B b) + 2 ^ pdp (B b) then n else own B i := by
  obtain ⟨w1, w2⟩ := spl_own (t := t) h hb hn hu hf hp hi
  refine own_un ?_ w1 w2
  split
  · exact hn
  · exact own_lt _ _
theorem spl_used {t : Nat} {B : Bk} {b n : Nat} (hn : n < 24) (hu : B b ≠ none) (hf : B n = none) : usedN (spl t B b n) = usedN B + 1 := by
  have hne : n ≠ b := fun q => hu (q ▸ hf)
  have h1 := (cnt_upd (f := fun c => pus (B c)) (g := fun c => pus (spl t B b n c)) (m := n) (fun i hi => by
    unfold spl
    by_cases e : i = b
    · subst e
      rw [two_b]
      cases hB : B i with
      | none => exact absurd hB hu
      | some w => rfl
    · rw [two_o hi e]) 24).1 hn
  have h2 : pus (spl t B b n n) = 1 := by unfold spl; rw [two_n hne]; rfl
  rw [h2, hf] at h1
  unfold usedN
  simp only [pus] at h1 ⊢
  omega
theorem spl_okk {t : Nat} {B : Bk} {b n : Nat} (h : okk B) (hb : b < 24) (hn : n < 24) (hu : B b ≠ none) (hf : B n = none) (hd : pdp (B b) ≤ 5) : okk (spl t B b n) := by
  obtain ⟨w1, w2, w3, w4⟩ := h.2 b
  refine ⟨spl_prt h.1 hb hn hu hf w4, fun c => ?_⟩
  have hne : n ≠ b := fun q => hu (q ▸ hf)
  have hpow : 2 ^ (pdp (B b) + 1) = 2 ^ pdp (B b) * 2 := Nat.pow_succ ..
  unfold spl
  by_cases c1 : c = n
  · subst c1
    rw [two_n hne]
    refine ⟨Nat.le_trans (List.length_filter_le _ _) w1, fun e he => w2 e (List.mem_filter.mp he).1, ?_, ?_⟩
    · show pdp (B b) + 1 ≤ 6
      omega
    · show ppx (B b) + 2 ^ pdp (B b) < 2 ^ (pdp (B b) + 1)
      omega
  · by_cases c2 : c = b
    · subst c2
      rw [two_b]
      refine ⟨Nat.le_trans (List.length_filter_le _ _) w1, fun e he => w2 e (List.mem_filter.mp he).1, ?_, ?_⟩
      · show pdp (B c) + 1 ≤ 6
        omega
      · show ppx (B c) < 2 ^ (pdp (B c) + 1)
        omega
    · rw [two_o c1 c2]; exact h.2 c
theorem tb64 {h k : Nat} (hk : k < 6) : (h % 64 / 2 ^ k % 2 = 1) ↔ h.testBit k = true := by
  have := Nat.testBit_mod_two_pow h 6 k
  rw [show 2 ^ 6 = 64 from rfl, Nat.testBit_eq_decide_div_mod_eq] at this
  simp only [hk, decide_true, Bool.true_and] at this
  rw [← this]; simp
/-- the bucket that a split leaves for a hash -/
theorem spl_at {t : Nat} {B : Bk} {h m : Nat} (hB : okk B) (hm : m < 24) (hf : B m = none) (hd : pdp (B (own B (h % 64))) ≤ 5) : ∃ p, spl t B (own B (h % 64)) m (own (spl t B (own B (h % 64)) m) (h % 64)) = some (pdp (B (own B (h % 64))) + 1, p, (ents (B (own B (h % 64)))).filter fun e => (hsh t e.1).testBit (pdp (B (own B (h % 64)))) == h.testBit (pdp (B (own B (h % 64))))) := by
  have hi : h % 64 < 64 := Nat.mod_lt _ (by omega)
  obtain ⟨o1, o2⟩ := hB.1.own hi
  obtain ⟨o3, o4⟩ := clm_some o1
  have hW := hB.2 (own B (h % 64))
  rw [spl_ownI hB.1 (own_lt _ _) hm o3 hf hW.2.2.2 hi]
  have ms := (mod_spl (i := h % 64) hW.2.2.2).2
  have tb := tb64 (h := h) (k := pdp (B (own B (h % 64)))) (by omega)
  generalize own B (h % 64) = b at *
  have hne : m ≠ b := fun q => o3 (q ▸ hf)
  by_cases e : h.testBit (pdp (B b)) = true
  · rw [if_pos (ms.mpr ⟨o4, tb.mpr e⟩)]
    refine ⟨ppx (B b) + 2 ^ pdp (B b), ?_⟩
    unfold spl
    rw [two_n hne, e]
    congr 3
    apply List.filter_congr
    intro x _
    rw [hiE_tb]; simp
  · rw [if_neg (fun z => e (tb.mp (ms.mp z).2))]
    refine ⟨ppx (B b), ?_⟩
    have e2 : h.testBit (pdp (B b)) = false := by simpa using e
    unfold spl
    rw [two_b, e2]
    congr 3
    apply List.filter_congr
    intro x _
    unfold loE
    rw [hiE_tb]; simp
theorem room_step {t : Nat} {B : Bk} {h n m : Nat} (hB : okk B) (hr : room t B h (n + 1)) (hm : m < 24) (hf : B m = none) : room t (spl t B (own B (h % 64)) m) h n := by
  have hi : h % 64 < 64 := Nat.mod_lt _ (by omega)
  obtain ⟨o1, o2⟩ := hB.1.own hi
  obtain ⟨o3, o4⟩ := clm_some o1
  obtain ⟨r1, r2, -, r4⟩ := hr
  obtain ⟨r5, e, e1, e2⟩ := r4 (by omega)
  have hW := hB.2 (own B (h % 64))
  obtain ⟨p, hp⟩ := spl_at (t := t) (h := h) hB hm hf (by omega)
  have hus := spl_used (t := t) hm o3 hf
  unfold room
  rw [hp, hus]
  dsimp only [ents, pdp]
  change _ ∧ pdp (B (own B (h % 64))) + 1 + n ≤ 6 ∧ _
  generalize own B (h % 64) = b at *
  refine ⟨by omega, by omega, fun z => ?_, fun z => ⟨fun x hx k k1 k2 => ?_, e, ?_, ?_⟩⟩
  · subst z
    have : (List.filter (fun e => (hsh t e.1).testBit (pdp (B b)) == h.testBit (pdp (B b))) (ents (B b))).length < (ents (B b)).length := List.length_filter_lt_length_iff_exists.mpr ⟨e, e1, by simpa using e2⟩
    have := hW.1
    exact Nat.lt_of_lt_of_le ‹_› this
  · exact r5 x (List.mem_filter.mp hx).1 k (by have : pdp (B b) + 1 ≤ k := k1; omega) (by have : k + 1 < pdp (B b) + 1 + n := k2; omega)
  · exact List.mem_filter.mpr ⟨e1, by show ((hsh t e.1).testBit (pdp (B b)) == h.testBit (pdp (B b))) = true; rw [r5 e e1 (pdp (B b)) (Nat.le_refl _) (by omega)]; simp⟩
  · show (hsh t e.1).testBit (pdp (B b) + 1 + n - 1) ≠ h.testBit (pdp (B b) + 1 + n - 1)
    rw [show pdp (B b) + 1 + n - 1 = pdp (B b) + (n + 1) - 1 by omega]; exact e2
/-- one split for a key, with its two writes -/
noncomputable def plS (R : Ru) (k : Nat) (S : St) : St := wrt R (wrt R (spl R.2.2.2 S.1 (own S.1 (hsh R.2.2.2 k % 64)) ((freeN S.1).getD 0), S.2.1, S.2.2.1, max S.2.2.2.1 (pdp (S.1 (own S.1 (hsh R.2.2.2 k % 64))) + 1), S.2.2.2.2) ((freeN S.1).getD 0)) (own S.1 (hsh R.2.2.2 k % 64))
def adP (P : Pg) (k v : Nat) : Pg := P.map fun q => (q.1, q.2.1, q.2.2 ++ [(k, v)])
noncomputable def plc (R : Ru) (k v : Nat) : Nat → St → St
  | 0, S => wrt R (ub S.1 (own S.1 (hsh R.2.2.2 k % 64)) (adP (S.1 (own S.1 (hsh R.2.2.2 k % 64))) k v), S.2) (own S.1 (hsh R.2.2.2 k % 64))
  | n + 1, S => plc R k v n (plS R k S)
def stP (P : Pg) (i k v : Nat) : Pg := P.map fun q => (q.1, q.2.1, q.2.2.set i (k, v))
/-- put, as mathematics -/
noncomputable def putS (R : Ru) (k v : Nat) (S : St) : Int32 × St := match kIdx (ents (S.1 (own S.1 (hsh R.2.2.2 k % 64)))) k with
  | some i => (0, wrt R (ub S.1 (own S.1 (hsh R.2.2.2 k % 64)) (stP (S.1 (own S.1 (hsh R.2.2.2 k % 64))) i k v), S.2) (own S.1 (hsh R.2.2.2 k % 64)))
  | none => if brR R S.1 S.2.2.2.2 k = true then (-3, S) else match ndS R.2.2.2 S.1 (own S.1 (hsh R.2.2.2 k % 64)) (hsh R.2.2.2 k) with
    | none => (-5, S)
    | some n => (nI n, plc R k v n S)
theorem own_cong {B B' : Bk} (h : ∀ c i, clm (B' c) i = clm (B c) i) (i : Nat) : own B' i = own B i := by
  unfold own
  rw [show (fun b => clm (B' b) i) = fun b => clm (B b) i from funext fun c => h c i]
theorem clm_ub {B : Bk} {b : Nat} {P : Pg} (h : ∀ i, clm P i = clm (B b) i) (c i : Nat) : clm (ub B b P c) i = clm (B c) i := by
  unfold ub
  split
  · rename_i e; rw [e]; exact h i
  · rfl
theorem clm_map {P : Pg} {f : List (Nat × Nat) → List (Nat × Nat)} (i : Nat) : clm (P.map fun q => (q.1, q.2.1, f q.2.2)) i = clm P i := by cases P <;> rfl
theorem RS.file {s : xS} {S : St} (h : RS s S) {g : Nat → Int32} {b : Nat} {P : Pg} (hg : pgs g 0 (ub S.1 b P)) (hc : ∀ i, clm P i = clm (S.1 b) i) : RS (g, s.2) (ub S.1 b P, S.2) :=
  ⟨hg, h.2.1, fun i hi => by rw [own_cong (clm_ub hc)]; exact h.2.2.1 i hi, h.2.2.2⟩
section PLACE
variable {E : Nat × (Nat → Int32)} {d a r : Nat} {u : xU} {R : Ru}
theorem c_pl_loop {k v : Nat} (hk : k < 1000) (hd : a + 7 ≤ r ∨ r + 4 ≤ a) (ha : sepL u R.1 a 7) (hv : v ≤ 99) : ∀ (n j : Nat) (A : xH) (s : xS) (S : St) (w4 w5 w8 w9 : Value), ST A a s → RUR A r u R → RS s S → okk S.1 → S.2.2.2.2 ≤ 999 → S.2.2.2.1 ≤ 6 → room R.2.2.2 S.1 (hsh R.2.2.2 k) n → j + n < 100 → ∃ A' s', xD E (d + 6) 48 104 [.ref a, .int (nI k), .int (nI v), .ref r, w4, w5, .int (nI (j + n)), .int (nI j), w8, w9] [] A = some (some (.int (nI (j + n))), A') ∧ ST A' a s' ∧ RS s' (plc R k v n S) ∧ RUR A' r u R ∧ sm (inSR a r) A A'
  | 0, j, A, s, S, w4, w5, w8, w9, h, hR, hS, hok, ht, hdp, hr, hj => by
    have hsl := hR.2.2.2.2.2.2.2.2
    have hsl2 := hR.2.2.2.2.2.2.2.1
    obtain ⟨o1, o2⟩ := hok.1.own (show hsh R.2.2.2 k % 64 < 64 from Nat.mod_lt _ (by omega))
    obtain ⟨o3, -⟩ := clm_some o1
    have hb := own_lt S.1 (hsh R.2.2.2 k % 64)
    have hl := hr.2.2.1 rfl
    have hW := hok.2 (own S.1 (hsh R.2.2.2 k % 64))
    have hq : ∃ q, S.1 (own S.1 (hsh R.2.2.2 k % 64)) = some q := by
      cases hB : S.1 (own S.1 (hsh R.2.2.2 k % 64)) with
      | none => exact absurd hB o3
      | some q => exact ⟨q, rfl⟩
    obtain ⟨q, hq⟩ := hq
    rw [hq] at hl hW
    obtain ⟨g, g1, g2⟩ := c_append (E := E) (d := d + 2) (k := k) (v := v) h.2.1 hS.1 hb hq hl
    obtain ⟨a1, m1⟩ := h.sF g
    have hS1 := hS.file (P := adP (S.1 (own S.1 (hsh R.2.2.2 k % 64))) k v) (g := g) (by unfold adP; rw [hq]; exact g2) (fun i => clm_map (f := fun l => l ++ [(k, v)]) i)
    obtain ⟨A2, s2, e1, e2, e3, e4, e5⟩ := c_queueWrite (E := E) (d := d) a1 (hR.sS hd ha m1) hd ha hS1 hb ht (by show pdp (ub _ _ _ _) ≤ 6; rw [ub_self]; unfold adP; rw [hq]; exact hW.2.2.1)
    refine ⟨A2, s2, ?_, e2, e3, e4, m1.toSR1.trans e5⟩
    rw [e48_104, if_pos (nI_le (by omega) (by omega)), c_soughtIn h hR.1 hS.2.2.1 hk hsl hsl2, xI_s, Option.bind_some]
    dsimp only
    rw [h.g0, Option.bind_some, g1, xV_s, Option.bind_some, e1, xV_s, Option.bind_some]
  | n + 1, j, A, s, S, w4, w5, w8, w9, h, hR, hS, hok, ht, hdp, hr, hj => by
    have hsl := hR.2.2.2.2.2.2.2.2
    have hsl2 := hR.2.2.2.2.2.2.2.1
    obtain ⟨o1, o2⟩ := hok.1.own (show hsh R.2.2.2 k % 64 < 64 from Nat.mod_lt _ (by omega))
    obtain ⟨o3, -⟩ := clm_some o1
    have hb := own_lt S.1 (hsh R.2.2.2 k % 64)
    have hW := hok.2 (own S.1 (hsh R.2.2.2 k % 64))
    have r1 := hr.1
    have r2 := hr.2.1
    obtain ⟨m, f1, f2, f3⟩ := free_of (B := S.1) (by omega)
    obtain ⟨A1, s1, p1, p2, p3, p4, p5⟩ := c_splitBucket (E := E) (d := d + 1) h hR hd ha hS hb hok.1 o3 (by omega) hW.2.2.2 (fun e he => (hW.2.1 e he).1) f1 hdp
    have hok1 := spl_okk (t := R.2.2.2) hok hb f2 o3 f3 (by omega)
    obtain ⟨A2, s2, q1, q2, q3, q4, q5⟩ := c_queueWrite (E := E) (d := d) p2 p4 hd ha p3 f2 ht (hok1.2 _).2.2.1
    obtain ⟨A3, s3, z1, z2, z3, z4, z5⟩ := c_queueWrite (E := E) (d := d) q2 q4 hd ha q3 hb (Nat.min_le_right _ _) (hok1.2 _).2.2.1
    have hpl : plS R k S = wrt R (wrt R (spl R.2.2.2 S.1 (own S.1 (hsh R.2.2.2 k % 64)) m, S.2.1, S.2.2.1, max S.2.2.2.1 (pdp (S.1 (own S.1 (hsh R.2.2.2 k % 64))) + 1), S.2.2.2.2) m) (own S.1 (hsh R.2.2.2 k % 64)) := by unfold plS; rw [f1]; rfl
    rw [← hpl] at z3
    have hfl : (plS R k S).1 = spl R.2.2.2 S.1 (own S.1 (hsh R.2.2.2 k % 64)) m := by rw [hpl]; rfl
    have htm : (plS R k S).2.2.2.2 ≤ 999 := by rw [hpl]; exact Nat.min_le_right _ _
    have hdq : (plS R k S).2.2.2.1 ≤ 6 := by
      rw [hpl]
      show max S.2.2.2.1 (pdp (S.1 (own S.1 (hsh R.2.2.2 k % 64))) + 1) ≤ 6
      omega
    obtain ⟨A4, s4, i1, i2, i3, i4, i5⟩ := c_pl_loop hk hd ha hv n (j + 1) A3 s3 (plS R k S) xJ xJ (.int (nI (own S.1 (hsh R.2.2.2 k % 64)))) (.int (nI m)) z2 z4 z3 (by rw [hfl]; exact hok1) htm hdq (by rw [hfl]; exact room_step hok hr f2 f3) (by omega)
    refine ⟨A4, s4, ?_, i2, i3, i4, ((p5.toSR1.trans q5).trans z5).trans i5⟩
    rw [e48_104, if_neg (nI_ge (by omega) (by omega)), c_soughtIn h hR.1 hS.2.2.1 hk hsl hsl2, xI_s, Option.bind_some]
    dsimp only
    rw [p1, xI_s, Option.bind_some]
    dsimp only
    rw [q1, xV_s, Option.bind_some, z1, xV_s, Option.bind_some, nI_1, show j + (n + 1) = j + 1 + n by omega]
    exact i1
theorem c_placeKey {A : xH} {s : xS} {S : St} {k v : Nat} (hk : k < 1000) (hv : v ≤ 99) (hd : a + 7 ≤ r ∨ r + 4 ≤ a) (ha : sepL u R.1 a 7) (h : ST A a s) (hR : RUR A r u R) (hS : RS s S) (hok : okk S.1) (ht : S.2.2.2.2 ≤ 999) (hdp : S.2.2.2.1 ≤ 6) : ∃ A' s', xC E (d + 6) 48 [.ref a, .int (nI k), .int (nI v), .ref r] A = some (some (.int (putS R k v S).1), A') ∧ ST A' a s' ∧ RS s' (putS R k v S).2 ∧ RUR A' r u R ∧ sm (inSR a r) A A' := by
  have hsl := hR.2.2.2.2.2.2.2.2
  have hsl2 := hR.2.2.2.2.2.2.2.1
  have hh := hsh_lt R.2.2.2 k
  obtain ⟨o1, o2⟩ := hok.1.own (show hsh R.2.2.2 k % 64 < 64 from Nat.mod_lt _ (by omega))
  obtain ⟨o3, -⟩ := clm_some o1
  have hb := own_lt S.1 (hsh R.2.2.2 k % 64)
  have hW := hok.2 (own S.1 (hsh R.2.2.2 k % 64))
  have hq : ∃ q, S.1 (own S.1 (hsh R.2.2.2 k % 64)) = some q := by
    cases hB : S.1 (own S.1 (hsh R.2.2.2 k % 64)) with
    | none => exact absurd hB o3
    | some q => exact ⟨q, rfl⟩
  obtain ⟨q, hq⟩ := hq
  rw [k48 _ _ _ _ _ _ _ h.cls, c_isKey, xI_s, Option.bind_some]
  dsimp only
  rw [if_neg (show ¬ (nI k < 0 ∨ nI 1000 ≤ nI k) from fun z => z.elim (nI_pos (by omega)) (nI_ge hk (by omega))), if_neg (show ¬ nI 1 = 0 by decide), if_neg (nI_pos (by omega)), if_pos (show nI v ≤ (99 : Int32) from nI_le (b := 99) hv (by omega)), c_soughtIn h hR.1 hS.2.2.1 hk hsl hsl2, xI_s, Option.bind_some]
  dsimp only
  rw [h.g0, Option.bind_some, c_find h.2.1 hS.1 hb (by omega) (fun e he => by have := (hW.2.1 e he).1; omega), xI_s, Option.bind_some]
  dsimp only
  unfold putS
  cases hi : kIdx (ents (S.1 (own S.1 (hsh R.2.2.2 k % 64)))) k with
  | some i =>
    obtain ⟨w, hw⟩ := kIdx_some hi
    have hi2 := (List.getElem?_eq_some_iff.mp hw).1
    have hl3 := hW.1
    obtain ⟨g, g1, g2⟩ := c_setValue (E := E) (d := d + 3) (w := v) h.2.1 hS.1 hb hw
    obtain ⟨a1, m1⟩ := h.sF g
    have hS1 := hS.file (P := stP (S.1 (own S.1 (hsh R.2.2.2 k % 64))) i k v) (g := g) g2 (fun j => clm_map (f := fun l => l.set i (k, v)) j)
    obtain ⟨A2, s2, e1, e2, e3, e4, e5⟩ := c_queueWrite (E := E) (d := d) a1 (hR.sS hd ha m1) hd ha hS1 hb ht (by show pdp (ub _ _ _ _) ≤ 6; rw [ub_self]; unfold stP; rw [hq]; rw [hq] at hW; exact hW.2.2.1)
    refine ⟨A2, s2, ?_, e2, e3, e4, m1.toSR1.trans e5⟩
    rw [oI_s, if_neg (n_m1ne (by omega)), h.g0, Option.bind_some, g1, xV_s, Option.bind_some, e1, xV_s, Option.bind_some]
  | none =>
    rw [oI_n, if_pos rfl]
    obtain ⟨A1, p1, p2, p3, p4⟩ := c_isBarred (E := E) (d := d) h hR hd hS hk ht (fun b => (hok.2 b).2.2.1)
    rw [p1, xI_s, Option.bind_some]
    dsimp only
    by_cases br : brR R S.1 S.2.2.2.2 k = true
    · rw [if_pos br, if_pos br, if_neg (show ¬ nI 1 = 0 by decide)]
      exact ⟨A1, s, rfl, p2, hS, p3, p4.toSR2⟩
    · rw [if_neg br, if_neg br, if_pos (show nI 0 = 0 by rfl), c_hashOf p3.1 hk hsl hsl2, xI_s, Option.bind_some]
      dsimp only
      rw [c_splitsNeeded p2 p3.1 hS.1 hb o3 hW.2.2.1 hh hsl hsl2 (fun e he => (hW.2.1 e he).1), xI_s, Option.bind_some]
      dsimp only
      cases hn : ndS R.2.2.2 S.1 (own S.1 (hsh R.2.2.2 k % 64)) (hsh R.2.2.2 k) with
      | none =>
        rw [if_neg (show ¬ (0 : Int32) ≤ ndI none by decide)]
        exact ⟨A1, s, rfl, p2, hS, p3, p4.toSR2⟩
      | some n =>
        have hr := room_of hok hn
        have hr2 := hr.2.1
        rw [if_pos (show (0 : Int32) ≤ ndI (some n) from nI_pos' (n := n) (by omega))]
        obtain ⟨A2, s2, e1, e2, e3, e4, e5⟩ := c_pl_loop (E := E) (d := d) hk hd ha hv n 0 A1 s S (.int (nI (own S.1 (hsh R.2.2.2 k % 64)))) (.int (-1)) xJ xJ p2 p3 hS hok ht hdp hr (by omega)
        rw [Nat.zero_add] at e1
        exact ⟨A2, s2, e1, e2, e3, e4, p4.toSR2.trans e5⟩
end PLACE
