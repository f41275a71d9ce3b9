/-! ===== salts: keys put one by one need the buckets that the counts tell ===== -/
def ind (t d p k : Nat) : Nat := if hsh t k % 2 ^ d = p then 1 else 0
def cP (P : Nat → Bool) (t d p m : Nat) : Nat := cnt (fun k => if P k = true then ind t d p k else 0) m
theorem cnt_mono {f : Nat → Nat} {m n : Nat} (h : m ≤ n) : cnt f m ≤ cnt f n := by
  obtain ⟨k, rfl⟩ : ∃ k, n = m + k := ⟨n - m, by omega⟩
  rw [cnt_split]; omega
theorem cnt_lem {f g : Nat → Nat} : ∀ n, (∀ i, i < n → f i ≤ g i) → cnt f n ≤ cnt g n
  | 0, _ => Nat.le_refl _
  | n + 1, h => by
    rw [cnt_s, cnt_s]
    have := cnt_lem n (fun i hi => h i (by omega))
    have := h n (by omega)
    omega
theorem cnt_add {f g : Nat → Nat} : ∀ n, cnt (fun i => f i + g i) n = cnt f n + cnt g n
  | 0 => rfl
  | n + 1 => by
    rw [cnt_s, cnt_s, cnt_s, cnt_add n]; omega
theorem cnt_1 {f : Nat → Nat} {b : Nat} (n : Nat) (h : ∀ i, i < n → i ≠ b → f i = 0) (hb : b < n) : cnt f n = f b := by
  have h0 : cnt f n = cnt (fun i => if i = b then f b else 0) n := cnt_cong n (fun i hi => by
    by_cases e : i = b
    · rw [e, if_pos rfl]
    · rw [if_neg e]; exact h i hi e)
  have h1 := (cnt_upd (f := fun _ => 0) (g := fun i => if i = b then f b else 0) (m := b) (fun i hi => if_neg hi) n).1 hb
  have h2 : cnt (fun _ => 0) n = 0 := cnt_z n (fun _ _ => rfl)
  rw [h2, if_pos rfl] at h1
  rw [h0]
  omega
/-- how many nodes lie above buckets -/
def nIn (B : Bk) : Nat := cnt (fun d => cnt (fun p => if d < pdp (B (own B p)) then 1 else 0) (2 ^ d)) 6
def inF (B : Bk) (k : Nat) : Prop := ∃ b v, b < 24 ∧ (k, v) ∈ ents (B b)
section SALTS
variable {t : Nat} {B : Bk} {P : Nat → Bool}
theorem inF_val (h : okk B) (hh : ∀ b, hsT t (B b)) (k : Nat) : inF B k ↔ valO (ents (B (own B (hsh t k % 64)))) k ≠ none := by
  constructor
  · intro ⟨b, v, hb, he⟩ hn
    rw [hs_own h hh hb he] at he
    cases hi : kIdx (ents (B (own B (hsh t k % 64)))) k with
    | none => exact kIdx_none.mp hi (k, v) he rfl
    | some i =>
      obtain ⟨w, hw⟩ := kIdx_some hi
      unfold valO at hn
      rw [hi, Option.bind_some, hw] at hn
      cases hn
  · intro hn
    cases hv : valO (ents (B (own B (hsh t k % 64)))) k with
    | none => exact absurd hv hn
    | some v => exact ⟨_, v, own_lt _ _, valO_some hv⟩
/-- a sum over the keys put so far -/
theorem memE (h : okk B) (hh : ∀ b, hsT t (B b)) (hV : ∀ b, pgV (B b)) {i : Nat} (hi : i ≤ 1000) (hm : ∀ k, inF B k ↔ k < i ∧ P k = true) (g : Nat → Nat) : cnt (fun k => if P k = true then g k else 0) i = lsum (fun k _ => g k) (allE B 24 0) := by
  rw [← cnt_keys h hh hV, show (1000 : Nat) = i + (1000 - i) by omega, cnt_split i (1000 - i)]
  have h1 : cnt (fun k => vg (fun k _ => g k) (valO (ents (B (own B (hsh t k % 64)))) k) k) i = cnt (fun k => if P k = true then g k else 0) i := cnt_cong i (fun k hk => by
    have := inF_val h hh k
    cases hv : valO (ents (B (own B (hsh t k % 64)))) k with
    | none =>
      by_cases e : P k = true
      · exact absurd hv (this.mp ((hm k).mpr ⟨hk, e⟩))
      · rw [if_neg e]; rfl
    | some v => rw [if_pos ((hm k).mp (this.mpr (by rw [hv]; simp))).2]; rfl)
  have h2 : cnt (fun j => vg (fun k _ => g k) (valO (ents (B (own B (hsh t (i + j) % 64)))) (i + j)) (i + j)) (1000 - i) = 0 := cnt_z _ (fun j hj => by
    have := inF_val h hh (i + j)
    cases hv : valO (ents (B (own B (hsh t (i + j) % 64)))) (i + j) with
    | none => rfl
    | some v => have := ((hm (i + j)).mp (this.mpr (by rw [hv]; simp))).1; omega)
  rw [h1, h2]; rfl
theorem lsum_one {g : Nat → Nat → Nat} : ∀ (l : List (Nat × Nat)), (∀ e ∈ l, g e.1 e.2 = 1) → lsum g l = l.length
  | [], _ => rfl
  | e :: l, h => by
    show g e.1 e.2 + lsum g l = l.length + 1
    rw [h e (List.mem_cons_self ..), lsum_one l (fun x hx => h x (List.mem_cons_of_mem _ hx))]; omega
theorem lsum_zero {g : Nat → Nat → Nat} : ∀ (l : List (Nat × Nat)), (∀ e ∈ l, g e.1 e.2 = 0) → lsum g l = 0
  | [], _ => rfl
  | e :: l, h => by
    show g e.1 e.2 + lsum g l = 0
    rw [h e (List.mem_cons_self ..), lsum_zero l (fun x hx => h x (List.mem_cons_of_mem _ hx))]
/-- a bucket has the keys of its place -/
theorem len_cP (h : okk B) (hh : ∀ b, hsT t (B b)) (hV : ∀ b, pgV (B b)) {i b : Nat} (hi : i ≤ 1000) (hm : ∀ k, inF B k ↔ k < i ∧ P k = true) (hb : b < 24) (hu : B b ≠ none) : (ents (B b)).length = cP P t (pdp (B b)) (ppx (B b)) i := by
  unfold cP
  rw [memE h hh hV hi hm, lsum_allE, cnt_1 (b := b) 24 (fun c hc24 hc => ?_) hb]
  · exact (lsum_one _ (fun e he => if_pos (hh b e he))).symm
  · refine lsum_zero _ (fun e he => if_neg (fun z => hc ?_))
    have h64 : hsh t e.1 % 64 < 64 := Nat.mod_lt _ (by omega)
    have o2 := (h.1.own h64).2
    rw [o2 b hb ((clm_iff hu).mpr (by rw [mod64 (h.2 b).2.2.1]; exact z))]
    exact hs_own h hh (k := e.1) (v := e.2) hc24 he
/-- keys below i are in the file; nodes above buckets have more than three keys below j -/
def JB (t : Nat) (P : Nat → Bool) (i j : Nat) (B : Bk) : Prop := okk B ∧ (∀ b, hsT t (B b)) ∧ (∀ b, pgV (B b)) ∧ (∀ b, 24 ≤ b → B b = none) ∧ (∀ k, inF B k ↔ k < i ∧ P k = true) ∧ (∀ p, p < 64 → ∀ d, d < pdp (B (own B p)) → 3 < cP P t d (p % 2 ^ d) j) ∧ usedN B = 1 + nIn B
theorem cP_mono {t d p m n : Nat} (h : m ≤ n) : cP P t d p m ≤ cP P t d p n := cnt_mono h
/-- a deeper place has fewer keys -/
theorem cP_deep {t d e p m : Nat} (h : e ≤ d) : cP P t d p m ≤ cP P t e (p % 2 ^ e) m := by
  refine cnt_lem m (fun k _ => ?_)
  by_cases hp : P k = true
  · rw [if_pos hp, if_pos hp]
    unfold ind
    by_cases q : hsh t k % 2 ^ d = p
    · rw [if_pos q, if_pos (by rw [← q, Nat.mod_mod_of_dvd _ (Nat.pow_dvd_pow 2 h)])]; omega
    · rw [if_neg q]; exact Nat.zero_le _
  · rw [if_neg hp, if_neg hp]; omega
theorem spl_dp {t : Nat} {B : Bk} {b n p : Nat} (h : okk B) (hb : b < 24) (hn : n < 24) (hu : B b ≠ none) (hf : B n = none) (hp : p < 64) : pdp (spl t B b n (own (spl t B b n) p)) = if p % 2 ^ pdp (B b) = ppx (B b) then pdp (B b) + 1 else pdp (B (own B p)) := by
  have hne : n ≠ b := fun q => hu (q ▸ hf)
  have hpx := (h.2 b).2.2.2
  have ho := own_iff h.1 hb hu hp
  obtain ⟨m1, m2⟩ := mod_spl (i := p) hpx
  rw [spl_ownI h.1 hb hn hu hf hpx hp]
  by_cases e : p % 2 ^ (pdp (B b) + 1) = ppx (B b) + 2 ^ pdp (B b)
  · rw [if_pos e, if_pos (m2.mp e).1]
    unfold spl
    rw [two_n hne]; rfl
  · rw [if_neg e]
    by_cases q : p % 2 ^ pdp (B b) = ppx (B b)
    · rw [if_pos q, ho.mpr q]
      unfold spl
      rw [two_b]; rfl
    · rw [if_neg q]
      have h1 : own B p ≠ b := fun z => q (ho.mp z)
      have h2 : own B p ≠ n := fun z => by
        have := (h.1.own hp).1
        rw [z, hf] at this
        simp [clm] at this
      unfold spl
      rw [two_o h2 h1]
theorem spl_nIn {t : Nat} {B : Bk} {b n : Nat} (h : okk B) (hb : b < 24) (hn : n < 24) (hu : B b ≠ none) (hf : B n = none) (hd : pdp (B b) ≤ 5) : nIn (spl t B b n) = nIn B + 1 := by
  obtain ⟨w1, w2, w3, w4⟩ := h.2 b
  have hlev : ∀ d, d < 6 → d ≠ pdp (B b) → cnt (fun p => if d < pdp (spl t B b n (own (spl t B b n) p)) then 1 else 0) (2 ^ d) = cnt (fun p => if d < pdp (B (own B p)) then 1 else 0) (2 ^ d) := fun d hd6 hdn => cnt_cong _ (fun p hp => by
    have h6 := pow6 (n := d) (by omega)
    rw [spl_dp h hb hn hu hf (show p < 64 by omega)]
    by_cases q : p % 2 ^ pdp (B b) = ppx (B b)
    · rw [if_pos q, (own_iff h.1 hb hu (show p < 64 by omega)).mpr q]
      by_cases z : d < pdp (B b)
      · rw [if_pos (by omega), if_pos z]
      · rw [if_neg (by omega), if_neg z]
    · rw [if_neg q])
  have hlev0 : cnt (fun p => if pdp (B b) < pdp (spl t B b n (own (spl t B b n) p)) then 1 else 0) (2 ^ pdp (B b)) = cnt (fun p => if pdp (B b) < pdp (B (own B p)) then 1 else 0) (2 ^ pdp (B b)) + 1 := by
    have h6 := pow6 w3
    have e1 : cnt (fun p => if pdp (B b) < pdp (spl t B b n (own (spl t B b n) p)) then 1 else 0) (2 ^ pdp (B b)) = cnt (fun p => (if pdp (B b) < pdp (B (own B p)) then 1 else 0) + (if p = ppx (B b) then 1 else 0)) (2 ^ pdp (B b)) := cnt_cong _ (fun p hp => by
      rw [spl_dp h hb hn hu hf (show p < 64 by omega), Nat.mod_eq_of_lt hp]
      by_cases q : p = ppx (B b)
      · have ho := (own_iff h.1 hb hu (show p < 64 by omega)).mpr (by rw [Nat.mod_eq_of_lt hp]; exact q)
        rw [if_pos q, if_pos (by omega), ho, if_neg (by omega), if_pos q]
      · rw [if_neg q, if_neg q]; rfl)
    rw [e1, cnt_add, cnt_1 (f := fun p => if p = ppx (B b) then 1 else 0) (b := ppx (B b)) _ (fun i _ hi => if_neg hi) w4, if_pos rfl]
  unfold nIn
  have h1 := (cnt_upd (f := fun d => if d < 6 then cnt (fun p => if d < pdp (B (own B p)) then 1 else 0) (2 ^ d) else 0) (g := fun d => if d < 6 then cnt (fun p => if d < pdp (spl t B b n (own (spl t B b n) p)) then 1 else 0) (2 ^ d) else 0) (m := pdp (B b)) (fun i hi => by
    by_cases z : i < 6
    · rw [if_pos z, if_pos z]; exact hlev i z hi
    · rw [if_neg z, if_neg z]) 6).1 (by omega)
  rw [if_pos (show pdp (B b) < 6 by omega), if_pos (show pdp (B b) < 6 by omega), hlev0] at h1
  rw [cnt_cong (f := fun d => cnt (fun p => if d < pdp (spl t B b n (own (spl t B b n) p)) then 1 else 0) (2 ^ d)) (g := fun d => if d < 6 then cnt (fun p => if d < pdp (spl t B b n (own (spl t B b n) p)) then 1 else 0) (2 ^ d) else 0) 6 (fun d hd => (if_pos hd).symm), cnt_cong (f := fun d => cnt (fun p => if d < pdp (B (own B p)) then 1 else 0) (2 ^ d)) (g := fun d => if d < 6 then cnt (fun p => if d < pdp (B (own B p)) then 1 else 0) (2 ^ d) else 0) 6 (fun d hd => (if_pos hd).symm)]
  omega
theorem spl_inF {t : Nat} {B : Bk} {b n k : Nat} (hb : b < 24) (hn : n < 24) (hu : B b ≠ none) (hf : B n = none) : inF (spl t B b n) k ↔ inF B k := by
  have hne : n ≠ b := fun q => hu (q ▸ hf)
  constructor
  · intro ⟨c, v, c1, c2⟩
    unfold spl at c2
    by_cases e1 : c = n
    · subst e1
      rw [two_n hne] at c2
      exact ⟨b, v, hb, (List.mem_filter.mp c2).1⟩
    · by_cases e2 : c = b
      · subst e2
        rw [two_b] at c2
        exact ⟨c, v, c1, (List.mem_filter.mp c2).1⟩
      · rw [two_o e1 e2] at c2
        exact ⟨c, v, c1, c2⟩
  · intro ⟨c, v, c1, c2⟩
    by_cases e2 : c = b
    · subst e2
      cases hh : hiE t (pdp (B c)) (k, v) with
      | true => exact ⟨n, v, hn, by unfold spl; rw [two_n hne]; exact List.mem_filter.mpr ⟨c2, hh⟩⟩
      | false => exact ⟨c, v, c1, by unfold spl; rw [two_b]; exact List.mem_filter.mpr ⟨c2, by unfold loE; rw [hh]; rfl⟩⟩
    · have e1 : c ≠ n := fun z => by rw [z, hf] at c2; simp [ents] at c2
      exact ⟨c, v, c1, by unfold spl; rw [two_o e1 e2]; exact c2⟩
/-- one more key makes more than three -/
theorem full_cP {i : Nat} (h : okk B) (hh : ∀ b, hsT t (B b)) (hV : ∀ b, pgV (B b)) (hi : i < 1000) (hP : P i = true) (hm : ∀ k, inF B k ↔ k < i ∧ P k = true) (h3 : (ents (B (own B (hsh t i % 64)))).length = 3) : cP P t (pdp (B (own B (hsh t i % 64)))) (ppx (B (own B (hsh t i % 64)))) (i + 1) = 4 := by
  obtain ⟨o1, o2⟩ := h.1.own (show hsh t i % 64 < 64 from Nat.mod_lt _ (by omega))
  have hl := len_cP h hh hV (show i ≤ 1000 by omega) hm (own_lt B (hsh t i % 64)) (clm_some o1).1
  have hx := hsT_own (t := t) (k := i) h
  unfold cP at hl ⊢
  rw [cnt_s, ← hl, if_pos hP, h3]
  unfold ind
  rw [if_pos hx]
theorem JB_spl {i m : Nat} (h : JB t P i (i + 1) B) (hi : i < 1000) (hP : P i = true) (h3 : (ents (B (own B (hsh t i % 64)))).length = 3) (hd : pdp (B (own B (hsh t i % 64))) ≤ 5) (hm : m < 24) (hf : B m = none) : JB t P i (i + 1) (spl t B (own B (hsh t i % 64)) m) := by
  obtain ⟨j1, j2, j3, j4, j5, j6, j7⟩ := h
  obtain ⟨o1, o2⟩ := j1.1.own (show hsh t i % 64 < 64 from Nat.mod_lt _ (by omega))
  have o3 := (clm_some o1).1
  have hb := own_lt B (hsh t i % 64)
  obtain ⟨a1, a2, a3, a4⟩ := spl_all (t := t) j1 j2 j3 j4 hb hm o3 hf hd
  have h4 := full_cP j1 j2 j3 hi hP j5 h3
  refine ⟨a1, a2, a3, a4, fun k => (spl_inF hb hm o3 hf).trans (j5 k), fun p hp d hdp => ?_, ?_⟩
  · rw [spl_dp j1 hb hm o3 hf hp] at hdp
    by_cases q : p % 2 ^ pdp (B (own B (hsh t i % 64))) = ppx (B (own B (hsh t i % 64)))
    · rw [if_pos q] at hdp
      by_cases z : d = pdp (B (own B (hsh t i % 64)))
      · rw [z, q, h4]; omega
      · refine j6 p hp d ?_
        rw [(own_iff j1.1 hb o3 hp).mpr q]; omega
    · rw [if_neg q] at hdp
      exact j6 p hp d hdp
  · rw [spl_used hm o3 hf, j7, spl_nIn j1 hb hm o3 hf hd]; omega
end SALTS
