/-! ===== the class's store: a bucket is built anew ===== -/
def mine (D : Bk) (b j : Nat) : Nat := if j < 64 ∧ dow D j = some b then 1 else 0
def lwS (o : Option Nat) (m n : Nat) : Option Nat := match o with
  | some j => some j
  | none => if m = 1 then some n else none
/-- the lowest slot of b's among the first n -/
def lwN (D : Bk) (b : Nat) : Nat → Option Nat
  | 0 => none
  | n + 1 => lwS (lwN D b n) (mine D b n) n
def lgF (n : Nat) : Nat → Nat → Nat
  | 0, k => k
  | c + 1, k => if n ≤ 2 ^ k then k else lgF n c (k + 1)
/-- what becomes of a page of the disk -/
def reb (t : Nat) (D : Bk) (b : Nat) : Pg := if cnt (mine D b) 64 = 0 then none else some (6 - lgF (cnt (mine D b) 64) 6 0, (lwN D b 64).getD 0, (ents (D b)).filter fun e => dow D (hsh t e.1 % 64) == some b)
theorem mine_skip {D : Bk} {b p : Nat} : ∀ k, (∀ j, p ≤ j → j < p + k → mine D b j = 0) → cnt (mine D b) (p + k) = cnt (mine D b) p ∧ lwN D b (p + k) = lwN D b p
  | 0, _ => ⟨rfl, rfl⟩
  | k + 1, h => by
    obtain ⟨h1, h2⟩ := mine_skip k (fun j j1 j2 => h j j1 (by omega))
    have h3 := h (p + k) (by omega) (by omega)
    refine ⟨?_, ?_⟩
    · show cnt (mine D b) (p + k) + mine D b (p + k) = _
      rw [h3, h1, Nat.add_zero]
    · show lwS (lwN D b (p + k)) (mine D b (p + k)) (p + k) = _
      rw [h2, h3]
      cases lwN D b p with
      | none => rfl
      | some j => rfl
theorem lwN_iff {D : Bk} {b : Nat} : ∀ n, (lwN D b n = none ↔ cnt (mine D b) n = 0) ∧ ∀ j, lwN D b n = some j → j < 64
  | 0 => ⟨⟨fun _ => rfl, fun _ => rfl⟩, fun j h => by cases h⟩
  | n + 1 => by
    obtain ⟨h1, h2⟩ := lwN_iff n
    have h3 : mine D b n = 0 ∨ (mine D b n = 1 ∧ n < 64) := by
      unfold mine
      by_cases q : n < 64 ∧ dow D n = some b
      · rw [if_pos q]; exact Or.inr ⟨rfl, q.1⟩
      · rw [if_neg q]; exact Or.inl rfl
    have h4 : cnt (mine D b) (n + 1) = cnt (mine D b) n + mine D b n := rfl
    have h6 : lwN D b (n + 1) = lwS (lwN D b n) (mine D b n) n := rfl
    rw [h4, h6]
    cases hl : lwN D b n with
    | some j =>
      have h5 : cnt (mine D b) n ≠ 0 := fun z => by rw [h1.mpr z] at hl; cases hl
      exact ⟨⟨fun z => (by cases z), fun z => (by omega)⟩, fun i hi => (by have h7 : some j = some i := hi; rw [← Option.some.inj h7]; exact h2 j hl)⟩
    | none =>
      have h5 := h1.mp hl
      unfold lwS
      dsimp only
      rcases h3 with q | ⟨q, q2⟩
      · rw [q, if_neg (by omega)]; exact ⟨⟨fun _ => (by omega), fun _ => rfl⟩, fun i hi => (by cases hi)⟩
      · rw [q, if_pos rfl]; exact ⟨⟨fun z => (by cases z), fun z => (by omega)⟩, fun i hi => (by rw [← Option.some.inj hi]; exact q2)⟩
theorem mine_clm {D : Bk} {b j : Nat} (h : mine D b j ≠ 0) : j < 64 ∧ clm (D b) j = true := by
  unfold mine at h
  by_cases q : j < 64 ∧ dow D j = some b
  · exact ⟨q.1, (dwN_some q.2).2⟩
  · rw [if_neg q] at h; exact absurd rfl h
theorem mine_cnt (D : Bk) (b n : Nat) : cnt (mine D b) n ≤ n := by
  have := cnt_le (h := mine D b) (m := 1) (fun i => by unfold mine; split <;> omega) n
  omega
section REBUILD
variable {E : Nat × (Nat → Int32)} {d a r : Nat} {u : xU} {A : xH} {s : xS}
theorem c_rb27 {D : Bk} {b : Nat} (hb : b < 24) (hu : D b ≠ none) (hdp : pdp (D b) ≤ 6) (h : ST A a s) (ho : ∀ j, j < 64 → s.2.2.1 j = oI (dow D j)) : ∀ (n i : Nat) (w7 w8 : Value), 64 ≤ i + n → i < 128 → i % 2 ^ pdp (D b) = ppx (D b) → xD E (d + 2) 63 27 [.ref a, .int (nI b), .ref r, .int (oI (lwN D b i)), .int (nI (cnt (mine D b) i)), .int (nI (2 ^ pdp (D b))), .int (nI i), w7, w8] [] A = xD E (d + 2) 63 27 [.ref a, .int (nI b), .ref r, .int (oI (lwN D b 64)), .int (nI (cnt (mine D b) 64)), .int (nI (2 ^ pdp (D b))), .int (nI 64), xJ, xJ] [] A
  | n, i, w7, w8, hn, hi, hp => by
    have hst := pow6 hdp
    by_cases q : 64 ≤ i
    · obtain ⟨k, rfl⟩ : ∃ k, i = 64 + k := ⟨i - 64, by omega⟩
      obtain ⟨k1, k2⟩ := mine_skip (D := D) (b := b) (p := 64) k (fun j j1 j2 => by unfold mine; rw [if_neg (by omega)])
      rw [k1, k2, e63_27, if_pos (show (64 : Int32) ≤ nI (64 + k) from nI_le (a := 64) (by omega) (by omega)), e63_27, if_pos (show (64 : Int32) ≤ nI 64 by decide)]
    · obtain ⟨m, rfl⟩ : ∃ m, n = m + 1 := ⟨n - 1, by omega⟩
      have hs2 : (i + 2 ^ pdp (D b)) % 2 ^ pdp (D b) = ppx (D b) := by rw [Nat.add_mod_right]; exact hp
      have hsk := mine_skip (D := D) (b := b) (p := i + 1) (2 ^ pdp (D b) - 1) (fun j j1 j2 => by
        cases hz : mine D b j with
        | zero => rfl
        | succ z =>
          have := nxt_cls hst (show i ≤ j by omega) (((clm_iff hu).mp (mine_clm (D := D) (b := b) (j := j) (by omega)).2).trans hp.symm) (by omega)
          omega)
      rw [show i + 1 + (2 ^ pdp (D b) - 1) = i + 2 ^ pdp (D b) by omega] at hsk
      obtain ⟨k1, k2⟩ := hsk
      have hc : cnt (mine D b) (i + 1) = cnt (mine D b) i + mine D b i := rfl
      have hle := mine_cnt D b i
      obtain ⟨l1, l2⟩ := lwN_iff (D := D) (b := b) i
      have ih := c_rb27 hb hu hdp h ho m (i + 2 ^ pdp (D b)) xJ xJ (by omega) (by omega) hs2
      rw [k1, k2, hc] at ih
      have hlw : lwN D b (i + 1) = lwS (lwN D b i) (mine D b i) i := rfl
      rw [e63_27, if_neg (show ¬ (64 : Int32) ≤ nI i from nI_ge (b := 64) (by omega) (by omega)), c_ownerOf h (by omega), xI_s, Option.bind_some]
      dsimp only
      rw [ho i (by omega), nI_add]
      by_cases e : dow D i = some b
      · have hm1 : mine D b i = 1 := if_pos ⟨by omega, e⟩
        rw [e, oI_s, if_pos rfl, nI_1]
        rw [hm1] at ih hlw
        by_cases e0 : cnt (mine D b) i = 0
        · rw [l1.mpr e0] at hlw
          rw [show lwN D b (i + 1) = some i from hlw, oI_s] at ih
          rw [if_pos (show nI (cnt (mine D b) i) = 0 by rw [e0]; rfl)]
          exact ih
        · cases hl : lwN D b i with
          | none => exact absurd (l1.mp hl) e0
          | some j =>
            rw [hl] at hlw
            rw [show lwN D b (i + 1) = some j from hlw] at ih
            rw [if_neg (nI_ne0 (by omega) (by omega))]
            exact ih
      · have hm0 : mine D b i = 0 := if_neg (fun z => e z.2)
        rw [hm0, Nat.add_zero] at ih
        have hlw2 : lwN D b (i + 1) = lwN D b i := by
          rw [hlw, hm0]
          cases lwN D b i <;> rfl
        rw [hlw2] at ih
        rw [if_neg (fun z => e (by
          cases hd2 : dow D i with
          | none => rw [hd2, oI_n] at z; exact absurd z.symm (n_m1ne (by omega))
          | some c =>
            have := (dwN_some hd2).1
            rw [hd2, oI_s, nI_eq (by omega) (by omega)] at z
            rw [z]))]
        exact ih
theorem c_rb91 {n : Nat} (hn : n ≤ 64) (hn0 : 0 < n) : ∀ (c k : Nat) (w3 w5 w8 : Value) (x1 x3 : Int32), k + c = 6 → ∃ w8', xD E (d + 1) 63 90 [.ref a, .int x1, .ref r, .int x3, .int (nI n), w5, .int (nI (6 - k)), .int (nI (2 ^ k)), w8] [] A = ((gN A a 5 0).bind fun n1 => (xV (xC E d 18 [.ref n1, .int x1, .int (nI (6 - lgF n c k)), .int x3] A)).bind fun A2 => xD E (d + 1) 63 123 [.ref a, .int x1, .ref r, .int x3, .int (nI n), xJ, .int (nI (6 - lgF n c k)), .int (0 : Int32), w8'] [] A2)
  | 0, k, w3, w5, w8, x1, x3, hk => by
    obtain rfl : k = 6 := by omega
    refine ⟨xJ, ?_⟩
    rw [e63_90, if_pos (nI_le (show n ≤ 2 ^ 6 from hn) (by decide))]; rfl
  | c + 1, k, w3, w5, w8, x1, x3, hk => by
    have hp := pow6 (n := k) (by omega)
    rw [e63_90]
    by_cases q : n ≤ 2 ^ k
    · refine ⟨xJ, ?_⟩
      rw [if_pos (nI_le q (by omega)), show lgF n (c + 1) k = k from if_pos q]
    · obtain ⟨w8', ih⟩ := c_rb91 hn hn0 c (k + 1) w3 xJ xJ x1 x3 (by omega)
      refine ⟨w8', ?_⟩
      rw [if_neg (nI_ge (by omega) (by omega)), show lgF n (c + 1) k = lgF n c (k + 1) from if_neg q, ← ih, show nI (6 - k) + (-1 : Int32) = nI (6 - (k + 1)) by rw [show 6 - k = (6 - (k + 1)) + 1 by omega]; exact pk_m1 _, show (2 : Int32) = nI 2 from rfl, pk_mul, ← Nat.pow_succ]
end REBUILD
