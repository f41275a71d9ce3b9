/-! ===== the reference: what it can be, what to read next, few, the tape ===== -/
theorem cnt_ge1 {f : Nat → Nat} : ∀ n i, i < n → f i ≤ cnt f n
  | 0, i, h => by omega
  | n + 1, i, h => by
    rw [cnt_s]
    by_cases e : i = n
    · subst e; omega
    · have := cnt_ge1 (f := f) n i (by omega); omega
/-- what was seen fits a bucket -/
def sob (S : St) (b : Nat) (q : Nat × Nat) : Bool := (if slI S (nI q.1) = nI b then 1 else 0 : Nat) == q.2
def cand (S : St) (l : List (Nat × Nat)) (b : Nat) : Bool := (S.1 b).isSome && l.all (sob S b)
def cbN (P : Nat → Bool) : Nat → Nat
  | 0 => 0
  | n + 1 => cbN P n ||| (if P n = true then 2 ^ n else 0)
theorem cbN_lt {P : Nat → Bool} : ∀ n, cbN P n < 2 ^ n
  | 0 => Nat.one_pos
  | n + 1 => by
    refine Nat.or_lt_two_pow (Nat.lt_trans (cbN_lt n) (Nat.pow_lt_pow_right (by omega) (by omega))) ?_
    split
    · exact Nat.pow_lt_pow_right (by omega) (by omega)
    · exact Nat.two_pow_pos _
def bitN (x k : Nat) : Nat := x / 2 ^ k % 2
def popN (x : Nat) : Nat := cnt (bitN x) 24
theorem popN_le (x : Nat) : popN x ≤ 24 := by
  have := cnt_le (h := bitN x) (m := 1) (fun i => by unfold bitN; omega) 24
  unfold popN; omega
/-- how many are left at most, slot by slot; the first of the fewest -/
def rdV (S : St) (x i : Nat) : Nat := max (bitN x (own S.1 i)) (popN x - bitN x (own S.1 i))
def rdS (v : Nat → Nat) : Nat → Nat × Nat
  | 0 => (0, v 0)
  | n + 1 => if v (n + 1) < (rdS v n).2 then (n + 1, v (n + 1)) else rdS v n
theorem rdS_in {v : Nat → Nat} {m : Nat} (h : ∀ i, v i ≤ m) : ∀ n, (rdS v n).1 ≤ n ∧ (rdS v n).2 ≤ m
  | 0 => ⟨Nat.le_refl _, h 0⟩
  | n + 1 => by
    obtain ⟨h1, h2⟩ := rdS_in h n
    unfold rdS
    split
    · exact ⟨Nat.le_refl _, h _⟩
    · exact ⟨by omega, h2⟩
def aCan (X : Xs) : Nat := cbN (cand X.1.1 X.1.2.2.2) 24
def aRead (X : Xs) (x : Int32) : Int32 := if x < 0 ∨ nI 2 ≤ x then -1 else if aCan X = 0 then -1 else if x = 0 then nI (rdS (rdV X.1.1 (aCan X)) (2 ^ X.1.1.2.2.2.1 - 1)).1 else nI (rdS (rdV X.1.1 (aCan X)) (2 ^ X.1.1.2.2.2.1 - 1)).2
theorem n_bitG {h k : Nat} (hh : h < 2 ^ 31) (hk : k < 31) : (nI h >>> (nI k &&& 31)) &&& (1 : Int32) = nI (bitN h k) := by
  have h1 : ∀ k, k < 31 → ((nI k &&& 31).toBitVec.smod 32).toNat = k := by decide +kernel
  unfold bitN
  rw [pk_shrN hh _ k (h1 k hk), pk_andN (by have := Nat.div_le_self h (2 ^ k); omega) 1 (by decide +kernel), Nat.pow_one]
theorem bitN_le (x k : Nat) : bitN x k ≤ 1 := by unfold bitN; omega
theorem rdV_le (S : St) (x i : Nat) : rdV S x i ≤ 24 := by
  have := popN_le x
  have := bitN_le x (own S.1 i)
  unfold rdV; omega
section MREAD
variable {E : Nat × (Nat → Int32)} {d : Nat} {A : xH} {al : Nat → Nat → Int64} {fl : Nat → Int32} {ar : Nat → Nat → Int32} {X : Xs}
theorem m_is4 (hA : 69 ≤ A.length) (h : MI fl ar X) (hX : XI X) {b : Nat} (hb : b < 24) : ∀ (rest pre : List (Nat × Nat)) (is : Bool), X.1.2.2.2 = pre ++ rest → xD E (d + 5) 277 4 [.ref 48, .int (nI b), .int (if is = true then 1 else 0), .int (nI pre.length)] [] (mw A fl ar al) = some (some (.int (if (is && rest.all (sob X.1.1 b)) = true then 1 else 0)), mw A fl ar al)
  | [], pre, is, he => by
    have hl : X.1.2.2.2.length = pre.length := by rw [he, List.append_nil]
    have h6 := hX.1.2.2.1
    rw [e277_4]
    have h78 : ar 2 978 = nI pre.length := by rw [← hl]; exact h.1.2.2.2.1
    rw [m_r48_2 hA, Option.bind_some, show (978 : Int32) = nI 978 from rfl, m_a50 hA (by omega), Option.bind_some, h78, if_pos (nI_le (Nat.le_refl _) (by omega)), if_pos (by cases is <;> decide)]
    cases is <;> rfl
  | q :: rest, pre, is, he => by
    have hl : X.1.2.2.2.length = pre.length + (rest.length + 1) := by rw [he, List.length_append]; rfl
    have h6 := hX.1.2.2.1
    have h78 : ar 2 978 = nI X.1.2.2.2.length := h.1.2.2.2.1
    have e0 : (pre ++ [q]).length = pre.length + 1 := by rw [List.length_append]; rfl
    have he2 : X.1.2.2.2 = (pre ++ [q]) ++ rest := by rw [he, List.append_assoc]; rfl
    rw [e277_4, m_r48_2 hA, Option.bind_some, show (978 : Int32) = nI 978 from rfl, m_a50 hA (by omega), Option.bind_some, h78, if_neg (nI_ge (by omega) (by omega))]
    cases is with
    | false =>
      have ih := m_is4 hA h hX hb rest (pre ++ [q]) false he2
      rw [e0] at ih
      rw [if_pos (by rfl), nI_1]
      exact ih
    | true =>
      have hqm := hX.1.2.2.2.1 q (by rw [he]; simp)
      obtain ⟨s1, s2⟩ := h.1.2.2.2.2 pre.length q (by rw [he, List.getElem?_append_right (Nat.le_refl _), Nat.sub_self]; rfl)
      have hdp : X.1.1.2.2.2.1 ≤ 6 := by rw [hX.1.1.2]; exact deepN_6 hX.1.1.1.1
      have hsl := m_slot (E := E) (d := d) (fl := fl) (ar := ar) (al := al) (x := nI q.1) hA h.ms hX.1.1.1.1 hdp
      have ih := m_is4 hA h hX hb rest (pre ++ [q]) (sob X.1.1 b q) he2
      rw [e0] at ih
      rw [if_neg (by decide)]
      simp (disch := first | omega | exact m_k48 hA) only [Option.bind_some, xI_s, xV_s, m_r48_1 hA, m_r48_2 hA, m_r48_5 hA, m_a50 hA, m_s50 hA, m_l50 hA, k169, zl, pk_mul, nI_add, Nat.add_zero, sar_s, sar_sar, s1, hsl]
      have fin : ∀ z : Nat, z ≤ 1 → (z == q.2) = sob X.1.1 b q → xD E (d + 5) 277 45 [.ref 48, .int (nI b), .int (nI 1), .int (nI pre.length)] [.int (nI z)] (mw A fl ar al) = some (some (.int (if (true && (q :: rest).all (sob X.1.1 b)) = true then 1 else 0)), mw A fl ar al) := by
        intro z hz hzq
        rw [e277_45]
        simp (disch := first | omega | exact m_k48 hA) only [Option.bind_some, xI_s, xV_s, m_r48_1 hA, m_r48_2 hA, m_r48_5 hA, m_a50 hA, m_s50 hA, m_l50 hA, k169, zl, pk_mul, nI_add, Nat.add_zero, sar_s, sar_sar, s2]
        have hall : (true && (q :: rest).all (sob X.1.1 b)) = (sob X.1.1 b q && rest.all (sob X.1.1 b)) := rfl
        rw [hall]
        by_cases e : z = q.2
        · have : sob X.1.1 b q = true := by rw [← hzq]; simpa using e
          rw [if_pos (by rw [e])]
          rw [this] at ih ⊢
          exact ih
        · have : sob X.1.1 b q = false := by rw [← hzq]; simpa using e
          rw [if_neg (fun w => e ((nI_eq (by omega) (by omega)).mp w))]
          rw [this] at ih ⊢
          exact ih
      by_cases e : slI X.1.1 (nI q.1) = nI b
      · rw [if_pos e]
        exact fin 1 (by omega) (by unfold sob; rw [if_pos e])
      · rw [if_neg e]
        exact fin 0 (by omega) (by unfold sob; rw [if_neg e])
theorem m_isSo (hA : 69 ≤ A.length) (h : MI fl ar X) (hX : XI X) {b : Nat} (hb : b < 24) : xC E (d + 5) 277 [.ref 48, .int (nI b)] (mw A fl ar al) = some (some (.int (if X.1.2.2.2.all (sob X.1.1 b) = true then 1 else 0)), mw A fl ar al) := by
  rw [k277 _ _ _ _ _ (m_k48 hA)]
  exact m_is4 hA h hX hb X.1.2.2.2 [] true rfl
theorem m_cb4 (hA : 69 ≤ A.length) (h : MI fl ar X) (hX : XI X) : ∀ (c i : Nat), i + c = 24 → xD E (d + 6) 278 4 [.ref 48, .int (nI (cbN (cand X.1.1 X.1.2.2.2) i)), .int (nI i)] [] (mw A fl ar al) = some (some (.int (nI (aCan X))), mw A fl ar al)
  | 0, i, hi => by
    rw [e278_4, if_pos (by rw [zl]; exact nI_le (by omega) (by omega)), show i = 24 by omega]; rfl
  | c + 1, i, hi => by
    have ih := m_cb4 hA h hX c (i + 1) (by omega)
    rw [show cbN (cand X.1.1 X.1.2.2.2) (i + 1) = cbN (cand X.1.1 X.1.2.2.2) i ||| (if cand X.1.1 X.1.2.2.2 i = true then 2 ^ i else 0) from rfl] at ih
    rw [e278_4, if_neg (by rw [zl]; exact nI_ge (by omega) (by omega)), m_isUsed hA h.ms (by omega), xI_s, Option.bind_some]
    dsimp only
    cases hB : X.1.1.1 i with
    | none =>
      have hc : cand X.1.1 X.1.2.2.2 i = false := by unfold cand; rw [hB]; rfl
      rw [hc, if_neg (by decide)] at ih
      rw [if_pos (by rfl), show (0 : Int32) = nI 0 from rfl, n_or, nI_1]
      exact ih
    | some q =>
      rw [if_neg (show ¬ nI (pus (some q)) = 0 by show ¬ nI 1 = 0; decide), m_isSo hA h hX (by omega), xI_s, Option.bind_some]
      dsimp only
      have hc : cand X.1.1 X.1.2.2.2 i = X.1.2.2.2.all (sob X.1.1 i) := by unfold cand; rw [hB]; rfl
      rw [hc] at ih
      cases ha : X.1.2.2.2.all (sob X.1.1 i) with
      | false =>
        rw [ha, if_neg (by decide)] at ih
        rw [if_pos (show (if false = true then (1 : Int32) else 0) = 0 by decide), show (0 : Int32) = nI 0 from rfl, n_or, nI_1]
        exact ih
      | true =>
        rw [ha, if_pos rfl] at ih
        rw [if_neg (show ¬ (if true = true then (1 : Int32) else 0) = 0 by decide), n_shl _ (by omega), n_or, nI_1]
        exact ih
theorem m_canBe (hA : 69 ≤ A.length) (h : MI fl ar X) (hX : XI X) : xC E (d + 6) 278 [.ref 48] (mw A fl ar al) = some (some (.int (nI (aCan X))), mw A fl ar al) := by
  rw [k278 _ _ _ _ (m_k48 hA)]
  exact m_cb4 hA h hX 24 0 rfl
theorem m_on4 {x : Nat} (hx : x < 2 ^ 31) : ∀ (c i : Nat), i + c = 24 → xD E (d + 1) 161 4 [.int (nI x), .int (nI (cnt (bitN x) i)), .int (nI i)] [] A = some (some (.int (nI (popN x))), A)
  | 0, i, hi => by
    rw [e161_4, if_pos (by rw [zl]; exact nI_le (by omega) (by omega)), show i = 24 by omega]; rfl
  | c + 1, i, hi => by
    have ih := m_on4 hx c (i + 1) (by omega)
    rw [cnt_s] at ih
    rw [e161_4, if_neg (by rw [zl]; exact nI_ge (by omega) (by omega)), n_bitG hx (by omega), nI_add, nI_1]
    exact ih
theorem m_ones {x : Nat} (hx : x < 2 ^ 31) : xC E (d + 1) 161 [.int (nI x)] A = some (some (.int (nI (popN x))), A) := by
  rw [k161]
  exact m_on4 hx 24 0 rfl
theorem m_rd25 (hA : 69 ≤ A.length) (h : MI fl ar X) (hX : XI X) {x : Nat} {i1 : Int32} (hx : x < 2 ^ 24) (hx0 : x ≠ 0) : ∀ (c i : Nat) (w6 w7 : Value), i + 1 + c = 2 ^ X.1.1.2.2.2.1 → xD E (d + 4) 279 25 [.ref 48, .int i1, .int (nI x), .int (nI (rdS (rdV X.1.1 x) i).1), .int (nI (rdS (rdV X.1.1 x) i).2), .int (nI (i + 1)), w6, w7] [] (mw A fl ar al) = (if i1 = 0 then some (some (Value.int (nI (rdS (rdV X.1.1 x) (2 ^ X.1.1.2.2.2.1 - 1)).1)), mw A fl ar al) else some (some (Value.int (nI (rdS (rdV X.1.1 x) (2 ^ X.1.1.2.2.2.1 - 1)).2)), mw A fl ar al))
  | 0, i, w6, w7, hi => by
    have hdp : X.1.1.2.2.2.1 ≤ 6 := by rw [hX.1.1.2]; exact deepN_6 hX.1.1.1.1
    have hp6 := pow6 hdp
    obtain ⟨z1, z2⟩ := rdS_in (rdV_le X.1.1 x) i
    rw [e279_25, m_r48_2 hA, Option.bind_some, show (961 : Int32) = nI 961 from rfl, m_a50 hA (by omega), Option.bind_some, h.ms.de, n_shl _ (by omega), if_pos (nI_le (by omega) (by omega)), e279_101, if_neg (n_m1ne (by omega)), show 2 ^ X.1.1.2.2.2.1 - 1 = i by omega]
  | c + 1, i, w6, w7, hi => by
    have hdp : X.1.1.2.2.2.1 ≤ 6 := by rw [hX.1.1.2]; exact deepN_6 hX.1.1.1.1
    have hp6 := pow6 hdp
    obtain ⟨z1, z2⟩ := rdS_in (rdV_le X.1.1 x) i
    have hol := own_lt X.1.1.1 (i + 1)
    have hbl := bitN_le x (own X.1.1.1 (i + 1))
    have hpl := popN_le x
    have hpb : bitN x (own X.1.1.1 (i + 1)) ≤ popN x := by
      unfold popN
      exact cnt_ge1 24 _ hol
    have ih : ∀ w6 w7, _ := fun w6 w7 => m_rd25 hA h hX (i1 := i1) hx hx0 c (i + 1) w6 w7 (by omega)
    rw [show rdS (rdV X.1.1 x) (i + 1) = if rdV X.1.1 x (i + 1) < (rdS (rdV X.1.1 x) i).2 then (i + 1, rdV X.1.1 x (i + 1)) else rdS (rdV X.1.1 x) i from rfl] at ih
    have hrl := rdV_le X.1.1 x (i + 1)
    rw [e279_25, m_r48_2 hA, Option.bind_some, show (961 : Int32) = nI 961 from rfl, m_a50 hA (by omega), Option.bind_some, h.ms.de, n_shl _ (by omega), if_neg (nI_ge (by omega) (by omega)), if_neg (nI_ne0 (by omega) (by omega)), m_ownerOf hA h.ms hX.1.1.1.1 (by omega), xI_s, Option.bind_some]
    dsimp only
    rw [k160, n_bitG (by omega) (by omega)]
    have st62 : xD E (d + 4) 279 62 [.ref 48, .int i1, .int (nI x), .int (nI (rdS (rdV X.1.1 x) i).1), .int (nI (rdS (rdV X.1.1 x) i).2), .int (nI (i + 1)), xJ, xJ] [.int (nI (bitN x (own X.1.1.1 (i + 1))))] (mw A fl ar al) = (if i1 = 0 then some (some (Value.int (nI (rdS (rdV X.1.1 x) (2 ^ X.1.1.2.2.2.1 - 1)).1)), mw A fl ar al) else some (some (Value.int (nI (rdS (rdV X.1.1 x) (2 ^ X.1.1.2.2.2.1 - 1)).2)), mw A fl ar al)) := by
      rw [e279_62, m_ones (by omega), xI_s, Option.bind_some]
      dsimp only
      rw [pk_sub hpb, m_greater (by omega) (by omega), xI_s, Option.bind_some]
      dsimp only
      rw [show max (bitN x (own X.1.1.1 (i + 1))) (popN x - bitN x (own X.1.1.1 (i + 1))) = rdV X.1.1 x (i + 1) from rfl, nI_1]
      by_cases e : rdV X.1.1 x (i + 1) < (rdS (rdV X.1.1 x) i).2
      · rw [if_pos (nI_lt e (by omega))]
        rw [if_pos e] at ih
        exact ih _ _
      · rw [if_neg (nI_nlt (by omega) (by omega))]
        rw [if_neg e] at ih
        exact ih _ _
    rcases (show bitN x (own X.1.1.1 (i + 1)) = 0 ∨ bitN x (own X.1.1.1 (i + 1)) = 1 by omega) with e | e
    · rw [e] at st62 ⊢
      rw [if_neg (show ¬ nI 0 = (1 : Int32) by decide), xI_s, Option.bind_some]
      dsimp only
      rw [if_pos rfl]
      exact st62
    · rw [e] at st62 ⊢
      rw [if_pos (show nI 1 = (1 : Int32) by rfl), xI_s, Option.bind_some]
      dsimp only
      rw [if_neg (by decide)]
      exact st62
theorem m_read (hA : 69 ≤ A.length) (h : MI fl ar X) (hX : XI X) {x : Int32} : xC E (d + 7) 279 [.ref 48, .int x] (mw A fl ar al) = some (some (.int (aRead X x)), mw A fl ar al) := by
  have hli : ∀ H : xH, xC E (d + 6) 154 [.int x, .int (0 : Int32), .int (1 : Int32)] H = some (some (.int (nI (if x < nI 0 ∨ nI 1 < x then 0 else 1))), H) := fun H => m_liesI
  rw [k279 _ _ _ _ _ (m_k48 hA), hli, xI_s, Option.bind_some]
  dsimp only
  unfold aRead
  by_cases hx : x < 0 ∨ nI 2 ≤ x
  · rw [if_pos (n_liesI (n := 1) (by omega) hx), if_pos (by rfl), if_pos hx]
  · obtain ⟨k, hk, rfl⟩ : ∃ k, k < 2 ∧ x = nI k := by
      rcases pk_ix x (show 2 < 2 ^ 31 by omega) with q | q | q
      · exact absurd (Or.inl q) hx
      · exact absurd (Or.inr q) hx
      · exact q
    rw [if_neg (n_liesN (by omega) (by omega)), if_neg (show ¬ nI 1 = 0 by decide), if_neg hx, m_canBe hA h hX, xI_s, Option.bind_some]
    dsimp only
    have hlt : aCan X < 2 ^ 24 := cbN_lt 24
    have hdp : X.1.1.2.2.2.1 ≤ 6 := by rw [hX.1.1.2]; exact deepN_6 hX.1.1.1.1
    have hp6 := pow6 hdp
    generalize hac : aCan X = s at *
    rw [e279_25, m_r48_2 hA, Option.bind_some, show (961 : Int32) = nI 961 from rfl, m_a50 hA (by omega), Option.bind_some, h.ms.de, n_shl _ (by omega), if_neg (show ¬ nI (2 ^ X.1.1.2.2.2.1) ≤ (0 : Int32) from nI_ge (a := 0) (by omega) (by omega))]
    by_cases e0 : s = 0
    · rw [if_pos (by rw [e0]; rfl), if_pos e0, e279_101, if_pos rfl]
    · rw [if_neg (nI_ne0 (by omega) (by omega)), if_neg e0, show (0 : Int32) = nI 0 from rfl, m_ownerOf hA h.ms hX.1.1.1.1 (by omega), xI_s, Option.bind_some]
      dsimp only
      have hol := own_lt X.1.1.1 0
      have hbl := bitN_le s (own X.1.1.1 0)
      have hpl := popN_le s
      have hpb : bitN s (own X.1.1.1 0) ≤ popN s := by
        unfold popN
        exact cnt_ge1 24 _ hol
      have hrl := rdV_le X.1.1 s 0
      have ih : ∀ w6 w7, _ := fun w6 w7 => m_rd25 (E := E) (d := d + 3) (fl := fl) (al := al) hA h hX (i1 := nI k) hlt e0 (2 ^ X.1.1.2.2.2.1 - 1) 0 w6 w7 (by omega)
      have st62 : xD E (d + 7) 279 62 [.ref 48, .int (nI k), .int (nI s), .int (-1), .int (1000000 : Int32), .int (nI 0), xJ, xJ] [.int (nI (bitN s (own X.1.1.1 0)))] (mw A fl ar al) = (if nI k = 0 then some (some (Value.int (nI (rdS (rdV X.1.1 s) (2 ^ X.1.1.2.2.2.1 - 1)).1)), mw A fl ar al) else some (some (Value.int (nI (rdS (rdV X.1.1 s) (2 ^ X.1.1.2.2.2.1 - 1)).2)), mw A fl ar al)) := by
        rw [e279_62, m_ones (by omega), xI_s, Option.bind_some]
        dsimp only
        rw [pk_sub hpb, m_greater (by omega) (by omega), xI_s, Option.bind_some]
        dsimp only
        rw [show max (bitN s (own X.1.1.1 0)) (popN s - bitN s (own X.1.1.1 0)) = rdV X.1.1 s 0 from rfl, nI_1, if_pos (show nI (rdV X.1.1 s 0) < (1000000 : Int32) from nI_lt (b := 1000000) (by omega) (by omega))]
        exact ih _ _
      have fin : xD E (d + 7) 279 62 [.ref 48, .int (nI k), .int (nI s), .int (-1), .int (1000000 : Int32), .int (nI 0), xJ, xJ] [.int (nI (bitN s (own X.1.1.1 0)))] (mw A fl ar al) = some (some (.int (if nI k = nI 0 then nI (rdS (rdV X.1.1 s) (2 ^ X.1.1.2.2.2.1 - 1)).1 else nI (rdS (rdV X.1.1 s) (2 ^ X.1.1.2.2.2.1 - 1)).2)), mw A fl ar al) := by
        rw [st62]
        by_cases e : nI k = nI 0
        · rw [if_pos e, if_pos (show nI k = 0 from e)]
        · rw [if_neg e, if_neg (show ¬ nI k = 0 from e)]
      rw [k160, n_bitG (by omega) (by omega)]
      rcases (show bitN s (own X.1.1.1 0) = 0 ∨ bitN s (own X.1.1.1 0) = 1 by omega) with e | e
      · rw [e] at fin ⊢
        rw [if_neg (show ¬ nI 0 = (1 : Int32) by decide), xI_s, Option.bind_some]
        dsimp only
        rw [if_pos (show (0 : Int32) = nI 0 from rfl)]
        exact fin
      · rw [e] at fin ⊢
        rw [if_pos (show nI 1 = (1 : Int32) by rfl), xI_s, Option.bind_some]
        dsimp only
        rw [if_neg (show ¬ (1 : Int32) = nI 0 by decide)]
        exact fin
end MREAD
