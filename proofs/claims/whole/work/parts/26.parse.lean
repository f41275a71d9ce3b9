/-! ===== texts as mathematics: bytes, tokens ===== -/
def isL (b : Nat) : Bool := decide (97 ≤ b) && decide (b ≤ 122)
def isD (b : Nat) : Bool := decide (48 ≤ b) && decide (b ≤ 57)
def isB (b : Nat) : Bool := b == 32
/-- on while P holds -/
def skp (P : Nat → Bool) (bs : Nat → Nat) : Nat → Nat → Nat
  | 0, p => p
  | c + 1, p => if P (bs p) then skp P bs c (p + 1) else p
theorem skp_le (P : Nat → Bool) (bs : Nat → Nat) : ∀ c p, p ≤ skp P bs c p ∧ skp P bs c p ≤ p + c
  | 0, p => ⟨Nat.le_refl _, Nat.le_refl _⟩
  | c + 1, p => by
    unfold skp
    split
    · have := skp_le P bs c (p + 1); omega
    · omega
def sk (bs : Nat → Nat) (n p : Nat) : Nat := skp isB bs (n - p) p
def en (bs : Nat → Nat) (n p : Nat) : Nat := if n ≤ p then p else if isL (bs p) then skp isL bs (n - p) p else if isD (bs p) then skp isD bs (n - p) p else p + 1
def nuw (bs : Nat → Nat) : Nat → Nat → Nat → Nat
  | 0, _, a => a
  | c + 1, p, a => if isD (bs p) then nuw bs c (p + 1) (min (a * 10 + (bs p - 48)) 1001) else a
def WL : List (List Nat) := [[99, 111, 115, 116, 115], [98, 97, 114, 115], [105, 102], [111, 114], [97, 110, 100], [110, 111, 116], [98, 117, 99, 107, 101, 116], [100, 101, 112, 116, 104], [107, 101, 121], [104, 97, 115, 104], [109, 111, 111, 100], [109, 97, 110, 121], [116, 105, 109, 101], [100, 111, 110, 101], [108, 97, 116, 101, 115, 116], [100, 101, 101, 112], [119, 97, 105, 116, 115], [107, 101, 121, 115], [118, 97, 108, 117, 101], [112, 117, 116], [97, 115], [100, 114, 111, 112], [102, 108, 117, 115, 104], [99, 114, 97, 115, 104], [116, 105, 109, 101, 115]]
def wix : List (List Nat) → Nat → List Nat → Nat
  | [], _, _ => 0
  | w :: r, i, l => if w = l then i else wix r (i + 1) l
def wdB (bs : Nat → Nat) (p e : Nat) : List Nat := (List.range (e - p)).map fun j => bs (p + j)
def wcd (l : List Nat) : Nat := wix WL 1 l
def tcd (bs : Nat → Nat) (n p : Nat) : Nat := if n ≤ p then 0 else if isL (bs p) then wcd (wdB bs p (en bs n p)) else if isD (bs p) then 50 else 100 + bs p
def tvl (bs : Nat → Nat) (n p : Nat) : Nat := if n ≤ p then 0 else if isD (bs p) then nuw bs (n - p) p 0 else 0
/-- where token i is -/
def ps (bs : Nat → Nat) (n : Nat) : Nat → Nat
  | 0 => sk bs n 0
  | i + 1 => sk bs n (en bs n (ps bs n i))
def tok (bs : Nat → Nat) (n i : Nat) : Nat × Nat := (tcd bs n (ps bs n i), tvl bs n (ps bs n i))
def tkn (bs : Nat → Nat) (n : Nat) : Nat → Nat → Nat
  | 0, i => i
  | c + 1, i => if n ≤ ps bs n i then i else tkn bs n c (i + 1)
def tkN (bs : Nat → Nat) (n : Nat) : Nat := tkn bs n n 0
section TOK
variable {bs : Nat → Nat} {n : Nat}
theorem sk_le {p : Nat} (h : p ≤ n) : p ≤ sk bs n p ∧ sk bs n p ≤ n := by
  have := skp_le isB bs (n - p) p; unfold sk; omega
theorem en_lt {p : Nat} (h : p < n) : p < en bs n p ∧ en bs n p ≤ n := by
  unfold en
  rw [if_neg (by omega)]
  obtain ⟨c, hc⟩ : ∃ c, n - p = c + 1 := ⟨n - p - 1, by omega⟩
  split
  · rename_i q; rw [hc]; unfold skp; rw [if_pos q]
    have := skp_le isL bs c (p + 1); omega
  · split
    · rename_i q; rw [hc]; unfold skp; rw [if_pos q]
      have := skp_le isD bs c (p + 1); omega
    · omega
theorem en_le {p : Nat} (h : p ≤ n) : p ≤ en bs n p ∧ en bs n p ≤ n := by
  by_cases q : p < n
  · have := en_lt (bs := bs) q; omega
  · unfold en; rw [if_pos (by omega)]; omega
theorem ps_le : ∀ i, ps bs n i ≤ n
  | 0 => (sk_le (Nat.zero_le _)).2
  | i + 1 => (sk_le (en_le (ps_le i)).2).2
theorem ps_up {i : Nat} (h : ps bs n i < n) : ps bs n i < ps bs n (i + 1) := by
  have h1 := en_lt (bs := bs) h
  have h2 := sk_le (bs := bs) h1.2
  show _ < sk bs n _
  omega
theorem ps_end {i : Nat} (h : ps bs n i = n) : ps bs n (i + 1) = n := by
  have h1 := en_le (bs := bs) (n := n) (p := ps bs n i) (by omega)
  have h2 := sk_le (bs := bs) h1.2
  show sk bs n _ = n
  omega
theorem tkn_ok : ∀ c i, n ≤ ps bs n i + c → n ≤ ps bs n (tkn bs n c i) ∧ (∀ j, i ≤ j → j < tkn bs n c i → ps bs n j < n) ∧ i ≤ tkn bs n c i ∧ tkn bs n c i ≤ i + c
  | 0, i, h => ⟨h, fun j h1 h2 => by simp [tkn] at h2; omega, Nat.le_refl _, Nat.le_refl _⟩
  | c + 1, i, h => by
    unfold tkn
    split
    · exact ⟨by assumption, fun j h1 h2 => by omega, Nat.le_refl _, by omega⟩
    · rename_i q
      have hu := ps_up (bs := bs) (n := n) (i := i) (by omega)
      obtain ⟨a, b, e1, e2⟩ := tkn_ok c (i + 1) (by omega)
      refine ⟨a, fun j h1 h2 => ?_, by omega, by omega⟩
      by_cases e : j = i
      · subst e; omega
      · exact b j (by omega) h2
theorem tkN_le : tkN bs n ≤ n := by have := (tkn_ok (bs := bs) (n := n) n 0 (by omega)).2.2.2; unfold tkN; omega
theorem tkN_end : ps bs n (tkN bs n) = n := by
  have h1 := (tkn_ok (bs := bs) (n := n) n 0 (by omega)).1
  have h2 := ps_le (bs := bs) (n := n) (tkN bs n)
  unfold tkN at h2 ⊢; omega
theorem tkN_lt {i : Nat} (h : i < tkN bs n) : ps bs n i < n := (tkn_ok (bs := bs) (n := n) n 0 (by omega)).2.1 i (Nat.zero_le _) h
theorem ps_ge {i : Nat} (h : tkN bs n ≤ i) : ps bs n i = n := by
  obtain ⟨c, rfl⟩ : ∃ c, i = tkN bs n + c := ⟨i - tkN bs n, by omega⟩
  induction c with
  | zero => exact tkN_end
  | succ c ih => exact ps_end (ih (by omega))
theorem tok_end {i : Nat} (h : tkN bs n ≤ i) : tok bs n i = (0, 0) := by
  unfold tok tcd tvl
  rw [ps_ge h, if_pos (Nat.le_refl _), if_pos (Nat.le_refl _)]
theorem tok_lt {i : Nat} (h : (tok bs n i).1 ≠ 0) : i < tkN bs n := by
  by_cases q : i < tkN bs n
  · exact q
  · rw [tok_end (by omega)] at h; exact absurd rfl h
end TOK
/-! ===== the reading of a text: where a token is, how many parts, the code, what is asked ===== -/
abbrev PX : Type := Nat × Nat × List (Nat × Nat) × List Nat
abbrev PR : Type := Nat ⊕ PX
def rb (r : PR) (k : PX → PR) : PR := match r with
  | .inl f => .inl f
  | .inr x => k x
def lp (step : PX → Option PR) : Nat → PX → PR
  | 0, x => .inr x
  | c + 1, x => match step x with
    | none => .inr x
    | some r => rb r (lp step c)
def adv (x : PX) : PX := (x.1 + 1, x.2)
def emi (x : PX) (op ar : Nat) : PX := (x.1, x.2.1, x.2.2.1 ++ [(op, ar)], x.2.2.2)
def aimx (x : PX) (s op : Nat) : PX := (x.1, x.2.1, x.2.2.1.set s (op, x.2.2.1.length), x.2.2.2)
section PAR
variable (T : Nat → Nat × Nat) (o : Bool)
def eat (c : Nat) (x : PX) : PR := if (T x.1).1 = c then .inr (adv x) else .inl x.1
def opT (c : Nat) : Nat := if c = 142 then 7 else if c = 147 then 8 else 9
def opS (c : Nat) : Nat := if c = 143 then 5 else 6
def opC (c : Nat) : Nat := if c = 160 then 10 else if c = 162 then 11 else 12
def sTerm (part : PX → PR) (y : PX) : Option PR := if (T y.1).1 = 142 ∨ (T y.1).1 = 147 ∨ (T y.1).1 = 137 then some (rb (part (adv y)) fun z => .inr (emi z (opT (T y.1).1) 0)) else none
def pTerm (part : PX → PR) (x : PX) : PR := rb (part x) (lp (sTerm T part) 400)
def sSum (part : PX → PR) (y : PX) : Option PR := if (T y.1).1 = 143 ∨ (T y.1).1 = 145 then some (rb (pTerm T part (adv y)) fun z => .inr (emi z (opS (T y.1).1) 0)) else none
def pSum (part : PX → PR) (x : PX) : PR := rb (pTerm T part x) (lp (sSum T part) 400)
def wdL (c : Nat) : Option Nat := if c = 7 then some 0 else if c = 8 then some 1 else if c = 12 then some 2 else if c = 9 then some 3 else if c = 10 then some 4 else if c = 13 then some 5 else if c = 11 then some 6 else none
def wdO (c : Nat) : Option Nat := if c = 13 then some 0 else if c = 14 then some 1 else if c = 15 then some 2 else if c = 16 then some 3 else if c = 17 then some 4 else if c = 18 then some 5 else none
def pAsk (base bound : Nat) (x : PX) : PR := if (T x.1).1 = 50 ∧ (T x.1).2 < bound then .inr (x.1 + 1, x.2.1, x.2.2.1 ++ [(1, 6 + x.2.2.2.length)], x.2.2.2 ++ [base + (T x.1).2]) else .inl x.1
def pLeaf (x : PX) : PR := if x.2.1 = 50 then .inl x.1 else if (T x.1).1 = 50 ∧ (T x.1).2 ≤ 1000 then .inr (x.1 + 1, x.2.1 + 1, x.2.2.1 ++ [(0, (T x.1).2)], x.2.2.2) else if o = true ∧ (T x.1).1 = 19 then pAsk T 0 1000 (x.1 + 1, x.2.1 + 1, x.2.2) else if o = true ∧ (T x.1).1 = 12 then pAsk T 1000 24 (x.1 + 1, x.2.1 + 1, x.2.2) else match (if o = true then wdO (T x.1).1 else wdL (T x.1).1) with
  | none => .inl x.1
  | some w => .inr (x.1 + 1, x.2.1 + 1, x.2.2.1 ++ [(1, w)], x.2.2.2)
def pPart : Nat → PX → PR
  | 0, x => if (T x.1).1 = 191 then .inl x.1 else pLeaf T o x
  | k + 1, x => if (T x.1).1 = 191 then rb (pSum T (pPart k) (adv x)) (eat T 193) else pLeaf T o x
def nts : Nat → Nat → Bool → Nat × Bool
  | 0, t, b => (t, b)
  | c + 1, t, b => if (T t).1 = 6 then nts c (t + 1) (!b) else (t, b)
def pCmp (part : PX → PR) (x : PX) : PR := rb (pSum T part x) fun y => if (T y.1).1 = 160 ∨ (T y.1).1 = 162 ∨ (T y.1).1 = 161 then rb (pSum T part (adv y)) fun z => .inr (emi z (opC (T y.1).1) 0) else .inl y.1
def pNot (f : PX → PR) (x : PX) : PR := rb (f ((nts T 400 x.1 false).1, x.2)) fun z => .inr (if (nts T 400 x.1 false).2 = true then emi z 2 0 else z)
def sBoth (plain : PX → PR) (y : PX) : Option PR := if (T y.1).1 = 5 then some (rb (plain (emi (adv y) 3 0)) fun z => .inr (aimx z y.2.2.1.length 3)) else none
def pBoth (plain : PX → PR) (x : PX) : PR := rb (plain x) (lp (sBoth T plain) 400)
def sTest (plain : PX → PR) (y : PX) : Option PR := if (T y.1).1 = 4 then some (rb (pBoth T plain (emi (adv y) 4 0)) fun z => .inr (aimx z y.2.2.1.length 4)) else none
def pTest (plain : PX → PR) (x : PX) : PR := rb (pBoth T plain x) (lp (sTest T plain) 400)
def pPlain : Nat → PX → PR
  | 0, x => pNot T (fun y => if (T y.1).1 = 140 then .inl y.1 else pCmp T (pPart T o 0) y) x
  | k + 1, x => pNot T (fun y => if (T y.1).1 = 140 then rb (pTest T (pPlain k) (adv y)) (eat T 141) else pCmp T (pPart T o (k + 1)) y) x
/-- a clause's cells -/
def cl8 (l : List Nat) : Nat → Nat := fun j => l.getD j 0
def pSums (x : PX) : PR := pSum T (pPart T o 8) x
def pTests (x : PX) : PR := pTest T (pPlain T o 8) x
abbrev PC : Type := Nat ⊕ (PX × List Nat)
/-- kind, times, first, second: six cells -/
def pRule (x : PX) : PC := if (T x.1).1 = 2 then .inr (adv x, [5, 0, 0, 0, 0, 0]) else if (T x.1).1 = 1 then (match pSums T o (adv x) with
  | .inl f => .inl f
  | .inr z => .inr (z, [4, 0, x.2.2.1.length, z.2.2.1.length, 0, 0])) else .inl x.1
def pTimes (x : PX) (k a b c d : Nat) : PC := if (T x.1).1 = 25 then (if (T (x.1 + 1)).1 = 50 ∧ 1 ≤ (T (x.1 + 1)).2 ∧ (T (x.1 + 1)).2 ≤ 20 then .inr ((x.1 + 2, x.2), [k, (T (x.1 + 1)).2, a, b, c, d]) else .inl (x.1 + 1)) else .inr (x, [k, 1, a, b, c, d])
def pOne (x : PX) (k : Nat) : PC := match pSums T o (adv x) with
  | .inl f => .inl f
  | .inr z => pTimes T z k x.2.2.1.length z.2.2.1.length 0 0
def pOrder (x : PX) : PC := if (T x.1).1 = 20 then (match pSums T o (adv x) with
  | .inl f => .inl f
  | .inr y => if (T y.1).1 = 21 then (match pSums T o (adv y) with
    | .inl f => .inl f
    | .inr z => pTimes T z 0 x.2.2.1.length y.2.2.1.length y.2.2.1.length z.2.2.1.length) else .inl y.1) else if (T x.1).1 = 22 then pOne T o x 1 else if (T x.1).1 = 23 then pOne T o x 2 else if (T x.1).1 = 24 then pOne T o x 3 else .inl x.1
def pClause (x : PX) : PC := match (if o = true then pOrder T o x else pRule T o x) with
  | .inl f => .inl f
  | .inr (y, l) => if (T y.1).1 = 3 then (match pTests T o (adv y) with
    | .inl f => .inl f
    | .inr z => .inr (z, l ++ [y.2.2.1.length, z.2.2.1.length])) else .inr (y, l ++ [0, 0])
def pMore : Nat → PX → List (List Nat) → Nat ⊕ (PX × List (List Nat))
  | 0, x, cs => if (T x.1).1 = 159 then .inl (x.1 + 1) else .inr (x, cs)
  | c + 1, x, cs => if (T x.1).1 = 159 then (match pClause T o (adv x) with
    | .inl f => .inl f
    | .inr (y, g) => pMore c y (cs ++ [g])) else .inr (x, cs)
def pText (N : Nat) : Nat ⊕ (PX × List (List Nat)) := match pClause T o (0, 0, [], []) with
  | .inl f => .inl f
  | .inr (x, g) => match pMore T o 11 x [g] with
    | .inl f => .inl f
    | .inr (y, cs) => if y.1 < N then .inl y.1 else .inr (y, cs)
end PAR
/-! what reading never does -/
section GOOD
variable {T : Nat → Nat × Nat} {o : Bool} {N : Nat}
/-- from x to y: tokens go on, code grows by no more than they, what stood stands -/
def xle (N : Nat) (x y : PX) : Prop := x.1 ≤ y.1 ∧ (x.1 ≤ N → y.1 ≤ N) ∧ x.2.2.1.length ≤ y.2.2.1.length ∧ y.2.2.1.length + x.1 ≤ y.1 + x.2.2.1.length ∧ (∀ j, j < x.2.2.1.length → y.2.2.1[j]? = x.2.2.1[j]?) ∧ x.2.1 ≤ y.2.1 ∧ (x.2.1 ≤ 50 → y.2.1 ≤ 50) ∧ x.2.2.2.length ≤ y.2.2.2.length ∧ y.2.2.2.length + x.2.1 ≤ y.2.1 + x.2.2.2.length ∧ (∀ j, j < x.2.2.2.length → y.2.2.2[j]? = x.2.2.2[j]?)
theorem xle.rf {x : PX} : xle N x x := ⟨by omega, id, by omega, by omega, fun _ _ => rfl, by omega, id, by omega, by omega, fun _ _ => rfl⟩
theorem xle.tr {x y z : PX} (h : xle N x y) (g : xle N y z) : xle N x z := by
  obtain ⟨a1, a2, a3, a4, a5, a6, a7, a8, a9, a10⟩ := h
  obtain ⟨b1, b2, b3, b4, b5, b6, b7, b8, b9, b10⟩ := g
  exact ⟨by omega, fun q => b2 (a2 q), by omega, by omega, fun j hj => (b5 j (by omega)).trans (a5 j hj), by omega, fun q => b7 (a7 q), by omega, by omega, fun j hj => (b10 j (by omega)).trans (a10 j hj)⟩
/-- a reader keeps to it; s: it goes on by a token at least -/
def gr (N : Nat) (x : PX) (r : PR) : Prop := match r with
  | .inl t => t ≤ N
  | .inr y => xle N x y ∧ x.1 < y.1
def grw (N : Nat) (x : PX) (r : PR) : Prop := match r with
  | .inl t => t ≤ N
  | .inr y => xle N x y
def gd (N : Nat) (f : PX → PR) : Prop := ∀ x, x.1 ≤ N → gr N x (f x)
def gdw (N : Nat) (f : PX → PR) : Prop := ∀ x, x.1 ≤ N → grw N x (f x)
theorem xle_adv {x : PX} (h : x.1 < N) : xle N x (adv x) := ⟨by simp [adv], fun _ => by simp only [adv]; omega, by simp [adv], by simp only [adv]; omega, fun _ _ => rfl, by simp [adv], id, by simp [adv], by simp only [adv]; omega, fun _ _ => rfl⟩
theorem xle_ae {x z : PX} (h : x.1 < N) (g : xle N (adv x) z) (op ar : Nat) : xle N x (emi z op ar) ∧ x.1 < (emi z op ar).1 := by
  obtain ⟨b1, b2, b3, b4, b5, b6, b7, b8, b9, b10⟩ := g
  simp only [adv] at b1 b2 b3 b4 b5 b6 b7 b8 b9 b10
  refine ⟨⟨by simp only [emi]; omega, fun q => b2 (by omega), by simp only [emi, List.length_append]; omega, by simp only [emi, List.length_append, List.length_cons, List.length_nil]; omega, fun j hj => ?_, b6, b7, b8, b9, b10⟩, by simp only [emi]; omega⟩
  simp only [emi]
  rw [List.getElem?_append_left (by omega)]; exact b5 j hj
theorem xle_ea {x z : PX} (h : x.1 < N) {op : Nat} (g : xle N (emi (adv x) op 0) z) : xle N x (aimx z x.2.2.1.length op) ∧ x.1 < (aimx z x.2.2.1.length op).1 := by
  obtain ⟨b1, b2, b3, b4, b5, b6, b7, b8, b9, b10⟩ := g
  simp only [adv, emi, List.length_append, List.length_cons, List.length_nil] at b1 b2 b3 b4 b5 b6 b7 b8 b9 b10
  refine ⟨⟨by simp only [aimx]; omega, fun q => b2 (by omega), by simp only [aimx, List.length_set]; omega, by simp only [aimx, List.length_set]; omega, fun j hj => ?_, b6, b7, b8, b9, b10⟩, by simp only [aimx]; omega⟩
  simp only [aimx]
  rw [List.getElem?_set_ne (by omega), b5 j (by omega), List.getElem?_append_left hj]
theorem lp_gd {step : PX → Option PR} (hs : ∀ y, y.1 ≤ N → ∀ r, step y = some r → gr N y r) : ∀ c, gdw N (lp step c)
  | 0, x, h => xle.rf
  | c + 1, x, h => by
    unfold lp
    cases hr : step x with
    | none => exact xle.rf
    | some r =>
      have := hs x h r hr
      cases r with
      | inl t => exact this
      | inr z =>
        have h2 := lp_gd hs c z (this.1.2.1 h)
        show grw N x (lp step c z)
        cases hz : lp step c z with
        | inl t => rw [hz] at h2; exact h2
        | inr y => rw [hz] at h2; exact this.1.tr h2
theorem rb_gd {f g : PX → PR} (hf : gd N f) (hg : gdw N g) : gd N (fun x => rb (f x) g) := by
  intro x h
  have h1 := hf x h
  dsimp only
  cases hx : f x with
  | inl t => rw [hx] at h1; exact h1
  | inr y =>
    rw [hx] at h1
    have h2 := hg y (h1.1.2.1 h)
    show gr N x (g y)
    cases hy : g y with
    | inl t => rw [hy] at h2; exact h2
    | inr z =>
      rw [hy] at h2
      exact ⟨h1.1.tr h2, by have h3 := h2.1; have h4 := h1.2; omega⟩
variable (hT : ∀ i, (T i).1 ≠ 0 → i < N)
theorem gd_term {part : PX → PR} (hT : ∀ i, (T i).1 ≠ 0 → i < N) (hp : gd N part) : gd N (pTerm T part) := by
  refine rb_gd hp (lp_gd (fun y hy r hr => ?_) 400)
  unfold sTerm at hr
  split at hr
  · rename_i q
    have hlt : y.1 < N := hT _ (by omega)
    cases hr
    have h1 := hp (adv y) (by simp only [adv]; omega)
    cases hz : part (adv y) with
    | inl t => rw [hz] at h1; exact h1
    | inr z => rw [hz] at h1; exact xle_ae hlt h1.1 _ _
  · cases hr
theorem gd_sum {part : PX → PR} (hT : ∀ i, (T i).1 ≠ 0 → i < N) (hp : gd N part) : gd N (pSum T part) := by
  refine rb_gd (gd_term hT hp) (lp_gd (fun y hy r hr => ?_) 400)
  unfold sSum at hr
  split at hr
  · rename_i q
    have hlt : y.1 < N := hT _ (by omega)
    cases hr
    have h1 := gd_term hT hp (adv y) (by simp only [adv]; omega)
    cases hz : pTerm T part (adv y) with
    | inl t => rw [hz] at h1; exact h1
    | inr z => rw [hz] at h1; exact xle_ae hlt h1.1 _ _
  · cases hr
theorem gd_both {plain : PX → PR} (hT : ∀ i, (T i).1 ≠ 0 → i < N) (hp : gd N plain) : gd N (pBoth T plain) := by
  refine rb_gd hp (lp_gd (fun y hy r hr => ?_) 400)
  unfold sBoth at hr
  split at hr
  · rename_i q
    have hlt : y.1 < N := hT _ (by omega)
    cases hr
    have h1 := hp (emi (adv y) 3 0) (by simp only [adv, emi]; omega)
    cases hz : plain (emi (adv y) 3 0) with
    | inl t => rw [hz] at h1; exact h1
    | inr z => rw [hz] at h1; exact xle_ea hlt h1.1
  · cases hr
theorem gd_test {plain : PX → PR} (hT : ∀ i, (T i).1 ≠ 0 → i < N) (hp : gd N plain) : gd N (pTest T plain) := by
  refine rb_gd (gd_both hT hp) (lp_gd (fun y hy r hr => ?_) 400)
  unfold sTest at hr
  split at hr
  · rename_i q
    have hlt : y.1 < N := hT _ (by omega)
    cases hr
    have h1 := gd_both hT hp (emi (adv y) 4 0) (by simp only [adv, emi]; omega)
    cases hz : pBoth T plain (emi (adv y) 4 0) with
    | inl t => rw [hz] at h1; exact h1
    | inr z => rw [hz] at h1; exact xle_ea hlt h1.1
  · cases hr
theorem gd_ask (hT : ∀ i, (T i).1 ≠ 0 → i < N) {x : PX} (h : x.1 < N) (hp : x.2.1 ≠ 50) (b c : Nat) : gr N x (pAsk T b c (x.1 + 1, x.2.1 + 1, x.2.2)) := by
  unfold pAsk
  split
  · rename_i q
    have := hT (x.1 + 1) (by have := q.1; dsimp only at this; omega)
    refine ⟨⟨by dsimp only; omega, fun _ => by dsimp only; omega, by simp, by simp only [List.length_append, List.length_cons, List.length_nil]; omega, fun j hj => List.getElem?_append_left hj, by dsimp only; omega, fun _ => by dsimp only; omega, by simp, by simp only [List.length_append, List.length_cons, List.length_nil]; omega, fun j hj => List.getElem?_append_left hj⟩, by dsimp only; omega⟩
  · exact h
theorem gd_leaf (hT : ∀ i, (T i).1 ≠ 0 → i < N) : gd N (pLeaf T o) := by
  intro x h
  have fin : x.1 < N → x.2.1 ≠ 50 → ∀ w, xle N x (x.1 + 1, x.2.1 + 1, x.2.2.1 ++ [w], x.2.2.2) ∧ x.1 < x.1 + 1 := fun h1 h2 w => ⟨⟨by dsimp only; omega, fun _ => by dsimp only; omega, by simp, by simp only [List.length_append, List.length_cons, List.length_nil]; omega, fun j hj => List.getElem?_append_left hj, by dsimp only; omega, fun _ => by dsimp only; omega, Nat.le_refl _, by dsimp only; omega, fun _ _ => rfl⟩, by omega⟩
  unfold pLeaf
  by_cases h0 : x.2.1 = 50
  · rw [if_pos h0]; exact h
  · rw [if_neg h0]
    split
    · rename_i q; exact fin (hT _ (by omega)) h0 _
    · split
      · rename_i q; exact gd_ask hT (hT _ (by omega)) h0 _ _
      · split
        · rename_i q; exact gd_ask hT (hT _ (by omega)) h0 _ _
        · cases hw : (if o = true then wdO (T x.1).1 else wdL (T x.1).1) with
          | none => exact h
          | some w =>
            refine fin (hT _ (fun e => ?_)) h0 _
            rw [e] at hw
            cases o <;> simp [wdO, wdL] at hw
theorem gd_eat {f : PX → PR} (hT : ∀ i, (T i).1 ≠ 0 → i < N) (hf : gd N f) {c : Nat} (hc : c ≠ 0) {x : PX} (h : x.1 < N) : gr N x (rb (f (adv x)) (eat T c)) := by
  have h1 := hf (adv x) (by simp only [adv]; omega)
  cases hz : f (adv x) with
  | inl t => rw [hz] at h1; exact h1
  | inr z =>
    rw [hz] at h1
    have hzN : z.1 ≤ N := h1.1.2.1 (by simp only [adv]; omega)
    show gr N x (eat T c z)
    unfold eat
    split
    · rename_i q
      have hl := hT z.1 (by omega)
      have h3 := h1.2
      simp only [adv] at h3
      exact ⟨((xle_adv h).tr h1.1).tr (xle_adv hl), by simp only [adv]; omega⟩
    · exact hzN
theorem gd_part (hT : ∀ i, (T i).1 ≠ 0 → i < N) : ∀ k, gd N (pPart T o k)
  | 0, x, h => by
    unfold pPart
    split
    · exact h
    · exact gd_leaf hT x h
  | k + 1, x, h => by
    unfold pPart
    split
    · rename_i q; exact gd_eat hT (gd_sum hT (gd_part hT k)) (by omega) (hT _ (by omega))
    · exact gd_leaf hT x h
theorem nts_ok (hT : ∀ i, (T i).1 ≠ 0 → i < N) : ∀ c t b, t ≤ N → t ≤ (nts T c t b).1 ∧ (nts T c t b).1 ≤ N ∧ ((nts T c t b).2 = b ∨ t < (nts T c t b).1)
  | 0, t, b, h => ⟨Nat.le_refl _, h, Or.inl rfl⟩
  | c + 1, t, b, h => by
    unfold nts
    split
    · rename_i q
      have hl := hT t (by omega)
      obtain ⟨h1, h2, _⟩ := nts_ok hT c (t + 1) (!b) (by omega)
      exact ⟨by omega, h2, Or.inr (by omega)⟩
    · exact ⟨Nat.le_refl _, h, Or.inl rfl⟩
theorem gd_not {f : PX → PR} (hT : ∀ i, (T i).1 ≠ 0 → i < N) (hf : gd N f) : gd N (pNot T f) := by
  intro x h
  obtain ⟨n1, n2, n3⟩ := nts_ok hT 400 x.1 false h
  unfold pNot
  generalize nts T 400 x.1 false = w at n1 n2 n3 ⊢
  have h1 := hf (w.1, x.2) n2
  cases hz : f (w.1, x.2) with
  | inl t => rw [hz] at h1; exact h1
  | inr z =>
    rw [hz] at h1
    obtain ⟨⟨b1, b2, b3, b4, b5, b6, b7, b8, b9, b10⟩, h2⟩ := h1
    dsimp only at b1 b2 b3 b4 b5 b6 b7 b8 b9 b10 h2
    show xle N x (if w.2 = true then emi z 2 0 else z) ∧ x.1 < (if w.2 = true then emi z 2 0 else z).1
    split
    · rename_i q
      have hlt : x.1 < w.1 := by
        rcases n3 with e | e
        · rw [e] at q; cases q
        · exact e
      refine ⟨⟨by simp only [emi]; omega, fun _ => b2 n2, by simp only [emi, List.length_append]; omega, by simp only [emi, List.length_append, List.length_cons, List.length_nil]; omega, fun j hj => ?_, b6, b7, b8, b9, b10⟩, by simp only [emi]; omega⟩
      simp only [emi]
      rw [List.getElem?_append_left (by omega)]; exact b5 j hj
    · exact ⟨⟨by omega, fun _ => b2 n2, b3, by omega, b5, b6, b7, b8, b9, b10⟩, by omega⟩
theorem gd_cmp {part : PX → PR} (hT : ∀ i, (T i).1 ≠ 0 → i < N) (hp : gd N part) : gd N (pCmp T part) := by
  refine rb_gd (gd_sum hT hp) (fun y hy => ?_)
  split
  · rename_i q
    have hlt : y.1 < N := hT _ (by omega)
    have h1 := gd_sum hT hp (adv y) (by simp only [adv]; omega)
    cases hz : pSum T part (adv y) with
    | inl t => rw [hz] at h1; exact h1
    | inr z => rw [hz] at h1; exact (xle_ae hlt h1.1 _ _).1
  · exact hy
theorem gd_plain (hT : ∀ i, (T i).1 ≠ 0 → i < N) : ∀ k, gd N (pPlain T o k)
  | 0 => by
    refine gd_not hT (fun y hy => ?_)
    split
    · exact hy
    · exact gd_cmp hT (gd_part hT 0) y hy
  | k + 1 => by
    refine gd_not hT (fun y hy => ?_)
    split
    · rename_i q; exact gd_eat hT (gd_test hT (gd_plain hT k)) (by omega) (hT _ (by omega))
    · exact gd_cmp hT (gd_part hT (k + 1)) y hy
end GOOD
