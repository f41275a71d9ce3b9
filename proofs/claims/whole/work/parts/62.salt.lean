/-! ===== the class's store: how many buckets by a salt ===== -/
def incC (c : Nat → Nat) (q : Nat) : Nat → Nat := fun j => if j = q then c j + 1 else c j
/-- the keys are counted by slot; none where a slot has more than three -/
def bsP (t : Nat) : List (Nat × Nat) → (Nat → Nat) → Option (Nat → Nat)
  | [], c => some c
  | e :: l, c => if c (hsh t e.1 % 64) + 1 ≤ 3 then bsP t l (incC c (hsh t e.1 % 64)) else none
/-- the entries of the buckets from i on -/
def allE (B : Bk) : Nat → Nat → List (Nat × Nat)
  | 0, _ => []
  | n + 1, i => ents (B i) ++ allE B n (i + 1)
def addC (c : Nat → Nat) (i v : Nat) : Nat → Nat := fun j => if j = i then c j + v else c j
/-- one halving, from i on -/
def bsH (h : Nat) : Nat → Nat → (Nat → Nat) × Nat → (Nat → Nat) × Nat
  | 0, _, x => x
  | n + 1, i, x => bsH h n (i + 1) (addC x.1 i (x.1 (i + h)), x.2 + if x.1 i + x.1 (i + h) ≤ 3 then 0 else 1)
def bsA (c : Nat → Nat) : (Nat → Nat) × Nat := bsH 1 1 0 (bsH 2 2 0 (bsH 4 4 0 (bsH 8 8 0 (bsH 16 16 0 (bsH 32 32 0 (c, 1))))))
/-- buckets by a salt -/
def bySalt (t : Nat) (B : Bk) : Nat := match bsP t (allE B 24 0) (fun _ => 0) with
  | none => 25
  | some c => (bsA c).2
theorem bsP_app {t : Nat} : ∀ (l m : List (Nat × Nat)) (c : Nat → Nat), bsP t (l ++ m) c = (bsP t l c).bind fun c' => bsP t m c'
  | [], m, c => rfl
  | e :: l, m, c => by
    show (if _ then bsP t (l ++ m) _ else none) = (if _ then bsP t l _ else none).bind _
    split
    · exact bsP_app l m _
    · rfl
theorem bsP_le {t : Nat} : ∀ (l : List (Nat × Nat)) (c c' : Nat → Nat), (∀ j, c j ≤ 3) → bsP t l c = some c' → ∀ j, c' j ≤ 3
  | [], c, c', h, e => by rw [← Option.some.inj e]; exact h
  | e :: l, c, c', h, q => by
    unfold bsP at q
    split at q
    · rename_i w
      refine bsP_le l _ c' (fun j => ?_) q
      unfold incC
      split
      · rename_i z; rw [z]; exact w
      · exact h j
    · cases q
def cA (c : Nat → Nat) : xA := ia 64 (fun j => nI (c j))
theorem upd_inc {c : Nat → Nat} {q : Nat} : upd (fun j => nI (c j)) q (nI (c q + 1)) = fun j => nI (incC c q j) := by
  funext j
  unfold upd incC
  by_cases e : j = q
  · rw [if_pos e, if_pos e, e]
  · rw [if_neg e, if_neg e]
theorem upd_add {c : Nat → Nat} {q v : Nat} : upd (fun j => nI (c j)) q (nI (c q + v)) = fun j => nI (addC c q v j) := by
  funext j
  unfold upd addC
  by_cases e : j = q
  · rw [if_pos e, if_pos e, e]
  · rw [if_neg e, if_neg e]
section SALT
variable {E : Nat × (Nat → Int32)} {d a rc : Nat} {s : xS} {B : Bk} {t : Nat}
theorem cA_st {A : xH} (h : ST A a s) (hd : a + 7 ≤ rc ∨ rc < a) (w : xA) : ST (A.set rc w) a s := h.kp (P := fun q => q = rc) (sm.set w rfl) (fun q q1 q2 q3 => by omega)
theorem cA_at {A : xH} {w w' : xA} (h : A[rc]? = some w) : (A.set rc w')[rc]? = some w' := List.getElem?_set_self (List.getElem?_eq_some_iff.mp h).1
theorem c_bs16 (hB : pgs s.1 0 B) (hd : a + 7 ≤ rc ∨ rc < a) (ht : t < 1000) {b : Nat} (hb : b < 24) (hk : ∀ e ∈ ents (B b), e.1 < 1000) : ∀ (rest pre : List (Nat × Nat)) (A : xH) (c : Nat → Nat) (w5 : Value), ST A a s → A[rc]? = some (cA c) → (∀ j, c j ≤ 3) → ents (B b) = pre ++ rest → (∀ c', bsP t rest c = some c' → xD E (d + 2) 67 16 [.ref a, .int (nI t), .ref rc, .int (nI b), .int (nI pre.length), w5] [] A = xD E (d + 2) 67 7 [.ref a, .int (nI t), .ref rc, .int (nI (b + 1)), xJ, xJ] [] (A.set rc (cA c'))) ∧ (bsP t rest c = none → ∃ w, xD E (d + 2) 67 16 [.ref a, .int (nI t), .ref rc, .int (nI b), .int (nI pre.length), w5] [] A = some (some (.int (nI 25)), A.set rc w))
  | [], pre, A, c, w5, h, hc, hle, he => by
    have hl := hB.len hb
    have hl2 : (ents (B b)).length = pre.length := by rw [he, List.append_nil]
    refine ⟨fun c' q => ?_, fun q => by cases q⟩
    obtain rfl := Option.some.inj q
    rw [e67_16, h.g0, Option.bind_some, c_many h.2.1 hB hb, xI_s, Option.bind_some]
    dsimp only
    rw [hl2, if_pos (nI_le (Nat.le_refl _) (by omega)), nI_1, set_self hc]
    exact (e67_7 ..).trans (e67_7 ..).symm
  | e :: rest, pre, A, c, w5, h, hc, hle, he => by
    have hl := hB.len hb
    have hl2 : (ents (B b)).length = pre.length + (rest.length + 1) := by rw [he, List.length_append]; rfl
    have hi : (ents (B b))[pre.length]? = some (e.1, e.2) := by
      rw [he, List.getElem?_append_right (Nat.le_refl _), Nat.sub_self]; rfl
    have hek := hk e (by rw [he]; simp)
    have hh := hsh_lt t e.1
    have hq := hle (hsh t e.1 % 64)
    have hm : hsh t e.1 % 64 < 64 := Nat.mod_lt _ (by omega)
    have e0 : nI (pre ++ [e]).length = nI (pre.length + 1) := by rw [List.length_append]; rfl
    have hc1 : (A.set rc (cA (incC c (hsh t e.1 % 64))))[rc]? = some (ia 64 fun j => nI (incC c (hsh t e.1 % 64) j)) := cA_at hc
    have hinc : incC c (hsh t e.1 % 64) (hsh t e.1 % 64) = c (hsh t e.1 % 64) + 1 := if_pos rfl
    have hrun : xD E (d + 2) 67 16 [.ref a, .int (nI t), .ref rc, .int (nI b), .int (nI pre.length), w5] [] A = if nI (c (hsh t e.1 % 64) + 1) ≤ (3 : Int32) then xD E (d + 2) 67 16 [.ref a, .int (nI t), .ref rc, .int (nI b), .int (nI (pre ++ [e]).length), .int (nI (hsh t e.1 % 64))] [] (A.set rc (cA (incC c (hsh t e.1 % 64)))) else some (some (.int (nI 25)), A.set rc (cA (incC c (hsh t e.1 % 64)))) := by
      rw [e67_16, h.g0, Option.bind_some, c_many h.2.1 hB hb, xI_s, Option.bind_some]
      dsimp only
      rw [if_neg (nI_ge (by omega) (by omega)), h.g0, Option.bind_some, c_keyAt h.2.1 hB hb hi, xI_s, Option.bind_some]
      dsimp only
      rw [c_hashBy hek ht, xI_s, Option.bind_some]
      dsimp only
      rw [n_and63 (by omega), h_aI hc hm (by omega), Option.bind_some, nI_1, h_sI0 hc hm (by omega), Option.bind_some, upd_inc]
      change ((aI 0 (A.set rc (cA (incC c (hsh t e.1 % 64)))) rc (nI (hsh t e.1 % 64))).bind _) = _
      rw [h_aI hc1 hm (by omega), Option.bind_some, hinc, nI_1, e0]
      rfl
    rw [hrun]
    unfold bsP
    by_cases q : c (hsh t e.1 % 64) + 1 ≤ 3
    · rw [if_pos (show nI (c (hsh t e.1 % 64) + 1) ≤ (3 : Int32) from nI_le (b := 3) q (by omega)), if_pos q]
      have hle2 : ∀ j, incC c (hsh t e.1 % 64) j ≤ 3 := fun j => by
        unfold incC
        split
        · rename_i z; rw [z]; exact q
        · exact hle j
      obtain ⟨i1, i2⟩ := c_bs16 hB hd ht hb hk rest (pre ++ [e]) _ _ (.int (nI (hsh t e.1 % 64))) (cA_st h hd _) hc1 hle2 (by rw [he, List.append_assoc]; rfl)
      refine ⟨fun c' z => ?_, fun z => ?_⟩
      · rw [i1 c' z, xtr]
      · obtain ⟨w, hw⟩ := i2 z
        exact ⟨w, by rw [hw, xtr]⟩
    · rw [if_neg (show ¬ nI (c (hsh t e.1 % 64) + 1) ≤ (3 : Int32) from nI_ge (a := 3) (by omega) (by omega)), if_neg q]
      exact ⟨fun c' z => (by cases z), fun _ => ⟨_, rfl⟩⟩
end SALT
