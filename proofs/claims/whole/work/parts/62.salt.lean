/-! ===== the class's store: how many buckets by a salt ===== -/
def incC (c : Nat → Nat) (q : Nat) : Nat → Nat := fun j => if j = q then c j + 1 else c j
/-- the keys are counted by slot; none where a slot has more than three -/
def bsP (t : Nat) : List (Nat × Nat) → (Nat → Nat) → Option (Nat → Nat)
  | [], c => some c
  | e :: l, c => if c (hsh t e.1 % 64) + 1 ≤ 3 then bsP t l (incC c (hsh t e.1 % 64)) else none
/-- the entries of the buckets from i on -/
def allE (B : Bk) : Nat → Nat → List (Nat × Nat)
  | 0, _ => []
  | n + 1, i => ents (B i) ++ allE B n (i + 1)
def addC (c : Nat → Nat) (i v : Nat) : Nat → Nat := fun j => if j = i then c j + v else c j
/-- one halving, from i on -/
def bsH (h : Nat) : Nat → Nat → (Nat → Nat) × Nat → (Nat → Nat) × Nat
  | 0, _, x => x
  | n + 1, i, x => bsH h n (i + 1) (addC x.1 i (x.1 (i + h)), x.2 + if x.1 i + x.1 (i + h) ≤ 3 then 0 else 1)
def bsA (c : Nat → Nat) : (Nat → Nat) × Nat := bsH 1 1 0 (bsH 2 2 0 (bsH 4 4 0 (bsH 8 8 0 (bsH 16 16 0 (bsH 32 32 0 (c, 1))))))
/-- buckets by a salt -/
def bySalt (t : Nat) (B : Bk) : Nat := match bsP t (allE B 24 0) (fun _ => 0) with
  | none => 25
  | some c => (bsA c).2
theorem bsP_app {t : Nat} : ∀ (l m : List (Nat × Nat)) (c : Nat → Nat), bsP t (l ++ m) c = (bsP t l c).bind fun c' => bsP t m c'
  | [], m, c => rfl
  | e :: l, m, c => by
    show (if _ then bsP t (l ++ m) _ else none) = (if _ then bsP t l _ else none).bind _
    split
    · exact bsP_app l m _
    · rfl
theorem bsP_le {t : Nat} : ∀ (l : List (Nat × Nat)) (c c' : Nat → Nat), (∀ j, c j ≤ 3) → bsP t l c = some c' → ∀ j, c' j ≤ 3
  | [], c, c', h, e => by rw [← Option.some.inj e]; exact h
  | e :: l, c, c', h, q => by
    unfold bsP at q
    split at q
    · rename_i w
      refine bsP_le l _ c' (fun j => ?_) q
      unfold incC
      split
      · rename_i z; rw [z]; exact w
      · exact h j
    · cases q
/-- the counts' cell -/
def CR (A : xH) (rc : Nat) (c : Nat → Nat) : Prop := ∃ g, A[rc]? = some (ia 64 g) ∧ ∀ j, j < 64 → g j = nI (c j)
def CX (A : xH) (rc : Nat) : Prop := ∃ g, A[rc]? = some (ia 64 g)
theorem CR.x {A : xH} {rc : Nat} {c : Nat → Nat} (h : CR A rc c) : CX A rc := h.imp fun _ q => q.1
theorem CR.ld {A : xH} {rc q : Nat} {c : Nat → Nat} (h : CR A rc c) (hq : q < 64) : aI 0 A rc (nI q) = some (nI (c q)) := by
  obtain ⟨g, g1, g2⟩ := h
  rw [h_aI g1 hq (by omega), g2 q hq]
theorem CR.st {A : xH} {rc q v : Nat} {c : Nat → Nat} (h : CR A rc c) (hq : q < 64) : ∃ A', sI 0 A rc (nI q) (nI (c q + v)) = some A' ∧ CR A' rc (addC c q v) ∧ sm (fun z => z = rc) A A' := by
  obtain ⟨g, g1, g2⟩ := h
  refine ⟨_, h_sI0 g1 hq (by omega), ⟨_, List.getElem?_set_self (List.getElem?_eq_some_iff.mp g1).1, fun j hj => ?_⟩, sm.set _ rfl⟩
  unfold addC
  by_cases e : j = q
  · rw [e, upd_s, if_pos rfl]
  · rw [upd_n e, if_neg e]; exact g2 j hj
section SALT
variable {E : Nat × (Nat → Int32)} {d a rc : Nat} {s : xS} {B : Bk} {t : Nat}
theorem c_bs16 (hB : pgs s.1 0 B) (hd : a + 7 ≤ rc ∨ rc < a) (ht : t < 1000) {b : Nat} (hb : b < 24) (hk : ∀ e ∈ ents (B b), e.1 < 1000) : ∀ (rest pre : List (Nat × Nat)) (A : xH) (c : Nat → Nat) (w5 : Value), ST A a s → CR A rc c → (∀ j, c j ≤ 3) → ents (B b) = pre ++ rest → (∀ c', bsP t rest c = some c' → ∃ A', xD E (d + 3) 67 16 [.ref a, .int (nI t), .ref rc, .int (nI b), .int (nI pre.length), w5] [] A = xD E (d + 3) 67 7 [.ref a, .int (nI t), .ref rc, .int (nI (b + 1)), xJ, xJ] [] A' ∧ CR A' rc c' ∧ sm (fun z => z = rc) A A') ∧ (bsP t rest c = none → ∃ A', xD E (d + 3) 67 16 [.ref a, .int (nI t), .ref rc, .int (nI b), .int (nI pre.length), w5] [] A = some (some (.int (nI 25)), A') ∧ CX A' rc ∧ sm (fun z => z = rc) A A')
  | [], pre, A, c, w5, h, hc, hle, he => by
    have hl := hB.len hb
    have hl2 : (ents (B b)).length = pre.length := by rw [he, List.append_nil]
    refine ⟨fun c' q => ?_, fun q => by cases q⟩
    obtain rfl := Option.some.inj q
    refine ⟨A, ?_, hc, sm.refl _ _⟩
    rw [e67_16, h.g0, Option.bind_some, c_many h.2.1 hB hb, xI_s, Option.bind_some]
    dsimp only
    rw [hl2, if_pos (nI_le (Nat.le_refl _) (by omega)), nI_1]
    exact (e67_7 ..).trans (e67_7 ..).symm
  | e :: rest, pre, A, c, w5, h, hc, hle, he => by
    have hl := hB.len hb
    have hl2 : (ents (B b)).length = pre.length + (rest.length + 1) := by rw [he, List.length_append]; rfl
    have hi : (ents (B b))[pre.length]? = some (e.1, e.2) := by
      rw [he, List.getElem?_append_right (Nat.le_refl _), Nat.sub_self]; rfl
    have hek := hk e (by rw [he]; simp)
    have hh := hsh_lt t e.1
    have hq := hle (hsh t e.1 % 64)
    have hm : hsh t e.1 % 64 < 64 := Nat.mod_lt _ (by omega)
    have e0 : nI (pre ++ [e]).length = nI (pre.length + 1) := by rw [List.length_append]; rfl
    obtain ⟨A1, p1, p2, p3⟩ := hc.st (v := 1) hm
    have hinc : addC c (hsh t e.1 % 64) 1 (hsh t e.1 % 64) = c (hsh t e.1 % 64) + 1 := if_pos rfl
    have hrun : xD E (d + 3) 67 16 [.ref a, .int (nI t), .ref rc, .int (nI b), .int (nI pre.length), w5] [] A = if nI (c (hsh t e.1 % 64) + 1) ≤ (3 : Int32) then xD E (d + 3) 67 16 [.ref a, .int (nI t), .ref rc, .int (nI b), .int (nI (pre ++ [e]).length), .int (nI (hsh t e.1 % 64))] [] A1 else some (some (.int (nI 25)), A1) := by
      rw [e67_16, h.g0, Option.bind_some, c_many h.2.1 hB hb, xI_s, Option.bind_some]
      dsimp only
      rw [if_neg (nI_ge (by omega) (by omega)), h.g0, Option.bind_some, c_keyAt h.2.1 hB hb hi, xI_s, Option.bind_some]
      dsimp only
      rw [c_hashBy hek ht, xI_s, Option.bind_some]
      dsimp only
      rw [n_and63 (by omega), hc.ld hm, Option.bind_some, nI_1, p1, Option.bind_some, p2.ld hm, Option.bind_some, hinc, nI_1, e0]
      rfl
    have hinc2 : incC c (hsh t e.1 % 64) = addC c (hsh t e.1 % 64) 1 := rfl
    rw [hrun]
    unfold bsP
    rw [hinc2]
    by_cases q : c (hsh t e.1 % 64) + 1 ≤ 3
    · rw [if_pos (show nI (c (hsh t e.1 % 64) + 1) ≤ (3 : Int32) from nI_le (b := 3) q (by omega)), if_pos q]
      have hle2 : ∀ j, addC c (hsh t e.1 % 64) 1 j ≤ 3 := fun j => by
        unfold addC
        split
        · rename_i z; rw [z]; exact q
        · exact hle j
      obtain ⟨i1, i2⟩ := c_bs16 hB hd ht hb hk rest (pre ++ [e]) A1 _ (.int (nI (hsh t e.1 % 64))) (h.kp p3 (fun q q1 q2 q3 => by omega)) p2 hle2 (by rw [he, List.append_assoc]; rfl)
      refine ⟨fun c' z => ?_, fun z => ?_⟩
      · obtain ⟨A2, j1, j2, j3⟩ := i1 c' z
        exact ⟨A2, j1, j2, p3.trans j3⟩
      · obtain ⟨A2, j1, j2, j3⟩ := i2 z
        exact ⟨A2, j1, j2, p3.trans j3⟩
    · rw [if_neg (show ¬ nI (c (hsh t e.1 % 64) + 1) ≤ (3 : Int32) from nI_ge (a := 3) (by omega) (by omega)), if_neg q]
      exact ⟨fun c' z => (by cases z), fun _ => ⟨A1, rfl, p2.x, p3⟩⟩
theorem c_bs7 (hB : pgs s.1 0 B) (hd : a + 7 ≤ rc ∨ rc < a) (ht : t < 1000) (hk : ∀ b, ∀ e ∈ ents (B b), e.1 < 1000) : ∀ (n b : Nat) (A : xH) (c : Nat → Nat) (w4 w5 : Value), ST A a s → CR A rc c → (∀ j, c j ≤ 3) → b + n = 24 → (∀ c', bsP t (allE B n b) c = some c' → ∃ A', xD E (d + 3) 67 7 [.ref a, .int (nI t), .ref rc, .int (nI b), w4, w5] [] A = xD E (d + 3) 67 85 [xJ, xJ, .ref rc, .int (nI 1), .int (nI 32), xJ] [] A' ∧ CR A' rc c' ∧ sm (fun z => z = rc) A A') ∧ (bsP t (allE B n b) c = none → ∃ A', xD E (d + 3) 67 7 [.ref a, .int (nI t), .ref rc, .int (nI b), w4, w5] [] A = some (some (.int (nI 25)), A') ∧ CX A' rc ∧ sm (fun z => z = rc) A A')
  | 0, b, A, c, w4, w5, h, hc, hle, hn => by
    obtain rfl : b = 24 := by omega
    refine ⟨fun c' q => ?_, fun q => by cases q⟩
    obtain rfl := Option.some.inj q
    refine ⟨A, ?_, hc, sm.refl _ _⟩
    rw [e67_7, if_pos (show (24 : Int32) ≤ nI 24 by decide)]
    exact (e67_85 ..).trans (e67_85 ..).symm
  | n + 1, b, A, c, w4, w5, h, hc, hle, hn => by
    obtain ⟨i1, i2⟩ := c_bs16 (E := E) (d := d) hB hd ht (b := b) (by omega) (hk b) (ents (B b)) [] A c xJ h hc hle rfl
    rw [e67_7, if_neg (show ¬ (24 : Int32) ≤ nI b from nI_ge (b := 24) (by omega) (by omega))]
    rw [show allE B (n + 1) b = ents (B b) ++ allE B n (b + 1) from rfl, bsP_app]
    cases hp : bsP t (ents (B b)) c with
    | none =>
      rw [Option.bind_none]
      exact ⟨fun c' z => (by cases z), fun _ => i2 hp⟩
    | some c1 =>
      rw [Option.bind_some]
      obtain ⟨A1, p1, p2, p3⟩ := i1 c1 hp
      obtain ⟨k1, k2⟩ := c_bs7 hB hd ht hk n (b + 1) A1 c1 xJ xJ (h.kp p3 (fun q q1 q2 q3 => by omega)) p2 (bsP_le _ _ _ hle hp) (by omega)
      refine ⟨fun c' z => ?_, fun z => ?_⟩
      · obtain ⟨A2, j1, j2, j3⟩ := k1 c' z
        exact ⟨A2, p1.trans j1, j2, p3.trans j3⟩
      · obtain ⟨A2, j1, j2, j3⟩ := k2 z
        exact ⟨A2, p1.trans j1, j2, p3.trans j3⟩
end SALT
