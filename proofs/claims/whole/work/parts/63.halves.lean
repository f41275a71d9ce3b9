/-! ===== the class's store: how many buckets by a salt, to the end; open ===== -/
section HALVES
variable {E : Nat × (Nat → Int32)} {d a rc : Nat} {s : xS} {B : Bk} {t : Nat}
theorem c_bs93 {h M : Nat} (h32 : h ≤ 32) (hM : M ≤ 96) : ∀ (n i : Nat) (A : xH) (c : Nat → Nat) (v : Nat) (w0 w1 : Value), CR A rc c → i + n = h → (∀ j, i ≤ j → c j ≤ M) → (∀ j, c j ≤ 2 * M) → ∃ A', xD E (d + 1) 67 93 [w0, w1, .ref rc, .int (nI v), .int (nI h), .int (nI i)] [] A = xD E (d + 1) 67 85 [xJ, xJ, .ref rc, .int (nI (bsH h n i (c, v)).2), .int (nI (h / 2)), xJ] [] A' ∧ CR A' rc (bsH h n i (c, v)).1 ∧ (∀ j, (bsH h n i (c, v)).1 j ≤ 2 * M) ∧ sm (fun z => z = rc) A A'
  | 0, i, A, c, v, w0, w1, hc, hn, h1, h2 => by
    refine ⟨A, ?_, hc, h2, sm.refl _ _⟩
    rw [e67_93, if_pos (nI_le (by omega) (by omega)), show (2 : Int32) = nI 2 from rfl, n_div (by omega) (by omega) (by omega)]
    exact (e67_85 ..).trans (e67_85 ..).symm
  | n + 1, i, A, c, v, w0, w1, hc, hn, h1, h2 => by
    have q1 := h1 i (Nat.le_refl _)
    have q2 := h1 (i + h) (by omega)
    obtain ⟨A1, p1, p2, p3⟩ := hc.st (v := c (i + h)) (show i < 64 by omega)
    have hat : addC c i (c (i + h)) i = c i + c (i + h) := if_pos rfl
    obtain ⟨A2, i1, i2, i3, i4⟩ := c_bs93 h32 hM n (i + 1) A1 (addC c i (c (i + h))) (v + if c i + c (i + h) ≤ 3 then 0 else 1) xJ xJ p2 (by omega) (fun j hj => by unfold addC; rw [if_neg (by omega)]; exact h1 j (by omega)) (fun j => by
      unfold addC
      split
      · rename_i z; rw [z]; omega
      · exact h2 j)
    refine ⟨A2, ?_, i2, i3, p3.trans i4⟩
    rw [e67_93, if_neg (nI_ge (by omega) (by omega)), hc.ld (by omega), Option.bind_some, nI_add, hc.ld (by omega), Option.bind_some, nI_add, p1, Option.bind_some, p2.ld (by omega), Option.bind_some, hat]
    by_cases e : c i + c (i + h) ≤ 3
    · rw [if_pos (show nI (c i + c (i + h)) ≤ (3 : Int32) from nI_le (b := 3) e (by omega)), Int32.add_zero, nI_1]
      rw [if_pos e] at i1
      refine Eq.trans i1 ?_
      show _ = xD E (d + 1) 67 85 [xJ, xJ, .ref rc, .int (nI (bsH h n (i + 1) (addC c i (c (i + h)), v + if c i + c (i + h) ≤ 3 then 0 else 1)).2), .int (nI (h / 2)), xJ] [] A2
      rw [if_pos e]
    · rw [if_neg (show ¬ nI (c i + c (i + h)) ≤ (3 : Int32) from nI_ge (a := 3) (by omega) (by omega)), nI_1, nI_1]
      rw [if_neg e] at i1
      rw [i1]
      show _ = xD E (d + 1) 67 85 [xJ, xJ, .ref rc, .int (nI (bsH h n (i + 1) (addC c i (c (i + h)), v + if c i + c (i + h) ≤ 3 then 0 else 1)).2), .int (nI (h / 2)), xJ] [] A2
      rw [if_neg e]
theorem c_bs85 {h M : Nat} (h0 : 0 < h) (h32 : h ≤ 32) (hM : M ≤ 96) {A : xH} {x : (Nat → Nat) × Nat} {w0 w1 w5 : Value} (hc : CR A rc x.1) (h1 : ∀ j, x.1 j ≤ M) : ∃ A', xD E (d + 1) 67 85 [w0, w1, .ref rc, .int (nI x.2), .int (nI h), w5] [] A = xD E (d + 1) 67 85 [xJ, xJ, .ref rc, .int (nI (bsH h h 0 x).2), .int (nI (h / 2)), xJ] [] A' ∧ CR A' rc (bsH h h 0 x).1 ∧ (∀ j, (bsH h h 0 x).1 j ≤ 2 * M) ∧ sm (fun z => z = rc) A A' := by
  obtain ⟨A1, i1, i2, i3, i4⟩ := c_bs93 (E := E) (d := d) (rc := rc) h32 hM h 0 A x.1 x.2 xJ xJ hc (by omega) (fun j _ => h1 j) (fun j => by have := h1 j; omega)
  refine ⟨A1, ?_, i2, i3, i4⟩
  rw [e67_85, if_neg (show ¬ nI h ≤ (0 : Int32) from nI_ge (a := 0) h0 (by omega))]
  exact i1
theorem c_bucketsBySalt {A : xH} (h : ST A a s) (hB : pgs s.1 0 B) (hd : a + 7 ≤ rc ∨ rc < a) (ht : t < 1000) (hk : ∀ b, ∀ e ∈ ents (B b), e.1 < 1000) (hx : CX A rc) : ∃ A', xC E (d + 3) 67 [.ref a, .int (nI t), .ref rc] A = some (some (.int (nI (bySalt t B))), A') ∧ CX A' rc ∧ sm (fun z => z = rc) A A' := by
  obtain ⟨g, hg⟩ := hx
  have m0 : sm (fun z => z = rc) A (A.set rc (ia 64 (fil g 0 64 0))) := sm.set _ rfl
  have hc0 : CR (A.set rc (ia 64 (fil g 0 64 0))) rc (fun _ => 0) := ⟨_, List.getElem?_set_self (List.getElem?_eq_some_iff.mp hg).1, fun j hj => if_pos ⟨by omega, hj⟩⟩
  obtain ⟨k1, k2⟩ := c_bs7 (E := E) (d := d) hB hd ht hk 24 0 _ (fun _ => 0) xJ xJ (h.kp m0 (fun q q1 q2 q3 => by omega)) hc0 (fun _ => by omega) rfl
  rw [k67 _ _ _ _ _ _ h.cls, fill1_ok hg (by omega), xV_s, Option.bind_some]
  unfold bySalt
  cases hp : bsP t (allE B 24 0) (fun _ => 0) with
  | none =>
    obtain ⟨A1, p1, p2, p3⟩ := k2 hp
    exact ⟨A1, p1, p2, m0.trans p3⟩
  | some c =>
    obtain ⟨A1, p1, p2, p3⟩ := k1 c hp
    have hle := bsP_le _ _ _ (fun _ => by omega) hp
    obtain ⟨A2, a1, a2, a3, a4⟩ := c_bs85 (E := E) (d := d + 2) (rc := rc) (h := 32) (M := 3) (x := (c, 1)) (w0 := xJ) (w1 := xJ) (w5 := xJ) (by omega) (by omega) (by omega) p2 hle
    obtain ⟨A3, b1, b2, b3, b4⟩ := c_bs85 (E := E) (d := d + 2) (rc := rc) (h := 16) (M := 6) (w0 := xJ) (w1 := xJ) (w5 := xJ) (by omega) (by omega) (by omega) a2 a3
    obtain ⟨A4, c1, c2, c3, c4⟩ := c_bs85 (E := E) (d := d + 2) (rc := rc) (h := 8) (M := 12) (w0 := xJ) (w1 := xJ) (w5 := xJ) (by omega) (by omega) (by omega) b2 b3
    obtain ⟨A5, d1, d2, d3, d4⟩ := c_bs85 (E := E) (d := d + 2) (rc := rc) (h := 4) (M := 24) (w0 := xJ) (w1 := xJ) (w5 := xJ) (by omega) (by omega) (by omega) c2 c3
    obtain ⟨A6, e1, e2, e3, e4⟩ := c_bs85 (E := E) (d := d + 2) (rc := rc) (h := 2) (M := 48) (w0 := xJ) (w1 := xJ) (w5 := xJ) (by omega) (by omega) (by omega) d2 d3
    obtain ⟨A7, f1, f2, f3, f4⟩ := c_bs85 (E := E) (d := d + 2) (rc := rc) (h := 1) (M := 96) (w0 := xJ) (w1 := xJ) (w5 := xJ) (by omega) (by omega) (by omega) e2 e3
    refine ⟨A7, ?_, f2.x, (((((m0.trans p3).trans a4).trans b4).trans c4).trans d4).trans (e4.trans f4)⟩
    refine p1.trans (a1.trans (b1.trans (c1.trans (d1.trans (e1.trans (f1.trans ?_))))))
    rw [e67_85, if_pos (show nI (1 / 2) ≤ (0 : Int32) by decide)]
    rfl
/-- a store that is opened -/
def opn (S : St) : St := (ub S.1 0 (some (0, 0, ents (S.1 0))), ub S.2.1 0 (some (0, 0, ents (S.2.1 0))), S.2.2)
theorem c_open {A : xH} (h : ST A a s) {B D : Bk} (hB : pgs s.1 0 B) (hD : pgs s.2.1 0 D) : ∃ A' f g, xC E (d + 3) 41 [.ref a] A = some (none, A') ∧ ST A' a (f, g, s.2.2) ∧ pgs f 0 (ub B 0 (some (0, 0, ents (B 0)))) ∧ pgs g 0 (ub D 0 (some (0, 0, ents (D 0)))) ∧ sm (inS a) A A' := by
  obtain ⟨g1, c1, c2⟩ := c_setPlace (E := E) (d := d) (b := 0) (dd := 0) (px := 0) h.2.1 hB (by omega)
  obtain ⟨a1, m1⟩ := h.sF g1
  obtain ⟨g2, c3, c4⟩ := c_setPlace (E := E) (d := d) (b := 0) (dd := 0) (px := 0) a1.2.2.1 hD (by omega)
  obtain ⟨a2, m2⟩ := a1.sG g2
  refine ⟨_, g1, g2, ?_, a2, c2, c4, m1.trans m2⟩
  rw [k41 _ _ _ _ h.cls, h.g0, Option.bind_some, show (0 : Int32) = nI 0 from rfl, c1, xV_s, Option.bind_some, a1.g1, Option.bind_some, c3, xV_s, Option.bind_some]
end HALVES
