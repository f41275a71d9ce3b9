/-! ===== law: one call of both ===== -/
theorem CIo.ref {A : xH} {X : Xs} {Lo : List (St × Nat)} {n : NM} (h : CIo A X Lo n) (fl : Nat → Int32) (ar : Nat → Nat → Int32) (al : Nat → Nat → Int64) : CIo (mw A fl ar al) X Lo (n.1, fun q => (mw A fl ar al)[q]?) := by
  have h69 := h.1
  have kp : ∀ q, (q < 48 ∨ 69 ≤ q) → (mw A fl ar al)[q]? = A[q]? := fun q hq => m_out h69 hq
  have hl : (mw A fl ar al).length = A.length := m_len h69
  obtain ⟨a, b, c, ⟨pl, hD, hS, hO, ⟨k, c1, c2⟩, e1, e2, e3⟩, f, ⟨⟨g1, g2, g3⟩, i1, i2, i3⟩, j⟩ := h
  refine ⟨by rw [hl]; exact a, (kp 0 (by omega)).trans b, c.eq (fun q q1 q2 => kp q (by omega)) (fun q q1 q2 => kp q (by omega)) (fun q q1 q2 => kp q (by omega)) (fun q q1 q2 => kp q (by omega)), ⟨pl, ⟨hD.1, fun i p hi hp => ?_⟩, hS.eq (by omega) hD (fun q q1 q2 => kp q (by omega)) (fun q q1 q2 => kp q (by omega)), hO.eq (by omega) hD (fun q q1 q2 => kp q (by omega)) (fun q q1 q2 => kp q (by omega)), ⟨k, (kp 35 (by omega)).trans c1, fun j hj => ⟨(c2 j hj).1, fun K hK => ?_⟩⟩, by rw [hl]; exact e1, fun q c hq hc => e2 q c hq (by rw [← kp q (by omega)]; exact hc), fun q q1 q2 => rfl⟩, f.eq (fun q q1 q2 => kp q (by omega)), ⟨⟨g1, (kp 44 (by omega)).trans g2, g3⟩, i1, (kp 45 (by omega)).trans i2, i3⟩, j.eq (fun q q1 q2 => kp q (by omega)) (fun q q1 => kp q (by omega))⟩
  · obtain ⟨x, y⟩ := hD.2 i p hi hp
    exact ⟨x, y.eq (fun q q1 _ => kp q (by omega))⟩
  · obtain ⟨p, p1, p2, p3, p4, p5⟩ := (c2 j hj).2 K hK
    exact ⟨p, p1, p2, p3, (kp p (by omega)).trans p4, p5.eq (fun q q1 _ => kp q (by omega)) (fun q q1 _ => kp q (by omega)) (fun q q1 _ => kp q (by omega)) (fun q q1 _ => kp q (by omega))⟩
/-- between two calls: both hold one state -/
def LI (A : xH) (X : Xs) (m : Nat) : Prop := XI X ∧ ∃ Lo n fl ar al, CIo A X Lo n ∧ n.1 ≤ m ∧ mw A fl ar al = A ∧ MI fl ar X
theorem LI.up {A : xH} {X : Xs} {m m' : Nat} (h : LI A X m) (hm : m ≤ m') : LI A X m' := by
  obtain ⟨a, Lo, n, fl, ar, al, b, c, e⟩ := h
  exact ⟨a, Lo, n, fl, ar, al, b, by omega, e⟩
theorem mw_in {A : xH} {fl : Nat → Int32} {ar : Nat → Nat → Int32} {al : Nat → Nat → Int64} (hA : 69 ≤ A.length) : ∀ j, j < 21 → (mw A fl ar al)[48 + j]? = (mcs fl ar al)[j]? := fun j hj => wr_in (show 48 + 21 ≤ A.length by omega) (show j < 21 from hj)
section STEP
variable {E : Nat × (Nat → Int32)} {A : xH} {X X' : Xs} {m cm rm : Nat} {v : Value} {ca ra : List Value}
theorem LI.go (h : LI A X m) (hX' : XI X') (hc : XI X → ∀ Lo n, CIo A X Lo n → ∃ A' Lo' k, xC E 59 cm (.ref 0 :: ca) A = some (some v, A') ∧ CIo A' X' Lo' (k, n.2) ∧ k ≤ n.1 + 1) (hr : XI X → ∀ A' fl ar al, 69 ≤ A'.length → MI fl ar X → ∃ fl' ar' al', xC E 59 rm (.ref 48 :: ra) (mw A' fl ar al) = some (some v, mw A' fl' ar' al') ∧ MI fl' ar' X') : ∃ A1 A2, xC E 59 cm (.ref 0 :: ca) A = some (some v, A1) ∧ xC E 59 rm (.ref 48 :: ra) A1 = some (some v, A2) ∧ LI A2 X' (m + 1) := by
  obtain ⟨hX, Lo, n, fl, ar, al, hC, hm, hs, hM⟩ := h
  obtain ⟨A1, Lo', k, c1, c2, c3⟩ := hc hX Lo n hC
  have h69 := hC.1
  have h1 := c2.1
  have cells : ∀ q, 48 ≤ q → q < 69 → A1[q]? = A[q]? := fun q q1 q2 => by
    obtain ⟨pl, hp⟩ := c2.2.2.2.1
    obtain ⟨pl0, hp0⟩ := hC.2.2.2.1
    rw [hp.2.2.2.2.2.2 q q1 q2, hp0.2.2.2.2.2.2 q q1 q2]
  have hs1 : mw A1 fl ar al = A1 := m_self h1 (fun j hj => by
    rw [cells (48 + j) (by omega) (by omega), ← hs]; exact mw_in (by omega) j hj)
  obtain ⟨fl', ar', al', r1, r2⟩ := hr hX A1 fl ar al h1 hM
  rw [hs1] at r1
  refine ⟨A1, _, c1, r1, hX', Lo', _, fl', ar', al', c2.ref fl' ar' al', by show k ≤ m + 1; omega, ?_, r2⟩
  exact m_self (by rw [m_len h1]; exact h1) (fun j hj => mw_in h1 j hj)
/-- the script's int is there -/
theorem ldj {i j : Nat} {x : Int32} (hx : x = nI j) (hj : i + j < E.1) (hE : E.1 ≤ 3072) : ¬ (nI i + x < 0 ∨ E.1 ≤ (nI i + x).toNatClampNeg) := by
  rw [hx, nI_add, nI_clamp (by omega)]
  intro z
  rcases z with z | z
  · exact nI_pos (by omega) z
  · omega
end STEP
