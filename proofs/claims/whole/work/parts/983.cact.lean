/-! ===== the class: put, drop, flush, crash, undo ===== -/
section CACT
variable {E : Nat × (Nat → Int32)} {d : Nat} {A A' : xH} {X : Xs} {L Lo : List (St × Nat)} {I : Nat → Option Kp} {n : NM} {pl : Nat → Option Nat} {h b : Nat}
theorem HS.re {pl' : Nat → Option Nat} {L' : List (St × Nat)} (g : HS A h b pl L') (h1 : ∀ i, i ≤ 16 → pl' (b + i) = pl (b + i)) : HS A h b pl' L' := by
  obtain ⟨a, ⟨k, b1, b2⟩, c, e, f⟩ := g
  refine ⟨by rw [h1 16 (by omega)]; exact a, ⟨k, b1, fun i hi => by rw [h1 i (by omega)]; exact b2 i hi⟩, c, e, fun i q hq => ?_⟩
  have hi := (List.getElem?_eq_some_iff.mp hq).1
  obtain ⟨p, p1, p2⟩ := f i q hq
  exact ⟨p, by rw [h1 i (by omega)]; exact p1, p2⟩
theorem hF.kp (g : hF h A A') (hh : h = 29 ∨ h = 32) {q : Nat} (hq : q < 29 ∨ 35 ≤ q) : A'[q]? = A[q]? := g.2 q (by omega)
theorem CV.hF (g : CV A X) (hh : h = 29 ∨ h = 32) (hs : hF h A A') : CV A' X := g.gr (by rw [hs.1]; exact Nat.le_refl _) (fun q _ q2 => hs.2 q (by omega))
/-- places, images, room, once rows have been moved -/
theorem HP.mv (hD : DP A pl) (hI : IMC A pl I) (hR : RM A pl n) (hh : h = 29 ∨ h = 32) (hs : hF h A A') {j0 m : Nat} (hb : b + 16 ≤ 34) (hj : j0 < 34) (hj2 : j0 < b ∨ b + 16 ≤ j0) (hm : m ≤ 16) : DP A' (fun i => pl (sgm b j0 m i)) ∧ IMC A' (fun i => pl (sgm b j0 m i)) I ∧ RM A' (fun i => pl (sgm b j0 m i)) n := by
  have kp : ∀ q, q < 29 ∨ 35 ≤ q → A'[q]? = A[q]? := fun q hq => hs.kp hh hq
  have s34 : sgm b j0 m 34 = 34 := sgm_no (by omega) (by omega) hm
  have s35 : sgm b j0 m 35 = 35 := sgm_no (by omega) (by omega) hm
  refine ⟨⟨fun i j p hi hj' hi2 hj3 => sgm_inj hj2 hm (hD.1 _ _ p (sgm_lt hb hj hm hi) (sgm_lt hb hj hm hj') hi2 hj3), fun i p hi hp => ?_⟩, ?_, ?_⟩
  · obtain ⟨x, y⟩ := hD.2 _ p (sgm_lt hb hj hm hi) hp
    exact ⟨x, y.eq (fun q q1 _ => kp q (by omega))⟩
  · obtain ⟨k, k1, k2⟩ := hI
    refine ⟨k, (kp 35 (by omega)).trans k1, fun j hj' => ?_⟩
    have sj : sgm b j0 m (34 + j) = 34 + j := sgm_no (by omega) (by omega) hm
    dsimp only
    rw [sj]
    refine ⟨(k2 j hj').1, fun K hK => ?_⟩
    obtain ⟨p, p1, p2, p3, p4, p5⟩ := (k2 j hj').2 K hK
    exact ⟨p, p1, p2, p3, (kp p (by omega)).trans p4, p5.eq (fun q q1 _ => kp q (by omega)) (fun q q1 _ => kp q (by omega)) (fun q q1 _ => kp q (by omega)) (fun q q1 _ => kp q (by omega))⟩
  · obtain ⟨r1, r2, r3⟩ := hR
    refine ⟨?_, fun q c hq hc => r2 q c hq (by rw [← kp q (by omega)]; exact hc), fun q q1 q2 => (kp q (by omega)).trans (r3 q q1 q2)⟩
    have := sgm_cnt (F := fun i => sO (pl i)) hb hj hj2 hm
    dsimp only
    rw [hs.1, r1, s34, s35]
    omega
theorem HS.hr {L' : List (St × Nat)} (g : HS A h b pl L') : ∃ k f, HR A h (oV (pl (b + 16))) L'.length k f ∧ (∀ i, i < 16 → k i = pl (b + i)) ∧ (∀ i q, L'[i]? = some q → f i = nI q.2) ∧ L'.length ≤ 16 := by
  obtain ⟨a, ⟨k, b1, b2⟩, ⟨f, c1, c2⟩, e, -⟩ := g
  exact ⟨k, f, ⟨a, b1, c1⟩, b2, c2, e⟩
theorem c_comm (hb : hb2 h b) {L' : List (St × Nat)} (hh : HS A h b pl L') (hD : DP A pl) {p kd : Nat} {S : St} (hpl : pl (b + 16) = some p) (hsc : SC A p S) : ∃ A', xC E (d + 2) 3 [.ref h, .int (nI kd)] A = some (none, A') ∧ hF h A A' ∧ HS A' h b (fun i => pl (sgm b (b + 16) L'.length i)) (kph L' (S, kd)) := by
  have hb' := id hb
  unfold hb2 at hb'
  obtain ⟨k, f, g, g1, g2, g3⟩ := hh.hr
  have sx : ∀ j q, j < 16 → k j = some q → 69 ≤ q ∧ SX A q := fun j q hj hq => hD.2 (b + j) q (by omega) (by rw [← g1 j hj]; exact hq)
  have hp69 := hD.2 (b + 16) p (by omega) hpl
  obtain ⟨A1, k2, f2, c1, c2, c3, c4, c5⟩ := c_keep (E := E) (d := d) (p := p) (x := nI kd) g g3 (fun e j hj => by
    obtain ⟨p', p1, -⟩ := hh.2.2.2.2 j L'[j] (List.getElem?_eq_getElem (by omega))
    exact ⟨p', by rw [g1 j hj]; exact p1⟩) (fun j q hj hq => by have := (sx j q hj hq).1; omega) (fun j hj => by
    cases hk : k j with
    | none => rfl
    | some q => exact (sx j q hj hk).2.ok) hp69.2.ok (by omega)
  obtain ⟨A2, s1, s2, s3⟩ := c2.spare (oV (pl (sgm b (b + 16) L'.length (b + 16))))
  have hfr : k (if L'.length = 16 then 0 else L'.length) = pl (sgm b (b + 16) L'.length (b + 16)) := by
    unfold sgm
    by_cases e : L'.length = 16
    · rw [if_pos e, if_pos e, if_pos rfl, g1 0 (by omega)]; rfl
    · rw [if_neg e, if_neg e, if_neg (by omega), if_pos rfl, g1 _ (by omega)]
  have hs := sm.trans c3 s3
  refine ⟨A2, ?_, hs, hh.kept hb hD (by omega) (by omega) hpl hsc (fun j hj => ?_) g2 c5 s2 (fun q hq => hs.2 q (by omega))⟩
  · have g0 := g.1
    rw [hpl] at g0
    rw [k3 _ _ _ _ _ (h_cls g.1), h_gOs g0 rfl, Option.bind_some]
    dsimp only
    rw [c1, hfr]
    cases hz : pl (sgm b (b + 16) L'.length (b + 16)) with
    | none =>
      rw [hz] at s1
      rw [show xOp (some (some (oV none), A1)) = some (none, A1) from rfl, Option.bind_some]
      dsimp only
      rw [show pF A1 h 0 2 .null = _ from s1, Option.bind_some]
    | some r =>
      rw [hz] at s1
      rw [show xOp (some (some (oV (some r)), A1)) = some (some r, A1) from rfl, Option.bind_some]
      dsimp only
      rw [show pF A1 h 0 2 (.ref r) = _ from s1, Option.bind_some]
  · rw [c4 j hj]
    by_cases e : L'.length = 16
    · rw [if_pos e, if_pos e]
      by_cases z : j = 15
      · rw [if_pos z, if_pos z]
      · rw [if_neg z, if_neg z, g1 _ (by omega)]
    · rw [if_neg e, if_neg e]
      by_cases z : j = L'.length
      · rw [if_pos z, if_pos z]
      · rw [if_neg z, if_neg z, g1 _ hj]
/-- an act on the store is kept in the history -/
theorem c_commit29 (hq : CV A X) (hp : HP A pl L Lo I n) {p kd : Nat} {S : St} (hpl : pl 16 = some p) (hsc : SC A p S) : ∃ A' pl', xC E (d + 2) 3 [.ref 29, .int (nI kd)] A = some (none, A') ∧ CV A' X ∧ HP A' pl' (kph L (S, kd)) Lo I n := by
  obtain ⟨hD, h1, h2, h3, h4⟩ := hp
  have hl := h1.2.2.2.1
  obtain ⟨A', c1, c2, c3⟩ := c_comm (E := E) (d := d) (h := 29) (b := 0) (kd := kd) (Or.inl ⟨rfl, rfl⟩) h1 hD hpl hsc
  obtain ⟨m1, m2, m3⟩ := HP.mv (b := 0) (j0 := 0 + 16) (m := L.length) hD h3 h4 (Or.inl rfl) c2 (by omega) (by omega) (by omega) hl
  exact ⟨A', _, c1, hq.hF (Or.inl rfl) c2, m1, c3, (h2.eq (by omega) hD (fun q q1 q2 => c2.2 q (by omega)) (fun q q1 _ => c2.kp (Or.inl rfl) (by omega))).re (fun i hi => by rw [sgm_no (by omega) (by omega) hl]), m2, m3⟩
theorem c_commit32 (hq : CV A X) (hp : HP A pl L Lo I n) {p kd : Nat} {S : St} (hpl : pl 33 = some p) (hsc : SC A p S) : ∃ A' pl', xC E (d + 2) 3 [.ref 32, .int (nI kd)] A = some (none, A') ∧ CV A' X ∧ HP A' pl' L (kph Lo (S, kd)) I n ∧ fro A A' := by
  obtain ⟨hD, h1, h2, h3, h4⟩ := hp
  have hl := h2.2.2.2.1
  obtain ⟨A', c1, c2, c3⟩ := c_comm (E := E) (d := d) (h := 32) (b := 17) (kd := kd) (Or.inr ⟨rfl, rfl⟩) h2 hD hpl hsc
  obtain ⟨m1, m2, m3⟩ := HP.mv (b := 17) (j0 := 17 + 16) (m := Lo.length) hD h3 h4 (Or.inr rfl) c2 (by omega) (by omega) (by omega) hl
  exact ⟨A', _, c1, hq.hF (Or.inr rfl) c2, ⟨m1, (h1.eq (by omega) hD (fun q q1 q2 => c2.2 q (by omega)) (fun q q1 _ => c2.kp (Or.inr rfl) (by omega))).re (fun i hi => by rw [sgm_no (by omega) (by omega) hl]), c3, m2, m3⟩, fun q hq => c2.2 q (by omega)⟩
end CACT
