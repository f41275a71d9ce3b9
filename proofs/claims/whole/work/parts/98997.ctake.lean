/-! ===== the class: what orders kept is taken over ===== -/
section KINDS
variable {T : Nat → Nat × Nat}
theorem kd_times {x y : PX} {k a b c d : Nat} {l : List Nat} (h : pTimes T x k a b c d = .inr (y, l)) : ∃ l', l = k :: l' := by
  unfold pTimes at h
  split at h
  · split at h
    · cases h; exact ⟨_, rfl⟩
    · cases h
  · cases h; exact ⟨_, rfl⟩
theorem kd_one {x y : PX} {k : Nat} {l : List Nat} (h : pOne T true x k = .inr (y, l)) : ∃ l', l = k :: l' := by
  unfold pOne at h
  cases hs : pSums T true (adv x) with
  | inl f => rw [hs] at h; cases h
  | inr z =>
    rw [hs] at h
    exact kd_times h
theorem kd_order {x y : PX} {l : List Nat} (h : pOrder T true x = .inr (y, l)) : ∃ k l', k ≤ 3 ∧ l = k :: l' := by
  have fin : ∀ k, k ≤ 3 → (∃ l', l = k :: l') → ∃ k l', k ≤ 3 ∧ l = k :: l' := fun k hk ⟨l', e⟩ => ⟨k, l', hk, e⟩
  unfold pOrder at h
  split at h
  · cases hs : pSums T true (adv x) with
    | inl f => rw [hs] at h; cases h
    | inr z =>
      rw [hs] at h
      dsimp only at h
      split at h
      · cases hs2 : pSums T true (adv z) with
        | inl f => rw [hs2] at h; cases h
        | inr w =>
          rw [hs2] at h
          exact fin 0 (by omega) (kd_times h)
      · cases h
  · split at h
    · exact fin 1 (by omega) (kd_one h)
    · split at h
      · exact fin 2 (by omega) (kd_one h)
      · split at h
        · exact fin 3 (by omega) (kd_one h)
        · cases h
theorem kd_clause {x y : PX} {l : List Nat} (h : pClause T true x = .inr (y, l)) : l.getD 0 0 ≤ 3 := by
  unfold pClause at h
  rw [if_pos rfl] at h
  cases ho : pOrder T true x with
  | inl f => rw [ho] at h; cases h
  | inr w =>
    obtain ⟨z, l'⟩ := w
    rw [ho] at h
    dsimp only at h
    obtain ⟨k, l2, hk, rfl⟩ := kd_order ho
    split at h
    · cases hs : pTests T true (adv z) with
      | inl f => rw [hs] at h; cases h
      | inr w =>
        rw [hs] at h
        cases h
        exact hk
    · cases h; exact hk
theorem kd_more : ∀ (c : Nat) (x y : PX) (cs cs' : List (List Nat)), (∀ l ∈ cs, l.getD 0 0 ≤ 3) → pMore T true c x cs = .inr (y, cs') → ∀ l ∈ cs', l.getD 0 0 ≤ 3
  | 0, x, y, cs, cs', hx, h => by
    unfold pMore at h
    split at h
    · cases h
    · cases h; exact hx
  | c + 1, x, y, cs, cs', hx, h => by
    unfold pMore at h
    split at h
    · cases hc : pClause T true (adv x) with
      | inl f => rw [hc] at h; cases h
      | inr w =>
        obtain ⟨z, g⟩ := w
        rw [hc] at h
        refine kd_more c z y _ cs' (fun l hl => ?_) h
        rcases List.mem_append.mp hl with z | z
        · exact hx l z
        · rw [List.mem_singleton.mp z]; exact kd_clause hc
    · cases h; exact hx
theorem kd_text {N : Nat} {y : PX} {cs : List (List Nat)} (h : pText T true N = .inr (y, cs)) : ∀ l ∈ cs, l.getD 0 0 ≤ 3 := by
  unfold pText at h
  cases hc : pClause T true (0, 0, [], []) with
  | inl f => rw [hc] at h; cases h
  | inr w =>
    obtain ⟨z, g⟩ := w
    rw [hc] at h
    dsimp only at h
    cases hm : pMore T true 11 z [g] with
    | inl f => rw [hm] at h; cases h
    | inr w =>
      obtain ⟨z', cs'⟩ := w
      rw [hm] at h
      dsimp only at h
      split at h
      · cases h
      · cases h
        exact kd_more 11 z _ _ _ (fun l hl => by rw [List.mem_singleton.mp hl]; exact kd_clause hc) hm
end KINDS
theorem aOrders_R {X : Xs} (hX : XI X) : XI (aOrders X).2 := by
  unfold aOrders
  cases hp : pText (tok X.2.2.2.1.1 X.2.2.2.1.2) true (tkN X.2.2.2.1.1 X.2.2.2.1.2) with
  | inl t => exact hX.tp (by omega)
  | inr w =>
    obtain ⟨y, cs⟩ := w
    dsimp only
    have h3 := kd_text hp
    have h20 := text_ok (wd := fun _ => 0) (nw := 56) hX.2.2.2.2.1 ⟨rfl, fun j => by dsimp only; omega⟩ hp
    have h12 : cs.length ≤ 12 := text_len hp
    cases ho : oAll y.2.2.1 y.2.2.2 0 cs (Xor X, 0, none) with
    | inl i =>
      have hx : XI (Xor X) := Xor_XI hX
      exact hx
    | inr Z =>
      have := oAll_R cs 0 (Xor X, 0, none) Z (fun l hl => ⟨h3 l hl, (h20 l hl).2.2.2.2.2.1⟩) ⟨Xor_XI hX, by show (0 : Nat) ≤ 1000; omega, fun n hn => by cases hn⟩ (by show 0 + 20 * cs.length ≤ 1000; omega) ho
      exact this.1
/-! orders leave all but the store and what can be undone -/
theorem bX_same {X : Xs} {k : Nat} {x y : Int32} : (bX X k x y).2.1.2 = X.1.2 ∧ (bX X k x y).2.2.2 = X.2.2 := by
  unfold bX
  dsimp only
  split <;> exact ⟨rfl, rfl⟩
theorem oAct_same {X : Xs} {k : Nat} {v w : Int} : (oAct k v w X).2.1.2 = X.1.2 ∧ (oAct k v w X).2.2.2 = X.2.2 := by
  unfold oAct
  split
  · unfold aDrop; split
    · exact ⟨rfl, rfl⟩
    · split <;> exact ⟨rfl, rfl⟩
  · split
    · unfold aFlush; split
      · exact ⟨rfl, rfl⟩
      · split <;> exact ⟨rfl, rfl⟩
    · split
      · unfold aCrash; split
        · exact ⟨rfl, rfl⟩
        · split <;> exact ⟨rfl, rfl⟩
      · unfold aPut; split
        · exact ⟨rfl, rfl⟩
        · split <;> exact ⟨rfl, rfl⟩
theorem oStep_same {F : List (Nat × Nat)} {ask l : List Nat} {Z Z' : OS} (h : oStep F ask l Z = some Z') : Z'.1.1.2 = Z.1.1.2 ∧ Z'.1.2.2 = Z.1.2.2 := by
  unfold oStep at h
  split at h
  · split at h
    · cases h
    · split at h
      · cases h
      · cases h
        exact oAct_same
  · cases h; exact ⟨rfl, rfl⟩
theorem oRep_same {F : List (Nat × Nat)} {ask l : List Nat} : ∀ (n : Nat) (Z Z' : OS), oRep F ask l n Z = some Z' → Z'.1.1.2 = Z.1.1.2 ∧ Z'.1.2.2 = Z.1.2.2
  | 0, Z, Z', h => by cases h; exact ⟨rfl, rfl⟩
  | n + 1, Z, Z', h => by
    unfold oRep at h
    cases hs : oStep F ask l Z with
    | none => rw [hs] at h; cases h
    | some Z1 =>
      rw [hs] at h
      obtain ⟨a, b⟩ := oStep_same hs
      obtain ⟨a2, b2⟩ := oRep_same n Z1 Z' h
      exact ⟨a2.trans a, b2.trans b⟩
section CTAKE
variable {E : Nat × (Nat → Int32)} {d : Nat} {A A' : xH} {X : Xs} {L Lo : List (St × Nat)} {I : Nat → Option Kp} {n : NM} {pl : Nat → Option Nat}
theorem DP.fr (g : DP A pl) (h2 : ∀ q, 35 ≤ q → A'[q]? = A[q]?) : DP A' pl := ⟨g.1, fun i p hi hp => by
  obtain ⟨x, y⟩ := g.2 i p hi hp
  exact ⟨x, y.eq (fun q q1 _ => h2 q (by omega))⟩⟩
theorem IMC.fr (g : IMC A pl I) (h2 : ∀ q, 35 ≤ q → A'[q]? = A[q]?) : IMC A' pl I := by
  obtain ⟨k, k1, k2⟩ := g
  refine ⟨k, (h2 35 (by omega)).trans k1, fun j hj => ⟨(k2 j hj).1, fun K hK => ?_⟩⟩
  obtain ⟨p, p1, p2, p3, p4, p5⟩ := (k2 j hj).2 K hK
  exact ⟨p, p1, p2, p3, (h2 p (by omega)).trans p4, p5.eq (fun q q1 _ => h2 q (by omega)) (fun q q1 _ => h2 q (by omega)) (fun q q1 _ => h2 q (by omega)) (fun q q1 _ => h2 q (by omega))⟩
theorem RM.fr (g : RM A pl n) (hl : A'.length = A.length) (h2 : ∀ q, 35 ≤ q → A'[q]? = A[q]?) : RM A' pl n := ⟨by rw [hl]; exact g.1, fun q c hq hc => g.2.1 q c hq (by rw [← h2 q (by omega)]; exact hc), fun q q1 q2 => (h2 q (by omega)).trans (g.2.2 q q1 q2)⟩
theorem c_to2 (hlo : Lo.length ≤ 16) : ∀ (c i : Nat) (A : xH) (pl : Nat → Option Nat) (L : List (St × Nat)), i + c = Lo.length → CV A X → DP A pl → HS A 29 0 pl L → (∃ k f, HR A 32 (oV (pl 33)) Lo.length k f ∧ (∀ j, j < 16 → k j = pl (17 + j)) ∧ ∀ j q, Lo[j]? = some q → f j = nI q.2) → (∀ j q, i ≤ j → Lo[j]? = some q → ∃ p, pl (17 + j) = some p ∧ SC A p q.1) → IMC A pl I → RM A pl n → ∃ A' pl', xD E (d + 2) 5 2 [.ref 29, .ref 32, .int (nI i)] [] A = some (none, A') ∧ CV A' X ∧ HP A' pl' ((Lo.drop i).foldl kph L) [] I n ∧ ∀ q, q < 29 ∨ 35 ≤ q → A'[q]? = A[q]?
  | 0, i, A, pl, L, hi, hq, hD, hH, hO, hrow, hI, hR => by
    have hi' : i = Lo.length := by omega
    subst hi'
    obtain ⟨k, f, g, gk, gf⟩ := hO
    obtain ⟨A1, a1, a2, a3⟩ := g.many 0
    have kp : ∀ q, q ≠ 32 → q ≠ 33 → q ≠ 34 → A1[q]? = A[q]? := fun q q1 q2 q3 => a3.2 q (by omega)
    refine ⟨A1, pl, ?_, hq.hF (Or.inr rfl) a3, ⟨hD.fr (fun q q1 => kp q (by omega) (by omega) (by omega)), ?_, ⟨a2.1, ⟨k, a2.2.1, gk⟩, ⟨f, a2.2.2, fun i q hq => by cases hq⟩, Nat.zero_le _, fun i q hq => by cases hq⟩, hI.fr (fun q q1 => kp q (by omega) (by omega) (by omega)), hR.fr a3.1 (fun q q1 => kp q (by omega) (by omega) (by omega))⟩, fun q hq => kp q (by omega) (by omega) (by omega)⟩
    · rw [e5_2, h_gI g.1 rfl, Option.bind_some, if_pos (Int32.le_refl _)]
      rw [show pF A 32 0 3 (.int (0 : Int32)) = some A1 from a1, Option.bind_some]
    · rw [List.drop_length]
      exact hH.eq (by omega) hD (fun q q1 q2 => kp q (by omega) (by omega) (by omega)) (fun q q1 _ => kp q (by omega) (by omega) (by omega))
  | c + 1, i, A, pl, L, hi, hq, hD, hH, hO, hrow, hI, hR => by
    obtain ⟨k, f, g, gk, gf⟩ := hO
    have hiL : i < Lo.length := by omega
    have hq0 : Lo[i]? = some Lo[i] := List.getElem?_eq_getElem hiL
    obtain ⟨p, p1, p2⟩ := hrow i Lo[i] (Nat.le_refl _) hq0
    obtain ⟨k9, f9, g9, m1, m2, m3⟩ := hH.hr
    have sx : ∀ j q, j < 16 → k9 j = some q → 69 ≤ q ∧ SX A q := fun j q hj hq => hD.2 (0 + j) q (by omega) (by rw [← m1 j hj]; exact hq)
    have hp69 := hD.2 (17 + i) p (by omega) p1
    obtain ⟨A1, k2, f2, c1, c2, c3, c4, c5⟩ := c_keep (E := E) (d := d) (p := p) (x := nI Lo[i].2) g9 m3 (fun e j hj => by
      obtain ⟨p', p1, -⟩ := hH.2.2.2.2 j L[j] (List.getElem?_eq_getElem (by omega))
      exact ⟨p', by rw [m1 j hj]; exact p1⟩) (fun j q hj hq => by have := (sx j q hj hq).1; omega) (fun j hj => by
      cases hk : k9 j with
      | none => rfl
      | some q => exact (sx j q hj hk).2.ok) hp69.2.ok (by omega)
    have hfr : k9 (if L.length = 16 then 0 else L.length) = pl (sgm 0 (17 + i) L.length (17 + i)) := by
      unfold sgm
      by_cases e : L.length = 16
      · rw [if_pos e, if_pos e, if_pos rfl, m1 0 (by omega)]
      · rw [if_neg e, if_neg e, if_neg (by omega), if_pos rfl, m1 _ (by omega)]
    have hk := hH.kept (A' := A1) (Or.inl ⟨rfl, rfl⟩) hD (j0 := 17 + i) (kd := Lo[i].2) (by omega) (by omega) p1 p2 (k2 := k2) (f2 := f2) (fun j hj => by
      rw [c4 j hj]
      by_cases e : L.length = 16
      · rw [if_pos e, if_pos e]
        by_cases z : j = 15
        · rw [if_pos z, if_pos z]
        · rw [if_neg z, if_neg z, m1 _ (by omega)]
      · rw [if_neg e, if_neg e]
        by_cases z : j = L.length
        · rw [if_pos z, if_pos z]
        · rw [if_neg z, if_neg z, m1 _ hj]) m2 c5 (by rw [sgm_no (by omega) (by omega) m3]; exact c2) (fun q hq => c3.2 q (by omega))
    obtain ⟨d1, d2, d3⟩ := HP.mv (b := 0) (j0 := 17 + i) (m := L.length) hD hI hR (Or.inl rfl) c3 (by omega) (by omega) (by omega) m3
    have g1 : HR A1 32 (oV (pl 33)) Lo.length k f := ⟨(c3.2 32 (by omega)).trans g.1, (c3.2 33 (by omega)).trans g.2.1, (c3.2 34 (by omega)).trans g.2.2⟩
    have hel : xelok A1 5 (pl (sgm 0 (17 + i) L.length (17 + i))) = true := by
      cases hz : pl (sgm 0 (17 + i) L.length (17 + i)) with
      | none => rfl
      | some r => exact (d1.2 (17 + i) r (by omega) hz).2.ok
    obtain ⟨A2, s1, s2, s3⟩ := g1.row (i := i) (o := pl (sgm 0 (17 + i) L.length (17 + i))) (by omega) hel
    have kp2 : ∀ q, q < 32 ∨ 35 ≤ q → A2[q]? = A1[q]? := fun q hq => s3.2 q (by omega)
    have hko : ∀ j, j < 16 → va_up k i (pl (sgm 0 (17 + i) L.length (17 + i))) j = pl (sgm 0 (17 + i) L.length (17 + j)) := fun j hj => by
      by_cases e : j = i
      · rw [e, vu_s]
      · rw [vu_n e, gk j hj, sgm_no (by omega) (by omega) m3]
    obtain ⟨A3, pl3, x1, x2, x3, x4⟩ := c_to2 hlo c (i + 1) A2 (fun j => pl (sgm 0 (17 + i) L.length j)) (kph L Lo[i]) (by omega) ((hq.hF (Or.inl rfl) c3).hF (Or.inr rfl) s3) (d1.fr (fun q q1 => kp2 q (by omega))) (hk.eq (by omega) d1 (fun q q1 q2 => kp2 q (by omega)) (fun q q1 _ => kp2 q (by omega))) ⟨_, f, (by rw [sgm_no (by omega) (by omega) m3]; exact s2), hko, gf⟩ (fun j q hj hq => by
      obtain ⟨p', z1, z2⟩ := hrow j q (by omega) hq
      have hjl := (List.getElem?_eq_some_iff.mp hq).1
      have h69 := (hD.2 (17 + j) p' (by omega) z1).1
      refine ⟨p', ?_, z2.eq (fun q q1 q2 => (kp2 q (by omega)).trans (c3.2 q (by omega)))⟩
      rw [sgm_no (by omega) (by omega) m3]; exact z1) (d2.fr (fun q q1 => kp2 q (by omega))) (d3.fr s3.1 (fun q q1 => kp2 q (by omega)))
    refine ⟨A3, pl3, ?_, x2, ?_, fun q hq => (x4 q hq).trans ((kp2 q (by omega)).trans (c3.2 q (by omega)))⟩
    · have ki : k i = some p := by rw [gk i (by omega)]; exact p1
      rw [e5_2, h_gI g.1 rfl, Option.bind_some, if_neg (nI_ge hiL (by omega)), h_gN g.1 rfl, Option.bind_some, Option.bind_some, h_aR g.2.1 (by omega) (by omega), Option.bind_some, ki]
      dsimp only
      rw [h_gN g.1 rfl, Option.bind_some, h_aI g.2.2 (by omega) (by omega), Option.bind_some, gf i _ hq0, c1, hfr]
      cases hz : pl (sgm 0 (17 + i) L.length (17 + i)) with
      | none =>
        rw [hz] at s1
        rw [show xOp (some (some (oV none), A1)) = some (none, A1) from rfl, Option.bind_some]
        dsimp only
        rw [s1, Option.bind_some, nI_1]; exact x1
      | some r =>
        rw [hz] at s1
        rw [show xOp (some (some (oV (some r)), A1)) = some (some r, A1) from rfl, Option.bind_some]
        dsimp only
        rw [s1, Option.bind_some, nI_1]; exact x1
    · rw [List.drop_eq_getElem_cons hiL]; exact x3
end CTAKE
