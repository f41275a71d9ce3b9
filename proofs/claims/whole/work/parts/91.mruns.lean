/-! ===== orders are obeyed ===== -/
def smZ (v : Int) : Int32 := if v < 0 ∨ 1000000 < v then -1 else tI v
noncomputable def oAct (k : Nat) (v w : Int) (X : Xs) : Int32 × Xs := if k = 1 then aDrop X (smZ v) else if k = 2 then aFlush X (smZ v) else if k = 3 then aCrash X (smZ v) else aPut X (smZ v) (smZ w)
noncomputable def oStep (F : List (Nat × Nat)) (ask l : List Nat) (Z : OS) : Option OS := if cT F (oWd Z ask) 56 l = some 1 then (if cS F (oWd Z ask) 56 l = none ∨ cU F (oWd Z ask) 56 l = none then none else if (oAct (l.getD 0 0) ((cS F (oWd Z ask) 56 l).getD 0) ((cU F (oWd Z ask) 56 l).getD 0) Z.1).1 < 0 then none else some ((oAct (l.getD 0 0) ((cS F (oWd Z ask) 56 l).getD 0) ((cU F (oWd Z ask) 56 l).getD 0) Z.1).2, Z.2.1 + 1, if l.getD 0 0 = 0 then some (oAct (l.getD 0 0) ((cS F (oWd Z ask) 56 l).getD 0) ((cU F (oWd Z ask) 56 l).getD 0) Z.1).1.toNatClampNeg else Z.2.2)) else some Z
noncomputable def oRep (F : List (Nat × Nat)) (ask l : List Nat) : Nat → OS → Option OS
  | 0, Z => some Z
  | n + 1, Z => (oStep F ask l Z).bind (oRep F ask l n)
/-- the orders one after another: which one failed, or what comes out -/
noncomputable def oAll (F : List (Nat × Nat)) (ask : List Nat) : Nat → List (List Nat) → OS → Nat ⊕ OS
  | _, [], Z => .inr Z
  | i, l :: r, Z => match oRep F ask l (l.getD 1 0) Z with
    | none => .inl i
    | some Z' => oAll F ask (i + 1) r Z'
theorem oAct_R {k : Nat} {v w : Int} {X : Xs} (hX : XI X) : actR (oAct k v w X).1 ∧ XI (oAct k v w X).2 := by
  unfold oAct
  split
  · exact aDrop_R hX
  · split
    · exact aFlush_R hX
    · split
      · exact aCrash_R hX
      · exact aPut_R hX
theorem aPut_le {X : Xs} (hX : XI X) {x y : Int32} : (aPut X x y).1 < 0 ∨ ∃ n, n ≤ 6 ∧ (aPut X x y).1 = nI n := by
  have hok := hX.1.1.1.1
  unfold aPut
  split
  · exact Or.inl (show (-1 : Int32) < 0 by decide)
  · split
    · rename_i h; exact Or.inl h
    · refine Or.inr ?_
      rename_i h
      dsimp only
      unfold putS at h ⊢
      generalize x.toNatClampNeg = k at *
      cases hi : kIdx (ents (X.1.1.1 (own X.1.1.1 (hsh X.1.2.1.2.2.2 k % 64)))) k with
      | some i => exact ⟨0, by omega, rfl⟩
      | none =>
        rw [hi] at h
        dsimp only at h ⊢
        by_cases br : brR X.1.2.1 X.1.1.1 X.1.1.2.2.2.2 k = true
        · rw [if_pos br] at h; exact absurd (show (-3 : Int32) < 0 by decide) h
        · rw [if_neg br] at h ⊢
          cases hn : ndS X.1.2.1.2.2.2 X.1.1.1 (own X.1.1.1 (hsh X.1.2.1.2.2.2 k % 64)) (hsh X.1.2.1.2.2.2 k) with
          | none => rw [hn] at h; exact absurd (show (-5 : Int32) < 0 by decide) h
          | some n =>
            have := (room_of hok hn).2.1
            exact ⟨n, by omega, rfl⟩
theorem oStep_R {F : List (Nat × Nat)} {ask l : List Nat} {Z Z' : OS} (hZ : OI Z) (h3 : l.getD 0 0 ≤ 3) (hd : Z.2.1 + 1 ≤ 1000) (h : oStep F ask l Z = some Z') : OI Z' ∧ Z'.2.1 ≤ Z.2.1 + 1 := by
  unfold oStep at h
  split at h
  · split at h
    · cases h
    · split at h
      · cases h
      · rename_i hr
        cases h
        refine ⟨⟨(oAct_R hZ.1).2, hd, fun n hn => ?_⟩, Nat.le_refl _⟩
        dsimp only at hn
        split at hn
        · rename_i h0
          cases hn
          rw [h0] at hr ⊢
          unfold oAct at hr ⊢
          rw [if_neg (by omega), if_neg (by omega), if_neg (by omega)] at hr ⊢
          rcases aPut_le hZ.1 (x := smZ ((cS F (oWd Z ask) 56 l).getD 0)) (y := smZ ((cU F (oWd Z ask) 56 l).getD 0)) with q | ⟨n, hn, q⟩
          · exact absurd q hr
          · rw [q, nI_clamp (by omega)]; omega
        · exact hZ.2.2 n hn
  · cases h; exact ⟨hZ, Nat.le_succ _⟩
theorem oRep_R {F : List (Nat × Nat)} {ask l : List Nat} (h3 : l.getD 0 0 ≤ 3) : ∀ (n : Nat) (Z Z' : OS), OI Z → Z.2.1 + n ≤ 1000 → oRep F ask l n Z = some Z' → OI Z' ∧ Z'.2.1 ≤ Z.2.1 + n
  | 0, Z, Z', hZ, hd, h => by cases h; exact ⟨hZ, Nat.le_refl _⟩
  | n + 1, Z, Z', hZ, hd, h => by
    unfold oRep at h
    cases hs : oStep F ask l Z with
    | none => rw [hs] at h; cases h
    | some Z1 =>
      rw [hs] at h
      obtain ⟨a, b⟩ := oStep_R hZ h3 (by omega) hs
      obtain ⟨a2, b2⟩ := oRep_R h3 n Z1 Z' a (by omega) h
      exact ⟨a2, by omega⟩
/-- what orders change in the reference -/
def OF (fl : Nat → Int32) (ar : Nat → Nat → Int32) (fl' : Nat → Int32) (ar' : Nat → Nat → Int32) : Prop := (∀ j, j ≠ 22 → j ≠ 23 → j ≠ 24 → j ≠ 25 → j ≠ 27 → j ≠ 28 → j ≠ 32 → j ≠ 37 → j ≠ 38 → j ≠ 39 → j ≠ 40 → j ≠ 41 → fl' j = fl j) ∧ (∀ j, j ≠ 2 → j ≠ 5 → j ≠ 26 → j ≠ 29 → j ≠ 30 → ar' j = ar j) ∧ (∀ i, 963 ≤ i → ar' 2 i = ar 2 i) ∧ ∀ i, i < 1926 → ar' 5 i = ar 5 i
theorem OF.rf {fl : Nat → Int32} {ar : Nat → Nat → Int32} : OF fl ar fl ar := ⟨fun _ _ _ _ _ _ _ _ _ _ _ _ _ => rfl, fun _ _ _ _ _ _ => rfl, fun _ _ => rfl, fun _ _ => rfl⟩
theorem OF.tr {f1 f2 f3 : Nat → Int32} {a b c : Nat → Nat → Int32} (h : OF f1 a f2 b) (g : OF f2 b f3 c) : OF f1 a f3 c := ⟨fun j q1 q2 q3 q4 q5 q6 q7 q8 q9 q10 q11 q12 => (g.1 j q1 q2 q3 q4 q5 q6 q7 q8 q9 q10 q11 q12).trans (h.1 j q1 q2 q3 q4 q5 q6 q7 q8 q9 q10 q11 q12), fun j q1 q2 q3 q4 q5 => (g.2.1 j q1 q2 q3 q4 q5).trans (h.2.1 j q1 q2 q3 q4 q5), fun i q => (g.2.2.1 i q).trans (h.2.2.1 i q), fun i q => (g.2.2.2 i q).trans (h.2.2.2 i q)⟩
theorem AF.o {fl fl' : Nat → Int32} {ar ar' : Nat → Nat → Int32} (h : AF fl ar fl' ar') : OF fl ar fl' ar' := ⟨fun j q1 q2 q3 q4 _ _ q7 _ _ _ _ _ => h.1 j q1 q2 q3 q4 q7, h.2⟩
theorem gF.o {fl fl' : Nat → Int32} {ar : Nat → Nat → Int32} (h : gF fl fl') : OF fl ar fl' ar := ⟨fun j q1 q2 q3 q4 _ _ _ _ q9 q10 q11 q12 => h j q1 q2 q3 q4 q9 q10 q11 q12, fun _ _ _ _ _ _ => rfl, fun _ _ => rfl, fun _ _ => rfl⟩
theorem OF.p {fl : Nat → Int32} {ar : Nat → Nat → Int32} {k : Nat} {z : Int32} (h : k = 27 ∨ k = 28 ∨ k = 37) : OF fl ar (upd fl k z) ar := ⟨fun j q1 q2 q3 q4 q5 q6 q7 q8 q9 q10 q11 q12 => upd_n (by omega), fun _ _ _ _ _ _ => rfl, fun _ _ => rfl, fun _ _ => rfl⟩
section MRUNS
variable {E : Nat × (Nat → Int32)} {d : Nat} {A : xH} {fl : Nat → Int32} {ar : Nat → Nat → Int32} {al : Nat → Nat → Int64} {T : Nat → Nat × Nat} {N g0 : Nat} {F : List (Nat × Nat)} {ask : List Nat}
/-- fields that the state does not know -/
theorem MI.fc {X : Xs} (h : MI fl ar X) {fl' : Nat → Int32} (hf : ∀ j, (j = 0 ∨ j = 6 ∨ j = 13 ∨ j = 14 ∨ j = 32 ∨ j = 36 ∨ j = 44) → fl' j = fl j) : MI fl' ar X := by
  obtain ⟨h1, ⟨h3, h4⟩, h5, ⟨h6, h7⟩, ⟨h8, h9, h10, h11⟩, h12, h13, h14⟩ := h
  exact ⟨h1, ⟨(hf 32 (by omega)).trans h3, h4⟩, h5, ⟨(hf 13 (by omega)).trans h6, h7⟩, ⟨(hf 0 (by omega)).trans h8, (hf 6 (by omega)).trans h9, (hf 14 (by omega)).trans h10, (hf 36 (by omega)).trans h11⟩, h12, by rw [hf 44 (by omega)]; exact h13, h14⟩
theorem MI.gF {X : Xs} (h : MI fl ar X) {fl' : Nat → Int32} (g : gF fl fl') : MI fl' ar X := h.fc (fun j hj => g j (by omega) (by omega) (by omega) (by omega) (by omega) (by omega) (by omega) (by omega))
theorem MI.f278 {X : Xs} (h : MI fl ar X) {k : Nat} {z : Int32} (hk : k = 27 ∨ k = 28 ∨ k = 37) : MI (upd fl k z) ar X := h.fc (fun j hj => upd_n (by omega))
theorem m_small {v : Int} (h1 : -1000000000 ≤ v) (h2 : v ≤ 1000000000) {H : xH} : xC E (d + 1) 285 [.long (lI v)] H = some (some (.int (smZ v)), H) := by
  have e6 : (1000000 : Int64) = lI 1000000 := by decide +kernel
  have k1 : lg_cmp (lI v) (0 : Int64) < 0 ↔ v < 0 := by
    rw [lg_cmp_lt, l0, l_lt (by omega) (by omega) (by omega) (by omega)]
  have k2 : lg_cmp (lI v) (1000000 : Int64) ≤ 0 ↔ v ≤ 1000000 := by
    rw [lg_cmp_le, e6, l_le (by omega) (by omega) (by omega) (by omega)]
  rw [k285]
  unfold smZ
  by_cases e : v < 0
  · rw [if_pos (k1.mpr e), if_pos (Or.inl e)]
  · rw [if_neg (fun q => e (k1.mp q))]
    by_cases g : v ≤ 1000000
    · rw [if_pos (k2.mpr g), if_neg (by omega), l_toInt32 h1 h2]
    · rw [if_neg (fun q => g (k2.mp q)), if_pos (Or.inr (by omega))]
theorem m_obeys (hA : 69 ≤ A.length) {X : Xs} (h : MI fl ar X) (hX : XI X) {k : Nat} {v w : Int} (hk : k ≤ 3) (h39 : fl 39 = nI (kdT k)) (hv : al 42 0 = lI v ∧ -1000000000 ≤ v ∧ v ≤ 1000000000) (hw : k = 0 → al 42 1 = lI w ∧ -1000000000 ≤ w ∧ w ≤ 1000000000) : ∃ fl' ar', xC E (d + 53) 286 [.ref 48] (mw A fl ar al) = some (some (.int (oAct k v w X).1), mw A fl' ar' al) ∧ MI fl' ar' (oAct k v w X).2 ∧ OF fl ar fl' ar' ∧ fl' 27 = fl 27 ∧ fl' 37 = fl 37 ∧ fl' 28 = (if k = 0 ∧ 0 ≤ (oAct k v w X).1 then (oAct k v w X).1 else fl 28) := by
  have hs0 := m_small (E := E) (d := d + 51) (H := mw A fl ar al) hv.2.1 hv.2.2
  rw [k286 _ _ _ _ (m_k48 hA), m_r48_42 hA, Option.bind_some, show (0 : Int32) = nI 0 from rfl, m_a67 hA (by omega), Option.bind_some, hv.1, hs0, xI_s, Option.bind_some]
  dsimp only
  rw [m_g48_39 hA, Option.bind_some, h39]
  unfold oAct
  rcases (show k = 0 ∨ k = 1 ∨ k = 2 ∨ k = 3 by omega) with rfl | rfl | rfl | rfl
  · obtain ⟨w1, w2, w3⟩ := hw rfl
    have hs1 := m_small (E := E) (d := d + 51) (H := mw A fl ar al) w2 w3
    obtain ⟨f2, a2, p1, p2, p3⟩ := m_putsKept (E := E) (d := d) (al := al) (x := smZ v) (y := smZ w) hA h hX
    have f27 := p3.1 27 (by omega) (by omega) (by omega) (by omega) (by omega)
    have f37 := p3.1 37 (by omega) (by omega) (by omega) (by omega) (by omega)
    have f28 := p3.1 28 (by omega) (by omega) (by omega) (by omega) (by omega)
    rw [if_neg (show ¬ nI (kdT 0) = (22 : Int32) by decide), if_neg (show ¬ nI (kdT 0) = (23 : Int32) by decide), if_neg (show ¬ nI (kdT 0) = (24 : Int32) by decide), m_r48_42 hA, Option.bind_some, show (1 : Int32) = nI 1 from rfl, m_a67 hA (by omega), Option.bind_some, w1, hs1, xI_s, Option.bind_some]
    dsimp only
    rw [p1, xI_s, Option.bind_some]
    dsimp only
    rw [if_neg (show ¬ (0 : Nat) = 1 by omega), if_neg (show ¬ (0 : Nat) = 2 by omega), if_neg (show ¬ (0 : Nat) = 3 by omega)]
    by_cases e : (nI 0) ≤ (aPut X (smZ v) (smZ w)).1
    · rw [if_pos e, m_p48_28 hA, Option.bind_some]
      exact ⟨_, a2, rfl, p2.f278 (Or.inr (Or.inl rfl)), p3.o.tr (OF.p (Or.inr (Or.inl rfl))), (upd_n (by omega)).trans f27, (upd_n (by omega)).trans f37, by rw [upd_s, if_pos ⟨rfl, e⟩]⟩
    · rw [if_neg e, m_g48_28 hA, Option.bind_some, m_p48_28 hA, Option.bind_some]
      exact ⟨_, a2, rfl, p2.f278 (Or.inr (Or.inl rfl)), p3.o.tr (OF.p (Or.inr (Or.inl rfl))), (upd_n (by omega)).trans f27, (upd_n (by omega)).trans f37, by rw [upd_s, if_neg (fun z => e z.2)]; exact f28⟩
  · obtain ⟨f2, a2, p1, p2, p3⟩ := m_dropsKept (E := E) (d := d) (al := al) (x := smZ v) hA h hX
    rw [if_pos (show nI (kdT 1) = (22 : Int32) by decide), p1, xI_s, Option.bind_some, if_pos rfl]
    exact ⟨f2, a2, rfl, p2, p3.o, p3.1 27 (by omega) (by omega) (by omega) (by omega) (by omega), p3.1 37 (by omega) (by omega) (by omega) (by omega) (by omega), by rw [if_neg (fun z => absurd z.1 (by omega))]; exact p3.1 28 (by omega) (by omega) (by omega) (by omega) (by omega)⟩
  · obtain ⟨f2, a2, p1, p2, p3⟩ := m_flushesKept (E := E) (d := d + 48) (al := al) (x := smZ v) hA h hX
    rw [if_neg (show ¬ nI (kdT 2) = (22 : Int32) by decide), if_pos (show nI (kdT 2) = (23 : Int32) by decide), p1, xI_s, Option.bind_some, if_neg (by omega), if_pos rfl]
    exact ⟨f2, a2, rfl, p2, p3.o, p3.1 27 (by omega) (by omega) (by omega) (by omega) (by omega), p3.1 37 (by omega) (by omega) (by omega) (by omega) (by omega), by rw [if_neg (fun z => absurd z.1 (by omega))]; exact p3.1 28 (by omega) (by omega) (by omega) (by omega) (by omega)⟩
  · obtain ⟨f2, a2, p1, p2, p3⟩ := m_crashesKept (E := E) (d := d + 46) (al := al) (x := smZ v) hA h hX
    rw [if_neg (show ¬ nI (kdT 3) = (22 : Int32) by decide), if_neg (show ¬ nI (kdT 3) = (23 : Int32) by decide), if_pos (show nI (kdT 3) = (24 : Int32) by decide), p1, xI_s, Option.bind_some, if_neg (by omega), if_neg (by omega), if_pos rfl]
    exact ⟨f2, a2, rfl, p2, p3.o, p3.1 27 (by omega) (by omega) (by omega) (by omega) (by omega), p3.1 37 (by omega) (by omega) (by omega) (by omega) (by omega), by rw [if_neg (fun z => absurd z.1 (by omega))]; exact p3.1 28 (by omega) (by omega) (by omega) (by omega) (by omega)⟩
/-- what the reference holds of orders under way -/
def OM (fl : Nat → Int32) (ar : Nat → Nat → Int32) (Z : OS) : Prop := MI fl ar Z.1 ∧ OI Z ∧ fl 27 = nI Z.2.1 ∧ fl 28 = oI Z.2.2
theorem OM.lv (hA : 69 ≤ A.length) {Z : OS} (h : OM fl ar Z) (ask : List Nat) : ∀ f1 al1, f1 27 = fl 27 → f1 28 = fl 28 → lvR E A ar al1 f1 true (oWd Z ask) 56 ask (oLV Z) := fun f1 al1 a b => m_lvR hA h.2.1 h.1.ms h.1.mr.2.2.1 (a.trans h.2.2.1) (b.trans h.2.2.2) ask
theorem evR.of (hT : evR T N g0 ar) {fl' : Nat → Int32} {ar' : Nat → Nat → Int32} (h : OF fl ar fl' ar') : evR T N g0 ar' := evF.cong (f := ar 2) hT (fun j hj => h.2.2.1 j hj)
theorem m_rn19 (hA : 69 ≤ A.length) (hTl : ∀ i, (T i).1 ≠ 0 → i < N) {x x' : PX} {l : List Nat} (hc : pClause T true x = .inr (x', l)) (hx : okx N x) (hp : pfx F ask x') {t nx : Nat} (ht : t < 100) : ∀ (c i : Nat) (Z : OS) (fl : Nat → Int32) (ar : Nat → Nat → Int32) (al : Nat → Nat → Int64), i + c = t → evR T N g0 ar → OM fl ar Z → Z.2.1 + c ≤ 1000 → fl 37 = nI (g0 + x.1) → ∃ fl' ar' al', xD E (d + 54) 287 19 [.ref 48, .int (nI (g0 + N)), .int (nI t), .int (nI nx), .int (nI i)] [] (mw A fl ar al) = some (some (.int (if (oRep F ask l c Z).isSome = true then 1 else 0)), mw A fl' ar' al') ∧ OF fl ar fl' ar' ∧ ∀ Z', oRep F ask l c Z = some Z' → OM fl' ar' Z' ∧ fl' 37 = nI nx
  | 0, i, Z, fl, ar, al, hi, hT, hM, hd, h37 => by
    refine ⟨upd fl 37 (nI nx), ar, al, ?_, OF.p (Or.inr (Or.inr rfl)), fun Z' hZ' => ?_⟩
    · rw [e287_19, if_pos (nI_le (by omega) (by omega)), m_p48_37 hA, Option.bind_some]; rfl
    · cases hZ'
      exact ⟨⟨hM.1.f278 (Or.inr (Or.inr rfl)), hM.2.1, (upd_n (by omega)).trans hM.2.2.1, (upd_n (by omega)).trans hM.2.2.2⟩, upd_s⟩
  | c + 1, i, Z, fl, ar, al, hi, hT, hM, hd, h37 => by
    obtain ⟨f1, s, a1, a2, a3, b1, b2, b3, b4, b5, b6, b7⟩ := m_along (E := E) (d := d + 7) (al := al) (F := F) (wd := oWd Z ask) (askF := ask) (LV := oLV Z) (lv := true) hA hT hTl (by omega) hc hx hp (hM.lv hA ask) h37
    obtain ⟨c1, c2, c3, c4⟩ := b7 rfl
    have hM1 : OM f1 ar Z := ⟨hM.1.gF a2, hM.2.1, (a2 27 (by omega) (by omega) (by omega) (by omega) (by omega) (by omega) (by omega) (by omega)).trans hM.2.2.1, (a2 28 (by omega) (by omega) (by omega) (by omega) (by omega) (by omega) (by omega) (by omega)).trans hM.2.2.2⟩
    have f137 : f1 37 = nI (g0 + x.1) := (a2 37 (by omega) (by omega) (by omega) (by omega) (by omega) (by omega) (by omega) (by omega)).trans h37
    have step : ∀ (Z1 : OS) (f2 : Nat → Int32) (ar2 : Nat → Nat → Int32), oStep F ask l Z = some Z1 → OM f2 ar2 Z1 → OF f1 ar f2 ar2 → f2 37 = nI (g0 + x.1) → ∃ fl' ar' al', xD E (d + 54) 287 19 [.ref 48, .int (nI (g0 + N)), .int (nI t), .int (nI nx), .int (nI (i + 1))] [] (mw A f2 ar2 (sal al 42 s)) = some (some (.int (if (oRep F ask l (c + 1) Z).isSome = true then 1 else 0)), mw A fl' ar' al') ∧ OF fl ar fl' ar' ∧ ∀ Z', oRep F ask l (c + 1) Z = some Z' → OM fl' ar' Z' ∧ fl' 37 = nI nx := by
      intro Z1 f2 ar2 hs m2 o2 q37
      obtain ⟨-, e2⟩ := oStep_R hM.2.1 b3 (by omega) hs
      obtain ⟨f3, ar3, al3, r1, r2, r3⟩ := m_rn19 hA hTl hc hx hp ht c (i + 1) Z1 f2 ar2 (sal al 42 s) (by omega) (hT.of o2) m2 (by omega) q37
      have hr : oRep F ask l (c + 1) Z = oRep F ask l c Z1 := by
        show (oStep F ask l Z).bind (oRep F ask l c) = _
        rw [hs]; rfl
      rw [hr]
      exact ⟨f3, ar3, al3, r1, (a2.o.tr o2).tr r2, r3⟩
    have stop : oStep F ask l Z = none → oRep F ask l (c + 1) Z = none := fun hs => by
      show (oStep F ask l Z).bind (oRep F ask l c) = _
      rw [hs]; rfl
    have a1' : xC E (d + 53) 284 [.ref 48, .int (nI (g0 + N)), .int (1 : Int32)] (mw A fl ar al) = _ := a1
    rw [e287_19, if_neg (nI_ge (by omega) (by omega)), a1', xV_s, Option.bind_some, m_g48_41 hA, Option.bind_some]
    by_cases e1 : f1 41 = 1
    · have hcT := c1.mp e1
      rw [if_neg (show ¬ f1 41 = 0 by rw [e1]; decide), m_g48_40 hA, Option.bind_some]
      by_cases e0 : f1 40 = 1
      · obtain ⟨d1, d2⟩ := c2.mp e0
        rw [if_neg (show ¬ f1 40 = 0 by rw [e0]; decide)]
        obtain ⟨v, hv⟩ := Option.ne_none_iff_exists'.mp d1
        obtain ⟨w, hw⟩ := Option.ne_none_iff_exists'.mp d2
        obtain ⟨f2, ar2, p1, p2, p3, p4, p37, p5⟩ := m_obeys (E := E) (d := d) (al := sal al 42 s) (k := l.getD 0 0) (v := v) (w := w) hA hM1.1 hM.2.1.1 b3 b2 (by rw [sal_s]; exact c3 v hv) (fun h0 => by rw [sal_s]; exact c4 h0 w hw)
        rw [p1, xI_s, Option.bind_some]
        dsimp only
        by_cases er : 0 ≤ (oAct (l.getD 0 0) v w Z.1).1
        · have hos : oStep F ask l Z = some ((oAct (l.getD 0 0) v w Z.1).2, Z.2.1 + 1, if l.getD 0 0 = 0 then some (oAct (l.getD 0 0) v w Z.1).1.toNatClampNeg else Z.2.2) := by
            unfold oStep
            rw [if_pos hcT, hv, hw, if_neg (by simp), Option.getD_some, Option.getD_some, if_neg (Int32.not_lt.mpr er)]
          have hoi := (oStep_R hM.2.1 b3 (by omega) hos).1
          rw [if_pos er, m_g48_27 hA, Option.bind_some, p4, hM1.2.2.1, nI_1, m_p48_27 hA, Option.bind_some, nI_1]
          refine step _ _ ar2 hos ⟨p2.f278 (Or.inl rfl), hoi, upd_s, ?_⟩ (p3.tr (OF.p (Or.inl rfl))) ((upd_n (by omega)).trans ?_)
          · rw [upd_n (by omega), p5]
            by_cases h0 : l.getD 0 0 = 0
            · rw [if_pos ⟨h0, er⟩]
              show _ = oI (if l.getD 0 0 = 0 then _ else _)
              rw [if_pos h0]
              have hh : (oAct (l.getD 0 0) v w Z.1).1 < 0 ∨ ∃ n, n ≤ 6 ∧ (oAct (l.getD 0 0) v w Z.1).1 = nI n := by
                rw [h0]
                exact aPut_le hM.2.1.1
              rcases hh with q | ⟨n, hn, q⟩
              · exact absurd q (Int32.not_lt.mpr er)
              · rw [q, nI_clamp (by omega)]; rfl
            · rw [if_neg (fun z => h0 z.1), hM1.2.2.2]
              show _ = oI (if l.getD 0 0 = 0 then _ else _)
              rw [if_neg h0]
          · rw [p37]; exact f137
        · have hos : oStep F ask l Z = none := by
            unfold oStep
            rw [if_pos hcT, hv, hw, if_neg (by simp), Option.getD_some, Option.getD_some, if_pos (Int32.not_le.mp er)]
          rw [if_neg er, stop hos]
          exact ⟨f2, ar2, _, rfl, a2.o.tr p3, fun Z' hZ' => by cases hZ'⟩
      · have hos : oStep F ask l Z = none := by
          unfold oStep
          rw [if_pos hcT, if_pos]
          by_cases n1 : cS F (oWd Z ask) 56 l = none
          · exact Or.inl n1
          · by_cases n2 : cU F (oWd Z ask) 56 l = none
            · exact Or.inr n2
            · exact absurd (c2.mpr ⟨n1, n2⟩) e0
        have e00 : f1 40 = 0 := b6.resolve_right e0
        rw [if_pos e00, stop hos]
        exact ⟨f1, ar, _, rfl, a2.o, fun Z' hZ' => by cases hZ'⟩
    · have e10 : f1 41 = 0 := b5.resolve_right e1
      have hos : oStep F ask l Z = some Z := by
        unfold oStep
        rw [if_neg (fun z => e1 (c1.mpr z))]
      rw [if_pos e10, nI_1]
      exact step Z f1 ar hos hM1 OF.rf f137
theorem m_runs (hA : 69 ≤ A.length) (hT : evR T N g0 ar) (hTl : ∀ i, (T i).1 ≠ 0 → i < N) {x x' : PX} {l : List Nat} (hc : pClause T true x = .inr (x', l)) (hx : okx N x) (hp : pfx F ask x') {Z : OS} (hM : OM fl ar Z) (hd : Z.2.1 + 20 ≤ 1000) (h37 : fl 37 = nI (g0 + x.1)) : l.getD 0 0 ≤ 3 ∧ l.getD 1 0 ≤ 20 ∧ ∃ fl' ar' al', xC E (d + 54) 287 [.ref 48, .int (nI (g0 + N))] (mw A fl ar al) = some (some (.int (if (oRep F ask l (l.getD 1 0) Z).isSome = true then 1 else 0)), mw A fl' ar' al') ∧ OF fl ar fl' ar' ∧ ∀ Z', oRep F ask l (l.getD 1 0) Z = some Z' → OM fl' ar' Z' ∧ fl' 37 = nI (g0 + (x'.1 + 1)) := by
  obtain ⟨f1, s, a1, a2, a3, b1, b2, b3, b4, b5, b6, b7⟩ := m_along (E := E) (d := d + 7) (al := al) (F := F) (wd := oWd Z ask) (askF := ask) (LV := oLV Z) (lv := false) hA hT hTl (by omega) hc hx hp (hM.lv hA ask) h37
  have hM1 : OM f1 ar Z := ⟨hM.1.gF a2, hM.2.1, (a2 27 (by omega) (by omega) (by omega) (by omega) (by omega) (by omega) (by omega) (by omega)).trans hM.2.2.1, (a2 28 (by omega) (by omega) (by omega) (by omega) (by omega) (by omega) (by omega) (by omega)).trans hM.2.2.2⟩
  have f137 : f1 37 = nI (g0 + x.1) := (a2 37 (by omega) (by omega) (by omega) (by omega) (by omega) (by omega) (by omega) (by omega)).trans h37
  obtain ⟨f3, ar3, al3, r1, r2, r3⟩ := m_rn19 (E := E) (d := d) (F := F) (ask := ask) (t := l.getD 1 0) (nx := g0 + (x'.1 + 1)) hA hTl hc hx hp (by omega) (l.getD 1 0) 0 Z f1 ar (sal al 42 s) (by omega) hT hM1 (by omega) f137
  refine ⟨b3, b4, f3, ar3, al3, ?_, a2.o.tr r2, r3⟩
  have a1' : xC E (d + 53) 284 [.ref 48, .int (nI (g0 + N)), .int (0 : Int32)] (mw A fl ar al) = _ := a1
  rw [k287 _ _ _ _ _ (m_k48 hA), a1', xV_s, Option.bind_some, m_g48_38 hA, Option.bind_some, b1, m_g48_22 hA, Option.bind_some, a3]
  exact r1
end MRUNS
