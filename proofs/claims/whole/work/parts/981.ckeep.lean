/-! ===== the class: a row is kept ===== -/
section REFA
variable {A : xH} {a t n i : Nat} {f : Nat → Option Nat} {o : Option Nat}
theorem h_aR (h : A[a]? = some (.inl (t, n, .inr (.inr f)))) (hi : i < n) (hn : n < 2 ^ 31) : aR t A a (nI i) = some (f i) := by
  unfold aR
  rw [h]
  dsimp only
  rw [if_pos rfl, nI_clamp (by omega), if_neg (h_ix hi hn)]
theorem h_sR (h : A[a]? = some (.inl (t, n, .inr (.inr f)))) (hi : i < n) (hn : n < 2 ^ 31) (hx : xelok A t o = true) : sR t A a (nI i) o = some (A.set a (.inl (t, n, .inr (.inr (va_up f i o))))) := by
  unfold sR
  rw [h]
  dsimp only
  rw [if_pos ⟨rfl, hx⟩, nI_clamp (by omega), if_neg (h_ix hi hn)]
theorem vu_s : va_up f i o i = o := by unfold va_up; rw [if_pos rfl]
theorem vu_n {j : Nat} (h : j ≠ i) : va_up f i o j = f j := by unfold va_up; rw [if_neg h]
end REFA
section CKEEP
variable {E : Nat × (Nat → Int32)} {d : Nat} {A A' : xH} {h p m : Nat} {sp : Value} {k : Nat → Option Nat} {f : Nat → Int32}
/-- a history's three cells -/
def HR (A : xH) (h : Nat) (sp : Value) (m : Nat) (k : Nat → Option Nat) (f : Nat → Int32) : Prop := A[h]? = some (.inr (0, [.ref (h + 1), .ref (h + 2), sp, .int (nI m)])) ∧ A[h + 1]? = some (.inl (5, 16, .inr (.inr k))) ∧ A[h + 2]? = some (ia 16 f)
/-- nothing but a history's cells has changed -/
def hF (h : Nat) (A A' : xH) : Prop := sm (fun q => q = h ∨ q = h + 1 ∨ q = h + 2) A A'
theorem HR.row (g : HR A h sp m k f) {i : Nat} {o : Option Nat} (hi : i < 16) (hx : xelok A 5 o = true) : ∃ A', sR 5 A (h + 1) (nI i) o = some A' ∧ HR A' h sp m (va_up k i o) f ∧ hF h A A' := by
  obtain ⟨g0, g1, g2⟩ := g
  have hl : h + 1 < A.length := (List.getElem?_eq_some_iff.mp g1).1
  refine ⟨_, h_sR g1 hi (by omega) hx, ⟨?_, List.getElem?_set_self hl, ?_⟩, sm.set _ (Or.inr (Or.inl rfl))⟩
  · rw [List.getElem?_set_ne (by omega)]; exact g0
  · rw [List.getElem?_set_ne (by omega)]; exact g2
theorem HR.kind (g : HR A h sp m k f) {i : Nat} {x : Int32} (hi : i < 16) : ∃ A', sI 0 A (h + 2) (nI i) x = some A' ∧ HR A' h sp m k (upd f i x) ∧ hF h A A' := by
  obtain ⟨g0, g1, g2⟩ := g
  have hl : h + 2 < A.length := (List.getElem?_eq_some_iff.mp g2).1
  refine ⟨_, h_sI0 g2 hi (by omega), ⟨?_, ?_, List.getElem?_set_self hl⟩, sm.set _ (Or.inr (Or.inr rfl))⟩
  · rw [List.getElem?_set_ne (by omega)]; exact g0
  · rw [List.getElem?_set_ne (by omega)]; exact g1
theorem HR.many (g : HR A h sp m k f) (m' : Nat) : ∃ A', pF A h 0 3 (.int (nI m')) = some A' ∧ HR A' h sp m' k f ∧ hF h A A' := by
  obtain ⟨g0, g1, g2⟩ := g
  have hl : h < A.length := (List.getElem?_eq_some_iff.mp g0).1
  refine ⟨_, h_pF g0 (show 3 < 4 by omega), ⟨List.getElem?_set_self hl, ?_, ?_⟩, sm.set _ (Or.inl rfl)⟩
  · rw [List.getElem?_set_ne (by omega)]; exact g1
  · rw [List.getElem?_set_ne (by omega)]; exact g2
theorem HR.spare (g : HR A h sp m k f) (sp' : Value) : ∃ A', pF A h 0 2 sp' = some A' ∧ HR A' h sp' m k f ∧ hF h A A' := by
  obtain ⟨g0, g1, g2⟩ := g
  have hl : h < A.length := (List.getElem?_eq_some_iff.mp g0).1
  refine ⟨_, h_pF g0 (show 2 < 4 by omega), ⟨List.getElem?_set_self hl, ?_, ?_⟩, sm.set _ (Or.inl rfl)⟩
  · rw [List.getElem?_set_ne (by omega)]; exact g1
  · rw [List.getElem?_set_ne (by omega)]; exact g2
theorem hF.cls (g : hF h A A') {q : Nat} (h1 : q < h ∨ h + 3 ≤ q) : xcls A' q = xcls A q := by
  unfold xcls
  rw [g.2 q (by omega)]
theorem hF.ok (g : hF h A A') {t : Nat} {o : Option Nat} (h1 : ∀ q, o = some q → q < h ∨ h + 3 ≤ q) (hx : xelok A t o = true) : xelok A' t o = true := by
  cases o with
  | none => rfl
  | some q =>
    unfold xelok at hx ⊢
    dsimp only at hx ⊢
    rw [g.cls (h1 q rfl)]; exact hx
theorem c_k90 (g : HR A h sp m k f) (hm : m < 16) (hp : xelok A 5 (some p) = true) (hpq : p < h ∨ h + 3 ≤ p) {x : Int32} {o : Option Nat} {w4 : Value} : ∃ A', xD E (d + 1) 4 90 [.ref h, .ref p, .int x, oV o, w4] [] A = some (some (oV o), A') ∧ HR A' h sp (m + 1) (va_up k m (some p)) (upd f m x) ∧ hF h A A' := by
  obtain ⟨A1, a1, a2, a3⟩ := g.row hm hp
  obtain ⟨A2, b1, b2, b3⟩ := a2.kind (x := x) hm
  obtain ⟨A3, c1, c2, c3⟩ := b2.many (m + 1)
  refine ⟨A3, ?_, c2, (a3.trans b3).trans c3⟩
  cases o with
  | none =>
    show xD E (d + 1) 4 90 [.ref h, .ref p, .int x, .null, w4] [] A = _
    rw [e4_90b, h_gN g.1 rfl, Option.bind_some, h_gI g.1 rfl, Option.bind_some, a1, Option.bind_some, h_gN a2.1 rfl, Option.bind_some, h_gI a2.1 rfl, Option.bind_some, b1, Option.bind_some, h_gI b2.1 rfl, Option.bind_some, nI_1, c1, Option.bind_some]
    rfl
  | some r =>
    show xD E (d + 1) 4 90 [.ref h, .ref p, .int x, .ref r, w4] [] A = _
    rw [e4_90a, h_gN g.1 rfl, Option.bind_some, h_gI g.1 rfl, Option.bind_some, a1, Option.bind_some, h_gN a2.1 rfl, Option.bind_some, h_gI a2.1 rfl, Option.bind_some, b1, Option.bind_some, h_gI b2.1 rfl, Option.bind_some, nI_1, c1, Option.bind_some]
    rfl
theorem c_k35 {r3 : Nat} {x : Int32} (hall : ∀ j, j < 16 → ∃ q, k j = some q ∧ (q < h ∨ h + 3 ≤ q)) (hpq : p < h ∨ h + 3 ≤ p) : ∀ (c i : Nat) (A : xH) (k' : Nat → Option Nat) (f' : Nat → Int32), i + c = 16 → 1 ≤ i → HR A h sp 16 k' f' → (∀ j, j < 16 → k' j = if j + 1 < i then k (j + 1) else k j) → (∀ j, j < 16 → f' j = if j + 1 < i then f (j + 1) else f j) → (∀ j, j < 16 → xelok A 5 (k j) = true) → xelok A 5 (some p) = true → ∃ A' k2 f2, xD E (d + 1) 4 35 [.ref h, .ref p, .int x, .ref r3, .int (nI i)] [] A = some (some (.ref r3), A') ∧ HR A' h sp 16 k2 f2 ∧ hF h A A' ∧ (∀ j, j < 16 → k2 j = if j = 15 then some p else k (j + 1)) ∧ ∀ j, j < 16 → f2 j = if j = 15 then x else f (j + 1)
  | 0, i, A, k', f', hi, h1, g, hk, hf, hx, hp => by
    have : i = 16 := by omega
    subst this
    obtain ⟨A1, a1, a2, a3⟩ := g.many 15
    obtain ⟨A2, b1, b2, b3⟩ := c_k90 (E := E) (d := d) (x := x) (o := some r3) (w4 := .int (nI 16)) a2 (by omega) (a3.ok (fun q z => by cases z; exact hpq) hp) hpq
    refine ⟨A2, _, _, ?_, b2, a3.trans b3, fun j hj => ?_, fun j hj => ?_⟩
    · rw [e4_35a, if_pos (show (16 : Int32) ≤ nI 16 by decide), h_gI g.1 rfl, Option.bind_some, show nI 16 - (1 : Int32) = nI 15 by decide, a1, Option.bind_some]
      exact b1
    · by_cases e : j = 15
      · rw [if_pos e, e, vu_s]
      · rw [if_neg e, vu_n e, hk j hj, if_pos (by omega)]
    · by_cases e : j = 15
      · rw [if_pos e, e, upd_s]
      · rw [if_neg e, upd_n e, hf j hj, if_pos (by omega)]
  | c + 1, i, A, k', f', hi, h1, g, hk, hf, hx, hp => by
    have hi16 : i < 16 := by omega
    obtain ⟨q, hq, hqq⟩ := hall i hi16
    have hki : k' i = some q := by rw [hk i hi16, if_neg (by omega)]; exact hq
    obtain ⟨A1, a1, a2, a3⟩ := g.row (i := i - 1) (o := some q) (by omega) (by rw [← hq]; exact hx i hi16)
    obtain ⟨A2, b1, b2, b3⟩ := a2.kind (i := i - 1) (x := f' i) (by omega)
    have s12 := sm.trans a3 b3
    obtain ⟨A3, k3, f3, c1, c2, c3, c4, c5⟩ := c_k35 (r3 := r3) (x := x) hall hpq c (i + 1) A2 _ _ (by omega) (by omega) b2 (fun j hj => by
      by_cases e : j = i - 1
      · rw [e, vu_s, if_pos (by omega), show i - 1 + 1 = i by omega, hq]
      · rw [vu_n e, hk j hj]
        by_cases z : j + 1 < i
        · rw [if_pos z, if_pos (by omega)]
        · rw [if_neg z, if_neg (by omega)]) (fun j hj => by
      by_cases e : j = i - 1
      · rw [e, upd_s, if_pos (by omega), show i - 1 + 1 = i by omega, hf i hi16, if_neg (by omega)]
      · rw [upd_n e, hf j hj]
        by_cases z : j + 1 < i
        · rw [if_pos z, if_pos (by omega)]
        · rw [if_neg z, if_neg (by omega)]) (fun j hj => hF.ok s12 (fun q' z => by
        obtain ⟨q2, z1, z2⟩ := hall j hj
        rw [z1] at z
        cases z; exact z2) (hx j hj)) (hF.ok s12 (fun q z => by cases z; exact hpq) hp)
    refine ⟨A3, k3, f3, ?_, c2, s12.trans c3, c4, c5⟩
    rw [e4_35a, if_neg (show ¬ (16 : Int32) ≤ nI i from nI_ge (b := 16) hi16 (by omega)), h_gN g.1 rfl, Option.bind_some, Option.bind_some, h_aR g.2.1 hi16 (by omega), Option.bind_some, hki]
    dsimp only
    rw [show (1 : Int32) = nI 1 from rfl, pk_sub h1, a1, Option.bind_some, h_gN a2.1 rfl, Option.bind_some, Option.bind_some, h_aI a2.2.2 hi16 (by omega), Option.bind_some, b1, Option.bind_some, nI_add]
    exact c1
/-- a row is kept, one that is free is handed out -/
theorem c_keep (g : HR A h sp m k f) (hm : m ≤ 16) (hall : m = 16 → ∀ j, j < 16 → ∃ q, k j = some q) (hq : ∀ j q, j < 16 → k j = some q → q < h ∨ h + 3 ≤ q) (hx : ∀ j, j < 16 → xelok A 5 (k j) = true) (hp : xelok A 5 (some p) = true) (hpq : p < h ∨ h + 3 ≤ p) {x : Int32} : ∃ A' k2 f2, xC E (d + 1) 4 [.ref h, .ref p, .int x] A = some (some (oV (k (if m = 16 then 0 else m))), A') ∧ HR A' h sp (if m = 16 then 16 else m + 1) k2 f2 ∧ hF h A A' ∧ (∀ j, j < 16 → k2 j = if m = 16 then (if j = 15 then some p else k (j + 1)) else if j = m then some p else k j) ∧ ∀ j, j < 16 → f2 j = if m = 16 then (if j = 15 then x else f (j + 1)) else if j = m then x else f j := by
  rw [k4 _ _ _ _ _ _ (h_cls g.1), h_gN g.1 rfl, Option.bind_some, h_gI g.1 rfl, Option.bind_some]
  by_cases e : m = 16
  · subst e
    obtain ⟨q0, hq0⟩ := hall rfl 0 (by omega)
    obtain ⟨A1, k1, f1, c1, c2, c3, c4, c5⟩ := c_k35 (E := E) (d := d) (r3 := q0) (x := x) (k := k) (f := f) (fun j hj => by
      obtain ⟨q, z⟩ := hall rfl j hj
      exact ⟨q, z, hq j q hj z⟩) hpq 15 1 A k f rfl (by omega) g (fun j hj => by rw [if_neg (by omega)]) (fun j hj => by rw [if_neg (by omega)]) hx hp
    refine ⟨A1, k1, f1, ?_, by rw [if_pos rfl]; exact c2, c3, fun j hj => by rw [if_pos rfl]; exact c4 j hj, fun j hj => by rw [if_pos rfl]; exact c5 j hj⟩
    rw [if_pos (show nI 16 = (16 : Int32) from rfl), show (0 : Int32) = nI 0 from rfl, h_aR g.2.1 (by omega) (by omega), Option.bind_some, hq0]
    dsimp only
    rw [Option.bind_some, if_pos (show nI 16 = (16 : Int32) from rfl), if_pos rfl, hq0]
    exact c1
  · have hm' : m < 16 := by omega
    have hne : ¬ nI m = (16 : Int32) := fun z => e ((nI_eq (b := 16) (by omega) (by omega)).mp z)
    obtain ⟨A1, c1, c2, c3⟩ := c_k90 (E := E) (d := d) (x := x) (o := k m) (w4 := xJ) g hm' hp hpq
    refine ⟨A1, _, _, ?_, by rw [if_neg e]; exact c2, c3, fun j hj => ?_, fun j hj => ?_⟩
    · rw [if_neg hne, Option.bind_some, h_aR g.2.1 hm' (by omega), Option.bind_some, if_neg e]
      cases hk : k m with
      | none =>
        rw [hk] at c1
        dsimp only
        rw [Option.bind_some, if_neg hne]; exact c1
      | some q =>
        rw [hk] at c1
        dsimp only
        rw [Option.bind_some, if_neg hne]; exact c1
    · rw [if_neg e]
      by_cases z : j = m
      · rw [if_pos z, z, vu_s]
      · rw [if_neg z, vu_n z]
    · rw [if_neg e]
      by_cases z : j = m
      · rw [if_pos z, z, upd_s]
      · rw [if_neg z, upd_n z]
end CKEEP
