/-! ===== what a span of code comes to, as a function ===== -/
section WTH
variable {F : List (Nat × Nat)} {wd : Nat → Int} {nw to : Nat}
theorem rn_mono : ∀ (fu i : Nat) (st : List Int) (r : Option (List Int)), rn F wd nw to fu i st = some r → rn F wd nw to (fu + 1) i st = some r
  | 0, i, st, r, h => by simp [rn] at h
  | fu + 1, i, st, r, h => by
    unfold rn at h ⊢
    by_cases h1 : to ≤ i
    · rw [if_pos h1] at h ⊢; exact h
    rw [if_neg h1] at h ⊢
    by_cases h2 : 60 ≤ st.length
    · rw [if_pos h2] at h; cases h
    rw [if_neg h2] at h ⊢
    cases hF : F[i]? with
    | none => rw [hF] at h; cases h
    | some q =>
      obtain ⟨op, a⟩ := q
      rw [hF] at h
      dsimp only at h ⊢
      by_cases o12 : 12 < op
      · rw [if_pos o12] at h; cases h
      rw [if_neg o12] at h ⊢
      by_cases o0 : op = 0
      · rw [if_pos o0] at h ⊢
        by_cases ha : a ≤ 1000
        · rw [if_pos ha] at h ⊢; exact rn_mono fu _ _ _ h
        · rw [if_neg ha] at h; cases h
      rw [if_neg o0] at h ⊢
      by_cases o1 : op = 1
      · rw [if_pos o1] at h ⊢
        by_cases ha : a < nw
        · rw [if_pos ha] at h ⊢; exact rn_mono fu _ _ _ h
        · rw [if_neg ha] at h; cases h
      rw [if_neg o1] at h ⊢
      cases st with
      | nil => cases h
      | cons v st' =>
        dsimp only at h ⊢
        by_cases o2 : op = 2
        · rw [if_pos o2] at h ⊢
          by_cases ha : v = 0 ∨ v = 1
          · rw [if_pos ha] at h ⊢; exact rn_mono fu _ _ _ h
          · rw [if_neg ha] at h; cases h
        rw [if_neg o2] at h ⊢
        by_cases o3 : op = 3
        · rw [if_pos o3] at h ⊢
          by_cases ha : v = 0
          · rw [if_pos ha] at h ⊢
            by_cases hj : i < a ∧ a ≤ 400
            · rw [if_pos hj] at h ⊢; exact rn_mono fu _ _ _ h
            · rw [if_neg hj] at h; cases h
          · rw [if_neg ha] at h ⊢; exact rn_mono fu _ _ _ h
        rw [if_neg o3] at h ⊢
        by_cases o4 : op = 4
        · rw [if_pos o4] at h ⊢
          by_cases ha : v = 1
          · rw [if_pos ha] at h ⊢
            by_cases hj : i < a ∧ a ≤ 400
            · rw [if_pos hj] at h ⊢; exact rn_mono fu _ _ _ h
            · rw [if_neg hj] at h; cases h
          · rw [if_neg ha] at h ⊢; exact rn_mono fu _ _ _ h
        rw [if_neg o4] at h ⊢
        cases st' with
        | nil => cases h
        | cons u st'' =>
          dsimp only at h ⊢
          cases hz : comb op u v with
          | none => rw [hz] at h; exact h
          | some z => rw [hz] at h; exact rn_mono fu _ _ _ h
theorem rn_up {fu i k : Nat} {st : List Int} {r : Option (List Int)} (h : rn F wd nw to fu i st = some r) : rn F wd nw to (fu + k) i st = some r := by
  induction k with
  | zero => exact h
  | succ k ih => exact rn_mono _ _ _ _ ih
theorem rn_det {fu fu' i : Nat} {st : List Int} {r r' : Option (List Int)} (h : rn F wd nw to fu i st = some r) (h' : rn F wd nw to fu' i st = some r') : r = r' := by
  have a := rn_up (k := fu') h
  have b := rn_up (k := fu) h'
  rw [Nat.add_comm] at b
  rw [a] at b
  exact Option.some.inj b
end WTH
/-- the worth of the span from a to b; none: broken -/
noncomputable def wth (F : List (Nat × Nat)) (wd : Nat → Int) (nw a b : Nat) : Option Int := if a = b then some 1 else @dite _ (∃ v fu, rn F wd nw b fu a [] = some (some [v])) (Classical.propDecidable _) (fun h => some (Classical.choose h)) (fun _ => none)
section WTH2
variable {F : List (Nat × Nat)} {wd : Nat → Int} {nw a b : Nat}
theorem wth_same : wth F wd nw a a = some 1 := if_pos rfl
theorem wth_some {v : Int} {fu : Nat} (hab : a ≠ b) (h : rn F wd nw b fu a [] = some (some [v])) : wth F wd nw a b = some v := by
  unfold wth
  rw [if_neg hab, dif_pos ⟨v, fu, h⟩]
  have hc := Classical.choose_spec (⟨v, fu, h⟩ : ∃ v fu, rn F wd nw b fu a [] = some (some [v]))
  obtain ⟨fu', h'⟩ := hc
  have := rn_det h h'
  simp only [Option.some.injEq, List.cons.injEq, and_true] at this
  rw [← this]
theorem wth_none {fu : Nat} (hab : a ≠ b) (h : rn F wd nw b fu a [] = some none) : wth F wd nw a b = none := by
  unfold wth
  rw [if_neg hab, dif_neg]
  rintro ⟨v, fu', h'⟩
  have := rn_det h h'
  cases this
theorem wth_rs {v : Int} (hab : a < b) (h : RS1 F wd nw b a [] b [v]) : wth F wd nw a b = some v ∧ ∃ fu, rn F wd nw b fu a [] = some (some [v]) := by
  obtain ⟨s, hs⟩ := h
  have h1 := hs 1
  have h2 : rn F wd nw b 1 b [v] = some (some [v]) := by unfold rn; rw [if_pos (Nat.le_refl _)]
  rw [h2] at h1
  exact ⟨wth_some (by omega) h1, _, h1⟩
theorem wth_rb (hab : a < b) (h : RB1 F wd nw b a []) : wth F wd nw a b = none ∧ ∃ fu, rn F wd nw b fu a [] = some none := by
  obtain ⟨s, hs⟩ := h
  have h1 := hs 0
  exact ⟨wth_none (by omega) h1, _, h1⟩
/-- a span that comes to something -/
def wok (F : List (Nat × Nat)) (wd : Nat → Int) (nw a b : Nat) : Prop := a = b ∨ (a < b ∧ ((∃ fu v, rn F wd nw b fu a [] = some (some [v]) ∧ -1000000000 ≤ v ∧ v ≤ 1000000000) ∨ ∃ fu, rn F wd nw b fu a [] = some none))
end WTH2
/-! every sum, every test is some code -/
section GL
variable {T : Nat → Nat × Nat} {o : Bool} {N : Nat} {f : PX → PR}
def gl (f : PX → PR) : Prop := ∀ x y, f x = .inr y → x.2.2.1.length < y.2.2.1.length
theorem lp_gl {step : PX → Option PR} (hs : ∀ y z, step y = some (.inr z) → y.2.2.1.length ≤ z.2.2.1.length) : ∀ c x y, lp step c x = .inr y → x.2.2.1.length ≤ y.2.2.1.length
  | 0, x, y, h => by cases h; exact Nat.le_refl _
  | c + 1, x, y, h => by
    cases hr : step x with
    | none => rw [lp_none hr] at h; cases h; exact Nat.le_refl _
    | some r =>
      rw [lp_some hr] at h
      cases r with
      | inl t => cases h
      | inr z => exact Nat.le_trans (hs x z hr) (lp_gl hs c z y h)
theorem gl_rb {g : PX → PR} (hf : gl f) (hg : ∀ x y, g x = .inr y → x.2.2.1.length ≤ y.2.2.1.length) : gl (fun x => rb (f x) g) := by
  intro x y h
  dsimp only at h
  cases hr : f x with
  | inl t => rw [hr] at h; cases h
  | inr z =>
    rw [hr] at h
    have h1 := hf x z hr
    have h2 := hg z y h
    omega
theorem gl_term (hf : gl f) : gl (pTerm T f) := gl_rb hf (lp_gl (fun y z h => by
  unfold sTerm at h
  split at h
  · cases hr : f (adv y) with
    | inl t => rw [hr] at h; cases h
    | inr w =>
      rw [hr] at h
      cases h
      have := hf _ _ hr
      simp only [adv] at this
      simp only [emi, List.length_append]; omega
  · cases h) 400)
theorem gl_sum (hf : gl f) : gl (pSum T f) := gl_rb (gl_term hf) (lp_gl (fun y z h => by
  unfold sSum at h
  split at h
  · cases hr : pTerm T f (adv y) with
    | inl t => rw [hr] at h; cases h
    | inr w =>
      rw [hr] at h
      cases h
      have := gl_term hf _ _ hr
      simp only [adv] at this
      simp only [emi, List.length_append]; omega
  · cases h) 400)
theorem gl_ask {b c : Nat} {x y : PX} (h : pAsk T b c x = .inr y) : x.2.2.1.length < y.2.2.1.length := by
  unfold pAsk at h
  split at h
  · cases h; simp
  · cases h
theorem gl_leaf : gl (pLeaf T o) := by
  intro x y h
  unfold pLeaf at h
  split at h
  · cases h
  · split at h
    · cases h; simp
    · split at h
      · exact gl_ask (x := (x.1 + 1, x.2.1 + 1, x.2.2)) h
      · split at h
        · exact gl_ask (x := (x.1 + 1, x.2.1 + 1, x.2.2)) h
        · split at h
          · cases h
          · cases h; simp
theorem gl_eat {c : Nat} : ∀ x y, eat T c x = .inr y → x.2.2.1.length ≤ y.2.2.1.length := by
  intro x y h
  unfold eat at h
  split at h
  · cases h; exact Nat.le_refl _
  · cases h
theorem gl_part : ∀ k, gl (pPart T o k)
  | 0 => by
    intro x y h
    unfold pPart at h
    split at h
    · cases h
    · exact gl_leaf _ _ h
  | k + 1 => by
    intro x y h
    unfold pPart at h
    split at h
    · exact gl_rb (gl_sum (gl_part k)) gl_eat (adv x) y h
    · exact gl_leaf _ _ h
theorem gl_cmp (hf : gl f) : gl (pCmp T f) := gl_rb (gl_sum hf) (fun y z h => by
  split at h
  · cases hr : pSum T f (adv y) with
    | inl t => rw [hr] at h; cases h
    | inr w =>
      rw [hr] at h
      cases h
      have := gl_sum hf _ _ hr
      simp only [adv] at this
      simp only [emi, List.length_append]; omega
  · cases h)
theorem gl_both (hf : gl f) : gl (pBoth T f) := gl_rb hf (lp_gl (fun y z h => by
  unfold sBoth at h
  split at h
  · cases hr : f (emi (adv y) 3 0) with
    | inl t => rw [hr] at h; cases h
    | inr w =>
      rw [hr] at h
      cases h
      have := hf _ _ hr
      simp only [adv, emi, List.length_append] at this
      simp only [aimx, List.length_set]; omega
  · cases h) 400)
theorem gl_test (hf : gl f) : gl (pTest T f) := gl_rb (gl_both hf) (lp_gl (fun y z h => by
  unfold sTest at h
  split at h
  · cases hr : pBoth T f (emi (adv y) 4 0) with
    | inl t => rw [hr] at h; cases h
    | inr w =>
      rw [hr] at h
      cases h
      have := gl_both hf _ _ hr
      simp only [adv, emi, List.length_append] at this
      simp only [aimx, List.length_set]; omega
  · cases h) 400)
theorem gl_plain : ∀ k, gl (pPlain T o k) := by
  have fin : ∀ k, gl (pPos T o k) → gl (pPlain T o k) := by
    intro k hp x y h
    rw [pPlain_eq] at h
    unfold pNot at h
    cases hr : pPos T o k ((nts T 400 x.1 false).1, x.2) with
    | inl t => rw [hr] at h; cases h
    | inr z =>
      rw [hr] at h
      have h1 := hp _ _ hr
      change Sum.inr (if _ then _ else _) = (Sum.inr y : PR) at h
      cases h
      split
      · simp only [emi, List.length_append]; dsimp only at h1; omega
      · exact h1
  intro k
  induction k with
  | zero =>
    refine fin 0 (fun x y h => ?_)
    rw [pos0] at h
    split at h
    · cases h
    · exact gl_cmp (gl_part 0) _ _ h
  | succ k ih =>
    refine fin (k + 1) (fun x y h => ?_)
    rw [posS] at h
    split at h
    · exact gl_rb (gl_test ih) gl_eat (adv x) y h
    · exact gl_cmp (gl_part (k + 1)) _ _ h
theorem gl_sums : gl (pSums T o) := gl_sum (gl_part 8)
theorem gl_tests : gl (pTests T o) := gl_test (gl_plain 8)
end GL
/-! the worth of a sum, of a test, as the reference finds it -/
section EWTH
variable {E : Nat × (Nat → Int32)} {d : Nat} {A : xH} {fl : Nat → Int32} {ar : Nat → Nat → Int32} {al : Nat → Nat → Int64} {T : Nat → Nat × Nat} {N g0 : Nat} {o : Bool} {F : List (Nat × Nat)} {wd : Nat → Int} {nw : Nat} {askF : List Nat} {LV : Nat → Nat → Int}
/-- alive: the sum's worth -/
theorem e_sum (hA : 69 ≤ A.length) (hT : evR T N g0 ar) (hTl : ∀ i, (T i).1 ≠ 0 → i < N) (hd : o = true → 1 ≤ d) {x y : PX} (hf : pSums T o x = .inr y) (hx : okx N x) (ha : agr F askF y.2.2.1.length x y) (hl : lvR E A ar al fl o wd nw askF LV) (he : est N g0 o fl) (h22 : fl 22 = nI (g0 + x.1)) (h24 : fl 24 = 0) : ∃ fl' r, xC E (d + 33) 223 [.ref 48, .int 1] (mw A fl ar al) = some (some (.long r), mw A fl' ar al) ∧ eF fl fl' ∧ fl' 22 = nI (g0 + y.1) ∧ wok F wd nw x.2.2.1.length y.2.2.1.length ∧ ((fl' 24 = 1 ∧ r = 0 ∧ wth F wd nw x.2.2.1.length y.2.2.1.length = none) ∨ ∃ v : Int, fl' 24 = 0 ∧ r = lI v ∧ -1000000000 ≤ v ∧ v ≤ 1000000000 ∧ wth F wd nw x.2.2.1.length y.2.2.1.length = some v) := by
  have hg := gl_sums _ _ hf
  obtain ⟨fl', r, p1, p2, p3, p4⟩ := ev_sums (E := E) (d := d) (al := al) (o := o) (F := F) (wd := wd) (nw := nw) (to := y.2.2.1.length) (askF := askF) (LV := LV) hA hT hTl hd x y fl true [] hf hx ha (by simp) hl he h22 (Or.inl h24)
  refine ⟨fl', r, p1, p2, p3, ?_⟩
  rcases p4.2.2 ⟨rfl, h24⟩ with ⟨a1, a2, a3⟩ | ⟨v, a1, a2, a3, a4, a5⟩
  · obtain ⟨b1, b2⟩ := wth_rb hg a3
    exact ⟨Or.inr ⟨hg, Or.inr b2⟩, Or.inl ⟨a1, a2, b1⟩⟩
  · obtain ⟨b1, fu, b2⟩ := wth_rs hg a5
    exact ⟨Or.inr ⟨hg, Or.inl ⟨fu, v, b2, a3, a4⟩⟩, Or.inr ⟨v, a1, a2, a3, a4, b1⟩⟩
theorem e_test (hA : 69 ≤ A.length) (hT : evR T N g0 ar) (hTl : ∀ i, (T i).1 ≠ 0 → i < N) (hd : o = true → 1 ≤ d) {x y : PX} (hf : pTests T o x = .inr y) (hx : okx N x) (ha : agr F askF y.2.2.1.length x y) (hl : lvR E A ar al fl o wd nw askF LV) (he : est N g0 o fl) (h22 : fl 22 = nI (g0 + x.1)) (h24 : fl 24 = 0) : ∃ fl' r, xC E (d + 45) 227 [.ref 48, .int 1] (mw A fl ar al) = some (some (.int r), mw A fl' ar al) ∧ eF fl fl' ∧ fl' 22 = nI (g0 + y.1) ∧ (r = 0 ∨ r = 1) ∧ (fl' 24 = 0 ∨ fl' 24 = 1) ∧ wok F wd nw x.2.2.1.length y.2.2.1.length ∧ (wth F wd nw x.2.2.1.length y.2.2.1.length = some 1 ↔ r = 1 ∧ fl' 24 = 0) := by
  have hg := gl_tests _ _ hf
  obtain ⟨fl', r, p1, p2, p3, p4⟩ := evb_tests (E := E) (d := d) (al := al) (o := o) (F := F) (wd := wd) (nw := nw) (to := y.2.2.1.length) (askF := askF) (LV := LV) hA hT hTl hd x y fl true [] hf hx ha (by simp) hl he h22 (Or.inl h24)
  refine ⟨fl', r, p1, p2, p3, p4.2.1, p4.1, ?_⟩
  rcases p4.2.2.2 ⟨rfl, h24⟩ with ⟨a1, a3⟩ | ⟨a1, a5⟩
  · obtain ⟨b1, b2⟩ := wth_rb hg a3
    refine ⟨Or.inr ⟨hg, Or.inr b2⟩, ?_⟩
    rw [b1, a1]
    exact ⟨fun q => (by cases q), fun q => absurd q.2 (by decide)⟩
  · obtain ⟨b1, fu, b2⟩ := wth_rs hg a5
    refine ⟨Or.inr ⟨hg, Or.inl ⟨fu, vB r, b2, ?_, ?_⟩⟩, ?_⟩
    · unfold vB; split <;> omega
    · unfold vB; split <;> omega
    · rw [b1, a1]
      rcases p4.2.1 with h | h
      · rw [h]
        exact ⟨fun q => (by simp [vB] at q), fun q => absurd q.1 (by decide)⟩
      · rw [h]
        exact ⟨fun _ => ⟨rfl, rfl⟩, fun _ => rfl⟩
end EWTH
