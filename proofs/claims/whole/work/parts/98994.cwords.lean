/-! ===== orders: the code names no word but those that are filled ===== -/
def WA (x : PX) : Prop := (∀ q ∈ x.2.2.1, q.1 = 1 → q.2 < 6 + x.2.2.2.length) ∧ ∀ q ∈ x.2.2.2, q < 1024
def wk (f : PX → PR) : Prop := ∀ x y, WA x → f x = .inr y → WA y
section WORDS
variable {T : Nat → Nat × Nat}
theorem rb_inr {r : PR} {k : PX → PR} {y : PX} (h : rb r k = .inr y) : ∃ z, r = .inr z ∧ k z = .inr y := by
  cases r with
  | inl t => cases h
  | inr z => exact ⟨z, rfl, h⟩
theorem WA.emi {x : PX} (h : WA x) {op ar : Nat} (ho : op ≠ 1) : WA (emi x op ar) := by
  refine ⟨fun q hq h1 => ?_, h.2⟩
  rcases List.mem_append.mp (show q ∈ x.2.2.1 ++ [(op, ar)] from hq) with z | z
  · exact h.1 q z h1
  · rw [List.mem_singleton.mp z] at h1
    exact absurd h1 ho
theorem WA.aim {x : PX} (h : WA x) {s op : Nat} (ho : op ≠ 1) : WA (aimx x s op) := by
  refine ⟨fun q hq h1 => ?_, h.2⟩
  rcases List.mem_or_eq_of_mem_set (show q ∈ x.2.2.1.set s (op, x.2.2.1.length) from hq) with z | z
  · exact h.1 q z h1
  · rw [z] at h1
    exact absurd h1 ho
theorem wk_lp {step : PX → Option PR} (hs : ∀ y z, WA y → step y = some (.inr z) → WA z) : ∀ c, wk (lp step c)
  | 0, x, y, hx, h => by
    have : x = y := Sum.inr.inj h
    rw [← this]; exact hx
  | c + 1, x, y, hx, h => by
    unfold lp at h
    cases hr : step x with
    | none =>
      rw [hr] at h
      have : x = y := Sum.inr.inj h
      rw [← this]; exact hx
    | some r =>
      rw [hr] at h
      obtain ⟨z, rfl, h2⟩ := rb_inr h
      exact wk_lp hs c z y (hs x z hx hr) h2
theorem wk_term {part : PX → PR} (hp : wk part) : wk (pTerm T part) := by
  intro x y hx h
  obtain ⟨z, h1, h2⟩ := rb_inr (show rb (part x) (lp (sTerm T part) 400) = _ from h)
  refine wk_lp (fun y' z' hy hs => ?_) 400 z y (hp x z hx h1) h2
  unfold sTerm at hs
  split at hs
  · obtain ⟨w, g1, g2⟩ := rb_inr (Option.some.inj hs)
    rw [← Sum.inr.inj g2]
    exact (hp (adv y') w hy g1).emi (by unfold opT; split <;> (try split) <;> omega)
  · cases hs
theorem wk_sum {part : PX → PR} (hp : wk part) : wk (pSum T part) := by
  intro x y hx h
  obtain ⟨z, h1, h2⟩ := rb_inr (show rb (pTerm T part x) (lp (sSum T part) 400) = _ from h)
  refine wk_lp (fun y' z' hy hs => ?_) 400 z y (wk_term hp x z hx h1) h2
  unfold sSum at hs
  split at hs
  · obtain ⟨w, g1, g2⟩ := rb_inr (Option.some.inj hs)
    rw [← Sum.inr.inj g2]
    exact (wk_term hp (adv y') w hy g1).emi (by unfold opS; split <;> omega)
  · cases hs
theorem wk_ask {b c : Nat} (hb : b + c ≤ 1024) : wk (pAsk T b c) := by
  intro x y hx h
  unfold pAsk at h
  split at h
  · rename_i e
    rw [← Sum.inr.inj h]
    refine ⟨fun q hq h1 => ?_, fun q hq => ?_⟩
    · show q.2 < 6 + (x.2.2.2 ++ [b + (T x.1).2]).length
      rw [List.length_append]
      rcases List.mem_append.mp (show q ∈ x.2.2.1 ++ [(1, 6 + x.2.2.2.length)] from hq) with z | z
      · have := hx.1 q z h1
        omega
      · rw [List.mem_singleton.mp z]
        show 6 + x.2.2.2.length < 6 + (x.2.2.2.length + 1)
        omega
    · rcases List.mem_append.mp (show q ∈ x.2.2.2 ++ [b + (T x.1).2] from hq) with z | z
      · exact hx.2 q z
      · rw [List.mem_singleton.mp z]; omega
  · cases h
theorem wk_leaf : wk (pLeaf T true) := by
  intro x y hx h
  unfold pLeaf at h
  split at h
  · cases h
  · split at h
    · rw [← Sum.inr.inj h]
      exact WA.emi (x := (x.1 + 1, x.2.1 + 1, x.2.2)) hx (op := 0) (by omega)
    · split at h
      · exact wk_ask (by omega) (x.1 + 1, x.2.1 + 1, x.2.2) y hx h
      · split at h
        · exact wk_ask (by omega) (x.1 + 1, x.2.1 + 1, x.2.2) y hx h
        · rw [if_pos rfl] at h
          cases hw : wdO (T x.1).1 with
          | none => rw [hw] at h; cases h
          | some w =>
            rw [hw] at h
            rw [← Sum.inr.inj h]
            have w6 : w < 6 := by
              unfold wdO at hw
              repeat' split at hw
              all_goals first
                | (have := Option.some.inj hw; omega)
                | cases hw
            refine ⟨fun q hq h1 => ?_, hx.2⟩
            rcases List.mem_append.mp (show q ∈ x.2.2.1 ++ [(1, w)] from hq) with z | z
            · exact hx.1 q z h1
            · rw [List.mem_singleton.mp z]
              show w < 6 + x.2.2.2.length
              omega
theorem wk_eat {c : Nat} : wk (eat T c) := by
  intro x y hx h
  unfold eat at h
  split at h
  · rw [← Sum.inr.inj h]; exact hx
  · cases h
theorem wk_part : ∀ k, wk (pPart T true k)
  | 0, x, y, hx, h => by
    unfold pPart at h
    split at h
    · cases h
    · exact wk_leaf x y hx h
  | k + 1, x, y, hx, h => by
    unfold pPart at h
    split at h
    · obtain ⟨z, h1, h2⟩ := rb_inr h
      exact wk_eat z y (wk_sum (wk_part k) (adv x) z hx h1) h2
    · exact wk_leaf x y hx h
theorem wk_cmp {part : PX → PR} (hp : wk part) : wk (pCmp T part) := by
  intro x y hx h
  obtain ⟨z, h1, h2⟩ := rb_inr h
  split at h2
  · obtain ⟨w, g1, g2⟩ := rb_inr h2
    rw [← Sum.inr.inj g2]
    exact (wk_sum hp (adv z) w (wk_sum hp x z hx h1) g1).emi (by unfold opC; split <;> (try split) <;> omega)
  · cases h2
theorem wk_not {f : PX → PR} (hf : wk f) : wk (pNot T f) := by
  intro x y hx h
  obtain ⟨z, h1, h2⟩ := rb_inr h
  have hz := hf ((nts T 400 x.1 false).1, x.2) z hx h1
  rw [← Sum.inr.inj h2]
  split
  · exact hz.emi (by omega)
  · exact hz
theorem wk_both {plain : PX → PR} (hp : wk plain) : wk (pBoth T plain) := by
  intro x y hx h
  obtain ⟨z, h1, h2⟩ := rb_inr (show rb (plain x) (lp (sBoth T plain) 400) = _ from h)
  refine wk_lp (fun y' z' hy hs => ?_) 400 z y (hp x z hx h1) h2
  unfold sBoth at hs
  split at hs
  · obtain ⟨w, g1, g2⟩ := rb_inr (Option.some.inj hs)
    rw [← Sum.inr.inj g2]
    exact (hp (emi (adv y') 3 0) w (WA.emi (x := adv y') hy (by omega)) g1).aim (by omega)
  · cases hs
theorem wk_test {plain : PX → PR} (hp : wk plain) : wk (pTest T plain) := by
  intro x y hx h
  obtain ⟨z, h1, h2⟩ := rb_inr (show rb (pBoth T plain x) (lp (sTest T plain) 400) = _ from h)
  refine wk_lp (fun y' z' hy hs => ?_) 400 z y (wk_both hp x z hx h1) h2
  unfold sTest at hs
  split at hs
  · obtain ⟨w, g1, g2⟩ := rb_inr (Option.some.inj hs)
    rw [← Sum.inr.inj g2]
    exact (wk_both hp (emi (adv y') 4 0) w (WA.emi (x := adv y') hy (by omega)) g1).aim (by omega)
  · cases hs
theorem wk_plain : ∀ k, wk (pPlain T true k)
  | 0 => by
    show wk (pNot T (fun y => if (T y.1).1 = 140 then .inl y.1 else pCmp T (pPart T true 0) y))
    refine wk_not (fun x y hx h => ?_)
    split at h
    · cases h
    · exact wk_cmp (wk_part 0) x y hx h
  | k + 1 => by
    show wk (pNot T (fun y => if (T y.1).1 = 140 then rb (pTest T (pPlain T true k) (adv y)) (eat T 141) else pCmp T (pPart T true (k + 1)) y))
    refine wk_not (fun x y hx h => ?_)
    split at h
    · obtain ⟨z, h1, h2⟩ := rb_inr h
      exact wk_eat z y (wk_test (wk_plain k) (adv x) z hx h1) h2
    · exact wk_cmp (wk_part (k + 1)) x y hx h
theorem wk_sums : wk (pSums T true) := wk_sum (wk_part 8)
theorem wk_tests : wk (pTests T true) := wk_test (wk_plain 8)
theorem wk_times {x y : PX} {k a b c d : Nat} {l : List Nat} (hx : WA x) (h : pTimes T x k a b c d = .inr (y, l)) : WA y := by
  unfold pTimes at h
  split at h
  · split at h
    · cases h; exact hx
    · cases h
  · cases h; exact hx
theorem wk_one {x y : PX} {k : Nat} {l : List Nat} (hx : WA x) (h : pOne T true x k = .inr (y, l)) : WA y := by
  unfold pOne at h
  cases hs : pSums T true (adv x) with
  | inl f => rw [hs] at h; cases h
  | inr z =>
    rw [hs] at h
    exact wk_times (wk_sums (adv x) z hx hs) h
theorem wk_order {x y : PX} {l : List Nat} (hx : WA x) (h : pOrder T true x = .inr (y, l)) : WA y := by
  unfold pOrder at h
  split at h
  · cases hs : pSums T true (adv x) with
    | inl f => rw [hs] at h; cases h
    | inr z =>
      rw [hs] at h
      dsimp only at h
      have hz := wk_sums (adv x) z hx hs
      split at h
      · cases hs2 : pSums T true (adv z) with
        | inl f => rw [hs2] at h; cases h
        | inr w =>
          rw [hs2] at h
          exact wk_times (wk_sums (adv z) w hz hs2) h
      · cases h
  · split at h
    · exact wk_one hx h
    · split at h
      · exact wk_one hx h
      · split at h
        · exact wk_one hx h
        · cases h
theorem wk_clause {x y : PX} {l : List Nat} (hx : WA x) (h : pClause T true x = .inr (y, l)) : WA y := by
  unfold pClause at h
  rw [if_pos rfl] at h
  cases ho : pOrder T true x with
  | inl f => rw [ho] at h; cases h
  | inr w =>
    obtain ⟨z, l'⟩ := w
    rw [ho] at h
    dsimp only at h
    have hz := wk_order hx ho
    split at h
    · cases hs : pTests T true (adv z) with
      | inl f => rw [hs] at h; cases h
      | inr w =>
        rw [hs] at h
        cases h
        exact wk_tests (adv z) _ hz hs
    · cases h; exact hz
theorem wk_more : ∀ (c : Nat) (x y : PX) (cs cs' : List (List Nat)), WA x → pMore T true c x cs = .inr (y, cs') → WA y
  | 0, x, y, cs, cs', hx, h => by
    unfold pMore at h
    split at h
    · cases h
    · cases h; exact hx
  | c + 1, x, y, cs, cs', hx, h => by
    unfold pMore at h
    split at h
    · cases hc : pClause T true (adv x) with
      | inl f => rw [hc] at h; cases h
      | inr w =>
        obtain ⟨z, g⟩ := w
        rw [hc] at h
        exact wk_more c z y _ cs' (wk_clause (x := adv x) hx hc) h
    · cases h; exact hx
theorem wk_text {N : Nat} {y : PX} {cs : List (List Nat)} (h : pText T true N = .inr (y, cs)) : WA y := by
  unfold pText at h
  cases hc : pClause T true (0, 0, [], []) with
  | inl f => rw [hc] at h; cases h
  | inr w =>
    obtain ⟨z, g⟩ := w
    rw [hc] at h
    dsimp only at h
    have hz := wk_clause (x := (0, 0, [], [])) ⟨fun q hq => (by cases hq), fun q hq => (by cases hq)⟩ hc
    cases hm : pMore T true 11 z [g] with
    | inl f => rw [hm] at h; cases h
    | inr w =>
      obtain ⟨z', cs'⟩ := w
      rw [hm] at h
      dsimp only at h
      split at h
      · cases h
      · cases h
        exact wk_more 11 z _ _ _ hz hm
end WORDS
