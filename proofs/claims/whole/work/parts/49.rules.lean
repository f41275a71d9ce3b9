/-! ===== laws in the class ===== -/
def CLOK (F : List (Nat × Nat)) (wd : Nat → Int) (nw : Nat) (l : List Nat) : Prop := wok F wd nw (l.getD 2 0) (l.getD 3 0) ∧ wok F wd nw (l.getD 4 0) (l.getD 5 0) ∧ wok F wd nw (l.getD 6 0) (l.getD 7 0) ∧ (l.getD 0 0 = 5 → l.getD 2 0 = l.getD 3 0) ∧ l.getD 0 0 ≤ 5 ∧ l.getD 1 0 ≤ 20 ∧ l.getD 2 0 ≤ 400 ∧ l.getD 3 0 ≤ 400 ∧ l.getD 4 0 ≤ 400 ∧ l.getD 5 0 ≤ 400 ∧ l.getD 6 0 ≤ 400 ∧ l.getD 7 0 ≤ 400
section CLOKS
variable {bs : Nat → Nat} {n : Nat} {o : Bool} {F : List (Nat × Nat)} {wd : Nat → Int} {nw : Nat} {askF : List Nat}
theorem wok0 {a : Nat} : wok F wd nw a a := Or.inl rfl
theorem okl {x : PX} (hn : n ≤ 400) (h : okx (tkN bs n) x) : x.2.2.1.length ≤ 400 := h.len hn
/-- what a clause's head gives -/
theorem head_ok (hn : n ≤ 400) (hw : nwR o wd nw) {x y : PX} {l : List Nat} (h : (if o = true then pOrder (tok bs n) o x else pRule (tok bs n) o x) = .inr (y, l)) (hx : okx (tkN bs n) x) (hp : pfx F askF y) : wok F wd nw (l.getD 2 0) (l.getD 3 0) ∧ wok F wd nw (l.getD 4 0) (l.getD 5 0) ∧ (l.getD 0 0 = 5 → l.getD 2 0 = l.getD 3 0) ∧ l.getD 0 0 ≤ 5 ∧ l.getD 1 0 ≤ 20 ∧ l.getD 2 0 ≤ 400 ∧ l.getD 3 0 ≤ 400 ∧ l.getD 4 0 ≤ 400 ∧ l.getD 5 0 ≤ 400 := by
  have hN := tkN_le (bs := bs) (n := n)
  have sm : ∀ (x z : PX), okx (tkN bs n) x → (tok bs n x.1).1 ≠ 0 → pSums (tok bs n) o (adv x) = .inr z → pfx F askF z → okx (tkN bs n) z ∧ xle (tkN bs n) x z ∧ wok F wd nw x.2.2.1.length z.2.2.1.length := by
    intro x z hx h0 hs hz
    have hxx := hx.adv h0
    have hg := gd_sums (bs := bs) (n := n) (o := o) (adv x) hxx.1
    rw [hs] at hg
    have hzz := hxx.le hg.1
    exact ⟨hzz, (xle_adv (tok_lt h0)).tr hg.1, p_sums (x := adv x) hTk hw hs hxx (hz.agr hzz (by omega))⟩
  have tm : ∀ (z y : PX) (k a b c e : Nat) (l : List Nat), pTimes (tok bs n) z k a b c e = .inr (y, l) → (∃ t, t ≤ 20 ∧ l = [k, t, a, b, c, e]) ∧ (okx (tkN bs n) z → xle (tkN bs n) z y) := by
    intro z y k a b c e l h
    unfold pTimes at h
    split at h
    · rename_i q1
      split at h
      · rename_i q2
        cases h
        have hl1 := tok_lt (bs := bs) (n := n) (i := z.1) (by omega)
        have hl2 := tok_lt (bs := bs) (n := n) (i := z.1 + 1) (by omega)
        exact ⟨⟨_, q2.2.2, rfl⟩, fun _ => (xle_adv hl1).tr (xle_adv (x := adv z) (by simp only [adv]; omega))⟩
      · cases h
    · cases h; exact ⟨⟨1, by omega, rfl⟩, fun _ => xle.rf⟩
  have one : ∀ k, k ≤ 3 → (tok bs n x.1).1 ≠ 0 → pOne (tok bs n) o x k = .inr (y, l) → wok F wd nw (l.getD 2 0) (l.getD 3 0) ∧ wok F wd nw (l.getD 4 0) (l.getD 5 0) ∧ (l.getD 0 0 = 5 → l.getD 2 0 = l.getD 3 0) ∧ l.getD 0 0 ≤ 5 ∧ l.getD 1 0 ≤ 20 ∧ l.getD 2 0 ≤ 400 ∧ l.getD 3 0 ≤ 400 ∧ l.getD 4 0 ≤ 400 ∧ l.getD 5 0 ≤ 400 := by
    intro k hk h0 h
    unfold pOne at h
    cases hs : pSums (tok bs n) o (adv x) with
    | inl t => rw [hs] at h; cases h
    | inr z =>
      rw [hs] at h
      obtain ⟨⟨t, ht, rfl⟩, hxl⟩ := tm z y k _ _ _ _ l h
      have hg := gd_sums (bs := bs) (n := n) (o := o) (adv x) (hx.adv h0).1
      rw [hs] at hg
      have hz := (hx.adv h0).le hg.1
      obtain ⟨a1, a2, a3⟩ := sm x z hx h0 hs (hp.le (hxl hz))
      have l1 := okl hn hx
      have l2 := okl hn a1
      exact ⟨a3, wok0, fun q => by simp at q; omega, by simp; omega, ht, l1, l2, by simp, by simp⟩
  split at h
  · unfold pOrder at h
    by_cases e : (tok bs n x.1).1 = 20
    · rw [if_pos e] at h
      cases hs : pSums (tok bs n) o (adv x) with
      | inl t => rw [hs] at h; cases h
      | inr z =>
        rw [hs] at h
        dsimp only at h
        have hg := gd_sums (bs := bs) (n := n) (o := o) (adv x) (hx.adv (by omega)).1
        rw [hs] at hg
        have hz := (hx.adv (by omega)).le hg.1
        by_cases e2 : (tok bs n z.1).1 = 21
        · rw [if_pos e2] at h
          cases hs2 : pSums (tok bs n) o (adv z) with
          | inl t => rw [hs2] at h; cases h
          | inr z2 =>
            rw [hs2] at h
            obtain ⟨⟨t, ht, rfl⟩, hxl⟩ := tm z2 y 0 _ _ _ _ l h
            have hg2 := gd_sums (bs := bs) (n := n) (o := o) (adv z) (hz.adv (by omega)).1
            rw [hs2] at hg2
            have hz2 := (hz.adv (by omega)).le hg2.1
            obtain ⟨b1, b2, b3⟩ := sm z z2 hz (by omega) hs2 (hp.le (hxl hz2))
            obtain ⟨a1, a2, a3⟩ := sm x z hx (by omega) hs ((hp.le (hxl hz2)).le b2)
            have l1 := okl hn hx
            have l2 := okl hn a1
            have l3 := okl hn b1
            exact ⟨a3, b3, fun q => by simp at q, by simp, ht, l1, l2, l2, l3⟩
        · rw [if_neg e2] at h; cases h
    · rw [if_neg e] at h
      by_cases e2 : (tok bs n x.1).1 = 22
      · rw [if_pos e2] at h; exact one 1 (by omega) (by omega) h
      rw [if_neg e2] at h
      by_cases e3 : (tok bs n x.1).1 = 23
      · rw [if_pos e3] at h; exact one 2 (by omega) (by omega) h
      rw [if_neg e3] at h
      by_cases e4 : (tok bs n x.1).1 = 24
      · rw [if_pos e4] at h; exact one 3 (by omega) (by omega) h
      rw [if_neg e4] at h; cases h
  · unfold pRule at h
    by_cases e : (tok bs n x.1).1 = 2
    · rw [if_pos e] at h; cases h
      exact ⟨wok0, wok0, fun _ => rfl, by simp, by simp, by simp, by simp, by simp, by simp⟩
    · rw [if_neg e] at h
      by_cases e1 : (tok bs n x.1).1 = 1
      · rw [if_pos e1] at h
        cases hs : pSums (tok bs n) o (adv x) with
        | inl t => rw [hs] at h; cases h
        | inr z =>
          rw [hs] at h
          cases h
          obtain ⟨a1, a2, a3⟩ := sm x y hx (by omega) hs hp
          have l1 := okl hn hx
          have l2 := okl hn a1
          exact ⟨a3, wok0, fun q => by simp at q, by simp, by simp, l1, l2, by simp, by simp⟩
      · rw [if_neg e1] at h; cases h
theorem clause_ok (hn : n ≤ 400) (hw : nwR o wd nw) {x x' : PX} {l : List Nat} (h : pClause (tok bs n) o x = .inr (x', l)) (hx : okx (tkN bs n) x) (hp : pfx F askF x') : CLOK F wd nw l := by
  have hN := tkN_le (bs := bs) (n := n)
  have hgh := gc_head (bs := bs) (n := n) (o := o) (x := x) hx.1
  unfold pClause at h
  cases hr : (if o = true then pOrder (tok bs n) o x else pRule (tok bs n) o x) with
  | inl t => rw [hr] at h; cases h
  | inr w =>
    obtain ⟨y, l0⟩ := w
    have hl6 := head_len hr
    rw [hr] at h hgh
    dsimp only at h
    have hy := hx.le hgh.1
    have gj : ∀ (a b : Nat) (j : Nat), j < 6 → (l0 ++ [a, b]).getD j 0 = l0.getD j 0 := fun a b j hj => by
      rw [List.getD_eq_getElem?_getD, List.getElem?_append_left (by omega), List.getD_eq_getElem?_getD]
    have g67 : ∀ a b : Nat, (l0 ++ [a, b]).getD 6 0 = a ∧ (l0 ++ [a, b]).getD 7 0 = b := fun a b => by
      rw [List.getD_eq_getElem?_getD, List.getElem?_append_right (by omega), List.getD_eq_getElem?_getD, List.getElem?_append_right (by omega), hl6]
      exact ⟨rfl, rfl⟩
    by_cases e : (tok bs n y.1).1 = 3
    · rw [if_pos e] at h
      cases hs : pTests (tok bs n) o (adv y) with
      | inl t => rw [hs] at h; cases h
      | inr z =>
        rw [hs] at h
        cases h
        have hyx := hy.adv (by omega)
        have hg := gd_tests (bs := bs) (n := n) (o := o) (adv y) hyx.1
        rw [hs] at hg
        have hz := hyx.le hg.1
        obtain ⟨a1, a2, a3, a4, a5, a6, a7, a8, a9⟩ := head_ok hn hw hr hx (hp.le ((xle_adv (tok_lt (by omega))).tr hg.1))
        have ht := p_tests (x := adv y) hTk hw hs hyx (hp.agr hz (by omega))
        unfold CLOK
        rw [gj _ _ 0 (by omega), gj _ _ 1 (by omega), gj _ _ 2 (by omega), gj _ _ 3 (by omega), gj _ _ 4 (by omega), gj _ _ 5 (by omega), (g67 _ _).1, (g67 _ _).2]
        exact ⟨a1, a2, ht, a3, a4, a5, a6, a7, a8, a9, okl hn hy, okl hn hz⟩
    · rw [if_neg e] at h
      cases h
      obtain ⟨a1, a2, a3, a4, a5, a6, a7, a8, a9⟩ := head_ok hn hw hr hx hp
      unfold CLOK
      rw [gj _ _ 0 (by omega), gj _ _ 1 (by omega), gj _ _ 2 (by omega), gj _ _ 3 (by omega), gj _ _ 4 (by omega), gj _ _ 5 (by omega), (g67 _ _).1, (g67 _ _).2]
      exact ⟨a1, a2, wok0, a3, a4, a5, a6, a7, a8, a9, by omega, by omega⟩
theorem more_ok (hn : n ≤ 400) (hw : nwR o wd nw) : ∀ (c : Nat) (x y : PX) (cs cs' : List (List Nat)), pMore (tok bs n) o c x cs = .inr (y, cs') → okx (tkN bs n) x → pfx F askF y → (∀ l ∈ cs, CLOK F wd nw l) → ∀ l ∈ cs', CLOK F wd nw l
  | 0, x, y, cs, cs', h, hx, hp, hc => by
    unfold pMore at h
    split at h
    · cases h
    · cases h; exact hc
  | c + 1, x, y, cs, cs', h, hx, hp, hc => by
    unfold pMore at h
    split at h
    · rename_i q
      have hxx := hx.adv (show (tok bs n x.1).1 ≠ 0 by omega)
      have hg := gc_clause (bs := bs) (n := n) (o := o) (x := adv x) hxx.1
      cases hr : pClause (tok bs n) o (adv x) with
      | inl t => rw [hr] at h; cases h
      | inr w =>
        obtain ⟨z, l⟩ := w
        rw [hr] at h hg
        have hz := hxx.le hg.1
        have hzy := more_le c z y _ _ h hz.1
        refine more_ok hn hw c z y _ _ h hz hp (fun l' hl' => ?_)
        rcases List.mem_append.mp hl' with h1 | h1
        · exact hc l' h1
        · rw [List.mem_singleton.mp h1]; exact clause_ok hn hw hr hxx (hp.le hzy)
    · cases h; exact hc
/-- a text that was read: its clauses come to something, its lengths -/
theorem text_ok (hn : n ≤ 400) (hw : nwR o wd nw) {y : PX} {cs : List (List Nat)} (h : pText (tok bs n) o (tkN bs n) = .inr (y, cs)) : ∀ l ∈ cs, CLOK y.2.2.1 wd nw l := by
  have hx : okx (tkN bs n) (0, 0, [], []) := ⟨Nat.zero_le _, Nat.zero_le _, Nat.zero_le _, Nat.zero_le _⟩
  have hg := gc_clause (bs := bs) (n := n) (o := o) (x := (0, 0, [], [])) (Nat.zero_le _)
  unfold pText at h
  cases hr : pClause (tok bs n) o (0, 0, [], []) with
  | inl t => rw [hr] at h; cases h
  | inr w =>
    obtain ⟨z, l⟩ := w
    rw [hr] at h hg
    dsimp only at h
    have hz := hx.le hg.1
    cases hm : pMore (tok bs n) o 11 z [l] with
    | inl t => rw [hm] at h; cases h
    | inr w2 =>
      obtain ⟨y2, cs2⟩ := w2
      rw [hm] at h
      dsimp only at h
      split at h
      · cases h
      · cases h
        have hp : pfx y.2.2.1 y.2.2.2 y := ⟨fun _ _ => rfl, fun _ _ h => h⟩
        have hzy := more_le 11 z y _ _ hm hz.1
        refine more_ok hn hw 11 z y _ _ hm hz hp (fun l' hl' => ?_)
        rw [List.mem_singleton.mp hl']; exact clause_ok hn hw hr hx (hp.le hzy)
end CLOKS
theorem tfold_app {F : List (Nat × Nat)} {wd : Nat → Int} {nw kind : Nat} : ∀ (a : List (List Nat)) (l : List Nat) (t : Nat), tfold F wd nw kind (a ++ [l]) t = upt F wd nw kind l (tfold F wd nw kind a t)
  | [], l, t => rfl
  | b :: a, l, t => tfold_app a l _
section CRULES
variable {E : Nat × (Nat → Int32)} {d : Nat} {A : xH} {t : Nat} {code : List (Nat × Nat)} {cl : List (Nat → Nat)} {ask : List Nat} {wd : Nat → Int} {nw : Nat}
theorem bI_n : bI none = (-2000000000 : Int32) := rfl
theorem bI_1 {o : Option Int} (h : ∀ v, o = some v → -1000000000 ≤ v ∧ v ≤ 1000000000) : bI o = (1 : Int32) ↔ o = some 1 := by
  cases o with
  | none => exact ⟨fun q => absurd q (by decide), fun q => by cases q⟩
  | some v =>
    obtain ⟨a, b⟩ := h v rfl
    show tI v = 1 ↔ _
    rw [show (1 : Int32) = tI 1 by decide +kernel, tI_eq (by omega) (by omega) (by omega) (by omega)]
    simp
theorem bI_b {o : Option Int} (h : ∀ v, o = some v → -1000000000 ≤ v ∧ v ≤ 1000000000) : bI o = (-2000000000 : Int32) ↔ o = none := by
  cases o with
  | none => simp [bI]
  | some v =>
    obtain ⟨a, b⟩ := h v rfl
    show tI v = -2000000000 ↔ _
    rw [show (-2000000000 : Int32) = tI (-2000000000) by decide +kernel, tI_eq (by omega) (by omega) (by omega) (by omega)]
    constructor
    · intro q; omega
    · intro q; cases q
theorem wok_bd {F : List (Nat × Nat)} {a b : Nat} (h : wok F wd nw a b) : ∀ v, wth F wd nw a b = some v → -1000000000 ≤ v ∧ v ≤ 1000000000 := by
  intro v hv
  rcases h with rfl | ⟨hab, ⟨fu, v', h1, h2, h3⟩ | ⟨fu, h1⟩⟩
  · rw [wth_same] at hv; cases hv; omega
  · rw [wth_some (by omega) h1] at hv; cases hv; exact ⟨h2, h3⟩
  · rw [wth_none (by omega) h1] at hv; cases hv
/-- the worth of a clause's part, by the class -/
theorem c_wth {wa sa i p : Nat} {g : Nat → Nat} {fw k : Nat → Int32} {pp : Int32} (hpp : pp = nI p) (hT : TXT A t code cl ask) (hi : cl[i]? = some g) (hp : p ≤ 6) (hto : g (p + 1) ≤ 400) (hok : wok code wd nw (g p) (g (p + 1))) (hW : A[wa]? = some (ia nw fw)) (hK : A[sa]? = some (ia 64 k)) (hnw : nw ≤ 56) (hfw : ∀ j, j < nw → fw j = tI (wd j) ∧ -1000000000 ≤ wd j ∧ wd j ≤ 1000000000) (hne : wa ≠ sa) (hnt : ∀ q, t ≤ q → q < t + 5 → q ≠ sa) : ∃ k', xC E (d + 2) 96 [.ref t, .int (nI i), .int pp, .ref wa, .ref sa] A = some (some (.int (bI (wth code wd nw (g p) (g (p + 1))))), A.set sa (ia 64 k')) := by
  subst hpp
  have run : ∀ (fu : Nat) (r : Option (List Int)), g p ≤ g (p + 1) → rn code wd nw (g (p + 1)) fu (g p) [] = some r → (∀ (k' : Nat → Int32) (x : Int32), wRes k' r x → x = bI (wth code wd nw (g p) (g (p + 1)))) → ∃ k', xC E (d + 2) 96 [.ref t, .int (nI i), .int (nI p), .ref wa, .ref sa] A = some (some (.int (bI (wth code wd nw (g p) (g (p + 1))))), A.set sa (ia 64 k')) := by
    intro fu r hle hr hx
    obtain ⟨k', x, h1, h2⟩ := c_worth (E := E) (d := d) hT hi hp hle hto hW hK hnw hfw hne hnt hr
    exact ⟨k', by rw [h1, hx k' x h2]⟩
  rcases hok with h | ⟨hab, ⟨fu, v, h1, h2, h3⟩ | ⟨fu, h1⟩⟩
  · refine run 1 (some []) (by omega) (by unfold rn; rw [if_pos (by omega)]) (fun k' x hx => ?_)
    rw [hx.2, if_pos rfl, h, wth_same]
    decide +kernel
  · refine run fu _ (by omega) h1 (fun k' x hx => ?_)
    rw [hx.2, if_neg (List.cons_ne_nil _ _), wth_some (by omega) h1]
    have := hx.1.1 0 v rfl
    simp only [List.length_cons, List.length_nil] at this
    exact this
  · refine run fu _ (by omega) h1 (fun k' x hx => ?_)
    rw [wth_none (by omega) h1]; exact hx
end CRULES
