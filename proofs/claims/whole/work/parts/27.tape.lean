/-! ===== the class's tape reads as the mathematics does ===== -/
def kdI (bs : Nat → Nat) (n p : Nat) : Int32 := if n ≤ p then -1 else if isL (bs p) then -2 else if isD (bs p) then -3 else nI (bs p)
theorem wix_ok : ∀ (L : List (List Nat)) (i : Nat) (v : List Nat), 0 < i → (wix L i v = 0 ∧ v ∉ L) ∨ (i ≤ wix L i v ∧ L[wix L i v - i]? = some v)
  | [], i, v, h => Or.inl ⟨rfl, by simp⟩
  | w :: r, i, v, h => by
    unfold wix
    by_cases e : w = v
    · rw [if_pos e]; exact Or.inr ⟨Nat.le_refl _, by rw [Nat.sub_self, e]; rfl⟩
    · rw [if_neg e]
      rcases wix_ok r (i + 1) v (by omega) with ⟨h1, h2⟩ | ⟨h1, h2⟩
      · exact Or.inl ⟨h1, by simp [h2]; exact fun q => e q.symm⟩
      · refine Or.inr ⟨by omega, ?_⟩
        rw [show wix r (i + 1) v - i = (wix r (i + 1) v - (i + 1)) + 1 by omega]; exact h2
theorem wcd_WL : ∀ w, w < 25 → wcd (WL.getD w []) = w + 1 := by decide
theorem wcd_iff {v : List Nat} {w : Nat} (h1 : 1 ≤ w) (h2 : w ≤ 25) : wcd v = w ↔ v = WL.getD (w - 1) [] := by
  constructor
  · intro h
    rcases wix_ok WL 1 v (by omega) with ⟨a, _⟩ | ⟨a, b⟩
    · unfold wcd at h; omega
    · unfold wcd at h
      rw [h] at b
      rw [List.getD_eq_getElem?_getD, b]; rfl
  · intro h
    rw [h, wcd_WL _ (by omega)]; omega
theorem wcd_le (v : List Nat) : wcd v ≤ 25 := by
  rcases wix_ok WL 1 v (by omega) with ⟨a, _⟩ | ⟨a, b⟩
  · unfold wcd; omega
  · have := (List.getElem?_eq_some_iff.mp b).1
    have h : WL.length = 25 := rfl
    unfold wcd; omega
theorem i_neg : ∀ c, c < 256 → ¬ (-1 : Int32) = nI c ∧ ¬ (-2 : Int32) = nI c ∧ ¬ (-3 : Int32) = nI c := by decide +kernel
section KD
variable {bs : Nat → Nat} {n p : Nat}
theorem kd_sign (hbs : ∀ j, bs j < 256) {c : Nat} (hc : c < 256) (hl : isL c = false) (hd : isD c = false) : kdI bs n p = nI c ↔ tcd bs n p = 100 + c := by
  obtain ⟨a1, a2, a3⟩ := i_neg c hc
  have hw := wcd_le (wdB bs p (en bs n p))
  have hb := hbs p
  unfold kdI tcd
  by_cases h1 : n ≤ p
  · rw [if_pos h1, if_pos h1]; exact ⟨fun q => absurd q a1, fun q => by omega⟩
  · rw [if_neg h1, if_neg h1]
    cases h2 : isL (bs p) with
    | true =>
      rw [if_pos rfl, if_pos rfl]; exact ⟨fun q => absurd q a2, fun q => by omega⟩
    | false =>
      simp only [Bool.false_eq_true, if_false]
      cases h3 : isD (bs p) with
      | true => rw [if_pos rfl, if_pos rfl]; exact ⟨fun q => absurd q a3, fun q => by omega⟩
      | false =>
        simp only [Bool.false_eq_true, if_false]; rw [nI_eq (by omega) (by omega)]; omega
theorem kd_dig (hbs : ∀ j, bs j < 256) : kdI bs n p = -3 ↔ tcd bs n p = 50 := by
  obtain ⟨a1, a2, a3⟩ := i_neg (bs p) (hbs p)
  have hw := wcd_le (wdB bs p (en bs n p))
  unfold kdI tcd
  by_cases h1 : n ≤ p
  · rw [if_pos h1, if_pos h1]; exact ⟨fun q => absurd q (by decide), fun q => by omega⟩
  · rw [if_neg h1, if_neg h1]
    cases h2 : isL (bs p) with
    | true => rw [if_pos rfl, if_pos rfl]; exact ⟨fun q => absurd q (by decide), fun q => by omega⟩
    | false =>
      simp only [Bool.false_eq_true, if_false]
      cases h3 : isD (bs p) with
      | true => rw [if_pos rfl, if_pos rfl]; simp
      | false => simp only [Bool.false_eq_true, if_false]; exact ⟨fun q => absurd q.symm a3, fun q => by omega⟩
theorem kd_end (hbs : ∀ j, bs j < 256) : kdI bs n p = -1 ↔ n ≤ p := by
  obtain ⟨a1, a2, a3⟩ := i_neg (bs p) (hbs p)
  unfold kdI
  by_cases h1 : n ≤ p
  · rw [if_pos h1]; simp [h1]
  · rw [if_neg h1]
    refine ⟨fun q => ?_, fun q => absurd q h1⟩
    split at q
    · exact absurd q (by decide)
    · split at q
      · exact absurd q (by decide)
      · exact absurd q.symm a1
end KD
section NEXT
variable {E : Nat × (Nat → Int32)} {d : Nat} {A : xH} {tl : Nat → Int32} {ar : Nat → Nat → Int32} {bs : Nat → Nat} {n : Nat}
theorem nx_sk (hA : 43 ≤ A.length) (hn : n ≤ 400) (hb : ∀ j, j < n → ar 4 j = nI (bs j)) (hbs : ∀ j, bs j < 256) : ∀ (c p : Nat) (fl : Nat → Int32), p + c = n → fl 3 = nI n → fl 7 = nI p → ∃ fl', xD E (d + 1) 72 8 [.ref 36] [] (tw A fl tl ar) = xD E (d + 1) 72 46 [.ref 36] [] (tw A fl' tl ar) ∧ fl' 7 = nI (skp isB bs c p) ∧ ∀ j, j ≠ 7 → fl' j = fl j
  | 0, p, fl, hc, h3, h7 => by
    refine ⟨fl, ?_, h7, fun _ _ => rfl⟩
    rw [e72_8]
    simp (disch := omega) only [t_k36, t_k37, t_r36_0, t_r36_1, t_g36_2, t_p36_2, t_g36_3, t_p36_3, t_g36_4, t_p36_4, t_g36_5, t_p36_5, t_g36_6, t_p36_6, t_g36_7, t_p36_7, t_g36_8, t_p36_8, t_g36_9, t_p36_9, t_r37_0, t_r37_1, t_r37_2, t_r37_3, t_g37_4, t_p37_4, t_g37_5, t_p37_5, t_g37_6, t_p37_6, t_a38, t_s38, t_l38, t_a39, t_s39, t_l39, t_a40, t_s40, t_l40, t_a41, t_s41, t_l41, t_a42, t_s42, t_l42, Option.bind_some, h3, h7, nI_leI]
    rw [if_pos (by omega)]
  | c + 1, p, fl, hc, h3, h7 => by
    rw [e72_8]
    have hbp := hbs p
    simp (disch := omega) only [t_k36, t_k37, t_r36_0, t_r36_1, t_g36_2, t_p36_2, t_g36_3, t_p36_3, t_g36_4, t_p36_4, t_g36_5, t_p36_5, t_g36_6, t_p36_6, t_g36_7, t_p36_7, t_g36_8, t_p36_8, t_g36_9, t_p36_9, t_r37_0, t_r37_1, t_r37_2, t_r37_3, t_g37_4, t_p37_4, t_g37_5, t_p37_5, t_g37_6, t_p37_6, t_a38, t_s38, t_l38, t_a39, t_s39, t_l39, t_a40, t_s40, t_l40, t_a41, t_s41, t_l41, t_a42, t_s42, t_l42, Option.bind_some, h3, h7, nI_leI]
    rw [if_neg (by omega), hb p (by omega)]
    simp (disch := omega) only [zl, nI_eq, nI_add]
    unfold skp isB
    by_cases e : bs p = 32
    · rw [if_pos e]
      obtain ⟨fl', k1, k2, k3⟩ := nx_sk hA hn hb hbs c (p + 1) (upd fl 7 (nI (p + 1))) (by omega) (by rw [upd_n (by omega)]; exact h3) upd_s
      refine ⟨fl', k1, ?_, fun j hj => by rw [k3 j hj, upd_n hj]⟩
      rw [k2, if_pos (by simpa using e)]; rfl
    · rw [if_neg e]
      exact ⟨fl, rfl, by rw [if_neg (by simpa using e)]; exact h7, fun _ _ => rfl⟩
theorem nx_l (hA : 43 ≤ A.length) (hn : n ≤ 400) (hb : ∀ j, j < n → ar 4 j = nI (bs j)) (hbs : ∀ j, bs j < 256) : ∀ (c p : Nat) (fl : Nat → Int32), p + c = n → fl 3 = nI n → fl 8 = nI p → ∃ fl', xD E (d + 1) 72 112 [.ref 36] [] (tw A fl tl ar) = some (none, tw A fl' tl ar) ∧ fl' 8 = nI (skp isL bs c p) ∧ ∀ j, j ≠ 8 → fl' j = fl j
  | 0, p, fl, hc, h3, h7 => by
    refine ⟨fl, ?_, h7, fun _ _ => rfl⟩
    rw [e72_112]
    simp (disch := omega) only [t_k36, t_k37, t_r36_0, t_r36_1, t_g36_2, t_p36_2, t_g36_3, t_p36_3, t_g36_4, t_p36_4, t_g36_5, t_p36_5, t_g36_6, t_p36_6, t_g36_7, t_p36_7, t_g36_8, t_p36_8, t_g36_9, t_p36_9, t_r37_0, t_r37_1, t_r37_2, t_r37_3, t_g37_4, t_p37_4, t_g37_5, t_p37_5, t_g37_6, t_p37_6, t_a38, t_s38, t_l38, t_a39, t_s39, t_l39, t_a40, t_s40, t_l40, t_a41, t_s41, t_l41, t_a42, t_s42, t_l42, Option.bind_some, h3, h7, nI_leI]
    rw [if_pos (by omega)]
  | c + 1, p, fl, hc, h3, h7 => by
    rw [e72_112]
    have hbp := hbs p
    simp (disch := omega) only [t_k36, t_k37, t_r36_0, t_r36_1, t_g36_2, t_p36_2, t_g36_3, t_p36_3, t_g36_4, t_p36_4, t_g36_5, t_p36_5, t_g36_6, t_p36_6, t_g36_7, t_p36_7, t_g36_8, t_p36_8, t_g36_9, t_p36_9, t_r37_0, t_r37_1, t_r37_2, t_r37_3, t_g37_4, t_p37_4, t_g37_5, t_p37_5, t_g37_6, t_p37_6, t_a38, t_s38, t_l38, t_a39, t_s39, t_l39, t_a40, t_s40, t_l40, t_a41, t_s41, t_l41, t_a42, t_s42, t_l42, Option.bind_some, h3, h7, nI_leI]
    rw [if_neg (by omega), hb p (by omega)]
    simp (disch := omega) only [zl, nI_ltI, nI_add]
    unfold skp
    by_cases e : bs p < 97
    · rw [if_pos e]
      exact ⟨fl, rfl, by rw [if_neg (by simp [isL]; omega)]; exact h7, fun _ _ => rfl⟩
    · rw [if_neg e]
      by_cases e2 : 122 < bs p
      · rw [if_pos e2]
        exact ⟨fl, rfl, by rw [if_neg (by simp [isL]; omega)]; exact h7, fun _ _ => rfl⟩
      · rw [if_neg e2]
        obtain ⟨fl', k1, k2, k3⟩ := nx_l hA hn hb hbs c (p + 1) (upd fl 8 (nI (p + 1))) (by omega) (by rw [upd_n (by omega)]; exact h3) upd_s
        refine ⟨fl', k1, ?_, fun j hj => by rw [k3 j hj, upd_n hj]⟩
        rw [k2, if_pos (by simp [isL]; omega)]
theorem nx_d (hA : 43 ≤ A.length) (hn : n ≤ 400) (hb : ∀ j, j < n → ar 4 j = nI (bs j)) (hbs : ∀ j, bs j < 256) : ∀ (c p a : Nat) (fl : Nat → Int32), p + c = n → fl 3 = nI n → fl 8 = nI p → fl 9 = nI a → a ≤ 1001 → ∃ fl', xD E (d + 1) 72 198 [.ref 36] [] (tw A fl tl ar) = some (none, tw A fl' tl ar) ∧ fl' 8 = nI (skp isD bs c p) ∧ fl' 9 = nI (nuw bs c p a) ∧ ∀ j, j ≠ 8 → j ≠ 9 → fl' j = fl j
  | 0, p, a, fl, hc, h3, h7, h9, ha => by
    refine ⟨fl, ?_, h7, h9, fun _ _ _ => rfl⟩
    rw [e72_198]
    simp (disch := omega) only [t_k36, t_k37, t_r36_0, t_r36_1, t_g36_2, t_p36_2, t_g36_3, t_p36_3, t_g36_4, t_p36_4, t_g36_5, t_p36_5, t_g36_6, t_p36_6, t_g36_7, t_p36_7, t_g36_8, t_p36_8, t_g36_9, t_p36_9, t_r37_0, t_r37_1, t_r37_2, t_r37_3, t_g37_4, t_p37_4, t_g37_5, t_p37_5, t_g37_6, t_p37_6, t_a38, t_s38, t_l38, t_a39, t_s39, t_l39, t_a40, t_s40, t_l40, t_a41, t_s41, t_l41, t_a42, t_s42, t_l42, Option.bind_some, h3, h7, nI_leI]
    rw [if_pos (by omega)]
  | c + 1, p, a, fl, hc, h3, h7, h9, ha => by
    rw [e72_198]
    have hbp := hbs p
    simp (disch := omega) only [t_k36, t_k37, t_r36_0, t_r36_1, t_g36_2, t_p36_2, t_g36_3, t_p36_3, t_g36_4, t_p36_4, t_g36_5, t_p36_5, t_g36_6, t_p36_6, t_g36_7, t_p36_7, t_g36_8, t_p36_8, t_g36_9, t_p36_9, t_r37_0, t_r37_1, t_r37_2, t_r37_3, t_g37_4, t_p37_4, t_g37_5, t_p37_5, t_g37_6, t_p37_6, t_a38, t_s38, t_l38, t_a39, t_s39, t_l39, t_a40, t_s40, t_l40, t_a41, t_s41, t_l41, t_a42, t_s42, t_l42, Option.bind_some, h3, h7, h9, nI_leI]
    rw [if_neg (by omega), hb p (by omega)]
    simp (disch := omega) only [zl, nI_ltI, nI_add, pk_mul]
    unfold skp nuw
    by_cases e : bs p < 48
    · rw [if_pos e]
      exact ⟨fl, rfl, by rw [if_neg (by simp [isD]; omega)]; exact h7, by rw [if_neg (by simp [isD]; omega)]; exact h9, fun _ _ _ => rfl⟩
    · rw [if_neg e]
      by_cases e2 : 57 < bs p
      · rw [if_pos e2]
        exact ⟨fl, rfl, by rw [if_neg (by simp [isD]; omega)]; exact h7, by rw [if_neg (by simp [isD]; omega)]; exact h9, fun _ _ _ => rfl⟩
      · rw [if_neg e2, pk_sub (by omega), n_min (by omega) (by omega), upd_n (by omega), h7, nI_add]
        obtain ⟨fl', k1, k2, k3, k4⟩ := nx_d hA hn hb hbs c (p + 1) (min (a * 10 + bs p - 48) 1001) (upd (upd fl 9 (nI (min (a * 10 + bs p - 48) 1001))) 8 (nI (p + 1))) (by omega) (by rw [upd_n (by omega), upd_n (by omega)]; exact h3) upd_s (by rw [upd_n (by omega)]; exact upd_s) (by omega)
        refine ⟨fl', k1, ?_, ?_, fun j hj hj2 => by rw [k4 j hj hj2, upd_n hj, upd_n hj2]⟩
        · rw [k2, if_pos (by simp [isD]; omega)]
        · rw [k3, if_pos (by simp [isD]; omega), show a * 10 + bs p - 48 = a * 10 + (bs p - 48) by omega]
theorem c_next (hA : 43 ≤ A.length) (hn : n ≤ 400) (hb : ∀ j, j < n → ar 4 j = nI (bs j)) (hbs : ∀ j, bs j < 256) {fl : Nat → Int32} {a : Nat} (h3 : fl 3 = nI n) (h8 : fl 8 = nI a) (ha : a ≤ n) : ∃ fl', xC E (d + 1) 72 [.ref 36] (tw A fl tl ar) = some (none, tw A fl' tl ar) ∧ fl' 6 = kdI bs n (sk bs n a) ∧ fl' 7 = nI (sk bs n a) ∧ fl' 8 = nI (en bs n (sk bs n a)) ∧ fl' 9 = nI (tvl bs n (sk bs n a)) ∧ ∀ j, j < 6 → fl' j = fl j := by
  have hs := sk_le (bs := bs) ha
  obtain ⟨f1, k1, k2, k3⟩ := nx_sk (E := E) (d := d) (tl := tl) hA hn hb hbs (n - a) a (upd fl 7 (nI a)) (by omega) (by rw [upd_n (by omega)]; exact h3) upd_s
  have g3 : f1 3 = nI n := by rw [k3 3 (by omega), upd_n (by omega)]; exact h3
  have gj : ∀ j, j < 6 → f1 j = fl j := fun j hj => by rw [k3 j (by omega), upd_n (by omega)]
  change f1 7 = nI (sk bs n a) at k2
  generalize sk bs n a = p at hs k2 ⊢
  have hbp := hbs p
  rw [k72 _ _ _ _ (t_k36 hA)]
  simp (disch := omega) only [t_k36, t_k37, t_r36_0, t_r36_1, t_g36_2, t_p36_2, t_g36_3, t_p36_3, t_g36_4, t_p36_4, t_g36_5, t_p36_5, t_g36_6, t_p36_6, t_g36_7, t_p36_7, t_g36_8, t_p36_8, t_g36_9, t_p36_9, t_r37_0, t_r37_1, t_r37_2, t_r37_3, t_g37_4, t_p37_4, t_g37_5, t_p37_5, t_g37_6, t_p37_6, t_a38, t_s38, t_l38, t_a39, t_s39, t_l39, t_a40, t_s40, t_l40, t_a41, t_s41, t_l41, t_a42, t_s42, t_l42, Option.bind_some, h8]
  rw [k1, e72_46]
  simp (disch := omega) only [t_k36, t_k37, t_r36_0, t_r36_1, t_g36_2, t_p36_2, t_g36_3, t_p36_3, t_g36_4, t_p36_4, t_g36_5, t_p36_5, t_g36_6, t_p36_6, t_g36_7, t_p36_7, t_g36_8, t_p36_8, t_g36_9, t_p36_9, t_r37_0, t_r37_1, t_r37_2, t_r37_3, t_g37_4, t_p37_4, t_g37_5, t_p37_5, t_g37_6, t_p37_6, t_a38, t_s38, t_l38, t_a39, t_s39, t_l39, t_a40, t_s40, t_l40, t_a41, t_s41, t_l41, t_a42, t_s42, t_l42, Option.bind_some, k2, upd, g3, if_true, if_false, nI_ltI, reduceCtorEq, Nat.reduceEqDiff]
  by_cases h1 : p < n
  · rw [if_pos h1, hb p h1]
    simp (disch := omega) only [zl, nI_ltI]
    unfold kdI en tvl
    have hnp : ¬ n ≤ p := by omega
    simp only [if_neg hnp]
    have toD : ∀ f2 : Nat → Int32, f2 3 = nI n → f2 7 = nI p → f2 8 = nI p → f2 9 = nI 0 → (∀ j, j < 6 → f2 j = fl j) → isL (bs p) = false → ∃ fl', xD E (d + 1) 72 164 [.ref 36] [] (tw A f2 tl ar) = some (none, tw A fl' tl ar) ∧ fl' 6 = (if isD (bs p) then -3 else nI (bs p)) ∧ fl' 7 = nI p ∧ fl' 8 = nI (if isD (bs p) then skp isD bs (n - p) p else p + 1) ∧ fl' 9 = nI (if isD (bs p) then nuw bs (n - p) p 0 else 0) ∧ ∀ j, j < 6 → fl' j = fl j := by
      intro f2 q3 q7 q8 q9 qj hl
      have single : isD (bs p) = false → ∃ fl', xD E (d + 1) 72 280 [.ref 36] [] (tw A f2 tl ar) = some (none, tw A fl' tl ar) ∧ fl' 6 = (if isD (bs p) then -3 else nI (bs p)) ∧ fl' 7 = nI p ∧ fl' 8 = nI (if isD (bs p) then skp isD bs (n - p) p else p + 1) ∧ fl' 9 = nI (if isD (bs p) then nuw bs (n - p) p 0 else 0) ∧ ∀ j, j < 6 → fl' j = fl j := by
        intro hd
        rw [hd]
        refine ⟨upd (upd f2 6 (nI (bs p))) 8 (nI (p + 1)), ?_, ?_, ?_, ?_, ?_, fun j hj => ?_⟩
        · rw [e72_280]
          simp (disch := omega) only [t_k36, t_k37, t_r36_0, t_r36_1, t_g36_2, t_p36_2, t_g36_3, t_p36_3, t_g36_4, t_p36_4, t_g36_5, t_p36_5, t_g36_6, t_p36_6, t_g36_7, t_p36_7, t_g36_8, t_p36_8, t_g36_9, t_p36_9, t_r37_0, t_r37_1, t_r37_2, t_r37_3, t_g37_4, t_p37_4, t_g37_5, t_p37_5, t_g37_6, t_p37_6, t_a38, t_s38, t_l38, t_a39, t_s39, t_l39, t_a40, t_s40, t_l40, t_a41, t_s41, t_l41, t_a42, t_s42, t_l42, Option.bind_some, q7, hb p h1, upd, q8, if_false, reduceCtorEq, Nat.reduceEqDiff, zl, nI_add]
        · rw [upd_n (by omega)]; exact upd_s
        · rw [upd_n (by omega), upd_n (by omega)]; exact q7
        · exact upd_s
        · rw [upd_n (by omega), upd_n (by omega)]; exact q9
        · rw [upd_n (by omega), upd_n (by omega)]; exact qj j hj
      rw [e72_164]
      simp (disch := omega) only [t_k36, t_k37, t_r36_0, t_r36_1, t_g36_2, t_p36_2, t_g36_3, t_p36_3, t_g36_4, t_p36_4, t_g36_5, t_p36_5, t_g36_6, t_p36_6, t_g36_7, t_p36_7, t_g36_8, t_p36_8, t_g36_9, t_p36_9, t_r37_0, t_r37_1, t_r37_2, t_r37_3, t_g37_4, t_p37_4, t_g37_5, t_p37_5, t_g37_6, t_p37_6, t_a38, t_s38, t_l38, t_a39, t_s39, t_l39, t_a40, t_s40, t_l40, t_a41, t_s41, t_l41, t_a42, t_s42, t_l42, Option.bind_some, q7, hb p h1, zl, nI_ltI]
      by_cases e1 : bs p < 48
      · rw [if_pos e1]; exact single (by simp [isD]; omega)
      · rw [if_neg e1]
        by_cases e2 : 57 < bs p
        · rw [if_pos e2]; exact single (by simp [isD]; omega)
        · rw [if_neg e2]
          have hd : isD (bs p) = true := by simp [isD]; omega
          rw [hd]
          obtain ⟨f3, r1, r2, r3, r4⟩ := nx_d (E := E) (d := d) (tl := tl) hA hn hb hbs (n - p) p 0 (upd f2 6 (-3)) (by omega) (by rw [upd_n (by omega)]; exact q3) (by rw [upd_n (by omega)]; exact q8) (by rw [upd_n (by omega)]; exact q9) (by omega)
          refine ⟨f3, r1, ?_, ?_, r2, r3, fun j hj => ?_⟩
          · rw [r4 6 (by omega) (by omega)]; exact upd_s
          · rw [r4 7 (by omega) (by omega), upd_n (by omega)]; exact q7
          · rw [r4 j (by omega) (by omega), upd_n (by omega)]; exact qj j hj
    have base : ∀ j, j < 6 → (upd (upd f1 8 (nI p)) 9 (nI 0)) j = fl j := fun j hj => by rw [upd_n (by omega), upd_n (by omega)]; exact gj j hj
    have b3 : (upd (upd f1 8 (nI p)) 9 (nI 0)) 3 = nI n := by rw [upd_n (by omega), upd_n (by omega)]; exact g3
    have b7 : (upd (upd f1 8 (nI p)) 9 (nI 0)) 7 = nI p := by rw [upd_n (by omega), upd_n (by omega)]; exact k2
    have b8 : (upd (upd f1 8 (nI p)) 9 (nI 0)) 8 = nI p := by rw [upd_n (by omega)]; exact upd_s
    by_cases e1 : bs p < 97
    · have hl : isL (bs p) = false := by simp [isL]; omega
      rw [if_pos e1, hl]
      exact toD (upd (upd f1 8 (nI p)) 9 (nI 0)) b3 b7 b8 upd_s base hl
    · rw [if_neg e1]
      by_cases e2 : 122 < bs p
      · have hl : isL (bs p) = false := by simp [isL]; omega
        rw [if_pos e2, hl]
        exact toD (upd (upd f1 8 (nI p)) 9 (nI 0)) b3 b7 b8 upd_s base hl
      · have hl : isL (bs p) = true := by simp [isL]; omega
        have hd : isD (bs p) = false := by simp [isD]; omega
        rw [if_neg e2, hl, hd]
        obtain ⟨f3, r1, r2, r3⟩ := nx_l (E := E) (d := d) (tl := tl) hA hn hb hbs (n - p) p (upd (upd (upd f1 8 (nI p)) 9 (nI 0)) 6 (-2)) (by omega) (by rw [upd_n (by omega)]; exact b3) (by rw [upd_n (by omega)]; exact b8)
        refine ⟨f3, r1, ?_, ?_, r2, ?_, fun j hj => ?_⟩
        · rw [r3 6 (by omega)]; exact upd_s
        · rw [r3 7 (by omega), upd_n (by omega)]; exact b7
        · rw [r3 9 (by omega), upd_n (by omega)]; exact upd_s
        · rw [r3 j (by omega), upd_n (by omega)]; exact base j hj
  · rw [if_neg h1]
    refine ⟨_, rfl, ?_, ?_, ?_, ?_, fun j hj => ?_⟩
    · unfold kdI; rw [if_pos (by omega)]; exact upd_s
    · rw [upd_n (by omega), upd_n (by omega), upd_n (by omega)]; exact k2
    · unfold en; rw [if_pos (by omega), upd_n (by omega), upd_n (by omega)]; exact upd_s
    · unfold tvl; rw [if_pos (by omega), upd_n (by omega)]; exact upd_s
    · rw [upd_n (by omega), upd_n (by omega), upd_n (by omega)]; exact gj j hj
end NEXT
