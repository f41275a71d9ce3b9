/-! ===== sums: the reference's walk over tokens comes to what the code does ===== -/
section ESUM
variable {E : Nat × (Nat → Int32)} {d : Nat} {A : xH} {fl : Nat → Int32} {ar : Nat → Nat → Int32} {al : Nat → Nat → Int64} {T : Nat → Nat × Nat} {N g0 : Nat} {o : Bool} {F : List (Nat × Nat)} {wd : Nat → Int} {nw to : Nat} {askF : List Nat} {LV : Nat → Nat → Int} {f : PX → PR}
/-- what words tell -/
def lvR (E : Nat × (Nat → Int32)) (A : xH) (ar : Nat → Nat → Int32) (al : Nat → Nat → Int64) (fl : Nat → Int32) (o : Bool) (wd : Nat → Int) (nw : Nat) (askF : List Nat) (LV : Nat → Nat → Int) : Prop := (∀ c k, -1000000000 ≤ LV c k ∧ LV c k ≤ 1000000000) ∧ (o = false → nw = 7 ∧ ∀ c w, wdL c = some w → ar 26 (c - 7) = tI (LV c 0) ∧ wd w = LV c 0) ∧ (o = true → nw = 56 ∧ (∀ (d : Nat) (f1 : Nat → Int32) (c k : Nat), 1 ≤ d → eF fl f1 → 12 ≤ c → c ≤ 19 → (c = 19 → k < 1000) → (c = 12 → k < 24) → xC E (d + 6) 226 [.ref 48, .int (nI c), .int (nI k)] (mw A f1 ar al) = some (some (.int (tI (LV c k))), mw A f1 ar al)) ∧ (∀ c w, wdO c = some w → wd w = LV c 0) ∧ ∀ (j q : Nat), askF[j]? = some q → wd (6 + j) = if q < 1000 then LV 19 q else LV 12 (q - 1000))
/-- code and asked of y are those of the text, from x on -/
def agr (F : List (Nat × Nat)) (askF : List Nat) (to : Nat) (x y : PX) : Prop := (∀ j, x.2.2.1.length ≤ j → j < y.2.2.1.length → F[j]? = y.2.2.1[j]?) ∧ y.2.2.1.length ≤ to ∧ to ≤ 400 ∧ ∀ (j q : Nat), y.2.2.2[j]? = some q → askF[j]? = some q
theorem agr.l {x y z : PX} (h : agr F askF to x z) (hx : xle N x y) (hy : xle N y z) : agr F askF to x y := by
  obtain ⟨h1, h2, h3, h4⟩ := h
  obtain ⟨a1, a2, a3, a4, a5, a6, a7, a8, a9, a10⟩ := hy
  refine ⟨fun j q1 q2 => by rw [h1 j q1 (by omega), a5 j q2], by omega, h3, fun j q hq => h4 j q ?_⟩
  rw [a10 j (List.getElem?_eq_some_iff.mp hq).1]; exact hq
theorem agr.r {x y z : PX} (h : agr F askF to x z) (hx : xle N x y) : agr F askF to y z := by
  obtain ⟨h1, h2, h3, h4⟩ := h
  have := hx.2.2.1
  exact ⟨fun j q1 q2 => h1 j (by omega) q2, h2, h3, h4⟩
/-- a reader of sums and the reference's walk -/
def EV (E : Nat × (Nat → Int32)) (A : xH) (ar : Nat → Nat → Int32) (al : Nat → Nat → Int64) (N g0 : Nat) (o : Bool) (F : List (Nat × Nat)) (wd : Nat → Int) (nw to : Nat) (askF : List Nat) (LV : Nat → Nat → Int) (f : PX → PR) (m D K : Nat) : Prop := ∀ (x y : PX) (fl : Nat → Int32) (lv : Bool) (st : List Int), f x = .inr y → okx N x → agr F askF to x y → st.length + K ≤ 55 → lvR E A ar al fl o wd nw askF LV → est N g0 o fl → fl 22 = nI (g0 + x.1) → (fl 24 = 0 ∨ fl 24 = 1) → ∃ fl' r, xC E D m [.ref 48, .int (bB lv)] (mw A fl ar al) = some (some (.long r), mw A fl' ar al) ∧ eF fl fl' ∧ fl' 22 = nI (g0 + y.1) ∧ OUT F wd nw to lv (fl 24) x.2.2.1.length st r (fl' 24) y.2.2.1.length st
theorem lvR.fr {f1 : Nat → Int32} (h : lvR E A ar al fl o wd nw askF LV) (g : eF fl f1) : lvR E A ar al f1 o wd nw askF LV := by
  obtain ⟨h1, h2, h3⟩ := h
  refine ⟨h1, h2, fun q => ?_⟩
  obtain ⟨a, b, c⟩ := h3 q
  exact ⟨a, fun d f2 c' k h1 h' => b d f2 c' k h1 (g.tr h'), c⟩
theorem OUT.dead {lv : Bool} {b r' : Int32} {i j : Nat} {st st0 : List Int} (h : ¬ (lv = true ∧ b = 0)) (hb : b = 0 ∨ b = 1) (hr : r' = b) : OUT F wd nw to lv b i st 0 r' j st0 := ⟨by rw [hr]; exact hb, fun _ => ⟨rfl, hr⟩, fun q => absurd q h⟩
theorem OUT.live {b' : Int32} {i j : Nat} {st st0 : List Int} {v : Int} (hb : b' = 0) (h1 : -1000000000 ≤ v) (h2 : v ≤ 1000000000) (h : RS1 F wd nw to i st j (v :: st0)) : OUT F wd nw to true 0 i st (lI v) b' j st0 := ⟨Or.inl hb, fun q => absurd ⟨rfl, rfl⟩ q, fun _ => Or.inr ⟨v, hb, rfl, h1, h2, h⟩⟩
theorem OUT.brk {b' : Int32} {i j : Nat} {st st0 : List Int} (hb : b' = 1) (h : RB1 F wd nw to i st) : OUT F wd nw to true 0 i st 0 b' j st0 := ⟨Or.inr hb, fun q => absurd ⟨rfl, rfl⟩ q, fun _ => Or.inl ⟨hb, rfl, h⟩⟩
theorem lI_nat {w : Nat} (h : w ≤ 2000000000) : (nI w).toInt64 = lI (w : Int) := by
  rw [← tI_nat, tI_l (by omega) (by omega)]
/-- leaves -/
theorem ev_leaf (hA : 69 ≤ A.length) (hT : evR T N g0 ar) (hTl : ∀ i, (T i).1 ≠ 0 → i < N) (hd : o = true → 1 ≤ d) {x y : PX} {lv : Bool} {st : List Int} (hf : pLeaf T o x = .inr y) (ht : ¬ (T x.1).1 = 191) (hx : okx N x) (ha : agr F askF to x y) (hst : st.length + 2 ≤ 55) (hl : lvR E A ar al fl o wd nw askF LV) (he : est N g0 o fl) (h22 : fl 22 = nI (g0 + x.1)) (h24 : fl 24 = 0 ∨ fl 24 = 1) : ∃ fl' r, xC E (d + 7) 225 [.ref 48, .int (bB lv)] (mw A fl ar al) = some (some (.long r), mw A fl' ar al) ∧ eF fl fl' ∧ fl' 22 = nI (g0 + y.1) ∧ OUT F wd nw to lv (fl 24) x.2.2.1.length st r (fl' 24) y.2.2.1.length st := by
  obtain ⟨t1, t2, t3, t4, t5⟩ := id hT
  obtain ⟨l1, l2, l3⟩ := hl
  have hx1 := hx.1
  have htc := t4 x.1
  obtain ⟨a1, a2, a3, a4⟩ := ha
  rw [k225 _ _ _ _ _ (m_k48 hA), m_sign (c := 91) (cc := 91) rfl, xI_s, Option.bind_some]
  dsimp only
  rw [m_pass0 hA hT he (by omega) h22 rfl (by omega) ht, xI_s, Option.bind_some]
  dsimp only
  rw [i_if0, m_g48_22 hA, Option.bind_some, h22, m_codeAt hA hT he (by omega), xI_s, Option.bind_some]
  dsimp only
  rw [m_g48_22 hA, Option.bind_some, h22, nI_1, m_p48_22 hA, Option.bind_some, m_g48_25 hA, Option.bind_some, upd_n (by omega), he.2]
  -- the end of a leaf that is one token or two
  have fin : ∀ (f1 : Nat → Int32) (i3 : Nat) (n1 : Nat) (op a : Nat) (v : Int), eF fl f1 → f1 22 = nI (g0 + n1) → f1 24 = fl 24 → n1 = y.1 → y.2.2.1 = x.2.2.1 ++ [(op, a)] → -1000000000 ≤ v → v ≤ 1000000000 → (F[x.2.2.1.length]? = some (op, a) → RS1 F wd nw to x.2.2.1.length st (x.2.2.1.length + 1) (v :: st)) → ((T x.1).1 = 50 → nI i3 = 0 ∧ n1 = x.1 + 1 ∧ ∃ w, ar 2 (3788 + (g0 + x.1)) = nI w ∧ v = w ∧ w ≤ 1000) → ((T x.1).1 ≠ 50 → o = false → ar 26 ((T x.1).1 - 7) = tI v ∧ 7 ≤ (T x.1).1 ∧ (T x.1).1 ≤ 13) → ((T x.1).1 ≠ 50 → o = true → xC E (d + 6) 226 [.ref 48, .int (nI (T x.1).1), .int (nI i3)] (mw A f1 ar al) = some (some (.int (tI v)), mw A f1 ar al)) → ∃ fl' r, xD E (d + 7) 225 94 [.ref 48, .int (bB lv), .int (nI (T x.1).1), .int (nI i3)] [] (mw A f1 ar al) = some (some (.long r), mw A fl' ar al) ∧ eF fl fl' ∧ fl' 22 = nI (g0 + y.1) ∧ OUT F wd nw to lv (fl 24) x.2.2.1.length st r (fl' 24) y.2.2.1.length st := by
    intro f1 i3 n1 op a v hF1 hf22 hf24 hn1 hy hv1 hv2 hrs h50 hlaw hord
    have hyl : y.2.2.1.length = x.2.2.1.length + 1 := by rw [hy]; simp
    have hFx : F[x.2.2.1.length]? = some (op, a) := by
      rw [a1 _ (Nat.le_refl _) (by omega), hy, List.getElem?_append_right (Nat.le_refl _), Nat.sub_self]; rfl
    have hRS := hrs hFx
    rw [e225_94]
    cases lv with
    | false =>
      rw [show bB false = 0 from rfl, i_if0]
      exact ⟨f1, 0, rfl, hF1, by rw [hf22, hn1], OUT.dead (fun q => by cases q.1) h24 hf24⟩
    | true =>
      rw [show bB true = 1 from rfl, i_if, m_g48_24 hA, Option.bind_some, hf24]
      rcases h24 with h24 | h24
      · rw [h24, i_if0]
        have out : OUT F wd nw to true 0 x.2.2.1.length st (lI v) (f1 24) y.2.2.1.length st := OUT.live (by rw [hf24]; exact h24) hv1 hv2 (by rw [hyl]; exact hRS)
        by_cases e50 : (T x.1).1 = 50
        · obtain ⟨_, hn, w, hw, hvw, hwl⟩ := h50 e50
          rw [if_pos (show nI (T x.1).1 = (50 : Int32) by rw [e50]; rfl), m_r48_2 hA, Option.bind_some, m_g48_22 hA, Option.bind_some, hf22, zl, nI_add, show (1 : Int32) = nI 1 from rfl, pk_sub (by omega), show 3788 + (g0 + n1) - 1 = 3788 + (g0 + x.1) by omega, m_a50 hA (by have := hTl x.1 (by omega); omega), Option.bind_some, hw, lI_nat (by omega), ← hvw]
          exact ⟨f1, _, rfl, hF1, by rw [hf22, hn1], out⟩
        · rw [if_neg (show ¬ nI (T x.1).1 = (50 : Int32) from fun q => e50 ((nI_eq (b := 50) (by omega) (by omega)).mp q)), m_g48_25 hA, Option.bind_some, hF1 25 (by omega) (by omega), he.2]
          cases o with
          | false =>
            obtain ⟨q1, q2, q3⟩ := hlaw e50 rfl
            simp only [Bool.false_eq_true, if_false, if_true]
            rw [m_r48_26 hA, Option.bind_some, show (7 : Int32) = nI 7 from rfl, pk_sub q2, m_a60 hA (by omega), Option.bind_some, q1, tI_l (by omega) (by omega)]
            exact ⟨f1, _, rfl, hF1, by rw [hf22, hn1], out⟩
          | true =>
            simp only [if_true]
            rw [i_if, hord e50 rfl, xI_s, Option.bind_some]
            dsimp only
            rw [tI_l (by omega) (by omega)]
            exact ⟨f1, _, rfl, hF1, by rw [hf22, hn1], out⟩
      · rw [h24, i_if]
        exact ⟨f1, 0, rfl, hF1, by rw [hf22, hn1], OUT.dead (fun q => by cases q.2) (Or.inr rfl) (by rw [hf24]; exact h24)⟩
  have f1e : eF fl (upd fl 22 (nI (g0 + x.1 + 1))) := e22
  have f124 : upd fl 22 (nI (g0 + x.1 + 1)) 24 = fl 24 := upd_n (by omega)
  unfold pLeaf at hf
  by_cases h0 : x.2.1 = 50
  · rw [if_pos h0] at hf; cases hf
  rw [if_neg h0] at hf
  have hpo := hx.2.2.1
  have hak := hx.2.2.2
  by_cases hnum : (T x.1).1 = 50 ∧ (T x.1).2 ≤ 1000
  · rw [if_pos hnum] at hf
    cases hf
    have hlt := hTl x.1 (by omega)
    obtain ⟨_, w, hw, hwm⟩ := t5 x.1 hlt
    have hww : w = (T x.1).2 := by omega
    have go94 : (if (if o = true then (1 : Int32) else 0) = 0 then xD E (d + 7) 225 94 [.ref 48, .int (bB lv), .int (nI (T x.1).1), .int (0 : Int32)] [] (mw A (upd fl 22 (nI (g0 + x.1 + 1))) ar al) else if nI (T x.1).1 = (12 : Int32) then xD E (d + 7) 225 70 [.ref 48, .int (bB lv), .int (nI (T x.1).1), .int (0 : Int32)] [] (mw A (upd fl 22 (nI (g0 + x.1 + 1))) ar al) else if nI (T x.1).1 = (19 : Int32) then xD E (d + 7) 225 70 [.ref 48, .int (bB lv), .int (nI (T x.1).1), .int (0 : Int32)] [] (mw A (upd fl 22 (nI (g0 + x.1 + 1))) ar al) else xD E (d + 7) 225 94 [.ref 48, .int (bB lv), .int (nI (T x.1).1), .int (0 : Int32)] [] (mw A (upd fl 22 (nI (g0 + x.1 + 1))) ar al)) = xD E (d + 7) 225 94 [.ref 48, .int (bB lv), .int (nI (T x.1).1), .int (nI 0)] [] (mw A (upd fl 22 (nI (g0 + x.1 + 1))) ar al) := by
      rw [if_neg (show ¬ nI (T x.1).1 = (12 : Int32) from fun q => by have := (nI_eq (b := 12) (by omega) (by omega)).mp q; omega), if_neg (show ¬ nI (T x.1).1 = (19 : Int32) from fun q => by have := (nI_eq (b := 19) (by omega) (by omega)).mp q; omega)]
      split <;> rfl
    rw [go94]
    exact fin _ 0 (x.1 + 1) 0 (T x.1).2 ((T x.1).2 : Int) f1e upd_s f124 rfl rfl (by omega) (by omega) (fun hF => rs_num (by simp only [List.length_append, List.length_cons, List.length_nil] at a2; omega) (by omega) hF hnum.2) (fun _ => ⟨rfl, rfl, w, hw, by omega, by omega⟩) (fun q => absurd hnum.1 q) (fun q => absurd hnum.1 q)
  rw [if_neg hnum] at hf
  -- two tokens
  have two : ∀ (b c : Nat), (T x.1).1 = c → o = true → (c = 19 ∧ b = 0 ∨ c = 12 ∧ b = 1000) → pAsk T b (if c = 19 then 1000 else 24) (x.1 + 1, x.2.1 + 1, x.2.2) = .inr y → ∃ fl' r, xD E (d + 7) 225 70 [.ref 48, .int (bB lv), .int (nI (T x.1).1), .int (0 : Int32)] [] (mw A (upd fl 22 (nI (g0 + x.1 + 1))) ar al) = some (some (.long r), mw A fl' ar al) ∧ eF fl fl' ∧ fl' 22 = nI (g0 + y.1) ∧ OUT F wd nw to lv (fl 24) x.2.2.1.length st r (fl' 24) y.2.2.1.length st := by
    intro b c hc ho hcb hask
    unfold pAsk at hask
    dsimp only at hask
    by_cases q : (T (x.1 + 1)).1 = 50 ∧ (T (x.1 + 1)).2 < (if c = 19 then 1000 else 24)
    · rw [if_pos q] at hask
      cases hask
      have hlt := hTl (x.1 + 1) (by omega)
      obtain ⟨_, w, hw, hwm⟩ := t5 (x.1 + 1) hlt
      have hww : w = (T (x.1 + 1)).2 := by
        have := q.2
        rcases hcb with ⟨h, _⟩ | ⟨h, _⟩ <;> rw [h] at this <;> simp at this <;> omega
      obtain ⟨n1, n2, n3, n4⟩ := l3 ho
      have hq := a4 x.2.2.2.length (b + (T (x.1 + 1)).2) (by rw [List.getElem?_append_right (Nat.le_refl _), Nat.sub_self]; rfl)
      have hwd := n4 _ _ hq
      have hLV : wd (6 + x.2.2.2.length) = LV c (T (x.1 + 1)).2 := by
        rw [hwd]
        have := q.2
        rcases hcb with ⟨h, h'⟩ | ⟨h, h'⟩
        · rw [h] at this; simp at this; rw [if_pos (by omega), h, h', Nat.zero_add]
        · rw [if_neg (by omega), h, h', Nat.add_sub_cancel_left]
      rw [e225_70, m_r48_2 hA, Option.bind_some, m_g48_22 hA, Option.bind_some, upd_s, zl, nI_add, m_a50 hA (by omega), Option.bind_some, Option.bind_some, show 3788 + (g0 + x.1 + 1) = 3788 + (g0 + (x.1 + 1)) by omega, hw, nI_1, m_p48_22 hA, Option.bind_some, hww]
      refine fin (upd (upd fl 22 (nI (g0 + x.1 + 1))) 22 (nI (g0 + x.1 + 1 + 1))) (T (x.1 + 1)).2 (x.1 + 2) 1 (6 + x.2.2.2.length) (LV c (T (x.1 + 1)).2) (f1e.tr e22) (by rw [upd_s, show g0 + x.1 + 1 + 1 = g0 + (x.1 + 2) by omega]) (by rw [upd_n (by omega)]; exact f124) rfl rfl (l1 _ _).1 (l1 _ _).2 (fun hF => ?_) (fun q => by omega) (fun _ q => by rw [ho] at q; cases q) (fun _ _ => ?_)
      · rw [← hLV]
        exact rs_word (by simp only [List.length_append, List.length_cons, List.length_nil] at a2; omega) (by omega) hF (by omega)
      · rw [hc]
        have := q.2
        refine n2 d _ c _ (hd ho) (f1e.tr e22) (by omega) (by omega) (fun h => ?_) (fun h => ?_)
        · rw [h] at this; simp at this; omega
        · rw [h] at this; simp at this; omega
    · rw [if_neg q] at hask; cases hask
  have c12 : nI (T x.1).1 = (12 : Int32) ↔ (T x.1).1 = 12 := nI_eq (b := 12) (by omega) (by omega)
  have c19 : nI (T x.1).1 = (19 : Int32) ↔ (T x.1).1 = 19 := nI_eq (b := 19) (by omega) (by omega)
  cases ho : o with
  | false =>
    rw [ho] at hf l2
    simp only [Bool.false_eq_true, false_and, if_false, if_true] at hf ⊢
    obtain ⟨n1, n2⟩ := l2 rfl
    cases hw : wdL (T x.1).1 with
    | none => rw [hw] at hf; cases hf
    | some w =>
      rw [hw] at hf
      cases hf
      obtain ⟨q1, q2⟩ := n2 _ _ hw
      have hr : 7 ≤ (T x.1).1 ∧ (T x.1).1 ≤ 13 ∧ w < 7 := by
        unfold wdL at hw
        repeat' split at hw
        all_goals first
          | (cases hw; omega)
          | cases hw
      exact fin _ 0 (x.1 + 1) 1 w (LV (T x.1).1 0) f1e upd_s f124 rfl rfl (l1 _ _).1 (l1 _ _).2 (fun hF => by rw [← q2]; exact rs_word (by simp only [List.length_append, List.length_cons, List.length_nil] at a2; omega) (by omega) hF (by omega)) (fun q => by omega) (fun _ _ => ⟨q1, hr.1, hr.2.1⟩) (fun _ q => by rw [ho] at q; cases q)
  | true =>
    rw [ho] at hf
    obtain ⟨n1, n2, n3, n4⟩ := l3 ho
    simp only [true_and, if_true] at hf ⊢
    rw [i_if]
    by_cases e19 : (T x.1).1 = 19
    · rw [if_pos e19] at hf
      rw [if_neg (fun q => by have := c12.mp q; omega), if_pos (c19.mpr e19)]
      exact two 0 19 e19 ho (Or.inl ⟨rfl, rfl⟩) hf
    · rw [if_neg e19] at hf
      by_cases e12 : (T x.1).1 = 12
      · rw [if_pos e12] at hf
        rw [if_pos (c12.mpr e12)]
        exact two 1000 12 e12 ho (Or.inr ⟨rfl, rfl⟩) hf
      · rw [if_neg e12] at hf
        rw [if_neg (fun q => e12 (c12.mp q)), if_neg (fun q => e19 (c19.mp q))]
        cases hw : wdO (T x.1).1 with
        | none => rw [hw] at hf; cases hf
        | some w =>
          rw [hw] at hf
          cases hf
          have hr : 13 ≤ (T x.1).1 ∧ (T x.1).1 ≤ 18 ∧ w < 6 := by
            unfold wdO at hw
            repeat' split at hw
            all_goals first
              | (cases hw; omega)
              | cases hw
          exact fin _ 0 (x.1 + 1) 1 w (LV (T x.1).1 0) f1e upd_s f124 rfl rfl (l1 _ _).1 (l1 _ _).2 (fun hF => by rw [← n3 _ _ hw]; exact rs_word (by simp only [List.length_append, List.length_cons, List.length_nil] at a2; omega) (by omega) hF (by omega)) (fun q => by omega) (fun _ q => by rw [ho] at q; cases q) (fun _ _ => n2 d _ _ 0 (hd ho) f1e (by omega) (by omega) (fun h => by omega) (fun h => by omega))
end ESUM
