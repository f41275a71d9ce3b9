/-! ===== tests: the reference's walk over tokens comes to what the code does ===== -/
section ETEST
variable {E : Nat × (Nat → Int32)} {d : Nat} {A : xH} {fl : Nat → Int32} {ar : Nat → Nat → Int32} {al : Nat → Nat → Int64} {T : Nat → Nat × Nat} {N g0 : Nat} {o : Bool} {F : List (Nat × Nat)} {wd : Nat → Int} {nw to K : Nat} {askF : List Nat} {LV : Nat → Nat → Int} {f : PX → PR}
def vB (r : Int32) : Int := if r = 1 then 1 else 0
def OUTB (F : List (Nat × Nat)) (wd : Nat → Int) (nw to : Nat) (lv : Bool) (b : Int32) (i : Nat) (st : List Int) (r b' : Int32) (j : Nat) (st0 : List Int) : Prop := (b' = 0 ∨ b' = 1) ∧ (r = 0 ∨ r = 1) ∧ (¬ (lv = true ∧ b = 0) → b' = b) ∧ (lv = true ∧ b = 0 → (b' = 1 ∧ RB1 F wd nw to i st) ∨ (b' = 0 ∧ RS1 F wd nw to i st j (vB r :: st0)))
def EVB (E : Nat × (Nat → Int32)) (A : xH) (ar : Nat → Nat → Int32) (al : Nat → Nat → Int64) (N g0 : Nat) (o : Bool) (F : List (Nat × Nat)) (wd : Nat → Int) (nw to : Nat) (askF : List Nat) (LV : Nat → Nat → Int) (f : PX → PR) (m D K : Nat) : Prop := ∀ (x y : PX) (fl : Nat → Int32) (lv : Bool) (st : List Int), f x = .inr y → okx N x → agr F askF to x y → st.length + K ≤ 55 → lvR E A ar al fl o wd nw askF LV → est N g0 o fl → fl 22 = nI (g0 + x.1) → (fl 24 = 0 ∨ fl 24 = 1) → ∃ fl' r, xC E D m [.ref 48, .int (bB lv)] (mw A fl ar al) = some (some (.int r), mw A fl' ar al) ∧ eF fl fl' ∧ fl' 22 = nI (g0 + y.1) ∧ OUTB F wd nw to lv (fl 24) x.2.2.1.length st r (fl' 24) y.2.2.1.length st
theorem OUTB.dead {lv : Bool} {b r b' : Int32} {i j : Nat} {st st0 : List Int} (h : ¬ (lv = true ∧ b = 0)) (hb : b = 0 ∨ b = 1) (hb' : b' = b) (hr : r = 0 ∨ r = 1) : OUTB F wd nw to lv b i st r b' j st0 := ⟨by rw [hb']; exact hb, hr, fun _ => hb', fun q => absurd q h⟩
/-- a comparison -/
theorem evb_cmp (hA : 69 ≤ A.length) (hT : evR T N g0 ar) (hTl : ∀ i, (T i).1 ≠ 0 → i < N) (hf : gd N f) (hs : EV E A ar al N g0 o F wd nw to askF LV (pSum T f) 223 (d + 2) K) {x y : PX} {lv : Bool} {st : List Int} (hc : pCmp T f x = .inr y) (ht : ¬ (T x.1).1 = 140) (hx : okx N x) (ha : agr F askF to x y) (hst : st.length + (K + 1) ≤ 55) (hl : lvR E A ar al fl o wd nw askF LV) (he : est N g0 o fl) (h22 : fl 22 = nI (g0 + x.1)) (h24 : fl 24 = 0 ∨ fl 24 = 1) : ∃ fl' r, xC E (d + 3) 230 [.ref 48, .int (bB lv)] (mw A fl ar al) = some (some (.int r), mw A fl' ar al) ∧ eF fl fl' ∧ fl' 22 = nI (g0 + y.1) ∧ OUTB F wd nw to lv (fl 24) x.2.2.1.length st r (fl' 24) y.2.2.1.length st := by
  have h4 := hT.2.2.2.1
  have hN4 := hT.1
  have hx1 := hx.1
  have hgs := gd_sum hTl hf
  have hg := hgs x hx.1
  unfold pCmp at hc
  cases hr : pSum T f x with
  | inl t => rw [hr] at hc; cases hc
  | inr z =>
    rw [hr] at hc hg
    dsimp only [rb] at hc
    by_cases e : (T z.1).1 = 160 ∨ (T z.1).1 = 162 ∨ (T z.1).1 = 161
    · rw [if_pos e] at hc
      have hlt : z.1 < N := hTl _ (by omega)
      have hz := hx.le hg.1
      have hzx : okx N (adv z) := hz.le (xle_adv hlt)
      have hg2 := hgs (adv z) hzx.1
      have h5 := h4 z.1
      cases hr2 : pSum T f (adv z) with
      | inl t => rw [hr2] at hc; cases hc
      | inr z2 =>
        rw [hr2] at hc hg2
        cases hc
        obtain ⟨b1, b2, b3, b4⟩ := ha
        simp only [emi, List.length_append, List.length_cons, List.length_nil] at b1 b2 b4
        have hl2 := hg2.1.2.2.1
        simp only [adv] at hl2
        have hzl := hg.1.2.2.1
        have ha1 : agr F askF to x z := ⟨fun j q1 q2 => by rw [b1 j q1 (by omega), List.getElem?_append_left (by omega)]; exact hg2.1.2.2.2.2.1 j q2, by omega, b3, fun j q hq => b4 j q (by rw [hg2.1.2.2.2.2.2.2.2.2.2 j (List.getElem?_eq_some_iff.mp hq).1]; exact hq)⟩
        have ha2 : agr F askF to (adv z) z2 := ⟨fun j q1 q2 => by simp only [adv] at q1; rw [b1 j (by omega) (by omega), List.getElem?_append_left q2], by omega, b3, b4⟩
        have hFo : F[z2.2.2.1.length]? = some (opC (T z.1).1, 0) := by
          rw [b1 _ (by omega) (by omega), List.getElem?_append_right (Nat.le_refl _), Nat.sub_self]; rfl
        obtain ⟨f1, r1, p1, p2, p3, p4⟩ := hs x z fl lv st hr hx ha1 (by omega) hl he h22 h24
        obtain ⟨v, q1, q2, q3⟩ := OUT.pick p4
        have h124 : upd f1 22 (nI (g0 + (z.1 + 1))) 24 = f1 24 := upd_n (by omega)
        obtain ⟨f2, r2, s1, s2, s3, s4⟩ := hs (adv z) z2 (upd f1 22 (nI (g0 + (z.1 + 1)))) lv (v :: st) hr2 hzx ha2 (by simp only [List.length_cons]; omega) ((hl.fr p2).fr e22) ((he.f p2).f e22) upd_s (by rw [h124]; exact p4.1)
        rw [h124] at s4
        have ef : eF fl f2 := (p2.tr e22).tr s2
        have op5 : 5 ≤ opC (T z.1).1 ∧ opC (T z.1).1 ≤ 12 := by unfold opC; split <;> (try split) <;> omega
        have c160 : nI (T z.1).1 = nI 160 ↔ (T z.1).1 = 160 := nI_eq (by omega) (by omega)
        have c162 : nI (T z.1).1 = nI 162 ↔ (T z.1).1 = 162 := nI_eq (by omega) (by omega)
        have head : xC E (d + 3) 230 [.ref 48, .int (bB lv)] (mw A fl ar al) = (if bB lv = 0 then some (some (.int (0 : Int32)), mw A f2 ar al) else (gI (mw A f2 ar al) 48 9 24).bind fun x9 => if x9 = 0 then (if nI (T z.1).1 = nI 160 then (if 0 ≤ (lg_cmp r1 r2) then some (some (.int (0 : Int32)), mw A f2 ar al) else some (some (.int (1 : Int32)), mw A f2 ar al)) else if nI (T z.1).1 = nI 162 then (if (lg_cmp r1 r2) ≤ 0 then some (some (.int (0 : Int32)), mw A f2 ar al) else some (some (.int (1 : Int32)), mw A f2 ar al)) else if (lg_cmp r1 r2) = 0 then some (some (.int (1 : Int32)), mw A f2 ar al) else some (some (.int (0 : Int32)), mw A f2 ar al)) else some (some (.int (0 : Int32)), mw A f2 ar al)) := by
          rw [k230 _ _ _ _ _ (m_k48 hA), m_sign (c := 40) (cc := 40) rfl, xI_s, Option.bind_some]
          dsimp only
          rw [m_pass0 hA hT he (by omega) h22 rfl (by omega) ht, xI_s, Option.bind_some]
          dsimp only
          rw [i_if0, p1, xL_s, Option.bind_some]
          dsimp only
          rw [m_g48_22 hA, Option.bind_some, p3, m_codeAt hA hT (he.f p2) (by omega), xI_s, Option.bind_some]
          dsimp only
          rw [m_g48_22 hA, Option.bind_some, p3, nI_1, m_p48_22 hA, Option.bind_some, show g0 + z.1 + 1 = g0 + (z.1 + 1) by omega, s1, xL_s, Option.bind_some]
          dsimp only
          congr 1
          congr 1
          funext x9
          rw [m_sign (c := 60) (cc := 60) rfl, xI_s, Option.bind_some]
          dsimp only
          rw [m_sign (c := 62) (cc := 62) rfl, xI_s, Option.bind_some]
        rw [head]
        cases lv with
        | false =>
          rw [show bB false = 0 from rfl, i_if0]
          have d1 := p4.2.1 (fun q => by cases q.1)
          have d2 := s4.2.1 (fun q => by cases q.1)
          exact ⟨f2, 0, rfl, ef, s3, OUTB.dead (fun q => by cases q.1) h24 (by rw [d2.2, d1.2]) (Or.inl rfl)⟩
        | true =>
          rw [show bB true = 1 from rfl, i_if, m_g48_24 hA, Option.bind_some]
          rcases h24 with h24 | h24
          · rw [h24] at p4 q3 ⊢
            have brk : f2 24 = 1 → RB1 F wd nw to x.2.2.1.length st → ∃ fl' r, (if f2 24 = 0 then (if nI (T z.1).1 = nI 160 then (if 0 ≤ (lg_cmp r1 r2) then some (some (Value.int (0 : Int32)), mw A f2 ar al) else some (some (.int (1 : Int32)), mw A f2 ar al)) else if nI (T z.1).1 = nI 162 then (if (lg_cmp r1 r2) ≤ 0 then some (some (.int (0 : Int32)), mw A f2 ar al) else some (some (.int (1 : Int32)), mw A f2 ar al)) else if (lg_cmp r1 r2) = 0 then some (some (.int (1 : Int32)), mw A f2 ar al) else some (some (.int (0 : Int32)), mw A f2 ar al)) else some (some (.int (0 : Int32)), mw A f2 ar al)) = some (some (.int r), mw A fl' ar al) ∧ eF fl fl' ∧ fl' 22 = nI (g0 + z2.1) ∧ OUTB F wd nw to true 0 x.2.2.1.length st r (fl' 24) (emi z2 (opC (T z.1).1) 0).2.2.1.length st := by
              intro g1 g2
              rw [g1, i_if]
              exact ⟨f2, 0, rfl, ef, s3, Or.inr g1, Or.inl rfl, fun q => absurd ⟨rfl, rfl⟩ q, fun _ => Or.inl ⟨g1, g2⟩⟩
            rcases p4.2.2 ⟨rfl, rfl⟩ with ⟨a1, a2, a3⟩ | ⟨v1, a1, a2, a3, a4, a5⟩
            · have d2 := s4.2.1 (fun q => by rw [a1] at q; exact absurd q.2 (by decide))
              exact brk (by rw [d2.2]; exact a1) a3
            · have hv1 : v1 = v := by
                have := (q1 ⟨rfl, a1⟩).1
                rw [a2] at this
                have hb := (q1 ⟨rfl, a1⟩).2
                exact (l_eq (by omega) (by omega) (by omega) (by omega)).mp this
              subst hv1
              rcases s4.2.2 ⟨rfl, a1⟩ with ⟨c1, c2, c3⟩ | ⟨w, c1, c2, c3, c4, c5⟩
              · exact brk c1 (a5.rb c3)
              · rw [c1, i_if0, a2, c2]
                have fin : ∀ (r : Int32) (zz : Int), comb (opC (T z.1).1) v1 w = some zz → (r = 0 ∨ r = 1) → vB r = zz → ∃ fl' r', some (some (Value.int r), mw A f2 ar al) = some (some (.int r'), mw A fl' ar al) ∧ eF fl fl' ∧ fl' 22 = nI (g0 + z2.1) ∧ OUTB F wd nw to true 0 x.2.2.1.length st r' (fl' 24) (emi z2 (opC (T z.1).1) 0).2.2.1.length st := by
                  intro r zz hz hr01 hvz
                  refine ⟨f2, r, rfl, ef, s3, Or.inl c1, hr01, fun q => absurd ⟨rfl, rfl⟩ q, fun _ => Or.inr ⟨c1, ?_⟩⟩
                  have := (a5.tr c5).tr (rs_op (a := 0) (st := st) (by omega) (by omega) hFo op5.1 op5.2 hz)
                  rw [hvz]
                  simp only [emi, List.length_append, List.length_cons, List.length_nil]; exact this
                by_cases e1 : (T z.1).1 = 160
                · have hcb : comb (opC (T z.1).1) v1 w = some (if v1 < w then 1 else 0) := by unfold opC; rw [if_pos e1]; rfl
                  rw [if_pos (c160.mpr e1)]
                  simp only [lg_cmp_ge]
                  by_cases hlt2 : v1 < w
                  · rw [if_neg (fun q => by have := (l_le (by omega) (by omega) (by omega) (by omega)).mp q; omega)]
                    exact fin 1 _ hcb (Or.inr rfl) (by rw [if_pos hlt2]; rfl)
                  · rw [if_pos ((l_le (by omega) (by omega) (by omega) (by omega)).mpr (by omega))]
                    exact fin 0 _ hcb (Or.inl rfl) (by rw [if_neg hlt2]; rfl)
                · rw [if_neg (fun q => e1 (c160.mp q))]
                  by_cases e2 : (T z.1).1 = 162
                  · have hcb : comb (opC (T z.1).1) v1 w = some (if w < v1 then 1 else 0) := by unfold opC; rw [if_neg e1, if_pos e2]; rfl
                    rw [if_pos (c162.mpr e2)]
                    simp only [lg_cmp_le]
                    by_cases hlt2 : w < v1
                    · rw [if_neg (fun q => by have := (l_le (by omega) (by omega) (by omega) (by omega)).mp q; omega)]
                      exact fin 1 _ hcb (Or.inr rfl) (by rw [if_pos hlt2]; rfl)
                    · rw [if_pos ((l_le (by omega) (by omega) (by omega) (by omega)).mpr (by omega))]
                      exact fin 0 _ hcb (Or.inl rfl) (by rw [if_neg hlt2]; rfl)
                  · have hcb : comb (opC (T z.1).1) v1 w = some (if v1 = w then 1 else 0) := by unfold opC; rw [if_neg e1, if_neg e2]; rfl
                    rw [if_neg (fun q => e2 (c162.mp q))]
                    simp only [lg_cmp_eq]
                    by_cases heq : v1 = w
                    · rw [if_pos (by rw [heq])]
                      exact fin 1 _ hcb (Or.inr rfl) (by rw [if_pos heq]; rfl)
                    · rw [if_neg (fun q => heq ((l_eq (by omega) (by omega) (by omega) (by omega)).mp q))]
                      exact fin 0 _ hcb (Or.inl rfl) (by rw [if_neg heq]; rfl)
          · have d1 := p4.2.1 (fun q => by rw [h24] at q; exact absurd q.2 (by decide))
            have d2 := s4.2.1 (fun q => by rw [d1.2, h24] at q; exact absurd q.2 (by decide))
            have hb2 : f2 24 = 1 := by rw [d2.2, d1.2, h24]
            rw [hb2, i_if]
            exact ⟨f2, 0, rfl, ef, s3, OUTB.dead (fun q => by rw [h24] at q; exact absurd q.2 (by decide)) (Or.inr h24) (by rw [hb2, h24]) (Or.inl rfl)⟩
    · rw [if_neg e] at hc; cases hc
end ETEST
