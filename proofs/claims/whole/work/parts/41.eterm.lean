/-! ===== sums: terms, sums, brackets ===== -/
section ETERM
variable {E : Nat × (Nat → Int32)} {d : Nat} {A : xH} {fl : Nat → Int32} {ar : Nat → Nat → Int32} {al : Nat → Nat → Int64} {T : Nat → Nat × Nat} {N g0 : Nat} {o : Bool} {F : List (Nat × Nat)} {wd : Nat → Int} {nw to : Nat} {askF : List Nat} {LV : Nat → Nat → Int} {f : PX → PR}
theorem OUT.pick {lv : Bool} {b b1 : Int32} {i j : Nat} {st st0 : List Int} {r1 : Int64} (h : OUT F wd nw to lv b i st r1 b1 j st0) : ∃ v : Int, (lv = true ∧ b1 = 0 → r1 = lI v ∧ -1000000000 ≤ v ∧ v ≤ 1000000000) ∧ (¬ (lv = true ∧ b1 = 0) → r1 = 0) ∧ ∀ r b' k, OUT F wd nw to lv b1 j (v :: st0) r b' k st0 → OUT F wd nw to lv b i st r b' k st0 := by
  obtain ⟨h1, h2, h3⟩ := h
  by_cases q : lv = true ∧ b = 0
  · rcases h3 q with ⟨a1, a2, a3⟩ | ⟨v, a1, a2, a3, a4, a5⟩
    · refine ⟨0, fun z => absurd z.2 (by rw [a1]; decide), fun _ => a2, fun r b' k g => ?_⟩
      obtain ⟨g1, g2, g3⟩ := g
      obtain ⟨e1, e2⟩ := g2 (fun z => absurd z.2 (by rw [a1]; decide))
      exact ⟨g1, fun z => absurd q z, fun _ => Or.inl ⟨by rw [e2, a1], e1, a3⟩⟩
    · refine ⟨v, fun _ => ⟨a2, a3, a4⟩, fun z => absurd ⟨q.1, a1⟩ z, fun r b' k g => ?_⟩
      obtain ⟨g1, g2, g3⟩ := g
      refine ⟨g1, fun z => absurd q z, fun _ => ?_⟩
      rcases g3 ⟨q.1, a1⟩ with ⟨c1, c2, c3⟩ | ⟨w, c1, c2, c3, c4, c5⟩
      · exact Or.inl ⟨c1, c2, a5.rb c3⟩
      · exact Or.inr ⟨w, c1, c2, c3, c4, a5.tr c5⟩
  · obtain ⟨a1, a2⟩ := h2 q
    refine ⟨0, fun z => absurd (by rw [← a2]; exact z) q, fun _ => a1, fun r b' k g => ?_⟩
    obtain ⟨g1, g2, g3⟩ := g
    obtain ⟨e1, e2⟩ := g2 (by rw [a2]; exact q)
    exact ⟨g1, fun _ => ⟨e1, by rw [e2, a2]⟩, fun z => absurd z q⟩
/-- both sides are there, an operation follows -/
theorem ev_bop (hA : 69 ≤ A.length) {lv : Bool} {b : Int32} {i j op : Nat} {st : List Int} {v : Int} {r5 : Int64} {y : Int64} (hb : b = 0 ∨ b = 1) (hout : OUT F wd nw to lv b i (v :: st) r5 (fl 24) j (v :: st)) (hv : lv = true ∧ b = 0 → -1000000000 ≤ v ∧ v ≤ 1000000000) (hjt : j < to) (hst : st.length ≤ 55) (hF : F[j]? = some (op, 0)) (h5 : 5 ≤ op) (h12 : op ≤ 12) (hy0 : ¬ (lv = true ∧ b = 0) → y = 0) (hy : ∀ w : Int, lv = true ∧ b = 0 → fl 24 = 0 → r5 = lI w → -1000000000 ≤ w → w ≤ 1000000000 → ∃ z : Int, y = lI z ∧ comb op v w = bd z ∧ -2000000000000000000 ≤ z ∧ z ≤ 2000000000000000000) : ∃ fl' r, xC E (d + 1) 222 [.ref 48, .long y, .int (bB lv)] (mw A fl ar al) = some (some (.long r), mw A fl' ar al) ∧ eF fl fl' ∧ fl' 22 = fl 22 ∧ OUT F wd nw to lv b i (v :: st) r (fl' 24) (j + 1) st := by
  obtain ⟨h1, h2, h3⟩ := hout
  by_cases q : lv = true ∧ b = 0
  · obtain ⟨q1, q2⟩ := q
    subst q1 q2
    rcases h3 ⟨rfl, rfl⟩ with ⟨a1, a2, a3⟩ | ⟨w, a1, a2, a3, a4, a5⟩
    · obtain ⟨fl', k1, k2, k3, k4⟩ := m_bounded0 (E := E) (d := d) (ar := ar) (al := al) (lv := true) (y := y) hA (Or.inl a1)
      exact ⟨fl', 0, k1, k2, k3, OUT.brk (by rw [k4]; exact a1) a3⟩
    · obtain ⟨z, z1, z2, z3, z4⟩ := hy w ⟨rfl, rfl⟩ a1 a2 a3 a4
      obtain ⟨fl', r, k1, k2, k3, k4⟩ := m_bounded1 (E := E) (d := d) (ar := ar) (al := al) hA a1 z3 z4
      rw [z1]
      refine ⟨fl', r, k1, k2, k3, ?_⟩
      rcases k4 with ⟨c1, c2, c3⟩ | ⟨c1, c2, c3⟩
      · rw [c3]
        exact OUT.brk c2 (a5.rb (rb_op hjt (by omega) hF h5 h12 (by rw [z2, c1])))
      · rw [c3]
        have hzb : -1000000000 ≤ z ∧ z ≤ 1000000000 := by
          unfold bd at c1
          split at c1
          · assumption
          · cases c1
        exact OUT.live c2 hzb.1 hzb.2 (a5.tr (rs_op hjt (by omega) hF h5 h12 (by rw [z2, c1])))
  · obtain ⟨a1, a2⟩ := h2 q
    have hd : fl 24 = 1 ∨ (lv = false ∧ y = 0) := by
      rcases hb with h | h
      · right
        refine ⟨?_, hy0 q⟩
        cases lv with
        | false => rfl
        | true => exact absurd ⟨rfl, h⟩ q
      · left; rw [a2]; exact h
    obtain ⟨fl', k1, k2, k3, k4⟩ := m_bounded0 (E := E) (d := d) (ar := ar) (al := al) (lv := lv) (y := y) hA hd
    exact ⟨fl', 0, k1, k2, k3, OUT.dead q hb (by rw [k4]; exact a2)⟩
theorem l1 : (1 : Int64) = lI 1 := by decide +kernel
theorem l0 : (0 : Int64) = lI 0 := by decide +kernel
theorem lq (x y : Int) : lI x * lI y = lI (x * y) := (Int64.ofInt_mul x y).symm
/-- behind a term's sign -/
theorem ev_top (hA : 69 ≤ A.length) {lv : Bool} {b : Int32} {i j c : Nat} {st : List Int} {v : Int} {r5 j2 : Int64} (hc : c = 142 ∨ c = 147 ∨ c = 137) (hb : b = 0 ∨ b = 1) (hout : OUT F wd nw to lv b i (v :: st) r5 (fl 24) j (v :: st)) (hv : lv = true ∧ b = 0 → j2 = lI v ∧ -1000000000 ≤ v ∧ v ≤ 1000000000) (hv0 : ¬ (lv = true ∧ b = 0) → j2 = 0) (hjt : j < to) (hst : st.length ≤ 55) (hF : F[j]? = some (opT c, 0)) : ∃ fl' r w5, (if nI c = nI 142 then xD E (d + 2) 224 121 [.ref 48, .int (bB lv), .long j2, xJ, .int (nI c), .long r5, xJ] [] (mw A fl ar al) else if (lg_cmp r5 (0 : Int64)) = 0 then (gI (mw A fl ar al) 48 9 24).bind fun x7 => if x7 = 0 then if bB lv = 0 then (pF (mw A fl ar al) 48 9 24 (.int (0 : Int32))).bind fun A8 => xD E (d + 2) 224 121 [.ref 48, .int (bB lv), .long j2, xJ, .int (nI c), .long (1 : Int64), xJ] [] A8 else (pF (mw A fl ar al) 48 9 24 (.int (1 : Int32))).bind fun A9 => xD E (d + 2) 224 121 [.ref 48, .int (bB lv), .long j2, xJ, .int (nI c), .long (1 : Int64), xJ] [] A9 else (pF (mw A fl ar al) 48 9 24 (.int (1 : Int32))).bind fun A10 => xD E (d + 2) 224 121 [.ref 48, .int (bB lv), .long j2, xJ, .int (nI c), .long (1 : Int64), xJ] [] A10 else xD E (d + 2) 224 121 [.ref 48, .int (bB lv), .long j2, xJ, .int (nI c), .long r5, xJ] [] (mw A fl ar al)) = xD E (d + 2) 224 6 [.ref 48, .int (bB lv), .long r, xJ, .int (nI c), .long w5, xJ] [] (mw A fl' ar al) ∧ eF fl fl' ∧ fl' 22 = fl 22 ∧ OUT F wd nw to lv b i (v :: st) r (fl' 24) (j + 1) st := by
  have c142 : nI c = nI 142 ↔ c = 142 := nI_eq (by omega) (by omega)
  have c147 : nI c = nI 147 ↔ c = 147 := nI_eq (by omega) (by omega)
  have hop : 5 ≤ opT c ∧ opT c ≤ 12 := by unfold opT; split <;> (try split) <;> omega
  have h01 := hout.1
  by_cases e : c = 142
  · rw [if_pos (c142.mpr e)]
    obtain ⟨fl', r, k1, k2, k3, k4⟩ := ev_bop (E := E) (d := d) (ar := ar) (al := al) (y := j2 * r5) hA hb hout (fun q => (hv q).2) hjt hst hF hop.1 hop.2 (fun q => by rw [hv0 q]; exact Int64.zero_mul ..) (fun w q _ hr w1 w2 => by
      have hm := i_mul (hv q).2.1 (hv q).2.2 w1 w2
      refine ⟨v * w, by rw [(hv q).1, hr, lq], ?_, by omega, by omega⟩
      unfold comb opT
      rw [if_pos e, if_neg (by omega), if_neg (by omega), if_pos rfl])
    refine ⟨fl', r, r5, ?_, k2, k3, k4⟩
    rw [e224_121, m_sign (c := 42) (cc := 42) rfl, xI_s, Option.bind_some]
    dsimp only
    rw [if_pos (c142.mpr e), k1, xL_s, Option.bind_some]
  · rw [if_neg (fun q => e (c142.mp q))]
    -- 121 with a divisor that is not 0
    have div : ∀ (f1 : Nat → Int32) (w5 : Int64), eF fl f1 → f1 22 = fl 22 → OUT F wd nw to lv b i (v :: st) r5 (f1 24) j (v :: st) ∨ (f1 24 = 1 ∧ lv = true ∧ b = 0 ∧ RB1 F wd nw to i (v :: st)) → w5 ≠ 0 → (¬ (lv = true ∧ b = 0) → w5 = 1) → (lv = true ∧ b = 0 → f1 24 = 0 → ∃ w : Int, w5 = lI w ∧ r5 = lI w ∧ -1000000000 ≤ w ∧ w ≤ 1000000000) → ∃ fl' r w6, xD E (d + 2) 224 121 [.ref 48, .int (bB lv), .long j2, xJ, .int (nI c), .long w5, xJ] [] (mw A f1 ar al) = xD E (d + 2) 224 6 [.ref 48, .int (bB lv), .long r, xJ, .int (nI c), .long w6, xJ] [] (mw A fl' ar al) ∧ eF fl fl' ∧ fl' 22 = fl 22 ∧ OUT F wd nw to lv b i (v :: st) r (fl' 24) (j + 1) st := by
      intro f1 w5 hf1 hf22 hor hne hdead hlive
      have run : ∀ y : Int64, (c = 147 → y = j2 / w5) → (c ≠ 147 → y = xlrem j2 w5) → (∃ fl' r, xC E (d + 1) 222 [.ref 48, .long y, .int (bB lv)] (mw A f1 ar al) = some (some (.long r), mw A fl' ar al) ∧ eF f1 fl' ∧ fl' 22 = f1 22 ∧ OUT F wd nw to lv b i (v :: st) r (fl' 24) (j + 1) st) → ∃ fl' r w6, xD E (d + 2) 224 121 [.ref 48, .int (bB lv), .long j2, xJ, .int (nI c), .long w5, xJ] [] (mw A f1 ar al) = xD E (d + 2) 224 6 [.ref 48, .int (bB lv), .long r, xJ, .int (nI c), .long w6, xJ] [] (mw A fl' ar al) ∧ eF fl fl' ∧ fl' 22 = fl 22 ∧ OUT F wd nw to lv b i (v :: st) r (fl' 24) (j + 1) st := by
        rintro y hy1 hy2 ⟨fl', r, k1, k2, k3, k4⟩
        refine ⟨fl', r, w5, ?_, hf1.tr k2, k3.trans hf22, k4⟩
        rw [e224_121, m_sign (c := 42) (cc := 42) rfl, xI_s, Option.bind_some]
        dsimp only
        rw [if_neg (fun q => e (c142.mp q)), m_sign (c := 47) (cc := 47) rfl, xI_s, Option.bind_some]
        dsimp only
        by_cases e7 : c = 147
        · rw [if_pos (c147.mpr e7), if_neg hne, ← hy1 e7, k1, xL_s, Option.bind_some]
        · rw [if_neg (fun q => e7 (c147.mp q)), if_neg hne, ← hy2 e7, k1, xL_s, Option.bind_some]
      refine run (if c = 147 then j2 / w5 else xlrem j2 w5) (fun q => if_pos q) (fun q => if_neg q) ?_
      rcases hor with hout' | ⟨g1, g2, g3, g4⟩
      · refine ev_bop (E := E) (d := d) (ar := ar) (al := al) hA hb hout' (fun q => (hv q).2) hjt hst hF hop.1 hop.2 (fun q => ?_) (fun w q hz hr w1 w2 => ?_)
        · rw [hv0 q, hdead q, l0, l1]
          have a := l_div (x := 0) (y := 1) (by omega) (by omega) (by omega) (by omega)
          have b' := l_rem (x := 0) (y := 1) (by omega) (by omega) (by omega) (by omega)
          split
          · rw [a.1]; rfl
          · rw [b'.1]; rfl
        · obtain ⟨w', z1, z2, z3, z4⟩ := hlive q hz
          have hw0 : w ≠ 0 := fun h0 => hne (by rw [z1, ← z2, hr, h0]; exact l0.symm)
          have a := l_div (hv q).2.1 (hv q).2.2 w1 w2
          have b' := l_rem (hv q).2.1 (hv q).2.2 w1 w2
          have hw5 : w5 = lI w := by rw [z1, ← z2, hr]
          by_cases e7 : c = 147
          · refine ⟨v.tdiv w, by rw [if_pos e7, (hv q).1, hw5, a.1], ?_, by omega, by omega⟩
            unfold comb opT
            rw [if_neg e, if_pos e7, if_neg (by omega), if_neg (by omega), if_neg (by omega), if_pos rfl, if_neg hw0]
          · refine ⟨v.tmod w, by rw [if_neg e7, (hv q).1, hw5, b'.1], ?_, by omega, by omega⟩
            unfold comb opT
            rw [if_neg e, if_neg e7, if_neg (by omega), if_neg (by omega), if_neg (by omega), if_neg (by omega), if_pos rfl, if_neg hw0]
      · obtain ⟨fl', k1, k2, k3, k4⟩ := m_bounded0 (E := E) (d := d) (ar := ar) (al := al) (fl := f1) (lv := lv) (y := (if c = 147 then j2 / w5 else xlrem j2 w5)) hA (Or.inl g1)
        subst g2 g3
        exact ⟨fl', 0, k1, k2, k3, OUT.brk (by rw [k4]; exact g1) g4⟩
    have l10 : (1 : Int64) ≠ 0 := by decide
    by_cases hr0 : r5 = 0
    · have hcmp : lg_cmp r5 (0 : Int64) = 0 := by rw [lg_cmp_eq]; exact hr0
      rw [if_pos hcmp, m_g48_24 hA, Option.bind_some]
      rcases h01 with h24 | h24
      · rw [h24, i_if0]
        cases lv with
        | false =>
          rw [show bB false = 0 from rfl, i_if0, m_p48_24 hA, Option.bind_some]
          refine div (upd fl 24 0) 1 e24 (upd_n (by omega)) (Or.inl ?_) l10 (fun _ => rfl) (fun q => by cases q.1)
          rw [upd_s, ← h24]; exact hout
        | true =>
          rw [show bB true = 1 from rfl, i_if, m_p48_24 hA, Option.bind_some]
          rcases hb with hb0 | hb1
          · subst hb0
            refine div (upd fl 24 1) 1 e24 (upd_n (by omega)) (Or.inr ⟨upd_s, rfl, rfl, ?_⟩) l10 (fun _ => rfl) (fun _ z => absurd z (by rw [upd_s]; decide))
            rcases hout.2.2 ⟨rfl, rfl⟩ with ⟨a1, a2, a3⟩ | ⟨w, a1, a2, a3, a4, a5⟩
            · exact a3
            · have hw0 : w = 0 := by
                rw [hr0, l0] at a2
                exact ((l_eq (by omega) (by omega) (by omega) (by omega)).mp a2).symm
              refine a5.rb (rb_op hjt (by omega) hF hop.1 hop.2 ?_)
              unfold comb opT
              rw [if_neg e]
              by_cases e7 : c = 147
              · rw [if_pos e7, if_neg (by omega), if_neg (by omega), if_neg (by omega), if_pos rfl, if_pos hw0]
              · rw [if_neg e7, if_neg (by omega), if_neg (by omega), if_neg (by omega), if_neg (by omega), if_pos rfl, if_pos hw0]
          · have := (hout.2.1 (fun q => by rw [hb1] at q; exact absurd q.2 (by decide))).2
            rw [h24, hb1] at this; exact absurd this (by decide)
      · rw [h24, i_if, m_p48_24 hA, Option.bind_some]
        refine div (upd fl 24 1) 1 e24 (upd_n (by omega)) (Or.inl ?_) l10 (fun _ => rfl) (fun _ z => absurd z (by rw [upd_s]; decide))
        rw [upd_s, ← h24]; exact hout
    · have hcmp : ¬ lg_cmp r5 (0 : Int64) = 0 := by rw [lg_cmp_eq]; exact hr0
      rw [if_neg hcmp]
      refine div fl r5 eF.rf rfl (Or.inl hout) hr0 (fun q => absurd (hout.2.1 q).1 hr0) (fun q z => ?_)
      rcases hout.2.2 q with ⟨a1, a2, a3⟩ | ⟨w, a1, a2, a3, a4, a5⟩
      · rw [z] at a1; exact absurd a1 (by decide)
      · exact ⟨w, a2, a2, a3, a4⟩
end ETERM
