/-! ===== the reference's orders ===== -/
/-- where orders stopped -/
def Xsp (X : Xs) (z : Int32) : Xs := (X.1, X.2.1, X.2.2.1, X.2.2.2.1, (X.2.2.2.2.1.1, X.2.2.2.2.1.2.1, X.2.2.2.2.1.2.2.1, z), X.2.2.2.2.2)
/-- the state once orders were read -/
def Xor (X : Xs) : Xs := Xft (Xtp (Xsp X (-1)) X.2.2.2.1.1 0) (-1)
noncomputable def aOrders (X : Xs) : Int32 × Xs := match pText (tok X.2.2.2.1.1 X.2.2.2.1.2) true (tkN X.2.2.2.1.1 X.2.2.2.1.2) with
  | .inl t => (-6, Xrf (Xft (Xtp (Xsp X (-1)) X.2.2.2.1.1 0) (nI (ps X.2.2.2.1.1 X.2.2.2.1.2 t))) 6)
  | .inr w => match oAll w.1.2.2.1 w.1.2.2.2 0 w.2 (Xor X, 0, none) with
    | .inl i => (-3, Xrf (Xsp (Xor X) (nI i)) 3)
    | .inr Z => (nI Z.2.1, Xgr Z.1)
theorem Xor_XI {X : Xs} (hX : XI X) : XI (Xor X) := ⟨hX.1, hX.2.1, hX.2.2.1, hX.2.2.2.1, Nat.zero_le _, hX.2.2.2.2.2⟩
section MORD
variable {E : Nat × (Nat → Int32)} {d : Nat} {A : xH} {fl : Nat → Int32} {ar : Nat → Nat → Int32} {al : Nat → Nat → Int64} {T : Nat → Nat × Nat} {N g0 : Nat} {F : List (Nat × Nat)} {ask : List Nat}
theorem MI.sp {X : Xs} (h : MI fl ar X) {z : Int32} : MI (upd fl 36 z) ar (Xsp X z) := by
  obtain ⟨h1, ⟨h3, h4⟩, h5, ⟨h6, h7⟩, ⟨h8, h9, h10, h11⟩, h12, h13, h14⟩ := h
  exact ⟨h1, ⟨h3, h4⟩, h5, ⟨h6, h7⟩, ⟨h8, h9, h10, upd_s⟩, h12, h13, h14⟩
/-- arrays that the state does not know -/
theorem MI.ac {X : Xs} (h : MI fl ar X) {ar' : Nat → Nat → Int32} (ha : ∀ j, j ≠ 5 → j ≠ 31 → ar' j = ar j) : MI fl ar' X := by
  obtain ⟨h1, ⟨h3, h4⟩, h5, ⟨h6, h7⟩, h8, h12, h13, h14⟩ := h
  refine ⟨by rw [ha 2 (by omega) (by omega)]; exact h1, ⟨h3, by rw [ha 30 (by omega) (by omega)]; exact h4⟩, by rw [ha 3 (by omega) (by omega), ha 4 (by omega) (by omega)]; exact h5, ⟨h6, by unfold tbR; rw [ha 11 (by omega) (by omega)]; exact h7⟩, h8, by rw [ha 1 (by omega) (by omega)]; exact h12, by rw [ha 43 (by omega) (by omega)]; exact h13, by unfold wdR; rw [ha 7 (by omega) (by omega)]; exact h14⟩
/-- what was before orders failed -/
theorem MI.rb {X : Xs} (h : MI fl ar X) (hl : X.2.1.length ≤ 16) {fl' : Nat → Int32} {ar' : Nat → Nat → Int32} {z : Int32} (hf : ∀ j, (j = 0 ∨ j = 6 ∨ j = 13 ∨ j = 14 ∨ j = 32 ∨ j = 44) → fl' j = fl j) (h36 : fl' 36 = z) (hS : MS (ar' 2) X.1.1) (h2 : ∀ i, 963 ≤ i → ar' 2 i = ar 2 i) (h30 : ∀ i, i < 15424 → ar' 30 i = ar 30 i) (ha : ∀ j, j ≠ 2 → j ≠ 5 → j ≠ 26 → j ≠ 29 → j ≠ 30 → ar' j = ar j) : MI fl' ar' (Xsp X z) := by
  obtain ⟨h1, ⟨h3, h4⟩, h5, ⟨h6, h7⟩, ⟨h8, h9, h10, h11⟩, h12, h13, h14⟩ := h
  refine ⟨h1.st hS h2, ⟨(hf 32 (by omega)).trans h3, fun i q hq => ?_⟩, ?_, ⟨(hf 13 (by omega)).trans h6, ?_⟩, ⟨(hf 0 (by omega)).trans h8, (hf 6 (by omega)).trans h9, (hf 14 (by omega)).trans h10, h36⟩, ?_, ?_, ?_⟩
  · have hi : i < X.2.1.length := (List.getElem?_eq_some_iff.mp hq).1
    obtain ⟨a, b⟩ := h4 i q hq
    exact ⟨a.cong (fun j hj => h30 _ (by omega)), (h30 _ (by omega)).trans b⟩
  · rw [ha 3 (by omega) (by omega) (by omega) (by omega) (by omega), ha 4 (by omega) (by omega) (by omega) (by omega) (by omega)]; exact h5
  · unfold tbR; rw [ha 11 (by omega) (by omega) (by omega) (by omega) (by omega)]; exact h7
  · rw [ha 1 (by omega) (by omega) (by omega) (by omega) (by omega)]; exact h12
  · rw [hf 44 (by omega), ha 43 (by omega) (by omega) (by omega) (by omega) (by omega)]; exact h13
  · unfold wdR; rw [ha 7 (by omega) (by omega) (by omega) (by omega) (by omega)]; exact h14
theorem MK.t6 {f g : Nat → Int32} {K : Kp} (h : MK f K) (hl : K.2.2.2.length ≤ 6) (hg : ∀ j, ¬ inT 6 j → g j = f j) : MK g K := by
  obtain ⟨h1, h2, h3, h4, h5⟩ := h
  refine ⟨h1.cong (fun j hj => hg j (by unfold inT; omega)), ?_, (hg _ (by unfold inT; omega)).trans h3, (hg _ (by unfold inT; omega)).trans h4, fun i q hq => ?_⟩
  · obtain ⟨r1, r2, r3, r4, r5, r6, r7, r8, r9⟩ := h2
    refine ⟨(hg _ (by unfold inT; omega)).trans r1, r2, (hg _ (by unfold inT; omega)).trans r3, r4, (hg _ (by unfold inT; omega)).trans r5, r6, (hg _ (by unfold inT; omega)).trans r7, r8, fun i L hi => ?_⟩
    obtain ⟨a, b, c1, c2, c3, c4, c5⟩ := r9 i L hi
    have hil : i < K.2.1.1.length := (List.getElem?_eq_some_iff.mp hi).1
    refine ⟨a, (hg _ (by unfold inT; omega)).trans b, c1, c2, c3, c4, fun j hj => ?_⟩
    obtain ⟨z1, w, z2, z3⟩ := c5 j hj
    exact ⟨(hg _ (by unfold inT; omega)).trans z1, w, (hg _ (by unfold inT; omega)).trans z2, z3⟩
  · have hi : i < K.2.2.2.length := (List.getElem?_eq_some_iff.mp hq).1
    rw [hg _ (by unfold inT; omega), hg _ (by unfold inT; omega)]; exact h5 i q hq
theorem m_or27 (hA : 69 ≤ A.length) : ∀ (c i : Nat), i + c = 15424 → xD E (d + 1) 283 27 [.ref 48, .int (nI i), xJ, xJ, xJ] [] (mw A fl (sar ar 31 (cpx (ar 30) (ar 31) 0 0 i)) al) = xD E (d + 1) 283 27 [.ref 48, .int (nI 15424), xJ, xJ, xJ] [] (mw A fl (sar ar 31 (cpx (ar 30) (ar 31) 0 0 15424)) al)
  | 0, i, hc => by rw [show i = 15424 by omega]
  | c + 1, i, hc => by
    have hst := cpx_step (ar 30) (ar 31) 0 0 i
    rw [Nat.zero_add] at hst
    rw [e283_27, if_neg (show ¬ (15424 : Int32) ≤ nI i from nI_ge (b := 15424) (by omega) (by omega)), m_r48_31 hA, Option.bind_some, m_r48_30 hA, Option.bind_some, m_a62 hA (by omega), Option.bind_some, m_s63 hA (by omega), Option.bind_some, sar_n (show 30 ≠ 31 by omega), sar_s, sar_sar, hst, nI_1]
    exact m_or27 hA c (i + 1) (by omega)
theorem m_or123 (hA : 69 ≤ A.length) {i1 : Int32} {m : Nat} : ∀ (c i : Nat) (w2 : Value), i + c = 15424 → ∃ w2', xD E (d + 1) 283 123 [.ref 48, .int i1, w2, .int (nI m), .int (nI i)] [] (mw A fl (sar ar 30 (cpx (ar 31) (ar 30) 0 0 i)) al) = xD E (d + 1) 283 123 [.ref 48, .int i1, w2', .int (nI m), .int (nI 15424)] [] (mw A fl (sar ar 30 (cpx (ar 31) (ar 30) 0 0 15424)) al)
  | 0, i, w2, hc => ⟨w2, by rw [show i = 15424 by omega]⟩
  | c + 1, i, w2, hc => by
    have hst := cpx_step (ar 31) (ar 30) 0 0 i
    rw [Nat.zero_add] at hst
    obtain ⟨w2', q⟩ := m_or123 (i1 := i1) (m := m) hA c (i + 1) xJ (by omega)
    refine ⟨w2', ?_⟩
    rw [e283_123, if_neg (show ¬ (15424 : Int32) ≤ nI i from nI_ge (b := 15424) (by omega) (by omega)), m_r48_30 hA, Option.bind_some, m_r48_31 hA, Option.bind_some, m_a63 hA (by omega), Option.bind_some, m_s62 hA (by omega), Option.bind_some, sar_n (show 31 ≠ 30 by omega), sar_s, sar_sar, hst, nI_1]
    exact q
theorem clause_0 {x x' : PX} {l : List Nat} (hc : pClause T true x = .inr (x', l)) : (T x.1).1 ≠ 0 := fun h0 => by
  unfold pClause at hc
  have : pOrder T true x = .inl x.1 := by
    unfold pOrder
    rw [h0, if_neg (by omega), if_neg (by omega), if_neg (by omega), if_neg (by omega)]
  simp only [if_true, this] at hc
  cases hc
theorem m_or_step (hA : 69 ≤ A.length) (hT : evR T N g0 ar) (hTl : ∀ i, (T i).1 ≠ 0 → i < N) {x x' : PX} {l : List Nat} (hc : pClause T true x = .inr (x', l)) (hx : okx N x) (hp : pfx F ask x') {Z : OS} (hM : OM fl ar Z) (hd : Z.2.1 + 20 ≤ 1000) (h37 : fl 37 = nI (g0 + x.1)) {i1 : Int32} {i : Nat} {w4 : Value} : (∀ Z', oRep F ask l (l.getD 1 0) Z = some Z' → ∃ fl' ar' al', xD E (d + 55) 283 96 [.ref 48, .int i1, .int (nI (g0 + N)), .int (nI i), w4] [] (mw A fl ar al) = xD E (d + 55) 283 96 [.ref 48, .int i1, .int (nI (g0 + N)), .int (nI (i + 1)), xJ] [] (mw A fl' ar' al') ∧ OF fl ar fl' ar' ∧ OM fl' ar' Z' ∧ Z'.2.1 ≤ Z.2.1 + 20 ∧ fl' 37 = nI (g0 + (x'.1 + 1))) ∧ (oRep F ask l (l.getD 1 0) Z = none → ∃ fl' ar' al', xD E (d + 55) 283 96 [.ref 48, .int i1, .int (nI (g0 + N)), .int (nI i), w4] [] (mw A fl ar al) = xD E (d + 55) 283 123 [.ref 48, .int i1, .int (nI (g0 + N)), .int (nI i), .int (0 : Int32)] [] (mw A fl' (sar ar' 2 (cpx (ar' 5) (ar' 2) (963 * 1) 0 963)) al') ∧ OF fl ar fl' ar') := by
  have hN4 := hT.1
  have hg4 := hT.2.1
  have hlt := hTl _ (clause_0 hc)
  obtain ⟨b3, b4, f1, ar1, al1, r1, r2, r3⟩ := m_runs (E := E) (d := d) (al := al) (F := F) (ask := ask) hA hT hTl hc hx hp hM hd h37
  have head : xD E (d + 55) 283 96 [.ref 48, .int i1, .int (nI (g0 + N)), .int (nI i), w4] [] (mw A fl ar al) = (xI (some (some (.int (if (oRep F ask l (l.getD 1 0) Z).isSome = true then 1 else 0)), mw A f1 ar1 al1))).bind fun q4 => if q4.1 = 0 then (xV (xC E (d + 54) 166 [.ref 48, .int (1 : Int32)] q4.2)).bind fun A5 => xD E (d + 55) 283 123 [.ref 48, .int i1, .int (nI (g0 + N)), .int (nI i), .int (0 : Int32)] [] A5 else xD E (d + 55) 283 96 [.ref 48, .int i1, .int (nI (g0 + N)), .int (nI i + (1 : Int32)), xJ] [] q4.2 := by
    rw [e283_96, m_g48_37 hA, Option.bind_some, h37, if_neg (nI_ge (by omega) (by omega)), r1]
  refine ⟨fun Z' hZ' => ?_, fun hn => ?_⟩
  · have hb := (oRep_R b3 (l.getD 1 0) Z Z' hM.2.1 (by omega) hZ').2
    obtain ⟨c1, c2⟩ := r3 Z' hZ'
    refine ⟨f1, ar1, al1, ?_, r2, c1, by omega, c2⟩
    rw [head, hZ', xI_s, Option.bind_some]
    dsimp only
    rw [if_neg (show ¬ (if (some Z').isSome = true then (1 : Int32) else 0) = 0 by rw [if_pos (show (some Z').isSome = true from rfl)]; decide), nI_1]
  · have htb := m_takesBack (E := E) (d := d + 53) (fl := f1) (ar := ar1) (al := al1) (k := 1) hA (by omega)
    refine ⟨f1, ar1, al1, ?_, r2⟩
    rw [head, hn, xI_s, Option.bind_some]
    dsimp only
    rw [if_pos (show (if (none : Option OS).isSome = true then (1 : Int32) else 0) = 0 from if_neg (by decide)), show (1 : Int32) = nI 1 from rfl, htb, xV_s, Option.bind_some]
end MORD
theorem more_app {T : Nat → Nat × Nat} {o : Bool} : ∀ (c : Nat) (x y : PX) (cs cs' : List (List Nat)), pMore T o c x cs = .inr (y, cs') → ∃ rest, cs' = cs ++ rest
  | 0, x, y, cs, cs', h => by
    unfold pMore at h
    split at h
    · cases h
    · cases h; exact ⟨[], (List.append_nil _).symm⟩
  | c + 1, x, y, cs, cs', h => by
    unfold pMore at h
    split at h
    · cases hr : pClause T o (adv x) with
      | inl t => rw [hr] at h; cases h
      | inr w =>
        obtain ⟨z, l⟩ := w
        rw [hr] at h
        obtain ⟨rest, hr2⟩ := more_app c z y _ _ h
        exact ⟨l :: rest, by rw [hr2, List.append_assoc]; rfl⟩
    · cases h; exact ⟨[], (List.append_nil _).symm⟩
section MORD2
variable {E : Nat × (Nat → Int32)} {d : Nat} {A : xH} {fl : Nat → Int32} {ar : Nat → Nat → Int32} {al : Nat → Nat → Int64} {bs : Nat → Nat} {n g0 : Nat} {F : List (Nat × Nat)} {ask : List Nat}
theorem m_or_loop (hA : 69 ≤ A.length) {i1 : Int32} : ∀ (c : Nat) (x y : PX) (cs cs' : List (List Nat)) (Z : OS) (fl : Nat → Int32) (ar : Nat → Nat → Int32) (al : Nat → Nat → Int64) (i : Nat) (w4 : Value), pMore (tok bs n) true c x cs = .inr (y, cs') → okx (tkN bs n) x → tkN bs n ≤ y.1 → pfx F ask y → evR (tok bs n) (tkN bs n) g0 ar → OM fl ar Z → Z.2.1 + 20 * c ≤ 1000 → fl 37 = nI (g0 + (x.1 + 1)) → ∃ rest, cs' = cs ++ rest ∧ (∀ Z', oAll F ask i rest Z = .inr Z' → ∃ fl' ar' al', xD E (d + 55) 283 96 [.ref 48, .int i1, .int (nI (g0 + tkN bs n)), .int (nI i), w4] [] (mw A fl ar al) = some (some (.int (nI Z'.2.1)), mw A fl' ar' al') ∧ MI fl' ar' (Xgr Z'.1)) ∧ (∀ j, oAll F ask i rest Z = .inl j → ∃ fl' ar' al', xD E (d + 55) 283 96 [.ref 48, .int i1, .int (nI (g0 + tkN bs n)), .int (nI i), w4] [] (mw A fl ar al) = xD E (d + 55) 283 123 [.ref 48, .int i1, .int (nI (g0 + tkN bs n)), .int (nI j), .int (0 : Int32)] [] (mw A fl' (sar ar' 2 (cpx (ar' 5) (ar' 2) (963 * 1) 0 963)) al') ∧ OF fl ar fl' ar')
  | c, x, y, cs, cs', Z, fl, ar, al, i, w4, hm, hx, hy, hp, hT, hM, hd, h37 => by
    have hN4 := hT.1
    have hg4 := hT.2.1
    have hx1 := hx.1
    by_cases e : (tok bs n x.1).1 = 159
    · cases c with
      | zero => rw [show pMore (tok bs n) true 0 x cs = _ from if_pos e] at hm; cases hm
      | succ c =>
        have hlt := tok_lt (bs := bs) (n := n) (i := x.1) (by omega)
        have hxx : okx (tkN bs n) (adv x) := hx.adv (by omega)
        have hg := gc_clause (bs := bs) (n := n) (o := true) (x := adv x) hlt
        rw [show pMore (tok bs n) true (c + 1) x cs = _ from if_pos e] at hm
        cases hr : pClause (tok bs n) true (adv x) with
        | inl t => rw [hr] at hm; cases hm
        | inr w =>
          obtain ⟨z, l⟩ := w
          rw [hr] at hm hg
          dsimp only at hm
          have hz := hxx.le hg.1
          have hzy := more_le c z y _ _ hm hz.1
          obtain ⟨s1, s2⟩ := m_or_step (E := E) (d := d) (al := al) (F := F) (ask := ask) (i1 := i1) (i := i) (w4 := w4) hA hT hTk hr hxx (hp.le hzy) hM (by omega) h37
          cases ho : oRep F ask l (l.getD 1 0) Z with
          | none =>
            obtain ⟨f1, ar1, al1, q1, q2⟩ := s2 ho
            obtain ⟨rest, hrest⟩ := more_app c z y (cs ++ [l]) cs' hm
            refine ⟨l :: rest, by rw [hrest, List.append_assoc]; rfl, fun Z' hZ' => ?_, fun j hj => ?_⟩
            · unfold oAll at hZ'
              rw [ho] at hZ'; cases hZ'
            · unfold oAll at hj
              rw [ho] at hj
              cases hj
              exact ⟨f1, ar1, al1, q1, q2⟩
          | some Z1 =>
            obtain ⟨f1, ar1, al1, q1, q2, q3, q4, q5⟩ := s1 Z1 ho
            obtain ⟨rest, t1, t2, t3⟩ := m_or_loop hA (i1 := i1) c z y (cs ++ [l]) cs' Z1 f1 ar1 al1 (i + 1) xJ hm hz hy hp (hT.of q2) q3 (by omega) q5
            have hal : oAll F ask i (l :: rest) Z = oAll F ask (i + 1) rest Z1 := by
              show (match oRep F ask l (l.getD 1 0) Z with
                | none => Sum.inl i
                | some Z' => oAll F ask (i + 1) rest Z') = _
              rw [ho]
            refine ⟨l :: rest, by rw [t1, List.append_assoc]; rfl, fun Z' hZ' => ?_, fun j hj => ?_⟩
            · rw [hal] at hZ'
              obtain ⟨f2, ar2, al2, u1, u2⟩ := t2 Z' hZ'
              exact ⟨f2, ar2, al2, q1.trans u1, u2⟩
            · rw [hal] at hj
              obtain ⟨f2, ar2, al2, u1, u2⟩ := t3 j hj
              exact ⟨f2, ar2, al2, q1.trans u1, q2.tr u2⟩
    · have hxy : x = y ∧ cs = cs' := by
        cases c with
        | zero => rw [show pMore (tok bs n) true 0 x cs = _ from if_neg e] at hm; cases hm; exact ⟨rfl, rfl⟩
        | succ c => rw [show pMore (tok bs n) true (c + 1) x cs = _ from if_neg e] at hm; cases hm; exact ⟨rfl, rfl⟩
      obtain ⟨rfl, rfl⟩ := hxy
      refine ⟨[], (List.append_nil _).symm, fun Z' hZ' => ?_, fun j hj => ?_⟩
      · cases hZ'
        obtain ⟨g1, g2⟩ := m_good (E := E) (d := d + 53) (al := al) (x := nI Z.2.1) hA hM.1
        refine ⟨_, _, al, ?_, g2⟩
        rw [e283_96, m_g48_37 hA, Option.bind_some, h37, if_pos (nI_le (by omega) (by omega)), m_g48_27 hA, Option.bind_some, hM.2.2.1, g1, xI_s, Option.bind_some]
      · cases hj
theorem m_orders (hA : 69 ≤ A.length) {X : Xs} (h : MI fl ar X) (hX : XI X) : ∃ fl' ar' al', xC E (d + 55) 283 [.ref 48] (mw A fl ar al) = some (some (.int (aOrders X).1), mw A fl' ar' al') ∧ MI fl' ar' (aOrders X).2 := by
  have hn := hX.2.2.2.2.1
  have hbs := hX.2.2.2.2.2
  have hsp := h.sp (z := -1)
  obtain ⟨fl1, ar1, q1, q2, q3, q4, q5, q6⟩ := m_readsAs (E := E) (d := d + 17) (o := true) (fl := upd fl 36 (-1)) (ar := ar) (al := al) hA hn hbs hsp.2.2.2.1.2 hsp.2.2.2.2.2.2.2 hsp.2.2.2.1.1
  rw [k283 _ _ _ _ (m_k48 hA), m_p48_36 hA, Option.bind_some]
  unfold aOrders
  cases hpt : pText (tok X.2.2.2.1.1 X.2.2.2.1.2) true (tkN X.2.2.2.1.1 X.2.2.2.1.2) with
  | inl t =>
    rw [hpt] at q6
    obtain ⟨z1, z2⟩ := q6
    have hM := hsp.rd q1 q2 z2 q5
    obtain ⟨f6, a6, r1, r2, -⟩ := m_refuses (E := E) (d := d + 53) (al := al) (c := 6) (x := -6) hA hM (by omega) rfl (by decide)
    rw [show xC E (d + 54) 214 [.ref 48, .int (1 : Int32)] (mw A (upd fl 36 (-1)) ar al) = _ from z1, xI_s, Option.bind_some]
    dsimp only
    rw [if_pos rfl, r1, xI_s, Option.bind_some]
    exact ⟨f6, a6, al, rfl, r2⟩
  | inr w =>
    rw [hpt] at q6
    obtain ⟨z1, z2⟩ := q6
    obtain ⟨y, cs⟩ := w
    have hM : MI fl1 ar1 (Xor X) := hsp.rd q1 q2 z2 q5
    have hXo := Xor_XI hX
    have hl16 : (Xor X).2.1.length ≤ 16 := hX.2.1
    have hla := m_laysAside (E := E) (d := d + 53) (fl := fl1) (ar := ar1) (al := al) (k := 1) hA (by omega)
    rw [show xC E (d + 54) 214 [.ref 48, .int (1 : Int32)] (mw A (upd fl 36 (-1)) ar al) = _ from z1, xI_s, Option.bind_some]
    dsimp only
    rw [if_neg (show ¬ (1 : Int32) = 0 by decide), show xC E (d + 54) 165 [.ref 48, .int (1 : Int32)] (mw A fl1 ar1 al) = _ from hla, xV_s, Option.bind_some]
    have a5 : ∀ j, j < 963 → (sar ar1 5 (cpx (ar1 2) (ar1 5) 0 (963 * 1) 963)) 5 (963 + j) = ar1 2 j := fun j hj => by
      rw [sar_s, show 963 * 1 = 963 from rfl, cpx_in hj, Nat.zero_add]
    have hM2 : MI fl1 (sar ar1 5 (cpx (ar1 2) (ar1 5) 0 (963 * 1) 963)) (Xor X) := hM.ac (fun j q _ => sar_n q)
    have k2 : (sar ar1 5 (cpx (ar1 2) (ar1 5) 0 (963 * 1) 963)) 2 = ar1 2 := sar_n (by omega)
    have kk : mkR X.2.2.2.1.1 X.2.2.2.1.2 (sar ar1 5 (cpx (ar1 2) (ar1 5) 0 (963 * 1) 963)) := fun j hj => by rw [sar_n (by omega), sar_n (by omega), sar_n (by omega)]; exact q4 j hj
    generalize (sar ar1 5 (cpx (ar1 2) (ar1 5) 0 (963 * 1) 963)) = ar2 at *
    have h27 := m_or27 (E := E) (d := d + 54) (fl := fl1) (ar := ar2) (al := al) hA 15424 0 rfl
    rw [cpx_0, sar_self] at h27
    have hM3 : MI fl1 (sar ar2 31 (cpx (ar2 30) (ar2 31) 0 0 15424)) (Xor X) := hM2.ac (fun j _ q => sar_n q)
    have b31 : ∀ i, i < 15424 → (sar ar2 31 (cpx (ar2 30) (ar2 31) 0 0 15424)) 31 i = ar2 30 i := fun i hi => by
      have := cpx_in (src := ar2 30) (dst := ar2 31) (fr := 0) (to := 0) (n := 15424) hi
      rw [Nat.zero_add] at this
      rw [sar_s]; exact this
    have b30 : (sar ar2 31 (cpx (ar2 30) (ar2 31) 0 0 15424)) 30 = ar2 30 := sar_n (by omega)
    have b5 : (sar ar2 31 (cpx (ar2 30) (ar2 31) 0 0 15424)) 5 = ar2 5 := sar_n (by omega)
    have b2 : (sar ar2 31 (cpx (ar2 30) (ar2 31) 0 0 15424)) 2 = ar2 2 := sar_n (by omega)
    have bk : mkR X.2.2.2.1.1 X.2.2.2.1.2 (sar ar2 31 (cpx (ar2 30) (ar2 31) 0 0 15424)) := fun j hj => by rw [sar_n (by omega), sar_n (by omega), sar_n (by omega)]; exact kk j hj
    generalize (sar ar2 31 (cpx (ar2 30) (ar2 31) 0 0 15424)) = ar3 at *
    obtain ⟨g, l1, l2, l3, l4⟩ := m_lays (E := E) (d := d + 53) (fl := fl1) (ar := ar3) (al := al) (t := 6) hA hn hbs (by omega) q3 bk
    have hM4 : MI fl1 (sar ar3 2 g) (Xor X) := hM3.kp (hM3.1.t6 hX.1.2.2.1 l4)
    generalize hf4 : upd (upd (upd fl1 27 0) 28 (-1)) 37 (nI 2400) = fl4
    have f4 : ∀ j, j ≠ 27 → j ≠ 28 → j ≠ 37 → fl4 j = fl1 j := fun j a b c => by rw [← hf4, upd_n c, upd_n b, upd_n a]
    have hOM : OM fl4 (sar ar3 2 g) (Xor X, 0, none) := ⟨hM4.fc (fun j hj => f4 j (by omega) (by omega) (by omega)), ⟨hXo, Nat.zero_le _, fun n hn => by cases hn⟩, by rw [← hf4, upd_n (by omega), upd_n (by omega), upd_s]; rfl, by rw [← hf4, upd_n (by omega), upd_s]; rfl⟩
    have f37 : fl4 37 = nI 2400 := by rw [← hf4, upd_s]
    have hT : evR (tok X.2.2.2.1.1 X.2.2.2.1.2) (tkN X.2.2.2.1.1 X.2.2.2.1.2) 2400 (sar ar3 2 g) := evF.ar (by rw [sar_s]; exact l2)
    have hN4 := hT.1
    have h32 : fl1 32 = nI (Xor X).2.1.length := hM.2.1.1
    have start : xD E (d + 55) 283 27 [.ref 48, .int (nI 15424), xJ, xJ, xJ] [] (mw A fl1 ar3 al) = xD E (d + 55) 283 96 [.ref 48, .int (nI (Xor X).2.1.length), .int (nI (2400 + tkN X.2.2.2.1.1 X.2.2.2.1.2)), .int (nI 0), xJ] [] (mw A fl4 (sar ar3 2 g) al) := by
      rw [e283_27, if_pos (show (15424 : Int32) ≤ nI 15424 by decide), m_g48_32 hA, Option.bind_some, h32, show (6 : Int32) = nI 6 from rfl, l1, xV_s, Option.bind_some, m_p48_27 hA, Option.bind_some, m_p48_28 hA, Option.bind_some, show (2400 : Int32) = nI 2400 from rfl, m_p48_37 hA, Option.bind_some, m_g48_37 hA, Option.bind_some, upd_s, m_r48_2 hA, Option.bind_some, show (987 : Int32) = nI 987 from rfl, m_a50 hA (by omega), Option.bind_some, sar_s, show g 987 = _ from l3, nI_add, hf4]
      rfl
    -- the orders, one after another
    have hrun : ∃ rest, cs = rest ∧ (∀ Z', oAll y.2.2.1 y.2.2.2 0 rest (Xor X, 0, none) = .inr Z' → ∃ fl' ar' al', xD E (d + 55) 283 96 [.ref 48, .int (nI (Xor X).2.1.length), .int (nI (2400 + tkN X.2.2.2.1.1 X.2.2.2.1.2)), .int (nI 0), xJ] [] (mw A fl4 (sar ar3 2 g) al) = some (some (.int (nI Z'.2.1)), mw A fl' ar' al') ∧ MI fl' ar' (Xgr Z'.1)) ∧ (∀ j, oAll y.2.2.1 y.2.2.2 0 rest (Xor X, 0, none) = .inl j → ∃ fl' ar' al', xD E (d + 55) 283 96 [.ref 48, .int (nI (Xor X).2.1.length), .int (nI (2400 + tkN X.2.2.2.1.1 X.2.2.2.1.2)), .int (nI 0), xJ] [] (mw A fl4 (sar ar3 2 g) al) = xD E (d + 55) 283 123 [.ref 48, .int (nI (Xor X).2.1.length), .int (nI (2400 + tkN X.2.2.2.1.1 X.2.2.2.1.2)), .int (nI j), .int (0 : Int32)] [] (mw A fl' (sar ar' 2 (cpx (ar' 5) (ar' 2) (963 * 1) 0 963)) al') ∧ OF fl4 (sar ar3 2 g) fl' ar') := by
      have hx : okx (tkN X.2.2.2.1.1 X.2.2.2.1.2) (0, 0, [], []) := ⟨Nat.zero_le _, Nat.zero_le _, Nat.zero_le _, Nat.zero_le _⟩
      have hgc := gc_clause (bs := X.2.2.2.1.1) (n := X.2.2.2.1.2) (o := true) (x := (0, 0, [], [])) (Nat.zero_le _)
      unfold pText at hpt
      cases hr : pClause (tok X.2.2.2.1.1 X.2.2.2.1.2) true (0, 0, [], []) with
      | inl t => rw [hr] at hpt; cases hpt
      | inr w =>
        obtain ⟨z, l⟩ := w
        rw [hr] at hpt hgc
        dsimp only at hpt
        cases hm : pMore (tok X.2.2.2.1.1 X.2.2.2.1.2) true 11 z [l] with
        | inl t => rw [hm] at hpt; cases hpt
        | inr w2 =>
          obtain ⟨y2, cs2⟩ := w2
          rw [hm] at hpt
          dsimp only at hpt
          split at hpt
          · cases hpt
          · rename_i hyN
            cases hpt
            have hz := hx.le hgc.1
            have hzy := more_le 11 z y _ _ hm hz.1
            have hp : pfx y.2.2.1 y.2.2.2 y := ⟨fun _ _ => rfl, fun _ _ h => h⟩
            obtain ⟨s1, s2⟩ := m_or_step (E := E) (d := d) (al := al) (F := y.2.2.1) (ask := y.2.2.2) (i1 := nI (Xor X).2.1.length) (i := 0) (w4 := xJ) hA hT hTk hr hx (hp.le hzy) hOM (by show 0 + 20 ≤ 1000; omega) f37
            cases ho : oRep y.2.2.1 y.2.2.2 l (l.getD 1 0) (Xor X, 0, none) with
            | none =>
              obtain ⟨f1, ar1, al1, u1, u2⟩ := s2 ho
              obtain ⟨rest, hrest⟩ := more_app 11 z y [l] cs hm
              refine ⟨l :: rest, hrest, fun Z' hZ' => ?_, fun j hj => ?_⟩
              · unfold oAll at hZ'
                rw [ho] at hZ'; cases hZ'
              · unfold oAll at hj
                rw [ho] at hj
                cases hj
                exact ⟨f1, ar1, al1, u1, u2⟩
            | some Z1 =>
              obtain ⟨f1, ar1, al1, u1, u2, u3, u4, u5⟩ := s1 Z1 ho
              obtain ⟨rest, t1, t2, t3⟩ := m_or_loop (E := E) (d := d) (F := y.2.2.1) (ask := y.2.2.2) hA (i1 := nI (Xor X).2.1.length) 11 z y [l] cs Z1 f1 ar1 al1 (0 + 1) xJ hm hz (by omega) hp (hT.of u2) u3 (by have : Z1.2.1 ≤ 0 + 20 := u4; omega) u5
              have hal : oAll y.2.2.1 y.2.2.2 0 (l :: rest) (Xor X, 0, none) = oAll y.2.2.1 y.2.2.2 (0 + 1) rest Z1 := by
                show (match oRep y.2.2.1 y.2.2.2 l (l.getD 1 0) (Xor X, 0, none) with
                  | none => Sum.inl 0
                  | some Z' => oAll y.2.2.1 y.2.2.2 (0 + 1) rest Z') = _
                rw [ho]
              refine ⟨l :: rest, t1, fun Z' hZ' => ?_, fun j hj => ?_⟩
              · rw [hal] at hZ'
                obtain ⟨f2, ar2, al2, v1, v2⟩ := t2 Z' hZ'
                exact ⟨f2, ar2, al2, u1.trans v1, v2⟩
              · rw [hal] at hj
                obtain ⟨f2, ar2, al2, v1, v2⟩ := t3 j hj
                exact ⟨f2, ar2, al2, u1.trans v1, u2.tr v2⟩
    obtain ⟨rest, rfl, t2, t3⟩ := hrun
    cases hoa : oAll y.2.2.1 y.2.2.2 0 cs (Xor X, 0, none) with
    | inr Z =>
      obtain ⟨f5, ar5, al5, v1, v2⟩ := t2 Z hoa
      exact ⟨f5, ar5, al5, (h27.trans start).trans v1, v2⟩
    | inl j =>
      obtain ⟨f5, ar5, al5, v1, v2⟩ := t3 j hoa
      obtain ⟨o1, o2, o3, o4⟩ := v2
      obtain ⟨w2', w1⟩ := m_or123 (E := E) (d := d + 54) (fl := f5) (ar := sar ar5 2 (cpx (ar5 5) (ar5 2) (963 * 1) 0 963)) (al := al5) (i1 := nI (Xor X).2.1.length) (m := j) hA 15424 0 (.int (nI (2400 + tkN X.2.2.2.1.1 X.2.2.2.1.2))) rfl
      rw [cpx_0, sar_self] at w1
      have hMf : MI (upd (upd f5 32 (nI (Xor X).2.1.length)) 36 (nI j)) (sar (sar ar5 2 (cpx (ar5 5) (ar5 2) (963 * 1) 0 963)) 30 (cpx ((sar ar5 2 (cpx (ar5 5) (ar5 2) (963 * 1) 0 963)) 31) ((sar ar5 2 (cpx (ar5 5) (ar5 2) (963 * 1) 0 963)) 30) 0 0 15424)) (Xsp (Xor X) (nI j)) := by
        refine hOM.1.rb hl16 (fun k hk => ?_) upd_s ?_ (fun i hi => ?_) (fun i hi => ?_) (fun k a b c e f => ?_)
        · rw [upd_n (by omega)]
          by_cases e : k = 32
          · subst e; rw [upd_s]; exact hOM.1.2.1.1.symm
          · rw [upd_n e]
            exact o1 k (by omega) (by omega) (by omega) (by omega) (by omega) (by omega) (by omega) (by omega) (by omega) (by omega) (by omega) (by omega)
        · rw [sar_n (by omega), sar_s]
          refine hM3.ms.cong (fun k hk => ?_)
          have := cpx_in (src := ar5 5) (dst := ar5 2) (fr := 963 * 1) (to := 0) (n := 963) hk
          rw [Nat.zero_add] at this
          rw [this, o4 _ (by omega), sar_n (by omega), b5, show 963 * 1 + k = 963 + k by omega, a5 k hk, b2, k2]
        · rw [sar_n (by omega), sar_s, cpx_out (by omega)]; exact o3 i hi
        · have := cpx_in (src := (sar ar5 2 (cpx (ar5 5) (ar5 2) (963 * 1) 0 963)) 31) (dst := (sar ar5 2 (cpx (ar5 5) (ar5 2) (963 * 1) 0 963)) 30) (fr := 0) (to := 0) (n := 15424) hi
          rw [Nat.zero_add] at this
          rw [sar_s, this, sar_n (by omega), o2 31 (by omega) (by omega) (by omega) (by omega) (by omega), sar_n (by omega), b31 i hi, sar_n (by omega), b30]
        · rw [sar_n f, sar_n a]; exact o2 k a b c e f
      obtain ⟨f7, a7, r1, r2, -⟩ := m_refuses (E := E) (d := d + 53) (al := al5) (c := 3) (x := -3) hA hMf (by omega) rfl (by decide)
      refine ⟨f7, a7, al5, ((h27.trans start).trans v1).trans ((show _ = _ from w1).trans ?_), r2⟩
      rw [e283_123, if_pos (show (15424 : Int32) ≤ nI 15424 by decide), m_p48_32 hA, Option.bind_some, m_p48_36 hA, Option.bind_some, r1, xI_s, Option.bind_some]
end MORD2
