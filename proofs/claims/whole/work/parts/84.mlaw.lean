/-! ===== the reference: laws are told, years are drawn ===== -/
def Xft (X : Xs) (f : Int32) : Xs := (X.1, X.2.1, X.2.2.1, X.2.2.2.1, (X.2.2.2.2.1.1, X.2.2.2.2.1.2.1, f, X.2.2.2.2.1.2.2.2), X.2.2.2.2.2)
def Xlw (X : Xs) (L : Lw) : Xs := ((X.1.1, (X.1.2.1.1 ++ [L], X.1.2.1.2), X.1.2.2), X.2)
def aLaw (X : Xs) : Int32 × Xs := if X.1.2.1.1.length = 6 then (-5, Xrf (Xtp X X.2.2.2.1.1 0) 5) else match pText (tok X.2.2.2.1.1 X.2.2.2.1.2) false (tkN X.2.2.2.1.1 X.2.2.2.1.2) with
  | .inl t => (-6, Xrf (Xft (Xtp X X.2.2.2.1.1 0) (nI (ps X.2.2.2.1.1 X.2.2.2.1.2 t))) 6)
  | .inr _ => (nI X.1.2.1.1.length, Xgr (Xlw (Xft (Xtp X X.2.2.2.1.1 0) (-1)) X.2.2.2.1))
theorem XI.tp {X : Xs} (hX : XI X) {n : Nat} (hn : n ≤ 400) : XI (Xtp X X.2.2.2.1.1 n) := ⟨hX.1, hX.2.1, hX.2.2.1, hX.2.2.2.1, hn, hX.2.2.2.2.2⟩
theorem XI.ft {X : Xs} (hX : XI X) (f : Int32) : XI (Xft X f) := hX
theorem aLaw_R {X : Xs} (hX : XI X) : XI (aLaw X).2 := by
  have hl := hX.1.2.2.2.2.2.2.1
  unfold aLaw
  split
  · exact hX.tp (by omega)
  · rename_i h6
    cases hp : pText (tok X.2.2.2.1.1 X.2.2.2.1.2) false (tkN X.2.2.2.1.1 X.2.2.2.1.2) with
    | inl t => exact hX.tp (by omega)
    | inr w =>
      obtain ⟨k1, k2, k3, k4, k5, k6, k7, k8, k9⟩ := hX.1
      refine ⟨⟨k1, k2, k3, k4, k5, k6, ?_, fun q hq => ?_, fun L hL => ?_⟩, hX.2.1, hX.2.2.1, hX.2.2.2.1, Nat.zero_le _, hX.2.2.2.2.2⟩
      · show (X.1.2.1.1 ++ [X.2.2.2.1]).length ≤ 6
        rw [List.length_append]; simp; omega
      · have := k8 q hq
        show q < (X.1.2.1.1 ++ [X.2.2.2.1]).length
        rw [List.length_append]; omega
      · rcases List.mem_append.mp (show L ∈ X.1.2.1.1 ++ [X.2.2.2.1] from hL) with z | z
        · exact k9 L z
        · rw [List.mem_singleton.mp z]; exact ⟨hX.2.2.2.2.1, hX.2.2.2.2.2, w, hp⟩
section MLAW
variable {E : Nat × (Nat → Int32)} {d : Nat} {A : xH} {al : Nat → Nat → Int64} {fl : Nat → Int32} {ar : Nat → Nat → Int32} {X : Xs}
/-- cells of a text -/
def inT2 (t j : Nat) : Prop := (988 + 400 * t ≤ j ∧ j < 988 + 400 * t + 400) ∨ (3788 + 400 * t ≤ j ∧ j < 3788 + 400 * t + 400)
def inT (t j : Nat) : Prop := j = 981 + t ∨ (988 + 400 * t ≤ j ∧ j < 988 + 400 * t + 400) ∨ (3788 + 400 * t ≤ j ∧ j < 3788 + 400 * t + 400)
theorem m_ly16 (hA : 69 ≤ A.length) {bs : Nat → Nat} {n t : Nat} (hn : n ≤ 400) (ht : t ≤ 6) (h18 : fl 18 = nI (tkN bs n)) : ∀ (c i : Nat) (ar : Nat → Nat → Int32), i + c = tkN bs n → mkR bs n ar → (∀ j, j < i → ar 2 (988 + (400 * t + j)) = nI (tok bs n j).1 ∧ ∃ w, ar 2 (3788 + (400 * t + j)) = nI w ∧ min w 1001 = (tok bs n j).2) → ∃ g, xD E (d + 1) 215 16 [.ref 48, .int (nI t), .int (nI i)] [] (mw A fl ar al) = some (none, mw A fl (sar ar 2 g) al) ∧ (∀ j, j < tkN bs n → g (988 + (400 * t + j)) = nI (tok bs n j).1 ∧ ∃ w, g (3788 + (400 * t + j)) = nI w ∧ min w 1001 = (tok bs n j).2) ∧ ∀ j, ¬ inT2 t j → g j = ar 2 j
  | 0, i, ar, hi, hk, h => by
    have hN := tkN_le (bs := bs) (n := n)
    refine ⟨ar 2, ?_, fun j hj => h j (by omega), fun _ _ => rfl⟩
    rw [e215_16, m_g48_18 hA, Option.bind_some, h18, if_pos (nI_le (by omega) (by omega)), sar_self]
  | c + 1, i, ar, hi, hk, h => by
    have hN := tkN_le (bs := bs) (n := n)
    obtain ⟨c1, c2, w, c3, c4, c5⟩ := hk i (by omega)
    obtain ⟨g, i1, i2, i3⟩ := m_ly16 hA hn ht h18 c (i + 1) (sar ar 2 (upd (upd (ar 2) (988 + 400 * t + i) (nI (tok bs n i).1)) (3788 + 400 * t + i) (nI w))) (by omega) (fun j hj => by rw [sar_n (by omega), sar_n (by omega), sar_n (by omega)]; exact hk j hj) (fun j hj => by
      rw [sar_s]
      by_cases e : j = i
      · subst e
        refine ⟨?_, w, ?_, c4⟩
        · rw [upd_n (by omega), show 988 + (400 * t + j) = 988 + 400 * t + j by omega]; exact upd_s
        · rw [show 3788 + (400 * t + j) = 3788 + 400 * t + j by omega]; exact upd_s
      · obtain ⟨z1, w', z2, z3⟩ := h j (by omega)
        exact ⟨by rw [upd_n (by omega), upd_n (by omega)]; exact z1, w', by rw [upd_n (by omega), upd_n (by omega)]; exact z2, z3⟩)
    rw [sar_sar] at i1
    refine ⟨g, ?_, i2, fun j hj => ?_⟩
    · rw [e215_16, m_g48_18 hA, Option.bind_some, h18, if_neg (nI_ge (by omega) (by omega))]
      simp (disch := first | omega | exact m_k48 hA) only [Option.bind_some, xI_s, xV_s, m_r48_1 hA, m_r48_2 hA, m_r48_5 hA, m_a50 hA, m_s50 hA, m_l50 hA, k169, zl, pk_mul, nI_add, Nat.add_zero, sar_s, sar_sar, m_r48_15 hA, m_r48_16 hA, m_a57 hA, m_a58 hA, sar_n, c1, c3]
      exact i1
    · rw [i3 j hj, sar_s]
      unfold inT2 at hj
      rw [upd_n (by omega), upd_n (by omega)]
theorem m_lays (hA : 69 ≤ A.length) {bs : Nat → Nat} {n t : Nat} (hn : n ≤ 400) (hbs : ∀ j, bs j < 256) (ht : t ≤ 6) (h18 : fl 18 = nI (tkN bs n)) (hk : mkR bs n ar) : ∃ g, xC E (d + 1) 215 [.ref 48, .int (nI t)] (mw A fl ar al) = some (none, mw A fl (sar ar 2 g) al) ∧ evF (tok bs n) (tkN bs n) (400 * t) g ∧ g (981 + t) = nI (tkN bs n) ∧ ∀ j, ¬ inT t j → g j = ar 2 j := by
  have hN := tkN_le (bs := bs) (n := n)
  obtain ⟨g, i1, i2, i3⟩ := m_ly16 (E := E) (d := d) (fl := fl) (al := al) (bs := bs) (n := n) (t := t) hA hn ht h18 (tkN bs n) 0 (sar ar 2 (upd (ar 2) (981 + t) (nI (tkN bs n)))) (by omega) (fun j hj => by rw [sar_n (by omega), sar_n (by omega), sar_n (by omega)]; exact hk j hj) (fun j hj => by omega)
  rw [sar_sar] at i1
  refine ⟨g, ?_, ⟨by omega, by omega, fun i hi => by rw [tok_end hi], fun i => tok_c hbs i, i2⟩, ?_, fun j hj => ?_⟩
  · rw [k215 _ _ _ _ _ (m_k48 hA)]
    simp (disch := first | omega | exact m_k48 hA) only [Option.bind_some, xI_s, xV_s, m_r48_1 hA, m_r48_2 hA, m_r48_5 hA, m_a50 hA, m_s50 hA, m_l50 hA, k169, zl, pk_mul, nI_add, Nat.add_zero, sar_s, sar_sar, m_g48_18 hA, h18]
    exact i1
  · rw [i3 (981 + t) (by unfold inT2; omega), sar_s, upd_s]
  · have hj2 : j ≠ 981 + t := fun z => hj (Or.inl z)
    rw [i3 j (fun z => hj (Or.inr z)), sar_s, upd_n hj2]
/-- a text has been read: fields and arrays -/
theorem MI.rd (h : MI fl ar X) {fl' : Nat → Int32} {ar' : Nat → Nat → Int32} {f : Int32} (hf : ∀ j, j ≠ 8 → j ≠ 9 → j ≠ 10 → j ≠ 13 → j ≠ 14 → j ≠ 18 → j ≠ 19 → j ≠ 20 → j ≠ 21 → fl' j = fl j) (h13 : fl' 13 = 0) (h14 : fl' 14 = f) (ha : ∀ k, k ≠ 15 → k ≠ 16 → k ≠ 17 → ar' k = ar k) : MI fl' ar' (Xft (Xtp X X.2.2.2.1.1 0) f) := by
  obtain ⟨h1, ⟨h3, h4⟩, h5, ⟨h6, h7⟩, ⟨h8, h9, h10, h11⟩, h12, h13', h14'⟩ := h
  refine ⟨by rw [ha 2 (by omega) (by omega) (by omega)]; exact h1, ⟨(hf 32 (by omega) (by omega) (by omega) (by omega) (by omega) (by omega) (by omega) (by omega) (by omega)).trans h3, by rw [ha 30 (by omega) (by omega) (by omega)]; exact h4⟩, by rw [ha 3 (by omega) (by omega) (by omega), ha 4 (by omega) (by omega) (by omega)]; exact h5, ⟨h13, fun j hj => absurd hj (Nat.not_lt_zero j)⟩, ⟨(hf 0 (by omega) (by omega) (by omega) (by omega) (by omega) (by omega) (by omega) (by omega) (by omega)).trans h8, (hf 6 (by omega) (by omega) (by omega) (by omega) (by omega) (by omega) (by omega) (by omega) (by omega)).trans h9, h14, (hf 36 (by omega) (by omega) (by omega) (by omega) (by omega) (by omega) (by omega) (by omega) (by omega)).trans h11⟩, by rw [ha 1 (by omega) (by omega) (by omega)]; exact h12, by rw [hf 44 (by omega) (by omega) (by omega) (by omega) (by omega) (by omega) (by omega) (by omega) (by omega), ha 43 (by omega) (by omega) (by omega)]; exact h13', by unfold wdR; rw [ha 7 (by omega) (by omega) (by omega)]; exact h14'⟩
theorem MRR.lw {f g : Nat → Int32} {R : Ru} {L : Lw} (h : MRR f R) (hl : R.1.length < 6) (hL : lawK L) (hg : ∀ j, ¬ inT R.1.length j → j ≠ 979 → g j = f j) (h9 : g 979 = nI (R.1.length + 1)) (hs : g (981 + R.1.length) = nI (tkN L.1 L.2)) (he : evF (tok L.1 L.2) (tkN L.1 L.2) (400 * R.1.length) g) : MRR g (R.1 ++ [L], R.2) := by
  obtain ⟨r1, r2, r3, r4, r5, r6, r7, r8, r9⟩ := h
  have hll : (R.1 ++ [L]).length = R.1.length + 1 := by rw [List.length_append]; rfl
  refine ⟨(hg _ (by unfold inT; omega) (by omega)).trans r1, r2, (hg _ (by unfold inT; omega) (by omega)).trans r3, r4, by show _ = nI (R.1 ++ [L]).length; rw [hll]; exact h9, by show (R.1 ++ [L]).length ≤ 6; omega, (hg _ (by unfold inT; omega) (by omega)).trans r7, fun q hq => by have := r8 q hq; show q < (R.1 ++ [L]).length; omega, fun i M hi => ?_⟩
  have hi' : (R.1 ++ [L])[i]? = some M := hi
  by_cases e : i = R.1.length
  · subst e
    rw [List.getElem?_append_right (Nat.le_refl _), Nat.sub_self] at hi'
    cases hi'
    exact ⟨hL, hs, he⟩
  · have hil : i < R.1.length := by
      have := (List.getElem?_eq_some_iff.mp hi').1
      omega
    rw [List.getElem?_append_left hil] at hi'
    obtain ⟨a, b, c1, c2, c3, c4, c5⟩ := r9 i M hi'
    refine ⟨a, (hg _ (by unfold inT; omega) (by omega)).trans b, c1, c2, c3, c4, fun j hj => ?_⟩
    obtain ⟨z1, w, z2, z3⟩ := c5 j hj
    exact ⟨(hg _ (by unfold inT; omega) (by omega)).trans z1, w, (hg _ (by unfold inT; omega) (by omega)).trans z2, z3⟩
theorem m_law (hA : 69 ≤ A.length) (h : MI fl ar X) (hX : XI X) : ∃ fl' ar', xC E (d + 38) 216 [.ref 48] (mw A fl ar al) = some (some (.int (aLaw X).1), mw A fl' ar' al) ∧ MI fl' ar' (aLaw X).2 := by
  have hR := h.mr
  have hl := hR.2.2.2.2.2.1
  have h9 : ar 2 979 = nI X.1.2.1.1.length := hR.2.2.2.2.1
  rw [k216 _ _ _ _ (m_k48 hA), m_r48_2 hA, Option.bind_some, show (979 : Int32) = nI 979 from rfl, m_a50 hA (by omega), Option.bind_some, h9]
  unfold aLaw
  by_cases e6 : X.1.2.1.1.length = 6
  · rw [if_pos (show nI X.1.2.1.1.length = (6 : Int32) by rw [e6]; rfl), if_pos e6]
    have ht0 := h.tp (fl' := upd fl 13 (0 : Int32)) (ar' := ar) (bs := X.2.2.2.1.1) (n := 0) upd_s (fun j hj => upd_n hj) (fun _ _ _ => rfl) (fun j hj => by omega)
    obtain ⟨f5, a5, r1, r2, -⟩ := m_refuses (E := E) (d := d + 36) (al := al) (c := 5) (x := -5) hA ht0 (by omega) rfl (by decide)
    rw [m_p48_13 hA, Option.bind_some, r1, xI_s, Option.bind_some]
    exact ⟨f5, a5, rfl, r2⟩
  · rw [if_neg (show ¬ nI X.1.2.1.1.length = (6 : Int32) from fun z => e6 ((nI_eq (b := 6) (by omega) (by omega)).mp z)), if_neg e6]
    obtain ⟨fl1, ar1, q1, q2, q3, q4, q5, q6⟩ := m_readsAs (E := E) (d := d) (o := false) (fl := fl) (al := al) hA hX.2.2.2.2.1 hX.2.2.2.2.2 h.2.2.2.1.2 h.2.2.2.2.2.2.2 h.2.2.2.1.1
    cases hp : pText (tok X.2.2.2.1.1 X.2.2.2.1.2) false (tkN X.2.2.2.1.1 X.2.2.2.1.2) with
    | inl t =>
      rw [hp] at q6
      obtain ⟨z1, z2⟩ := q6
      have hM := h.rd q1 q2 z2 q5
      obtain ⟨f6, a6, r1, r2, -⟩ := m_refuses (E := E) (d := d + 36) (al := al) (c := 6) (x := -6) hA hM (by omega) rfl (by decide)
      rw [show xC E (d + 37) 214 [.ref 48, .int (0 : Int32)] (mw A fl ar al) = _ from z1, xI_s, Option.bind_some]
      dsimp only
      rw [if_pos rfl, r1, xI_s, Option.bind_some]
      exact ⟨f6, a6, rfl, r2⟩
    | inr w =>
      rw [hp] at q6
      obtain ⟨z1, z2⟩ := q6
      have hM := h.rd q1 q2 z2 q5
      obtain ⟨g, l1, l2, l3, l4⟩ := m_lays (E := E) (d := d + 36) (fl := fl1) (ar := ar1) (al := al) (t := X.1.2.1.1.length) hA hX.2.2.2.2.1 hX.2.2.2.2.2 (by omega) q3 q4
      have h91 : ar1 2 979 = nI X.1.2.1.1.length := by rw [q5 2 (by omega) (by omega) (by omega)]; exact h9
      have hg9 : g 979 = nI X.1.2.1.1.length := by rw [l4 979 (by unfold inT; omega)]; exact h91
      have hK : MK (upd g 979 (nI (X.1.2.1.1.length + 1))) (X.1.1, (X.1.2.1.1 ++ [X.2.2.2.1], X.1.2.1.2), X.1.2.2) := by
        obtain ⟨m1, m2, m3, m4, m5⟩ := hM.1
        have hgo : ∀ j, ¬ inT X.1.2.1.1.length j → j ≠ 979 → upd g 979 (nI (X.1.2.1.1.length + 1)) j = ar1 2 j := fun j j1 j2 => by rw [upd_n j2]; exact l4 j j1
        refine ⟨m1.cong (fun j hj => hgo j (by unfold inT; omega) (by omega)), ?_, (hgo _ (by unfold inT; omega) (by omega)).trans m3, (hgo _ (by unfold inT; omega) (by omega)).trans m4, fun i q hq => ?_⟩
        · refine m2.lw (by show X.1.2.1.1.length < 6; omega) ⟨hX.2.2.2.2.1, hX.2.2.2.2.2, w, hp⟩ hgo upd_s ((upd_n (by show 981 + X.1.2.1.1.length ≠ 979; omega)).trans l3) ?_
          obtain ⟨c1, c2, c3, c4, c5⟩ := l2
          refine ⟨c1, c2, c3, c4, fun j hj => ?_⟩
          obtain ⟨z1, w', z2, z3⟩ := c5 j hj
          exact ⟨(upd_n (by omega)).trans z1, w', (upd_n (by omega)).trans z2, z3⟩
        · have hi : i < X.1.2.2.2.length := (List.getElem?_eq_some_iff.mp hq).1
          have := hX.1.2.2.1
          rw [hgo _ (by unfold inT; omega) (by omega), hgo _ (by unfold inT; omega) (by omega)]; exact m5 i q hq
      have hM2 := hM.kp hK
      obtain ⟨g1, g2⟩ := m_good (E := E) (d := d + 36) (al := al) (x := nI X.1.2.1.1.length) hA hM2
      refine ⟨_, _, ?_, g2⟩
      rw [show xC E (d + 37) 214 [.ref 48, .int (0 : Int32)] (mw A fl ar al) = _ from z1, xI_s, Option.bind_some]
      dsimp only
      rw [if_neg (show ¬ (1 : Int32) = 0 by decide), m_r48_2 hA, Option.bind_some, m_a50 hA (by omega), Option.bind_some, h91, l1, xV_s, Option.bind_some, m_r48_2 hA, Option.bind_some, m_a50 hA (by omega), Option.bind_some, sar_s, hg9, nI_1, m_s50 hA (by omega), Option.bind_some, sar_sar, sar_s, m_r48_2 hA, Option.bind_some, m_a50 hA (by omega), Option.bind_some, sar_s, upd_s, show (1 : Int32) = nI 1 from rfl, pk_sub (by omega), Nat.add_sub_cancel, g1, xI_s, Option.bind_some]
end MLAW
/-! years by draws -/
def drN (s : Nat) : Nat := (1103 * s + 12345) % 1000003
noncomputable def yr1 (R : Ru) (k v a : Nat) (S : St) : St := if a < 5 then (putS R k v S).2 else if a < 7 then (dropS R k S).2 else lsS R.2.2.2 (min v S.2.2.1.length) S
noncomputable def yrN (R : Ru) : Nat → Nat → St → St
  | 0, _, S => S
  | n + 1, s, S => yrN R n (drN (drN (drN s))) (yr1 R (drN s % 40) (drN (drN s) % 8) (drN (drN (drN s)) % 8) S)
def Xdr (X : Xs) (g : Nat → Int32) : Xs := (X.1, X.2.1, X.2.2.1, X.2.2.2.1, X.2.2.2.2.1, X.2.2.2.2.2.1, g)
noncomputable def aYears (X : Xs) (x y : Int32) : Int32 × Xs := if (x < 0 ∨ nI 1000001 ≤ x) ∨ y < 1 ∨ nI 61 ≤ y then (-1, Xrf X 1) else (nI (keysN (yrN X.1.2.1 y.toNatClampNeg x.toNatClampNeg X.1.1).1), Xgr (Xdr X fun k => oI (valO (ents ((yrN X.1.2.1 y.toNatClampNeg x.toNatClampNeg X.1.1).1 (own (yrN X.1.2.1 y.toNatClampNeg x.toNatClampNeg X.1.1).1 (hsh X.1.2.1.2.2.2 k % 64)))) k)))
theorem yr1_SI {R : Ru} {k v a : Nat} {S : St} (hk : k < 1000) (hv : v ≤ 99) (h : SI R.2.2.2 S) : SI R.2.2.2 (yr1 R k v a S) := by
  unfold yr1
  split
  · exact putS_SI hk hv h
  · split
    · exact dropS_SI h
    · exact SI_ls _ h
theorem yrN_SI {R : Ru} : ∀ (n s : Nat) (S : St), SI R.2.2.2 S → SI R.2.2.2 (yrN R n s S)
  | 0, s, S, h => h
  | n + 1, s, S, h => yrN_SI n _ _ (yr1_SI (by omega) (by omega) h)
theorem aYears_R {X : Xs} (hX : XI X) {x y : Int32} : XI (aYears X x y).2 := by
  unfold aYears
  split
  · exact hX
  · exact hX
theorem l_remN {a b : Nat} (ha : a ≤ 4000000000) (hb : 0 < b) (hb2 : b ≤ 4000000000) : xlrem (lI (a : Int)) (lI (b : Int)) = lI ((a % b : Nat) : Int) := by
  have hd : lI (a : Int) / lI (b : Int) = lI ((a / b : Nat) : Int) := by
    have hle := Nat.div_le_self a b
    have h0 : (0 : Int) ≤ ((a / b : Nat) : Int) := Int.natCast_nonneg _
    have h1 : ((a / b : Nat) : Int) ≤ (a : Int) := Int.ofNat_le.mpr hle
    rw [l_inj, Int64.toInt_div_of_ne_left, lI_toInt (by omega) (by omega), lI_toInt (by omega) (by omega), lI_toInt (by omega) (by omega)]
    · rfl
    · intro q
      have := congrArg Int64.toInt q
      rw [lI_toInt (by omega) (by omega)] at this
      have h5 : Int64.minValue.toInt = -9223372036854775808 := by decide +kernel
      omega
  unfold xlrem
  rw [hd]
  have m : lI ((a / b : Nat) : Int) * lI (b : Int) = lI (((a / b : Nat) : Int) * (b : Int)) := (Int64.ofInt_mul _ _).symm
  have s : lI (a : Int) - lI (((a / b : Nat) : Int) * (b : Int)) = lI ((a : Int) - ((a / b : Nat) : Int) * (b : Int)) := (Int64.ofInt_sub _ _).symm
  rw [m, s]
  congr 1
  have h1 := Nat.div_add_mod a b
  rw [Nat.mul_comm] at h1
  have h2 : ((a / b : Nat) : Int) * (b : Int) = ((a / b * b : Nat) : Int) := by simp
  rw [h2]
  omega
theorem n_draw {s : Nat} (hs : s ≤ 1000002) : (xlrem (((1103 : Int64) * (nI s).toInt64) + (12345 : Int64)) (1000003 : Int64)).toInt32 = nI (drN s) ∧ (xlrem (((nI s).toInt64 * (1103 : Int64)) + (12345 : Int64)) (1000003 : Int64)).toInt32 = nI (drN s) := by
  have e1 : (1103 : Int64) = lI ((1103 : Nat) : Int) := by decide +kernel
  have e2 : (12345 : Int64) = lI ((12345 : Nat) : Int) := by decide +kernel
  have e3 : (1000003 : Int64) = lI ((1000003 : Nat) : Int) := by decide +kernel
  have hm : lI ((1103 : Nat) : Int) * lI (s : Int) = lI ((1103 * s : Nat) : Int) := by
    have : lI ((1103 : Nat) : Int) * lI (s : Int) = lI (((1103 : Nat) : Int) * (s : Int)) := (Int64.ofInt_mul _ _).symm
    rw [this]; congr 1
  have ha : lI ((1103 * s : Nat) : Int) + lI ((12345 : Nat) : Int) = lI ((1103 * s + 12345 : Nat) : Int) := by
    have : lI ((1103 * s : Nat) : Int) + lI ((12345 : Nat) : Int) = lI (((1103 * s : Nat) : Int) + ((12345 : Nat) : Int)) := (Int64.ofInt_add _ _).symm
    rw [this]; congr 1
  have hl : (1103 * s + 12345) % 1000003 < 1000003 := Nat.mod_lt _ (by omega)
  have key : (xlrem (lI ((1103 * s + 12345 : Nat) : Int)) (lI ((1000003 : Nat) : Int))).toInt32 = nI (drN s) := by
    rw [l_remN (by omega) (by omega) (by omega), l_toInt32 (by omega) (by omega), tI_nat]; rfl
  rw [lI_nat (by omega), Int64.mul_comm (lI (s : Int)), e1, e2, e3, hm, ha]
  exact ⟨key, key⟩
theorem drN_le (s : Nat) : drN s ≤ 1000002 := by
  have : drN s < 1000003 := Nat.mod_lt _ (by omega)
  omega
