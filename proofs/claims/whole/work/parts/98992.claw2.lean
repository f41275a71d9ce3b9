/-! ===== the class: law, whole ===== -/
section CLAW2
variable {E : Nat × (Nat → Int32)} {d : Nat} {A A' : xH} {X : Xs} {Lo : List (St × Nat)} {n : NM}
theorem CIo.ft (h : CIo A X Lo n) (x : Int32) : ∃ A', pF A 0 8 15 (.int x) = some A' ∧ CIo A' (Xft X x) Lo n ∧ sm (fun q => q = 0) A A' := ⟨_, h.p15 x, h.four (q := (X.2.2.2.2.1.1, X.2.2.2.2.1.2.1, x, X.2.2.2.2.1.2.2.2)) rfl, sm.set _ rfl⟩
/-- a new law is laid behind the others -/
theorem c_addLaw (h : CIo A X Lo n) {N : xH} {L : Lw} (hN : N.length = 5) (hz : ∀ c ∈ N, xsz c ≤ 500) (hL : lawK L) (hT : TXT (A ++ N) A.length (lcd L) (tcl L) (lask L)) (h6 : X.1.2.1.1.length < 6) : ∃ A', xC E (d + 1) 30 [.ref 22, .ref A.length] (A ++ N) = some (some (.int (nI X.1.2.1.1.length)), A') ∧ CIo A' (Xlw X L) Lo (n.1 + 1, n.2) := by
  have h69 := h.1
  obtain ⟨u, hu, hu5, hut, htx⟩ := h.2.2.1.2.1
  obtain ⟨r1, ⟨r2a, r2b, r2c⟩, r3, r4, r5, r6, r7, r8, r9⟩ := hu
  have old : ∀ q, q < A.length → (A ++ N)[q]? = A[q]? := fun q hq => List.getElem?_append_left hq
  have u0 : RU (A ++ N) 22 u := r1.eq (fun q q1 q2 => old q (by omega))
  have hT' := id hT
  obtain ⟨n0, n1, n2, n3, f0, f1, f2, f3, a0, -⟩ := hT'
  have hx : xelok (A ++ N) 4 (some A.length) = true := by
    unfold xelok
    dsimp only
    rw [h_cls a0]; rfl
  generalize hB : (A ++ N).set 23 (.inl (4, 6, .inr (.inr (va_up u.1 X.1.2.1.1.length (some A.length))))) = B
  have kB : ∀ q, q ≠ 23 → B[q]? = (A ++ N)[q]? := fun q hq => by rw [← hB]; exact List.getElem?_set_ne (fun z => hq z.symm)
  have lB : B.length = A.length + 5 := by rw [← hB, List.length_set, List.length_append, hN]
  have b22 := (kB 22 (by omega)).trans u0.1
  generalize hC : B.set 22 (.inr (3, [.ref 23, .ref 24, .ref 25, .int (nI (X.1.2.1.1.length + 1)), .int u.2.2.1, .int u.2.2.2.1, .int u.2.2.2.2.1, .int u.2.2.2.2.2])) = C
  have kC : ∀ q, q ≠ 22 → C[q]? = B[q]? := fun q hq => by rw [← hC]; exact List.getElem?_set_ne (fun z => hq z.symm)
  have lC : C.length = A.length + 5 := by rw [← hC, List.length_set, lB]
  have c22 : C[22]? = some (.inr (3, [.ref 23, .ref 24, .ref 25, .int (nI (X.1.2.1.1.length + 1)), .int u.2.2.1, .int u.2.2.2.1, .int u.2.2.2.2.1, .int u.2.2.2.2.2])) := by rw [← hC]; exact List.getElem?_set_self (by omega)
  have c23 : C[23]? = some (.inl (4, 6, .inr (.inr (va_up u.1 X.1.2.1.1.length (some A.length))))) := by
    rw [kC 23 (by omega), ← hB]; exact List.getElem?_set_self (by rw [List.length_append]; omega)
  have kA : ∀ q, q ≠ 22 → q ≠ 23 → C[q]? = (A ++ N)[q]? := fun q q1 q2 => (kC q q1).trans (kB q q2)
  have kO : ∀ q, q < A.length → q ≠ 22 → q ≠ 23 → C[q]? = A[q]? := fun q q0 q1 q2 => (kA q q1 q2).trans (old q q0)
  have k69 : ∀ q, 69 ≤ q → q < A.length → C[q]? = A[q]? := fun q q1 q2 => kO q q2 (by omega) (by omega)
  refine ⟨C, ?_, ?_⟩
  · rw [k30 _ _ _ _ _ (h_cls u0.1), u0.g0, Option.bind_some, u0.g3, Option.bind_some, show u.2.1 = nI X.1.2.1.1.length from r2b, h_sR u0.2.1 h6 (by omega) hx, Option.bind_some, hB, h_gI b22 rfl, Option.bind_some, show u.2.1 = nI X.1.2.1.1.length from r2b, nI_1, h_pF b22 (show 3 < 8 by omega), Option.bind_some]
    rw [show (B.set 22 (.inr (3, List.set [Value.ref (22 + 1), .ref (22 + 2), .ref (22 + 3), .int u.2.1, .int u.2.2.1, .int u.2.2.2.1, .int u.2.2.2.2.1, .int u.2.2.2.2.2] 3 (.int (nI (X.1.2.1.1.length + 1)))))  : xH) = C from hC, h_gI c22 rfl, Option.bind_some, show (1 : Int32) = nI 1 from rfl, pk_sub (show 1 ≤ X.1.2.1.1.length + 1 by omega), Nat.add_sub_cancel]
  · have hRC : RC C 22 (X.1.2.1.1 ++ [L], X.1.2.1.2) X.1.2.2.1 := by
      refine ⟨(va_up u.1 X.1.2.1.1.length (some A.length), nI (X.1.2.1.1.length + 1), u.2.2), ⟨⟨c22, c23, by rw [kO 24 (by omega) (by omega) (by omega)]; exact r1.2.2.1, by rw [kO 25 (by omega) (by omega) (by omega)]; exact r1.2.2.2⟩, ⟨?_, ?_, fun i L' hi => ?_⟩, fun i t hi ht => ?_, r4, fun q hq => ?_, r6, r7, r8, r9⟩, hu5, fun i t hi ht => ?_, fun i t hi ht => ?_⟩
      · show (X.1.2.1.1 ++ [L]).length ≤ 6
        rw [List.length_append]
        show X.1.2.1.1.length + 1 ≤ 6
        omega
      · show nI (X.1.2.1.1.length + 1) = nI (X.1.2.1.1 ++ [L]).length
        rw [List.length_append]; rfl
      · by_cases e : i < X.1.2.1.1.length
        · have hi' : X.1.2.1.1[i]? = some L' := by
            have hi2 : (X.1.2.1.1 ++ [L])[i]? = some L' := hi
            rw [List.getElem?_append_left e] at hi2
            exact hi2
          obtain ⟨z1, t, z2, z3⟩ := r2c i L' hi'
          have hl : t + 5 ≤ A.length := by
            obtain ⟨n0, n1, n2, n3, f0, f1, f2, f3, a0, a1, a2, a3, a4, hr⟩ := z3
            have := (List.getElem?_eq_some_iff.mp a4).1
            omega
          have := hut i t e z2
          exact ⟨z1, t, (vu_n (by omega)).trans z2, z3.eq (fun q q1 q2 => k69 q (by omega) (by omega))⟩
        · have hi2 : (X.1.2.1.1 ++ [L])[i]? = some L' := hi
          have hi3 := (List.getElem?_eq_some_iff.mp hi2).1
          rw [List.length_append] at hi3
          have e' : i = X.1.2.1.1.length := by
            have : ([L] : List Lw).length = 1 := rfl
            omega
          rw [e', List.getElem?_append_right (Nat.le_refl _), Nat.sub_self] at hi2
          cases hi2
          refine ⟨hL, A.length, by rw [e']; exact vu_s, hT.eq (fun q q1 q2 => kA q (by omega) (by omega))⟩
      · show t + 5 ≤ 22 ∨ 22 + 4 ≤ t
        have hi' : i < (X.1.2.1.1 ++ [L]).length := hi
        rw [List.length_append] at hi'
        by_cases e : i = X.1.2.1.1.length
        · have ht' : va_up u.1 X.1.2.1.1.length (some A.length) i = some t := ht
          rw [e, vu_s] at ht'
          cases ht'
          omega
        · have ht' : va_up u.1 X.1.2.1.1.length (some A.length) i = some t := ht
          rw [vu_n e] at ht'
          have : ([L] : List Lw).length = 1 := rfl
          have := hut i t (by omega) ht'
          omega
      · have := r5 q hq
        show q < (X.1.2.1.1 ++ [L]).length
        rw [List.length_append]; omega
      · have hi' : i < (X.1.2.1.1 ++ [L]).length := hi
        rw [List.length_append] at hi'
        have ht' : va_up u.1 X.1.2.1.1.length (some A.length) i = some t := ht
        by_cases e : i = X.1.2.1.1.length
        · rw [e, vu_s] at ht'
          cases ht'
          omega
        · rw [vu_n e] at ht'
          have : ([L] : List Lw).length = 1 := rfl
          exact hut i t (by omega) ht'
      · have ht' : va_up u.1 X.1.2.1.1.length (some A.length) i = some t := ht
        by_cases e : i = X.1.2.1.1.length
        · rw [e, vu_s] at ht'
          cases ht'
          exact ⟨h69, _, (kA _ (by omega) (by omega)).trans a0⟩
        · rw [vu_n e] at ht'
          obtain ⟨z1, fs, z2⟩ := htx i t hi ht'
          have := (List.getElem?_eq_some_iff.mp z2).1
          exact ⟨z1, fs, (k69 t z1 this).trans z2⟩
    obtain ⟨pl, hp⟩ := h.2.2.2.1
    have hp2 := HP.ntx (A' := C) hp h69 lC (fun q q1 q2 => kO q q1 (by omega) (by omega)) (fun q c hq hc => by
      rw [kA q (by omega) (by omega), List.getElem?_append_right hq] at hc
      exact hz c (List.mem_of_getElem? hc))
    obtain ⟨a, b, c, e, f, ⟨⟨g1, g2, g3⟩, i1, i2, i3⟩, j⟩ := h
    exact ⟨by omega, (kO 0 (by omega) (by omega) (by omega)).trans b, ⟨c.1.eq (fun q q1 q2 => kO q (by omega) (by omega) (by omega)), hRC, c.2.2.eq (fun q q1 q2 => kO q (by omega) (by omega) (by omega))⟩, ⟨pl, hp2⟩, f.eq (fun q q1 q2 => kO q (by omega) (by omega) (by omega)), ⟨⟨g1, (kO 44 (by omega) (by omega) (by omega)).trans g2, g3⟩, i1, (kO 45 (by omega) (by omega) (by omega)).trans i2, i3⟩, j.eq (fun q q1 q2 => kO q (by omega) (by omega) (by omega)) (fun q q1 => kO q (by omega) (by omega) (by omega))⟩
theorem c_law (h : CIo A X Lo n) (hX : XI X) : ∃ A' k, xC E (d + 35) 109 [.ref 0] A = some (some (.int (aLaw X).1), A') ∧ CIo A' (aLaw X).2 Lo (k, n.2) ∧ k ≤ n.1 + 1 := by
  obtain ⟨A1, t1, t2, fl, tl, ar, tA, t3, t4, t5⟩ := c_take (E := E) (d := d + 33) h
  have h69 := h.1
  have hn := hX.2.2.2.2.1
  obtain ⟨u, hu, hu5, hut, htx⟩ := t2.2.2.1.2.1
  have hlen : u.2.1 = nI X.1.2.1.1.length := hu.2.1.2.1
  have h6 := hX.1.2.2.2.2.2.2.1
  rw [k109 _ _ _ _ h.cls, h.g8, Option.bind_some, t1, xI_s, Option.bind_some]
  dsimp only
  rw [t2.g3, Option.bind_some, hu.1.g3, Option.bind_some, hlen]
  unfold aLaw
  by_cases e6 : X.1.2.1.1.length = 6
  · obtain ⟨B5, b1, b2, -⟩ := c_refuse (E := E) (d := d + 33) (c := 5) (x := -5) t2 (by omega) (by decide) (by decide)
    rw [if_neg (show ¬ nI X.1.2.1.1.length < (6 : Int32) by rw [e6]; decide), if_pos e6, b1, xI_s, Option.bind_some]
    exact ⟨B5, n.1, rfl, b2, by omega⟩
  · rw [if_pos (show nI X.1.2.1.1.length < (6 : Int32) from nI_lt (b := 6) (by omega) (by omega)), if_neg e6, t2.g8, Option.bind_some]
    have cw := c_readText (E := E) (d := d) (A := A) (bs := X.2.2.2.1.1) (n := X.2.2.2.1.2) (o := false) (tl := tl) (by omega) hn hX.2.2.2.2.2 t3 t5
    obtain ⟨fl', tl', ar', w2, w3, w4, wm⟩ := cw
    have hc : CIo (tw A fl' tl' ar') (Xtp X X.2.2.2.1.1 0) Lo n := h.tpc (m := 0) (w2.trans t4) (fun j hj => by omega)
    cases hp : pText (tok X.2.2.2.1.1 X.2.2.2.1.2) false (tkN X.2.2.2.1.1 X.2.2.2.1.2) with
    | inl t =>
      rw [hp] at wm
      have wm' : xC E (d + 34) 71 [.ref 36, .int (0 : Int32)] A1 = some (some (.int (nI (ps X.2.2.2.1.1 X.2.2.2.1.2 t))), tw A fl' tl' ar') := by rw [tA]; exact wm
      obtain ⟨A2, f1, f2, f3⟩ := hc.ft (nI (ps X.2.2.2.1.1 X.2.2.2.1.2 t))
      obtain ⟨B6, b1, b2, -⟩ := c_refuse (E := E) (d := d + 33) (c := 6) (x := -6) f2 (by omega) (by decide) (by decide)
      refine ⟨B6, n.1, ?_, b2, by omega⟩
      rw [wm', xI_s, Option.bind_some]
      dsimp only
      rw [f1, Option.bind_some, f2.i15, Option.bind_some, if_neg (show ¬ (Xft (Xtp X X.2.2.2.1.1 0) (nI (ps X.2.2.2.1.1 X.2.2.2.1.2 t))).2.2.2.2.1.2.2.1 = (-1 : Int32) from ps_n1 hn t), b1, xI_s, Option.bind_some]
    | inr w =>
      obtain ⟨y, cs⟩ := w
      rw [hp] at wm
      obtain ⟨wm1, wm2, wm3, wm4, wm5, wm6⟩ := wm
      have wm' : xC E (d + 34) 71 [.ref 36, .int (0 : Int32)] A1 = some (some (.int (-1 : Int32)), tw A fl' tl' ar') := by rw [tA]; exact wm1
      obtain ⟨A2, f1, f2, f3⟩ := hc.ft (-1)
      have hl : lpt X.2.2.2.1 = .inr (y, cs) := hp
      have T37 : TXT A2 37 (lcd X.2.2.2.1) (tcl X.2.2.2.1) (lask X.2.2.2.1) := by
        have := (rd_TXT (A := A) (by omega) hn wm2 wm3 wm4 wm5 wm6).eq (A' := A2) (fun q q1 q2 => f3.2 q (by omega))
        unfold tcl lcd lcs lask
        rw [hl]; exact this
      obtain ⟨N, x1, x2, x3, x4⟩ := c_tcopy (E := E) (d := d + 32) T37 (by
        unfold tcl lcs
        rw [hl, List.length_map]; exact wm5)
      obtain ⟨A3, y1, y2⟩ := c_addLaw (E := E) (d := d + 33) f2 x2 x4 ⟨hn, hX.2.2.2.2.2, _, hl⟩ x3 (show X.1.2.1.1.length < 6 by omega)
      obtain ⟨A4, z1, z2, -⟩ := c_grant (E := E) (d := d + 33) (x := nI X.1.2.1.1.length) y2
      refine ⟨A4, n.1 + 1, ?_, z2, by omega⟩
      have y1' : xC E (d + 34) 30 [.ref 22, .ref A2.length] (A2 ++ N) = some (some (.int (nI X.1.2.1.1.length)), A3) := y1
      have g0 : ∀ M : xH, (A2 ++ M)[0]? = A2[0]? := fun M => List.getElem?_append_left (by have := f2.1; omega)
      have g36 : ∀ M : xH, (A2 ++ M)[36]? = some (.inr (6, tfs0 fl')) := fun M => by
        rw [List.getElem?_append_left (by have := f2.1; omega), f3.2 36 (by omega)]; exact t_c36 (by omega)
      rw [wm', xI_s, Option.bind_some]
      dsimp only
      rw [f1, Option.bind_some, f2.i15, Option.bind_some, if_pos (show (Xft (Xtp X X.2.2.2.1.1 0) (-1)).2.2.2.2.1.2.2.1 = (-1 : Int32) from rfl), f2.g3, Option.bind_some, h_gN ((g0 _).trans f2.2.1) rfl, Option.bind_some, h_gN (g36 _) rfl, Option.bind_some, x1, xV_s, Option.bind_some, y1', xI_s, Option.bind_some]
      dsimp only
      rw [z1, xI_s, Option.bind_some]
end CLAW2
