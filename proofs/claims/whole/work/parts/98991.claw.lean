/-! ===== the class: law ===== -/
section CLAW
variable {E : Nat × (Nat → Int32)} {d : Nat} {A A' : xH} {X : Xs} {L Lo : List (St × Nat)} {I : Nat → Option Kp} {n : NM} {pl : Nat → Option Nat}
theorem c_copyOf {a k m : Nat} {f : Nat → Int32} (h : A[a]? = some (ia m f)) (hk : k ≤ m) (hm : m ≤ 100000) : ∃ g, xC E (d + 1) 299 [.ref a, .int (nI k)] A = some (some (.ref A.length), A ++ [ia k g]) ∧ ∀ i, i < k → g i = f i := by
  rw [k299, h_lA h, Option.bind_some]
  have hla : a < A.length := (List.getElem?_eq_some_iff.mp h).1
  by_cases e : k = m
  · subst e
    refine ⟨f, ?_, fun i _ => rfl⟩
    have hcl : xclone A a = some (A ++ [ia k f]) := by
      unfold xclone
      rw [h]; rfl
    have htg : xtag (A ++ [ia k f]) A.length = some 0 := by
      unfold xtag
      rw [ap_G (A := A) (p := A.length) (j := 0) rfl]; rfl
    rw [if_pos rfl, hcl, Option.bind_some, htg, Option.bind_some, if_pos rfl]
  · have o1 : (A ++ [.inl (0, k, .inl fun _ => 0)])[a]? = some (ia m f) := by rw [List.getElem?_append_left hla]; exact h
    have o2 : (A ++ [.inl (0, k, .inl fun _ => 0)])[A.length]? = some (ia k fun _ => 0) := ap_G (j := 0) rfl
    refine ⟨va_cpy f (fun _ => 0) 0 0 k, ?_, fun i hi => ?_⟩
    · rw [if_neg (fun z => e ((nI_eq (by omega) (by omega)).mp z)), nI_clamp (by omega), if_neg (fun z => by
        rcases z with z | z
        · exact nI_pos (by omega) z
        · omega), h_lA o1, Option.bind_some, n_min (by omega) (by omega), show min m k = k by omega, show xcopy (A ++ [.inl (0, k, .inl fun _ => 0)]) a (0 : Int32) A.length (0 : Int32) (nI k) = _ from h_copy (sp := 0) (dp := 0) (c := k) o1 o2 (by omega) (by omega) (by omega) (by omega), Option.bind_some, ap_S (A := A) (p := A.length) (j := 0) rfl]
      rfl
    · unfold va_cpy
      rw [if_pos (by omega)]
      congr 1
      omega
/-- a text is copied -/
theorem c_tcopy {t : Nat} {code : List (Nat × Nat)} {cl : List (Nat → Nat)} {ask : List Nat} (h : TXT A t code cl ask) (hc : cl.length ≤ 12) : ∃ N, xC E (d + 2) 90 [.ref A.length, .ref t] (A ++ [.inr (7, [.null, .null, .null, .null, .int 0, .int 0, .int 0])]) = some (none, A ++ N) ∧ N.length = 5 ∧ TXT (A ++ N) A.length code cl ask ∧ ∀ c ∈ N, xsz c ≤ 500 := by
  obtain ⟨n0, n1, n2, n3, f0, f1, f2, f3, a0, a1, a2, a3, a4, b0, b1, b2, b3, l0, l1, l2, l3, hr0, hr1, hr2⟩ := h
  have lt : ∀ {q c}, A[q]? = some c → ∀ M : xH, (A ++ M)[q]? = some c := fun hq M => by
    rw [List.getElem?_append_left (List.getElem?_eq_some_iff.mp hq).1]; exact hq
  have ln : ∀ M : xH, (A ++ M).length = A.length + M.length := fun M => List.length_append
  obtain ⟨g0, x0, y0⟩ := c_copyOf (E := E) (d := d) (k := code.length) (lt a1 [.inr (7, [.null, .null, .null, .null, .int 0, .int 0, .int 0])]) b0 (by omega)
  rw [ap_A, ln] at x0
  obtain ⟨g1, x1, y1⟩ := c_copyOf (E := E) (d := d) (k := code.length) (lt a2 [.inr (7, [.ref (A.length + 1), .null, .null, .null, .int 0, .int 0, .int 0]), ia code.length g0]) b1 (by omega)
  rw [ap_A, ln] at x1
  obtain ⟨g2, x2, y2⟩ := c_copyOf (E := E) (d := d) (k := cl.length * 8) (lt a3 [.inr (7, [.ref (A.length + 1), .ref (A.length + 2), .null, .null, .int 0, .int 0, .int 0]), ia code.length g0, ia code.length g1]) b2 (by omega)
  rw [ap_A, ln] at x2
  obtain ⟨g3, x3, y3⟩ := c_copyOf (E := E) (d := d) (k := ask.length) (lt a4 [.inr (7, [.ref (A.length + 1), .ref (A.length + 2), .ref (A.length + 3), .null, .int 0, .int 0, .int 0]), ia code.length g0, ia code.length g1, ia (cl.length * 8) g2]) b3 (by omega)
  rw [ap_A, ln] at x3
  refine ⟨[.inr (7, [.ref (A.length + 1), .ref (A.length + 2), .ref (A.length + 3), .ref (A.length + 4), .int (nI code.length), .int (nI cl.length), .int (nI ask.length)]), ia code.length g0, ia code.length g1, ia (cl.length * 8) g2, ia ask.length g3], ?_, rfl, ⟨code.length, code.length, cl.length * 8, ask.length, g0, g1, g2, g3, ap_G (j := 0) rfl, ap_G (j := 1) rfl, ap_G (j := 2) rfl, ap_G (j := 3) rfl, ap_G (j := 4) rfl, Nat.le_refl _, Nat.le_refl _, Nat.le_refl _, Nat.le_refl _, by omega, by omega, by omega, by omega, fun i q hq => ?_, fun i g hg j hj => ?_, fun i q hq => ?_⟩, fun c hc' => ?_⟩
  · rw [k90 _ _ _ _ _ (ap_C (A := A) (p := A.length) (j := 0) rfl rfl), ap_F (A := A) (p := A.length) (j := 0) rfl rfl (show 4 < 7 by omega), Option.bind_some, ap_F (A := A) (p := A.length) (j := 0) rfl rfl (show 5 < 7 by omega), Option.bind_some, ap_F (A := A) (p := A.length) (j := 0) rfl rfl (show 6 < 7 by omega), Option.bind_some]
    simp only [List.set]
    rw [h_gN (lt a0 _) rfl, Option.bind_some, h_gI (lt a0 _) rfl, Option.bind_some, x0, xN_s, Option.bind_some]
    dsimp only
    rw [List.cons_append, List.nil_append, ap_F (A := A) (p := A.length) (j := 0) rfl rfl (show 0 < 7 by omega), Option.bind_some]
    simp only [List.set, List.length_cons, List.length_nil, Nat.zero_add]
    rw [h_gN (lt a0 _) rfl, Option.bind_some, h_gI (lt a0 _) rfl, Option.bind_some, x1, xN_s, Option.bind_some]
    dsimp only
    rw [List.cons_append, List.cons_append, List.nil_append, ap_F (A := A) (p := A.length) (j := 0) rfl rfl (show 1 < 7 by omega), Option.bind_some]
    simp only [List.set, List.length_cons, List.length_nil, Nat.zero_add, Nat.reduceAdd]
    rw [h_gN (lt a0 _) rfl, Option.bind_some, h_gI (lt a0 _) rfl, Option.bind_some, show (8 : Int32) = nI 8 from rfl, pk_mul, x2, xN_s, Option.bind_some]
    dsimp only
    rw [List.cons_append, List.cons_append, List.cons_append, List.nil_append, ap_F (A := A) (p := A.length) (j := 0) rfl rfl (show 2 < 7 by omega), Option.bind_some]
    simp only [List.set, List.length_cons, List.length_nil, Nat.zero_add, Nat.reduceAdd]
    rw [h_gN (lt a0 _) rfl, Option.bind_some, h_gI (lt a0 _) rfl, Option.bind_some, x3, xN_s, Option.bind_some]
    dsimp only
    rw [List.cons_append, List.cons_append, List.cons_append, List.cons_append, List.nil_append, ap_F (A := A) (p := A.length) (j := 0) rfl rfl (show 3 < 7 by omega), Option.bind_some]
    simp only [List.set, List.length_cons, List.length_nil, Nat.zero_add, Nat.reduceAdd]
    rw [h_gI (lt a0 _) rfl, Option.bind_some, ap_F (A := A) (p := A.length) (j := 0) rfl rfl (show 4 < 7 by omega), Option.bind_some, h_gI (lt a0 _) rfl, Option.bind_some, e90_95, ap_F (A := A) (p := A.length) (j := 0) rfl rfl (show 5 < 7 by omega), Option.bind_some, h_gI (lt a0 _) rfl, Option.bind_some, ap_F (A := A) (p := A.length) (j := 0) rfl rfl (show 6 < 7 by omega), Option.bind_some]
    rfl
  · have hi := (List.getElem?_eq_some_iff.mp hq).1
    rw [y0 i hi, y1 i hi]; exact hr0 i q hq
  · have hi := (List.getElem?_eq_some_iff.mp hg).1
    rw [y2 _ (by omega)]; exact hr1 i g hg j hj
  · have hi := (List.getElem?_eq_some_iff.mp hq).1
    rw [y3 i hi]; exact hr2 i q hq
  · simp only [List.mem_cons, List.not_mem_nil, or_false] at hc'
    rcases hc' with rfl | rfl | rfl | rfl | rfl
    · exact (show 7 ≤ 500 by omega)
    · exact (show code.length ≤ 500 by omega)
    · exact (show code.length ≤ 500 by omega)
    · exact (show cl.length * 8 ≤ 500 by omega)
    · exact (show ask.length ≤ 500 by omega)
/-- a text more is there -/
theorem HP.ntx (g : HP A pl L Lo I n) (h69 : 69 ≤ A.length) (hl : A'.length = A.length + 5) (h1 : ∀ q, q < A.length → 29 ≤ q → A'[q]? = A[q]?) (hz : ∀ q c, A.length ≤ q → A'[q]? = some c → xsz c ≤ 500) : HP A' pl L Lo I (n.1 + 1, n.2) := by
  obtain ⟨hD, hS1, hS2, ⟨k, c1, c2⟩, e1, e2, e3⟩ := g
  have kp : ∀ q, 69 ≤ q → q < A.length → A'[q]? = A[q]? := fun q q1 q2 => h1 q q2 (by omega)
  refine ⟨⟨hD.1, fun i p hi hp => ?_⟩, hS1.eq (by omega) hD (fun q q1 q2 => h1 q (by omega) (by omega)) kp, hS2.eq (by omega) hD (fun q q1 q2 => h1 q (by omega) (by omega)) kp, ⟨k, (h1 35 (by omega) (by omega)).trans c1, fun j hj => ⟨(c2 j hj).1, fun K hK => ?_⟩⟩, ?_, fun q c hq hc => ?_, fun q q1 q2 => (h1 q (by omega) (by omega)).trans (e3 q q1 q2)⟩
  · obtain ⟨x, y⟩ := hD.2 i p hi hp
    exact ⟨x, y.gr x kp⟩
  · obtain ⟨p', p1, p2, p3, p4, p5⟩ := (c2 j hj).2 K hK
    have hp' : p' < A.length := (List.getElem?_eq_some_iff.mp p4).1
    exact ⟨p', p1, p2, p3, (kp p' p3 hp').trans p4, p5.gr (by omega) (by omega) (by omega) kp⟩
  · rw [hl]
    dsimp only
    omega
  · by_cases z : q < A.length
    · exact e2 q c hq (by rw [← kp q hq z]; exact hc)
    · exact hz q c (by omega) hc
/-- the text that was read lies at 37 -/
theorem rd_TXT (hA : 43 ≤ A.length) {bs : Nat → Nat} {m : Nat} {o : Bool} {y : PX} {cs : List (List Nat)} {fl tl : Nat → Int32} {ar : Nat → Nat → Int32} (hm : m ≤ 400) (hr : tpR bs m o y fl tl ar) (hx : okx (tkN bs m) y) (h5 : tl 5 = nI cs.length) (h12 : cs.length ≤ 12) (hc : csR (ar 2) cs) : TXT (tw A fl tl ar) 37 y.2.2.1 (cs.map cl8) y.2.2.2 := by
  have hN := tkN_le (bs := bs) (n := m)
  obtain ⟨x1, x2, x3, x4⟩ := hx
  obtain ⟨-, -, -, -, -, -, -, r4, r6, ra, rb, -⟩ := hr
  refine ⟨400, 400, 96, 50, ar 0, ar 1, ar 2, ar 3, ?_, t_c38 hA, t_c39 hA, t_c40 hA, t_c41 hA, by omega, by omega, by rw [List.length_map]; omega, by omega, by omega, by omega, by omega, by omega, ra, fun i g hg j hj => ?_, rb⟩
  · rw [t_c37 hA, List.length_map, ← r4, ← h5, ← r6]; rfl
  · rw [List.getElem?_map] at hg
    cases hcs : cs[i]? with
    | none => rw [hcs] at hg; cases hg
    | some l =>
      rw [hcs] at hg
      cases hg
      exact hc i l hcs j hj
end CLAW
