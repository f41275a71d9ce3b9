/-! ===== the class: orders, whole ===== -/
section CORDERS
variable {E : Nat × (Nat → Int32)} {d : Nat} {A A' : xH} {X : Xs} {L0 L Lo : List (St × Nat)} {n : NM} {code : List (Nat × Nat)} {cl : List (Nat → Nat)} {ask : List Nat}
theorem CIo.sp (h : CIo A X Lo n) (x : Int32) : ∃ A', pF A 0 8 16 (.int x) = some A' ∧ CIo A' (Xsp X x) Lo n ∧ sm (fun q => q = 0) A A' := ⟨_, h.p16 x, h.four (q := (X.2.2.2.2.1.1, X.2.2.2.2.1.2.1, X.2.2.2.2.1.2.2.1, x)) rfl, sm.set _ rfl⟩
theorem c_oclear (h : CIo A X Lo n) : ∃ A', xC E (d + 1) 1 [.ref 32] A = some (none, A') ∧ CIo A' X [] n ∧ sm (fun q => q = 32) A A' := by
  have hcv := h.cq
  obtain ⟨pl, hD, hS, hO, hI, hR⟩ := h.2.2.2.1
  obtain ⟨k, f, g, gk, gf, -⟩ := hO.hr
  have h69 := h.1
  obtain ⟨A1, a1, a2, -⟩ := g.many 0
  have e1 : A1 = A.set 32 (.inr (0, [.ref 33, .ref 34, oV (pl (17 + 16)), .int (nI 0)])) := by
    have := h_pF (v := .int (nI 0)) g.1 (show 3 < 4 by omega)
    rw [this] at a1
    exact (Option.some.inj a1).symm
  have hs : sm (fun q => q = 32) A A1 := by rw [e1]; exact sm.set _ rfl
  have kp : ∀ q, q ≠ 32 → A1[q]? = A[q]? := fun q q1 => hs.2 q q1
  refine ⟨A1, ?_, CV.mk (pl := pl) (hcv.gr (by rw [hs.1]; exact Nat.le_refl _) (fun q _ q2 => kp q (by omega))) ⟨hD.fr (fun q q1 => kp q (by omega)), hS.eq (by omega) hD (fun q q1 q2 => kp q (by omega)) (fun q q1 _ => kp q (by omega)), ⟨a2.1, ⟨k, a2.2.1, gk⟩, ⟨f, a2.2.2, fun i q hq => by cases hq⟩, Nat.zero_le _, fun i q hq => by cases hq⟩, hI.fr (fun q q1 => kp q (by omega)), hR.fr hs.1 (fun q q1 => kp q (by omega))⟩, hs⟩
  rw [k1 _ _ _ _ (h_cls g.1), show pF A 32 0 3 (.int (0 : Int32)) = some A1 from a1, Option.bind_some]
/-- what is ahead of orders is laid aside -/
theorem CIo.a15 (h : CIo A X Lo n) (hs : sm (inS 15) A A') (h15 : SX A' 15) : CIo A' X Lo n := by
  have kp : ∀ q, (q < 15 ∨ 22 ≤ q) → A'[q]? = A[q]? := fun q hq => hs.2 q (fun z => by unfold inS at z; omega)
  obtain ⟨w1, w2, ⟨w, w3⟩, ⟨g, w4⟩, ⟨z, w5⟩⟩ := h.2.2.2.2.2.2
  exact h.wk1 hs (fun q z => by unfold wkc; unfold inS at z; omega) (S := X.1.1) (h.2.2.1.1.eq (fun q q1 q2 => kp q (by omega))) (h.2.2.1.2.1.eq (fun q q1 q2 => kp q (by omega)) (fun q q1 q2 => kp q (by omega))) ⟨w1.eq (fun q q1 q2 => kp q (by omega)), h15, ⟨w, (kp 43 (by omega)).trans w3⟩, ⟨g, (kp 46 (by omega)).trans w4⟩, ⟨z, (kp 47 (by omega)).trans w5⟩⟩
/-- the store is as it was -/
theorem CIo.s1 (h : CIo A X Lo n) (hs : sm (inS 1) A A') {S : St} (h1 : SC A' 1 S) : CIo A' (XS X S) Lo n := by
  have kp : ∀ q, (q < 1 ∨ 8 ≤ q) → A'[q]? = A[q]? := fun q hq => hs.2 q (fun z => by unfold inS at z; omega)
  exact h.wk1 hs (fun q z => by unfold wkc; unfold inS at z; omega) h1 (h.2.2.1.2.1.eq (fun q q1 q2 => kp q (by omega)) (fun q q1 q2 => kp q (by omega))) (h.2.2.2.2.2.2.eq (fun q q1 q2 => kp q (by omega)) (fun q q1 => kp q (by omega)))
theorem tw_cells (hA : 43 ≤ A.length) {fl tl : Nat → Int32} {ar : Nat → Nat → Int32} : ∀ j, j < 7 → (tw A fl tl ar)[36 + j]? = (tcs fl tl ar)[j]? := fun j hj => by
  rcases (show j = 0 ∨ j = 1 ∨ j = 2 ∨ j = 3 ∨ j = 4 ∨ j = 5 ∨ j = 6 by omega) with rfl | rfl | rfl | rfl | rfl | rfl | rfl
  · exact t_c36 hA
  · exact t_c37 hA
  · exact t_c38 hA
  · exact t_c39 hA
  · exact t_c40 hA
  · exact t_c41 hA
  · exact t_c42 hA
/-- clause after clause -/
theorem c_or74 {X0 : Xs} {cs : List (List Nat)} (h12 : cs.length ≤ 12) (h50 : ask.length ≤ 50) (hask : ∀ q ∈ ask, q < 1024) (hwd : ∀ q ∈ code, q.1 = 1 → q.2 < 6 + ask.length) (hok : ∀ l ∈ cs, ∀ wd nw, nwR true wd nw → CLOK code wd nw l) (h3 : ∀ l ∈ cs, l.getD 0 0 ≤ 3) : ∀ (c i : Nat) (A : xH) (Z : OS) (Lo : List (St × Nat)), i + c = cs.length → ORD A Z X0.2.1 Lo n → SC A 15 X0.1.1 → TXT A 37 code (cs.map cl8) ask → gN A 36 6 0 = some 37 → Z.2.1 + 20 * c ≤ 1000 → Z.1.1.2 = X0.1.2 → Z.1.2.2 = X0.2.2 →
    (∀ j, oAll code ask i (cs.drop i) Z = .inl j → ∃ A' Lo', xD E (d + 10) 110 74 [.ref 0, .int (nI i)] [] A = some (some (.int (-3)), A') ∧ CIo A' (Xrf (Xsp X0 (nI j)) 3) Lo' n) ∧
    (∀ Z', oAll code ask i (cs.drop i) Z = .inr Z' → ∃ A', xD E (d + 10) 110 74 [.ref 0, .int (nI i)] [] A = some (some (.int (nI Z'.2.1)), A') ∧ CIo A' (Xgr Z'.1) [] n)
  | 0, i, A, Z, Lo, hi, hO, h15, hT, h36, hd, hz1, hz2 => by
    have hi' : i = cs.length := by omega
    subst hi'
    rw [List.drop_length]
    refine ⟨fun j hj => (by cases hj), fun Z' hZ' => ?_⟩
    cases hZ'
    obtain ⟨hC, hL, hOI, hXI, w, hw, hw1, hw2⟩ := hO
    obtain ⟨pl, hD, hS, hH, hI, hR⟩ := hC.2.2.2.1
    have hlo := hH.2.2.2.1
    obtain ⟨k, f, g, gk, gf, -⟩ := hH.hr
    obtain ⟨A1, pl1, x1, x2, x3, x4⟩ := c_to2 (E := E) (d := d + 7) hlo Lo.length 0 A pl _ (by omega) hC.cq hD hS ⟨k, f, g, gk, gf⟩ (fun j q _ hq => hH.2.2.2.2 j q hq) hI hR
    have ci : CIo A1 Z.1 [] n := by
      have e : Z.1 = (Z.1.1, (Lo.drop 0).foldl kph X0.2.1, Z.1.2.2) := by
        rw [List.drop_zero, ← hL]
      rw [e]
      exact CV.mk (X := (Z.1.1, (Lo.drop 0).foldl kph X0.2.1, Z.1.2.2)) x2 x3
    obtain ⟨A2, y1, y2, -⟩ := c_grant (E := E) (d := d + 8) (x := nI Z.2.1) ci
    refine ⟨A2, ?_, y2⟩
    have hcl : (cs.map cl8).length = cs.length := List.length_map ..
    have hT' := id hT
    obtain ⟨n0, n1, n2, n3, f0, f1, f2, f3, a0, -⟩ := hT'
    have x1' : xC E (d + 9) 5 [.ref 29, .ref 32] A = some (none, A1) := by rw [k5 _ _ _ _ _ (h_cls hS.1)]; exact x1
    rw [e110_74, hC.g8, Option.bind_some, h36, Option.bind_some, h_gI a0 rfl, Option.bind_some, hcl, if_pos (Int32.le_refl _), hC.g5, Option.bind_some, hC.g6, Option.bind_some, x1', xV_s, Option.bind_some, ci.g9, Option.bind_some, show aI 0 A1 43 (1 : Int32) = some (nI Z.2.1) by
      rw [← hw1]; exact h_aI (i := 1) ((x4 43 (by omega)).trans hw) (by omega) (by omega), Option.bind_some, y1, xI_s, Option.bind_some]
  | c + 1, i, A, Z, Lo, hi, hO, h15, hT, h36, hd, hz1, hz2 => by
    have hil : i < cs.length := by omega
    have hci : cs[i]? = some cs[i] := List.getElem?_eq_getElem hil
    have hm : cs[i] ∈ cs := List.getElem_mem hil
    rw [List.drop_eq_getElem_cons hil]
    have hC := hO.1
    have hOI := hO.2.2.1
    have hk := hok _ hm (fun _ => 0) 56 ⟨rfl, fun j => by dsimp only; omega⟩
    have h20 : cs[i].getD 1 0 ≤ 20 := hk.2.2.2.2.2.1
    have hk3 := h3 _ hm
    obtain ⟨r1, r2⟩ := c_rc18 (E := E) (d := d + 1) (ci := i) rfl hci h50 hask hwd (hok _ hm) hk3 h20 (cs[i].getD 1 0) 0 A Z Lo xJ xJ xJ (by omega) hO (by omega) hT
    have hg : (cs.map cl8)[i]? = some (cl8 cs[i]) := by rw [List.getElem?_map, hci]; rfl
    have hT' := id hT
    obtain ⟨n0, n1, n2, n3, f0, f1, f2, f3, a0, -⟩ := hT'
    have hcl : (cs.map cl8).length = cs.length := List.length_map ..
    have call : xC E (d + 9) 148 [.ref 0, .ref 37, .int (nI i)] A = xD E (d + 9) 148 18 [.ref 0, .ref 37, .int (nI i), .int (nI (cs[i].getD 0 0)), .int (nI (cs[i].getD 1 0)), .int (nI 0), xJ, xJ, xJ] [] A := by
      rw [k148 _ _ _ _ _ _ hC.cls, show xC E (d + 8) 92 [.ref 37, .int (nI i), .int (0 : Int32)] A = _ from c_cell (j := 0) hT hg (by omega), xI_s, Option.bind_some]
      dsimp only
      rw [show xC E (d + 8) 92 [.ref 37, .int (nI i), .int (1 : Int32)] A = _ from c_cell (j := 1) hT hg (by omega), xI_s, Option.bind_some]
      rfl
    have head : xD E (d + 10) 110 74 [.ref 0, .int (nI i)] [] A = ((xI (xC E (d + 9) 148 [.ref 0, .ref 37, .int (nI i)] A)).bind fun q12 => if q12.1 = 0 then (pF q12.2 0 8 16 (.int (nI i))).bind fun A13 => (gN A13 0 8 0).bind fun n14 => (gN A13 0 8 2).bind fun n15 => (xV (xC E (d + 9) 42 [.ref n14, .ref n15] A13)).bind fun A16 => (xI (xC E (d + 9) 141 [.ref 0, .int (-3 : Int32)] A16)).bind fun q17 => some (some (.int q17.1), q17.2) else xD E (d + 10) 110 74 [.ref 0, .int (nI i + (1 : Int32))] [] q12.2) := by
      rw [e110_74, hC.g8, Option.bind_some, h36, Option.bind_some, h_gI a0 rfl, Option.bind_some, hcl, if_neg (nI_ge hil (by omega)), Option.bind_some, h36, Option.bind_some]
    rw [head, call]
    unfold oAll
    cases ho : oRep code ask cs[i] (cs[i].getD 1 0) Z with
    | none =>
      obtain ⟨A1, S', Lo', x1, x2, x3⟩ := r2 ho
      obtain ⟨A2, s1, s2, s3⟩ := x2.sp (nI i)
      obtain ⟨s, hS⟩ := s2.2.2.1.1.x
      have h15' : SC A2 15 X0.1.1 := h15.eq (fun q q1 q2 => (s3.2 q (by omega)).trans (x3 q (by omega)))
      obtain ⟨s15, hS15, hRS15⟩ := h15'
      obtain ⟨A3, s', c1, c2, c3, c4⟩ := c_copyFrom (E := E) (d := d + 7) hS hS15 (by omega) hRS15
      have ci3 := s2.s1 c4 ⟨s', c2, c3⟩
      obtain ⟨A4, b1, b2, -⟩ := c_refuse (E := E) (d := d + 8) (c := 3) (x := -3) ci3 (by omega) (by decide) (by decide)
      refine ⟨fun j hj => ?_, fun Z' hZ' => (by cases hZ')⟩
      cases hj
      refine ⟨A4, Lo', ?_, ?_⟩
      · rw [x1, xI_s, Option.bind_some, if_pos rfl]
        dsimp only
        rw [s1, Option.bind_some, s2.g0, Option.bind_some, s2.g2, Option.bind_some, c1, xV_s, Option.bind_some, b1, xI_s, Option.bind_some]
      · have e : XS (Xsp (XS (Zc Z X0.2.1) S') (nI i)) X0.1.1 = Xsp X0 (nI i) := by
          unfold XS Xsp Zc
          dsimp only
          rw [hz1, hz2]
        rw [e] at b2; exact b2
    | some Z1 =>
      obtain ⟨A1, Lo', x1, x2, x3⟩ := r1 Z1 ho
      dsimp only
      have hR := oRep_R hk3 _ Z Z1 hOI (by omega) ho
      have hsame : Z1.1.1.2 = Z.1.1.2 ∧ Z1.1.2.2 = Z.1.2.2 := oRep_same _ Z Z1 ho
      obtain ⟨y1, y2⟩ := c_or74 (X0 := X0) h12 h50 hask hwd hok h3 c (i + 1) A1 Z1 Lo' (by omega) x2 (h15.eq (fun q q1 q2 => x3 q (by omega))) (x3.txt hT) (by
        have : A1[36]? = A[36]? := x3 36 (by omega)
        unfold gN gV at h36 ⊢
        rw [this]; exact h36) (by omega) (hsame.1.trans hz1) (hsame.2.trans hz2)
      refine ⟨fun j hj => ?_, fun Z' hZ' => ?_⟩
      · obtain ⟨A2, Lo2, z1, z2⟩ := y1 j hj
        refine ⟨A2, Lo2, ?_, z2⟩
        rw [x1, xI_s, Option.bind_some, if_neg (show ¬ (1 : Int32) = 0 by decide), nI_1]; exact z1
      · obtain ⟨A2, z1, z2⟩ := y2 Z' hZ'
        refine ⟨A2, ?_, z2⟩
        rw [x1, xI_s, Option.bind_some, if_neg (show ¬ (1 : Int32) = 0 by decide), nI_1]; exact z1
theorem c_orders (h : CIo A X Lo n) (hX : XI X) : ∃ A' Lo', xC E (d + 35) 110 [.ref 0] A = some (some (.int (aOrders X).1), A') ∧ CIo A' (aOrders X).2 Lo' n := by
  obtain ⟨A1, t1, t2, fl, tl, ar, tA, t3, t4, t5⟩ := c_take (E := E) (d := d + 33) h
  have h69 := h.1
  have hn := hX.2.2.2.2.1
  obtain ⟨A2, s1, s2, s3⟩ := t2.sp (-1)
  have hA2 := s2.1
  have hself : tw A2 fl tl ar = A2 := t_self (by omega) (fun j hj => by
    rw [s3.2 (36 + j) (by omega), tA]; exact tw_cells (by omega) j hj)
  have cw := c_readText (E := E) (d := d) (A := A2) (bs := X.2.2.2.1.1) (n := X.2.2.2.1.2) (o := true) (tl := tl) (by omega) hn hX.2.2.2.2.2 t3 t5
  rw [hself] at cw
  obtain ⟨fl', tl', ar', w2, w3, w4, wm⟩ := cw
  have hc : CIo (tw A2 fl' tl' ar') (Xtp (Xsp X (-1)) X.2.2.2.1.1 0) Lo n := s2.tpc (m := 0) (w2.trans t4) (fun j hj => by omega)
  rw [k110 _ _ _ _ h.cls, h.g8, Option.bind_some, t1, xI_s, Option.bind_some]
  dsimp only
  rw [s1, Option.bind_some, s2.g8, Option.bind_some]
  unfold aOrders
  cases hp : pText (tok X.2.2.2.1.1 X.2.2.2.1.2) true (tkN X.2.2.2.1.1 X.2.2.2.1.2) with
  | inl t =>
    rw [hp] at wm
    have wm' : xC E (d + 34) 71 [.ref 36, .int (1 : Int32)] A2 = some (some (.int (nI (ps X.2.2.2.1.1 X.2.2.2.1.2 t))), tw A2 fl' tl' ar') := wm
    obtain ⟨A3, f1, f2, f3⟩ := hc.ft (nI (ps X.2.2.2.1.1 X.2.2.2.1.2 t))
    obtain ⟨B6, b1, b2, -⟩ := c_refuse (E := E) (d := d + 33) (c := 6) (x := -6) f2 (by omega) (by decide) (by decide)
    refine ⟨B6, Lo, ?_, b2⟩
    rw [wm', xI_s, Option.bind_some]
    dsimp only
    rw [f1, Option.bind_some, f2.i15, Option.bind_some, if_neg (show ¬ (Xft (Xtp (Xsp X (-1)) X.2.2.2.1.1 0) (nI (ps X.2.2.2.1.1 X.2.2.2.1.2 t))).2.2.2.2.1.2.2.1 = (-1 : Int32) from ps_n1 hn t), b1, xI_s, Option.bind_some]
  | inr w =>
    obtain ⟨y, cs⟩ := w
    rw [hp] at wm
    obtain ⟨wm1, wm2, wm3, wm4, wm5, wm6⟩ := wm
    have wm' : xC E (d + 34) 71 [.ref 36, .int (1 : Int32)] A2 = some (some (.int (-1 : Int32)), tw A2 fl' tl' ar') := wm1
    obtain ⟨A3, f1, f2, f3⟩ := hc.ft (-1)
    have f2' : CIo A3 (Xor X) Lo n := f2
    have T37 : TXT A3 37 y.2.2.1 (cs.map cl8) y.2.2.2 := (rd_TXT (A := A2) (by omega) hn wm2 wm3 wm4 wm5 wm6).eq (fun q q1 q2 => f3.2 q (by omega))
    have g36 : A3[36]? = some (.inr (6, tfs0 fl')) := by rw [f3.2 36 (by omega)]; exact t_c36 (by omega)
    have hXo := Xor_XI hX
    -- the store is laid aside
    obtain ⟨s, hS, hRS⟩ := f2'.2.2.1.1
    obtain ⟨s15, hS15⟩ := f2'.2.2.2.2.2.2.2.1
    obtain ⟨A4, s', c1, c2, c3, c4⟩ := c_copyFrom (E := E) (d := d + 32) hS15 hS (by omega) hRS
    have ci4 := f2'.a15 c4 ⟨s', c2⟩
    have kp4 : ∀ q, (q < 15 ∨ 22 ≤ q) → A4[q]? = A3[q]? := fun q hq => c4.2 q (fun z => by unfold inS at z; omega)
    obtain ⟨A5, o1, o2, o3⟩ := c_oclear (E := E) (d := d + 33) ci4
    obtain ⟨wv, hwv⟩ := o2.2.2.2.2.2.2.2.2.1
    have h5 := o2.1
    have e1 : sI 0 A5 43 (1 : Int32) (0 : Int32) = some (A5.set 43 (ia 56 (upd wv 1 0))) := h_sI0 (i := 1) hwv (by omega) (by omega)
    have e2 : sI 0 (A5.set 43 (ia 56 (upd wv 1 0))) 43 (2 : Int32) (-1 : Int32) = some ((A5.set 43 (ia 56 (upd wv 1 0))).set 43 (ia 56 (upd (upd wv 1 0) 2 (-1)))) := h_sI0 (i := 2) (List.getElem?_set_self (by omega)) (by omega) (by omega)
    have kp6 : ∀ q, (q < 15 ∨ 22 ≤ q) → q ≠ 32 → q ≠ 43 → (A5.set 43 (ia 56 (upd (upd wv 1 0) 2 (-1))))[q]? = A3[q]? := fun q q1 q2 q3 => by
      rw [List.getElem?_set_ne (fun z => q3 z.symm), o3.2 q q2]; exact kp4 q q1
    have hO : ORD (A5.set 43 (ia 56 (upd (upd wv 1 0) 2 (-1)))) (Xor X, 0, none) (Xor X).2.1 [] n := ⟨o2.w43, rfl, ⟨hXo, by show (0 : Nat) ≤ 1000; omega, fun n hn => by cases hn⟩, hXo, _, List.getElem?_set_self (by omega), by rw [upd_n (by omega), upd_s]; rfl, by rw [upd_s]; rfl⟩
    have hWA := wk_text hp
    have hokx : y.2.2.2.length ≤ 50 := by
      have := wm3.2.2.1
      have := wm3.2.2.2
      omega
    obtain ⟨y1, y2⟩ := c_or74 (E := E) (d := d + 25) (n := n) (X0 := Xor X) (cs := cs) wm5 hokx hWA.2 hWA.1 (fun l hl wd nw hw => text_ok hn hw hp l hl) (kd_text hp) cs.length 0 _ (Xor X, 0, none) [] (by omega) hO (SC.eq (A := A4) ⟨s', c2, c3⟩ (fun q q1 q2 => by rw [List.getElem?_set_ne (by omega), o3.2 q (by omega)])) (T37.eq (fun q q1 q2 => kp6 q (by omega) (by omega) (by omega))) (h_gN ((kp6 36 (by omega) (by omega) (by omega)).trans g36) rfl) (by show 0 + 20 * cs.length ≤ 1000; omega) rfl rfl
    rw [List.drop_zero] at y1 y2
    rw [wm', xI_s, Option.bind_some]
    dsimp only
    rw [f1, Option.bind_some, f2.i15, Option.bind_some, if_pos (show (Xft (Xtp (Xsp X (-1)) X.2.2.2.1.1 0) (-1)).2.2.2.2.1.2.2.1 = (-1 : Int32) from rfl), f2.g2, Option.bind_some, f2.g0, Option.bind_some, c1, xV_s, Option.bind_some, ci4.g6, Option.bind_some, o1, xV_s, Option.bind_some, o2.g9, Option.bind_some, e1, Option.bind_some, (o2.w43 (w := _)).g9, Option.bind_some, e2, Option.bind_some, xtr]
    cases ho : oAll y.2.2.1 y.2.2.2 0 cs (Xor X, 0, none) with
    | inl j =>
      obtain ⟨A7, Lo7, z1, z2⟩ := y1 j ho
      exact ⟨A7, Lo7, z1, z2⟩
    | inr Z =>
      obtain ⟨A7, z1, z2⟩ := y2 Z ho
      exact ⟨A7, [], z1, z2⟩
end CORDERS
