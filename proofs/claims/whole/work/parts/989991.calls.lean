/-! ===== law: every call (printed by g300.py) ===== -/
section CALLS
variable {E : Nat × (Nat → Int32)} {A : xH} {X : Xs} {m i : Nat}
theorem l_0 (h : LI A X m) (hi : i + 6 ≤ E.1) (hE : E.1 ≤ 3072) : ∃ A' X', xD E 60 302 208 [.float 0, .ref 0, .ref 48, .int (nI i)] [] A = xD E 60 302 1149 [.float 0, .ref 0, .ref 48, .int (nI i)] [] A' ∧ LI A' X' (m + 1) := by
  have hX := h.1
  obtain ⟨A1, A2, r1, r2, r3⟩ := h.go (E := E) (X' := X) (v := .int (telI X.1.1.1 (E.2 (nI i + (1 : Int32)).toNatClampNeg) (E.2 (nI i + (2 : Int32)).toNatClampNeg))) (cm := 99) (rm := 180) (ca := [.int (E.2 (nI i + (1 : Int32)).toNatClampNeg), .int (E.2 (nI i + (2 : Int32)).toNatClampNeg)]) (ra := [.int (E.2 (nI i + (1 : Int32)).toNatClampNeg), .int (E.2 (nI i + (2 : Int32)).toNatClampNeg)]) (hX) (fun hX Lo n hC => ⟨A, Lo, n.1, c_of (E := E) (d := 55) hC (E.2 (nI i + (1 : Int32)).toNatClampNeg) (E.2 (nI i + (2 : Int32)).toNatClampNeg), hC, by omega⟩) (fun hX A' fl ar al hA hM => ⟨fl, ar, al, m_of (E := E) (d := 56) (al := al) hA hM, hM⟩)
  refine ⟨A2, _, ?_, r3⟩
  rw [e302_208, if_neg (ldj (i := i) (j := 1) (x := (1 : Int32)) rfl (by omega) hE), e302_214, if_neg (ldj (i := i) (j := 2) (x := (2 : Int32)) rfl (by omega) hE), e302_219, r1, xI_s, Option.bind_some]
  dsimp only
  rw [e302_222, if_neg (ldj (i := i) (j := 1) (x := (1 : Int32)) rfl (by omega) hE), e302_228, if_neg (ldj (i := i) (j := 2) (x := (2 : Int32)) rfl (by omega) hE), e302_233, r2, xI_s, Option.bind_some]
  dsimp only
  rw [e302_236, if_pos rfl]
theorem l_1 (h : LI A X m) (hi : i + 6 ≤ E.1) (hE : E.1 ≤ 3072) : ∃ A' X', xD E 60 302 241 [.float 0, .ref 0, .ref 48, .int (nI i)] [] A = xD E 60 302 1149 [.float 0, .ref 0, .ref 48, .int (nI i)] [] A' ∧ LI A' X' (m + 1) := by
  have hX := h.1
  obtain ⟨A1, A2, r1, r2, r3⟩ := h.go (E := E) (X' := X) (v := .int (telI X.1.1.2.1 (E.2 (nI i + (1 : Int32)).toNatClampNeg) (E.2 (nI i + (2 : Int32)).toNatClampNeg))) (cm := 100) (rm := 181) (ca := [.int (E.2 (nI i + (1 : Int32)).toNatClampNeg), .int (E.2 (nI i + (2 : Int32)).toNatClampNeg)]) (ra := [.int (E.2 (nI i + (1 : Int32)).toNatClampNeg), .int (E.2 (nI i + (2 : Int32)).toNatClampNeg)]) (hX) (fun hX Lo n hC => ⟨A, Lo, n.1, c_page (E := E) (d := 55) hC (E.2 (nI i + (1 : Int32)).toNatClampNeg) (E.2 (nI i + (2 : Int32)).toNatClampNeg), hC, by omega⟩) (fun hX A' fl ar al hA hM => ⟨fl, ar, al, m_page (E := E) (d := 56) (al := al) hA hM, hM⟩)
  refine ⟨A2, _, ?_, r3⟩
  rw [e302_241, if_neg (ldj (i := i) (j := 1) (x := (1 : Int32)) rfl (by omega) hE), e302_247, if_neg (ldj (i := i) (j := 2) (x := (2 : Int32)) rfl (by omega) hE), e302_252, r1, xI_s, Option.bind_some]
  dsimp only
  rw [e302_255, if_neg (ldj (i := i) (j := 1) (x := (1 : Int32)) rfl (by omega) hE), e302_261, if_neg (ldj (i := i) (j := 2) (x := (2 : Int32)) rfl (by omega) hE), e302_266, r2, xI_s, Option.bind_some]
  dsimp only
  rw [e302_269, if_pos rfl]
theorem l_2 (h : LI A X m) (hi : i + 6 ≤ E.1) (hE : E.1 ≤ 3072) : ∃ A' X', xD E 60 302 274 [.float 0, .ref 0, .ref 48, .int (nI i)] [] A = xD E 60 302 1149 [.float 0, .ref 0, .ref 48, .int (nI i)] [] A' ∧ LI A' X' (m + 1) := by
  have hX := h.1
  obtain ⟨A1, A2, r1, r2, r3⟩ := h.go (E := E) (X' := X) (v := .int (telW X.1.1.2.2.1 (E.2 (nI i + (1 : Int32)).toNatClampNeg) (E.2 (nI i + (2 : Int32)).toNatClampNeg))) (cm := 101) (rm := 183) (ca := [.int (E.2 (nI i + (1 : Int32)).toNatClampNeg), .int (E.2 (nI i + (2 : Int32)).toNatClampNeg)]) (ra := [.int (E.2 (nI i + (1 : Int32)).toNatClampNeg), .int (E.2 (nI i + (2 : Int32)).toNatClampNeg)]) (hX) (fun hX Lo n hC => ⟨A, Lo, n.1, c_write (E := E) (d := 56) hC (E.2 (nI i + (1 : Int32)).toNatClampNeg) (E.2 (nI i + (2 : Int32)).toNatClampNeg), hC, by omega⟩) (fun hX A' fl ar al hA hM => ⟨fl, ar, al, m_write (E := E) (d := 57) (al := al) hA hM, hM⟩)
  refine ⟨A2, _, ?_, r3⟩
  rw [e302_274, if_neg (ldj (i := i) (j := 1) (x := (1 : Int32)) rfl (by omega) hE), e302_280, if_neg (ldj (i := i) (j := 2) (x := (2 : Int32)) rfl (by omega) hE), e302_285, r1, xI_s, Option.bind_some]
  dsimp only
  rw [e302_288, if_neg (ldj (i := i) (j := 1) (x := (1 : Int32)) rfl (by omega) hE), e302_294, if_neg (ldj (i := i) (j := 2) (x := (2 : Int32)) rfl (by omega) hE), e302_299, r2, xI_s, Option.bind_some]
  dsimp only
  rw [e302_302, if_pos rfl]
theorem l_3 (h : LI A X m) (hi : i + 6 ≤ E.1) (hE : E.1 ≤ 3072) : ∃ A' X', xD E 60 302 307 [.float 0, .ref 0, .ref 48, .int (nI i)] [] A = xD E 60 302 1149 [.float 0, .ref 0, .ref 48, .int (nI i)] [] A' ∧ LI A' X' (m + 1) := by
  have hX := h.1
  obtain ⟨A1, A2, r1, r2, r3⟩ := h.go (E := E) (X' := X) (v := .int (slI X.1.1 (E.2 (nI i + (1 : Int32)).toNatClampNeg))) (cm := 102) (rm := 184) (ca := [.int (E.2 (nI i + (1 : Int32)).toNatClampNeg)]) (ra := [.int (E.2 (nI i + (1 : Int32)).toNatClampNeg)]) (hX) (fun hX Lo n hC => ⟨A, Lo, n.1, c_slot (E := E) (d := 57) hC hX (E.2 (nI i + (1 : Int32)).toNatClampNeg), hC, by omega⟩) (fun hX A' fl ar al hA hM => ⟨fl, ar, al, m_slot (E := E) (d := 55) (al := al) hA hM.1.1 hX.1.1.1.1 hX.deep, hM⟩)
  refine ⟨A2, _, ?_, r3⟩
  rw [e302_307, if_neg (ldj (i := i) (j := 1) (x := (1 : Int32)) rfl (by omega) hE), e302_313, r1, xI_s, Option.bind_some]
  dsimp only
  rw [e302_316, if_neg (ldj (i := i) (j := 1) (x := (1 : Int32)) rfl (by omega) hE), e302_322, r2, xI_s, Option.bind_some]
  dsimp only
  rw [e302_325, if_pos rfl]
theorem l_4 (h : LI A X m) (hi : i + 6 ≤ E.1) (hE : E.1 ≤ 3072) : ∃ A' X', xD E 60 302 330 [.float 0, .ref 0, .ref 48, .int (nI i)] [] A = xD E 60 302 1149 [.float 0, .ref 0, .ref 48, .int (nI i)] [] A' ∧ LI A' X' (m + 1) := by
  have hX := h.1
  obtain ⟨A1, A2, r1, r2, r3⟩ := h.go (E := E) (X' := X) (v := .int (kyI X.1.2.1 X.1.1 (E.2 (nI i + (1 : Int32)).toNatClampNeg) (E.2 (nI i + (2 : Int32)).toNatClampNeg))) (cm := 103) (rm := 185) (ca := [.int (E.2 (nI i + (1 : Int32)).toNatClampNeg), .int (E.2 (nI i + (2 : Int32)).toNatClampNeg)]) (ra := [.int (E.2 (nI i + (1 : Int32)).toNatClampNeg), .int (E.2 (nI i + (2 : Int32)).toNatClampNeg)]) (hX) (fun hX Lo n hC => by
    obtain ⟨A1, a1, a2, -⟩ := c_key (E := E) (d := 53) hC hX (E.2 (nI i + (1 : Int32)).toNatClampNeg) (E.2 (nI i + (2 : Int32)).toNatClampNeg)
    exact ⟨A1, Lo, n.1, a1, a2, by omega⟩) (fun hX A' fl ar al hA hM => by
    obtain ⟨f1, r1, b1, b2⟩ := m_key (E := E) (d := 11) (al := al) hA hM hX
    exact ⟨f1, r1, al, b1, b2⟩)
  refine ⟨A2, _, ?_, r3⟩
  rw [e302_330, if_neg (ldj (i := i) (j := 1) (x := (1 : Int32)) rfl (by omega) hE), e302_336, if_neg (ldj (i := i) (j := 2) (x := (2 : Int32)) rfl (by omega) hE), e302_341, r1, xI_s, Option.bind_some]
  dsimp only
  rw [e302_344, if_neg (ldj (i := i) (j := 1) (x := (1 : Int32)) rfl (by omega) hE), e302_350, if_neg (ldj (i := i) (j := 2) (x := (2 : Int32)) rfl (by omega) hE), e302_355, r2, xI_s, Option.bind_some]
  dsimp only
  rw [e302_358, if_pos rfl]
theorem l_5 (h : LI A X m) (hi : i + 6 ≤ E.1) (hE : E.1 ≤ 3072) : ∃ A' X', xD E 60 302 363 [.float 0, .ref 0, .ref 48, .int (nI i)] [] A = xD E 60 302 1149 [.float 0, .ref 0, .ref 48, .int (nI i)] [] A' ∧ LI A' X' (m + 1) := by
  have hX := h.1
  obtain ⟨A1, A2, r1, r2, r3⟩ := h.go (E := E) (X' := (aTerms X (E.2 (nI i + (1 : Int32)).toNatClampNeg) (E.2 (nI i + (2 : Int32)).toNatClampNeg)).2) (v := .int ((aTerms X (E.2 (nI i + (1 : Int32)).toNatClampNeg) (E.2 (nI i + (2 : Int32)).toNatClampNeg)).1)) (cm := 104) (rm := 188) (ca := [.int (E.2 (nI i + (1 : Int32)).toNatClampNeg), .int (E.2 (nI i + (2 : Int32)).toNatClampNeg)]) (ra := [.int (E.2 (nI i + (1 : Int32)).toNatClampNeg), .int (E.2 (nI i + (2 : Int32)).toNatClampNeg)]) (aTerms_R hX) (fun hX Lo n hC => by
    obtain ⟨A1, a1, a2⟩ := c_terms (E := E) (d := 55) hC hX (E.2 (nI i + (1 : Int32)).toNatClampNeg) (E.2 (nI i + (2 : Int32)).toNatClampNeg)
    exact ⟨A1, Lo, n.1, a1, a2, by omega⟩) (fun hX A' fl ar al hA hM => by
    obtain ⟨f1, r1, b1, b2⟩ := m_terms (E := E) (d := 55) (al := al) hA hM hX
    exact ⟨f1, r1, al, b1, b2⟩)
  refine ⟨A2, _, ?_, r3⟩
  rw [e302_363, if_neg (ldj (i := i) (j := 1) (x := (1 : Int32)) rfl (by omega) hE), e302_369, if_neg (ldj (i := i) (j := 2) (x := (2 : Int32)) rfl (by omega) hE), e302_374, r1, xI_s, Option.bind_some]
  dsimp only
  rw [e302_377, if_neg (ldj (i := i) (j := 1) (x := (1 : Int32)) rfl (by omega) hE), e302_383, if_neg (ldj (i := i) (j := 2) (x := (2 : Int32)) rfl (by omega) hE), e302_388, r2, xI_s, Option.bind_some]
  dsimp only
  rw [e302_391, if_pos rfl]
theorem l_6 (h : LI A X m) (hi : i + 6 ≤ E.1) (hE : E.1 ≤ 3072) : ∃ A' X', xD E 60 302 396 [.float 0, .ref 0, .ref 48, .int (nI i)] [] A = xD E 60 302 1149 [.float 0, .ref 0, .ref 48, .int (nI i)] [] A' ∧ LI A' X' (m + 1) := by
  have hX := h.1
  obtain ⟨A1, A2, r1, r2, r3⟩ := h.go (E := E) (X' := (aFeed X (E.2 (nI i + (1 : Int32)).toNatClampNeg) (E.2 (nI i + (2 : Int32)).toNatClampNeg) (E.2 (nI i + (3 : Int32)).toNatClampNeg) (E.2 (nI i + (4 : Int32)).toNatClampNeg) (E.2 (nI i + (5 : Int32)).toNatClampNeg)).2) (v := .int ((aFeed X (E.2 (nI i + (1 : Int32)).toNatClampNeg) (E.2 (nI i + (2 : Int32)).toNatClampNeg) (E.2 (nI i + (3 : Int32)).toNatClampNeg) (E.2 (nI i + (4 : Int32)).toNatClampNeg) (E.2 (nI i + (5 : Int32)).toNatClampNeg)).1)) (cm := 105) (rm := 191) (ca := [.int (E.2 (nI i + (1 : Int32)).toNatClampNeg), .int (E.2 (nI i + (2 : Int32)).toNatClampNeg), .int (E.2 (nI i + (3 : Int32)).toNatClampNeg), .int (E.2 (nI i + (4 : Int32)).toNatClampNeg), .int (E.2 (nI i + (5 : Int32)).toNatClampNeg)]) (ra := [.int (E.2 (nI i + (1 : Int32)).toNatClampNeg), .int (E.2 (nI i + (2 : Int32)).toNatClampNeg), .int (E.2 (nI i + (3 : Int32)).toNatClampNeg), .int (E.2 (nI i + (4 : Int32)).toNatClampNeg), .int (E.2 (nI i + (5 : Int32)).toNatClampNeg)]) (aFeed_R hX) (fun hX Lo n hC => by
    obtain ⟨A1, a1, a2⟩ := c_feed (E := E) (d := 57) hC hX (E.2 (nI i + (1 : Int32)).toNatClampNeg) (E.2 (nI i + (2 : Int32)).toNatClampNeg) (E.2 (nI i + (3 : Int32)).toNatClampNeg) (E.2 (nI i + (4 : Int32)).toNatClampNeg) (E.2 (nI i + (5 : Int32)).toNatClampNeg)
    exact ⟨A1, Lo, n.1, a1, a2, by omega⟩) (fun hX A' fl ar al hA hM => by
    obtain ⟨f1, r1, b1, b2⟩ := m_feed (E := E) (d := 58) (al := al) hA hM hX
    exact ⟨f1, r1, al, b1, b2⟩)
  refine ⟨A2, _, ?_, r3⟩
  rw [e302_396, if_neg (ldj (i := i) (j := 1) (x := (1 : Int32)) rfl (by omega) hE), e302_402, if_neg (ldj (i := i) (j := 2) (x := (2 : Int32)) rfl (by omega) hE), e302_407, if_neg (ldj (i := i) (j := 3) (x := (3 : Int32)) rfl (by omega) hE), e302_412, if_neg (ldj (i := i) (j := 4) (x := (4 : Int32)) rfl (by omega) hE), e302_417, if_neg (ldj (i := i) (j := 5) (x := (5 : Int32)) rfl (by omega) hE), e302_422, r1, xI_s, Option.bind_some]
  dsimp only
  rw [e302_425, if_neg (ldj (i := i) (j := 1) (x := (1 : Int32)) rfl (by omega) hE), e302_431, if_neg (ldj (i := i) (j := 2) (x := (2 : Int32)) rfl (by omega) hE), e302_436, if_neg (ldj (i := i) (j := 3) (x := (3 : Int32)) rfl (by omega) hE), e302_441, if_neg (ldj (i := i) (j := 4) (x := (4 : Int32)) rfl (by omega) hE), e302_446, if_neg (ldj (i := i) (j := 5) (x := (5 : Int32)) rfl (by omega) hE), e302_451, r2, xI_s, Option.bind_some]
  dsimp only
  rw [e302_454, if_pos rfl]
theorem l_7 (h : LI A X m) (hi : i + 6 ≤ E.1) (hE : E.1 ≤ 3072) : ∃ A' X', xD E 60 302 459 [.float 0, .ref 0, .ref 48, .int (nI i)] [] A = xD E 60 302 1149 [.float 0, .ref 0, .ref 48, .int (nI i)] [] A' ∧ LI A' X' (m + 1) := by
  have hX := h.1
  obtain ⟨A1, A2, r1, r2, r3⟩ := h.go (E := E) (X' := (aEnd X (E.2 (nI i + (1 : Int32)).toNatClampNeg)).2) (v := .int ((aEnd X (E.2 (nI i + (1 : Int32)).toNatClampNeg)).1)) (cm := 106) (rm := 192) (ca := [.int (E.2 (nI i + (1 : Int32)).toNatClampNeg)]) (ra := [.int (E.2 (nI i + (1 : Int32)).toNatClampNeg)]) (aEnd_R hX) (fun hX Lo n hC => by
    obtain ⟨A1, a1, a2⟩ := c_end (E := E) (d := 58) hC hX (E.2 (nI i + (1 : Int32)).toNatClampNeg)
    exact ⟨A1, Lo, n.1, a1, a2, by omega⟩) (fun hX A' fl ar al hA hM => by
    obtain ⟨f1, r1, b1, b2⟩ := m_end (E := E) (d := 57) (al := al) hA hM hX
    exact ⟨f1, r1, al, b1, b2⟩)
  refine ⟨A2, _, ?_, r3⟩
  rw [e302_459, if_neg (ldj (i := i) (j := 1) (x := (1 : Int32)) rfl (by omega) hE), e302_465, r1, xI_s, Option.bind_some]
  dsimp only
  rw [e302_468, if_neg (ldj (i := i) (j := 1) (x := (1 : Int32)) rfl (by omega) hE), e302_474, r2, xI_s, Option.bind_some]
  dsimp only
  rw [e302_477, if_pos rfl]
theorem l_8 (h : LI A X m) (hi : i + 6 ≤ E.1) (hE : E.1 ≤ 3072) : ∃ A' X', xD E 60 302 482 [.float 0, .ref 0, .ref 48, .int (nI i)] [] A = xD E 60 302 1149 [.float 0, .ref 0, .ref 48, .int (nI i)] [] A' ∧ LI A' X' (m + 1) := by
  have hX := h.1
  obtain ⟨A1, A2, r1, r2, r3⟩ := h.go (E := E) (X' := (aRow X).2) (v := .int ((aRow X).1)) (cm := 107) (rm := 189) (ca := []) (ra := []) (aRow_R hX) (fun hX Lo n hC => by
    obtain ⟨A1, a1, a2⟩ := c_row (E := E) (d := 52) hC hX
    exact ⟨A1, Lo, n.1, a1, a2, by omega⟩) (fun hX A' fl ar al hA hM => by
    obtain ⟨f1, r1, b1, b2⟩ := m_row (E := E) (d := 7) (al := al) hA hM hX
    exact ⟨f1, r1, al, b1, b2⟩)
  refine ⟨A2, _, ?_, r3⟩
  rw [e302_482, r1, xI_s, Option.bind_some]
  dsimp only
  rw [e302_486, r2, xI_s, Option.bind_some]
  dsimp only
  rw [e302_490, if_pos rfl]
theorem l_9 (h : LI A X m) (hi : i + 6 ≤ E.1) (hE : E.1 ≤ 3072) : ∃ A' X', xD E 60 302 495 [.float 0, .ref 0, .ref 48, .int (nI i)] [] A = xD E 60 302 1149 [.float 0, .ref 0, .ref 48, .int (nI i)] [] A' ∧ LI A' X' (m + 1) := by
  have hX := h.1
  obtain ⟨A1, A2, r1, r2, r3⟩ := h.go (E := E) (X' := X) (v := .int (X.2.2.2.2.1.2.1)) (cm := 108) (rm := 190) (ca := []) (ra := []) (hX) (fun hX Lo n hC => ⟨A, Lo, n.1, c_tears (E := E) (d := 58) hC, hC, by omega⟩) (fun hX A' fl ar al hA hM => ⟨fl, ar, al, m_tears (E := E) (d := 58) (al := al) hA hM, hM⟩)
  refine ⟨A2, _, ?_, r3⟩
  rw [e302_495, r1, xI_s, Option.bind_some]
  dsimp only
  rw [e302_499, r2, xI_s, Option.bind_some]
  dsimp only
  rw [e302_503, if_pos rfl]
theorem l_10 (h : LI A X m) (hi : i + 6 ≤ E.1) (hE : E.1 ≤ 3072) : ∃ A' X', xD E 60 302 508 [.float 0, .ref 0, .ref 48, .int (nI i)] [] A = xD E 60 302 1149 [.float 0, .ref 0, .ref 48, .int (nI i)] [] A' ∧ LI A' X' (m + 1) := by
  have hX := h.1
  obtain ⟨A1, A2, r1, r2, r3⟩ := h.go (E := E) (X' := (aLaw X).2) (v := .int ((aLaw X).1)) (cm := 109) (rm := 216) (ca := []) (ra := []) (aLaw_R hX) (fun hX Lo n hC => by
    obtain ⟨A1, k, a1, a2, a3⟩ := c_law (E := E) (d := 24) hC hX
    exact ⟨A1, Lo, k, a1, a2, a3⟩) (fun hX A' fl ar al hA hM => by
    obtain ⟨f1, r1, b1, b2⟩ := m_law (E := E) (d := 21) (al := al) hA hM hX
    exact ⟨f1, r1, al, b1, b2⟩)
  refine ⟨A2, _, ?_, r3⟩
  rw [e302_508, r1, xI_s, Option.bind_some]
  dsimp only
  rw [e302_512, r2, xI_s, Option.bind_some]
  dsimp only
  rw [e302_516, if_pos rfl]
theorem l_11 (h : LI A X m) (hi : i + 6 ≤ E.1) (hE : E.1 ≤ 3072) : ∃ A' X', xD E 60 302 521 [.float 0, .ref 0, .ref 48, .int (nI i)] [] A = xD E 60 302 1149 [.float 0, .ref 0, .ref 48, .int (nI i)] [] A' ∧ LI A' X' (m + 1) := by
  have hX := h.1
  obtain ⟨A1, A2, r1, r2, r3⟩ := h.go (E := E) (X' := (aOrders X).2) (v := .int ((aOrders X).1)) (cm := 110) (rm := 283) (ca := []) (ra := []) (aOrders_R hX) (fun hX Lo n hC => by
    obtain ⟨A1, Lo1, a1, a2⟩ := c_orders (E := E) (d := 24) hC hX
    exact ⟨A1, Lo1, n.1, a1, a2, by omega⟩) (fun hX A' fl ar al hA hM => by
    obtain ⟨f1, r1, l1, b1, b2⟩ := m_orders (E := E) (d := 4) (al := al) hA hM hX
    exact ⟨f1, r1, l1, b1, b2⟩)
  refine ⟨A2, _, ?_, r3⟩
  rw [e302_521, r1, xI_s, Option.bind_some]
  dsimp only
  rw [e302_525, r2, xI_s, Option.bind_some]
  dsimp only
  rw [e302_529, if_pos rfl]
theorem l_12 (h : LI A X m) (hi : i + 6 ≤ E.1) (hE : E.1 ≤ 3072) : ∃ A' X', xD E 60 302 534 [.float 0, .ref 0, .ref 48, .int (nI i)] [] A = xD E 60 302 1149 [.float 0, .ref 0, .ref 48, .int (nI i)] [] A' ∧ LI A' X' (m + 1) := by
  have hX := h.1
  obtain ⟨A1, A2, r1, r2, r3⟩ := h.go (E := E) (X' := X) (v := .int (X.2.2.2.2.1.2.2.1)) (cm := 111) (rm := 217) (ca := []) (ra := []) (hX) (fun hX Lo n hC => ⟨A, Lo, n.1, c_fault (E := E) (d := 58) hC, hC, by omega⟩) (fun hX A' fl ar al hA hM => ⟨fl, ar, al, m_fault (E := E) (d := 58) (al := al) hA hM, hM⟩)
  refine ⟨A2, _, ?_, r3⟩
  rw [e302_534, r1, xI_s, Option.bind_some]
  dsimp only
  rw [e302_538, r2, xI_s, Option.bind_some]
  dsimp only
  rw [e302_542, if_pos rfl]
theorem l_13 (h : LI A X m) (hi : i + 6 ≤ E.1) (hE : E.1 ≤ 3072) : ∃ A' X', xD E 60 302 547 [.float 0, .ref 0, .ref 48, .int (nI i)] [] A = xD E 60 302 1149 [.float 0, .ref 0, .ref 48, .int (nI i)] [] A' ∧ LI A' X' (m + 1) := by
  have hX := h.1
  obtain ⟨A1, A2, r1, r2, r3⟩ := h.go (E := E) (X' := X) (v := .int (X.2.2.2.2.1.2.2.2)) (cm := 112) (rm := 282) (ca := []) (ra := []) (hX) (fun hX Lo n hC => ⟨A, Lo, n.1, c_stopped (E := E) (d := 58) hC, hC, by omega⟩) (fun hX A' fl ar al hA hM => ⟨fl, ar, al, m_stopped (E := E) (d := 58) (al := al) hA hM, hM⟩)
  refine ⟨A2, _, ?_, r3⟩
  rw [e302_547, r1, xI_s, Option.bind_some]
  dsimp only
  rw [e302_551, r2, xI_s, Option.bind_some]
  dsimp only
  rw [e302_555, if_pos rfl]
theorem l_14 (h : LI A X m) (hi : i + 6 ≤ E.1) (hE : E.1 ≤ 3072) : ∃ A' X', xD E 60 302 560 [.float 0, .ref 0, .ref 48, .int (nI i)] [] A = xD E 60 302 1149 [.float 0, .ref 0, .ref 48, .int (nI i)] [] A' ∧ LI A' X' (m + 1) := by
  have hX := h.1
  obtain ⟨A1, A2, r1, r2, r3⟩ := h.go (E := E) (X' := (aForce X (E.2 (nI i + (1 : Int32)).toNatClampNeg)).2) (v := .int ((aForce X (E.2 (nI i + (1 : Int32)).toNatClampNeg)).1)) (cm := 113) (rm := 219) (ca := [.int (E.2 (nI i + (1 : Int32)).toNatClampNeg)]) (ra := [.int (E.2 (nI i + (1 : Int32)).toNatClampNeg)]) (aForce_R hX) (fun hX Lo n hC => by
    obtain ⟨A1, a1, a2⟩ := c_force (E := E) (d := 57) hC hX (E.2 (nI i + (1 : Int32)).toNatClampNeg)
    exact ⟨A1, Lo, n.1, a1, a2, by omega⟩) (fun hX A' fl ar al hA hM => by
    obtain ⟨f1, r1, b1, b2⟩ := m_force (E := E) (d := 56) (al := al) hA hM hX
    exact ⟨f1, r1, al, b1, b2⟩)
  refine ⟨A2, _, ?_, r3⟩
  rw [e302_560, if_neg (ldj (i := i) (j := 1) (x := (1 : Int32)) rfl (by omega) hE), e302_566, r1, xI_s, Option.bind_some]
  dsimp only
  rw [e302_569, if_neg (ldj (i := i) (j := 1) (x := (1 : Int32)) rfl (by omega) hE), e302_575, r2, xI_s, Option.bind_some]
  dsimp only
  rw [e302_578, if_pos rfl]
theorem l_15 (h : LI A X m) (hi : i + 6 ≤ E.1) (hE : E.1 ≤ 3072) : ∃ A' X', xD E 60 302 583 [.float 0, .ref 0, .ref 48, .int (nI i)] [] A = xD E 60 302 1149 [.float 0, .ref 0, .ref 48, .int (nI i)] [] A' ∧ LI A' X' (m + 1) := by
  have hX := h.1
  obtain ⟨A1, A2, r1, r2, r3⟩ := h.go (E := E) (X' := (aAns (aPut X (E.2 (nI i + (1 : Int32)).toNatClampNeg) (E.2 (nI i + (2 : Int32)).toNatClampNeg))).2) (v := .int ((aAns (aPut X (E.2 (nI i + (1 : Int32)).toNatClampNeg) (E.2 (nI i + (2 : Int32)).toNatClampNeg))).1)) (cm := 114) (rm := 260) (ca := [.int (E.2 (nI i + (1 : Int32)).toNatClampNeg), .int (E.2 (nI i + (2 : Int32)).toNatClampNeg)]) (ra := [.int (E.2 (nI i + (1 : Int32)).toNatClampNeg), .int (E.2 (nI i + (2 : Int32)).toNatClampNeg)]) (aAns_R (aPut_R hX).2) (fun hX Lo n hC => by
    obtain ⟨A1, a1, a2⟩ := c_put (E := E) (d := 51) hC hX (E.2 (nI i + (1 : Int32)).toNatClampNeg) (E.2 (nI i + (2 : Int32)).toNatClampNeg)
    exact ⟨A1, Lo, n.1, a1, a2, by omega⟩) (fun hX A' fl ar al hA hM => by
    obtain ⟨f1, r1, b1, b2⟩ := m_put (E := E) (d := 6) (al := al) hA hM hX
    exact ⟨f1, r1, al, b1, b2⟩)
  refine ⟨A2, _, ?_, r3⟩
  rw [e302_583, if_neg (ldj (i := i) (j := 1) (x := (1 : Int32)) rfl (by omega) hE), e302_589, if_neg (ldj (i := i) (j := 2) (x := (2 : Int32)) rfl (by omega) hE), e302_594, r1, xI_s, Option.bind_some]
  dsimp only
  rw [e302_597, if_neg (ldj (i := i) (j := 1) (x := (1 : Int32)) rfl (by omega) hE), e302_603, if_neg (ldj (i := i) (j := 2) (x := (2 : Int32)) rfl (by omega) hE), e302_608, r2, xI_s, Option.bind_some]
  dsimp only
  rw [e302_611, if_pos rfl]
theorem l_16 (h : LI A X m) (hi : i + 6 ≤ E.1) (hE : E.1 ≤ 3072) : ∃ A' X', xD E 60 302 616 [.float 0, .ref 0, .ref 48, .int (nI i)] [] A = xD E 60 302 1149 [.float 0, .ref 0, .ref 48, .int (nI i)] [] A' ∧ LI A' X' (m + 1) := by
  have hX := h.1
  obtain ⟨A1, A2, r1, r2, r3⟩ := h.go (E := E) (X' := (aAns (aDrop X (E.2 (nI i + (1 : Int32)).toNatClampNeg))).2) (v := .int ((aAns (aDrop X (E.2 (nI i + (1 : Int32)).toNatClampNeg))).1)) (cm := 115) (rm := 261) (ca := [.int (E.2 (nI i + (1 : Int32)).toNatClampNeg)]) (ra := [.int (E.2 (nI i + (1 : Int32)).toNatClampNeg)]) (aAns_R (aDrop_R hX).2) (fun hX Lo n hC => by
    obtain ⟨A1, a1, a2⟩ := c_drop (E := E) (d := 51) hC hX (E.2 (nI i + (1 : Int32)).toNatClampNeg)
    exact ⟨A1, Lo, n.1, a1, a2, by omega⟩) (fun hX A' fl ar al hA hM => by
    obtain ⟨f1, r1, b1, b2⟩ := m_drop (E := E) (d := 6) (al := al) hA hM hX
    exact ⟨f1, r1, al, b1, b2⟩)
  refine ⟨A2, _, ?_, r3⟩
  rw [e302_616, if_neg (ldj (i := i) (j := 1) (x := (1 : Int32)) rfl (by omega) hE), e302_622, r1, xI_s, Option.bind_some]
  dsimp only
  rw [e302_625, if_neg (ldj (i := i) (j := 1) (x := (1 : Int32)) rfl (by omega) hE), e302_631, r2, xI_s, Option.bind_some]
  dsimp only
  rw [e302_634, if_pos rfl]
theorem l_17 (h : LI A X m) (hi : i + 6 ≤ E.1) (hE : E.1 ≤ 3072) : ∃ A' X', xD E 60 302 639 [.float 0, .ref 0, .ref 48, .int (nI i)] [] A = xD E 60 302 1149 [.float 0, .ref 0, .ref 48, .int (nI i)] [] A' ∧ LI A' X' (m + 1) := by
  have hX := h.1
  obtain ⟨A1, A2, r1, r2, r3⟩ := h.go (E := E) (X' := (aAns (aFlush X (E.2 (nI i + (1 : Int32)).toNatClampNeg))).2) (v := .int ((aAns (aFlush X (E.2 (nI i + (1 : Int32)).toNatClampNeg))).1)) (cm := 116) (rm := 262) (ca := [.int (E.2 (nI i + (1 : Int32)).toNatClampNeg)]) (ra := [.int (E.2 (nI i + (1 : Int32)).toNatClampNeg)]) (aAns_R (aFlush_R hX).2) (fun hX Lo n hC => by
    obtain ⟨A1, a1, a2⟩ := c_flush (E := E) (d := 51) hC hX (E.2 (nI i + (1 : Int32)).toNatClampNeg)
    exact ⟨A1, Lo, n.1, a1, a2, by omega⟩) (fun hX A' fl ar al hA hM => by
    obtain ⟨f1, r1, b1, b2⟩ := m_flush (E := E) (d := 54) (al := al) hA hM hX
    exact ⟨f1, r1, al, b1, b2⟩)
  refine ⟨A2, _, ?_, r3⟩
  rw [e302_639, if_neg (ldj (i := i) (j := 1) (x := (1 : Int32)) rfl (by omega) hE), e302_645, r1, xI_s, Option.bind_some]
  dsimp only
  rw [e302_648, if_neg (ldj (i := i) (j := 1) (x := (1 : Int32)) rfl (by omega) hE), e302_654, r2, xI_s, Option.bind_some]
  dsimp only
  rw [e302_657, if_pos rfl]
theorem l_18 (h : LI A X m) (hi : i + 6 ≤ E.1) (hE : E.1 ≤ 3072) : ∃ A' X', xD E 60 302 662 [.float 0, .ref 0, .ref 48, .int (nI i)] [] A = xD E 60 302 1149 [.float 0, .ref 0, .ref 48, .int (nI i)] [] A' ∧ LI A' X' (m + 1) := by
  have hX := h.1
  obtain ⟨A1, A2, r1, r2, r3⟩ := h.go (E := E) (X' := (aAns (aCrash X (E.2 (nI i + (1 : Int32)).toNatClampNeg))).2) (v := .int ((aAns (aCrash X (E.2 (nI i + (1 : Int32)).toNatClampNeg))).1)) (cm := 117) (rm := 263) (ca := [.int (E.2 (nI i + (1 : Int32)).toNatClampNeg)]) (ra := [.int (E.2 (nI i + (1 : Int32)).toNatClampNeg)]) (aAns_R (aCrash_R hX).2) (fun hX Lo n hC => by
    obtain ⟨A1, a1, a2⟩ := c_crash (E := E) (d := 51) hC hX (E.2 (nI i + (1 : Int32)).toNatClampNeg)
    exact ⟨A1, Lo, n.1, a1, a2, by omega⟩) (fun hX A' fl ar al hA hM => by
    obtain ⟨f1, r1, b1, b2⟩ := m_crash (E := E) (d := 52) (al := al) hA hM hX
    exact ⟨f1, r1, al, b1, b2⟩)
  refine ⟨A2, _, ?_, r3⟩
  rw [e302_662, if_neg (ldj (i := i) (j := 1) (x := (1 : Int32)) rfl (by omega) hE), e302_668, r1, xI_s, Option.bind_some]
  dsimp only
  rw [e302_671, if_neg (ldj (i := i) (j := 1) (x := (1 : Int32)) rfl (by omega) hE), e302_677, r2, xI_s, Option.bind_some]
  dsimp only
  rw [e302_680, if_pos rfl]
theorem l_19 (h : LI A X m) (hi : i + 6 ≤ E.1) (hE : E.1 ≤ 3072) : ∃ A' X', xD E 60 302 685 [.float 0, .ref 0, .ref 48, .int (nI i)] [] A = xD E 60 302 1149 [.float 0, .ref 0, .ref 48, .int (nI i)] [] A' ∧ LI A' X' (m + 1) := by
  have hX := h.1
  obtain ⟨A1, A2, r1, r2, r3⟩ := h.go (E := E) (X' := (aUndo X).2) (v := .int ((aUndo X).1)) (cm := 118) (rm := 253) (ca := []) (ra := []) (aUndo_R hX) (fun hX Lo n hC => by
    obtain ⟨A1, a1, a2⟩ := c_undo (E := E) (d := 55) hC hX
    exact ⟨A1, Lo, n.1, a1, a2, by omega⟩) (fun hX A' fl ar al hA hM => by
    obtain ⟨f1, r1, b1, b2⟩ := m_undo (E := E) (d := 57) (al := al) hA hM hX
    exact ⟨f1, r1, al, b1, b2⟩)
  refine ⟨A2, _, ?_, r3⟩
  rw [e302_685, r1, xI_s, Option.bind_some]
  dsimp only
  rw [e302_689, r2, xI_s, Option.bind_some]
  dsimp only
  rw [e302_693, if_pos rfl]
theorem l_20 (h : LI A X m) (hi : i + 6 ≤ E.1) (hE : E.1 ≤ 3072) : ∃ A' X', xD E 60 302 698 [.float 0, .ref 0, .ref 48, .int (nI i)] [] A = xD E 60 302 1149 [.float 0, .ref 0, .ref 48, .int (nI i)] [] A' ∧ LI A' X' (m + 1) := by
  have hX := h.1
  obtain ⟨A1, A2, r1, r2, r3⟩ := h.go (E := E) (X' := X) (v := .int (aBehind X (E.2 (nI i + (1 : Int32)).toNatClampNeg) (E.2 (nI i + (2 : Int32)).toNatClampNeg))) (cm := 119) (rm := 264) (ca := [.int (E.2 (nI i + (1 : Int32)).toNatClampNeg), .int (E.2 (nI i + (2 : Int32)).toNatClampNeg)]) (ra := [.int (E.2 (nI i + (1 : Int32)).toNatClampNeg), .int (E.2 (nI i + (2 : Int32)).toNatClampNeg)]) (hX) (fun hX Lo n hC => by
    obtain ⟨A1, a1, a2⟩ := c_behind (E := E) (d := 52) hC hX (E.2 (nI i + (1 : Int32)).toNatClampNeg) (E.2 (nI i + (2 : Int32)).toNatClampNeg)
    exact ⟨A1, Lo, n.1, a1, a2, by omega⟩) (fun hX A' fl ar al hA hM => by
    obtain ⟨f1, r1, b1, b2⟩ := m_behind (E := E) (d := 51) (al := al) hA hM hX
    exact ⟨f1, r1, al, b1, b2⟩)
  refine ⟨A2, _, ?_, r3⟩
  rw [e302_698, if_neg (ldj (i := i) (j := 1) (x := (1 : Int32)) rfl (by omega) hE), e302_704, if_neg (ldj (i := i) (j := 2) (x := (2 : Int32)) rfl (by omega) hE), e302_709, r1, xI_s, Option.bind_some]
  dsimp only
  rw [e302_712, if_neg (ldj (i := i) (j := 1) (x := (1 : Int32)) rfl (by omega) hE), e302_718, if_neg (ldj (i := i) (j := 2) (x := (2 : Int32)) rfl (by omega) hE), e302_723, r2, xI_s, Option.bind_some]
  dsimp only
  rw [e302_726, if_pos rfl]
theorem l_21 (h : LI A X m) (hi : i + 6 ≤ E.1) (hE : E.1 ≤ 3072) : ∃ A' X', xD E 60 302 731 [.float 0, .ref 0, .ref 48, .int (nI i)] [] A = xD E 60 302 1149 [.float 0, .ref 0, .ref 48, .int (nI i)] [] A' ∧ LI A' X' (m + 1) := by
  have hX := h.1
  obtain ⟨A1, A2, r1, r2, r3⟩ := h.go (E := E) (X' := X) (v := .int (aLost X (E.2 (nI i + (1 : Int32)).toNatClampNeg))) (cm := 120) (rm := 265) (ca := [.int (E.2 (nI i + (1 : Int32)).toNatClampNeg)]) (ra := [.int (E.2 (nI i + (1 : Int32)).toNatClampNeg)]) (hX) (fun hX Lo n hC => by
    obtain ⟨A1, a1, a2⟩ := c_lost (E := E) (d := 52) hC hX (E.2 (nI i + (1 : Int32)).toNatClampNeg)
    exact ⟨A1, Lo, n.1, a1, a2, by omega⟩) (fun hX A' fl ar al hA hM => by
    obtain ⟨f1, r1, b1, b2⟩ := m_lost (E := E) (d := 51) (al := al) hA hM hX
    exact ⟨f1, r1, al, b1, b2⟩)
  refine ⟨A2, _, ?_, r3⟩
  rw [e302_731, if_neg (ldj (i := i) (j := 1) (x := (1 : Int32)) rfl (by omega) hE), e302_737, r1, xI_s, Option.bind_some]
  dsimp only
  rw [e302_740, if_neg (ldj (i := i) (j := 1) (x := (1 : Int32)) rfl (by omega) hE), e302_746, r2, xI_s, Option.bind_some]
  dsimp only
  rw [e302_749, if_pos rfl]
theorem l_22 (h : LI A X m) (hi : i + 6 ≤ E.1) (hE : E.1 ≤ 3072) : ∃ A' X', xD E 60 302 754 [.float 0, .ref 0, .ref 48, .int (nI i)] [] A = xD E 60 302 1149 [.float 0, .ref 0, .ref 48, .int (nI i)] [] A' ∧ LI A' X' (m + 1) := by
  have hX := h.1
  obtain ⟨A1, A2, r1, r2, r3⟩ := h.go (E := E) (X' := X) (v := .int (aTorn X (E.2 (nI i + (1 : Int32)).toNatClampNeg))) (cm := 121) (rm := 266) (ca := [.int (E.2 (nI i + (1 : Int32)).toNatClampNeg)]) (ra := [.int (E.2 (nI i + (1 : Int32)).toNatClampNeg)]) (hX) (fun hX Lo n hC => by
    obtain ⟨A1, a1, a2⟩ := c_torn (E := E) (d := 52) hC hX (E.2 (nI i + (1 : Int32)).toNatClampNeg)
    exact ⟨A1, Lo, n.1, a1, a2, by omega⟩) (fun hX A' fl ar al hA hM => by
    obtain ⟨f1, r1, b1, b2⟩ := m_torn (E := E) (d := 53) (al := al) hA hM hX
    exact ⟨f1, r1, al, b1, b2⟩)
  refine ⟨A2, _, ?_, r3⟩
  rw [e302_754, if_neg (ldj (i := i) (j := 1) (x := (1 : Int32)) rfl (by omega) hE), e302_760, r1, xI_s, Option.bind_some]
  dsimp only
  rw [e302_763, if_neg (ldj (i := i) (j := 1) (x := (1 : Int32)) rfl (by omega) hE), e302_769, r2, xI_s, Option.bind_some]
  dsimp only
  rw [e302_772, if_pos rfl]
theorem l_23 (h : LI A X m) (hi : i + 6 ≤ E.1) (hE : E.1 ≤ 3072) : ∃ A' X', xD E 60 302 777 [.float 0, .ref 0, .ref 48, .int (nI i)] [] A = xD E 60 302 1149 [.float 0, .ref 0, .ref 48, .int (nI i)] [] A' ∧ LI A' X' (m + 1) := by
  have hX := h.1
  obtain ⟨A1, A2, r1, r2, r3⟩ := h.go (E := E) (X' := X) (v := .int (nI (cnt (fun k => wsp X.1.2.1 X.1.1 k) 1000))) (cm := 122) (rm := 268) (ca := []) (ra := []) (hX) (fun hX Lo n hC => by
    obtain ⟨A1, a1, a2, -⟩ := c_splits (E := E) (d := 52) hC hX
    exact ⟨A1, Lo, n.1, a1, a2, by omega⟩) (fun hX A' fl ar al hA hM => by
    obtain ⟨f1, r1, b1, b2⟩ := m_splits (E := E) (d := 7) (al := al) hA hM hX
    exact ⟨f1, r1, al, b1, b2⟩)
  refine ⟨A2, _, ?_, r3⟩
  rw [e302_777, r1, xI_s, Option.bind_some]
  dsimp only
  rw [e302_781, r2, xI_s, Option.bind_some]
  dsimp only
  rw [e302_785, if_pos rfl]
theorem l_24 (h : LI A X m) (hi : i + 6 ≤ E.1) (hE : E.1 ≤ 3072) : ∃ A' X', xD E 60 302 790 [.float 0, .ref 0, .ref 48, .int (nI i)] [] A = xD E 60 302 1149 [.float 0, .ref 0, .ref 48, .int (nI i)] [] A' ∧ LI A' X' (m + 1) := by
  have hX := h.1
  obtain ⟨A1, A2, r1, r2, r3⟩ := h.go (E := E) (X' := X) (v := .int (nI (3 * usedN X.1.1.1) - nI (keysN X.1.1.1))) (cm := 123) (rm := 269) (ca := []) (ra := []) (hX) (fun hX Lo n hC => ⟨A, Lo, n.1, c_room (E := E) (d := 55) hC, hC, by omega⟩) (fun hX A' fl ar al hA hM => ⟨fl, ar, al, m_room (E := E) (d := 55) (al := al) hA hM, hM⟩)
  refine ⟨A2, _, ?_, r3⟩
  rw [e302_790, r1, xI_s, Option.bind_some]
  dsimp only
  rw [e302_794, r2, xI_s, Option.bind_some]
  dsimp only
  rw [e302_798, if_pos rfl]
theorem l_25 (h : LI A X m) (hi : i + 6 ≤ E.1) (hE : E.1 ≤ 3072) : ∃ A' X', xD E 60 302 803 [.float 0, .ref 0, .ref 48, .int (nI i)] [] A = xD E 60 302 1149 [.float 0, .ref 0, .ref 48, .int (nI i)] [] A' ∧ LI A' X' (m + 1) := by
  have hX := h.1
  obtain ⟨A1, A2, r1, r2, r3⟩ := h.go (E := E) (X' := X) (v := .int (aTwin X (E.2 (nI i + (1 : Int32)).toNatClampNeg))) (cm := 124) (rm := 270) (ca := [.int (E.2 (nI i + (1 : Int32)).toNatClampNeg)]) (ra := [.int (E.2 (nI i + (1 : Int32)).toNatClampNeg)]) (hX) (fun hX Lo n hC => ⟨A, Lo, n.1, c_twin (E := E) (d := 55) hC hX (E.2 (nI i + (1 : Int32)).toNatClampNeg), hC, by omega⟩) (fun hX A' fl ar al hA hM => ⟨fl, ar, al, m_twin (E := E) (d := 55) (al := al) hA hM hX, hM⟩)
  refine ⟨A2, _, ?_, r3⟩
  rw [e302_803, if_neg (ldj (i := i) (j := 1) (x := (1 : Int32)) rfl (by omega) hE), e302_809, r1, xI_s, Option.bind_some]
  dsimp only
  rw [e302_812, if_neg (ldj (i := i) (j := 1) (x := (1 : Int32)) rfl (by omega) hE), e302_818, r2, xI_s, Option.bind_some]
  dsimp only
  rw [e302_821, if_pos rfl]
theorem l_26 (h : LI A X m) (hi : i + 6 ≤ E.1) (hE : E.1 ≤ 3072) : ∃ A' X', xD E 60 302 826 [.float 0, .ref 0, .ref 48, .int (nI i)] [] A = xD E 60 302 1149 [.float 0, .ref 0, .ref 48, .int (nI i)] [] A' ∧ LI A' X' (m + 1) := by
  have hX := h.1
  obtain ⟨A1, A2, r1, r2, r3⟩ := h.go (E := E) (X' := X) (v := .int (aSalts X (E.2 (nI i + (1 : Int32)).toNatClampNeg))) (cm := 125) (rm := 273) (ca := [.int (E.2 (nI i + (1 : Int32)).toNatClampNeg)]) (ra := [.int (E.2 (nI i + (1 : Int32)).toNatClampNeg)]) (hX) (fun hX Lo n hC => by
    obtain ⟨A1, a1, a2⟩ := c_salts (E := E) (d := 55) hC hX (E.2 (nI i + (1 : Int32)).toNatClampNeg)
    exact ⟨A1, Lo, n.1, a1, a2, by omega⟩) (fun hX A' fl ar al hA hM => by
    obtain ⟨f1, r1, b1, b2⟩ := m_salts (E := E) (d := 6) (al := al) hA hM hX
    exact ⟨f1, r1, al, b1, b2⟩)
  refine ⟨A2, _, ?_, r3⟩
  rw [e302_826, if_neg (ldj (i := i) (j := 1) (x := (1 : Int32)) rfl (by omega) hE), e302_832, r1, xI_s, Option.bind_some]
  dsimp only
  rw [e302_835, if_neg (ldj (i := i) (j := 1) (x := (1 : Int32)) rfl (by omega) hE), e302_841, r2, xI_s, Option.bind_some]
  dsimp only
  rw [e302_844, if_pos rfl]
theorem l_27 (h : LI A X m) (hi : i + 6 ≤ E.1) (hE : E.1 ≤ 3072) : ∃ A' X', xD E 60 302 849 [.float 0, .ref 0, .ref 48, .int (nI i)] [] A = xD E 60 302 1149 [.float 0, .ref 0, .ref 48, .int (nI i)] [] A' ∧ LI A' X' (m + 1) := by
  have hX := h.1
  obtain ⟨A1, A2, r1, r2, r3⟩ := h.go (E := E) (X' := X) (v := .int (nI (wsum X.1.1.2.2.1))) (cm := 126) (rm := 274) (ca := []) (ra := []) (hX) (fun hX Lo n hC => ⟨A, Lo, n.1, c_spent (E := E) (d := 56) hC, hC, by omega⟩) (fun hX A' fl ar al hA hM => ⟨fl, ar, al, m_spent (E := E) (d := 57) (al := al) hA hM, hM⟩)
  refine ⟨A2, _, ?_, r3⟩
  rw [e302_849, r1, xI_s, Option.bind_some]
  dsimp only
  rw [e302_853, r2, xI_s, Option.bind_some]
  dsimp only
  rw [e302_857, if_pos rfl]
theorem l_28 (h : LI A X m) (hi : i + 6 ≤ E.1) (hE : E.1 ≤ 3072) : ∃ A' X', xD E 60 302 862 [.float 0, .ref 0, .ref 48, .int (nI i)] [] A = xD E 60 302 1149 [.float 0, .ref 0, .ref 48, .int (nI i)] [] A' ∧ LI A' X' (m + 1) := by
  have hX := h.1
  obtain ⟨A1, A2, r1, r2, r3⟩ := h.go (E := E) (X' := (aSeen X (E.2 (nI i + (1 : Int32)).toNatClampNeg) (E.2 (nI i + (2 : Int32)).toNatClampNeg)).2) (v := .int ((aSeen X (E.2 (nI i + (1 : Int32)).toNatClampNeg) (E.2 (nI i + (2 : Int32)).toNatClampNeg)).1)) (cm := 127) (rm := 275) (ca := [.int (E.2 (nI i + (1 : Int32)).toNatClampNeg), .int (E.2 (nI i + (2 : Int32)).toNatClampNeg)]) (ra := [.int (E.2 (nI i + (1 : Int32)).toNatClampNeg), .int (E.2 (nI i + (2 : Int32)).toNatClampNeg)]) (aSeen_R hX) (fun hX Lo n hC => by
    obtain ⟨A1, a1, a2⟩ := c_seen (E := E) (d := 57) hC hX (E.2 (nI i + (1 : Int32)).toNatClampNeg) (E.2 (nI i + (2 : Int32)).toNatClampNeg)
    exact ⟨A1, Lo, n.1, a1, a2, by omega⟩) (fun hX A' fl ar al hA hM => by
    obtain ⟨f1, r1, b1, b2⟩ := m_seen (E := E) (d := 57) (al := al) hA hM hX
    exact ⟨f1, r1, al, b1, b2⟩)
  refine ⟨A2, _, ?_, r3⟩
  rw [e302_862, if_neg (ldj (i := i) (j := 1) (x := (1 : Int32)) rfl (by omega) hE), e302_868, if_neg (ldj (i := i) (j := 2) (x := (2 : Int32)) rfl (by omega) hE), e302_873, r1, xI_s, Option.bind_some]
  dsimp only
  rw [e302_876, if_neg (ldj (i := i) (j := 1) (x := (1 : Int32)) rfl (by omega) hE), e302_882, if_neg (ldj (i := i) (j := 2) (x := (2 : Int32)) rfl (by omega) hE), e302_887, r2, xI_s, Option.bind_some]
  dsimp only
  rw [e302_890, if_pos rfl]
theorem l_29 (h : LI A X m) (hi : i + 6 ≤ E.1) (hE : E.1 ≤ 3072) : ∃ A' X', xD E 60 302 895 [.float 0, .ref 0, .ref 48, .int (nI i)] [] A = xD E 60 302 1149 [.float 0, .ref 0, .ref 48, .int (nI i)] [] A' ∧ LI A' X' (m + 1) := by
  have hX := h.1
  obtain ⟨A1, A2, r1, r2, r3⟩ := h.go (E := E) (X' := (aForget X).2) (v := .int ((aForget X).1)) (cm := 128) (rm := 276) (ca := []) (ra := []) (aForget_R hX) (fun hX Lo n hC => by
    obtain ⟨A1, a1, a2⟩ := c_forget (E := E) (d := 58) hC
    exact ⟨A1, Lo, n.1, a1, a2, by omega⟩) (fun hX A' fl ar al hA hM => by
    obtain ⟨f1, r1, b1, b2⟩ := m_forget (E := E) (d := 58) (al := al) hA hM hX
    exact ⟨f1, r1, al, b1, b2⟩)
  refine ⟨A2, _, ?_, r3⟩
  rw [e302_895, r1, xI_s, Option.bind_some]
  dsimp only
  rw [e302_899, r2, xI_s, Option.bind_some]
  dsimp only
  rw [e302_903, if_pos rfl]
theorem l_30 (h : LI A X m) (hi : i + 6 ≤ E.1) (hE : E.1 ≤ 3072) : ∃ A' X', xD E 60 302 908 [.float 0, .ref 0, .ref 48, .int (nI i)] [] A = xD E 60 302 1149 [.float 0, .ref 0, .ref 48, .int (nI i)] [] A' ∧ LI A' X' (m + 1) := by
  have hX := h.1
  obtain ⟨A1, A2, r1, r2, r3⟩ := h.go (E := E) (X' := X) (v := .int (nI (aCan X))) (cm := 129) (rm := 278) (ca := []) (ra := []) (hX) (fun hX Lo n hC => ⟨A, Lo, n.1, c_canBe (E := E) (d := 55) hC hX, hC, by omega⟩) (fun hX A' fl ar al hA hM => ⟨fl, ar, al, m_canBe (E := E) (d := 53) (al := al) hA hM hX, hM⟩)
  refine ⟨A2, _, ?_, r3⟩
  rw [e302_908, r1, xI_s, Option.bind_some]
  dsimp only
  rw [e302_912, r2, xI_s, Option.bind_some]
  dsimp only
  rw [e302_916, if_pos rfl]
theorem l_31 (h : LI A X m) (hi : i + 6 ≤ E.1) (hE : E.1 ≤ 3072) : ∃ A' X', xD E 60 302 921 [.float 0, .ref 0, .ref 48, .int (nI i)] [] A = xD E 60 302 1149 [.float 0, .ref 0, .ref 48, .int (nI i)] [] A' ∧ LI A' X' (m + 1) := by
  have hX := h.1
  obtain ⟨A1, A2, r1, r2, r3⟩ := h.go (E := E) (X' := X) (v := .int (aRead X (E.2 (nI i + (1 : Int32)).toNatClampNeg))) (cm := 130) (rm := 279) (ca := [.int (E.2 (nI i + (1 : Int32)).toNatClampNeg)]) (ra := [.int (E.2 (nI i + (1 : Int32)).toNatClampNeg)]) (hX) (fun hX Lo n hC => ⟨A, Lo, n.1, c_read (E := E) (d := 55) hC hX (E.2 (nI i + (1 : Int32)).toNatClampNeg), hC, by omega⟩) (fun hX A' fl ar al hA hM => ⟨fl, ar, al, m_read (E := E) (d := 52) (al := al) hA hM hX, hM⟩)
  refine ⟨A2, _, ?_, r3⟩
  rw [e302_921, if_neg (ldj (i := i) (j := 1) (x := (1 : Int32)) rfl (by omega) hE), e302_927, r1, xI_s, Option.bind_some]
  dsimp only
  rw [e302_930, if_neg (ldj (i := i) (j := 1) (x := (1 : Int32)) rfl (by omega) hE), e302_936, r2, xI_s, Option.bind_some]
  dsimp only
  rw [e302_939, if_pos rfl]
theorem l_32 (h : LI A X m) (hi : i + 6 ≤ E.1) (hE : E.1 ≤ 3072) : ∃ A' X', xD E 60 302 944 [.float 0, .ref 0, .ref 48, .int (nI i)] [] A = xD E 60 302 1149 [.float 0, .ref 0, .ref 48, .int (nI i)] [] A' ∧ LI A' X' (m + 1) := by
  have hX := h.1
  obtain ⟨A1, A2, r1, r2, r3⟩ := h.go (E := E) (X' := X) (v := .long (aFew X (E.2 (nI i + (1 : Int32)).toNatClampNeg) (E.2 (nI i + (2 : Int32)).toNatClampNeg))) (cm := 131) (rm := 280) (ca := [.int (E.2 (nI i + (1 : Int32)).toNatClampNeg), .int (E.2 (nI i + (2 : Int32)).toNatClampNeg)]) (ra := [.int (E.2 (nI i + (1 : Int32)).toNatClampNeg), .int (E.2 (nI i + (2 : Int32)).toNatClampNeg)]) (hX) (fun hX Lo n hC => by
    obtain ⟨A1, a1, a2⟩ := c_few (E := E) (d := 57) hC (E.2 (nI i + (1 : Int32)).toNatClampNeg) (E.2 (nI i + (2 : Int32)).toNatClampNeg)
    exact ⟨A1, Lo, n.1, a1, a2, by omega⟩) (fun hX A' fl ar al hA hM => by
    obtain ⟨l1, b1⟩ := m_few (E := E) (d := 57) (al := al) hA hM
    exact ⟨fl, ar, l1, b1, hM⟩)
  refine ⟨A2, _, ?_, r3⟩
  rw [e302_944, if_neg (ldj (i := i) (j := 1) (x := (1 : Int32)) rfl (by omega) hE), e302_950, if_neg (ldj (i := i) (j := 2) (x := (2 : Int32)) rfl (by omega) hE), e302_955, r1, xL_s, Option.bind_some]
  dsimp only
  rw [e302_958, if_neg (ldj (i := i) (j := 1) (x := (1 : Int32)) rfl (by omega) hE), e302_964, if_neg (ldj (i := i) (j := 2) (x := (2 : Int32)) rfl (by omega) hE), e302_969, r2, xL_s, Option.bind_some]
  dsimp only
  rw [e302_972, if_pos ((lg_cmp_eq _ _).mpr rfl)]
theorem l_33 (h : LI A X m) (hi : i + 6 ≤ E.1) (hE : E.1 ≤ 3072) : ∃ A' X', xD E 60 302 978 [.float 0, .ref 0, .ref 48, .int (nI i)] [] A = xD E 60 302 1149 [.float 0, .ref 0, .ref 48, .int (nI i)] [] A' ∧ LI A' X' (m + 1) := by
  have hX := h.1
  obtain ⟨A1, A2, r1, r2, r3⟩ := h.go (E := E) (X' := X) (v := .int (aCompare X (E.2 (nI i + (1 : Int32)).toNatClampNeg) (E.2 (nI i + (2 : Int32)).toNatClampNeg))) (cm := 132) (rm := 281) (ca := [.int (E.2 (nI i + (1 : Int32)).toNatClampNeg), .int (E.2 (nI i + (2 : Int32)).toNatClampNeg)]) (ra := [.int (E.2 (nI i + (1 : Int32)).toNatClampNeg), .int (E.2 (nI i + (2 : Int32)).toNatClampNeg)]) (hX) (fun hX Lo n hC => by
    obtain ⟨A1, a1, a2, -⟩ := c_compare (E := E) (d := 54) hC hX (E.2 (nI i + (1 : Int32)).toNatClampNeg) (E.2 (nI i + (2 : Int32)).toNatClampNeg)
    exact ⟨A1, Lo, n.1, a1, a2, by omega⟩) (fun hX A' fl ar al hA hM => by
    obtain ⟨f1, r1, b1, b2⟩ := m_compare (E := E) (d := 11) (al := al) hA hM hX
    exact ⟨f1, r1, al, b1, b2⟩)
  refine ⟨A2, _, ?_, r3⟩
  rw [e302_978, if_neg (ldj (i := i) (j := 1) (x := (1 : Int32)) rfl (by omega) hE), e302_984, if_neg (ldj (i := i) (j := 2) (x := (2 : Int32)) rfl (by omega) hE), e302_989, r1, xI_s, Option.bind_some]
  dsimp only
  rw [e302_992, if_neg (ldj (i := i) (j := 1) (x := (1 : Int32)) rfl (by omega) hE), e302_998, if_neg (ldj (i := i) (j := 2) (x := (2 : Int32)) rfl (by omega) hE), e302_1003, r2, xI_s, Option.bind_some]
  dsimp only
  rw [e302_1006, if_pos rfl]
theorem l_34 (h : LI A X m) (hi : i + 6 ≤ E.1) (hE : E.1 ≤ 3072) : ∃ A' X', xD E 60 302 1011 [.float 0, .ref 0, .ref 48, .int (nI i)] [] A = xD E 60 302 1149 [.float 0, .ref 0, .ref 48, .int (nI i)] [] A' ∧ LI A' X' (m + 1) := by
  have hX := h.1
  obtain ⟨A1, A2, r1, r2, r3⟩ := h.go (E := E) (X' := (aYears X (E.2 (nI i + (1 : Int32)).toNatClampNeg) (E.2 (nI i + (2 : Int32)).toNatClampNeg)).2) (v := .int ((aYears X (E.2 (nI i + (1 : Int32)).toNatClampNeg) (E.2 (nI i + (2 : Int32)).toNatClampNeg)).1)) (cm := 133) (rm := 290) (ca := [.int (E.2 (nI i + (1 : Int32)).toNatClampNeg), .int (E.2 (nI i + (2 : Int32)).toNatClampNeg)]) (ra := [.int (E.2 (nI i + (1 : Int32)).toNatClampNeg), .int (E.2 (nI i + (2 : Int32)).toNatClampNeg)]) (aYears_R hX) (fun hX Lo n hC => by
    obtain ⟨A1, a1, a2⟩ := c_years (E := E) (d := 51) hC hX (E.2 (nI i + (1 : Int32)).toNatClampNeg) (E.2 (nI i + (2 : Int32)).toNatClampNeg)
    exact ⟨A1, Lo, n.1, a1, a2, by omega⟩) (fun hX A' fl ar al hA hM => by
    obtain ⟨f1, r1, b1, b2⟩ := m_years (E := E) (d := 6) (al := al) hA hM hX
    exact ⟨f1, r1, al, b1, b2⟩)
  refine ⟨A2, _, ?_, r3⟩
  rw [e302_1011, if_neg (ldj (i := i) (j := 1) (x := (1 : Int32)) rfl (by omega) hE), e302_1017, if_neg (ldj (i := i) (j := 2) (x := (2 : Int32)) rfl (by omega) hE), e302_1022, r1, xI_s, Option.bind_some]
  dsimp only
  rw [e302_1025, if_neg (ldj (i := i) (j := 1) (x := (1 : Int32)) rfl (by omega) hE), e302_1031, if_neg (ldj (i := i) (j := 2) (x := (2 : Int32)) rfl (by omega) hE), e302_1036, r2, xI_s, Option.bind_some]
  dsimp only
  rw [e302_1039, if_pos rfl]
theorem l_35 (h : LI A X m) (hi : i + 6 ≤ E.1) (hE : E.1 ≤ 3072) : ∃ A' X', xD E 60 302 1044 [.float 0, .ref 0, .ref 48, .int (nI i)] [] A = xD E 60 302 1149 [.float 0, .ref 0, .ref 48, .int (nI i)] [] A' ∧ LI A' X' (m + 1) := by
  have hX := h.1
  obtain ⟨A1, A2, r1, r2, r3⟩ := h.go (E := E) (X' := X) (v := .int (aDrawn X (E.2 (nI i + (1 : Int32)).toNatClampNeg))) (cm := 134) (rm := 291) (ca := [.int (E.2 (nI i + (1 : Int32)).toNatClampNeg)]) (ra := [.int (E.2 (nI i + (1 : Int32)).toNatClampNeg)]) (hX) (fun hX Lo n hC => ⟨A, Lo, n.1, c_drawn (E := E) (d := 58) hC (E.2 (nI i + (1 : Int32)).toNatClampNeg), hC, by omega⟩) (fun hX A' fl ar al hA hM => ⟨fl, ar, al, m_drawn (E := E) (d := 57) (al := al) hA hM, hM⟩)
  refine ⟨A2, _, ?_, r3⟩
  rw [e302_1044, if_neg (ldj (i := i) (j := 1) (x := (1 : Int32)) rfl (by omega) hE), e302_1050, r1, xI_s, Option.bind_some]
  dsimp only
  rw [e302_1053, if_neg (ldj (i := i) (j := 1) (x := (1 : Int32)) rfl (by omega) hE), e302_1059, r2, xI_s, Option.bind_some]
  dsimp only
  rw [e302_1062, if_pos rfl]
theorem l_36 (h : LI A X m) (hi : i + 6 ≤ E.1) (hE : E.1 ≤ 3072) : ∃ A' X', xD E 60 302 1067 [.float 0, .ref 0, .ref 48, .int (nI i)] [] A = xD E 60 302 1149 [.float 0, .ref 0, .ref 48, .int (nI i)] [] A' ∧ LI A' X' (m + 1) := by
  have hX := h.1
  obtain ⟨A1, A2, r1, r2, r3⟩ := h.go (E := E) (X' := (aImage X (E.2 (nI i + (1 : Int32)).toNatClampNeg)).2) (v := .int ((aImage X (E.2 (nI i + (1 : Int32)).toNatClampNeg)).1)) (cm := 135) (rm := 167) (ca := [.int (E.2 (nI i + (1 : Int32)).toNatClampNeg)]) (ra := [.int (E.2 (nI i + (1 : Int32)).toNatClampNeg)]) (aImage_R hX) (fun hX Lo n hC => by
    obtain ⟨A1, a1, a2⟩ := c_image (E := E) (d := 55) hC hX (E.2 (nI i + (1 : Int32)).toNatClampNeg)
    exact ⟨A1, Lo, n.1, a1, a2, by omega⟩) (fun hX A' fl ar al hA hM => by
    obtain ⟨f1, r1, b1, b2⟩ := m_image (E := E) (d := 57) (al := al) hA hM hX
    exact ⟨f1, r1, al, b1, b2⟩)
  refine ⟨A2, _, ?_, r3⟩
  rw [e302_1067, if_neg (ldj (i := i) (j := 1) (x := (1 : Int32)) rfl (by omega) hE), e302_1073, r1, xI_s, Option.bind_some]
  dsimp only
  rw [e302_1076, if_neg (ldj (i := i) (j := 1) (x := (1 : Int32)) rfl (by omega) hE), e302_1082, r2, xI_s, Option.bind_some]
  dsimp only
  rw [e302_1085, if_pos rfl]
theorem l_37 (h : LI A X m) (hi : i + 6 ≤ E.1) (hE : E.1 ≤ 3072) : ∃ A' X', xD E 60 302 1090 [.float 0, .ref 0, .ref 48, .int (nI i)] [] A = xD E 60 302 1149 [.float 0, .ref 0, .ref 48, .int (nI i)] [] A' ∧ LI A' X' (m + 1) := by
  have hX := h.1
  obtain ⟨A1, A2, r1, r2, r3⟩ := h.go (E := E) (X' := (aBack X (E.2 (nI i + (1 : Int32)).toNatClampNeg)).2) (v := .int ((aBack X (E.2 (nI i + (1 : Int32)).toNatClampNeg)).1)) (cm := 136) (rm := 168) (ca := [.int (E.2 (nI i + (1 : Int32)).toNatClampNeg)]) (ra := [.int (E.2 (nI i + (1 : Int32)).toNatClampNeg)]) (aBack_R hX) (fun hX Lo n hC => by
    obtain ⟨A1, a1, a2⟩ := c_back (E := E) (d := 55) hC hX (E.2 (nI i + (1 : Int32)).toNatClampNeg)
    exact ⟨A1, Lo, n.1, a1, a2, by omega⟩) (fun hX A' fl ar al hA hM => by
    obtain ⟨f1, r1, b1, b2⟩ := m_back (E := E) (d := 56) (al := al) hA hM hX
    exact ⟨f1, r1, al, b1, b2⟩)
  refine ⟨A2, _, ?_, r3⟩
  rw [e302_1090, if_neg (ldj (i := i) (j := 1) (x := (1 : Int32)) rfl (by omega) hE), e302_1096, r1, xI_s, Option.bind_some]
  dsimp only
  rw [e302_1099, if_neg (ldj (i := i) (j := 1) (x := (1 : Int32)) rfl (by omega) hE), e302_1105, r2, xI_s, Option.bind_some]
  dsimp only
  rw [e302_1108, if_pos rfl]
theorem l_38 (h : LI A X m) (hi : i + 6 ≤ E.1) (hE : E.1 ≤ 3072) : ∃ A' X', xD E 60 302 1113 [.float 0, .ref 0, .ref 48, .int (nI i)] [] A = xD E 60 302 1149 [.float 0, .ref 0, .ref 48, .int (nI i)] [] A' ∧ LI A' X' (m + 1) := by
  have hX := h.1
  obtain ⟨A1, A2, r1, r2, r3⟩ := h.go (E := E) (X' := X) (v := .int (aCount X (E.2 (nI i + (1 : Int32)).toNatClampNeg))) (cm := 137) (rm := 292) (ca := [.int (E.2 (nI i + (1 : Int32)).toNatClampNeg)]) (ra := [.int (E.2 (nI i + (1 : Int32)).toNatClampNeg)]) (hX) (fun hX Lo n hC => ⟨A, Lo, n.1, c_count (E := E) (d := 55) hC (E.2 (nI i + (1 : Int32)).toNatClampNeg), hC, by omega⟩) (fun hX A' fl ar al hA hM => ⟨fl, ar, al, m_count (E := E) (d := 55) (al := al) hA hM, hM⟩)
  refine ⟨A2, _, ?_, r3⟩
  rw [e302_1113, if_neg (ldj (i := i) (j := 1) (x := (1 : Int32)) rfl (by omega) hE), e302_1119, r1, xI_s, Option.bind_some]
  dsimp only
  rw [e302_1122, if_neg (ldj (i := i) (j := 1) (x := (1 : Int32)) rfl (by omega) hE), e302_1128, r2, xI_s, Option.bind_some]
  dsimp only
  rw [e302_1131, if_pos rfl]
theorem l_39 (h : LI A X m) (hi : i + 6 ≤ E.1) (hE : E.1 ≤ 3072) : ∃ A' X', xD E 60 302 1136 [.float 0, .ref 0, .ref 48, .int (nI i)] [] A = xD E 60 302 1149 [.float 0, .ref 0, .ref 48, .int (nI i)] [] A' ∧ LI A' X' (m + 1) := by
  have hX := h.1
  obtain ⟨A1, A2, r1, r2, r3⟩ := h.go (E := E) (X' := X) (v := .int (X.2.2.2.2.1.1)) (cm := 138) (rm := 293) (ca := []) (ra := []) (hX) (fun hX Lo n hC => ⟨A, Lo, n.1, c_status (E := E) (d := 58) hC, hC, by omega⟩) (fun hX A' fl ar al hA hM => ⟨fl, ar, al, m_status (E := E) (d := 58) (al := al) hA hM, hM⟩)
  refine ⟨A2, _, ?_, r3⟩
  rw [e302_1136, r1, xI_s, Option.bind_some]
  dsimp only
  rw [e302_1140, r2, xI_s, Option.bind_some]
  dsimp only
  rw [e302_1144, if_pos rfl]
theorem l_disp (h : LI A X m) (hi : i + 6 ≤ E.1) (hE : E.1 ≤ 3072) (s : Int32) : ∃ A' X', xD E 60 302 33 [.float 0, .ref 0, .ref 48, .int (nI i)] [.int s] A = xD E 60 302 1149 [.float 0, .ref 0, .ref 48, .int (nI i)] [] A' ∧ LI A' X' (m + 1) := by
  rw [e302_33]
  by_cases z0 : s = (0 : Int32)
  · rw [if_pos z0]; exact l_0 h hi hE
  rw [if_neg z0]
  by_cases z1 : s = (1 : Int32)
  · rw [if_pos z1]; exact l_1 h hi hE
  rw [if_neg z1]
  by_cases z2 : s = (2 : Int32)
  · rw [if_pos z2]; exact l_2 h hi hE
  rw [if_neg z2]
  by_cases z3 : s = (3 : Int32)
  · rw [if_pos z3]; exact l_3 h hi hE
  rw [if_neg z3]
  by_cases z4 : s = (4 : Int32)
  · rw [if_pos z4]; exact l_4 h hi hE
  rw [if_neg z4]
  by_cases z5 : s = (5 : Int32)
  · rw [if_pos z5]; exact l_5 h hi hE
  rw [if_neg z5]
  by_cases z6 : s = (6 : Int32)
  · rw [if_pos z6]; exact l_6 h hi hE
  rw [if_neg z6]
  by_cases z7 : s = (7 : Int32)
  · rw [if_pos z7]; exact l_7 h hi hE
  rw [if_neg z7]
  by_cases z8 : s = (8 : Int32)
  · rw [if_pos z8]; exact l_8 h hi hE
  rw [if_neg z8]
  by_cases z9 : s = (9 : Int32)
  · rw [if_pos z9]; exact l_9 h hi hE
  rw [if_neg z9]
  by_cases z10 : s = (10 : Int32)
  · rw [if_pos z10]; exact l_10 h hi hE
  rw [if_neg z10]
  by_cases z11 : s = (11 : Int32)
  · rw [if_pos z11]; exact l_11 h hi hE
  rw [if_neg z11]
  by_cases z12 : s = (12 : Int32)
  · rw [if_pos z12]; exact l_12 h hi hE
  rw [if_neg z12]
  by_cases z13 : s = (13 : Int32)
  · rw [if_pos z13]; exact l_13 h hi hE
  rw [if_neg z13]
  by_cases z14 : s = (14 : Int32)
  · rw [if_pos z14]; exact l_14 h hi hE
  rw [if_neg z14]
  by_cases z15 : s = (15 : Int32)
  · rw [if_pos z15]; exact l_15 h hi hE
  rw [if_neg z15]
  by_cases z16 : s = (16 : Int32)
  · rw [if_pos z16]; exact l_16 h hi hE
  rw [if_neg z16]
  by_cases z17 : s = (17 : Int32)
  · rw [if_pos z17]; exact l_17 h hi hE
  rw [if_neg z17]
  by_cases z18 : s = (18 : Int32)
  · rw [if_pos z18]; exact l_18 h hi hE
  rw [if_neg z18]
  by_cases z19 : s = (19 : Int32)
  · rw [if_pos z19]; exact l_19 h hi hE
  rw [if_neg z19]
  by_cases z20 : s = (20 : Int32)
  · rw [if_pos z20]; exact l_20 h hi hE
  rw [if_neg z20]
  by_cases z21 : s = (21 : Int32)
  · rw [if_pos z21]; exact l_21 h hi hE
  rw [if_neg z21]
  by_cases z22 : s = (22 : Int32)
  · rw [if_pos z22]; exact l_22 h hi hE
  rw [if_neg z22]
  by_cases z23 : s = (23 : Int32)
  · rw [if_pos z23]; exact l_23 h hi hE
  rw [if_neg z23]
  by_cases z24 : s = (24 : Int32)
  · rw [if_pos z24]; exact l_24 h hi hE
  rw [if_neg z24]
  by_cases z25 : s = (25 : Int32)
  · rw [if_pos z25]; exact l_25 h hi hE
  rw [if_neg z25]
  by_cases z26 : s = (26 : Int32)
  · rw [if_pos z26]; exact l_26 h hi hE
  rw [if_neg z26]
  by_cases z27 : s = (27 : Int32)
  · rw [if_pos z27]; exact l_27 h hi hE
  rw [if_neg z27]
  by_cases z28 : s = (28 : Int32)
  · rw [if_pos z28]; exact l_28 h hi hE
  rw [if_neg z28]
  by_cases z29 : s = (29 : Int32)
  · rw [if_pos z29]; exact l_29 h hi hE
  rw [if_neg z29]
  by_cases z30 : s = (30 : Int32)
  · rw [if_pos z30]; exact l_30 h hi hE
  rw [if_neg z30]
  by_cases z31 : s = (31 : Int32)
  · rw [if_pos z31]; exact l_31 h hi hE
  rw [if_neg z31]
  by_cases z32 : s = (32 : Int32)
  · rw [if_pos z32]; exact l_32 h hi hE
  rw [if_neg z32]
  by_cases z33 : s = (33 : Int32)
  · rw [if_pos z33]; exact l_33 h hi hE
  rw [if_neg z33]
  by_cases z34 : s = (34 : Int32)
  · rw [if_pos z34]; exact l_34 h hi hE
  rw [if_neg z34]
  by_cases z35 : s = (35 : Int32)
  · rw [if_pos z35]; exact l_35 h hi hE
  rw [if_neg z35]
  by_cases z36 : s = (36 : Int32)
  · rw [if_pos z36]; exact l_36 h hi hE
  rw [if_neg z36]
  by_cases z37 : s = (37 : Int32)
  · rw [if_pos z37]; exact l_37 h hi hE
  rw [if_neg z37]
  by_cases z38 : s = (38 : Int32)
  · rw [if_pos z38]; exact l_38 h hi hE
  rw [if_neg z38]
  by_cases z39 : s = (39 : Int32)
  · rw [if_pos z39]; exact l_39 h hi hE
  rw [if_neg z39]
  exact ⟨A, X, rfl, h.up (by omega)⟩
end CALLS
