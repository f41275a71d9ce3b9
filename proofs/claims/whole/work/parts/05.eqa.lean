/-! ===== what each block does, an equation a block (printed by wip/whole/gen.py) ===== -/
-- History.init ()V
set_option maxRecDepth 100000 in
theorem h_0 : xprog[0]? = some M_0 := rfl
set_option maxRecDepth 100000 in
theorem e0_0 (E : Nat × (Nat → Int32)) (d : Nat) (r0 : Nat) (A : xH) : xD E (d + 1) 0 0 [.ref r0] [] A = (pF (A ++ [.inl (5, 16, .inr (.inr fun _ => none))]) r0 0 0 (.ref A.length)).bind fun A1 => (pF (A1 ++ [.inl (0, 16, .inl fun _ => 0)]) r0 0 1 (.ref A1.length)).bind fun A2 => (pF A2 r0 0 2 (.null)).bind fun A3 => (pF A3 r0 0 3 (.int (0 : Int32))).bind fun A4 => some (none, A4) := (xD_bex E d h_0 [] 90 0 _ _ _).trans rfl
set_option maxRecDepth 100000 in
theorem k0 (E : Nat × (Nat → Int32)) (d : Nat) (r0 : Nat) (A : xH) (h : xcls A r0 = some 0) : xC E (d + 1) 0 [.ref r0] A = (pF (A ++ [.inl (5, 16, .inr (.inr fun _ => none))]) r0 0 0 (.ref A.length)).bind fun A1 => (pF (A1 ++ [.inl (0, 16, .inl fun _ => 0)]) r0 0 1 (.ref A1.length)).bind fun A2 => (pF A2 r0 0 2 (.null)).bind fun A3 => (pF A3 r0 0 3 (.int (0 : Int32))).bind fun A4 => some (none, A4) := (xC_eq h_0 (by show (xcls A r0 == some 0) = true; rw [h]; rfl) (Nat.le_of_ble_eq_true rfl)).trans (e0_0 E d r0 A)
-- History.clear ()V
set_option maxRecDepth 100000 in
theorem h_1 : xprog[1]? = some M_1 := rfl
set_option maxRecDepth 100000 in
theorem e1_0 (E : Nat × (Nat → Int32)) (d : Nat) (r0 : Nat) (A : xH) : xD E (d + 1) 1 0 [.ref r0] [] A = (pF A r0 0 3 (.int (0 : Int32))).bind fun A1 => some (none, A1) := (xD_bex E d h_1 [] 90 0 _ _ _).trans rfl
set_option maxRecDepth 100000 in
theorem k1 (E : Nat × (Nat → Int32)) (d : Nat) (r0 : Nat) (A : xH) (h : xcls A r0 = some 0) : xC E (d + 1) 1 [.ref r0] A = (pF A r0 0 3 (.int (0 : Int32))).bind fun A1 => some (none, A1) := (xC_eq h_1 (by show (xcls A r0 == some 0) = true; rw [h]; rfl) (Nat.le_of_ble_eq_true rfl)).trans (e1_0 E d r0 A)
-- History.prepare (LTwinBuckets$Store;)V
set_option maxRecDepth 100000 in
theorem h_2 : xprog[2]? = some M_2 := rfl
set_option maxRecDepth 100000 in
theorem e2_0 (E : Nat × (Nat → Int32)) (d : Nat) (r0 : Nat) (r1 : Nat) (A : xH) : xD E (d + 1) 2 0 [.ref r0, .ref r1] [] A = (gO A r0 0 2).bind fun q1 => (match q1 with | none => (xV (xC E d 40 [.ref A.length] (A ++ [.inr (5, [.null, .null, .null, .null, .int 0, .int 0, .int 0, .int 0])]))).bind fun A2 => (pF A2 r0 0 2 (.ref A.length)).bind fun A3 => (gO A3 r0 0 2).bind fun q4 => (match q4 with | none => (xV (xC E d 42 [.null, .ref r1] A3)).bind fun A5 => some (none, A5) | some bq4 => (xV (xC E d 42 [.ref bq4, .ref r1] A3)).bind fun A6 => some (none, A6)) | some bq1 => (gO A r0 0 2).bind fun q7 => (match q7 with | none => (xV (xC E d 42 [.null, .ref r1] A)).bind fun A8 => some (none, A8) | some bq7 => (xV (xC E d 42 [.ref bq7, .ref r1] A)).bind fun A9 => some (none, A9))) := (xD_bex E d h_2 [] 90 0 _ _ _).trans rfl
set_option maxRecDepth 100000 in
theorem k2 (E : Nat × (Nat → Int32)) (d : Nat) (r0 : Nat) (r1 : Nat) (A : xH) (h : xcls A r0 = some 0) : xC E (d + 1) 2 [.ref r0, .ref r1] A = (gO A r0 0 2).bind fun q1 => (match q1 with | none => (xV (xC E d 40 [.ref A.length] (A ++ [.inr (5, [.null, .null, .null, .null, .int 0, .int 0, .int 0, .int 0])]))).bind fun A2 => (pF A2 r0 0 2 (.ref A.length)).bind fun A3 => (gO A3 r0 0 2).bind fun q4 => (match q4 with | none => (xV (xC E d 42 [.null, .ref r1] A3)).bind fun A5 => some (none, A5) | some bq4 => (xV (xC E d 42 [.ref bq4, .ref r1] A3)).bind fun A6 => some (none, A6)) | some bq1 => (gO A r0 0 2).bind fun q7 => (match q7 with | none => (xV (xC E d 42 [.null, .ref r1] A)).bind fun A8 => some (none, A8) | some bq7 => (xV (xC E d 42 [.ref bq7, .ref r1] A)).bind fun A9 => some (none, A9))) := (xC_eq h_2 (by show (xcls A r0 == some 0) = true; rw [h]; rfl) (Nat.le_of_ble_eq_true rfl)).trans (e2_0 E d r0 r1 A)
-- History.commit (I)V
set_option maxRecDepth 100000 in
theorem h_3 : xprog[3]? = some M_3 := rfl
set_option maxRecDepth 100000 in
theorem e3_0 (E : Nat × (Nat → Int32)) (d : Nat) (r0 : Nat) (i1 : Int32) (A : xH) : xD E (d + 1) 3 0 [.ref r0, .int i1] [] A = (gO A r0 0 2).bind fun q1 => (match q1 with | none => (xOp (xC E d 4 [.ref r0, .null, .int i1] A)).bind fun q2 => (match q2.1 with | none => (pF q2.2 r0 0 2 (.null)).bind fun A3 => some (none, A3) | some bq2 => (pF q2.2 r0 0 2 (.ref bq2)).bind fun A4 => some (none, A4)) | some bq1 => (xOp (xC E d 4 [.ref r0, .ref bq1, .int i1] A)).bind fun q5 => (match q5.1 with | none => (pF q5.2 r0 0 2 (.null)).bind fun A6 => some (none, A6) | some bq5 => (pF q5.2 r0 0 2 (.ref bq5)).bind fun A7 => some (none, A7))) := (xD_bex E d h_3 [] 90 0 _ _ _).trans rfl
set_option maxRecDepth 100000 in
theorem k3 (E : Nat × (Nat → Int32)) (d : Nat) (r0 : Nat) (i1 : Int32) (A : xH) (h : xcls A r0 = some 0) : xC E (d + 1) 3 [.ref r0, .int i1] A = (gO A r0 0 2).bind fun q1 => (match q1 with | none => (xOp (xC E d 4 [.ref r0, .null, .int i1] A)).bind fun q2 => (match q2.1 with | none => (pF q2.2 r0 0 2 (.null)).bind fun A3 => some (none, A3) | some bq2 => (pF q2.2 r0 0 2 (.ref bq2)).bind fun A4 => some (none, A4)) | some bq1 => (xOp (xC E d 4 [.ref r0, .ref bq1, .int i1] A)).bind fun q5 => (match q5.1 with | none => (pF q5.2 r0 0 2 (.null)).bind fun A6 => some (none, A6) | some bq5 => (pF q5.2 r0 0 2 (.ref bq5)).bind fun A7 => some (none, A7))) := (xC_eq h_3 (by show (xcls A r0 == some 0) = true; rw [h]; rfl) (Nat.le_of_ble_eq_true rfl)).trans (e3_0 E d r0 i1 A)
-- History.keep (LTwinBuckets$Store;I)LTwinBuckets$Store;
set_option maxRecDepth 100000 in
theorem h_4 : xprog[4]? = some M_4 := rfl
set_option maxRecDepth 100000 in
theorem e4_0 (E : Nat × (Nat → Int32)) (d : Nat) (r0 : Nat) (r1 : Nat) (i2 : Int32) (A : xH) : xD E (d + 1) 4 0 [.ref r0, .ref r1, .int i2, xJ, xJ] [] A = (gN A r0 0 0).bind fun n1 => (gI A r0 0 3).bind fun x2 => if x2 = (16 : Int32) then (aR 5 A n1 (0 : Int32)).bind fun q3 => (match q3 with | none => (gI A r0 0 3).bind fun x4 => if x4 = (16 : Int32) then xD E (d + 1) 4 35 [.ref r0, .ref r1, .int i2, .null, .int (1 : Int32)] [] A else xD E (d + 1) 4 90 [.ref r0, .ref r1, .int i2, .null, xJ] [] A | some bq3 => (gI A r0 0 3).bind fun x5 => if x5 = (16 : Int32) then xD E (d + 1) 4 35 [.ref r0, .ref r1, .int i2, .ref bq3, .int (1 : Int32)] [] A else xD E (d + 1) 4 90 [.ref r0, .ref r1, .int i2, .ref bq3, xJ] [] A) else (gI A r0 0 3).bind fun x6 => (aR 5 A n1 x6).bind fun q7 => (match q7 with | none => (gI A r0 0 3).bind fun x8 => if x8 = (16 : Int32) then xD E (d + 1) 4 35 [.ref r0, .ref r1, .int i2, .null, .int (1 : Int32)] [] A else xD E (d + 1) 4 90 [.ref r0, .ref r1, .int i2, .null, xJ] [] A | some bq7 => (gI A r0 0 3).bind fun x9 => if x9 = (16 : Int32) then xD E (d + 1) 4 35 [.ref r0, .ref r1, .int i2, .ref bq7, .int (1 : Int32)] [] A else xD E (d + 1) 4 90 [.ref r0, .ref r1, .int i2, .ref bq7, xJ] [] A) := (xD_bex E d h_4 [35, 90] 90 0 _ _ _).trans rfl
set_option maxRecDepth 100000 in
theorem e4_35a (E : Nat × (Nat → Int32)) (d : Nat) (r0 : Nat) (r1 : Nat) (i2 : Int32) (r3 : Nat) (i4 : Int32) (A : xH) : xD E (d + 1) 4 35 [.ref r0, .ref r1, .int i2, .ref r3, .int i4] [] A = if (16 : Int32) ≤ i4 then (gI A r0 0 3).bind fun x1 => (pF A r0 0 3 (.int (x1 - (1 : Int32)))).bind fun A2 => xD E (d + 1) 4 90 [.ref r0, .ref r1, .int i2, .ref r3, .int i4] [] A2 else (gN A r0 0 0).bind fun n3 => (gN A r0 0 0).bind fun n4 => (aR 5 A n4 i4).bind fun q5 => (match q5 with | none => (sR 5 A n3 (i4 - (1 : Int32)) none).bind fun A6 => (gN A6 r0 0 1).bind fun n7 => (gN A6 r0 0 1).bind fun n8 => (aI 0 A6 n8 i4).bind fun x9 => (sI 0 A6 n7 (i4 - (1 : Int32)) x9).bind fun A10 => xD E (d + 1) 4 35 [.ref r0, .ref r1, .int i2, .ref r3, .int (i4 + (1 : Int32))] [] A10 | some bq5 => (sR 5 A n3 (i4 - (1 : Int32)) (some bq5)).bind fun A11 => (gN A11 r0 0 1).bind fun n12 => (gN A11 r0 0 1).bind fun n13 => (aI 0 A11 n13 i4).bind fun x14 => (sI 0 A11 n12 (i4 - (1 : Int32)) x14).bind fun A15 => xD E (d + 1) 4 35 [.ref r0, .ref r1, .int i2, .ref r3, .int (i4 + (1 : Int32))] [] A15) := (xD_bex E d h_4 [35, 90] 90 35 _ _ _).trans rfl
set_option maxRecDepth 100000 in
theorem e4_35b (E : Nat × (Nat → Int32)) (d : Nat) (r0 : Nat) (r1 : Nat) (i2 : Int32) (i4 : Int32) (A : xH) : xD E (d + 1) 4 35 [.ref r0, .ref r1, .int i2, .null, .int i4] [] A = if (16 : Int32) ≤ i4 then (gI A r0 0 3).bind fun x1 => (pF A r0 0 3 (.int (x1 - (1 : Int32)))).bind fun A2 => xD E (d + 1) 4 90 [.ref r0, .ref r1, .int i2, .null, .int i4] [] A2 else (gN A r0 0 0).bind fun n3 => (gN A r0 0 0).bind fun n4 => (aR 5 A n4 i4).bind fun q5 => (match q5 with | none => (sR 5 A n3 (i4 - (1 : Int32)) none).bind fun A6 => (gN A6 r0 0 1).bind fun n7 => (gN A6 r0 0 1).bind fun n8 => (aI 0 A6 n8 i4).bind fun x9 => (sI 0 A6 n7 (i4 - (1 : Int32)) x9).bind fun A10 => xD E (d + 1) 4 35 [.ref r0, .ref r1, .int i2, .null, .int (i4 + (1 : Int32))] [] A10 | some bq5 => (sR 5 A n3 (i4 - (1 : Int32)) (some bq5)).bind fun A11 => (gN A11 r0 0 1).bind fun n12 => (gN A11 r0 0 1).bind fun n13 => (aI 0 A11 n13 i4).bind fun x14 => (sI 0 A11 n12 (i4 - (1 : Int32)) x14).bind fun A15 => xD E (d + 1) 4 35 [.ref r0, .ref r1, .int i2, .null, .int (i4 + (1 : Int32))] [] A15) := (xD_bex E d h_4 [35, 90] 90 35 _ _ _).trans rfl
set_option maxRecDepth 100000 in
theorem e4_90a (E : Nat × (Nat → Int32)) (d : Nat) (r0 : Nat) (r1 : Nat) (i2 : Int32) (r3 : Nat) (w4 : Value) (A : xH) : xD E (d + 1) 4 90 [.ref r0, .ref r1, .int i2, .ref r3, w4] [] A = (gN A r0 0 0).bind fun n1 => (gI A r0 0 3).bind fun x2 => (sR 5 A n1 x2 (some r1)).bind fun A3 => (gN A3 r0 0 1).bind fun n4 => (gI A3 r0 0 3).bind fun x5 => (sI 0 A3 n4 x5 i2).bind fun A6 => (gI A6 r0 0 3).bind fun x7 => (pF A6 r0 0 3 (.int (x7 + (1 : Int32)))).bind fun A8 => some (some (.ref r3), A8) := (xD_bex E d h_4 [35, 90] 90 90 _ _ _).trans rfl
set_option maxRecDepth 100000 in
theorem e4_90b (E : Nat × (Nat → Int32)) (d : Nat) (r0 : Nat) (r1 : Nat) (i2 : Int32) (w4 : Value) (A : xH) : xD E (d + 1) 4 90 [.ref r0, .ref r1, .int i2, .null, w4] [] A = (gN A r0 0 0).bind fun n1 => (gI A r0 0 3).bind fun x2 => (sR 5 A n1 x2 (some r1)).bind fun A3 => (gN A3 r0 0 1).bind fun n4 => (gI A3 r0 0 3).bind fun x5 => (sI 0 A3 n4 x5 i2).bind fun A6 => (gI A6 r0 0 3).bind fun x7 => (pF A6 r0 0 3 (.int (x7 + (1 : Int32)))).bind fun A8 => some (some (.null), A8) := (xD_bex E d h_4 [35, 90] 90 90 _ _ _).trans rfl
set_option maxRecDepth 100000 in
theorem k4 (E : Nat × (Nat → Int32)) (d : Nat) (r0 : Nat) (r1 : Nat) (i2 : Int32) (A : xH) (h : xcls A r0 = some 0) : xC E (d + 1) 4 [.ref r0, .ref r1, .int i2] A = (gN A r0 0 0).bind fun n1 => (gI A r0 0 3).bind fun x2 => if x2 = (16 : Int32) then (aR 5 A n1 (0 : Int32)).bind fun q3 => (match q3 with | none => (gI A r0 0 3).bind fun x4 => if x4 = (16 : Int32) then xD E (d + 1) 4 35 [.ref r0, .ref r1, .int i2, .null, .int (1 : Int32)] [] A else xD E (d + 1) 4 90 [.ref r0, .ref r1, .int i2, .null, xJ] [] A | some bq3 => (gI A r0 0 3).bind fun x5 => if x5 = (16 : Int32) then xD E (d + 1) 4 35 [.ref r0, .ref r1, .int i2, .ref bq3, .int (1 : Int32)] [] A else xD E (d + 1) 4 90 [.ref r0, .ref r1, .int i2, .ref bq3, xJ] [] A) else (gI A r0 0 3).bind fun x6 => (aR 5 A n1 x6).bind fun q7 => (match q7 with | none => (gI A r0 0 3).bind fun x8 => if x8 = (16 : Int32) then xD E (d + 1) 4 35 [.ref r0, .ref r1, .int i2, .null, .int (1 : Int32)] [] A else xD E (d + 1) 4 90 [.ref r0, .ref r1, .int i2, .null, xJ] [] A | some bq7 => (gI A r0 0 3).bind fun x9 => if x9 = (16 : Int32) then xD E (d + 1) 4 35 [.ref r0, .ref r1, .int i2, .ref bq7, .int (1 : Int32)] [] A else xD E (d + 1) 4 90 [.ref r0, .ref r1, .int i2, .ref bq7, xJ] [] A) := (xC_eq h_4 (by show (xcls A r0 == some 0) = true; rw [h]; rfl) (Nat.le_of_ble_eq_true rfl)).trans (e4_0 E d r0 r1 i2 A)
-- History.takeOver (LTwinBuckets$History;)V
set_option maxRecDepth 100000 in
theorem h_5 : xprog[5]? = some M_5 := rfl
set_option maxRecDepth 100000 in
theorem e5_0 (E : Nat × (Nat → Int32)) (d : Nat) (r0 : Nat) (r1 : Nat) (A : xH) : xD E (d + 1) 5 0 [.ref r0, .ref r1, xJ] [] A = xD E (d + 1) 5 2 [.ref r0, .ref r1, .int (0 : Int32)] [] A := (xD_bex E d h_5 [2] 90 0 _ _ _).trans rfl
set_option maxRecDepth 100000 in
theorem e5_2 (E : Nat × (Nat → Int32)) (d : Nat) (r0 : Nat) (r1 : Nat) (i2 : Int32) (A : xH) : xD E (d + 1) 5 2 [.ref r0, .ref r1, .int i2] [] A = (gI A r1 0 3).bind fun x1 => if x1 ≤ i2 then (pF A r1 0 3 (.int (0 : Int32))).bind fun A2 => some (none, A2) else (gN A r1 0 0).bind fun n3 => (gN A r1 0 0).bind fun n4 => (aR 5 A n4 i2).bind fun q5 => (match q5 with | none => (gN A r1 0 1).bind fun n6 => (aI 0 A n6 i2).bind fun x7 => (xOp (xC E d 4 [.ref r0, .null, .int x7] A)).bind fun q8 => (match q8.1 with | none => (sR 5 q8.2 n3 i2 none).bind fun A9 => xD E (d + 1) 5 2 [.ref r0, .ref r1, .int (i2 + (1 : Int32))] [] A9 | some bq8 => (sR 5 q8.2 n3 i2 (some bq8)).bind fun A10 => xD E (d + 1) 5 2 [.ref r0, .ref r1, .int (i2 + (1 : Int32))] [] A10) | some bq5 => (gN A r1 0 1).bind fun n11 => (aI 0 A n11 i2).bind fun x12 => (xOp (xC E d 4 [.ref r0, .ref bq5, .int x12] A)).bind fun q13 => (match q13.1 with | none => (sR 5 q13.2 n3 i2 none).bind fun A14 => xD E (d + 1) 5 2 [.ref r0, .ref r1, .int (i2 + (1 : Int32))] [] A14 | some bq13 => (sR 5 q13.2 n3 i2 (some bq13)).bind fun A15 => xD E (d + 1) 5 2 [.ref r0, .ref r1, .int (i2 + (1 : Int32))] [] A15)) := (xD_bex E d h_5 [2] 90 2 _ _ _).trans rfl
set_option maxRecDepth 100000 in
theorem k5 (E : Nat × (Nat → Int32)) (d : Nat) (r0 : Nat) (r1 : Nat) (A : xH) (h : xcls A r0 = some 0) : xC E (d + 1) 5 [.ref r0, .ref r1] A = xD E (d + 1) 5 2 [.ref r0, .ref r1, .int (0 : Int32)] [] A := (xC_eq h_5 (by show (xcls A r0 == some 0) = true; rw [h]; rfl) (Nat.le_of_ble_eq_true rfl)).trans (e5_0 E d r0 r1 A)
-- History.takeBack (LTwinBuckets$Store;)I
set_option maxRecDepth 100000 in
theorem h_6 : xprog[6]? = some M_6 := rfl
set_option maxRecDepth 100000 in
theorem e6_0 (E : Nat × (Nat → Int32)) (d : Nat) (r0 : Nat) (r1 : Nat) (A : xH) : xD E (d + 1) 6 0 [.ref r0, .ref r1] [] A = (gI A r0 0 3).bind fun x1 => if x1 = 0 then some (some (.int (-1 : Int32)), A) else (gN A r0 0 0).bind fun n2 => (gI A r0 0 3).bind fun x3 => (aR 5 A n2 (x3 - (1 : Int32))).bind fun q4 => (match q4 with | none => some (some (.int (-1 : Int32)), A) | some bq4 => (gI A r0 0 3).bind fun x5 => (pF A r0 0 3 (.int (x5 - (1 : Int32)))).bind fun A6 => (gN A6 r0 0 0).bind fun n7 => (gI A6 r0 0 3).bind fun x8 => (aR 5 A6 n7 x8).bind fun q9 => (match q9 with | none => (xV (xC E d 42 [.ref r1, .null] A6)).bind fun A10 => (gN A10 r0 0 1).bind fun n11 => (gI A10 r0 0 3).bind fun x12 => (aI 0 A10 n11 x12).bind fun x13 => some (some (.int x13), A10) | some bq9 => (xV (xC E d 42 [.ref r1, .ref bq9] A6)).bind fun A14 => (gN A14 r0 0 1).bind fun n15 => (gI A14 r0 0 3).bind fun x16 => (aI 0 A14 n15 x16).bind fun x17 => some (some (.int x17), A14))) := (xD_bex E d h_6 [] 90 0 _ _ _).trans rfl
set_option maxRecDepth 100000 in
theorem k6 (E : Nat × (Nat → Int32)) (d : Nat) (r0 : Nat) (r1 : Nat) (A : xH) (h : xcls A r0 = some 0) : xC E (d + 1) 6 [.ref r0, .ref r1] A = (gI A r0 0 3).bind fun x1 => if x1 = 0 then some (some (.int (-1 : Int32)), A) else (gN A r0 0 0).bind fun n2 => (gI A r0 0 3).bind fun x3 => (aR 5 A n2 (x3 - (1 : Int32))).bind fun q4 => (match q4 with | none => some (some (.int (-1 : Int32)), A) | some bq4 => (gI A r0 0 3).bind fun x5 => (pF A r0 0 3 (.int (x5 - (1 : Int32)))).bind fun A6 => (gN A6 r0 0 0).bind fun n7 => (gI A6 r0 0 3).bind fun x8 => (aR 5 A6 n7 x8).bind fun q9 => (match q9 with | none => (xV (xC E d 42 [.ref r1, .null] A6)).bind fun A10 => (gN A10 r0 0 1).bind fun n11 => (gI A10 r0 0 3).bind fun x12 => (aI 0 A10 n11 x12).bind fun x13 => some (some (.int x13), A10) | some bq9 => (xV (xC E d 42 [.ref r1, .ref bq9] A6)).bind fun A14 => (gN A14 r0 0 1).bind fun n15 => (gI A14 r0 0 3).bind fun x16 => (aI 0 A14 n15 x16).bind fun x17 => some (some (.int x17), A14))) := (xC_eq h_6 (by show (xcls A r0 == some 0) = true; rw [h]; rfl) (Nat.le_of_ble_eq_true rfl)).trans (e6_0 E d r0 r1 A)
-- Image.init ()V
set_option maxRecDepth 100000 in
theorem h_7 : xprog[7]? = some M_7 := rfl
set_option maxRecDepth 100000 in
theorem e7_0 (E : Nat × (Nat → Int32)) (d : Nat) (r0 : Nat) (A : xH) : xD E (d + 1) 7 0 [.ref r0] [] A = xD E (d + 1) 7 8 [.ref r0] [.ref A.length, .ref r0] (A ++ [.inr (5, [.null, .null, .null, .null, .int 0, .int 0, .int 0, .int 0])]) := (xD_bex E d h_7 [8, 19, 30] 90 0 _ _ _).trans rfl
set_option maxRecDepth 100000 in
theorem e7_8 (E : Nat × (Nat → Int32)) (d : Nat) (r0 : Nat) (s0 : Nat) (s1 : Nat) (A : xH) : xD E (d + 1) 7 8 [.ref r0] [.ref s1, .ref s0] A = (xV (xC E d 40 [.ref s1] A)).bind fun A1 => (pF A1 s0 1 0 (.ref s1)).bind fun A2 => xD E (d + 1) 7 19 [.ref r0] [.ref A2.length, .ref r0] (A2 ++ [.inr (3, [.null, .null, .null, .int 0, .int 0, .int 0, .int 0, .int 0])]) := (xD_bex E d h_7 [8, 19, 30] 90 8 _ _ _).trans rfl
set_option maxRecDepth 100000 in
theorem e7_19 (E : Nat × (Nat → Int32)) (d : Nat) (r0 : Nat) (s0 : Nat) (s1 : Nat) (A : xH) : xD E (d + 1) 7 19 [.ref r0] [.ref s1, .ref s0] A = (xV (xC E d 26 [.ref s1] A)).bind fun A1 => (pF A1 s0 1 1 (.ref s1)).bind fun A2 => xD E (d + 1) 7 30 [.ref r0] [.ref A2.length, .ref r0] (A2 ++ [.inr (4, [.null, .null, .int 0])]) := (xD_bex E d h_7 [8, 19, 30] 90 19 _ _ _).trans rfl
set_option maxRecDepth 100000 in
theorem e7_30 (E : Nat × (Nat → Int32)) (d : Nat) (w0 : Value) (s0 : Nat) (s1 : Nat) (A : xH) : xD E (d + 1) 7 30 [w0] [.ref s1, .ref s0] A = (xV (xC E d 35 [.ref s1] A)).bind fun A1 => (pF A1 s0 1 2 (.ref s1)).bind fun A2 => some (none, A2) := (xD_bex E d h_7 [8, 19, 30] 90 30 _ _ _).trans rfl
set_option maxRecDepth 100000 in
theorem k7 (E : Nat × (Nat → Int32)) (d : Nat) (r0 : Nat) (A : xH) (h : xcls A r0 = some 1) : xC E (d + 1) 7 [.ref r0] A = xD E (d + 1) 7 8 [.ref r0] [.ref A.length, .ref r0] (A ++ [.inr (5, [.null, .null, .null, .null, .int 0, .int 0, .int 0, .int 0])]) := (xC_eq h_7 (by show (xcls A r0 == some 1) = true; rw [h]; rfl) (Nat.le_of_ble_eq_true rfl)).trans (e7_0 E d r0 A)
-- Pages.init ()V
set_option maxRecDepth 100000 in
theorem h_8 : xprog[8]? = some M_8 := rfl
set_option maxRecDepth 100000 in
theorem e8_0 (E : Nat × (Nat → Int32)) (d : Nat) (r0 : Nat) (A : xH) : xD E (d + 1) 8 0 [.ref r0] [] A = (pF (A ++ [.inl (0, 240, .inl fun _ => 0)]) r0 2 0 (.ref A.length)).bind fun A1 => some (none, A1) := (xD_bex E d h_8 [] 90 0 _ _ _).trans rfl
set_option maxRecDepth 100000 in
theorem k8 (E : Nat × (Nat → Int32)) (d : Nat) (r0 : Nat) (A : xH) (h : xcls A r0 = some 2) : xC E (d + 1) 8 [.ref r0] A = (pF (A ++ [.inl (0, 240, .inl fun _ => 0)]) r0 2 0 (.ref A.length)).bind fun A1 => some (none, A1) := (xC_eq h_8 (by show (xcls A r0 == some 2) = true; rw [h]; rfl) (Nat.le_of_ble_eq_true rfl)).trans (e8_0 E d r0 A)
-- Pages.copyFrom (LTwinBuckets$Pages;)V
set_option maxRecDepth 100000 in
theorem h_9 : xprog[9]? = some M_9 := rfl
set_option maxRecDepth 100000 in
theorem e9_0 (E : Nat × (Nat → Int32)) (d : Nat) (r0 : Nat) (r1 : Nat) (A : xH) : xD E (d + 1) 9 0 [.ref r0, .ref r1] [] A = (gN A r1 2 0).bind fun n1 => (gN A r0 2 0).bind fun n2 => (gN A r0 2 0).bind fun n3 => (lA A n3).bind fun x4 => (xcopy A n1 (0 : Int32) n2 (0 : Int32) x4).bind fun A5 => some (none, A5) := (xD_bex E d h_9 [] 90 0 _ _ _).trans rfl
set_option maxRecDepth 100000 in
theorem k9 (E : Nat × (Nat → Int32)) (d : Nat) (r0 : Nat) (r1 : Nat) (A : xH) (h : xcls A r0 = some 2) : xC E (d + 1) 9 [.ref r0, .ref r1] A = (gN A r1 2 0).bind fun n1 => (gN A r0 2 0).bind fun n2 => (gN A r0 2 0).bind fun n3 => (lA A n3).bind fun x4 => (xcopy A n1 (0 : Int32) n2 (0 : Int32) x4).bind fun A5 => some (none, A5) := (xC_eq h_9 (by show (xcls A r0 == some 2) = true; rw [h]; rfl) (Nat.le_of_ble_eq_true rfl)).trans (e9_0 E d r0 r1 A)
-- Pages.tell (II)I
set_option maxRecDepth 100000 in
theorem h_10 : xprog[10]? = some M_10 := rfl
set_option maxRecDepth 100000 in
theorem e10_0 (E : Nat × (Nat → Int32)) (d : Nat) (r0 : Nat) (i1 : Int32) (i2 : Int32) (A : xH) : xD E (d + 1) 10 0 [.ref r0, .int i1, .int i2, xJ] [] A = (xI (xC E d 140 [.int i1] A)).bind fun q1 => if q1.1 = 0 then some (some (.int (-1 : Int32)), q1.2) else if i2 < 0 then some (some (.int (-1 : Int32)), q1.2) else if i2 < (10 : Int32) then if i2 = 0 then xD E (d + 1) 10 54 [.ref r0, .int i1, .int i2, xJ] [.int (1 : Int32)] q1.2 else (xI (xC E d 11 [.ref r0, .int i1] q1.2)).bind fun q2 => if q2.1 = 0 then xD E (d + 1) 10 54 [.ref r0, .int i1, .int i2, xJ] [.int (0 : Int32)] q2.2 else if i2 < (4 : Int32) then xD E (d + 1) 10 54 [.ref r0, .int i1, .int i2, xJ] [.int (1 : Int32)] q2.2 else (xI (xC E d 14 [.ref r0, .int i1] q2.2)).bind fun q3 => if q3.1 ≤ (xrem (i2 - (4 : Int32)) (3 : Int32)) then xD E (d + 1) 10 54 [.ref r0, .int i1, .int i2, xJ] [.int (0 : Int32)] q3.2 else xD E (d + 1) 10 54 [.ref r0, .int i1, .int i2, xJ] [.int (1 : Int32)] q3.2 else some (some (.int (-1 : Int32)), q1.2) := (xD_bex E d h_10 [54] 90 0 _ _ _).trans rfl
set_option maxRecDepth 100000 in
theorem e10_54 (E : Nat × (Nat → Int32)) (d : Nat) (r0 : Nat) (i1 : Int32) (i2 : Int32) (w3 : Value) (s0 : Int32) (A : xH) : xD E (d + 1) 10 54 [.ref r0, .int i1, .int i2, w3] [.int s0] A = if s0 = 0 then some (some (.int (-1 : Int32)), A) else (xI (xC E d 17 [.ref r0, .int i1, .int i2] A)).bind fun q1 => some (some (.int q1.1), q1.2) := (xD_bex E d h_10 [54] 90 54 _ _ _).trans rfl
set_option maxRecDepth 100000 in
theorem k10 (E : Nat × (Nat → Int32)) (d : Nat) (r0 : Nat) (i1 : Int32) (i2 : Int32) (A : xH) (h : xcls A r0 = some 2) : xC E (d + 1) 10 [.ref r0, .int i1, .int i2] A = (xI (xC E d 140 [.int i1] A)).bind fun q1 => if q1.1 = 0 then some (some (.int (-1 : Int32)), q1.2) else if i2 < 0 then some (some (.int (-1 : Int32)), q1.2) else if i2 < (10 : Int32) then if i2 = 0 then xD E (d + 1) 10 54 [.ref r0, .int i1, .int i2, xJ] [.int (1 : Int32)] q1.2 else (xI (xC E d 11 [.ref r0, .int i1] q1.2)).bind fun q2 => if q2.1 = 0 then xD E (d + 1) 10 54 [.ref r0, .int i1, .int i2, xJ] [.int (0 : Int32)] q2.2 else if i2 < (4 : Int32) then xD E (d + 1) 10 54 [.ref r0, .int i1, .int i2, xJ] [.int (1 : Int32)] q2.2 else (xI (xC E d 14 [.ref r0, .int i1] q2.2)).bind fun q3 => if q3.1 ≤ (xrem (i2 - (4 : Int32)) (3 : Int32)) then xD E (d + 1) 10 54 [.ref r0, .int i1, .int i2, xJ] [.int (0 : Int32)] q3.2 else xD E (d + 1) 10 54 [.ref r0, .int i1, .int i2, xJ] [.int (1 : Int32)] q3.2 else some (some (.int (-1 : Int32)), q1.2) := (xC_eq h_10 (by show (xcls A r0 == some 2) = true; rw [h]; rfl) (Nat.le_of_ble_eq_true rfl)).trans (e10_0 E d r0 i1 i2 A)
-- Pages.isUsed (I)Z
set_option maxRecDepth 100000 in
theorem h_11 : xprog[11]? = some M_11 := rfl
set_option maxRecDepth 100000 in
theorem e11_0 (E : Nat × (Nat → Int32)) (d : Nat) (r0 : Nat) (i1 : Int32) (A : xH) : xD E (d + 1) 11 0 [.ref r0, .int i1] [] A = (xI (xC E d 17 [.ref r0, .int i1, .int (0 : Int32)] A)).bind fun q1 => if q1.1 = 0 then some (some (.int (0 : Int32)), q1.2) else some (some (.int (1 : Int32)), q1.2) := (xD_bex E d h_11 [] 90 0 _ _ _).trans rfl
set_option maxRecDepth 100000 in
theorem k11 (E : Nat × (Nat → Int32)) (d : Nat) (r0 : Nat) (i1 : Int32) (A : xH) (h : xcls A r0 = some 2) : xC E (d + 1) 11 [.ref r0, .int i1] A = (xI (xC E d 17 [.ref r0, .int i1, .int (0 : Int32)] A)).bind fun q1 => if q1.1 = 0 then some (some (.int (0 : Int32)), q1.2) else some (some (.int (1 : Int32)), q1.2) := (xC_eq h_11 (by show (xcls A r0 == some 2) = true; rw [h]; rfl) (Nat.le_of_ble_eq_true rfl)).trans (e11_0 E d r0 i1 A)
-- Pages.depth (I)I
set_option maxRecDepth 100000 in
theorem h_12 : xprog[12]? = some M_12 := rfl
set_option maxRecDepth 100000 in
theorem e12_0 (E : Nat × (Nat → Int32)) (d : Nat) (r0 : Nat) (i1 : Int32) (A : xH) : xD E (d + 1) 12 0 [.ref r0, .int i1] [] A = (xI (xC E d 17 [.ref r0, .int i1, .int (1 : Int32)] A)).bind fun q1 => some (some (.int q1.1), q1.2) := (xD_bex E d h_12 [] 90 0 _ _ _).trans rfl
set_option maxRecDepth 100000 in
theorem k12 (E : Nat × (Nat → Int32)) (d : Nat) (r0 : Nat) (i1 : Int32) (A : xH) (h : xcls A r0 = some 2) : xC E (d + 1) 12 [.ref r0, .int i1] A = (xI (xC E d 17 [.ref r0, .int i1, .int (1 : Int32)] A)).bind fun q1 => some (some (.int q1.1), q1.2) := (xC_eq h_12 (by show (xcls A r0 == some 2) = true; rw [h]; rfl) (Nat.le_of_ble_eq_true rfl)).trans (e12_0 E d r0 i1 A)
-- Pages.prefix (I)I
set_option maxRecDepth 100000 in
theorem h_13 : xprog[13]? = some M_13 := rfl
set_option maxRecDepth 100000 in
theorem e13_0 (E : Nat × (Nat → Int32)) (d : Nat) (r0 : Nat) (i1 : Int32) (A : xH) : xD E (d + 1) 13 0 [.ref r0, .int i1] [] A = (xI (xC E d 17 [.ref r0, .int i1, .int (2 : Int32)] A)).bind fun q1 => some (some (.int q1.1), q1.2) := (xD_bex E d h_13 [] 90 0 _ _ _).trans rfl
set_option maxRecDepth 100000 in
theorem k13 (E : Nat × (Nat → Int32)) (d : Nat) (r0 : Nat) (i1 : Int32) (A : xH) (h : xcls A r0 = some 2) : xC E (d + 1) 13 [.ref r0, .int i1] A = (xI (xC E d 17 [.ref r0, .int i1, .int (2 : Int32)] A)).bind fun q1 => some (some (.int q1.1), q1.2) := (xC_eq h_13 (by show (xcls A r0 == some 2) = true; rw [h]; rfl) (Nat.le_of_ble_eq_true rfl)).trans (e13_0 E d r0 i1 A)
-- Pages.many (I)I
set_option maxRecDepth 100000 in
theorem h_14 : xprog[14]? = some M_14 := rfl
set_option maxRecDepth 100000 in
theorem e14_0 (E : Nat × (Nat → Int32)) (d : Nat) (r0 : Nat) (i1 : Int32) (A : xH) : xD E (d + 1) 14 0 [.ref r0, .int i1] [] A = (xI (xC E d 17 [.ref r0, .int i1, .int (3 : Int32)] A)).bind fun q1 => some (some (.int q1.1), q1.2) := (xD_bex E d h_14 [] 90 0 _ _ _).trans rfl
set_option maxRecDepth 100000 in
theorem k14 (E : Nat × (Nat → Int32)) (d : Nat) (r0 : Nat) (i1 : Int32) (A : xH) (h : xcls A r0 = some 2) : xC E (d + 1) 14 [.ref r0, .int i1] A = (xI (xC E d 17 [.ref r0, .int i1, .int (3 : Int32)] A)).bind fun q1 => some (some (.int q1.1), q1.2) := (xC_eq h_14 (by show (xcls A r0 == some 2) = true; rw [h]; rfl) (Nat.le_of_ble_eq_true rfl)).trans (e14_0 E d r0 i1 A)
-- Pages.keyAt (II)I
set_option maxRecDepth 100000 in
theorem h_15 : xprog[15]? = some M_15 := rfl
set_option maxRecDepth 100000 in
theorem e15_0 (E : Nat × (Nat → Int32)) (d : Nat) (r0 : Nat) (i1 : Int32) (i2 : Int32) (A : xH) : xD E (d + 1) 15 0 [.ref r0, .int i1, .int i2] [] A = (xI (xC E d 17 [.ref r0, .int i1, .int ((4 : Int32) + i2)] A)).bind fun q1 => some (some (.int q1.1), q1.2) := (xD_bex E d h_15 [] 90 0 _ _ _).trans rfl
set_option maxRecDepth 100000 in
theorem k15 (E : Nat × (Nat → Int32)) (d : Nat) (r0 : Nat) (i1 : Int32) (i2 : Int32) (A : xH) (h : xcls A r0 = some 2) : xC E (d + 1) 15 [.ref r0, .int i1, .int i2] A = (xI (xC E d 17 [.ref r0, .int i1, .int ((4 : Int32) + i2)] A)).bind fun q1 => some (some (.int q1.1), q1.2) := (xC_eq h_15 (by show (xcls A r0 == some 2) = true; rw [h]; rfl) (Nat.le_of_ble_eq_true rfl)).trans (e15_0 E d r0 i1 i2 A)
-- Pages.valueAt (II)I
set_option maxRecDepth 100000 in
theorem h_16 : xprog[16]? = some M_16 := rfl
set_option maxRecDepth 100000 in
theorem e16_0 (E : Nat × (Nat → Int32)) (d : Nat) (r0 : Nat) (i1 : Int32) (i2 : Int32) (A : xH) : xD E (d + 1) 16 0 [.ref r0, .int i1, .int i2] [] A = (xI (xC E d 17 [.ref r0, .int i1, .int ((7 : Int32) + i2)] A)).bind fun q1 => some (some (.int q1.1), q1.2) := (xD_bex E d h_16 [] 90 0 _ _ _).trans rfl
set_option maxRecDepth 100000 in
theorem k16 (E : Nat × (Nat → Int32)) (d : Nat) (r0 : Nat) (i1 : Int32) (i2 : Int32) (A : xH) (h : xcls A r0 = some 2) : xC E (d + 1) 16 [.ref r0, .int i1, .int i2] A = (xI (xC E d 17 [.ref r0, .int i1, .int ((7 : Int32) + i2)] A)).bind fun q1 => some (some (.int q1.1), q1.2) := (xC_eq h_16 (by show (xcls A r0 == some 2) = true; rw [h]; rfl) (Nat.le_of_ble_eq_true rfl)).trans (e16_0 E d r0 i1 i2 A)
-- Pages.cell (II)I
set_option maxRecDepth 100000 in
theorem h_17 : xprog[17]? = some M_17 := rfl
set_option maxRecDepth 100000 in
theorem e17_0 (E : Nat × (Nat → Int32)) (d : Nat) (r0 : Nat) (i1 : Int32) (i2 : Int32) (A : xH) : xD E (d + 1) 17 0 [.ref r0, .int i1, .int i2, xJ] [] A = if ((i1 * (10 : Int32)) + i2) < 0 then some (some (.int (0 : Int32)), A) else (gN A r0 2 0).bind fun n1 => (lA A n1).bind fun x2 => if x2 ≤ ((i1 * (10 : Int32)) + i2) then some (some (.int (0 : Int32)), A) else (gN A r0 2 0).bind fun n3 => (aI 0 A n3 ((i1 * (10 : Int32)) + i2)).bind fun x4 => some (some (.int x4), A) := (xD_bex E d h_17 [] 90 0 _ _ _).trans rfl
set_option maxRecDepth 100000 in
theorem k17 (E : Nat × (Nat → Int32)) (d : Nat) (r0 : Nat) (i1 : Int32) (i2 : Int32) (A : xH) (h : xcls A r0 = some 2) : xC E (d + 1) 17 [.ref r0, .int i1, .int i2] A = if ((i1 * (10 : Int32)) + i2) < 0 then some (some (.int (0 : Int32)), A) else (gN A r0 2 0).bind fun n1 => (lA A n1).bind fun x2 => if x2 ≤ ((i1 * (10 : Int32)) + i2) then some (some (.int (0 : Int32)), A) else (gN A r0 2 0).bind fun n3 => (aI 0 A n3 ((i1 * (10 : Int32)) + i2)).bind fun x4 => some (some (.int x4), A) := (xC_eq h_17 (by show (xcls A r0 == some 2) = true; rw [h]; rfl) (Nat.le_of_ble_eq_true rfl)).trans (e17_0 E d r0 i1 i2 A)
-- Pages.setPlace (III)V
set_option maxRecDepth 100000 in
theorem h_18 : xprog[18]? = some M_18 := rfl
set_option maxRecDepth 100000 in
theorem e18_0 (E : Nat × (Nat → Int32)) (d : Nat) (r0 : Nat) (i1 : Int32) (i2 : Int32) (i3 : Int32) (A : xH) : xD E (d + 1) 18 0 [.ref r0, .int i1, .int i2, .int i3] [] A = (xV (xC E d 295 [.ref r0, .int i1, .int (0 : Int32), .int (1 : Int32)] A)).bind fun A1 => (xV (xC E d 295 [.ref r0, .int i1, .int (1 : Int32), .int i2] A1)).bind fun A2 => (xV (xC E d 295 [.ref r0, .int i1, .int (2 : Int32), .int i3] A2)).bind fun A3 => some (none, A3) := (xD_bex E d h_18 [] 90 0 _ _ _).trans rfl
set_option maxRecDepth 100000 in
theorem k18 (E : Nat × (Nat → Int32)) (d : Nat) (r0 : Nat) (i1 : Int32) (i2 : Int32) (i3 : Int32) (A : xH) (h : xcls A r0 = some 2) : xC E (d + 1) 18 [.ref r0, .int i1, .int i2, .int i3] A = (xV (xC E d 295 [.ref r0, .int i1, .int (0 : Int32), .int (1 : Int32)] A)).bind fun A1 => (xV (xC E d 295 [.ref r0, .int i1, .int (1 : Int32), .int i2] A1)).bind fun A2 => (xV (xC E d 295 [.ref r0, .int i1, .int (2 : Int32), .int i3] A2)).bind fun A3 => some (none, A3) := (xC_eq h_18 (by show (xcls A r0 == some 2) = true; rw [h]; rfl) (Nat.le_of_ble_eq_true rfl)).trans (e18_0 E d r0 i1 i2 i3 A)
-- Pages.clear (I)V
set_option maxRecDepth 100000 in
theorem h_19 : xprog[19]? = some M_19 := rfl
set_option maxRecDepth 100000 in
theorem e19_0 (E : Nat × (Nat → Int32)) (d : Nat) (r0 : Nat) (i1 : Int32) (A : xH) : xD E (d + 1) 19 0 [.ref r0, .int i1, xJ] [] A = xD E (d + 1) 19 2 [.ref r0, .int i1, .int (0 : Int32)] [] A := (xD_bex E d h_19 [2] 90 0 _ _ _).trans rfl
set_option maxRecDepth 100000 in
theorem e19_2 (E : Nat × (Nat → Int32)) (d : Nat) (r0 : Nat) (i1 : Int32) (i2 : Int32) (A : xH) : xD E (d + 1) 19 2 [.ref r0, .int i1, .int i2] [] A = if (10 : Int32) ≤ i2 then some (none, A) else (xV (xC E d 295 [.ref r0, .int i1, .int i2, .int (0 : Int32)] A)).bind fun A1 => xD E (d + 1) 19 2 [.ref r0, .int i1, .int (i2 + (1 : Int32))] [] A1 := (xD_bex E d h_19 [2] 90 2 _ _ _).trans rfl
set_option maxRecDepth 100000 in
theorem k19 (E : Nat × (Nat → Int32)) (d : Nat) (r0 : Nat) (i1 : Int32) (A : xH) (h : xcls A r0 = some 2) : xC E (d + 1) 19 [.ref r0, .int i1] A = xD E (d + 1) 19 2 [.ref r0, .int i1, .int (0 : Int32)] [] A := (xC_eq h_19 (by show (xcls A r0 == some 2) = true; rw [h]; rfl) (Nat.le_of_ble_eq_true rfl)).trans (e19_0 E d r0 i1 A)
-- Pages.find (II)I
set_option maxRecDepth 100000 in
theorem h_20 : xprog[20]? = some M_20 := rfl
set_option maxRecDepth 100000 in
theorem e20_0 (E : Nat × (Nat → Int32)) (d : Nat) (r0 : Nat) (i1 : Int32) (i2 : Int32) (A : xH) : xD E (d + 1) 20 0 [.ref r0, .int i1, .int i2, xJ] [] A = xD E (d + 1) 20 2 [.ref r0, .int i1, .int i2, .int (0 : Int32)] [] A := (xD_bex E d h_20 [2] 90 0 _ _ _).trans rfl
set_option maxRecDepth 100000 in
theorem e20_2 (E : Nat × (Nat → Int32)) (d : Nat) (r0 : Nat) (i1 : Int32) (i2 : Int32) (i3 : Int32) (A : xH) : xD E (d + 1) 20 2 [.ref r0, .int i1, .int i2, .int i3] [] A = (xI (xC E d 14 [.ref r0, .int i1] A)).bind fun q1 => if q1.1 ≤ i3 then some (some (.int (-1 : Int32)), q1.2) else (xI (xC E d 15 [.ref r0, .int i1, .int i3] q1.2)).bind fun q2 => if q2.1 = i2 then some (some (.int i3), q2.2) else xD E (d + 1) 20 2 [.ref r0, .int i1, .int i2, .int (i3 + (1 : Int32))] [] q2.2 := (xD_bex E d h_20 [2] 90 2 _ _ _).trans rfl
set_option maxRecDepth 100000 in
theorem k20 (E : Nat × (Nat → Int32)) (d : Nat) (r0 : Nat) (i1 : Int32) (i2 : Int32) (A : xH) (h : xcls A r0 = some 2) : xC E (d + 1) 20 [.ref r0, .int i1, .int i2] A = xD E (d + 1) 20 2 [.ref r0, .int i1, .int i2, .int (0 : Int32)] [] A := (xC_eq h_20 (by show (xcls A r0 == some 2) = true; rw [h]; rfl) (Nat.le_of_ble_eq_true rfl)).trans (e20_0 E d r0 i1 i2 A)
-- Pages.append (III)V
set_option maxRecDepth 100000 in
theorem h_21 : xprog[21]? = some M_21 := rfl
set_option maxRecDepth 100000 in
theorem e21_0 (E : Nat × (Nat → Int32)) (d : Nat) (r0 : Nat) (i1 : Int32) (i2 : Int32) (i3 : Int32) (A : xH) : xD E (d + 1) 21 0 [.ref r0, .int i1, .int i2, .int i3, xJ] [] A = (xI (xC E d 14 [.ref r0, .int i1] A)).bind fun q1 => if (3 : Int32) ≤ q1.1 then some (none, q1.2) else (xV (xC E d 298 [.ref r0, .int i1, .int q1.1, .int i2, .int i3] q1.2)).bind fun A2 => (xV (xC E d 295 [.ref r0, .int i1, .int (3 : Int32), .int (q1.1 + (1 : Int32))] A2)).bind fun A3 => some (none, A3) := (xD_bex E d h_21 [] 90 0 _ _ _).trans rfl
set_option maxRecDepth 100000 in
theorem k21 (E : Nat × (Nat → Int32)) (d : Nat) (r0 : Nat) (i1 : Int32) (i2 : Int32) (i3 : Int32) (A : xH) (h : xcls A r0 = some 2) : xC E (d + 1) 21 [.ref r0, .int i1, .int i2, .int i3] A = (xI (xC E d 14 [.ref r0, .int i1] A)).bind fun q1 => if (3 : Int32) ≤ q1.1 then some (none, q1.2) else (xV (xC E d 298 [.ref r0, .int i1, .int q1.1, .int i2, .int i3] q1.2)).bind fun A2 => (xV (xC E d 295 [.ref r0, .int i1, .int (3 : Int32), .int (q1.1 + (1 : Int32))] A2)).bind fun A3 => some (none, A3) := (xC_eq h_21 (by show (xcls A r0 == some 2) = true; rw [h]; rfl) (Nat.le_of_ble_eq_true rfl)).trans (e21_0 E d r0 i1 i2 i3 A)
-- Pages.removeAt (II)V
set_option maxRecDepth 100000 in
theorem h_22 : xprog[22]? = some M_22 := rfl
set_option maxRecDepth 100000 in
theorem e22_0 (E : Nat × (Nat → Int32)) (d : Nat) (r0 : Nat) (i1 : Int32) (i2 : Int32) (A : xH) : xD E (d + 1) 22 0 [.ref r0, .int i1, .int i2, xJ, xJ] [] A = (xI (xC E d 14 [.ref r0, .int i1] A)).bind fun q1 => xD E (d + 1) 22 11 [.ref r0, .int i1, .int i2, .int (q1.1 - (1 : Int32)), .int i2] [] q1.2 := (xD_bex E d h_22 [11] 90 0 _ _ _).trans rfl
set_option maxRecDepth 100000 in
theorem e22_11 (E : Nat × (Nat → Int32)) (d : Nat) (r0 : Nat) (i1 : Int32) (w2 : Value) (i3 : Int32) (i4 : Int32) (A : xH) : xD E (d + 1) 22 11 [.ref r0, .int i1, w2, .int i3, .int i4] [] A = if i3 ≤ i4 then (xV (xC E d 295 [.ref r0, .int i1, .int (3 : Int32), .int i3] A)).bind fun A1 => some (none, A1) else (xI (xC E d 15 [.ref r0, .int i1, .int (i4 + (1 : Int32))] A)).bind fun q2 => (xI (xC E d 16 [.ref r0, .int i1, .int (i4 + (1 : Int32))] q2.2)).bind fun q3 => (xV (xC E d 298 [.ref r0, .int i1, .int i4, .int q2.1, .int q3.1] q3.2)).bind fun A4 => xD E (d + 1) 22 11 [.ref r0, .int i1, xJ, .int i3, .int (i4 + (1 : Int32))] [] A4 := (xD_bex E d h_22 [11] 90 11 _ _ _).trans rfl
set_option maxRecDepth 100000 in
theorem k22 (E : Nat × (Nat → Int32)) (d : Nat) (r0 : Nat) (i1 : Int32) (i2 : Int32) (A : xH) (h : xcls A r0 = some 2) : xC E (d + 1) 22 [.ref r0, .int i1, .int i2] A = (xI (xC E d 14 [.ref r0, .int i1] A)).bind fun q1 => xD E (d + 1) 22 11 [.ref r0, .int i1, .int i2, .int (q1.1 - (1 : Int32)), .int i2] [] q1.2 := (xC_eq h_22 (by show (xcls A r0 == some 2) = true; rw [h]; rfl) (Nat.le_of_ble_eq_true rfl)).trans (e22_0 E d r0 i1 i2 A)
-- Pages.usedCount ()I
set_option maxRecDepth 100000 in
theorem h_23 : xprog[23]? = some M_23 := rfl
set_option maxRecDepth 100000 in
theorem e23_0 (E : Nat × (Nat → Int32)) (d : Nat) (r0 : Nat) (A : xH) : xD E (d + 1) 23 0 [.ref r0, xJ, xJ] [] A = xD E (d + 1) 23 4 [.ref r0, .int (0 : Int32), .int (0 : Int32)] [] A := (xD_bex E d h_23 [4] 90 0 _ _ _).trans rfl
set_option maxRecDepth 100000 in
theorem e23_4 (E : Nat × (Nat → Int32)) (d : Nat) (r0 : Nat) (i1 : Int32) (i2 : Int32) (A : xH) : xD E (d + 1) 23 4 [.ref r0, .int i1, .int i2] [] A = if (24 : Int32) ≤ i2 then some (some (.int i1), A) else (xI (xC E d 17 [.ref r0, .int i2, .int (0 : Int32)] A)).bind fun q1 => xD E (d + 1) 23 4 [.ref r0, .int (i1 + q1.1), .int (i2 + (1 : Int32))] [] q1.2 := (xD_bex E d h_23 [4] 90 4 _ _ _).trans rfl
set_option maxRecDepth 100000 in
theorem k23 (E : Nat × (Nat → Int32)) (d : Nat) (r0 : Nat) (A : xH) (h : xcls A r0 = some 2) : xC E (d + 1) 23 [.ref r0] A = xD E (d + 1) 23 4 [.ref r0, .int (0 : Int32), .int (0 : Int32)] [] A := (xC_eq h_23 (by show (xcls A r0 == some 2) = true; rw [h]; rfl) (Nat.le_of_ble_eq_true rfl)).trans (e23_0 E d r0 A)
-- Pages.lowestFree ()I
set_option maxRecDepth 100000 in
theorem h_24 : xprog[24]? = some M_24 := rfl
set_option maxRecDepth 100000 in
theorem e24_0 (E : Nat × (Nat → Int32)) (d : Nat) (r0 : Nat) (A : xH) : xD E (d + 1) 24 0 [.ref r0, xJ] [] A = xD E (d + 1) 24 2 [.ref r0, .int (0 : Int32)] [] A := (xD_bex E d h_24 [2] 90 0 _ _ _).trans rfl
set_option maxRecDepth 100000 in
theorem e24_2 (E : Nat × (Nat → Int32)) (d : Nat) (r0 : Nat) (i1 : Int32) (A : xH) : xD E (d + 1) 24 2 [.ref r0, .int i1] [] A = if (24 : Int32) ≤ i1 then some (some (.int (-1 : Int32)), A) else (xI (xC E d 11 [.ref r0, .int i1] A)).bind fun q1 => if q1.1 = 0 then some (some (.int i1), q1.2) else xD E (d + 1) 24 2 [.ref r0, .int (i1 + (1 : Int32))] [] q1.2 := (xD_bex E d h_24 [2] 90 2 _ _ _).trans rfl
set_option maxRecDepth 100000 in
theorem k24 (E : Nat × (Nat → Int32)) (d : Nat) (r0 : Nat) (A : xH) (h : xcls A r0 = some 2) : xC E (d + 1) 24 [.ref r0] A = xD E (d + 1) 24 2 [.ref r0, .int (0 : Int32)] [] A := (xC_eq h_24 (by show (xcls A r0 == some 2) = true; rw [h]; rfl) (Nat.le_of_ble_eq_true rfl)).trans (e24_0 E d r0 A)
-- Pages.greatestDepth ()I
set_option maxRecDepth 100000 in
theorem h_25 : xprog[25]? = some M_25 := rfl
set_option maxRecDepth 100000 in
theorem e25_0 (E : Nat × (Nat → Int32)) (d : Nat) (r0 : Nat) (A : xH) : xD E (d + 1) 25 0 [.ref r0, xJ, xJ] [] A = xD E (d + 1) 25 4 [.ref r0, .int (0 : Int32), .int (0 : Int32)] [] A := (xD_bex E d h_25 [4] 90 0 _ _ _).trans rfl
set_option maxRecDepth 100000 in
theorem e25_4 (E : Nat × (Nat → Int32)) (d : Nat) (r0 : Nat) (i1 : Int32) (i2 : Int32) (A : xH) : xD E (d + 1) 25 4 [.ref r0, .int i1, .int i2] [] A = if (24 : Int32) ≤ i2 then some (some (.int i1), A) else (xI (xC E d 11 [.ref r0, .int i2] A)).bind fun q1 => if q1.1 = 0 then xD E (d + 1) 25 4 [.ref r0, .int i1, .int (i2 + (1 : Int32))] [] q1.2 else (xI (xC E d 12 [.ref r0, .int i2] q1.2)).bind fun q2 => xD E (d + 1) 25 4 [.ref r0, .int (xmax i1 q2.1), .int (i2 + (1 : Int32))] [] q2.2 := (xD_bex E d h_25 [4] 90 4 _ _ _).trans rfl
set_option maxRecDepth 100000 in
theorem k25 (E : Nat × (Nat → Int32)) (d : Nat) (r0 : Nat) (A : xH) (h : xcls A r0 = some 2) : xC E (d + 1) 25 [.ref r0] A = xD E (d + 1) 25 4 [.ref r0, .int (0 : Int32), .int (0 : Int32)] [] A := (xC_eq h_25 (by show (xcls A r0 == some 2) = true; rw [h]; rfl) (Nat.le_of_ble_eq_true rfl)).trans (e25_0 E d r0 A)
-- Rules.init ()V
set_option maxRecDepth 100000 in
theorem h_26 : xprog[26]? = some M_26 := rfl
set_option maxRecDepth 100000 in
theorem e26_0 (E : Nat × (Nat → Int32)) (d : Nat) (r0 : Nat) (A : xH) : xD E (d + 1) 26 0 [.ref r0] [] A = xD E (d + 1) 26 10 [.ref r0] [.ref A.length, .ref r0] (A ++ [.inl (4, 6, .inr (.inr fun _ => none))]) := (xD_bex E d h_26 [10, 18, 26] 90 0 _ _ _).trans rfl
set_option maxRecDepth 100000 in
theorem e26_10 (E : Nat × (Nat → Int32)) (d : Nat) (r0 : Nat) (s0 : Nat) (s1 : Nat) (A : xH) : xD E (d + 1) 26 10 [.ref r0] [.ref s1, .ref s0] A = (pF A s0 3 0 (.ref s1)).bind fun A1 => xD E (d + 1) 26 18 [.ref r0] [.ref A1.length, .ref r0] (A1 ++ [.inl (0, 7, .inl fun _ => 0)]) := (xD_bex E d h_26 [10, 18, 26] 90 10 _ _ _).trans rfl
set_option maxRecDepth 100000 in
theorem e26_18 (E : Nat × (Nat → Int32)) (d : Nat) (r0 : Nat) (s0 : Nat) (s1 : Nat) (A : xH) : xD E (d + 1) 26 18 [.ref r0] [.ref s1, .ref s0] A = (pF A s0 3 1 (.ref s1)).bind fun A1 => xD E (d + 1) 26 26 [.ref r0] [.ref A1.length, .ref r0] (A1 ++ [.inl (0, 64, .inl fun _ => 0)]) := (xD_bex E d h_26 [10, 18, 26] 90 18 _ _ _).trans rfl
set_option maxRecDepth 100000 in
theorem e26_26 (E : Nat × (Nat → Int32)) (d : Nat) (r0 : Nat) (s0 : Nat) (s1 : Nat) (A : xH) : xD E (d + 1) 26 26 [.ref r0] [.ref s1, .ref s0] A = (pF A s0 3 2 (.ref s1)).bind fun A1 => (pF A1 r0 3 3 (.int (0 : Int32))).bind fun A2 => (pF A2 r0 3 4 (.int (-1 : Int32))).bind fun A3 => (pF A3 r0 3 5 (.int (1 : Int32))).bind fun A4 => (pF A4 r0 3 6 (.int (0 : Int32))).bind fun A5 => (pF A5 r0 3 7 (.int (0 : Int32))).bind fun A6 => some (none, A6) := (xD_bex E d h_26 [10, 18, 26] 90 26 _ _ _).trans rfl
set_option maxRecDepth 100000 in
theorem k26 (E : Nat × (Nat → Int32)) (d : Nat) (r0 : Nat) (A : xH) (h : xcls A r0 = some 3) : xC E (d + 1) 26 [.ref r0] A = xD E (d + 1) 26 10 [.ref r0] [.ref A.length, .ref r0] (A ++ [.inl (4, 6, .inr (.inr fun _ => none))]) := (xC_eq h_26 (by show (xcls A r0 == some 3) = true; rw [h]; rfl) (Nat.le_of_ble_eq_true rfl)).trans (e26_0 E d r0 A)
-- Rules.copyFrom (LTwinBuckets$Rules;)V
set_option maxRecDepth 100000 in
theorem h_27 : xprog[27]? = some M_27 := rfl
set_option maxRecDepth 100000 in
theorem e27_0 (E : Nat × (Nat → Int32)) (d : Nat) (r0 : Nat) (r1 : Nat) (A : xH) : xD E (d + 1) 27 0 [.ref r0, .ref r1, xJ] [] A = xD E (d + 1) 27 2 [.ref r0, .ref r1, .int (0 : Int32)] [] A := (xD_bex E d h_27 [2] 90 0 _ _ _).trans rfl
set_option maxRecDepth 100000 in
theorem e27_2 (E : Nat × (Nat → Int32)) (d : Nat) (r0 : Nat) (r1 : Nat) (i2 : Int32) (A : xH) : xD E (d + 1) 27 2 [.ref r0, .ref r1, .int i2] [] A = if (6 : Int32) ≤ i2 then (gI A r1 3 3).bind fun x1 => (pF A r0 3 3 (.int x1)).bind fun A2 => (gI A2 r1 3 4).bind fun x3 => (pF A2 r0 3 4 (.int x3)).bind fun A4 => (gI A4 r1 3 5).bind fun x5 => (pF A4 r0 3 5 (.int x5)).bind fun A6 => (gI A6 r1 3 6).bind fun x7 => (pF A6 r0 3 6 (.int x7)).bind fun A8 => (gI A8 r1 3 7).bind fun x9 => (pF A8 r0 3 7 (.int x9)).bind fun A10 => some (none, A10) else (gN A r0 3 0).bind fun n11 => (gN A r1 3 0).bind fun n12 => (aR 4 A n12 i2).bind fun q13 => (match q13 with | none => (sR 4 A n11 i2 none).bind fun A14 => xD E (d + 1) 27 2 [.ref r0, .ref r1, .int (i2 + (1 : Int32))] [] A14 | some bq13 => (sR 4 A n11 i2 (some bq13)).bind fun A15 => xD E (d + 1) 27 2 [.ref r0, .ref r1, .int (i2 + (1 : Int32))] [] A15) := (xD_bex E d h_27 [2] 90 2 _ _ _).trans rfl
set_option maxRecDepth 100000 in
theorem k27 (E : Nat × (Nat → Int32)) (d : Nat) (r0 : Nat) (r1 : Nat) (A : xH) (h : xcls A r0 = some 3) : xC E (d + 1) 27 [.ref r0, .ref r1] A = xD E (d + 1) 27 2 [.ref r0, .ref r1, .int (0 : Int32)] [] A := (xC_eq h_27 (by show (xcls A r0 == some 3) = true; rw [h]; rfl) (Nat.le_of_ble_eq_true rfl)).trans (e27_0 E d r0 r1 A)
-- Rules.hashBy (II)I
set_option maxRecDepth 100000 in
theorem h_28 : xprog[28]? = some M_28 := rfl
set_option maxRecDepth 100000 in
theorem e28_0 (E : Nat × (Nat → Int32)) (d : Nat) (i0 : Int32) (i1 : Int32) (A : xH) : xD E (d + 1) 28 0 [.int i0, .int i1] [] A = some (some (.int (xrem (((421 : Int32) * i0) + i1) (1024 : Int32))), A) := (xD_bex E d h_28 [] 90 0 _ _ _).trans rfl
set_option maxRecDepth 100000 in
theorem k28 (E : Nat × (Nat → Int32)) (d : Nat) (i0 : Int32) (i1 : Int32) (A : xH) : xC E (d + 1) 28 [.int i0, .int i1] A = some (some (.int (xrem (((421 : Int32) * i0) + i1) (1024 : Int32))), A) := (xC_eq h_28 rfl (Nat.le_of_ble_eq_true rfl)).trans (e28_0 E d i0 i1 A)
-- Rules.hashOf (I)I
set_option maxRecDepth 100000 in
theorem h_29 : xprog[29]? = some M_29 := rfl
set_option maxRecDepth 100000 in
theorem e29_0 (E : Nat × (Nat → Int32)) (d : Nat) (r0 : Nat) (i1 : Int32) (A : xH) : xD E (d + 1) 29 0 [.ref r0, .int i1] [] A = (gI A r0 3 7).bind fun x1 => (xI (xC E d 28 [.int i1, .int x1] A)).bind fun q2 => some (some (.int q2.1), q2.2) := (xD_bex E d h_29 [] 90 0 _ _ _).trans rfl
set_option maxRecDepth 100000 in
theorem k29 (E : Nat × (Nat → Int32)) (d : Nat) (r0 : Nat) (i1 : Int32) (A : xH) (h : xcls A r0 = some 3) : xC E (d + 1) 29 [.ref r0, .int i1] A = (gI A r0 3 7).bind fun x1 => (xI (xC E d 28 [.int i1, .int x1] A)).bind fun q2 => some (some (.int q2.1), q2.2) := (xC_eq h_29 (by show (xcls A r0 == some 3) = true; rw [h]; rfl) (Nat.le_of_ble_eq_true rfl)).trans (e29_0 E d r0 i1 A)
-- Rules.addLaw (LTwinBuckets$Text;)I
set_option maxRecDepth 100000 in
theorem h_30 : xprog[30]? = some M_30 := rfl
set_option maxRecDepth 100000 in
theorem e30_0 (E : Nat × (Nat → Int32)) (d : Nat) (r0 : Nat) (r1 : Nat) (A : xH) : xD E (d + 1) 30 0 [.ref r0, .ref r1] [] A = (gN A r0 3 0).bind fun n1 => (gI A r0 3 3).bind fun x2 => (sR 4 A n1 x2 (some r1)).bind fun A3 => (gI A3 r0 3 3).bind fun x4 => (pF A3 r0 3 3 (.int (x4 + (1 : Int32)))).bind fun A5 => (gI A5 r0 3 3).bind fun x6 => some (some (.int (x6 - (1 : Int32))), A5) := (xD_bex E d h_30 [] 90 0 _ _ _).trans rfl
set_option maxRecDepth 100000 in
theorem k30 (E : Nat × (Nat → Int32)) (d : Nat) (r0 : Nat) (r1 : Nat) (A : xH) (h : xcls A r0 = some 3) : xC E (d + 1) 30 [.ref r0, .ref r1] A = (gN A r0 3 0).bind fun n1 => (gI A r0 3 3).bind fun x2 => (sR 4 A n1 x2 (some r1)).bind fun A3 => (gI A3 r0 3 3).bind fun x4 => (pF A3 r0 3 3 (.int (x4 + (1 : Int32)))).bind fun A5 => (gI A5 r0 3 3).bind fun x6 => some (some (.int (x6 - (1 : Int32))), A5) := (xC_eq h_30 (by show (xcls A r0 == some 3) = true; rw [h]; rfl) (Nat.le_of_ble_eq_true rfl)).trans (e30_0 E d r0 r1 A)
-- Rules.textOf (I)LTwinBuckets$Text;
set_option maxRecDepth 100000 in
theorem h_31 : xprog[31]? = some M_31 := rfl
set_option maxRecDepth 100000 in
theorem e31_0 (E : Nat × (Nat → Int32)) (d : Nat) (r0 : Nat) (i1 : Int32) (A : xH) : xD E (d + 1) 31 0 [.ref r0, .int i1] [] A = if i1 < 0 then some (some (.null), A) else (gI A r0 3 3).bind fun x1 => if x1 ≤ i1 then some (some (.null), A) else (gN A r0 3 0).bind fun n2 => (aR 4 A n2 i1).bind fun q3 => (match q3 with | none => some (some (.null), A) | some bq3 => some (some (.ref bq3), A)) := (xD_bex E d h_31 [] 90 0 _ _ _).trans rfl
set_option maxRecDepth 100000 in
theorem k31 (E : Nat × (Nat → Int32)) (d : Nat) (r0 : Nat) (i1 : Int32) (A : xH) (h : xcls A r0 = some 3) : xC E (d + 1) 31 [.ref r0, .int i1] A = if i1 < 0 then some (some (.null), A) else (gI A r0 3 3).bind fun x1 => if x1 ≤ i1 then some (some (.null), A) else (gN A r0 3 0).bind fun n2 => (aR 4 A n2 i1).bind fun q3 => (match q3 with | none => some (some (.null), A) | some bq3 => some (some (.ref bq3), A)) := (xC_eq h_31 (by show (xcls A r0 == some 3) = true; rw [h]; rfl) (Nat.le_of_ble_eq_true rfl)).trans (e31_0 E d r0 i1 A)
-- Rules.fillWords (LTwinBuckets$Store;III)V
set_option maxRecDepth 100000 in
theorem h_32 : xprog[32]? = some M_32 := rfl
set_option maxRecDepth 100000 in
theorem e32_0 (E : Nat × (Nat → Int32)) (d : Nat) (r0 : Nat) (r1 : Nat) (i2 : Int32) (i3 : Int32) (i4 : Int32) (A : xH) : xD E (d + 1) 32 0 [.ref r0, .ref r1, .int i2, .int i3, .int i4] [] A = (gN A r0 3 1).bind fun n1 => (sI 0 A n1 (0 : Int32) i2).bind fun A2 => (gN A2 r0 3 1).bind fun n3 => (gN A2 r1 5 0).bind fun n4 => (xI (xC E d 17 [.ref n4, .int i2, .int (0 : Int32)] A2)).bind fun q5 => if q5.1 = 0 then xD E (d + 1) 32 37 [.ref r0, .ref r1, .int i2, .int i3, .int i4] [.int (-1 : Int32), .int (1 : Int32), .ref n3] q5.2 else (gN q5.2 r1 5 0).bind fun n6 => (xI (xC E d 17 [.ref n6, .int i2, .int (1 : Int32)] q5.2)).bind fun q7 => xD E (d + 1) 32 37 [.ref r0, .ref r1, .int i2, .int i3, .int i4] [.int q7.1, .int (1 : Int32), .ref n3] q7.2 := (xD_bex E d h_32 [37] 90 0 _ _ _).trans rfl
set_option maxRecDepth 100000 in
theorem e32_37 (E : Nat × (Nat → Int32)) (d : Nat) (r0 : Nat) (r1 : Nat) (i2 : Int32) (i3 : Int32) (i4 : Int32) (s0 : Nat) (s1 : Int32) (s2 : Int32) (A : xH) : xD E (d + 1) 32 37 [.ref r0, .ref r1, .int i2, .int i3, .int i4] [.int s2, .int s1, .ref s0] A = (sI 0 A s0 s1 s2).bind fun A1 => (gN A1 r0 3 1).bind fun n2 => (gN A1 r1 5 0).bind fun n3 => (xI (xC E d 17 [.ref n3, .int i2, .int (3 : Int32)] A1)).bind fun q4 => (sI 0 q4.2 n2 (2 : Int32) q4.1).bind fun A5 => (gN A5 r0 3 1).bind fun n6 => (sI 0 A5 n6 (3 : Int32) i3).bind fun A7 => (gN A7 r0 3 1).bind fun n8 => (sI 0 A7 n8 (4 : Int32) i4).bind fun A9 => (gN A9 r0 3 1).bind fun n10 => (gI A9 r1 5 7).bind fun x11 => (sI 0 A9 n10 (5 : Int32) x11).bind fun A12 => (gN A12 r0 3 1).bind fun n13 => (gI A12 r0 3 6).bind fun x14 => (sI 0 A12 n13 (6 : Int32) x14).bind fun A15 => some (none, A15) := (xD_bex E d h_32 [37] 90 37 _ _ _).trans rfl
set_option maxRecDepth 100000 in
theorem k32 (E : Nat × (Nat → Int32)) (d : Nat) (r0 : Nat) (r1 : Nat) (i2 : Int32) (i3 : Int32) (i4 : Int32) (A : xH) (h : xcls A r0 = some 3) : xC E (d + 1) 32 [.ref r0, .ref r1, .int i2, .int i3, .int i4] A = (gN A r0 3 1).bind fun n1 => (sI 0 A n1 (0 : Int32) i2).bind fun A2 => (gN A2 r0 3 1).bind fun n3 => (gN A2 r1 5 0).bind fun n4 => (xI (xC E d 17 [.ref n4, .int i2, .int (0 : Int32)] A2)).bind fun q5 => if q5.1 = 0 then xD E (d + 1) 32 37 [.ref r0, .ref r1, .int i2, .int i3, .int i4] [.int (-1 : Int32), .int (1 : Int32), .ref n3] q5.2 else (gN q5.2 r1 5 0).bind fun n6 => (xI (xC E d 17 [.ref n6, .int i2, .int (1 : Int32)] q5.2)).bind fun q7 => xD E (d + 1) 32 37 [.ref r0, .ref r1, .int i2, .int i3, .int i4] [.int q7.1, .int (1 : Int32), .ref n3] q7.2 := (xC_eq h_32 (by show (xcls A r0 == some 3) = true; rw [h]; rfl) (Nat.le_of_ble_eq_true rfl)).trans (e32_0 E d r0 r1 i2 i3 i4 A)
-- Rules.costOf (ILTwinBuckets$Store;I)I
set_option maxRecDepth 100000 in
theorem h_33 : xprog[33]? = some M_33 := rfl
set_option maxRecDepth 100000 in
theorem e33_0 (E : Nat × (Nat → Int32)) (d : Nat) (r0 : Nat) (i1 : Int32) (r2 : Nat) (i3 : Int32) (A : xH) : xD E (d + 1) 33 0 [.ref r0, .int i1, .ref r2, .int i3, xJ, xJ, xJ] [] A = (xOp (xC E d 31 [.ref r0, .int i1] A)).bind fun q1 => (match q1.1 with | none => some (some (.int (1 : Int32)), q1.2) | some bq1 => (xV (xC E d 32 [.ref r0, .ref r2, .int i3, .int (-1 : Int32), .int (-1 : Int32)] q1.2)).bind fun A2 => (gI A2 bq1 7 5).bind fun x3 => xD E (d + 1) 33 31 [.ref r0, .int i1, .ref r2, .int i3, .ref bq1, .int (x3 - (1 : Int32)), xJ] [] A2) := (xD_bex E d h_33 [31] 90 0 _ _ _).trans rfl
set_option maxRecDepth 100000 in
theorem e33_31a (E : Nat × (Nat → Int32)) (d : Nat) (r0 : Nat) (w1 : Value) (w2 : Value) (w3 : Value) (r4 : Nat) (i5 : Int32) (w6 : Value) (A : xH) : xD E (d + 1) 33 31 [.ref r0, w1, w2, w3, .ref r4, .int i5, w6] [] A = if i5 < 0 then some (some (.int (1 : Int32)), A) else (xI (xC E d 92 [.ref r4, .int i5, .int (0 : Int32)] A)).bind fun q1 => if q1.1 = (4 : Int32) then (gN q1.2 r0 3 1).bind fun n2 => (gN q1.2 r0 3 2).bind fun n3 => (xI (xC E d 96 [.ref r4, .int i5, .int (6 : Int32), .ref n2, .ref n3] q1.2)).bind fun q4 => if q4.1 = (1 : Int32) then (gN q4.2 r0 3 1).bind fun n5 => (gN q4.2 r0 3 2).bind fun n6 => (xI (xC E d 96 [.ref r4, .int i5, .int (2 : Int32), .ref n5, .ref n6] q4.2)).bind fun q7 => if q7.1 = (-2000000000 : Int32) then xD E (d + 1) 33 31 [.ref r0, xJ, xJ, xJ, .ref r4, .int (i5 + (-1 : Int32)), .int q7.1] [] q7.2 else some (some (.int (xmax (0 : Int32) (xmin q7.1 (99 : Int32)))), q7.2) else xD E (d + 1) 33 31 [.ref r0, xJ, xJ, xJ, .ref r4, .int (i5 + (-1 : Int32)), xJ] [] q4.2 else xD E (d + 1) 33 31 [.ref r0, xJ, xJ, xJ, .ref r4, .int (i5 + (-1 : Int32)), xJ] [] q1.2 := (xD_bex E d h_33 [31] 90 31 _ _ _).trans rfl
set_option maxRecDepth 100000 in
theorem e33_31b (E : Nat × (Nat → Int32)) (d : Nat) (r0 : Nat) (w1 : Value) (w2 : Value) (w3 : Value) (i5 : Int32) (w6 : Value) (A : xH) : xD E (d + 1) 33 31 [.ref r0, w1, w2, w3, .null, .int i5, w6] [] A = if i5 < 0 then some (some (.int (1 : Int32)), A) else (xI (xC E d 92 [.null, .int i5, .int (0 : Int32)] A)).bind fun q1 => if q1.1 = (4 : Int32) then (gN q1.2 r0 3 1).bind fun n2 => (gN q1.2 r0 3 2).bind fun n3 => (xI (xC E d 96 [.null, .int i5, .int (6 : Int32), .ref n2, .ref n3] q1.2)).bind fun q4 => if q4.1 = (1 : Int32) then (gN q4.2 r0 3 1).bind fun n5 => (gN q4.2 r0 3 2).bind fun n6 => (xI (xC E d 96 [.null, .int i5, .int (2 : Int32), .ref n5, .ref n6] q4.2)).bind fun q7 => if q7.1 = (-2000000000 : Int32) then xD E (d + 1) 33 31 [.ref r0, xJ, xJ, xJ, .null, .int (i5 + (-1 : Int32)), .int q7.1] [] q7.2 else some (some (.int (xmax (0 : Int32) (xmin q7.1 (99 : Int32)))), q7.2) else xD E (d + 1) 33 31 [.ref r0, xJ, xJ, xJ, .null, .int (i5 + (-1 : Int32)), xJ] [] q4.2 else xD E (d + 1) 33 31 [.ref r0, xJ, xJ, xJ, .null, .int (i5 + (-1 : Int32)), xJ] [] q1.2 := (xD_bex E d h_33 [31] 90 31 _ _ _).trans rfl
set_option maxRecDepth 100000 in
theorem k33 (E : Nat × (Nat → Int32)) (d : Nat) (r0 : Nat) (i1 : Int32) (r2 : Nat) (i3 : Int32) (A : xH) (h : xcls A r0 = some 3) : xC E (d + 1) 33 [.ref r0, .int i1, .ref r2, .int i3] A = (xOp (xC E d 31 [.ref r0, .int i1] A)).bind fun q1 => (match q1.1 with | none => some (some (.int (1 : Int32)), q1.2) | some bq1 => (xV (xC E d 32 [.ref r0, .ref r2, .int i3, .int (-1 : Int32), .int (-1 : Int32)] q1.2)).bind fun A2 => (gI A2 bq1 7 5).bind fun x3 => xD E (d + 1) 33 31 [.ref r0, .int i1, .ref r2, .int i3, .ref bq1, .int (x3 - (1 : Int32)), xJ] [] A2) := (xC_eq h_33 (by show (xcls A r0 == some 3) = true; rw [h]; rfl) (Nat.le_of_ble_eq_true rfl)).trans (e33_0 E d r0 i1 r2 i3 A)
-- Rules.bars (ILTwinBuckets$Store;I)Z
set_option maxRecDepth 100000 in
theorem h_34 : xprog[34]? = some M_34 := rfl
set_option maxRecDepth 100000 in
theorem e34_0 (E : Nat × (Nat → Int32)) (d : Nat) (r0 : Nat) (i1 : Int32) (r2 : Nat) (i3 : Int32) (A : xH) : xD E (d + 1) 34 0 [.ref r0, .int i1, .ref r2, .int i3, xJ, xJ] [] A = (gI A r0 3 4).bind fun x1 => (xOp (xC E d 31 [.ref r0, .int x1] A)).bind fun q2 => (match q2.1 with | none => some (some (.int (0 : Int32)), q2.2) | some bq2 => (xI (xC E d 29 [.ref r0, .int i1] q2.2)).bind fun q3 => (xV (xC E d 32 [.ref r0, .ref r2, .int i3, .int i1, .int q3.1] q3.2)).bind fun A4 => xD E (d + 1) 34 32 [.ref r0, .int i1, .ref r2, .int i3, .ref bq2, .int (0 : Int32)] [] A4) := (xD_bex E d h_34 [32] 90 0 _ _ _).trans rfl
set_option maxRecDepth 100000 in
theorem e34_32a (E : Nat × (Nat → Int32)) (d : Nat) (r0 : Nat) (w1 : Value) (w2 : Value) (w3 : Value) (r4 : Nat) (i5 : Int32) (A : xH) : xD E (d + 1) 34 32 [.ref r0, w1, w2, w3, .ref r4, .int i5] [] A = (gI A r4 7 5).bind fun x1 => if x1 ≤ i5 then some (some (.int (0 : Int32)), A) else (xI (xC E d 92 [.ref r4, .int i5, .int (0 : Int32)] A)).bind fun q2 => if q2.1 = (5 : Int32) then (gN q2.2 r0 3 1).bind fun n3 => (gN q2.2 r0 3 2).bind fun n4 => (xI (xC E d 96 [.ref r4, .int i5, .int (6 : Int32), .ref n3, .ref n4] q2.2)).bind fun q5 => if q5.1 = (1 : Int32) then some (some (.int (1 : Int32)), q5.2) else xD E (d + 1) 34 32 [.ref r0, xJ, xJ, xJ, .ref r4, .int (i5 + (1 : Int32))] [] q5.2 else xD E (d + 1) 34 32 [.ref r0, xJ, xJ, xJ, .ref r4, .int (i5 + (1 : Int32))] [] q2.2 := (xD_bex E d h_34 [32] 90 32 _ _ _).trans rfl
set_option maxRecDepth 100000 in
theorem e34_32b (E : Nat × (Nat → Int32)) (d : Nat) (r0 : Nat) (w1 : Value) (w2 : Value) (w3 : Value) (i5 : Int32) (A : xH) : xD E (d + 1) 34 32 [.ref r0, w1, w2, w3, .null, .int i5] [] A = none := (xD_bex E d h_34 [32] 90 32 _ _ _).trans rfl
set_option maxRecDepth 100000 in
theorem k34 (E : Nat × (Nat → Int32)) (d : Nat) (r0 : Nat) (i1 : Int32) (r2 : Nat) (i3 : Int32) (A : xH) (h : xcls A r0 = some 3) : xC E (d + 1) 34 [.ref r0, .int i1, .ref r2, .int i3] A = (gI A r0 3 4).bind fun x1 => (xOp (xC E d 31 [.ref r0, .int x1] A)).bind fun q2 => (match q2.1 with | none => some (some (.int (0 : Int32)), q2.2) | some bq2 => (xI (xC E d 29 [.ref r0, .int i1] q2.2)).bind fun q3 => (xV (xC E d 32 [.ref r0, .ref r2, .int i3, .int i1, .int q3.1] q3.2)).bind fun A4 => xD E (d + 1) 34 32 [.ref r0, .int i1, .ref r2, .int i3, .ref bq2, .int (0 : Int32)] [] A4) := (xC_eq h_34 (by show (xcls A r0 == some 3) = true; rw [h]; rfl) (Nat.le_of_ble_eq_true rfl)).trans (e34_0 E d r0 i1 r2 i3 A)
-- Sightings.init ()V
set_option maxRecDepth 100000 in
theorem h_35 : xprog[35]? = some M_35 := rfl
set_option maxRecDepth 100000 in
theorem e35_0 (E : Nat × (Nat → Int32)) (d : Nat) (r0 : Nat) (A : xH) : xD E (d + 1) 35 0 [.ref r0] [] A = (pF (A ++ [.inl (0, 6, .inl fun _ => 0)]) r0 4 0 (.ref A.length)).bind fun A1 => (pF (A1 ++ [.inl (0, 6, .inl fun _ => 0)]) r0 4 1 (.ref A1.length)).bind fun A2 => (pF A2 r0 4 2 (.int (0 : Int32))).bind fun A3 => some (none, A3) := (xD_bex E d h_35 [] 90 0 _ _ _).trans rfl
set_option maxRecDepth 100000 in
theorem k35 (E : Nat × (Nat → Int32)) (d : Nat) (r0 : Nat) (A : xH) (h : xcls A r0 = some 4) : xC E (d + 1) 35 [.ref r0] A = (pF (A ++ [.inl (0, 6, .inl fun _ => 0)]) r0 4 0 (.ref A.length)).bind fun A1 => (pF (A1 ++ [.inl (0, 6, .inl fun _ => 0)]) r0 4 1 (.ref A1.length)).bind fun A2 => (pF A2 r0 4 2 (.int (0 : Int32))).bind fun A3 => some (none, A3) := (xC_eq h_35 (by show (xcls A r0 == some 4) = true; rw [h]; rfl) (Nat.le_of_ble_eq_true rfl)).trans (e35_0 E d r0 A)
-- Sightings.copyFrom (LTwinBuckets$Sightings;)V
set_option maxRecDepth 100000 in
theorem h_36 : xprog[36]? = some M_36 := rfl
set_option maxRecDepth 100000 in
theorem e36_0 (E : Nat × (Nat → Int32)) (d : Nat) (r0 : Nat) (r1 : Nat) (A : xH) : xD E (d + 1) 36 0 [.ref r0, .ref r1] [] A = (gN A r1 4 0).bind fun n1 => (gN A r0 4 0).bind fun n2 => (xcopy A n1 (0 : Int32) n2 (0 : Int32) (6 : Int32)).bind fun A3 => (gN A3 r1 4 1).bind fun n4 => (gN A3 r0 4 1).bind fun n5 => (xcopy A3 n4 (0 : Int32) n5 (0 : Int32) (6 : Int32)).bind fun A6 => (gI A6 r1 4 2).bind fun x7 => (pF A6 r0 4 2 (.int x7)).bind fun A8 => some (none, A8) := (xD_bex E d h_36 [] 90 0 _ _ _).trans rfl
set_option maxRecDepth 100000 in
theorem k36 (E : Nat × (Nat → Int32)) (d : Nat) (r0 : Nat) (r1 : Nat) (A : xH) (h : xcls A r0 = some 4) : xC E (d + 1) 36 [.ref r0, .ref r1] A = (gN A r1 4 0).bind fun n1 => (gN A r0 4 0).bind fun n2 => (xcopy A n1 (0 : Int32) n2 (0 : Int32) (6 : Int32)).bind fun A3 => (gN A3 r1 4 1).bind fun n4 => (gN A3 r0 4 1).bind fun n5 => (xcopy A3 n4 (0 : Int32) n5 (0 : Int32) (6 : Int32)).bind fun A6 => (gI A6 r1 4 2).bind fun x7 => (pF A6 r0 4 2 (.int x7)).bind fun A8 => some (none, A8) := (xC_eq h_36 (by show (xcls A r0 == some 4) = true; rw [h]; rfl) (Nat.le_of_ble_eq_true rfl)).trans (e36_0 E d r0 r1 A)
-- Sightings.add (II)I
set_option maxRecDepth 100000 in
theorem h_37 : xprog[37]? = some M_37 := rfl
set_option maxRecDepth 100000 in
theorem e37_0 (E : Nat × (Nat → Int32)) (d : Nat) (r0 : Nat) (i1 : Int32) (i2 : Int32) (A : xH) : xD E (d + 1) 37 0 [.ref r0, .int i1, .int i2] [] A = (gN A r0 4 0).bind fun n1 => (gI A r0 4 2).bind fun x2 => (sI 0 A n1 x2 i1).bind fun A3 => (gN A3 r0 4 1).bind fun n4 => (gI A3 r0 4 2).bind fun x5 => (sI 0 A3 n4 x5 i2).bind fun A6 => (gI A6 r0 4 2).bind fun x7 => (pF A6 r0 4 2 (.int (x7 + (1 : Int32)))).bind fun A8 => (gI A8 r0 4 2).bind fun x9 => some (some (.int x9), A8) := (xD_bex E d h_37 [] 90 0 _ _ _).trans rfl
set_option maxRecDepth 100000 in
theorem k37 (E : Nat × (Nat → Int32)) (d : Nat) (r0 : Nat) (i1 : Int32) (i2 : Int32) (A : xH) (h : xcls A r0 = some 4) : xC E (d + 1) 37 [.ref r0, .int i1, .int i2] A = (gN A r0 4 0).bind fun n1 => (gI A r0 4 2).bind fun x2 => (sI 0 A n1 x2 i1).bind fun A3 => (gN A3 r0 4 1).bind fun n4 => (gI A3 r0 4 2).bind fun x5 => (sI 0 A3 n4 x5 i2).bind fun A6 => (gI A6 r0 4 2).bind fun x7 => (pF A6 r0 4 2 (.int (x7 + (1 : Int32)))).bind fun A8 => (gI A8 r0 4 2).bind fun x9 => some (some (.int x9), A8) := (xC_eq h_37 (by show (xcls A r0 == some 4) = true; rw [h]; rfl) (Nat.le_of_ble_eq_true rfl)).trans (e37_0 E d r0 i1 i2 A)
-- Sightings.candidates (LTwinBuckets$Store;)I
set_option maxRecDepth 100000 in
theorem h_38 : xprog[38]? = some M_38 := rfl
set_option maxRecDepth 100000 in
theorem e38_0 (E : Nat × (Nat → Int32)) (d : Nat) (r0 : Nat) (r1 : Nat) (A : xH) : xD E (d + 1) 38 0 [.ref r0, .ref r1, xJ, xJ] [] A = xD E (d + 1) 38 4 [.ref r0, .ref r1, .int (0 : Int32), .int (0 : Int32)] [] A := (xD_bex E d h_38 [4] 90 0 _ _ _).trans rfl
set_option maxRecDepth 100000 in
theorem e38_4 (E : Nat × (Nat → Int32)) (d : Nat) (r0 : Nat) (r1 : Nat) (i2 : Int32) (i3 : Int32) (A : xH) : xD E (d + 1) 38 4 [.ref r0, .ref r1, .int i2, .int i3] [] A = if (24 : Int32) ≤ i3 then some (some (.int i2), A) else (gN A r1 5 0).bind fun n1 => (xI (xC E d 11 [.ref n1, .int i3] A)).bind fun q2 => if q2.1 = 0 then xD E (d + 1) 38 4 [.ref r0, .ref r1, .int i2, .int (i3 + (1 : Int32))] [] q2.2 else (xI (xC E d 39 [.ref r0, .ref r1, .int i3] q2.2)).bind fun q3 => if q3.1 = 0 then xD E (d + 1) 38 4 [.ref r0, .ref r1, .int i2, .int (i3 + (1 : Int32))] [] q3.2 else xD E (d + 1) 38 4 [.ref r0, .ref r1, .int (i2 ||| ((1 : Int32) <<< (i3 &&& 31))), .int (i3 + (1 : Int32))] [] q3.2 := (xD_bex E d h_38 [4] 90 4 _ _ _).trans rfl
set_option maxRecDepth 100000 in
theorem k38 (E : Nat × (Nat → Int32)) (d : Nat) (r0 : Nat) (r1 : Nat) (A : xH) (h : xcls A r0 = some 4) : xC E (d + 1) 38 [.ref r0, .ref r1] A = xD E (d + 1) 38 4 [.ref r0, .ref r1, .int (0 : Int32), .int (0 : Int32)] [] A := (xC_eq h_38 (by show (xcls A r0 == some 4) = true; rw [h]; rfl) (Nat.le_of_ble_eq_true rfl)).trans (e38_0 E d r0 r1 A)
-- Sightings.fits (LTwinBuckets$Store;I)Z
set_option maxRecDepth 100000 in
theorem h_39 : xprog[39]? = some M_39 := rfl
set_option maxRecDepth 100000 in
theorem e39_0 (E : Nat × (Nat → Int32)) (d : Nat) (r0 : Nat) (r1 : Nat) (i2 : Int32) (A : xH) : xD E (d + 1) 39 0 [.ref r0, .ref r1, .int i2, xJ, xJ] [] A = xD E (d + 1) 39 2 [.ref r0, .ref r1, .int i2, .int (0 : Int32), xJ] [] A := (xD_bex E d h_39 [2, 42] 90 0 _ _ _).trans rfl
set_option maxRecDepth 100000 in
theorem e39_2 (E : Nat × (Nat → Int32)) (d : Nat) (r0 : Nat) (r1 : Nat) (i2 : Int32) (i3 : Int32) (w4 : Value) (A : xH) : xD E (d + 1) 39 2 [.ref r0, .ref r1, .int i2, .int i3, w4] [] A = (gI A r0 4 2).bind fun x1 => if x1 ≤ i3 then some (some (.int (1 : Int32)), A) else (gN A r0 4 0).bind fun n2 => (aI 0 A n2 i3).bind fun x3 => (xI (xC E d 43 [.ref r1] A)).bind fun q4 => if q4.1 ≤ x3 then xD E (d + 1) 39 42 [.ref r0, .ref r1, .int i2, .int i3, xJ] [.int (0 : Int32)] q4.2 else (gN q4.2 r0 4 0).bind fun n5 => (aI 0 q4.2 n5 i3).bind fun x6 => (xI (xC E d 300 [.ref r1, .int x6] q4.2)).bind fun q7 => if q7.1 = i2 then xD E (d + 1) 39 42 [.ref r0, .ref r1, .int i2, .int i3, xJ] [.int (1 : Int32)] q7.2 else xD E (d + 1) 39 42 [.ref r0, .ref r1, .int i2, .int i3, xJ] [.int (0 : Int32)] q7.2 := (xD_bex E d h_39 [2, 42] 90 2 _ _ _).trans rfl
set_option maxRecDepth 100000 in
theorem e39_42 (E : Nat × (Nat → Int32)) (d : Nat) (r0 : Nat) (r1 : Nat) (i2 : Int32) (i3 : Int32) (w4 : Value) (s0 : Int32) (A : xH) : xD E (d + 1) 39 42 [.ref r0, .ref r1, .int i2, .int i3, w4] [.int s0] A = (gN A r0 4 1).bind fun n1 => (aI 0 A n1 i3).bind fun x2 => if x2 = (1 : Int32) then if s0 = (1 : Int32) then xD E (d + 1) 39 2 [.ref r0, .ref r1, .int i2, .int (i3 + (1 : Int32)), .int s0] [] A else some (some (.int (0 : Int32)), A) else if s0 = (0 : Int32) then xD E (d + 1) 39 2 [.ref r0, .ref r1, .int i2, .int (i3 + (1 : Int32)), .int s0] [] A else some (some (.int (0 : Int32)), A) := (xD_bex E d h_39 [2, 42] 90 42 _ _ _).trans rfl
set_option maxRecDepth 100000 in
theorem k39 (E : Nat × (Nat → Int32)) (d : Nat) (r0 : Nat) (r1 : Nat) (i2 : Int32) (A : xH) (h : xcls A r0 = some 4) : xC E (d + 1) 39 [.ref r0, .ref r1, .int i2] A = xD E (d + 1) 39 2 [.ref r0, .ref r1, .int i2, .int (0 : Int32), xJ] [] A := (xC_eq h_39 (by show (xcls A r0 == some 4) = true; rw [h]; rfl) (Nat.le_of_ble_eq_true rfl)).trans (e39_0 E d r0 r1 i2 A)
-- Integer.bitCount (I)I
set_option maxRecDepth 100000 in
theorem h_294 : xprog[294]? = some M_294 := rfl
set_option maxRecDepth 100000 in
theorem e294_0 (E : Nat × (Nat → Int32)) (d : Nat) (i0 : Int32) (A : xH) : xD E (d + 1) 294 0 [.int i0] [] A = some (some (.int ((((((((i0 - ((xushr i0 (1 : Int32)) &&& (1431655765 : Int32))) &&& (858993459 : Int32)) + ((xushr (i0 - ((xushr i0 (1 : Int32)) &&& (1431655765 : Int32))) (2 : Int32)) &&& (858993459 : Int32))) + (xushr (((i0 - ((xushr i0 (1 : Int32)) &&& (1431655765 : Int32))) &&& (858993459 : Int32)) + ((xushr (i0 - ((xushr i0 (1 : Int32)) &&& (1431655765 : Int32))) (2 : Int32)) &&& (858993459 : Int32))) (4 : Int32))) &&& (252645135 : Int32)) + (xushr (((((i0 - ((xushr i0 (1 : Int32)) &&& (1431655765 : Int32))) &&& (858993459 : Int32)) + ((xushr (i0 - ((xushr i0 (1 : Int32)) &&& (1431655765 : Int32))) (2 : Int32)) &&& (858993459 : Int32))) + (xushr (((i0 - ((xushr i0 (1 : Int32)) &&& (1431655765 : Int32))) &&& (858993459 : Int32)) + ((xushr (i0 - ((xushr i0 (1 : Int32)) &&& (1431655765 : Int32))) (2 : Int32)) &&& (858993459 : Int32))) (4 : Int32))) &&& (252645135 : Int32)) (8 : Int32))) + (xushr ((((((i0 - ((xushr i0 (1 : Int32)) &&& (1431655765 : Int32))) &&& (858993459 : Int32)) + ((xushr (i0 - ((xushr i0 (1 : Int32)) &&& (1431655765 : Int32))) (2 : Int32)) &&& (858993459 : Int32))) + (xushr (((i0 - ((xushr i0 (1 : Int32)) &&& (1431655765 : Int32))) &&& (858993459 : Int32)) + ((xushr (i0 - ((xushr i0 (1 : Int32)) &&& (1431655765 : Int32))) (2 : Int32)) &&& (858993459 : Int32))) (4 : Int32))) &&& (252645135 : Int32)) + (xushr (((((i0 - ((xushr i0 (1 : Int32)) &&& (1431655765 : Int32))) &&& (858993459 : Int32)) + ((xushr (i0 - ((xushr i0 (1 : Int32)) &&& (1431655765 : Int32))) (2 : Int32)) &&& (858993459 : Int32))) + (xushr (((i0 - ((xushr i0 (1 : Int32)) &&& (1431655765 : Int32))) &&& (858993459 : Int32)) + ((xushr (i0 - ((xushr i0 (1 : Int32)) &&& (1431655765 : Int32))) (2 : Int32)) &&& (858993459 : Int32))) (4 : Int32))) &&& (252645135 : Int32)) (8 : Int32))) (16 : Int32))) &&& (63 : Int32))), A) := (xD_bex E d h_294 [] 90 0 _ _ _).trans rfl
set_option maxRecDepth 100000 in
theorem k294 (E : Nat × (Nat → Int32)) (d : Nat) (i0 : Int32) (A : xH) : xC E (d + 1) 294 [.int i0] A = some (some (.int ((((((((i0 - ((xushr i0 (1 : Int32)) &&& (1431655765 : Int32))) &&& (858993459 : Int32)) + ((xushr (i0 - ((xushr i0 (1 : Int32)) &&& (1431655765 : Int32))) (2 : Int32)) &&& (858993459 : Int32))) + (xushr (((i0 - ((xushr i0 (1 : Int32)) &&& (1431655765 : Int32))) &&& (858993459 : Int32)) + ((xushr (i0 - ((xushr i0 (1 : Int32)) &&& (1431655765 : Int32))) (2 : Int32)) &&& (858993459 : Int32))) (4 : Int32))) &&& (252645135 : Int32)) + (xushr (((((i0 - ((xushr i0 (1 : Int32)) &&& (1431655765 : Int32))) &&& (858993459 : Int32)) + ((xushr (i0 - ((xushr i0 (1 : Int32)) &&& (1431655765 : Int32))) (2 : Int32)) &&& (858993459 : Int32))) + (xushr (((i0 - ((xushr i0 (1 : Int32)) &&& (1431655765 : Int32))) &&& (858993459 : Int32)) + ((xushr (i0 - ((xushr i0 (1 : Int32)) &&& (1431655765 : Int32))) (2 : Int32)) &&& (858993459 : Int32))) (4 : Int32))) &&& (252645135 : Int32)) (8 : Int32))) + (xushr ((((((i0 - ((xushr i0 (1 : Int32)) &&& (1431655765 : Int32))) &&& (858993459 : Int32)) + ((xushr (i0 - ((xushr i0 (1 : Int32)) &&& (1431655765 : Int32))) (2 : Int32)) &&& (858993459 : Int32))) + (xushr (((i0 - ((xushr i0 (1 : Int32)) &&& (1431655765 : Int32))) &&& (858993459 : Int32)) + ((xushr (i0 - ((xushr i0 (1 : Int32)) &&& (1431655765 : Int32))) (2 : Int32)) &&& (858993459 : Int32))) (4 : Int32))) &&& (252645135 : Int32)) + (xushr (((((i0 - ((xushr i0 (1 : Int32)) &&& (1431655765 : Int32))) &&& (858993459 : Int32)) + ((xushr (i0 - ((xushr i0 (1 : Int32)) &&& (1431655765 : Int32))) (2 : Int32)) &&& (858993459 : Int32))) + (xushr (((i0 - ((xushr i0 (1 : Int32)) &&& (1431655765 : Int32))) &&& (858993459 : Int32)) + ((xushr (i0 - ((xushr i0 (1 : Int32)) &&& (1431655765 : Int32))) (2 : Int32)) &&& (858993459 : Int32))) (4 : Int32))) &&& (252645135 : Int32)) (8 : Int32))) (16 : Int32))) &&& (63 : Int32))), A) := (xC_eq h_294 rfl (Nat.le_of_ble_eq_true rfl)).trans (e294_0 E d i0 A)
-- Pages.setCell (III)V
set_option maxRecDepth 100000 in
theorem h_295 : xprog[295]? = some M_295 := rfl
set_option maxRecDepth 100000 in
theorem e295_0 (E : Nat × (Nat → Int32)) (d : Nat) (r0 : Nat) (i1 : Int32) (i2 : Int32) (i3 : Int32) (A : xH) : xD E (d + 1) 295 0 [.ref r0, .int i1, .int i2, .int i3, xJ] [] A = if ((i1 * (10 : Int32)) + i2) < 0 then some (none, A) else (gN A r0 2 0).bind fun n1 => (lA A n1).bind fun x2 => if x2 ≤ ((i1 * (10 : Int32)) + i2) then some (none, A) else (gN A r0 2 0).bind fun n3 => (sI 0 A n3 ((i1 * (10 : Int32)) + i2) i3).bind fun A4 => some (none, A4) := (xD_bex E d h_295 [] 90 0 _ _ _).trans rfl
set_option maxRecDepth 100000 in
theorem k295 (E : Nat × (Nat → Int32)) (d : Nat) (r0 : Nat) (i1 : Int32) (i2 : Int32) (i3 : Int32) (A : xH) (h : xcls A r0 = some 2) : xC E (d + 1) 295 [.ref r0, .int i1, .int i2, .int i3] A = if ((i1 * (10 : Int32)) + i2) < 0 then some (none, A) else (gN A r0 2 0).bind fun n1 => (lA A n1).bind fun x2 => if x2 ≤ ((i1 * (10 : Int32)) + i2) then some (none, A) else (gN A r0 2 0).bind fun n3 => (sI 0 A n3 ((i1 * (10 : Int32)) + i2) i3).bind fun A4 => some (none, A4) := (xC_eq h_295 (by show (xcls A r0 == some 2) = true; rw [h]; rfl) (Nat.le_of_ble_eq_true rfl)).trans (e295_0 E d r0 i1 i2 i3 A)
-- Arrays.fill0 ([JJ)V
set_option maxRecDepth 100000 in
theorem h_296 : xprog[296]? = some M_296 := rfl
set_option maxRecDepth 100000 in
theorem e296_0 (E : Nat × (Nat → Int32)) (d : Nat) (r0 : Nat) (j1 : Int64) (A : xH) : xD E (d + 1) 296 0 [.ref r0, .long j1, xJ, xJ, xJ] [] A = (lA A r0).bind fun x1 => xD E (d + 1) 296 6 [.ref r0, .long j1, xJ, .int (0 : Int32), .int x1] [] A := (xD_bex E d h_296 [6] 90 0 _ _ _).trans rfl
set_option maxRecDepth 100000 in
theorem e296_6 (E : Nat × (Nat → Int32)) (d : Nat) (r0 : Nat) (j1 : Int64) (i3 : Int32) (i4 : Int32) (A : xH) : xD E (d + 1) 296 6 [.ref r0, .long j1, xJ, .int i3, .int i4] [] A = if i4 ≤ i3 then some (none, A) else (sL A r0 i3 j1).bind fun A1 => xD E (d + 1) 296 6 [.ref r0, .long j1, xJ, .int (i3 + (1 : Int32)), .int i4] [] A1 := (xD_bex E d h_296 [6] 90 6 _ _ _).trans rfl
set_option maxRecDepth 100000 in
theorem k296 (E : Nat × (Nat → Int32)) (d : Nat) (r0 : Nat) (j1 : Int64) (A : xH) : xC E (d + 1) 296 [.ref r0, .long j1] A = (lA A r0).bind fun x1 => xD E (d + 1) 296 6 [.ref r0, .long j1, xJ, .int (0 : Int32), .int x1] [] A := (xC_eq h_296 rfl (Nat.le_of_ble_eq_true rfl)).trans (e296_0 E d r0 j1 A)
-- Arrays.fill1 ([II)V
set_option maxRecDepth 100000 in
theorem h_297 : xprog[297]? = some M_297 := rfl
set_option maxRecDepth 100000 in
theorem e297_0 (E : Nat × (Nat → Int32)) (d : Nat) (r0 : Nat) (i1 : Int32) (A : xH) : xD E (d + 1) 297 0 [.ref r0, .int i1, xJ, xJ] [] A = (lA A r0).bind fun x1 => xD E (d + 1) 297 5 [.ref r0, .int i1, .int (0 : Int32), .int x1] [] A := (xD_bex E d h_297 [5] 90 0 _ _ _).trans rfl
set_option maxRecDepth 100000 in
theorem e297_5 (E : Nat × (Nat → Int32)) (d : Nat) (r0 : Nat) (i1 : Int32) (i2 : Int32) (i3 : Int32) (A : xH) : xD E (d + 1) 297 5 [.ref r0, .int i1, .int i2, .int i3] [] A = if i3 ≤ i2 then some (none, A) else (sI 0 A r0 i2 i1).bind fun A1 => xD E (d + 1) 297 5 [.ref r0, .int i1, .int (i2 + (1 : Int32)), .int i3] [] A1 := (xD_bex E d h_297 [5] 90 5 _ _ _).trans rfl
set_option maxRecDepth 100000 in
theorem k297 (E : Nat × (Nat → Int32)) (d : Nat) (r0 : Nat) (i1 : Int32) (A : xH) : xC E (d + 1) 297 [.ref r0, .int i1] A = (lA A r0).bind fun x1 => xD E (d + 1) 297 5 [.ref r0, .int i1, .int (0 : Int32), .int x1] [] A := (xC_eq h_297 rfl (Nat.le_of_ble_eq_true rfl)).trans (e297_0 E d r0 i1 A)
-- Pages.setKey (IIII)V
set_option maxRecDepth 100000 in
theorem h_298 : xprog[298]? = some M_298 := rfl
set_option maxRecDepth 100000 in
theorem e298_0 (E : Nat × (Nat → Int32)) (d : Nat) (r0 : Nat) (i1 : Int32) (i2 : Int32) (i3 : Int32) (i4 : Int32) (A : xH) : xD E (d + 1) 298 0 [.ref r0, .int i1, .int i2, .int i3, .int i4] [] A = (xV (xC E d 295 [.ref r0, .int i1, .int ((4 : Int32) + i2), .int i3] A)).bind fun A1 => (xV (xC E d 295 [.ref r0, .int i1, .int ((7 : Int32) + i2), .int i4] A1)).bind fun A2 => some (none, A2) := (xD_bex E d h_298 [] 90 0 _ _ _).trans rfl
set_option maxRecDepth 100000 in
theorem k298 (E : Nat × (Nat → Int32)) (d : Nat) (r0 : Nat) (i1 : Int32) (i2 : Int32) (i3 : Int32) (i4 : Int32) (A : xH) (h : xcls A r0 = some 2) : xC E (d + 1) 298 [.ref r0, .int i1, .int i2, .int i3, .int i4] A = (xV (xC E d 295 [.ref r0, .int i1, .int ((4 : Int32) + i2), .int i3] A)).bind fun A1 => (xV (xC E d 295 [.ref r0, .int i1, .int ((7 : Int32) + i2), .int i4] A1)).bind fun A2 => some (none, A2) := (xC_eq h_298 (by show (xcls A r0 == some 2) = true; rw [h]; rfl) (Nat.le_of_ble_eq_true rfl)).trans (e298_0 E d r0 i1 i2 i3 i4 A)
-- Arrays.copyOf ([II)[I
set_option maxRecDepth 100000 in
theorem h_299 : xprog[299]? = some M_299 := rfl
set_option maxRecDepth 100000 in
theorem e299_0 (E : Nat × (Nat → Int32)) (d : Nat) (r0 : Nat) (i1 : Int32) (A : xH) : xD E (d + 1) 299 0 [.ref r0, .int i1, xJ] [] A = (lA A r0).bind fun x1 => if i1 = x1 then (xclone A r0).bind fun A2 => (xtag A2 A.length).bind fun q3 => if q3 = 0 then some (some (.ref A.length), A2) else none else if i1 < 0 ∨ 100000 < (i1).toNatClampNeg then none else (lA (A ++ [.inl (0, (i1).toNatClampNeg, .inl fun _ => 0)]) r0).bind fun x4 => (xcopy (A ++ [.inl (0, (i1).toNatClampNeg, .inl fun _ => 0)]) r0 (0 : Int32) A.length (0 : Int32) (xmin x4 i1)).bind fun A5 => some (some (.ref A.length), A5) := (xD_bex E d h_299 [] 90 0 _ _ _).trans rfl
set_option maxRecDepth 100000 in
theorem k299 (E : Nat × (Nat → Int32)) (d : Nat) (r0 : Nat) (i1 : Int32) (A : xH) : xC E (d + 1) 299 [.ref r0, .int i1] A = (lA A r0).bind fun x1 => if i1 = x1 then (xclone A r0).bind fun A2 => (xtag A2 A.length).bind fun q3 => if q3 = 0 then some (some (.ref A.length), A2) else none else if i1 < 0 ∨ 100000 < (i1).toNatClampNeg then none else (lA (A ++ [.inl (0, (i1).toNatClampNeg, .inl fun _ => 0)]) r0).bind fun x4 => (xcopy (A ++ [.inl (0, (i1).toNatClampNeg, .inl fun _ => 0)]) r0 (0 : Int32) A.length (0 : Int32) (xmin x4 i1)).bind fun A5 => some (some (.ref A.length), A5) := (xC_eq h_299 rfl (Nat.le_of_ble_eq_true rfl)).trans (e299_0 E d r0 i1 A)
