/-! ===== what each block does, an equation a block (printed by wip/whole/gen.py) ===== -/
-- TB.init ()V
set_option maxRecDepth 100000 in
theorem h_98 : xprog[98]? = some M_98 := rfl
set_option maxRecDepth 100000 in
theorem e98_0 (E : Nat × (Nat → Int32)) (d : Nat) (r0 : Nat) (A : xH) : xD E (d + 1) 98 0 [.ref r0] [] A = xD E (d + 1) 98 8 [.ref r0] [.ref A.length, .ref r0] (A ++ [.inr (5, [.null, .null, .null, .null, .int 0, .int 0, .int 0, .int 0])]) := (xD_bex E d h_98 [8, 19, 30, 41, 52, 63, 74, 86, 93, 105, 113, 121, 129, 137] 90 0 _ _ _).trans rfl
set_option maxRecDepth 100000 in
theorem e98_8 (E : Nat × (Nat → Int32)) (d : Nat) (r0 : Nat) (s0 : Nat) (s1 : Nat) (A : xH) : xD E (d + 1) 98 8 [.ref r0] [.ref s1, .ref s0] A = (xV (xC E d 40 [.ref s1] A)).bind fun A1 => (pF A1 s0 8 0 (.ref s1)).bind fun A2 => xD E (d + 1) 98 19 [.ref r0] [.ref A2.length, .ref r0] (A2 ++ [.inr (5, [.null, .null, .null, .null, .int 0, .int 0, .int 0, .int 0])]) := (xD_bex E d h_98 [8, 19, 30, 41, 52, 63, 74, 86, 93, 105, 113, 121, 129, 137] 90 8 _ _ _).trans rfl
set_option maxRecDepth 100000 in
theorem e98_19 (E : Nat × (Nat → Int32)) (d : Nat) (r0 : Nat) (s0 : Nat) (s1 : Nat) (A : xH) : xD E (d + 1) 98 19 [.ref r0] [.ref s1, .ref s0] A = (xV (xC E d 40 [.ref s1] A)).bind fun A1 => (pF A1 s0 8 1 (.ref s1)).bind fun A2 => xD E (d + 1) 98 30 [.ref r0] [.ref A2.length, .ref r0] (A2 ++ [.inr (5, [.null, .null, .null, .null, .int 0, .int 0, .int 0, .int 0])]) := (xD_bex E d h_98 [8, 19, 30, 41, 52, 63, 74, 86, 93, 105, 113, 121, 129, 137] 90 19 _ _ _).trans rfl
set_option maxRecDepth 100000 in
theorem e98_30 (E : Nat × (Nat → Int32)) (d : Nat) (r0 : Nat) (s0 : Nat) (s1 : Nat) (A : xH) : xD E (d + 1) 98 30 [.ref r0] [.ref s1, .ref s0] A = (xV (xC E d 40 [.ref s1] A)).bind fun A1 => (pF A1 s0 8 2 (.ref s1)).bind fun A2 => xD E (d + 1) 98 41 [.ref r0] [.ref A2.length, .ref r0] (A2 ++ [.inr (3, [.null, .null, .null, .int 0, .int 0, .int 0, .int 0, .int 0])]) := (xD_bex E d h_98 [8, 19, 30, 41, 52, 63, 74, 86, 93, 105, 113, 121, 129, 137] 90 30 _ _ _).trans rfl
set_option maxRecDepth 100000 in
theorem e98_41 (E : Nat × (Nat → Int32)) (d : Nat) (r0 : Nat) (s0 : Nat) (s1 : Nat) (A : xH) : xD E (d + 1) 98 41 [.ref r0] [.ref s1, .ref s0] A = (xV (xC E d 26 [.ref s1] A)).bind fun A1 => (pF A1 s0 8 3 (.ref s1)).bind fun A2 => xD E (d + 1) 98 52 [.ref r0] [.ref A2.length, .ref r0] (A2 ++ [.inr (4, [.null, .null, .int 0])]) := (xD_bex E d h_98 [8, 19, 30, 41, 52, 63, 74, 86, 93, 105, 113, 121, 129, 137] 90 41 _ _ _).trans rfl
set_option maxRecDepth 100000 in
theorem e98_52 (E : Nat × (Nat → Int32)) (d : Nat) (r0 : Nat) (s0 : Nat) (s1 : Nat) (A : xH) : xD E (d + 1) 98 52 [.ref r0] [.ref s1, .ref s0] A = (xV (xC E d 35 [.ref s1] A)).bind fun A1 => (pF A1 s0 8 4 (.ref s1)).bind fun A2 => xD E (d + 1) 98 63 [.ref r0] [.ref A2.length, .ref r0] (A2 ++ [.inr (0, [.null, .null, .null, .int 0])]) := (xD_bex E d h_98 [8, 19, 30, 41, 52, 63, 74, 86, 93, 105, 113, 121, 129, 137] 90 52 _ _ _).trans rfl
set_option maxRecDepth 100000 in
theorem e98_63 (E : Nat × (Nat → Int32)) (d : Nat) (r0 : Nat) (s0 : Nat) (s1 : Nat) (A : xH) : xD E (d + 1) 98 63 [.ref r0] [.ref s1, .ref s0] A = (xV (xC E d 0 [.ref s1] A)).bind fun A1 => (pF A1 s0 8 5 (.ref s1)).bind fun A2 => xD E (d + 1) 98 74 [.ref r0] [.ref A2.length, .ref r0] (A2 ++ [.inr (0, [.null, .null, .null, .int 0])]) := (xD_bex E d h_98 [8, 19, 30, 41, 52, 63, 74, 86, 93, 105, 113, 121, 129, 137] 90 63 _ _ _).trans rfl
set_option maxRecDepth 100000 in
theorem e98_74 (E : Nat × (Nat → Int32)) (d : Nat) (r0 : Nat) (s0 : Nat) (s1 : Nat) (A : xH) : xD E (d + 1) 98 74 [.ref r0] [.ref s1, .ref s0] A = (xV (xC E d 0 [.ref s1] A)).bind fun A1 => (pF A1 s0 8 6 (.ref s1)).bind fun A2 => xD E (d + 1) 98 86 [.ref r0] [.ref A2.length, .ref r0] (A2 ++ [.inl (6, 2, .inr (.inr fun _ => none))]) := (xD_bex E d h_98 [8, 19, 30, 41, 52, 63, 74, 86, 93, 105, 113, 121, 129, 137] 90 74 _ _ _).trans rfl
set_option maxRecDepth 100000 in
theorem e98_86 (E : Nat × (Nat → Int32)) (d : Nat) (r0 : Nat) (s0 : Nat) (s1 : Nat) (A : xH) : xD E (d + 1) 98 86 [.ref r0] [.ref s1, .ref s0] A = (pF A s0 8 7 (.ref s1)).bind fun A1 => xD E (d + 1) 98 93 [.ref r0] [.ref A1.length, .ref r0] (A1 ++ [.inr (6, [.null, .null, .int 0, .int 0, .int 0, .int 0, .int 0, .int 0, .int 0, .int 0])]) := (xD_bex E d h_98 [8, 19, 30, 41, 52, 63, 74, 86, 93, 105, 113, 121, 129, 137] 90 86 _ _ _).trans rfl
set_option maxRecDepth 100000 in
theorem e98_93 (E : Nat × (Nat → Int32)) (d : Nat) (r0 : Nat) (s0 : Nat) (s1 : Nat) (A : xH) : xD E (d + 1) 98 93 [.ref r0] [.ref s1, .ref s0] A = (xV (xC E d 68 [.ref s1] A)).bind fun A1 => (pF A1 s0 8 8 (.ref s1)).bind fun A2 => xD E (d + 1) 98 105 [.ref r0] [.ref A2.length, .ref r0] (A2 ++ [.inl (0, 56, .inl fun _ => 0)]) := (xD_bex E d h_98 [8, 19, 30, 41, 52, 63, 74, 86, 93, 105, 113, 121, 129, 137] 90 93 _ _ _).trans rfl
set_option maxRecDepth 100000 in
theorem e98_105 (E : Nat × (Nat → Int32)) (d : Nat) (r0 : Nat) (s0 : Nat) (s1 : Nat) (A : xH) : xD E (d + 1) 98 105 [.ref r0] [.ref s1, .ref s0] A = (pF A s0 8 9 (.ref s1)).bind fun A1 => xD E (d + 1) 98 113 [.ref r0] [.ref A1.length, .ref r0] (A1 ++ [.inl (0, 7, .inl fun _ => 0)]) := (xD_bex E d h_98 [8, 19, 30, 41, 52, 63, 74, 86, 93, 105, 113, 121, 129, 137] 90 105 _ _ _).trans rfl
set_option maxRecDepth 100000 in
theorem e98_113 (E : Nat × (Nat → Int32)) (d : Nat) (r0 : Nat) (s0 : Nat) (s1 : Nat) (A : xH) : xD E (d + 1) 98 113 [.ref r0] [.ref s1, .ref s0] A = (pF A s0 8 10 (.ref s1)).bind fun A1 => xD E (d + 1) 98 121 [.ref r0] [.ref A1.length, .ref r0] (A1 ++ [.inl (0, 40, .inl fun _ => 0)]) := (xD_bex E d h_98 [8, 19, 30, 41, 52, 63, 74, 86, 93, 105, 113, 121, 129, 137] 90 113 _ _ _).trans rfl
set_option maxRecDepth 100000 in
theorem e98_121 (E : Nat × (Nat → Int32)) (d : Nat) (r0 : Nat) (s0 : Nat) (s1 : Nat) (A : xH) : xD E (d + 1) 98 121 [.ref r0] [.ref s1, .ref s0] A = (pF A s0 8 11 (.ref s1)).bind fun A1 => xD E (d + 1) 98 129 [.ref r0] [.ref A1.length, .ref r0] (A1 ++ [.inl (0, 64, .inl fun _ => 0)]) := (xD_bex E d h_98 [8, 19, 30, 41, 52, 63, 74, 86, 93, 105, 113, 121, 129, 137] 90 121 _ _ _).trans rfl
set_option maxRecDepth 100000 in
theorem e98_129 (E : Nat × (Nat → Int32)) (d : Nat) (r0 : Nat) (s0 : Nat) (s1 : Nat) (A : xH) : xD E (d + 1) 98 129 [.ref r0] [.ref s1, .ref s0] A = (pF A s0 8 12 (.ref s1)).bind fun A1 => xD E (d + 1) 98 137 [.ref r0] [.ref A1.length, .ref r0] (A1 ++ [.inl (3, 20, .inr (.inl fun _ => 0))]) := (xD_bex E d h_98 [8, 19, 30, 41, 52, 63, 74, 86, 93, 105, 113, 121, 129, 137] 90 129 _ _ _).trans rfl
set_option maxRecDepth 100000 in
theorem e98_137 (E : Nat × (Nat → Int32)) (d : Nat) (r0 : Nat) (s0 : Nat) (s1 : Nat) (A : xH) : xD E (d + 1) 98 137 [.ref r0] [.ref s1, .ref s0] A = (pF A s0 8 13 (.ref s1)).bind fun A1 => (pF A1 r0 8 14 (.int (0 : Int32))).bind fun A2 => (pF A2 r0 8 15 (.int (-1 : Int32))).bind fun A3 => (pF A3 r0 8 16 (.int (-1 : Int32))).bind fun A4 => (pF A4 r0 8 17 (.int (0 : Int32))).bind fun A5 => (gN A5 r0 8 0).bind fun n6 => (xV (xC E d 41 [.ref n6] A5)).bind fun A7 => (gN A7 r0 8 11).bind fun n8 => (xV (xC E d 297 [.ref n8, .int (-1 : Int32)] A7)).bind fun A9 => some (none, A9) := (xD_bex E d h_98 [8, 19, 30, 41, 52, 63, 74, 86, 93, 105, 113, 121, 129, 137] 90 137 _ _ _).trans rfl
-- TB.of (II)I
set_option maxRecDepth 100000 in
theorem h_99 : xprog[99]? = some M_99 := rfl
set_option maxRecDepth 100000 in
theorem e99_0 (E : Nat × (Nat → Int32)) (d : Nat) (r0 : Nat) (i1 : Int32) (i2 : Int32) (A : xH) : xD E (d + 1) 99 0 [.ref r0, .int i1, .int i2] [] A = (gN A r0 8 0).bind fun n1 => (gN A n1 5 0).bind fun n2 => (xI (xC E d 10 [.ref n2, .int i1, .int i2] A)).bind fun q3 => some (some (.int q3.1), q3.2) := (xD_bex E d h_99 [] 90 0 _ _ _).trans rfl
-- TB.page (II)I
set_option maxRecDepth 100000 in
theorem h_100 : xprog[100]? = some M_100 := rfl
set_option maxRecDepth 100000 in
theorem e100_0 (E : Nat × (Nat → Int32)) (d : Nat) (r0 : Nat) (i1 : Int32) (i2 : Int32) (A : xH) : xD E (d + 1) 100 0 [.ref r0, .int i1, .int i2] [] A = (gN A r0 8 0).bind fun n1 => (gN A n1 5 1).bind fun n2 => (xI (xC E d 10 [.ref n2, .int i1, .int i2] A)).bind fun q3 => some (some (.int q3.1), q3.2) := (xD_bex E d h_100 [] 90 0 _ _ _).trans rfl
-- TB.write (II)I
set_option maxRecDepth 100000 in
theorem h_101 : xprog[101]? = some M_101 := rfl
set_option maxRecDepth 100000 in
theorem e101_0 (E : Nat × (Nat → Int32)) (d : Nat) (r0 : Nat) (i1 : Int32) (i2 : Int32) (A : xH) : xD E (d + 1) 101 0 [.ref r0, .int i1, .int i2] [] A = (gN A r0 8 0).bind fun n1 => (xI (xC E d 58 [.ref n1, .int i1, .int i2] A)).bind fun q2 => some (some (.int q2.1), q2.2) := (xD_bex E d h_101 [] 90 0 _ _ _).trans rfl
-- TB.slot (I)I
set_option maxRecDepth 100000 in
theorem h_102 : xprog[102]? = some M_102 := rfl
set_option maxRecDepth 100000 in
theorem e102_0 (E : Nat × (Nat → Int32)) (d : Nat) (r0 : Nat) (i1 : Int32) (A : xH) : xD E (d + 1) 102 0 [.ref r0, .int i1] [] A = if i1 < 0 then some (some (.int (-1 : Int32)), A) else (gN A r0 8 0).bind fun n1 => (xI (xC E d 43 [.ref n1] A)).bind fun q2 => if q2.1 ≤ i1 then some (some (.int (-1 : Int32)), q2.2) else (gN q2.2 r0 8 0).bind fun n3 => (gN q2.2 n3 5 2).bind fun n4 => (aI 0 q2.2 n4 i1).bind fun x5 => some (some (.int x5), q2.2) := (xD_bex E d h_102 [] 90 0 _ _ _).trans rfl
-- TB.key (II)I
set_option maxRecDepth 100000 in
theorem h_103 : xprog[103]? = some M_103 := rfl
set_option maxRecDepth 100000 in
theorem e103_0 (E : Nat × (Nat → Int32)) (d : Nat) (r0 : Nat) (i1 : Int32) (i2 : Int32) (A : xH) : xD E (d + 1) 103 0 [.ref r0, .int i1, .int i2] [] A = (xI (xC E d 139 [.int i1] A)).bind fun q1 => if q1.1 = 0 then some (some (.int (-1 : Int32)), q1.2) else if i2 = (0 : Int32) then (gN q1.2 r0 8 3).bind fun n2 => (xI (xC E d 29 [.ref n2, .int i1] q1.2)).bind fun q3 => some (some (.int q3.1), q3.2) else if i2 = (1 : Int32) then (gN q1.2 r0 8 0).bind fun n4 => (gN q1.2 r0 8 3).bind fun n5 => (xI (xC E d 46 [.ref n4, .int i1, .ref n5] q1.2)).bind fun q6 => some (some (.int q6.1), q6.2) else if i2 = (2 : Int32) then (gN q1.2 r0 8 0).bind fun n7 => (gN q1.2 r0 8 3).bind fun n8 => (xI (xC E d 45 [.ref n7, .int i1, .ref n8] q1.2)).bind fun q9 => some (some (.int q9.1), q9.2) else if i2 = (3 : Int32) then (gN q1.2 r0 8 0).bind fun n10 => (gN q1.2 r0 8 3).bind fun n11 => (xI (xC E d 47 [.ref n10, .int i1, .ref n11] q1.2)).bind fun q12 => if q12.1 = 0 then some (some (.int (0 : Int32)), q12.2) else some (some (.int (1 : Int32)), q12.2) else some (some (.int (-1 : Int32)), q1.2) := (xD_bex E d h_103 [] 90 0 _ _ _).trans rfl
-- TB.terms (II)I
set_option maxRecDepth 100000 in
theorem h_104 : xprog[104]? = some M_104 := rfl
set_option maxRecDepth 100000 in
theorem e104_0 (E : Nat × (Nat → Int32)) (d : Nat) (r0 : Nat) (i1 : Int32) (i2 : Int32) (A : xH) : xD E (d + 1) 104 0 [.ref r0, .int i1, .int i2, xJ] [] A = if i2 < 0 then (xI (xC E d 141 [.ref r0, .int (-1 : Int32)] A)).bind fun q1 => some (some (.int q1.1), q1.2) else (xI (xC E d 144 [.int i1] A)).bind fun q2 => if i2 ≤ q2.1 then if i1 = (3 : Int32) then (gN q2.2 r0 8 0).bind fun n3 => (xI (xC E d 44 [.ref n3] q2.2)).bind fun q4 => if q4.1 ≤ 0 then xD E (d + 1) 104 40 [.ref r0, .int i1, .int i2, xJ] [] q4.2 else (xI (xC E d 141 [.ref r0, .int (-3 : Int32)] q4.2)).bind fun q5 => some (some (.int q5.1), q5.2) else xD E (d + 1) 104 40 [.ref r0, .int i1, .int i2, xJ] [] q2.2 else (xI (xC E d 141 [.ref r0, .int (-1 : Int32)] q2.2)).bind fun q6 => some (some (.int q6.1), q6.2) := (xD_bex E d h_104 [40] 90 0 _ _ _).trans rfl
set_option maxRecDepth 100000 in
theorem e104_40 (E : Nat × (Nat → Int32)) (d : Nat) (r0 : Nat) (i1 : Int32) (i2 : Int32) (w3 : Value) (A : xH) : xD E (d + 1) 104 40 [.ref r0, .int i1, .int i2, w3] [] A = (xI (xC E d 145 [.ref r0, .int i1] A)).bind fun q1 => (xV (xC E d 146 [.ref r0, .int i1, .int i2] q1.2)).bind fun A2 => (gN A2 r0 8 5).bind fun n3 => (xV (xC E d 1 [.ref n3] A2)).bind fun A4 => (xI (xC E d 142 [.ref r0, .int q1.1] A4)).bind fun q5 => some (some (.int q5.1), q5.2) := (xD_bex E d h_104 [40] 90 40 _ _ _).trans rfl
-- TB.feed (IIIII)I
set_option maxRecDepth 100000 in
theorem h_105 : xprog[105]? = some M_105 := rfl
set_option maxRecDepth 100000 in
theorem e105_0 (E : Nat × (Nat → Int32)) (d : Nat) (r0 : Nat) (i1 : Int32) (i2 : Int32) (i3 : Int32) (i4 : Int32) (i5 : Int32) (A : xH) : xD E (d + 1) 105 0 [.ref r0, .int i1, .int i2, .int i3, .int i4, .int i5] [] A = (gN A r0 8 8).bind fun n1 => (gI A n1 6 2).bind fun x2 => if (x2 + (20 : Int32)) ≤ (400 : Int32) then (gN A r0 8 8).bind fun n3 => (xV (xC E d 69 [.ref n3, .int i1] A)).bind fun A4 => (gN A4 r0 8 8).bind fun n5 => (xV (xC E d 69 [.ref n5, .int i2] A4)).bind fun A6 => (gN A6 r0 8 8).bind fun n7 => (xV (xC E d 69 [.ref n7, .int i3] A6)).bind fun A8 => (gN A8 r0 8 8).bind fun n9 => (xV (xC E d 69 [.ref n9, .int i4] A8)).bind fun A10 => (gN A10 r0 8 8).bind fun n11 => (xV (xC E d 69 [.ref n11, .int i5] A10)).bind fun A12 => (gN A12 r0 8 8).bind fun n13 => (gI A12 n13 6 2).bind fun x14 => some (some (.int x14), A12) else some (some (.int (-1 : Int32)), A) := (xD_bex E d h_105 [] 90 0 _ _ _).trans rfl
-- TB.end (I)I
set_option maxRecDepth 100000 in
theorem h_106 : xprog[106]? = some M_106 := rfl
set_option maxRecDepth 100000 in
theorem e106_0 (E : Nat × (Nat → Int32)) (d : Nat) (r0 : Nat) (i1 : Int32) (A : xH) : xD E (d + 1) 106 0 [.ref r0, .int i1] [] A = if i1 < 0 then some (some (.int (-1 : Int32)), A) else (gN A r0 8 8).bind fun n1 => (gI A n1 6 2).bind fun x2 => if i1 ≤ x2 then (gN A r0 8 8).bind fun n3 => (pF A n3 6 2 (.int i1)).bind fun A4 => some (some (.int i1), A4) else some (some (.int (-1 : Int32)), A) := (xD_bex E d h_106 [] 90 0 _ _ _).trans rfl
-- TB.row ()I
set_option maxRecDepth 100000 in
theorem h_107 : xprog[107]? = some M_107 := rfl
set_option maxRecDepth 100000 in
theorem e107_0 (E : Nat × (Nat → Int32)) (d : Nat) (r0 : Nat) (A : xH) : xD E (d + 1) 107 0 [.ref r0, xJ, xJ, xJ] [] A = (gN A r0 8 8).bind fun n1 => (xI (xC E d 70 [.ref n1] A)).bind fun q2 => if q2.1 = 0 then (xI (xC E d 141 [.ref r0, .int (-6 : Int32)] q2.2)).bind fun q3 => some (some (.int q3.1), q3.2) else xD E (d + 1) 107 23 [.ref r0, .int q2.1, .int (0 : Int32), .int (0 : Int32)] [] q2.2 := (xD_bex E d h_107 [23] 90 0 _ _ _).trans rfl
set_option maxRecDepth 100000 in
theorem e107_23 (E : Nat × (Nat → Int32)) (d : Nat) (r0 : Nat) (i1 : Int32) (i2 : Int32) (i3 : Int32) (A : xH) : xD E (d + 1) 107 23 [.ref r0, .int i1, .int i2, .int i3] [] A = if i1 ≤ (i3 + (1 : Int32)) then (pF A r0 8 14 (.int (((i1 + (1 : Int32)) / (2 : Int32)) - i2))).bind fun A1 => (gN A1 r0 8 5).bind fun n2 => (xV (xC E d 1 [.ref n2] A1)).bind fun A3 => (xI (xC E d 142 [.ref r0, .int i2] A3)).bind fun q4 => some (some (.int q4.1), q4.2) else (gN A r0 8 0).bind fun n5 => (gN A r0 8 8).bind fun n6 => (gN A n6 6 1).bind fun n7 => (aI 0 A n7 i3).bind fun x8 => (gN A r0 8 8).bind fun n9 => (gN A n9 6 1).bind fun n10 => (aI 0 A n10 (i3 + (1 : Int32))).bind fun x11 => (gN A r0 8 3).bind fun n12 => (xI (xC E d 48 [.ref n5, .int x8, .int x11, .ref n12] A)).bind fun q13 => if q13.1 < 0 then xD E (d + 1) 107 23 [.ref r0, .int i1, .int i2, .int (i3 + (2 : Int32))] [] q13.2 else xD E (d + 1) 107 23 [.ref r0, .int i1, .int (i2 + (1 : Int32)), .int (i3 + (2 : Int32))] [] q13.2 := (xD_bex E d h_107 [23] 90 23 _ _ _).trans rfl
-- TB.tears ()I
set_option maxRecDepth 100000 in
theorem h_108 : xprog[108]? = some M_108 := rfl
set_option maxRecDepth 100000 in
theorem e108_0 (E : Nat × (Nat → Int32)) (d : Nat) (r0 : Nat) (A : xH) : xD E (d + 1) 108 0 [.ref r0] [] A = (gI A r0 8 14).bind fun x1 => some (some (.int x1), A) := (xD_bex E d h_108 [] 90 0 _ _ _).trans rfl
-- TB.law ()I
set_option maxRecDepth 100000 in
theorem h_109 : xprog[109]? = some M_109 := rfl
set_option maxRecDepth 100000 in
theorem e109_0 (E : Nat × (Nat → Int32)) (d : Nat) (r0 : Nat) (A : xH) : xD E (d + 1) 109 0 [.ref r0] [] A = (gN A r0 8 8).bind fun n1 => (xI (xC E d 70 [.ref n1] A)).bind fun q2 => (gN q2.2 r0 8 3).bind fun n3 => (gI q2.2 n3 3 3).bind fun x4 => if x4 < (6 : Int32) then (gN q2.2 r0 8 8).bind fun n5 => (xI (xC E d 71 [.ref n5, .int (0 : Int32)] q2.2)).bind fun q6 => (pF q6.2 r0 8 15 (.int q6.1)).bind fun A7 => (gI A7 r0 8 15).bind fun x8 => if x8 = (-1 : Int32) then (gN A7 r0 8 3).bind fun n9 => (gN (A7 ++ [.inr (7, [.null, .null, .null, .null, .int 0, .int 0, .int 0])]) r0 8 8).bind fun n10 => (gN (A7 ++ [.inr (7, [.null, .null, .null, .null, .int 0, .int 0, .int 0])]) n10 6 0).bind fun n11 => (xV (xC E d 90 [.ref A7.length, .ref n11] (A7 ++ [.inr (7, [.null, .null, .null, .null, .int 0, .int 0, .int 0])]))).bind fun A12 => (xI (xC E d 30 [.ref n9, .ref A7.length] A12)).bind fun q13 => (xI (xC E d 142 [.ref r0, .int q13.1] q13.2)).bind fun q14 => some (some (.int q14.1), q14.2) else (xI (xC E d 141 [.ref r0, .int (-6 : Int32)] A7)).bind fun q15 => some (some (.int q15.1), q15.2) else (xI (xC E d 141 [.ref r0, .int (-5 : Int32)] q2.2)).bind fun q16 => some (some (.int q16.1), q16.2) := (xD_bex E d h_109 [] 90 0 _ _ _).trans rfl
-- TB.orders ()I
set_option maxRecDepth 100000 in
theorem h_110 : xprog[110]? = some M_110 := rfl
set_option maxRecDepth 100000 in
theorem e110_0 (E : Nat × (Nat → Int32)) (d : Nat) (r0 : Nat) (A : xH) : xD E (d + 1) 110 0 [.ref r0, xJ] [] A = (gN A r0 8 8).bind fun n1 => (xI (xC E d 70 [.ref n1] A)).bind fun q2 => (pF q2.2 r0 8 16 (.int (-1 : Int32))).bind fun A3 => (gN A3 r0 8 8).bind fun n4 => (xI (xC E d 71 [.ref n4, .int (1 : Int32)] A3)).bind fun q5 => (pF q5.2 r0 8 15 (.int q5.1)).bind fun A6 => (gI A6 r0 8 15).bind fun x7 => if x7 = (-1 : Int32) then (gN A6 r0 8 2).bind fun n8 => (gN A6 r0 8 0).bind fun n9 => (xV (xC E d 42 [.ref n8, .ref n9] A6)).bind fun A10 => (gN A10 r0 8 6).bind fun n11 => (xV (xC E d 1 [.ref n11] A10)).bind fun A12 => (gN A12 r0 8 9).bind fun n13 => (sI 0 A12 n13 (1 : Int32) (0 : Int32)).bind fun A14 => (gN A14 r0 8 9).bind fun n15 => (sI 0 A14 n15 (2 : Int32) (-1 : Int32)).bind fun A16 => xD E (d + 1) 110 74 [.ref r0, .int (0 : Int32)] [] A16 else (xI (xC E d 141 [.ref r0, .int (-6 : Int32)] A6)).bind fun q17 => some (some (.int q17.1), q17.2) := (xD_bex E d h_110 [74] 90 0 _ _ _).trans rfl
set_option maxRecDepth 100000 in
theorem e110_74 (E : Nat × (Nat → Int32)) (d : Nat) (r0 : Nat) (i1 : Int32) (A : xH) : xD E (d + 1) 110 74 [.ref r0, .int i1] [] A = (gN A r0 8 8).bind fun n1 => (gN A n1 6 0).bind fun n2 => (gI A n2 7 5).bind fun x3 => if x3 ≤ i1 then (gN A r0 8 5).bind fun n4 => (gN A r0 8 6).bind fun n5 => (xV (xC E d 5 [.ref n4, .ref n5] A)).bind fun A6 => (gN A6 r0 8 9).bind fun n7 => (aI 0 A6 n7 (1 : Int32)).bind fun x8 => (xI (xC E d 142 [.ref r0, .int x8] A6)).bind fun q9 => some (some (.int q9.1), q9.2) else (gN A r0 8 8).bind fun n10 => (gN A n10 6 0).bind fun n11 => (xI (xC E d 148 [.ref r0, .ref n11, .int i1] A)).bind fun q12 => if q12.1 = 0 then (pF q12.2 r0 8 16 (.int i1)).bind fun A13 => (gN A13 r0 8 0).bind fun n14 => (gN A13 r0 8 2).bind fun n15 => (xV (xC E d 42 [.ref n14, .ref n15] A13)).bind fun A16 => (xI (xC E d 141 [.ref r0, .int (-3 : Int32)] A16)).bind fun q17 => some (some (.int q17.1), q17.2) else xD E (d + 1) 110 74 [.ref r0, .int (i1 + (1 : Int32))] [] q12.2 := (xD_bex E d h_110 [74] 90 74 _ _ _).trans rfl
-- TB.fault ()I
set_option maxRecDepth 100000 in
theorem h_111 : xprog[111]? = some M_111 := rfl
set_option maxRecDepth 100000 in
theorem e111_0 (E : Nat × (Nat → Int32)) (d : Nat) (r0 : Nat) (A : xH) : xD E (d + 1) 111 0 [.ref r0] [] A = (gI A r0 8 15).bind fun x1 => some (some (.int x1), A) := (xD_bex E d h_111 [] 90 0 _ _ _).trans rfl
-- TB.stopped ()I
set_option maxRecDepth 100000 in
theorem h_112 : xprog[112]? = some M_112 := rfl
set_option maxRecDepth 100000 in
theorem e112_0 (E : Nat × (Nat → Int32)) (d : Nat) (r0 : Nat) (A : xH) : xD E (d + 1) 112 0 [.ref r0] [] A = (gI A r0 8 16).bind fun x1 => some (some (.int x1), A) := (xD_bex E d h_112 [] 90 0 _ _ _).trans rfl
-- TB.force (I)I
set_option maxRecDepth 100000 in
theorem h_113 : xprog[113]? = some M_113 := rfl
set_option maxRecDepth 100000 in
theorem e113_0 (E : Nat × (Nat → Int32)) (d : Nat) (r0 : Nat) (i1 : Int32) (A : xH) : xD E (d + 1) 113 0 [.ref r0, .int i1, xJ] [] A = if i1 < (-1 : Int32) then (xI (xC E d 141 [.ref r0, .int (-2 : Int32)] A)).bind fun q1 => some (some (.int q1.1), q1.2) else (gN A r0 8 3).bind fun n2 => (gI A n2 3 3).bind fun x3 => if i1 < x3 then (gN A r0 8 3).bind fun n4 => (gI A n4 3 4).bind fun x5 => (gN A r0 8 3).bind fun n6 => (pF A n6 3 4 (.int i1)).bind fun A7 => (xI (xC E d 142 [.ref r0, .int x5] A7)).bind fun q8 => some (some (.int q8.1), q8.2) else (xI (xC E d 141 [.ref r0, .int (-2 : Int32)] A)).bind fun q9 => some (some (.int q9.1), q9.2) := (xD_bex E d h_113 [] 90 0 _ _ _).trans rfl
-- TB.put (II)I
set_option maxRecDepth 100000 in
theorem h_114 : xprog[114]? = some M_114 := rfl
set_option maxRecDepth 100000 in
theorem e114_0 (E : Nat × (Nat → Int32)) (d : Nat) (r0 : Nat) (i1 : Int32) (i2 : Int32) (A : xH) : xD E (d + 1) 114 0 [.ref r0, .int i1, .int i2] [] A = (gN A r0 8 5).bind fun n1 => (xI (xC E d 147 [.ref r0, .int (0 : Int32), .int i1, .int i2, .ref n1] A)).bind fun q2 => (xI (xC E d 143 [.ref r0, .int q2.1] q2.2)).bind fun q3 => some (some (.int q3.1), q3.2) := (xD_bex E d h_114 [] 90 0 _ _ _).trans rfl
-- TB.drop (I)I
set_option maxRecDepth 100000 in
theorem h_115 : xprog[115]? = some M_115 := rfl
set_option maxRecDepth 100000 in
theorem e115_0 (E : Nat × (Nat → Int32)) (d : Nat) (r0 : Nat) (i1 : Int32) (A : xH) : xD E (d + 1) 115 0 [.ref r0, .int i1] [] A = (gN A r0 8 5).bind fun n1 => (xI (xC E d 147 [.ref r0, .int (1 : Int32), .int i1, .int (0 : Int32), .ref n1] A)).bind fun q2 => (xI (xC E d 143 [.ref r0, .int q2.1] q2.2)).bind fun q3 => some (some (.int q3.1), q3.2) := (xD_bex E d h_115 [] 90 0 _ _ _).trans rfl
-- TB.flush (I)I
set_option maxRecDepth 100000 in
theorem h_116 : xprog[116]? = some M_116 := rfl
set_option maxRecDepth 100000 in
theorem e116_0 (E : Nat × (Nat → Int32)) (d : Nat) (r0 : Nat) (i1 : Int32) (A : xH) : xD E (d + 1) 116 0 [.ref r0, .int i1] [] A = (gN A r0 8 5).bind fun n1 => (xI (xC E d 147 [.ref r0, .int (2 : Int32), .int i1, .int (0 : Int32), .ref n1] A)).bind fun q2 => (xI (xC E d 143 [.ref r0, .int q2.1] q2.2)).bind fun q3 => some (some (.int q3.1), q3.2) := (xD_bex E d h_116 [] 90 0 _ _ _).trans rfl
-- TB.crash (I)I
set_option maxRecDepth 100000 in
theorem h_117 : xprog[117]? = some M_117 := rfl
set_option maxRecDepth 100000 in
theorem e117_0 (E : Nat × (Nat → Int32)) (d : Nat) (r0 : Nat) (i1 : Int32) (A : xH) : xD E (d + 1) 117 0 [.ref r0, .int i1] [] A = (gN A r0 8 5).bind fun n1 => (xI (xC E d 147 [.ref r0, .int (3 : Int32), .int i1, .int (0 : Int32), .ref n1] A)).bind fun q2 => (xI (xC E d 143 [.ref r0, .int q2.1] q2.2)).bind fun q3 => some (some (.int q3.1), q3.2) := (xD_bex E d h_117 [] 90 0 _ _ _).trans rfl
-- TB.undo ()I
set_option maxRecDepth 100000 in
theorem h_118 : xprog[118]? = some M_118 := rfl
set_option maxRecDepth 100000 in
theorem e118_0 (E : Nat × (Nat → Int32)) (d : Nat) (r0 : Nat) (A : xH) : xD E (d + 1) 118 0 [.ref r0, xJ] [] A = (gN A r0 8 5).bind fun n1 => (gN A r0 8 0).bind fun n2 => (xI (xC E d 6 [.ref n1, .ref n2] A)).bind fun q3 => if q3.1 = (-1 : Int32) then (xI (xC E d 141 [.ref r0, .int (-3 : Int32)] q3.2)).bind fun q4 => some (some (.int q4.1), q4.2) else (xI (xC E d 142 [.ref r0, .int q3.1] q3.2)).bind fun q5 => some (some (.int q5.1), q5.2) := (xD_bex E d h_118 [] 90 0 _ _ _).trans rfl
-- TB.behind (II)I
set_option maxRecDepth 100000 in
theorem h_119 : xprog[119]? = some M_119 := rfl
set_option maxRecDepth 100000 in
theorem e119_0 (E : Nat × (Nat → Int32)) (d : Nat) (r0 : Nat) (i1 : Int32) (i2 : Int32) (A : xH) : xD E (d + 1) 119 0 [.ref r0, .int i1, .int i2] [] A = (xI (xC E d 139 [.int i2] A)).bind fun q1 => if q1.1 = 0 then some (some (.int (-1 : Int32)), q1.2) else (xI (xC E d 150 [.ref r0, .int i1] q1.2)).bind fun q2 => if q2.1 = 0 then some (some (.int (-1 : Int32)), q2.2) else (gN q2.2 r0 8 1).bind fun n3 => (gN q2.2 r0 8 3).bind fun n4 => (xI (xC E d 46 [.ref n3, .int i2, .ref n4] q2.2)).bind fun q5 => some (some (.int q5.1), q5.2) := (xD_bex E d h_119 [] 90 0 _ _ _).trans rfl
-- TB.lost (I)I
set_option maxRecDepth 100000 in
theorem h_120 : xprog[120]? = some M_120 := rfl
set_option maxRecDepth 100000 in
theorem e120_0 (E : Nat × (Nat → Int32)) (d : Nat) (r0 : Nat) (i1 : Int32) (A : xH) : xD E (d + 1) 120 0 [.ref r0, .int i1] [] A = (xI (xC E d 150 [.ref r0, .int i1] A)).bind fun q1 => if q1.1 = 0 then some (some (.int (-1 : Int32)), q1.2) else (gN q1.2 r0 8 0).bind fun n2 => (gN q1.2 r0 8 1).bind fun n3 => (gN q1.2 r0 8 3).bind fun n4 => (xI (xC E d 64 [.ref n2, .ref n3, .ref n4] q1.2)).bind fun q5 => some (some (.int q5.1), q5.2) := (xD_bex E d h_120 [] 90 0 _ _ _).trans rfl
-- TB.torn (I)I
set_option maxRecDepth 100000 in
theorem h_121 : xprog[121]? = some M_121 := rfl
set_option maxRecDepth 100000 in
theorem e121_0 (E : Nat × (Nat → Int32)) (d : Nat) (r0 : Nat) (i1 : Int32) (A : xH) : xD E (d + 1) 121 0 [.ref r0, .int i1] [] A = (xI (xC E d 150 [.ref r0, .int i1] A)).bind fun q1 => if q1.1 = 0 then some (some (.int (-1 : Int32)), q1.2) else (gN q1.2 r0 8 0).bind fun n2 => (gN q1.2 r0 8 1).bind fun n3 => (xI (xC E d 65 [.ref n2, .ref n3] q1.2)).bind fun q4 => some (some (.int q4.1), q4.2) := (xD_bex E d h_121 [] 90 0 _ _ _).trans rfl
-- TB.splits ()I
set_option maxRecDepth 100000 in
theorem h_122 : xprog[122]? = some M_122 := rfl
set_option maxRecDepth 100000 in
theorem e122_0 (E : Nat × (Nat → Int32)) (d : Nat) (r0 : Nat) (A : xH) : xD E (d + 1) 122 0 [.ref r0, xJ, xJ] [] A = xD E (d + 1) 122 4 [.ref r0, .int (0 : Int32), .int (0 : Int32)] [] A := (xD_bex E d h_122 [4] 90 0 _ _ _).trans rfl
set_option maxRecDepth 100000 in
theorem e122_4 (E : Nat × (Nat → Int32)) (d : Nat) (r0 : Nat) (i1 : Int32) (i2 : Int32) (A : xH) : xD E (d + 1) 122 4 [.ref r0, .int i1, .int i2] [] A = if (1000 : Int32) ≤ i2 then some (some (.int i1), A) else (gN A r0 8 0).bind fun n1 => (gN A r0 8 3).bind fun n2 => (xI (xC E d 66 [.ref n1, .int i2, .ref n2] A)).bind fun q3 => if q3.1 = 0 then xD E (d + 1) 122 4 [.ref r0, .int i1, .int (i2 + (1 : Int32))] [] q3.2 else xD E (d + 1) 122 4 [.ref r0, .int (i1 + (1 : Int32)), .int (i2 + (1 : Int32))] [] q3.2 := (xD_bex E d h_122 [4] 90 4 _ _ _).trans rfl
-- TB.room ()I
set_option maxRecDepth 100000 in
theorem h_123 : xprog[123]? = some M_123 := rfl
set_option maxRecDepth 100000 in
theorem e123_0 (E : Nat × (Nat → Int32)) (d : Nat) (r0 : Nat) (A : xH) : xD E (d + 1) 123 0 [.ref r0] [] A = (gN A r0 8 0).bind fun n1 => (gN A n1 5 0).bind fun n2 => (xI (xC E d 23 [.ref n2] A)).bind fun q3 => (gN q3.2 r0 8 0).bind fun n4 => (xI (xC E d 44 [.ref n4] q3.2)).bind fun q5 => some (some (.int ((q3.1 * (3 : Int32)) - q5.1)), q5.2) := (xD_bex E d h_123 [] 90 0 _ _ _).trans rfl
-- TB.twin (I)I
set_option maxRecDepth 100000 in
theorem h_124 : xprog[124]? = some M_124 := rfl
set_option maxRecDepth 100000 in
theorem e124_0 (E : Nat × (Nat → Int32)) (d : Nat) (r0 : Nat) (i1 : Int32) (A : xH) : xD E (d + 1) 124 0 [.ref r0, .int i1] [] A = (xI (xC E d 140 [.int i1] A)).bind fun q1 => if q1.1 = 0 then some (some (.int (-1 : Int32)), q1.2) else (gN q1.2 r0 8 0).bind fun n2 => (xI (xC E d 53 [.ref n2, .int i1] q1.2)).bind fun q3 => some (some (.int q3.1), q3.2) := (xD_bex E d h_124 [] 90 0 _ _ _).trans rfl
-- TB.salts (I)I
set_option maxRecDepth 100000 in
theorem h_125 : xprog[125]? = some M_125 := rfl
set_option maxRecDepth 100000 in
theorem e125_0 (E : Nat × (Nat → Int32)) (d : Nat) (r0 : Nat) (i1 : Int32) (A : xH) : xD E (d + 1) 125 0 [.ref r0, .int i1, xJ, xJ, xJ, xJ] [] A = xD E (d + 1) 125 8 [.ref r0, .int i1, .int (-1 : Int32), .int (25 : Int32), .int (0 : Int32), xJ] [] A := (xD_bex E d h_125 [8] 90 0 _ _ _).trans rfl
set_option maxRecDepth 100000 in
theorem e125_8 (E : Nat × (Nat → Int32)) (d : Nat) (r0 : Nat) (i1 : Int32) (i2 : Int32) (i3 : Int32) (i4 : Int32) (w5 : Value) (A : xH) : xD E (d + 1) 125 8 [.ref r0, .int i1, .int i2, .int i3, .int i4, w5] [] A = if (32 : Int32) ≤ i4 then if i2 = (-1 : Int32) then some (some (.int (-1 : Int32)), A) else if i1 < 0 then some (some (.int (-1 : Int32)), A) else if i1 ≤ (1 : Int32) then if i1 = 0 then some (some (.int i2), A) else some (some (.int i3), A) else some (some (.int (-1 : Int32)), A) else (gN A r0 8 0).bind fun n1 => (gN A r0 8 12).bind fun n2 => (xI (xC E d 67 [.ref n1, .int i4, .ref n2] A)).bind fun q3 => if i3 ≤ q3.1 then xD E (d + 1) 125 8 [.ref r0, .int i1, .int i2, .int i3, .int (i4 + (1 : Int32)), .int q3.1] [] q3.2 else xD E (d + 1) 125 8 [.ref r0, .int i1, .int i4, .int q3.1, .int (i4 + (1 : Int32)), .int q3.1] [] q3.2 := (xD_bex E d h_125 [8] 90 8 _ _ _).trans rfl
-- TB.spent ()I
set_option maxRecDepth 100000 in
theorem h_126 : xprog[126]? = some M_126 := rfl
set_option maxRecDepth 100000 in
theorem e126_0 (E : Nat × (Nat → Int32)) (d : Nat) (r0 : Nat) (A : xH) : xD E (d + 1) 126 0 [.ref r0] [] A = (gN A r0 8 0).bind fun n1 => (xI (xC E d 59 [.ref n1] A)).bind fun q2 => some (some (.int q2.1), q2.2) := (xD_bex E d h_126 [] 90 0 _ _ _).trans rfl
-- TB.seen (II)I
set_option maxRecDepth 100000 in
theorem h_127 : xprog[127]? = some M_127 := rfl
set_option maxRecDepth 100000 in
theorem e127_0 (E : Nat × (Nat → Int32)) (d : Nat) (r0 : Nat) (i1 : Int32) (i2 : Int32) (A : xH) : xD E (d + 1) 127 0 [.ref r0, .int i1, .int i2] [] A = if i1 < 0 then (xI (xC E d 141 [.ref r0, .int (-1 : Int32)] A)).bind fun q1 => some (some (.int q1.1), q1.2) else if (64 : Int32) ≤ i1 then (xI (xC E d 141 [.ref r0, .int (-1 : Int32)] A)).bind fun q2 => some (some (.int q2.1), q2.2) else if i2 < 0 then (xI (xC E d 141 [.ref r0, .int (-1 : Int32)] A)).bind fun q3 => some (some (.int q3.1), q3.2) else if i2 ≤ (1 : Int32) then (gN A r0 8 4).bind fun n4 => (gI A n4 4 2).bind fun x5 => if x5 < (6 : Int32) then (gN A r0 8 4).bind fun n6 => (xI (xC E d 37 [.ref n6, .int i1, .int i2] A)).bind fun q7 => (xI (xC E d 142 [.ref r0, .int q7.1] q7.2)).bind fun q8 => some (some (.int q8.1), q8.2) else (xI (xC E d 141 [.ref r0, .int (-5 : Int32)] A)).bind fun q9 => some (some (.int q9.1), q9.2) else (xI (xC E d 141 [.ref r0, .int (-1 : Int32)] A)).bind fun q10 => some (some (.int q10.1), q10.2) := (xD_bex E d h_127 [] 90 0 _ _ _).trans rfl
-- TB.forget ()I
set_option maxRecDepth 100000 in
theorem h_128 : xprog[128]? = some M_128 := rfl
set_option maxRecDepth 100000 in
theorem e128_0 (E : Nat × (Nat → Int32)) (d : Nat) (r0 : Nat) (A : xH) : xD E (d + 1) 128 0 [.ref r0, xJ] [] A = (gN A r0 8 4).bind fun n1 => (gI A n1 4 2).bind fun x2 => (gN A r0 8 4).bind fun n3 => (pF A n3 4 2 (.int (0 : Int32))).bind fun A4 => some (some (.int x2), A4) := (xD_bex E d h_128 [] 90 0 _ _ _).trans rfl
-- TB.canBe ()I
set_option maxRecDepth 100000 in
theorem h_129 : xprog[129]? = some M_129 := rfl
set_option maxRecDepth 100000 in
theorem e129_0 (E : Nat × (Nat → Int32)) (d : Nat) (r0 : Nat) (A : xH) : xD E (d + 1) 129 0 [.ref r0] [] A = (gN A r0 8 4).bind fun n1 => (gN A r0 8 0).bind fun n2 => (xI (xC E d 38 [.ref n1, .ref n2] A)).bind fun q3 => some (some (.int q3.1), q3.2) := (xD_bex E d h_129 [] 90 0 _ _ _).trans rfl
-- TB.read (I)I
set_option maxRecDepth 100000 in
theorem h_130 : xprog[130]? = some M_130 := rfl
set_option maxRecDepth 100000 in
theorem e130_0 (E : Nat × (Nat → Int32)) (d : Nat) (r0 : Nat) (i1 : Int32) (A : xH) : xD E (d + 1) 130 0 [.ref r0, .int i1, xJ, xJ, xJ, xJ, xJ, xJ, xJ] [] A = (gN A r0 8 4).bind fun n1 => (gN A r0 8 0).bind fun n2 => (xI (xC E d 38 [.ref n1, .ref n2] A)).bind fun q3 => if q3.1 = 0 then some (some (.int (-1 : Int32)), q3.2) else if i1 < 0 then some (some (.int (-1 : Int32)), q3.2) else if i1 ≤ (1 : Int32) then (xI (xC E d 294 [.int q3.1] q3.2)).bind fun q4 => xD E (d + 1) 130 42 [.ref r0, .int i1, .int q3.1, .int q4.1, .int (0 : Int32), .int (25 : Int32), .int (0 : Int32), xJ, xJ] [] q4.2 else some (some (.int (-1 : Int32)), q3.2) := (xD_bex E d h_130 [42] 90 0 _ _ _).trans rfl
set_option maxRecDepth 100000 in
theorem e130_42 (E : Nat × (Nat → Int32)) (d : Nat) (r0 : Nat) (i1 : Int32) (i2 : Int32) (i3 : Int32) (i4 : Int32) (i5 : Int32) (i6 : Int32) (w7 : Value) (w8 : Value) (A : xH) : xD E (d + 1) 130 42 [.ref r0, .int i1, .int i2, .int i3, .int i4, .int i5, .int i6, w7, w8] [] A = (gN A r0 8 0).bind fun n1 => (xI (xC E d 43 [.ref n1] A)).bind fun q2 => if q2.1 ≤ i6 then if i1 = 0 then some (some (.int i4), q2.2) else some (some (.int i5), q2.2) else (gN q2.2 r0 8 0).bind fun n3 => (gN q2.2 n3 5 2).bind fun n4 => (aI 0 q2.2 n4 i6).bind fun x5 => if i5 ≤ (xmax ((i2 >>> (x5 &&& 31)) &&& (1 : Int32)) (i3 - ((i2 >>> (x5 &&& 31)) &&& (1 : Int32)))) then xD E (d + 1) 130 42 [.ref r0, .int i1, .int i2, .int i3, .int i4, .int i5, .int (i6 + (1 : Int32)), .int ((i2 >>> (x5 &&& 31)) &&& (1 : Int32)), .int (xmax ((i2 >>> (x5 &&& 31)) &&& (1 : Int32)) (i3 - ((i2 >>> (x5 &&& 31)) &&& (1 : Int32))))] [] q2.2 else xD E (d + 1) 130 42 [.ref r0, .int i1, .int i2, .int i3, .int i6, .int (xmax ((i2 >>> (x5 &&& 31)) &&& (1 : Int32)) (i3 - ((i2 >>> (x5 &&& 31)) &&& (1 : Int32)))), .int (i6 + (1 : Int32)), .int ((i2 >>> (x5 &&& 31)) &&& (1 : Int32)), .int (xmax ((i2 >>> (x5 &&& 31)) &&& (1 : Int32)) (i3 - ((i2 >>> (x5 &&& 31)) &&& (1 : Int32))))] [] q2.2 := (xD_bex E d h_130 [42] 90 42 _ _ _).trans rfl
-- TB.few (II)J
set_option maxRecDepth 100000 in
theorem h_131 : xprog[131]? = some M_131 := rfl
set_option maxRecDepth 100000 in
theorem e131_0 (E : Nat × (Nat → Int32)) (d : Nat) (r0 : Nat) (i1 : Int32) (i2 : Int32) (A : xH) : xD E (d + 1) 131 0 [.ref r0, .int i1, .int i2, xJ, xJ, xJ] [] A = if i1 < (1 : Int32) then some (some (.long (-1 : Int64)), A) else if (20 : Int32) < i1 then some (some (.long (-1 : Int64)), A) else if i2 < 0 then some (some (.long (-1 : Int64)), A) else if i2 ≤ (99 : Int32) then (gN A r0 8 13).bind fun n1 => (xV (xC E d 296 [.ref n1, .long (0 : Int64)] A)).bind fun A2 => (gN A2 r0 8 13).bind fun n3 => (sL A2 n3 (0 : Int32) (1000000000000 : Int64)).bind fun A4 => xD E (d + 1) 131 44 [.ref r0, .int i1, .int i2, .int (0 : Int32), xJ, xJ] [] A4 else some (some (.long (-1 : Int64)), A) := (xD_bex E d h_131 [44, 65] 90 0 _ _ _).trans rfl
set_option maxRecDepth 100000 in
theorem e131_44 (E : Nat × (Nat → Int32)) (d : Nat) (r0 : Nat) (i1 : Int32) (i2 : Int32) (i3 : Int32) (w4 : Value) (w5 : Value) (A : xH) : xD E (d + 1) 131 44 [.ref r0, .int i1, .int i2, .int i3, w4, w5] [] A = if i2 ≤ i3 then xD E (d + 1) 131 65 [.ref r0, .int i1, .int i2, .long (0 : Int64), xJ, .int (0 : Int32)] [] A else (xV (xC E d 151 [.ref r0, .int i1] A)).bind fun A1 => xD E (d + 1) 131 44 [.ref r0, .int i1, .int i2, .int (i3 + (1 : Int32)), xJ, xJ] [] A1 := (xD_bex E d h_131 [44, 65] 90 44 _ _ _).trans rfl
set_option maxRecDepth 100000 in
theorem e131_65 (E : Nat × (Nat → Int32)) (d : Nat) (r0 : Nat) (i1 : Int32) (w2 : Value) (j3 : Int64) (i5 : Int32) (A : xH) : xD E (d + 1) 131 65 [.ref r0, .int i1, w2, .long j3, xJ, .int i5] [] A = if i1 ≤ i5 then some (some (.long j3), A) else (gN A r0 8 13).bind fun n1 => (aL A n1 i5).bind fun x2 => xD E (d + 1) 131 65 [.ref r0, .int i1, xJ, .long (j3 + x2), xJ, .int (i5 + (1 : Int32))] [] A := (xD_bex E d h_131 [44, 65] 90 65 _ _ _).trans rfl
-- TB.compare (II)I
set_option maxRecDepth 100000 in
theorem h_132 : xprog[132]? = some M_132 := rfl
set_option maxRecDepth 100000 in
theorem e132_0 (E : Nat × (Nat → Int32)) (d : Nat) (r0 : Nat) (i1 : Int32) (i2 : Int32) (A : xH) : xD E (d + 1) 132 0 [.ref r0, .int i1, .int i2] [] A = if i1 < (-1 : Int32) then some (some (.int (-1 : Int32)), A) else (gN A r0 8 3).bind fun n1 => (gI A n1 3 3).bind fun x2 => if x2 ≤ i1 then some (some (.int (-1 : Int32)), A) else (xI (xC E d 140 [.int i2] A)).bind fun q3 => if q3.1 = 0 then some (some (.int (-1 : Int32)), q3.2) else (gN q3.2 r0 8 3).bind fun n4 => (gN q3.2 r0 8 0).bind fun n5 => (xI (xC E d 33 [.ref n4, .int i1, .ref n5, .int i2] q3.2)).bind fun q6 => some (some (.int q6.1), q6.2) := (xD_bex E d h_132 [] 90 0 _ _ _).trans rfl
-- TB.years (II)I
set_option maxRecDepth 100000 in
theorem h_133 : xprog[133]? = some M_133 := rfl
set_option maxRecDepth 100000 in
theorem e133_0 (E : Nat × (Nat → Int32)) (d : Nat) (r0 : Nat) (i1 : Int32) (i2 : Int32) (A : xH) : xD E (d + 1) 133 0 [.ref r0, .int i1, .int i2, xJ, xJ, xJ, xJ, xJ] [] A = if i1 < 0 then (xI (xC E d 141 [.ref r0, .int (-1 : Int32)] A)).bind fun q1 => some (some (.int q1.1), q1.2) else if (1000000 : Int32) < i1 then (xI (xC E d 141 [.ref r0, .int (-1 : Int32)] A)).bind fun q2 => some (some (.int q2.1), q2.2) else if i2 < (1 : Int32) then (xI (xC E d 141 [.ref r0, .int (-1 : Int32)] A)).bind fun q3 => some (some (.int q3.1), q3.2) else if i2 ≤ (60 : Int32) then (gN A r0 8 1).bind fun n4 => (gN A r0 8 0).bind fun n5 => (xV (xC E d 42 [.ref n4, .ref n5] A)).bind fun A6 => xD E (d + 1) 133 44 [.ref r0, .int i1, .int i2, .int i1, .int (0 : Int32), xJ, xJ, xJ] [] A6 else (xI (xC E d 141 [.ref r0, .int (-1 : Int32)] A)).bind fun q7 => some (some (.int q7.1), q7.2) := (xD_bex E d h_133 [44, 101] 90 0 _ _ _).trans rfl
set_option maxRecDepth 100000 in
theorem e133_44 (E : Nat × (Nat → Int32)) (d : Nat) (r0 : Nat) (w1 : Value) (i2 : Int32) (i3 : Int32) (i4 : Int32) (w5 : Value) (w6 : Value) (w7 : Value) (A : xH) : xD E (d + 1) 133 44 [.ref r0, w1, .int i2, .int i3, .int i4, w5, w6, w7] [] A = if i2 ≤ i4 then xD E (d + 1) 133 101 [.ref r0, xJ, .int i2, .int i3, .int (0 : Int32), xJ, xJ, xJ] [] A else (xI (xC E d 152 [.int i3] A)).bind fun q1 => (xI (xC E d 152 [.int q1.1] q1.2)).bind fun q2 => (xI (xC E d 152 [.int q2.1] q2.2)).bind fun q3 => (xV (xC E d 153 [.ref r0, .int (xrem q1.1 (40 : Int32)), .int (xrem q2.1 (8 : Int32)), .int (xrem q3.1 (8 : Int32))] q3.2)).bind fun A4 => xD E (d + 1) 133 44 [.ref r0, xJ, .int i2, .int q3.1, .int (i4 + (1 : Int32)), .int q1.1, .int q2.1, .int q3.1] [] A4 := (xD_bex E d h_133 [44, 101] 90 44 _ _ _).trans rfl
set_option maxRecDepth 100000 in
theorem e133_101 (E : Nat × (Nat → Int32)) (d : Nat) (r0 : Nat) (w1 : Value) (w2 : Value) (w3 : Value) (i4 : Int32) (w5 : Value) (w6 : Value) (w7 : Value) (A : xH) : xD E (d + 1) 133 101 [.ref r0, w1, w2, w3, .int i4, w5, w6, w7] [] A = if (40 : Int32) ≤ i4 then (gN A r0 8 1).bind fun n1 => (xI (xC E d 44 [.ref n1] A)).bind fun q2 => (xI (xC E d 142 [.ref r0, .int q2.1] q2.2)).bind fun q3 => some (some (.int q3.1), q3.2) else (gN A r0 8 11).bind fun n4 => (gN A r0 8 1).bind fun n5 => (gN A r0 8 3).bind fun n6 => (xI (xC E d 46 [.ref n5, .int i4, .ref n6] A)).bind fun q7 => (sI 0 q7.2 n4 i4 q7.1).bind fun A8 => xD E (d + 1) 133 101 [.ref r0, xJ, xJ, xJ, .int (i4 + (1 : Int32)), xJ, xJ, xJ] [] A8 := (xD_bex E d h_133 [44, 101] 90 101 _ _ _).trans rfl
-- TB.drawn (I)I
set_option maxRecDepth 100000 in
theorem h_134 : xprog[134]? = some M_134 := rfl
set_option maxRecDepth 100000 in
theorem e134_0 (E : Nat × (Nat → Int32)) (d : Nat) (r0 : Nat) (i1 : Int32) (A : xH) : xD E (d + 1) 134 0 [.ref r0, .int i1] [] A = if i1 < 0 then some (some (.int (-1 : Int32)), A) else if (40 : Int32) ≤ i1 then some (some (.int (-1 : Int32)), A) else (gN A r0 8 11).bind fun n1 => (aI 0 A n1 i1).bind fun x2 => some (some (.int x2), A) := (xD_bex E d h_134 [] 90 0 _ _ _).trans rfl
-- TB.image (I)I
set_option maxRecDepth 100000 in
theorem h_135 : xprog[135]? = some M_135 := rfl
set_option maxRecDepth 100000 in
theorem e135_0 (E : Nat × (Nat → Int32)) (d : Nat) (r0 : Nat) (i1 : Int32) (A : xH) : xD E (d + 1) 135 0 [.ref r0, .int i1, xJ] [] A = if i1 < 0 then (xI (xC E d 141 [.ref r0, .int (-1 : Int32)] A)).bind fun q1 => some (some (.int q1.1), q1.2) else if i1 < (2 : Int32) then (gN A r0 8 7).bind fun n2 => (aR 6 A n2 i1).bind fun q3 => (match q3 with | none => (xV (xC E d 7 [.ref A.length] (A ++ [.inr (1, [.null, .null, .null])]))).bind fun A4 => (gN A4 r0 8 7).bind fun n5 => (sR 6 A4 n5 i1 (some A.length)).bind fun A6 => xD E (d + 1) 135 41 [.ref r0, .int i1, .ref A.length] [] A6 | some bq3 => xD E (d + 1) 135 41 [.ref r0, .int i1, .ref bq3] [] A) else (xI (xC E d 141 [.ref r0, .int (-1 : Int32)] A)).bind fun q7 => some (some (.int q7.1), q7.2) := (xD_bex E d h_135 [41] 90 0 _ _ _).trans rfl
set_option maxRecDepth 100000 in
theorem e135_41a (E : Nat × (Nat → Int32)) (d : Nat) (r0 : Nat) (w1 : Value) (r2 : Nat) (A : xH) : xD E (d + 1) 135 41 [.ref r0, w1, .ref r2] [] A = (gN A r2 1 0).bind fun n1 => (gN A r0 8 0).bind fun n2 => (xV (xC E d 42 [.ref n1, .ref n2] A)).bind fun A3 => (gN A3 r2 1 1).bind fun n4 => (gN A3 r0 8 3).bind fun n5 => (xV (xC E d 27 [.ref n4, .ref n5] A3)).bind fun A6 => (gN A6 r2 1 2).bind fun n7 => (gN A6 r0 8 4).bind fun n8 => (xV (xC E d 36 [.ref n7, .ref n8] A6)).bind fun A9 => (xI (xC E d 142 [.ref r0, .int (0 : Int32)] A9)).bind fun q10 => some (some (.int q10.1), q10.2) := (xD_bex E d h_135 [41] 90 41 _ _ _).trans rfl
set_option maxRecDepth 100000 in
theorem e135_41b (E : Nat × (Nat → Int32)) (d : Nat) (r0 : Nat) (w1 : Value) (A : xH) : xD E (d + 1) 135 41 [.ref r0, w1, .null] [] A = none := (xD_bex E d h_135 [41] 90 41 _ _ _).trans rfl
-- TB.back (I)I
set_option maxRecDepth 100000 in
theorem h_136 : xprog[136]? = some M_136 := rfl
set_option maxRecDepth 100000 in
theorem e136_0 (E : Nat × (Nat → Int32)) (d : Nat) (r0 : Nat) (i1 : Int32) (A : xH) : xD E (d + 1) 136 0 [.ref r0, .int i1, xJ] [] A = if i1 < 0 then (xI (xC E d 141 [.ref r0, .int (-1 : Int32)] A)).bind fun q1 => some (some (.int q1.1), q1.2) else if i1 < (2 : Int32) then (gN A r0 8 7).bind fun n2 => (aR 6 A n2 i1).bind fun q3 => (match q3 with | none => (xI (xC E d 141 [.ref r0, .int (-2 : Int32)] A)).bind fun q4 => some (some (.int q4.1), q4.2) | some bq3 => (gN A r0 8 0).bind fun n5 => (gN A bq3 1 0).bind fun n6 => (xV (xC E d 42 [.ref n5, .ref n6] A)).bind fun A7 => (gN A7 r0 8 3).bind fun n8 => (gN A7 bq3 1 1).bind fun n9 => (xV (xC E d 27 [.ref n8, .ref n9] A7)).bind fun A10 => (gN A10 r0 8 4).bind fun n11 => (gN A10 bq3 1 2).bind fun n12 => (xV (xC E d 36 [.ref n11, .ref n12] A10)).bind fun A13 => (gN A13 r0 8 5).bind fun n14 => (xV (xC E d 1 [.ref n14] A13)).bind fun A15 => (xI (xC E d 142 [.ref r0, .int (0 : Int32)] A15)).bind fun q16 => some (some (.int q16.1), q16.2)) else (xI (xC E d 141 [.ref r0, .int (-1 : Int32)] A)).bind fun q17 => some (some (.int q17.1), q17.2) := (xD_bex E d h_136 [] 90 0 _ _ _).trans rfl
-- TB.count (I)I
set_option maxRecDepth 100000 in
theorem h_137 : xprog[137]? = some M_137 := rfl
set_option maxRecDepth 100000 in
theorem e137_0 (E : Nat × (Nat → Int32)) (d : Nat) (r0 : Nat) (i1 : Int32) (A : xH) : xD E (d + 1) 137 0 [.ref r0, .int i1] [] A = if i1 = (0 : Int32) then (gN A r0 8 0).bind fun n1 => (gI A n1 5 6).bind fun x2 => some (some (.int x2), A) else if i1 = (1 : Int32) then (gN A r0 8 0).bind fun n3 => (gN A n3 5 0).bind fun n4 => (xI (xC E d 23 [.ref n4] A)).bind fun q5 => some (some (.int q5.1), q5.2) else if i1 = (2 : Int32) then (gN A r0 8 0).bind fun n6 => (xI (xC E d 44 [.ref n6] A)).bind fun q7 => some (some (.int q7.1), q7.2) else if i1 = (3 : Int32) then (gN A r0 8 0).bind fun n8 => (gI A n8 5 5).bind fun x9 => some (some (.int x9), A) else if i1 = (4 : Int32) then (gN A r0 8 4).bind fun n10 => (gI A n10 4 2).bind fun x11 => some (some (.int x11), A) else if i1 = (5 : Int32) then (gN A r0 8 3).bind fun n12 => (gI A n12 3 3).bind fun x13 => some (some (.int x13), A) else if i1 = (6 : Int32) then (gN A r0 8 5).bind fun n14 => (gI A n14 0 3).bind fun x15 => some (some (.int x15), A) else if i1 = (7 : Int32) then (gN A r0 8 8).bind fun n16 => (gI A n16 6 2).bind fun x17 => some (some (.int x17), A) else if i1 = (8 : Int32) then (gN A r0 8 10).bind fun n18 => (aI 0 A n18 (1 : Int32)).bind fun x19 => some (some (.int x19), A) else if i1 = (9 : Int32) then (gN A r0 8 10).bind fun n20 => (aI 0 A n20 (2 : Int32)).bind fun x21 => some (some (.int x21), A) else if i1 = (10 : Int32) then (gN A r0 8 10).bind fun n22 => (aI 0 A n22 (3 : Int32)).bind fun x23 => some (some (.int x23), A) else if i1 = (11 : Int32) then (gN A r0 8 10).bind fun n24 => (aI 0 A n24 (5 : Int32)).bind fun x25 => some (some (.int x25), A) else if i1 = (12 : Int32) then (gN A r0 8 10).bind fun n26 => (aI 0 A n26 (6 : Int32)).bind fun x27 => some (some (.int x27), A) else if i1 = (13 : Int32) then (gN A r0 8 3).bind fun n28 => (gI A n28 3 4).bind fun x29 => some (some (.int x29), A) else if i1 = (14 : Int32) then (xI (xC E d 145 [.ref r0, .int (i1 - (14 : Int32))] A)).bind fun q30 => some (some (.int q30.1), q30.2) else if i1 = (15 : Int32) then (xI (xC E d 145 [.ref r0, .int (i1 - (14 : Int32))] A)).bind fun q31 => some (some (.int q31.1), q31.2) else if i1 = (16 : Int32) then (xI (xC E d 145 [.ref r0, .int (i1 - (14 : Int32))] A)).bind fun q32 => some (some (.int q32.1), q32.2) else if i1 = (17 : Int32) then (xI (xC E d 145 [.ref r0, .int (i1 - (14 : Int32))] A)).bind fun q33 => some (some (.int q33.1), q33.2) else some (some (.int (-1 : Int32)), A) := (xD_bex E d h_137 [] 90 0 _ _ _).trans rfl
-- TB.status ()I
set_option maxRecDepth 100000 in
theorem h_138 : xprog[138]? = some M_138 := rfl
set_option maxRecDepth 100000 in
theorem e138_0 (E : Nat × (Nat → Int32)) (d : Nat) (r0 : Nat) (A : xH) : xD E (d + 1) 138 0 [.ref r0] [] A = (gI A r0 8 17).bind fun x1 => some (some (.int x1), A) := (xD_bex E d h_138 [] 90 0 _ _ _).trans rfl
-- TB.isKey (I)Z
set_option maxRecDepth 100000 in
theorem h_139 : xprog[139]? = some M_139 := rfl
set_option maxRecDepth 100000 in
theorem e139_0 (E : Nat × (Nat → Int32)) (d : Nat) (i0 : Int32) (A : xH) : xD E (d + 1) 139 0 [.int i0] [] A = if i0 < 0 then some (some (.int (0 : Int32)), A) else if (1000 : Int32) ≤ i0 then some (some (.int (0 : Int32)), A) else some (some (.int (1 : Int32)), A) := (xD_bex E d h_139 [] 90 0 _ _ _).trans rfl
-- TB.isBucket (I)Z
set_option maxRecDepth 100000 in
theorem h_140 : xprog[140]? = some M_140 := rfl
set_option maxRecDepth 100000 in
theorem e140_0 (E : Nat × (Nat → Int32)) (d : Nat) (i0 : Int32) (A : xH) : xD E (d + 1) 140 0 [.int i0] [] A = if i0 < 0 then some (some (.int (0 : Int32)), A) else if (24 : Int32) ≤ i0 then some (some (.int (0 : Int32)), A) else some (some (.int (1 : Int32)), A) := (xD_bex E d h_140 [] 90 0 _ _ _).trans rfl
-- TB.refuse (I)I
set_option maxRecDepth 100000 in
theorem h_141 : xprog[141]? = some M_141 := rfl
set_option maxRecDepth 100000 in
theorem e141_0 (E : Nat × (Nat → Int32)) (d : Nat) (r0 : Nat) (i1 : Int32) (A : xH) : xD E (d + 1) 141 0 [.ref r0, .int i1] [] A = (pF A r0 8 17 (.int i1)).bind fun A1 => (gN A1 r0 8 10).bind fun n2 => (aI 0 A1 n2 (-i1)).bind fun x3 => (sI 0 A1 n2 (-i1) (x3 + (1 : Int32))).bind fun A4 => some (some (.int i1), A4) := (xD_bex E d h_141 [] 90 0 _ _ _).trans rfl
-- TB.grant (I)I
set_option maxRecDepth 100000 in
theorem h_142 : xprog[142]? = some M_142 := rfl
set_option maxRecDepth 100000 in
theorem e142_0 (E : Nat × (Nat → Int32)) (d : Nat) (r0 : Nat) (i1 : Int32) (A : xH) : xD E (d + 1) 142 0 [.ref r0, .int i1] [] A = (pF A r0 8 17 (.int (0 : Int32))).bind fun A1 => some (some (.int i1), A1) := (xD_bex E d h_142 [] 90 0 _ _ _).trans rfl
-- TB.answer (I)I
set_option maxRecDepth 100000 in
theorem h_143 : xprog[143]? = some M_143 := rfl
set_option maxRecDepth 100000 in
theorem e143_0 (E : Nat × (Nat → Int32)) (d : Nat) (r0 : Nat) (i1 : Int32) (A : xH) : xD E (d + 1) 143 0 [.ref r0, .int i1] [] A = if 0 ≤ i1 then (xI (xC E d 142 [.ref r0, .int i1] A)).bind fun q1 => some (some (.int q1.1), q1.2) else (xI (xC E d 141 [.ref r0, .int i1] A)).bind fun q2 => some (some (.int q2.1), q2.2) := (xD_bex E d h_143 [] 90 0 _ _ _).trans rfl
-- TB.mostOfTerm (I)I
set_option maxRecDepth 100000 in
theorem h_144 : xprog[144]? = some M_144 := rfl
set_option maxRecDepth 100000 in
theorem e144_0 (E : Nat × (Nat → Int32)) (d : Nat) (i0 : Int32) (A : xH) : xD E (d + 1) 144 0 [.int i0] [] A = if i0 = (0 : Int32) then some (some (.int (999 : Int32)), A) else if i0 = (1 : Int32) then some (some (.int (10 : Int32)), A) else if i0 = (2 : Int32) then some (some (.int (9 : Int32)), A) else if i0 = (3 : Int32) then some (some (.int (999 : Int32)), A) else some (some (.int (-1 : Int32)), A) := (xD_bex E d h_144 [] 90 0 _ _ _).trans rfl
-- TB.termNow (I)I
set_option maxRecDepth 100000 in
theorem h_145 : xprog[145]? = some M_145 := rfl
set_option maxRecDepth 100000 in
theorem e145_0 (E : Nat × (Nat → Int32)) (d : Nat) (r0 : Nat) (i1 : Int32) (A : xH) : xD E (d + 1) 145 0 [.ref r0, .int i1] [] A = if i1 = (0 : Int32) then (gN A r0 8 0).bind fun n1 => (gI A n1 5 7).bind fun x2 => some (some (.int x2), A) else if i1 = (1 : Int32) then (gN A r0 8 3).bind fun n3 => (gI A n3 3 5).bind fun x4 => some (some (.int x4), A) else if i1 = (2 : Int32) then (gN A r0 8 3).bind fun n5 => (gI A n5 3 6).bind fun x6 => some (some (.int x6), A) else (gN A r0 8 3).bind fun n7 => (gI A n7 3 7).bind fun x8 => some (some (.int x8), A) := (xD_bex E d h_145 [] 90 0 _ _ _).trans rfl
-- TB.setTerm (II)V
set_option maxRecDepth 100000 in
theorem h_146 : xprog[146]? = some M_146 := rfl
set_option maxRecDepth 100000 in
theorem e146_0 (E : Nat × (Nat → Int32)) (d : Nat) (r0 : Nat) (i1 : Int32) (i2 : Int32) (A : xH) : xD E (d + 1) 146 0 [.ref r0, .int i1, .int i2] [] A = if i1 = (0 : Int32) then (gN A r0 8 0).bind fun n1 => (pF A n1 5 7 (.int i2)).bind fun A2 => some (none, A2) else if i1 = (1 : Int32) then (gN A r0 8 3).bind fun n3 => (pF A n3 3 5 (.int i2)).bind fun A4 => some (none, A4) else if i1 = (2 : Int32) then (gN A r0 8 3).bind fun n5 => (pF A n5 3 6 (.int i2)).bind fun A6 => some (none, A6) else (gN A r0 8 3).bind fun n7 => (pF A n7 3 7 (.int i2)).bind fun A8 => some (none, A8) := (xD_bex E d h_146 [] 90 0 _ _ _).trans rfl
-- TB.act (IIILTwinBuckets$History;)I
set_option maxRecDepth 100000 in
theorem h_147 : xprog[147]? = some M_147 := rfl
set_option maxRecDepth 100000 in
theorem e147_0 (E : Nat × (Nat → Int32)) (d : Nat) (r0 : Nat) (i1 : Int32) (i2 : Int32) (i3 : Int32) (r4 : Nat) (A : xH) : xD E (d + 1) 147 0 [.ref r0, .int i1, .int i2, .int i3, .ref r4, xJ] [] A = (gN A r0 8 0).bind fun n1 => (xV (xC E d 2 [.ref r4, .ref n1] A)).bind fun A2 => if i1 = (0 : Int32) then (gN A2 r0 8 0).bind fun n3 => (gN A2 r0 8 3).bind fun n4 => (xI (xC E d 48 [.ref n3, .int i2, .int i3, .ref n4] A2)).bind fun q5 => if q5.1 < 0 then some (some (.int q5.1), q5.2) else (xV (xC E d 3 [.ref r4, .int i1] q5.2)).bind fun A6 => some (some (.int q5.1), A6) else if i1 = (1 : Int32) then (gN A2 r0 8 0).bind fun n7 => (gN A2 r0 8 3).bind fun n8 => (xI (xC E d 52 [.ref n7, .int i2, .ref n8] A2)).bind fun q9 => if q9.1 < 0 then some (some (.int q9.1), q9.2) else (xV (xC E d 3 [.ref r4, .int i1] q9.2)).bind fun A10 => some (some (.int q9.1), A10) else if i1 = (2 : Int32) then (gN A2 r0 8 0).bind fun n11 => (xI (xC E d 60 [.ref n11, .int i2] A2)).bind fun q12 => if q12.1 < 0 then some (some (.int q12.1), q12.2) else (xV (xC E d 3 [.ref r4, .int i1] q12.2)).bind fun A13 => some (some (.int q12.1), A13) else (gN A2 r0 8 0).bind fun n14 => (gN A2 r0 8 3).bind fun n15 => (xI (xC E d 61 [.ref n14, .int i2, .ref n15] A2)).bind fun q16 => if q16.1 < 0 then some (some (.int q16.1), q16.2) else (xV (xC E d 3 [.ref r4, .int i1] q16.2)).bind fun A17 => some (some (.int q16.1), A17) := (xD_bex E d h_147 [] 90 0 _ _ _).trans rfl
-- TB.runClause (LTwinBuckets$Text;I)Z
set_option maxRecDepth 100000 in
theorem h_148 : xprog[148]? = some M_148 := rfl
set_option maxRecDepth 100000 in
theorem e148_0 (E : Nat × (Nat → Int32)) (d : Nat) (r0 : Nat) (r1 : Nat) (i2 : Int32) (A : xH) : xD E (d + 1) 148 0 [.ref r0, .ref r1, .int i2, xJ, xJ, xJ, xJ, xJ, xJ] [] A = (xI (xC E d 92 [.ref r1, .int i2, .int (0 : Int32)] A)).bind fun q1 => (xI (xC E d 92 [.ref r1, .int i2, .int (1 : Int32)] q1.2)).bind fun q2 => xD E (d + 1) 148 18 [.ref r0, .ref r1, .int i2, .int q1.1, .int q2.1, .int (0 : Int32), xJ, xJ, xJ] [] q2.2 := (xD_bex E d h_148 [18, 118] 90 0 _ _ _).trans rfl
set_option maxRecDepth 100000 in
theorem e148_18 (E : Nat × (Nat → Int32)) (d : Nat) (r0 : Nat) (r1 : Nat) (i2 : Int32) (i3 : Int32) (i4 : Int32) (i5 : Int32) (w6 : Value) (w7 : Value) (w8 : Value) (A : xH) : xD E (d + 1) 148 18 [.ref r0, .ref r1, .int i2, .int i3, .int i4, .int i5, w6, w7, w8] [] A = if i4 ≤ i5 then some (some (.int (1 : Int32)), A) else (xV (xC E d 149 [.ref r0, .ref r1] A)).bind fun A1 => (gN A1 r0 8 9).bind fun n2 => (gN A1 r0 8 3).bind fun n3 => (gN A1 n3 3 2).bind fun n4 => (xI (xC E d 96 [.ref r1, .int i2, .int (6 : Int32), .ref n2, .ref n4] A1)).bind fun q5 => if q5.1 = (1 : Int32) then (gN q5.2 r0 8 9).bind fun n6 => (gN q5.2 r0 8 3).bind fun n7 => (gN q5.2 n7 3 2).bind fun n8 => (xI (xC E d 96 [.ref r1, .int i2, .int (2 : Int32), .ref n6, .ref n8] q5.2)).bind fun q9 => (gN q9.2 r0 8 9).bind fun n10 => (gN q9.2 r0 8 3).bind fun n11 => (gN q9.2 n11 3 2).bind fun n12 => (xI (xC E d 96 [.ref r1, .int i2, .int (4 : Int32), .ref n10, .ref n12] q9.2)).bind fun q13 => if q9.1 = (-2000000000 : Int32) then some (some (.int (0 : Int32)), q13.2) else if q13.1 = (-2000000000 : Int32) then some (some (.int (0 : Int32)), q13.2) else xD E (d + 1) 148 118 [.ref r0, .ref r1, .int i2, .int i3, .int i4, .int i5, .int q9.1, .int q13.1, xJ] [.ref r0, .int q13.1, .int q9.1, .int i3, .ref r0] q13.2 else xD E (d + 1) 148 18 [.ref r0, .ref r1, .int i2, .int i3, .int i4, .int (i5 + (1 : Int32)), xJ, xJ, xJ] [] q5.2 := (xD_bex E d h_148 [18, 118] 90 18 _ _ _).trans rfl
set_option maxRecDepth 100000 in
theorem e148_118 (E : Nat × (Nat → Int32)) (d : Nat) (r0 : Nat) (r1 : Nat) (i2 : Int32) (i3 : Int32) (i4 : Int32) (i5 : Int32) (w6 : Value) (w7 : Value) (w8 : Value) (s0 : Nat) (s1 : Int32) (s2 : Int32) (s3 : Int32) (s4 : Nat) (A : xH) : xD E (d + 1) 148 118 [.ref r0, .ref r1, .int i2, .int i3, .int i4, .int i5, w6, w7, w8] [.ref s4, .int s3, .int s2, .int s1, .ref s0] A = (gN A s4 8 6).bind fun n1 => (xI (xC E d 147 [.ref s0, .int s1, .int s2, .int s3, .ref n1] A)).bind fun q2 => if 0 ≤ q2.1 then (gN q2.2 r0 8 9).bind fun n3 => (aI 0 q2.2 n3 (1 : Int32)).bind fun x4 => (sI 0 q2.2 n3 (1 : Int32) (x4 + (1 : Int32))).bind fun A5 => if i3 = 0 then (gN A5 r0 8 9).bind fun n6 => (sI 0 A5 n6 (2 : Int32) q2.1).bind fun A7 => xD E (d + 1) 148 18 [.ref r0, .ref r1, .int i2, .int i3, .int i4, .int (i5 + (1 : Int32)), xJ, xJ, .int q2.1] [] A7 else xD E (d + 1) 148 18 [.ref r0, .ref r1, .int i2, .int i3, .int i4, .int (i5 + (1 : Int32)), xJ, xJ, .int q2.1] [] A5 else some (some (.int (0 : Int32)), q2.2) := (xD_bex E d h_148 [18, 118] 90 118 _ _ _).trans rfl
-- TB.fillOrderWords (LTwinBuckets$Text;)V
set_option maxRecDepth 100000 in
theorem h_149 : xprog[149]? = some M_149 := rfl
set_option maxRecDepth 100000 in
theorem e149_0 (E : Nat × (Nat → Int32)) (d : Nat) (r0 : Nat) (r1 : Nat) (A : xH) : xD E (d + 1) 149 0 [.ref r0, .ref r1, xJ, xJ] [] A = (gN A r0 8 9).bind fun n1 => (gN A r0 8 0).bind fun n2 => (gI A n2 5 7).bind fun x3 => (sI 0 A n1 (0 : Int32) x3).bind fun A4 => (gN A4 r0 8 9).bind fun n5 => (gN A4 r0 8 0).bind fun n6 => (gI A4 n6 5 6).bind fun x7 => (sI 0 A4 n5 (3 : Int32) x7).bind fun A8 => (gN A8 r0 8 9).bind fun n9 => (gN A8 r0 8 0).bind fun n10 => (gI A8 n10 5 5).bind fun x11 => (sI 0 A8 n9 (4 : Int32) x11).bind fun A12 => (gN A12 r0 8 9).bind fun n13 => (gN A12 r0 8 0).bind fun n14 => (xI (xC E d 44 [.ref n14] A12)).bind fun q15 => (sI 0 q15.2 n13 (5 : Int32) q15.1).bind fun A16 => xD E (d + 1) 149 54 [.ref r0, .ref r1, .int (0 : Int32), xJ] [] A16 := (xD_bex E d h_149 [54] 90 0 _ _ _).trans rfl
set_option maxRecDepth 100000 in
theorem e149_54 (E : Nat × (Nat → Int32)) (d : Nat) (r0 : Nat) (r1 : Nat) (i2 : Int32) (w3 : Value) (A : xH) : xD E (d + 1) 149 54 [.ref r0, .ref r1, .int i2, w3] [] A = (gI A r1 7 6).bind fun x1 => if x1 ≤ i2 then some (none, A) else (gN A r1 7 3).bind fun n2 => (aI 0 A n2 i2).bind fun x3 => (gN A r0 8 9).bind fun n4 => if (1000 : Int32) ≤ x3 then (gN A r0 8 0).bind fun n5 => (gN A n5 5 0).bind fun n6 => (xI (xC E d 10 [.ref n6, .int (x3 - (1000 : Int32)), .int (3 : Int32)] A)).bind fun q7 => (sI 0 q7.2 n4 ((6 : Int32) + i2) q7.1).bind fun A8 => xD E (d + 1) 149 54 [.ref r0, .ref r1, .int (i2 + (1 : Int32)), .int x3] [] A8 else (gN A r0 8 0).bind fun n9 => (gN A r0 8 3).bind fun n10 => (xI (xC E d 46 [.ref n9, .int x3, .ref n10] A)).bind fun q11 => (sI 0 q11.2 n4 ((6 : Int32) + i2) q11.1).bind fun A12 => xD E (d + 1) 149 54 [.ref r0, .ref r1, .int (i2 + (1 : Int32)), .int x3] [] A12 := (xD_bex E d h_149 [54] 90 54 _ _ _).trans rfl
-- TB.losePowerOnPaper (I)Z
set_option maxRecDepth 100000 in
theorem h_150 : xprog[150]? = some M_150 := rfl
set_option maxRecDepth 100000 in
theorem e150_0 (E : Nat × (Nat → Int32)) (d : Nat) (r0 : Nat) (i1 : Int32) (A : xH) : xD E (d + 1) 150 0 [.ref r0, .int i1] [] A = if i1 < 0 then some (some (.int (0 : Int32)), A) else (gN A r0 8 0).bind fun n1 => (gI A n1 5 5).bind fun x2 => if i1 ≤ x2 then (gN A r0 8 1).bind fun n3 => (gN A r0 8 0).bind fun n4 => (xV (xC E d 42 [.ref n3, .ref n4] A)).bind fun A5 => (gN A5 r0 8 1).bind fun n6 => (gN A5 r0 8 3).bind fun n7 => (xI (xC E d 61 [.ref n6, .int i1, .ref n7] A5)).bind fun q8 => some (some (.int (1 : Int32)), q8.2) else some (some (.int (0 : Int32)), A) := (xD_bex E d h_150 [] 90 0 _ _ _).trans rfl
-- TB.oneWriteMore (I)V
set_option maxRecDepth 100000 in
theorem h_151 : xprog[151]? = some M_151 := rfl
set_option maxRecDepth 100000 in
theorem e151_0 (E : Nat × (Nat → Int32)) (d : Nat) (r0 : Nat) (i1 : Int32) (A : xH) : xD E (d + 1) 151 0 [.ref r0, .int i1, xJ, xJ, xJ, xJ, xJ] [] A = xD E (d + 1) 151 4 [.ref r0, .int i1, .int (i1 - (1 : Int32)), xJ, xJ, xJ, xJ] [] A := (xD_bex E d h_151 [4] 90 0 _ _ _).trans rfl
set_option maxRecDepth 100000 in
theorem e151_4 (E : Nat × (Nat → Int32)) (d : Nat) (r0 : Nat) (w1 : Value) (i2 : Int32) (w3 : Value) (w4 : Value) (w5 : Value) (w6 : Value) (A : xH) : xD E (d + 1) 151 4 [.ref r0, w1, .int i2, w3, w4, w5, w6] [] A = if i2 < 0 then some (none, A) else (gN A r0 8 13).bind fun n1 => (aL A n1 i2).bind fun x2 => (gN A r0 8 3).bind fun n3 => (gI A n3 3 5).bind fun x4 => if i2 = 0 then (gN A r0 8 13).bind fun n5 => (sL A n5 i2 (((x2 * ((((10 : Int32) - x4)).toInt64)) / (10 : Int64)) + (0 : Int64))).bind fun A6 => xD E (d + 1) 151 4 [.ref r0, xJ, .int (i2 + (-1 : Int32)), .long ((x2 * ((((10 : Int32) - x4)).toInt64)) / (10 : Int64)), xJ, .long (0 : Int64), xJ] [] A6 else (gN A r0 8 13).bind fun n7 => (aL A n7 (i2 - (1 : Int32))).bind fun x8 => (gN A r0 8 3).bind fun n9 => (gI A n9 3 5).bind fun x10 => (gN A r0 8 13).bind fun n11 => (sL A n11 i2 (((x2 * ((((10 : Int32) - x4)).toInt64)) / (10 : Int64)) + ((x8 * ((x10).toInt64)) / (10 : Int64)))).bind fun A12 => xD E (d + 1) 151 4 [.ref r0, xJ, .int (i2 + (-1 : Int32)), .long ((x2 * ((((10 : Int32) - x4)).toInt64)) / (10 : Int64)), xJ, .long ((x8 * ((x10).toInt64)) / (10 : Int64)), xJ] [] A12 := (xD_bex E d h_151 [4] 90 4 _ _ _).trans rfl
-- TB.nextDraw (I)I
set_option maxRecDepth 100000 in
theorem h_152 : xprog[152]? = some M_152 := rfl
set_option maxRecDepth 100000 in
theorem e152_0 (E : Nat × (Nat → Int32)) (d : Nat) (i0 : Int32) (A : xH) : xD E (d + 1) 152 0 [.int i0] [] A = some (some (.int (((xlrem ((((i0).toInt64) * (1103 : Int64)) + (12345 : Int64)) (1000003 : Int64))).toInt32)), A) := (xD_bex E d h_152 [] 90 0 _ _ _).trans rfl
-- TB.actOnPaper (III)V
set_option maxRecDepth 100000 in
theorem h_153 : xprog[153]? = some M_153 := rfl
set_option maxRecDepth 100000 in
theorem e153_0 (E : Nat × (Nat → Int32)) (d : Nat) (r0 : Nat) (i1 : Int32) (i2 : Int32) (i3 : Int32) (A : xH) : xD E (d + 1) 153 0 [.ref r0, .int i1, .int i2, .int i3] [] A = if (4 : Int32) < i3 then if (6 : Int32) < i3 then (gN A r0 8 1).bind fun n1 => (gN A r0 8 1).bind fun n2 => (gI A n2 5 5).bind fun x3 => (gN A r0 8 3).bind fun n4 => (xI (xC E d 61 [.ref n1, .int (xmin i2 x3), .ref n4] A)).bind fun q5 => some (none, q5.2) else (gN A r0 8 1).bind fun n6 => (gN A r0 8 3).bind fun n7 => (xI (xC E d 52 [.ref n6, .int i1, .ref n7] A)).bind fun q8 => some (none, q8.2) else (gN A r0 8 1).bind fun n9 => (gN A r0 8 3).bind fun n10 => (xI (xC E d 48 [.ref n9, .int i1, .int i2, .ref n10] A)).bind fun q11 => some (none, q11.2) := (xD_bex E d h_153 [] 90 0 _ _ _).trans rfl
