/-! ===== what each block does, an equation a block (printed by wip/whole/gen.py) ===== -/
-- Model.lies (III)Z
set_option maxRecDepth 100000 in
theorem h_154 : xprog[154]? = some M_154 := rfl
set_option maxRecDepth 100000 in
theorem e154_0 (E : Nat × (Nat → Int32)) (d : Nat) (i0 : Int32) (i1 : Int32) (i2 : Int32) (A : xH) : xD E (d + 1) 154 0 [.int i0, .int i1, .int i2] [] A = if i0 < i1 then some (some (.int (0 : Int32)), A) else if i2 < i0 then some (some (.int (0 : Int32)), A) else some (some (.int (1 : Int32)), A) := (xD_bex E d h_154 [] 90 0 _ _ _).trans rfl
-- Model.lesser (II)I
set_option maxRecDepth 100000 in
theorem h_155 : xprog[155]? = some M_155 := rfl
set_option maxRecDepth 100000 in
theorem e155_0 (E : Nat × (Nat → Int32)) (d : Nat) (i0 : Int32) (i1 : Int32) (A : xH) : xD E (d + 1) 155 0 [.int i0, .int i1] [] A = if i1 ≤ i0 then some (some (.int i1), A) else some (some (.int i0), A) := (xD_bex E d h_155 [] 90 0 _ _ _).trans rfl
-- Model.greater (II)I
set_option maxRecDepth 100000 in
theorem h_156 : xprog[156]? = some M_156 := rfl
set_option maxRecDepth 100000 in
theorem e156_0 (E : Nat × (Nat → Int32)) (d : Nat) (i0 : Int32) (i1 : Int32) (A : xH) : xD E (d + 1) 156 0 [.int i0, .int i1] [] A = if i0 ≤ i1 then some (some (.int i1), A) else some (some (.int i0), A) := (xD_bex E d h_156 [] 90 0 _ _ _).trans rfl
-- Model.refuses (I)I
set_option maxRecDepth 100000 in
theorem h_157 : xprog[157]? = some M_157 := rfl
set_option maxRecDepth 100000 in
theorem e157_0 (E : Nat × (Nat → Int32)) (d : Nat) (r0 : Nat) (i1 : Int32) (A : xH) : xD E (d + 1) 157 0 [.ref r0, .int i1] [] A = (pF A r0 9 0 (.int i1)).bind fun A1 => (gN A1 r0 9 1).bind fun n2 => (aI 0 A1 n2 (-i1)).bind fun x3 => (sI 0 A1 n2 (-i1) (x3 + (1 : Int32))).bind fun A4 => some (some (.int i1), A4) := (xD_bex E d h_157 [] 90 0 _ _ _).trans rfl
-- Model.good (I)I
set_option maxRecDepth 100000 in
theorem h_158 : xprog[158]? = some M_158 := rfl
set_option maxRecDepth 100000 in
theorem e158_0 (E : Nat × (Nat → Int32)) (d : Nat) (r0 : Nat) (i1 : Int32) (A : xH) : xD E (d + 1) 158 0 [.ref r0, .int i1] [] A = (pF A r0 9 0 (.int (0 : Int32))).bind fun A1 => some (some (.int i1), A1) := (xD_bex E d h_158 [] 90 0 _ _ _).trans rfl
-- Model.settled (I)I
set_option maxRecDepth 100000 in
theorem h_159 : xprog[159]? = some M_159 := rfl
set_option maxRecDepth 100000 in
theorem e159_0 (E : Nat × (Nat → Int32)) (d : Nat) (r0 : Nat) (i1 : Int32) (A : xH) : xD E (d + 1) 159 0 [.ref r0, .int i1] [] A = (pF A r0 9 32 (.int (0 : Int32))).bind fun A1 => (xI (xC E d 158 [.ref r0, .int i1] A1)).bind fun q2 => some (some (.int q2.1), q2.2) := (xD_bex E d h_159 [] 90 0 _ _ _).trans rfl
-- Model.isIn (II)Z
set_option maxRecDepth 100000 in
theorem h_160 : xprog[160]? = some M_160 := rfl
set_option maxRecDepth 100000 in
theorem e160_0 (E : Nat × (Nat → Int32)) (d : Nat) (i0 : Int32) (i1 : Int32) (A : xH) : xD E (d + 1) 160 0 [.int i0, .int i1] [] A = if ((i0 >>> (i1 &&& 31)) &&& (1 : Int32)) = (1 : Int32) then some (some (.int (1 : Int32)), A) else some (some (.int (0 : Int32)), A) := (xD_bex E d h_160 [] 90 0 _ _ _).trans rfl
-- Model.ones (I)I
set_option maxRecDepth 100000 in
theorem h_161 : xprog[161]? = some M_161 := rfl
set_option maxRecDepth 100000 in
theorem e161_0 (E : Nat × (Nat → Int32)) (d : Nat) (i0 : Int32) (A : xH) : xD E (d + 1) 161 0 [.int i0, xJ, xJ] [] A = xD E (d + 1) 161 4 [.int i0, .int (0 : Int32), .int (0 : Int32)] [] A := (xD_bex E d h_161 [4] 90 0 _ _ _).trans rfl
set_option maxRecDepth 100000 in
theorem e161_4 (E : Nat × (Nat → Int32)) (d : Nat) (i0 : Int32) (i1 : Int32) (i2 : Int32) (A : xH) : xD E (d + 1) 161 4 [.int i0, .int i1, .int i2] [] A = if (24 : Int32) ≤ i2 then some (some (.int i1), A) else xD E (d + 1) 161 4 [.int i0, .int (i1 + ((i0 >>> (i2 &&& 31)) &&& (1 : Int32))), .int (i2 + (1 : Int32))] [] A := (xD_bex E d h_161 [4] 90 4 _ _ _).trans rfl
-- Model.isBucket (I)Z
set_option maxRecDepth 100000 in
theorem h_162 : xprog[162]? = some M_162 := rfl
set_option maxRecDepth 100000 in
theorem e162_0 (E : Nat × (Nat → Int32)) (d : Nat) (i0 : Int32) (A : xH) : xD E (d + 1) 162 0 [.int i0] [] A = (xI (xC E d 154 [.int i0, .int (0 : Int32), .int (23 : Int32)] A)).bind fun q1 => if x01 q1.1 = true then some (some (.int q1.1), q1.2) else none := (xD_bex E d h_162 [] 90 0 _ _ _).trans rfl
-- Model.isKey (I)Z
set_option maxRecDepth 100000 in
theorem h_163 : xprog[163]? = some M_163 := rfl
set_option maxRecDepth 100000 in
theorem e163_0 (E : Nat × (Nat → Int32)) (d : Nat) (i0 : Int32) (A : xH) : xD E (d + 1) 163 0 [.int i0] [] A = (xI (xC E d 154 [.int i0, .int (0 : Int32), .int (999 : Int32)] A)).bind fun q1 => if x01 q1.1 = true then some (some (.int q1.1), q1.2) else none := (xD_bex E d h_163 [] 90 0 _ _ _).trans rfl
-- Model.init ()V
set_option maxRecDepth 100000 in
theorem h_164 : xprog[164]? = some M_164 := rfl
set_option maxRecDepth 100000 in
theorem e164_0 (E : Nat × (Nat → Int32)) (d : Nat) (r0 : Nat) (A : xH) : xD E (d + 1) 164 0 [.ref r0] [] A = xD E (d + 1) 164 9 [.ref r0] [.ref A.length, .ref r0] (A ++ [.inl (0, 7, .inl fun _ => 0)]) := (xD_bex E d h_164 [9, 18, 27, 34, 43, 51, 117, 189, 261, 333, 405, 477, 549, 621, 693, 765, 810, 817, 831, 840, 849, 857, 865, 874, 883, 892, 900, 908, 920, 928] 90 0 _ _ _).trans rfl
set_option maxRecDepth 100000 in
theorem e164_9 (E : Nat × (Nat → Int32)) (d : Nat) (r0 : Nat) (s0 : Nat) (s1 : Nat) (A : xH) : xD E (d + 1) 164 9 [.ref r0] [.ref s1, .ref s0] A = (pF A s0 9 1 (.ref s1)).bind fun A1 => xD E (d + 1) 164 18 [.ref r0] [.ref A1.length, .ref r0] (A1 ++ [.inl (0, 6588, .inl fun _ => 0)]) := (xD_bex E d h_164 [9, 18, 27, 34, 43, 51, 117, 189, 261, 333, 405, 477, 549, 621, 693, 765, 810, 817, 831, 840, 849, 857, 865, 874, 883, 892, 900, 908, 920, 928] 90 9 _ _ _).trans rfl
set_option maxRecDepth 100000 in
theorem e164_18 (E : Nat × (Nat → Int32)) (d : Nat) (r0 : Nat) (s0 : Nat) (s1 : Nat) (A : xH) : xD E (d + 1) 164 18 [.ref r0] [.ref s1, .ref s0] A = (pF A s0 9 2 (.ref s1)).bind fun A1 => xD E (d + 1) 164 27 [.ref r0] [.ref A1.length, .ref r0] (A1 ++ [.inl (0, 13176, .inl fun _ => 0)]) := (xD_bex E d h_164 [9, 18, 27, 34, 43, 51, 117, 189, 261, 333, 405, 477, 549, 621, 693, 765, 810, 817, 831, 840, 849, 857, 865, 874, 883, 892, 900, 908, 920, 928] 90 18 _ _ _).trans rfl
set_option maxRecDepth 100000 in
theorem e164_27 (E : Nat × (Nat → Int32)) (d : Nat) (r0 : Nat) (s0 : Nat) (s1 : Nat) (A : xH) : xD E (d + 1) 164 27 [.ref r0] [.ref s1, .ref s0] A = (pF A s0 9 3 (.ref s1)).bind fun A1 => xD E (d + 1) 164 34 [.ref r0] [.ref A1.length, .ref r0] (A1 ++ [.inl (2, 2, .inl fun _ => 0)]) := (xD_bex E d h_164 [9, 18, 27, 34, 43, 51, 117, 189, 261, 333, 405, 477, 549, 621, 693, 765, 810, 817, 831, 840, 849, 857, 865, 874, 883, 892, 900, 908, 920, 928] 90 27 _ _ _).trans rfl
set_option maxRecDepth 100000 in
theorem e164_34 (E : Nat × (Nat → Int32)) (d : Nat) (r0 : Nat) (s0 : Nat) (s1 : Nat) (A : xH) : xD E (d + 1) 164 34 [.ref r0] [.ref s1, .ref s0] A = (pF A s0 9 4 (.ref s1)).bind fun A1 => xD E (d + 1) 164 43 [.ref r0] [.ref A1.length, .ref r0] (A1 ++ [.inl (0, 3852, .inl fun _ => 0)]) := (xD_bex E d h_164 [9, 18, 27, 34, 43, 51, 117, 189, 261, 333, 405, 477, 549, 621, 693, 765, 810, 817, 831, 840, 849, 857, 865, 874, 883, 892, 900, 908, 920, 928] 90 34 _ _ _).trans rfl
set_option maxRecDepth 100000 in
theorem e164_43 (E : Nat × (Nat → Int32)) (d : Nat) (r0 : Nat) (s0 : Nat) (s1 : Nat) (A : xH) : xD E (d + 1) 164 43 [.ref r0] [.ref s1, .ref s0] A = (pF A s0 9 5 (.ref s1)).bind fun A1 => xD E (d + 1) 164 51 [.ref r0] [.ref A1.length, .ref r0] (A1 ++ [.inl (1, 126, .inl fun _ => 0)]) := (xD_bex E d h_164 [9, 18, 27, 34, 43, 51, 117, 189, 261, 333, 405, 477, 549, 621, 693, 765, 810, 817, 831, 840, 849, 857, 865, 874, 883, 892, 900, 908, 920, 928] 90 43 _ _ _).trans rfl
set_option maxRecDepth 100000 in
theorem e164_51 (E : Nat × (Nat → Int32)) (d : Nat) (r0 : Nat) (s0 : Nat) (s1 : Nat) (A : xH) : xD E (d + 1) 164 51 [.ref r0] [.ref s1, .ref s0] A = (sI 1 A s1 (0 : Int32) (99 : Int32)).bind fun A1 => (sI 1 A1 s1 (1 : Int32) (111 : Int32)).bind fun A2 => (sI 1 A2 s1 (2 : Int32) (115 : Int32)).bind fun A3 => (sI 1 A3 s1 (3 : Int32) (116 : Int32)).bind fun A4 => (sI 1 A4 s1 (4 : Int32) (115 : Int32)).bind fun A5 => (sI 1 A5 s1 (5 : Int32) (32 : Int32)).bind fun A6 => (sI 1 A6 s1 (6 : Int32) (98 : Int32)).bind fun A7 => (sI 1 A7 s1 (7 : Int32) (97 : Int32)).bind fun A8 => (sI 1 A8 s1 (8 : Int32) (114 : Int32)).bind fun A9 => (sI 1 A9 s1 (9 : Int32) (115 : Int32)).bind fun A10 => (sI 1 A10 s1 (10 : Int32) (32 : Int32)).bind fun A11 => (sI 1 A11 s1 (11 : Int32) (105 : Int32)).bind fun A12 => xD E (d + 1) 164 117 [.ref r0] [.ref s1, .ref s0] A12 := (xD_bex E d h_164 [9, 18, 27, 34, 43, 51, 117, 189, 261, 333, 405, 477, 549, 621, 693, 765, 810, 817, 831, 840, 849, 857, 865, 874, 883, 892, 900, 908, 920, 928] 90 51 _ _ _).trans rfl
set_option maxRecDepth 100000 in
theorem e164_117 (E : Nat × (Nat → Int32)) (d : Nat) (r0 : Nat) (s0 : Nat) (s1 : Nat) (A : xH) : xD E (d + 1) 164 117 [.ref r0] [.ref s1, .ref s0] A = (sI 1 A s1 (12 : Int32) (102 : Int32)).bind fun A1 => (sI 1 A1 s1 (13 : Int32) (32 : Int32)).bind fun A2 => (sI 1 A2 s1 (14 : Int32) (111 : Int32)).bind fun A3 => (sI 1 A3 s1 (15 : Int32) (114 : Int32)).bind fun A4 => (sI 1 A4 s1 (16 : Int32) (32 : Int32)).bind fun A5 => (sI 1 A5 s1 (17 : Int32) (97 : Int32)).bind fun A6 => (sI 1 A6 s1 (18 : Int32) (110 : Int32)).bind fun A7 => (sI 1 A7 s1 (19 : Int32) (100 : Int32)).bind fun A8 => (sI 1 A8 s1 (20 : Int32) (32 : Int32)).bind fun A9 => (sI 1 A9 s1 (21 : Int32) (110 : Int32)).bind fun A10 => (sI 1 A10 s1 (22 : Int32) (111 : Int32)).bind fun A11 => (sI 1 A11 s1 (23 : Int32) (116 : Int32)).bind fun A12 => xD E (d + 1) 164 189 [.ref r0] [.ref s1, .ref s0] A12 := (xD_bex E d h_164 [9, 18, 27, 34, 43, 51, 117, 189, 261, 333, 405, 477, 549, 621, 693, 765, 810, 817, 831, 840, 849, 857, 865, 874, 883, 892, 900, 908, 920, 928] 90 117 _ _ _).trans rfl
set_option maxRecDepth 100000 in
theorem e164_189 (E : Nat × (Nat → Int32)) (d : Nat) (r0 : Nat) (s0 : Nat) (s1 : Nat) (A : xH) : xD E (d + 1) 164 189 [.ref r0] [.ref s1, .ref s0] A = (sI 1 A s1 (24 : Int32) (32 : Int32)).bind fun A1 => (sI 1 A1 s1 (25 : Int32) (98 : Int32)).bind fun A2 => (sI 1 A2 s1 (26 : Int32) (117 : Int32)).bind fun A3 => (sI 1 A3 s1 (27 : Int32) (99 : Int32)).bind fun A4 => (sI 1 A4 s1 (28 : Int32) (107 : Int32)).bind fun A5 => (sI 1 A5 s1 (29 : Int32) (101 : Int32)).bind fun A6 => (sI 1 A6 s1 (30 : Int32) (116 : Int32)).bind fun A7 => (sI 1 A7 s1 (31 : Int32) (32 : Int32)).bind fun A8 => (sI 1 A8 s1 (32 : Int32) (100 : Int32)).bind fun A9 => (sI 1 A9 s1 (33 : Int32) (101 : Int32)).bind fun A10 => (sI 1 A10 s1 (34 : Int32) (112 : Int32)).bind fun A11 => (sI 1 A11 s1 (35 : Int32) (116 : Int32)).bind fun A12 => xD E (d + 1) 164 261 [.ref r0] [.ref s1, .ref s0] A12 := (xD_bex E d h_164 [9, 18, 27, 34, 43, 51, 117, 189, 261, 333, 405, 477, 549, 621, 693, 765, 810, 817, 831, 840, 849, 857, 865, 874, 883, 892, 900, 908, 920, 928] 90 189 _ _ _).trans rfl
set_option maxRecDepth 100000 in
theorem e164_261 (E : Nat × (Nat → Int32)) (d : Nat) (r0 : Nat) (s0 : Nat) (s1 : Nat) (A : xH) : xD E (d + 1) 164 261 [.ref r0] [.ref s1, .ref s0] A = (sI 1 A s1 (36 : Int32) (104 : Int32)).bind fun A1 => (sI 1 A1 s1 (37 : Int32) (32 : Int32)).bind fun A2 => (sI 1 A2 s1 (38 : Int32) (107 : Int32)).bind fun A3 => (sI 1 A3 s1 (39 : Int32) (101 : Int32)).bind fun A4 => (sI 1 A4 s1 (40 : Int32) (121 : Int32)).bind fun A5 => (sI 1 A5 s1 (41 : Int32) (32 : Int32)).bind fun A6 => (sI 1 A6 s1 (42 : Int32) (104 : Int32)).bind fun A7 => (sI 1 A7 s1 (43 : Int32) (97 : Int32)).bind fun A8 => (sI 1 A8 s1 (44 : Int32) (115 : Int32)).bind fun A9 => (sI 1 A9 s1 (45 : Int32) (104 : Int32)).bind fun A10 => (sI 1 A10 s1 (46 : Int32) (32 : Int32)).bind fun A11 => (sI 1 A11 s1 (47 : Int32) (109 : Int32)).bind fun A12 => xD E (d + 1) 164 333 [.ref r0] [.ref s1, .ref s0] A12 := (xD_bex E d h_164 [9, 18, 27, 34, 43, 51, 117, 189, 261, 333, 405, 477, 549, 621, 693, 765, 810, 817, 831, 840, 849, 857, 865, 874, 883, 892, 900, 908, 920, 928] 90 261 _ _ _).trans rfl
set_option maxRecDepth 100000 in
theorem e164_333 (E : Nat × (Nat → Int32)) (d : Nat) (r0 : Nat) (s0 : Nat) (s1 : Nat) (A : xH) : xD E (d + 1) 164 333 [.ref r0] [.ref s1, .ref s0] A = (sI 1 A s1 (48 : Int32) (111 : Int32)).bind fun A1 => (sI 1 A1 s1 (49 : Int32) (111 : Int32)).bind fun A2 => (sI 1 A2 s1 (50 : Int32) (100 : Int32)).bind fun A3 => (sI 1 A3 s1 (51 : Int32) (32 : Int32)).bind fun A4 => (sI 1 A4 s1 (52 : Int32) (109 : Int32)).bind fun A5 => (sI 1 A5 s1 (53 : Int32) (97 : Int32)).bind fun A6 => (sI 1 A6 s1 (54 : Int32) (110 : Int32)).bind fun A7 => (sI 1 A7 s1 (55 : Int32) (121 : Int32)).bind fun A8 => (sI 1 A8 s1 (56 : Int32) (32 : Int32)).bind fun A9 => (sI 1 A9 s1 (57 : Int32) (116 : Int32)).bind fun A10 => (sI 1 A10 s1 (58 : Int32) (105 : Int32)).bind fun A11 => (sI 1 A11 s1 (59 : Int32) (109 : Int32)).bind fun A12 => xD E (d + 1) 164 405 [.ref r0] [.ref s1, .ref s0] A12 := (xD_bex E d h_164 [9, 18, 27, 34, 43, 51, 117, 189, 261, 333, 405, 477, 549, 621, 693, 765, 810, 817, 831, 840, 849, 857, 865, 874, 883, 892, 900, 908, 920, 928] 90 333 _ _ _).trans rfl
set_option maxRecDepth 100000 in
theorem e164_405 (E : Nat × (Nat → Int32)) (d : Nat) (r0 : Nat) (s0 : Nat) (s1 : Nat) (A : xH) : xD E (d + 1) 164 405 [.ref r0] [.ref s1, .ref s0] A = (sI 1 A s1 (60 : Int32) (101 : Int32)).bind fun A1 => (sI 1 A1 s1 (61 : Int32) (32 : Int32)).bind fun A2 => (sI 1 A2 s1 (62 : Int32) (100 : Int32)).bind fun A3 => (sI 1 A3 s1 (63 : Int32) (111 : Int32)).bind fun A4 => (sI 1 A4 s1 (64 : Int32) (110 : Int32)).bind fun A5 => (sI 1 A5 s1 (65 : Int32) (101 : Int32)).bind fun A6 => (sI 1 A6 s1 (66 : Int32) (32 : Int32)).bind fun A7 => (sI 1 A7 s1 (67 : Int32) (108 : Int32)).bind fun A8 => (sI 1 A8 s1 (68 : Int32) (97 : Int32)).bind fun A9 => (sI 1 A9 s1 (69 : Int32) (116 : Int32)).bind fun A10 => (sI 1 A10 s1 (70 : Int32) (101 : Int32)).bind fun A11 => (sI 1 A11 s1 (71 : Int32) (115 : Int32)).bind fun A12 => xD E (d + 1) 164 477 [.ref r0] [.ref s1, .ref s0] A12 := (xD_bex E d h_164 [9, 18, 27, 34, 43, 51, 117, 189, 261, 333, 405, 477, 549, 621, 693, 765, 810, 817, 831, 840, 849, 857, 865, 874, 883, 892, 900, 908, 920, 928] 90 405 _ _ _).trans rfl
set_option maxRecDepth 100000 in
theorem e164_477 (E : Nat × (Nat → Int32)) (d : Nat) (r0 : Nat) (s0 : Nat) (s1 : Nat) (A : xH) : xD E (d + 1) 164 477 [.ref r0] [.ref s1, .ref s0] A = (sI 1 A s1 (72 : Int32) (116 : Int32)).bind fun A1 => (sI 1 A1 s1 (73 : Int32) (32 : Int32)).bind fun A2 => (sI 1 A2 s1 (74 : Int32) (100 : Int32)).bind fun A3 => (sI 1 A3 s1 (75 : Int32) (101 : Int32)).bind fun A4 => (sI 1 A4 s1 (76 : Int32) (101 : Int32)).bind fun A5 => (sI 1 A5 s1 (77 : Int32) (112 : Int32)).bind fun A6 => (sI 1 A6 s1 (78 : Int32) (32 : Int32)).bind fun A7 => (sI 1 A7 s1 (79 : Int32) (119 : Int32)).bind fun A8 => (sI 1 A8 s1 (80 : Int32) (97 : Int32)).bind fun A9 => (sI 1 A9 s1 (81 : Int32) (105 : Int32)).bind fun A10 => (sI 1 A10 s1 (82 : Int32) (116 : Int32)).bind fun A11 => (sI 1 A11 s1 (83 : Int32) (115 : Int32)).bind fun A12 => xD E (d + 1) 164 549 [.ref r0] [.ref s1, .ref s0] A12 := (xD_bex E d h_164 [9, 18, 27, 34, 43, 51, 117, 189, 261, 333, 405, 477, 549, 621, 693, 765, 810, 817, 831, 840, 849, 857, 865, 874, 883, 892, 900, 908, 920, 928] 90 477 _ _ _).trans rfl
set_option maxRecDepth 100000 in
theorem e164_549 (E : Nat × (Nat → Int32)) (d : Nat) (r0 : Nat) (s0 : Nat) (s1 : Nat) (A : xH) : xD E (d + 1) 164 549 [.ref r0] [.ref s1, .ref s0] A = (sI 1 A s1 (84 : Int32) (32 : Int32)).bind fun A1 => (sI 1 A1 s1 (85 : Int32) (107 : Int32)).bind fun A2 => (sI 1 A2 s1 (86 : Int32) (101 : Int32)).bind fun A3 => (sI 1 A3 s1 (87 : Int32) (121 : Int32)).bind fun A4 => (sI 1 A4 s1 (88 : Int32) (115 : Int32)).bind fun A5 => (sI 1 A5 s1 (89 : Int32) (32 : Int32)).bind fun A6 => (sI 1 A6 s1 (90 : Int32) (118 : Int32)).bind fun A7 => (sI 1 A7 s1 (91 : Int32) (97 : Int32)).bind fun A8 => (sI 1 A8 s1 (92 : Int32) (108 : Int32)).bind fun A9 => (sI 1 A9 s1 (93 : Int32) (117 : Int32)).bind fun A10 => (sI 1 A10 s1 (94 : Int32) (101 : Int32)).bind fun A11 => (sI 1 A11 s1 (95 : Int32) (32 : Int32)).bind fun A12 => xD E (d + 1) 164 621 [.ref r0] [.ref s1, .ref s0] A12 := (xD_bex E d h_164 [9, 18, 27, 34, 43, 51, 117, 189, 261, 333, 405, 477, 549, 621, 693, 765, 810, 817, 831, 840, 849, 857, 865, 874, 883, 892, 900, 908, 920, 928] 90 549 _ _ _).trans rfl
set_option maxRecDepth 100000 in
theorem e164_621 (E : Nat × (Nat → Int32)) (d : Nat) (r0 : Nat) (s0 : Nat) (s1 : Nat) (A : xH) : xD E (d + 1) 164 621 [.ref r0] [.ref s1, .ref s0] A = (sI 1 A s1 (96 : Int32) (112 : Int32)).bind fun A1 => (sI 1 A1 s1 (97 : Int32) (117 : Int32)).bind fun A2 => (sI 1 A2 s1 (98 : Int32) (116 : Int32)).bind fun A3 => (sI 1 A3 s1 (99 : Int32) (32 : Int32)).bind fun A4 => (sI 1 A4 s1 (100 : Int32) (97 : Int32)).bind fun A5 => (sI 1 A5 s1 (101 : Int32) (115 : Int32)).bind fun A6 => (sI 1 A6 s1 (102 : Int32) (32 : Int32)).bind fun A7 => (sI 1 A7 s1 (103 : Int32) (100 : Int32)).bind fun A8 => (sI 1 A8 s1 (104 : Int32) (114 : Int32)).bind fun A9 => (sI 1 A9 s1 (105 : Int32) (111 : Int32)).bind fun A10 => (sI 1 A10 s1 (106 : Int32) (112 : Int32)).bind fun A11 => (sI 1 A11 s1 (107 : Int32) (32 : Int32)).bind fun A12 => xD E (d + 1) 164 693 [.ref r0] [.ref s1, .ref s0] A12 := (xD_bex E d h_164 [9, 18, 27, 34, 43, 51, 117, 189, 261, 333, 405, 477, 549, 621, 693, 765, 810, 817, 831, 840, 849, 857, 865, 874, 883, 892, 900, 908, 920, 928] 90 621 _ _ _).trans rfl
set_option maxRecDepth 100000 in
theorem e164_693 (E : Nat × (Nat → Int32)) (d : Nat) (r0 : Nat) (s0 : Nat) (s1 : Nat) (A : xH) : xD E (d + 1) 164 693 [.ref r0] [.ref s1, .ref s0] A = (sI 1 A s1 (108 : Int32) (102 : Int32)).bind fun A1 => (sI 1 A1 s1 (109 : Int32) (108 : Int32)).bind fun A2 => (sI 1 A2 s1 (110 : Int32) (117 : Int32)).bind fun A3 => (sI 1 A3 s1 (111 : Int32) (115 : Int32)).bind fun A4 => (sI 1 A4 s1 (112 : Int32) (104 : Int32)).bind fun A5 => (sI 1 A5 s1 (113 : Int32) (32 : Int32)).bind fun A6 => (sI 1 A6 s1 (114 : Int32) (99 : Int32)).bind fun A7 => (sI 1 A7 s1 (115 : Int32) (114 : Int32)).bind fun A8 => (sI 1 A8 s1 (116 : Int32) (97 : Int32)).bind fun A9 => (sI 1 A9 s1 (117 : Int32) (115 : Int32)).bind fun A10 => (sI 1 A10 s1 (118 : Int32) (104 : Int32)).bind fun A11 => (sI 1 A11 s1 (119 : Int32) (32 : Int32)).bind fun A12 => xD E (d + 1) 164 765 [.ref r0] [.ref s1, .ref s0] A12 := (xD_bex E d h_164 [9, 18, 27, 34, 43, 51, 117, 189, 261, 333, 405, 477, 549, 621, 693, 765, 810, 817, 831, 840, 849, 857, 865, 874, 883, 892, 900, 908, 920, 928] 90 693 _ _ _).trans rfl
set_option maxRecDepth 100000 in
theorem e164_765 (E : Nat × (Nat → Int32)) (d : Nat) (r0 : Nat) (s0 : Nat) (s1 : Nat) (A : xH) : xD E (d + 1) 164 765 [.ref r0] [.ref s1, .ref s0] A = (sI 1 A s1 (120 : Int32) (116 : Int32)).bind fun A1 => (sI 1 A1 s1 (121 : Int32) (105 : Int32)).bind fun A2 => (sI 1 A2 s1 (122 : Int32) (109 : Int32)).bind fun A3 => (sI 1 A3 s1 (123 : Int32) (101 : Int32)).bind fun A4 => (sI 1 A4 s1 (124 : Int32) (115 : Int32)).bind fun A5 => (sI 1 A5 s1 (125 : Int32) (32 : Int32)).bind fun A6 => (pF A6 s0 9 7 (.ref s1)).bind fun A7 => xD E (d + 1) 164 810 [.ref r0] [.ref A7.length, .ref r0] (A7 ++ [.inl (1, 400, .inl fun _ => 0)]) := (xD_bex E d h_164 [9, 18, 27, 34, 43, 51, 117, 189, 261, 333, 405, 477, 549, 621, 693, 765, 810, 817, 831, 840, 849, 857, 865, 874, 883, 892, 900, 908, 920, 928] 90 765 _ _ _).trans rfl
set_option maxRecDepth 100000 in
theorem e164_810 (E : Nat × (Nat → Int32)) (d : Nat) (r0 : Nat) (s0 : Nat) (s1 : Nat) (A : xH) : xD E (d + 1) 164 810 [.ref r0] [.ref s1, .ref s0] A = (pF A s0 9 11 (.ref s1)).bind fun A1 => xD E (d + 1) 164 817 [.ref r0] [.ref A1.length, .ref r0] (A1 ++ [.inl (0, 5, .inl fun _ => 0)]) := (xD_bex E d h_164 [9, 18, 27, 34, 43, 51, 117, 189, 261, 333, 405, 477, 549, 621, 693, 765, 810, 817, 831, 840, 849, 857, 865, 874, 883, 892, 900, 908, 920, 928] 90 810 _ _ _).trans rfl
set_option maxRecDepth 100000 in
theorem e164_817 (E : Nat × (Nat → Int32)) (d : Nat) (r0 : Nat) (s0 : Nat) (s1 : Nat) (A : xH) : xD E (d + 1) 164 817 [.ref r0] [.ref s1, .ref s0] A = (pF A s0 9 12 (.ref s1)).bind fun A1 => (pF A1 r0 9 14 (.int (-1 : Int32))).bind fun A2 => xD E (d + 1) 164 831 [.ref r0] [.ref A2.length, .ref r0] (A2 ++ [.inl (0, 401, .inl fun _ => 0)]) := (xD_bex E d h_164 [9, 18, 27, 34, 43, 51, 117, 189, 261, 333, 405, 477, 549, 621, 693, 765, 810, 817, 831, 840, 849, 857, 865, 874, 883, 892, 900, 908, 920, 928] 90 817 _ _ _).trans rfl
set_option maxRecDepth 100000 in
theorem e164_831 (E : Nat × (Nat → Int32)) (d : Nat) (r0 : Nat) (s0 : Nat) (s1 : Nat) (A : xH) : xD E (d + 1) 164 831 [.ref r0] [.ref s1, .ref s0] A = (pF A s0 9 15 (.ref s1)).bind fun A1 => xD E (d + 1) 164 840 [.ref r0] [.ref A1.length, .ref r0] (A1 ++ [.inl (0, 401, .inl fun _ => 0)]) := (xD_bex E d h_164 [9, 18, 27, 34, 43, 51, 117, 189, 261, 333, 405, 477, 549, 621, 693, 765, 810, 817, 831, 840, 849, 857, 865, 874, 883, 892, 900, 908, 920, 928] 90 831 _ _ _).trans rfl
set_option maxRecDepth 100000 in
theorem e164_840 (E : Nat × (Nat → Int32)) (d : Nat) (r0 : Nat) (s0 : Nat) (s1 : Nat) (A : xH) : xD E (d + 1) 164 840 [.ref r0] [.ref s1, .ref s0] A = (pF A s0 9 16 (.ref s1)).bind fun A1 => xD E (d + 1) 164 849 [.ref r0] [.ref A1.length, .ref r0] (A1 ++ [.inl (0, 401, .inl fun _ => 0)]) := (xD_bex E d h_164 [9, 18, 27, 34, 43, 51, 117, 189, 261, 333, 405, 477, 549, 621, 693, 765, 810, 817, 831, 840, 849, 857, 865, 874, 883, 892, 900, 908, 920, 928] 90 840 _ _ _).trans rfl
set_option maxRecDepth 100000 in
theorem e164_849 (E : Nat × (Nat → Int32)) (d : Nat) (r0 : Nat) (s0 : Nat) (s1 : Nat) (A : xH) : xD E (d + 1) 164 849 [.ref r0] [.ref s1, .ref s0] A = (pF A s0 9 17 (.ref s1)).bind fun A1 => xD E (d + 1) 164 857 [.ref r0] [.ref A1.length, .ref r0] (A1 ++ [.inl (0, 7, .inl fun _ => 0)]) := (xD_bex E d h_164 [9, 18, 27, 34, 43, 51, 117, 189, 261, 333, 405, 477, 549, 621, 693, 765, 810, 817, 831, 840, 849, 857, 865, 874, 883, 892, 900, 908, 920, 928] 90 849 _ _ _).trans rfl
set_option maxRecDepth 100000 in
theorem e164_857 (E : Nat × (Nat → Int32)) (d : Nat) (r0 : Nat) (s0 : Nat) (s1 : Nat) (A : xH) : xD E (d + 1) 164 857 [.ref r0] [.ref s1, .ref s0] A = (pF A s0 9 26 (.ref s1)).bind fun A1 => xD E (d + 1) 164 865 [.ref r0] [.ref A1.length, .ref r0] (A1 ++ [.inl (0, 64, .inl fun _ => 0)]) := (xD_bex E d h_164 [9, 18, 27, 34, 43, 51, 117, 189, 261, 333, 405, 477, 549, 621, 693, 765, 810, 817, 831, 840, 849, 857, 865, 874, 883, 892, 900, 908, 920, 928] 90 857 _ _ _).trans rfl
set_option maxRecDepth 100000 in
theorem e164_865 (E : Nat × (Nat → Int32)) (d : Nat) (r0 : Nat) (s0 : Nat) (s1 : Nat) (A : xH) : xD E (d + 1) 164 865 [.ref r0] [.ref s1, .ref s0] A = (pF A s0 9 29 (.ref s1)).bind fun A1 => xD E (d + 1) 164 874 [.ref r0] [.ref A1.length, .ref r0] (A1 ++ [.inl (0, 15424, .inl fun _ => 0)]) := (xD_bex E d h_164 [9, 18, 27, 34, 43, 51, 117, 189, 261, 333, 405, 477, 549, 621, 693, 765, 810, 817, 831, 840, 849, 857, 865, 874, 883, 892, 900, 908, 920, 928] 90 865 _ _ _).trans rfl
set_option maxRecDepth 100000 in
theorem e164_874 (E : Nat × (Nat → Int32)) (d : Nat) (r0 : Nat) (s0 : Nat) (s1 : Nat) (A : xH) : xD E (d + 1) 164 874 [.ref r0] [.ref s1, .ref s0] A = (pF A s0 9 30 (.ref s1)).bind fun A1 => xD E (d + 1) 164 883 [.ref r0] [.ref A1.length, .ref r0] (A1 ++ [.inl (0, 15424, .inl fun _ => 0)]) := (xD_bex E d h_164 [9, 18, 27, 34, 43, 51, 117, 189, 261, 333, 405, 477, 549, 621, 693, 765, 810, 817, 831, 840, 849, 857, 865, 874, 883, 892, 900, 908, 920, 928] 90 874 _ _ _).trans rfl
set_option maxRecDepth 100000 in
theorem e164_883 (E : Nat × (Nat → Int32)) (d : Nat) (r0 : Nat) (s0 : Nat) (s1 : Nat) (A : xH) : xD E (d + 1) 164 883 [.ref r0] [.ref s1, .ref s0] A = (pF A s0 9 31 (.ref s1)).bind fun A1 => xD E (d + 1) 164 892 [.ref r0] [.ref A1.length, .ref r0] (A1 ++ [.inl (0, 1000, .inl fun _ => 0)]) := (xD_bex E d h_164 [9, 18, 27, 34, 43, 51, 117, 189, 261, 333, 405, 477, 549, 621, 693, 765, 810, 817, 831, 840, 849, 857, 865, 874, 883, 892, 900, 908, 920, 928] 90 883 _ _ _).trans rfl
set_option maxRecDepth 100000 in
theorem e164_892 (E : Nat × (Nat → Int32)) (d : Nat) (r0 : Nat) (s0 : Nat) (s1 : Nat) (A : xH) : xD E (d + 1) 164 892 [.ref r0] [.ref s1, .ref s0] A = (pF A s0 9 33 (.ref s1)).bind fun A1 => xD E (d + 1) 164 900 [.ref r0] [.ref A1.length, .ref r0] (A1 ++ [.inl (0, 64, .inl fun _ => 0)]) := (xD_bex E d h_164 [9, 18, 27, 34, 43, 51, 117, 189, 261, 333, 405, 477, 549, 621, 693, 765, 810, 817, 831, 840, 849, 857, 865, 874, 883, 892, 900, 908, 920, 928] 90 892 _ _ _).trans rfl
set_option maxRecDepth 100000 in
theorem e164_900 (E : Nat × (Nat → Int32)) (d : Nat) (r0 : Nat) (s0 : Nat) (s1 : Nat) (A : xH) : xD E (d + 1) 164 900 [.ref r0] [.ref s1, .ref s0] A = (pF A s0 9 34 (.ref s1)).bind fun A1 => xD E (d + 1) 164 908 [.ref r0] [.ref A1.length, .ref r0] (A1 ++ [.inl (3, 21, .inr (.inl fun _ => 0))]) := (xD_bex E d h_164 [9, 18, 27, 34, 43, 51, 117, 189, 261, 333, 405, 477, 549, 621, 693, 765, 810, 817, 831, 840, 849, 857, 865, 874, 883, 892, 900, 908, 920, 928] 90 900 _ _ _).trans rfl
set_option maxRecDepth 100000 in
theorem e164_908 (E : Nat × (Nat → Int32)) (d : Nat) (r0 : Nat) (s0 : Nat) (s1 : Nat) (A : xH) : xD E (d + 1) 164 908 [.ref r0] [.ref s1, .ref s0] A = (pF A s0 9 35 (.ref s1)).bind fun A1 => (pF A1 r0 9 36 (.int (-1 : Int32))).bind fun A2 => xD E (d + 1) 164 920 [.ref r0] [.ref A2.length, .ref r0] (A2 ++ [.inl (3, 2, .inr (.inl fun _ => 0))]) := (xD_bex E d h_164 [9, 18, 27, 34, 43, 51, 117, 189, 261, 333, 405, 477, 549, 621, 693, 765, 810, 817, 831, 840, 849, 857, 865, 874, 883, 892, 900, 908, 920, 928] 90 908 _ _ _).trans rfl
set_option maxRecDepth 100000 in
theorem e164_920 (E : Nat × (Nat → Int32)) (d : Nat) (r0 : Nat) (s0 : Nat) (s1 : Nat) (A : xH) : xD E (d + 1) 164 920 [.ref r0] [.ref s1, .ref s0] A = (pF A s0 9 42 (.ref s1)).bind fun A1 => xD E (d + 1) 164 928 [.ref r0] [.ref A1.length, .ref r0] (A1 ++ [.inl (0, 40, .inl fun _ => 0)]) := (xD_bex E d h_164 [9, 18, 27, 34, 43, 51, 117, 189, 261, 333, 405, 477, 549, 621, 693, 765, 810, 817, 831, 840, 849, 857, 865, 874, 883, 892, 900, 908, 920, 928] 90 920 _ _ _).trans rfl
set_option maxRecDepth 100000 in
theorem e164_928 (E : Nat × (Nat → Int32)) (d : Nat) (r0 : Nat) (s0 : Nat) (s1 : Nat) (A : xH) : xD E (d + 1) 164 928 [.ref r0] [.ref s1, .ref s0] A = (pF A s0 9 43 (.ref s1)).bind fun A1 => (gN A1 r0 9 2).bind fun n2 => (sI 0 A1 n2 (975 : Int32) (1 : Int32)).bind fun A3 => (gN A3 r0 9 2).bind fun n4 => (sI 0 A3 n4 (980 : Int32) (-1 : Int32)).bind fun A5 => (gN A5 r0 9 2).bind fun n6 => (sI 0 A5 n6 (0 : Int32) (1 : Int32)).bind fun A7 => (gN A7 r0 9 2).bind fun n8 => (sI 0 A7 n8 (240 : Int32) (1 : Int32)).bind fun A9 => some (none, A9) := (xD_bex E d h_164 [9, 18, 27, 34, 43, 51, 117, 189, 261, 333, 405, 477, 549, 621, 693, 765, 810, 817, 831, 840, 849, 857, 865, 874, 883, 892, 900, 908, 920, 928] 90 928 _ _ _).trans rfl
-- Model.laysAside (I)V
set_option maxRecDepth 100000 in
theorem h_165 : xprog[165]? = some M_165 := rfl
set_option maxRecDepth 100000 in
theorem e165_0 (E : Nat × (Nat → Int32)) (d : Nat) (r0 : Nat) (i1 : Int32) (A : xH) : xD E (d + 1) 165 0 [.ref r0, .int i1, xJ] [] A = xD E (d + 1) 165 2 [.ref r0, .int i1, .int (0 : Int32)] [] A := (xD_bex E d h_165 [2] 90 0 _ _ _).trans rfl
set_option maxRecDepth 100000 in
theorem e165_2 (E : Nat × (Nat → Int32)) (d : Nat) (r0 : Nat) (i1 : Int32) (i2 : Int32) (A : xH) : xD E (d + 1) 165 2 [.ref r0, .int i1, .int i2] [] A = if (963 : Int32) ≤ i2 then some (none, A) else (gN A r0 9 5).bind fun n1 => (gN A r0 9 2).bind fun n2 => (aI 0 A n2 i2).bind fun x3 => (sI 0 A n1 (((963 : Int32) * i1) + i2) x3).bind fun A4 => xD E (d + 1) 165 2 [.ref r0, .int i1, .int (i2 + (1 : Int32))] [] A4 := (xD_bex E d h_165 [2] 90 2 _ _ _).trans rfl
-- Model.takesBack (I)V
set_option maxRecDepth 100000 in
theorem h_166 : xprog[166]? = some M_166 := rfl
set_option maxRecDepth 100000 in
theorem e166_0 (E : Nat × (Nat → Int32)) (d : Nat) (r0 : Nat) (i1 : Int32) (A : xH) : xD E (d + 1) 166 0 [.ref r0, .int i1, xJ] [] A = xD E (d + 1) 166 2 [.ref r0, .int i1, .int (0 : Int32)] [] A := (xD_bex E d h_166 [2] 90 0 _ _ _).trans rfl
set_option maxRecDepth 100000 in
theorem e166_2 (E : Nat × (Nat → Int32)) (d : Nat) (r0 : Nat) (i1 : Int32) (i2 : Int32) (A : xH) : xD E (d + 1) 166 2 [.ref r0, .int i1, .int i2] [] A = if (963 : Int32) ≤ i2 then some (none, A) else (gN A r0 9 2).bind fun n1 => (gN A r0 9 5).bind fun n2 => (aI 0 A n2 (((963 : Int32) * i1) + i2)).bind fun x3 => (sI 0 A n1 i2 x3).bind fun A4 => xD E (d + 1) 166 2 [.ref r0, .int i1, .int (i2 + (1 : Int32))] [] A4 := (xD_bex E d h_166 [2] 90 2 _ _ _).trans rfl
-- Model.image (I)I
set_option maxRecDepth 100000 in
theorem h_167 : xprog[167]? = some M_167 := rfl
set_option maxRecDepth 100000 in
theorem e167_0 (E : Nat × (Nat → Int32)) (d : Nat) (r0 : Nat) (i1 : Int32) (A : xH) : xD E (d + 1) 167 0 [.ref r0, .int i1, xJ] [] A = (xI (xC E d 154 [.int i1, .int (0 : Int32), .int (1 : Int32)] A)).bind fun q1 => if q1.1 = 0 then (xI (xC E d 157 [.ref r0, .int (-1 : Int32)] q1.2)).bind fun q2 => some (some (.int q2.1), q2.2) else xD E (d + 1) 167 17 [.ref r0, .int i1, .int (0 : Int32)] [] q1.2 := (xD_bex E d h_167 [17] 90 0 _ _ _).trans rfl
set_option maxRecDepth 100000 in
theorem e167_17 (E : Nat × (Nat → Int32)) (d : Nat) (r0 : Nat) (i1 : Int32) (i2 : Int32) (A : xH) : xD E (d + 1) 167 17 [.ref r0, .int i1, .int i2] [] A = if (6588 : Int32) ≤ i2 then (gN A r0 9 4).bind fun n1 => (sI 2 A n1 i1 (1 : Int32)).bind fun A2 => (xI (xC E d 158 [.ref r0, .int (0 : Int32)] A2)).bind fun q3 => some (some (.int q3.1), q3.2) else (gN A r0 9 3).bind fun n4 => (gN A r0 9 2).bind fun n5 => (aI 0 A n5 i2).bind fun x6 => (sI 0 A n4 (((6588 : Int32) * i1) + i2) x6).bind fun A7 => xD E (d + 1) 167 17 [.ref r0, .int i1, .int (i2 + (1 : Int32))] [] A7 := (xD_bex E d h_167 [17] 90 17 _ _ _).trans rfl
-- Model.back (I)I
set_option maxRecDepth 100000 in
theorem h_168 : xprog[168]? = some M_168 := rfl
set_option maxRecDepth 100000 in
theorem e168_0 (E : Nat × (Nat → Int32)) (d : Nat) (r0 : Nat) (i1 : Int32) (A : xH) : xD E (d + 1) 168 0 [.ref r0, .int i1, xJ] [] A = (xI (xC E d 154 [.int i1, .int (0 : Int32), .int (1 : Int32)] A)).bind fun q1 => if q1.1 = 0 then (xI (xC E d 157 [.ref r0, .int (-1 : Int32)] q1.2)).bind fun q2 => some (some (.int q2.1), q2.2) else (gN q1.2 r0 9 4).bind fun n3 => (aI 2 q1.2 n3 i1).bind fun x4 => if x4 = 0 then (xI (xC E d 157 [.ref r0, .int (-2 : Int32)] q1.2)).bind fun q5 => some (some (.int q5.1), q5.2) else xD E (d + 1) 168 33 [.ref r0, .int i1, .int (0 : Int32)] [] q1.2 := (xD_bex E d h_168 [33] 90 0 _ _ _).trans rfl
set_option maxRecDepth 100000 in
theorem e168_33 (E : Nat × (Nat → Int32)) (d : Nat) (r0 : Nat) (i1 : Int32) (i2 : Int32) (A : xH) : xD E (d + 1) 168 33 [.ref r0, .int i1, .int i2] [] A = if (6588 : Int32) ≤ i2 then (xI (xC E d 159 [.ref r0, .int (0 : Int32)] A)).bind fun q1 => some (some (.int q1.1), q1.2) else (gN A r0 9 2).bind fun n2 => (gN A r0 9 3).bind fun n3 => (aI 0 A n3 (((6588 : Int32) * i1) + i2)).bind fun x4 => (sI 0 A n2 i2 x4).bind fun A5 => xD E (d + 1) 168 33 [.ref r0, .int i1, .int (i2 + (1 : Int32))] [] A5 := (xD_bex E d h_168 [33] 90 33 _ _ _).trans rfl
-- Model.at (II)I
set_option maxRecDepth 100000 in
theorem h_169 : xprog[169]? = some M_169 := rfl
set_option maxRecDepth 100000 in
theorem e169_0 (E : Nat × (Nat → Int32)) (d : Nat) (i0 : Int32) (i1 : Int32) (A : xH) : xD E (d + 1) 169 0 [.int i0, .int i1] [] A = some (some (.int (((10 : Int32) * i0) + i1)), A) := (xD_bex E d h_169 [] 90 0 _ _ _).trans rfl
-- Model.isUsed (I)Z
set_option maxRecDepth 100000 in
theorem h_170 : xprog[170]? = some M_170 := rfl
set_option maxRecDepth 100000 in
theorem e170_0 (E : Nat × (Nat → Int32)) (d : Nat) (r0 : Nat) (i1 : Int32) (A : xH) : xD E (d + 1) 170 0 [.ref r0, .int i1] [] A = (gN A r0 9 2).bind fun n1 => (xI (xC E d 169 [.int i1, .int (0 : Int32)] A)).bind fun q2 => (aI 0 q2.2 n1 q2.1).bind fun x3 => if x3 = (1 : Int32) then some (some (.int (1 : Int32)), q2.2) else some (some (.int (0 : Int32)), q2.2) := (xD_bex E d h_170 [] 90 0 _ _ _).trans rfl
-- Model.usedMany ()I
set_option maxRecDepth 100000 in
theorem h_171 : xprog[171]? = some M_171 := rfl
set_option maxRecDepth 100000 in
theorem e171_0 (E : Nat × (Nat → Int32)) (d : Nat) (r0 : Nat) (A : xH) : xD E (d + 1) 171 0 [.ref r0, xJ, xJ] [] A = xD E (d + 1) 171 4 [.ref r0, .int (0 : Int32), .int (0 : Int32)] [] A := (xD_bex E d h_171 [4] 90 0 _ _ _).trans rfl
set_option maxRecDepth 100000 in
theorem e171_4 (E : Nat × (Nat → Int32)) (d : Nat) (r0 : Nat) (i1 : Int32) (i2 : Int32) (A : xH) : xD E (d + 1) 171 4 [.ref r0, .int i1, .int i2] [] A = if (24 : Int32) ≤ i2 then some (some (.int i1), A) else (gN A r0 9 2).bind fun n1 => (xI (xC E d 169 [.int i2, .int (0 : Int32)] A)).bind fun q2 => (aI 0 q2.2 n1 q2.1).bind fun x3 => xD E (d + 1) 171 4 [.ref r0, .int (i1 + x3), .int (i2 + (1 : Int32))] [] q2.2 := (xD_bex E d h_171 [4] 90 4 _ _ _).trans rfl
-- Model.keyMany ()I
set_option maxRecDepth 100000 in
theorem h_172 : xprog[172]? = some M_172 := rfl
set_option maxRecDepth 100000 in
theorem e172_0 (E : Nat × (Nat → Int32)) (d : Nat) (r0 : Nat) (A : xH) : xD E (d + 1) 172 0 [.ref r0, xJ, xJ] [] A = xD E (d + 1) 172 4 [.ref r0, .int (0 : Int32), .int (0 : Int32)] [] A := (xD_bex E d h_172 [4] 90 0 _ _ _).trans rfl
set_option maxRecDepth 100000 in
theorem e172_4 (E : Nat × (Nat → Int32)) (d : Nat) (r0 : Nat) (i1 : Int32) (i2 : Int32) (A : xH) : xD E (d + 1) 172 4 [.ref r0, .int i1, .int i2] [] A = if (24 : Int32) ≤ i2 then some (some (.int i1), A) else (xI (xC E d 170 [.ref r0, .int i2] A)).bind fun q1 => if q1.1 = 0 then xD E (d + 1) 172 4 [.ref r0, .int (i1 + (0 : Int32)), .int (i2 + (1 : Int32))] [] q1.2 else (gN q1.2 r0 9 2).bind fun n2 => (xI (xC E d 169 [.int i2, .int (3 : Int32)] q1.2)).bind fun q3 => (aI 0 q3.2 n2 q3.1).bind fun x4 => xD E (d + 1) 172 4 [.ref r0, .int (i1 + x4), .int (i2 + (1 : Int32))] [] q3.2 := (xD_bex E d h_172 [4] 90 4 _ _ _).trans rfl
-- Model.lowBits (II)I
set_option maxRecDepth 100000 in
theorem h_173 : xprog[173]? = some M_173 := rfl
set_option maxRecDepth 100000 in
theorem e173_0 (E : Nat × (Nat → Int32)) (d : Nat) (i0 : Int32) (i1 : Int32) (A : xH) : xD E (d + 1) 173 0 [.int i0, .int i1] [] A = some (some (.int (i0 &&& (((1 : Int32) <<< (i1 &&& 31)) - (1 : Int32)))), A) := (xD_bex E d h_173 [] 90 0 _ _ _).trans rfl
-- Model.hashOf (I)I
set_option maxRecDepth 100000 in
theorem h_174 : xprog[174]? = some M_174 := rfl
set_option maxRecDepth 100000 in
theorem e174_0 (E : Nat × (Nat → Int32)) (d : Nat) (r0 : Nat) (i1 : Int32) (A : xH) : xD E (d + 1) 174 0 [.ref r0, .int i1] [] A = (gN A r0 9 2).bind fun n1 => (aI 0 A n1 (977 : Int32)).bind fun x2 => some (some (.int (xrem (((421 : Int32) * i1) + x2) (1024 : Int32))), A) := (xD_bex E d h_174 [] 90 0 _ _ _).trans rfl
-- Model.ownerOf (I)I
set_option maxRecDepth 100000 in
theorem h_175 : xprog[175]? = some M_175 := rfl
set_option maxRecDepth 100000 in
theorem e175_0 (E : Nat × (Nat → Int32)) (d : Nat) (r0 : Nat) (i1 : Int32) (A : xH) : xD E (d + 1) 175 0 [.ref r0, .int i1, xJ] [] A = xD E (d + 1) 175 2 [.ref r0, .int i1, .int (0 : Int32)] [] A := (xD_bex E d h_175 [2] 90 0 _ _ _).trans rfl
set_option maxRecDepth 100000 in
theorem e175_2 (E : Nat × (Nat → Int32)) (d : Nat) (r0 : Nat) (i1 : Int32) (i2 : Int32) (A : xH) : xD E (d + 1) 175 2 [.ref r0, .int i1, .int i2] [] A = (xI (xC E d 170 [.ref r0, .int i2] A)).bind fun q1 => if q1.1 = 0 then xD E (d + 1) 175 2 [.ref r0, .int i1, .int (i2 + (1 : Int32))] [] q1.2 else (gN q1.2 r0 9 2).bind fun n2 => (xI (xC E d 169 [.int i2, .int (2 : Int32)] q1.2)).bind fun q3 => (aI 0 q3.2 n2 q3.1).bind fun x4 => (gN q3.2 r0 9 2).bind fun n5 => (xI (xC E d 169 [.int i2, .int (1 : Int32)] q3.2)).bind fun q6 => (aI 0 q6.2 n5 q6.1).bind fun x7 => (xI (xC E d 173 [.int i1, .int x7] q6.2)).bind fun q8 => if x4 = q8.1 then some (some (.int i2), q8.2) else xD E (d + 1) 175 2 [.ref r0, .int i1, .int (i2 + (1 : Int32))] [] q8.2 := (xD_bex E d h_175 [2] 90 2 _ _ _).trans rfl
-- Model.soughtIn (I)I
set_option maxRecDepth 100000 in
theorem h_176 : xprog[176]? = some M_176 := rfl
set_option maxRecDepth 100000 in
theorem e176_0 (E : Nat × (Nat → Int32)) (d : Nat) (r0 : Nat) (i1 : Int32) (A : xH) : xD E (d + 1) 176 0 [.ref r0, .int i1] [] A = (xI (xC E d 174 [.ref r0, .int i1] A)).bind fun q1 => (xI (xC E d 175 [.ref r0, .int q1.1] q1.2)).bind fun q2 => some (some (.int q2.1), q2.2) := (xD_bex E d h_176 [] 90 0 _ _ _).trans rfl
-- Model.placeOf (I)I
set_option maxRecDepth 100000 in
theorem h_177 : xprog[177]? = some M_177 := rfl
set_option maxRecDepth 100000 in
theorem e177_0 (E : Nat × (Nat → Int32)) (d : Nat) (r0 : Nat) (i1 : Int32) (A : xH) : xD E (d + 1) 177 0 [.ref r0, .int i1, xJ, xJ] [] A = (xI (xC E d 176 [.ref r0, .int i1] A)).bind fun q1 => xD E (d + 1) 177 8 [.ref r0, .int i1, .int q1.1, .int (0 : Int32)] [] q1.2 := (xD_bex E d h_177 [8] 90 0 _ _ _).trans rfl
set_option maxRecDepth 100000 in
theorem e177_8 (E : Nat × (Nat → Int32)) (d : Nat) (r0 : Nat) (i1 : Int32) (i2 : Int32) (i3 : Int32) (A : xH) : xD E (d + 1) 177 8 [.ref r0, .int i1, .int i2, .int i3] [] A = (gN A r0 9 2).bind fun n1 => (xI (xC E d 169 [.int i2, .int (3 : Int32)] A)).bind fun q2 => (aI 0 q2.2 n1 q2.1).bind fun x3 => if x3 ≤ i3 then some (some (.int (-1 : Int32)), q2.2) else (gN q2.2 r0 9 2).bind fun n4 => (xI (xC E d 169 [.int i2, .int ((4 : Int32) + i3)] q2.2)).bind fun q5 => (aI 0 q5.2 n4 q5.1).bind fun x6 => if x6 = i1 then some (some (.int i3), q5.2) else xD E (d + 1) 177 8 [.ref r0, .int i1, .int i2, .int (i3 + (1 : Int32))] [] q5.2 := (xD_bex E d h_177 [8] 90 8 _ _ _).trans rfl
-- Model.valueOrNone (I)I
set_option maxRecDepth 100000 in
theorem h_178 : xprog[178]? = some M_178 := rfl
set_option maxRecDepth 100000 in
theorem e178_0 (E : Nat × (Nat → Int32)) (d : Nat) (r0 : Nat) (i1 : Int32) (A : xH) : xD E (d + 1) 178 0 [.ref r0, .int i1, xJ] [] A = (xI (xC E d 177 [.ref r0, .int i1] A)).bind fun q1 => if q1.1 = (-1 : Int32) then some (some (.int (-1 : Int32)), q1.2) else (gN q1.2 r0 9 2).bind fun n2 => (xI (xC E d 176 [.ref r0, .int i1] q1.2)).bind fun q3 => (xI (xC E d 169 [.int q3.1, .int ((7 : Int32) + q1.1)] q3.2)).bind fun q4 => (aI 0 q4.2 n2 q4.1).bind fun x5 => some (some (.int x5), q4.2) := (xD_bex E d h_178 [] 90 0 _ _ _).trans rfl
-- Model.toldOf (II)I
set_option maxRecDepth 100000 in
theorem h_179 : xprog[179]? = some M_179 := rfl
set_option maxRecDepth 100000 in
theorem e179_0 (E : Nat × (Nat → Int32)) (d : Nat) (r0 : Nat) (i1 : Int32) (i2 : Int32) (A : xH) : xD E (d + 1) 179 0 [.ref r0, .int i1, .int i2] [] A = if i2 = 0 then (gN A r0 9 2).bind fun n1 => (aI 0 A n1 (i1 + (0 : Int32))).bind fun x2 => some (some (.int x2), A) else (gN A r0 9 2).bind fun n3 => (aI 0 A n3 (i1 + (0 : Int32))).bind fun x4 => if x4 = 0 then some (some (.int (-1 : Int32)), A) else (xI (xC E d 154 [.int i2, .int (1 : Int32), .int (9 : Int32)] A)).bind fun q5 => if q5.1 = 0 then some (some (.int (-1 : Int32)), q5.2) else if (3 : Int32) < i2 then (gN q5.2 r0 9 2).bind fun n6 => (aI 0 q5.2 n6 (i1 + (3 : Int32))).bind fun x7 => if x7 ≤ (xrem (i2 - (4 : Int32)) (3 : Int32)) then some (some (.int (-1 : Int32)), q5.2) else (gN q5.2 r0 9 2).bind fun n8 => (aI 0 q5.2 n8 (i1 + i2)).bind fun x9 => some (some (.int x9), q5.2) else (gN q5.2 r0 9 2).bind fun n10 => (aI 0 q5.2 n10 (i1 + i2)).bind fun x11 => some (some (.int x11), q5.2) := (xD_bex E d h_179 [] 90 0 _ _ _).trans rfl
-- Model.of (II)I
set_option maxRecDepth 100000 in
theorem h_180 : xprog[180]? = some M_180 := rfl
set_option maxRecDepth 100000 in
theorem e180_0 (E : Nat × (Nat → Int32)) (d : Nat) (r0 : Nat) (i1 : Int32) (i2 : Int32) (A : xH) : xD E (d + 1) 180 0 [.ref r0, .int i1, .int i2] [] A = (xI (xC E d 162 [.int i1] A)).bind fun q1 => if q1.1 = 0 then some (some (.int (-1 : Int32)), q1.2) else (xI (xC E d 169 [.int i1, .int (0 : Int32)] q1.2)).bind fun q2 => (xI (xC E d 179 [.ref r0, .int q2.1, .int i2] q2.2)).bind fun q3 => some (some (.int q3.1), q3.2) := (xD_bex E d h_180 [] 90 0 _ _ _).trans rfl
-- Model.page (II)I
set_option maxRecDepth 100000 in
theorem h_181 : xprog[181]? = some M_181 := rfl
set_option maxRecDepth 100000 in
theorem e181_0 (E : Nat × (Nat → Int32)) (d : Nat) (r0 : Nat) (i1 : Int32) (i2 : Int32) (A : xH) : xD E (d + 1) 181 0 [.ref r0, .int i1, .int i2] [] A = (xI (xC E d 162 [.int i1] A)).bind fun q1 => if q1.1 = 0 then some (some (.int (-1 : Int32)), q1.2) else (xI (xC E d 169 [.int i1, .int (0 : Int32)] q1.2)).bind fun q2 => (xI (xC E d 179 [.ref r0, .int ((240 : Int32) + q2.1), .int i2] q2.2)).bind fun q3 => some (some (.int q3.1), q3.2) := (xD_bex E d h_181 [] 90 0 _ _ _).trans rfl
-- Model.writeAt (I)I
set_option maxRecDepth 100000 in
theorem h_182 : xprog[182]? = some M_182 := rfl
set_option maxRecDepth 100000 in
theorem e182_0 (E : Nat × (Nat → Int32)) (d : Nat) (i0 : Int32) (A : xH) : xD E (d + 1) 182 0 [.int i0] [] A = some (some (.int ((480 : Int32) + ((12 : Int32) * i0))), A) := (xD_bex E d h_182 [] 90 0 _ _ _).trans rfl
-- Model.write (II)I
set_option maxRecDepth 100000 in
theorem h_183 : xprog[183]? = some M_183 := rfl
set_option maxRecDepth 100000 in
theorem e183_0 (E : Nat × (Nat → Int32)) (d : Nat) (r0 : Nat) (i1 : Int32) (i2 : Int32) (A : xH) : xD E (d + 1) 183 0 [.ref r0, .int i1, .int i2, xJ] [] A = (gN A r0 9 2).bind fun n1 => (aI 0 A n1 (960 : Int32)).bind fun x2 => (xI (xC E d 154 [.int i1, .int (0 : Int32), .int (x2 - (1 : Int32))] A)).bind fun q3 => if q3.1 = 0 then some (some (.int (-1 : Int32)), q3.2) else (xI (xC E d 182 [.int i1] q3.2)).bind fun q4 => if i2 = (0 : Int32) then (gN q4.2 r0 9 2).bind fun n5 => (aI 0 q4.2 n5 (q4.1 + (0 : Int32))).bind fun x6 => some (some (.int x6), q4.2) else if i2 = (1 : Int32) then (gN q4.2 r0 9 2).bind fun n7 => (aI 0 q4.2 n7 (q4.1 + (1 : Int32))).bind fun x8 => some (some (.int x8), q4.2) else if i2 = (2 : Int32) then (gN q4.2 r0 9 2).bind fun n9 => (aI 0 q4.2 n9 ((q4.1 + (2 : Int32)) + (0 : Int32))).bind fun x10 => if x10 = (1 : Int32) then (gN q4.2 r0 9 2).bind fun n11 => (aI 0 q4.2 n11 ((q4.1 + (2 : Int32)) + (3 : Int32))).bind fun x12 => some (some (.int x12), q4.2) else some (some (.int (-1 : Int32)), q4.2) else some (some (.int (-1 : Int32)), q4.2) := (xD_bex E d h_183 [] 90 0 _ _ _).trans rfl
-- Model.slot (I)I
set_option maxRecDepth 100000 in
theorem h_184 : xprog[184]? = some M_184 := rfl
set_option maxRecDepth 100000 in
theorem e184_0 (E : Nat × (Nat → Int32)) (d : Nat) (r0 : Nat) (i1 : Int32) (A : xH) : xD E (d + 1) 184 0 [.ref r0, .int i1] [] A = (gN A r0 9 2).bind fun n1 => (aI 0 A n1 (961 : Int32)).bind fun x2 => (xI (xC E d 154 [.int i1, .int (0 : Int32), .int (((1 : Int32) <<< (x2 &&& 31)) - (1 : Int32))] A)).bind fun q3 => if q3.1 = 0 then some (some (.int (-1 : Int32)), q3.2) else (xI (xC E d 175 [.ref r0, .int i1] q3.2)).bind fun q4 => some (some (.int q4.1), q4.2) := (xD_bex E d h_184 [] 90 0 _ _ _).trans rfl
-- Model.key (II)I
set_option maxRecDepth 100000 in
theorem h_185 : xprog[185]? = some M_185 := rfl
set_option maxRecDepth 100000 in
theorem e185_0 (E : Nat × (Nat → Int32)) (d : Nat) (r0 : Nat) (i1 : Int32) (i2 : Int32) (A : xH) : xD E (d + 1) 185 0 [.ref r0, .int i1, .int i2] [] A = (xI (xC E d 163 [.int i1] A)).bind fun q1 => if q1.1 = 0 then some (some (.int (-1 : Int32)), q1.2) else if i2 = (0 : Int32) then (xI (xC E d 174 [.ref r0, .int i1] q1.2)).bind fun q2 => some (some (.int q2.1), q2.2) else if i2 = (1 : Int32) then (xI (xC E d 178 [.ref r0, .int i1] q1.2)).bind fun q3 => some (some (.int q3.1), q3.2) else if i2 = (2 : Int32) then (xI (xC E d 176 [.ref r0, .int i1] q1.2)).bind fun q4 => some (some (.int q4.1), q4.2) else if i2 = (3 : Int32) then (xI (xC E d 234 [.ref r0, .int i1] q1.2)).bind fun q5 => if q5.1 = 0 then some (some (.int (0 : Int32)), q5.2) else some (some (.int (1 : Int32)), q5.2) else some (some (.int (-1 : Int32)), q1.2) := (xD_bex E d h_185 [] 90 0 _ _ _).trans rfl
-- Model.isTerm (II)Z
set_option maxRecDepth 100000 in
theorem h_186 : xprog[186]? = some M_186 := rfl
set_option maxRecDepth 100000 in
theorem e186_0 (E : Nat × (Nat → Int32)) (d : Nat) (i0 : Int32) (i1 : Int32) (A : xH) : xD E (d + 1) 186 0 [.int i0, .int i1] [] A = if i0 = (0 : Int32) then (xI (xC E d 154 [.int i1, .int (0 : Int32), .int (999 : Int32)] A)).bind fun q1 => if x01 q1.1 = true then some (some (.int q1.1), q1.2) else none else if i0 = (1 : Int32) then (xI (xC E d 154 [.int i1, .int (0 : Int32), .int (10 : Int32)] A)).bind fun q2 => if x01 q2.1 = true then some (some (.int q2.1), q2.2) else none else if i0 = (2 : Int32) then (xI (xC E d 154 [.int i1, .int (0 : Int32), .int (9 : Int32)] A)).bind fun q3 => if x01 q3.1 = true then some (some (.int q3.1), q3.2) else none else if i0 = (3 : Int32) then (xI (xC E d 154 [.int i1, .int (0 : Int32), .int (999 : Int32)] A)).bind fun q4 => if x01 q4.1 = true then some (some (.int q4.1), q4.2) else none else some (some (.int (0 : Int32)), A) := (xD_bex E d h_186 [] 90 0 _ _ _).trans rfl
-- Model.termAt (I)I
set_option maxRecDepth 100000 in
theorem h_187 : xprog[187]? = some M_187 := rfl
set_option maxRecDepth 100000 in
theorem e187_0 (E : Nat × (Nat → Int32)) (d : Nat) (i0 : Int32) (A : xH) : xD E (d + 1) 187 0 [.int i0] [] A = if i0 = (0 : Int32) then some (some (.int (962 : Int32)), A) else if i0 = (1 : Int32) then some (some (.int (975 : Int32)), A) else if i0 = (2 : Int32) then some (some (.int (976 : Int32)), A) else some (some (.int (977 : Int32)), A) := (xD_bex E d h_187 [] 90 0 _ _ _).trans rfl
-- Model.terms (II)I
set_option maxRecDepth 100000 in
theorem h_188 : xprog[188]? = some M_188 := rfl
set_option maxRecDepth 100000 in
theorem e188_0 (E : Nat × (Nat → Int32)) (d : Nat) (r0 : Nat) (i1 : Int32) (i2 : Int32) (A : xH) : xD E (d + 1) 188 0 [.ref r0, .int i1, .int i2, xJ] [] A = (xI (xC E d 186 [.int i1, .int i2] A)).bind fun q1 => if q1.1 = 0 then (xI (xC E d 157 [.ref r0, .int (-1 : Int32)] q1.2)).bind fun q2 => some (some (.int q2.1), q2.2) else if i1 = (3 : Int32) then (xI (xC E d 172 [.ref r0] q1.2)).bind fun q3 => if q3.1 ≤ 0 then xD E (d + 1) 188 33 [.ref r0, .int i1, .int i2, xJ] [] q3.2 else (xI (xC E d 157 [.ref r0, .int (-3 : Int32)] q3.2)).bind fun q4 => some (some (.int q4.1), q4.2) else xD E (d + 1) 188 33 [.ref r0, .int i1, .int i2, xJ] [] q1.2 := (xD_bex E d h_188 [33] 90 0 _ _ _).trans rfl
set_option maxRecDepth 100000 in
theorem e188_33 (E : Nat × (Nat → Int32)) (d : Nat) (r0 : Nat) (i1 : Int32) (i2 : Int32) (w3 : Value) (A : xH) : xD E (d + 1) 188 33 [.ref r0, .int i1, .int i2, w3] [] A = (gN A r0 9 2).bind fun n1 => (xI (xC E d 187 [.int i1] A)).bind fun q2 => (aI 0 q2.2 n1 q2.1).bind fun x3 => (gN q2.2 r0 9 2).bind fun n4 => (xI (xC E d 187 [.int i1] q2.2)).bind fun q5 => (sI 0 q5.2 n4 q5.1 i2).bind fun A6 => (xI (xC E d 159 [.ref r0, .int x3] A6)).bind fun q7 => some (some (.int q7.1), q7.2) := (xD_bex E d h_188 [33] 90 33 _ _ _).trans rfl
-- Model.row ()I
set_option maxRecDepth 100000 in
theorem h_189 : xprog[189]? = some M_189 := rfl
set_option maxRecDepth 100000 in
theorem e189_0 (E : Nat × (Nat → Int32)) (d : Nat) (r0 : Nat) (A : xH) : xD E (d + 1) 189 0 [.ref r0, xJ, xJ, xJ, xJ] [] A = (gI A r0 9 13).bind fun x1 => (pF A r0 9 13 (.int (0 : Int32))).bind fun A2 => if x1 = 0 then (xI (xC E d 157 [.ref r0, .int (-6 : Int32)] A2)).bind fun q3 => some (some (.int q3.1), q3.2) else (pF A2 r0 9 6 (.int (xrem x1 (2 : Int32)))).bind fun A4 => xD E (d + 1) 189 32 [.ref r0, .int x1, .int (0 : Int32), .int (0 : Int32), xJ] [] A4 := (xD_bex E d h_189 [32, 82] 90 0 _ _ _).trans rfl
set_option maxRecDepth 100000 in
theorem e189_32 (E : Nat × (Nat → Int32)) (d : Nat) (r0 : Nat) (i1 : Int32) (i2 : Int32) (i3 : Int32) (w4 : Value) (A : xH) : xD E (d + 1) 189 32 [.ref r0, .int i1, .int i2, .int i3, w4] [] A = if i1 < (i3 + (2 : Int32)) then (xI (xC E d 159 [.ref r0, .int i2] A)).bind fun q1 => some (some (.int q1.1), q1.2) else (gN A r0 9 11).bind fun n2 => (aI 1 A n2 i3).bind fun x3 => (gN A r0 9 11).bind fun n4 => (aI 1 A n4 (i3 + (1 : Int32))).bind fun x5 => (xI (xC E d 243 [.ref r0, .int (x3 &&& (255 : Int32)), .int x5] A)).bind fun q6 => if q6.1 < 0 then if (0 : Int32) = 0 then xD E (d + 1) 189 82 [.ref r0, .int i1, .int i2, .int i3, .int (0 : Int32)] [.int (0 : Int32), .int i2] q6.2 else xD E (d + 1) 189 82 [.ref r0, .int i1, .int i2, .int i3, .int (0 : Int32)] [.int (1 : Int32), .int i2] q6.2 else if (1 : Int32) = 0 then xD E (d + 1) 189 82 [.ref r0, .int i1, .int i2, .int i3, .int (1 : Int32)] [.int (0 : Int32), .int i2] q6.2 else xD E (d + 1) 189 82 [.ref r0, .int i1, .int i2, .int i3, .int (1 : Int32)] [.int (1 : Int32), .int i2] q6.2 := (xD_bex E d h_189 [32, 82] 90 32 _ _ _).trans rfl
set_option maxRecDepth 100000 in
theorem e189_82 (E : Nat × (Nat → Int32)) (d : Nat) (r0 : Nat) (i1 : Int32) (w2 : Value) (i3 : Int32) (i4 : Int32) (s0 : Int32) (s1 : Int32) (A : xH) : xD E (d + 1) 189 82 [.ref r0, .int i1, w2, .int i3, .int i4] [.int s1, .int s0] A = (gI A r0 9 6).bind fun x1 => if i4 = 0 then (pF A r0 9 6 (.int (x1 + (1 : Int32)))).bind fun A2 => xD E (d + 1) 189 32 [.ref r0, .int i1, .int (s0 + s1), .int (i3 + (2 : Int32)), .int i4] [] A2 else (pF A r0 9 6 (.int (x1 + (0 : Int32)))).bind fun A3 => xD E (d + 1) 189 32 [.ref r0, .int i1, .int (s0 + s1), .int (i3 + (2 : Int32)), .int i4] [] A3 := (xD_bex E d h_189 [32, 82] 90 82 _ _ _).trans rfl
-- Model.tears ()I
set_option maxRecDepth 100000 in
theorem h_190 : xprog[190]? = some M_190 := rfl
set_option maxRecDepth 100000 in
theorem e190_0 (E : Nat × (Nat → Int32)) (d : Nat) (r0 : Nat) (A : xH) : xD E (d + 1) 190 0 [.ref r0] [] A = (gI A r0 9 6).bind fun x1 => some (some (.int x1), A) := (xD_bex E d h_190 [] 90 0 _ _ _).trans rfl
-- Model.feed (IIIII)I
set_option maxRecDepth 100000 in
theorem h_191 : xprog[191]? = some M_191 := rfl
set_option maxRecDepth 100000 in
theorem e191_0 (E : Nat × (Nat → Int32)) (d : Nat) (r0 : Nat) (i1 : Int32) (i2 : Int32) (i3 : Int32) (i4 : Int32) (i5 : Int32) (A : xH) : xD E (d + 1) 191 0 [.ref r0, .int i1, .int i2, .int i3, .int i4, .int i5, xJ] [] A = (gI A r0 9 13).bind fun x1 => if (x1 + (20 : Int32)) ≤ (400 : Int32) then (gN A r0 9 12).bind fun n2 => (sI 0 A n2 (0 : Int32) i1).bind fun A3 => (gN A3 r0 9 12).bind fun n4 => (sI 0 A3 n4 (1 : Int32) i2).bind fun A5 => (gN A5 r0 9 12).bind fun n6 => (sI 0 A5 n6 (2 : Int32) i3).bind fun A7 => (gN A7 r0 9 12).bind fun n8 => (sI 0 A7 n8 (3 : Int32) i4).bind fun A9 => (gN A9 r0 9 12).bind fun n10 => (sI 0 A9 n10 (4 : Int32) i5).bind fun A11 => xD E (d + 1) 191 55 [.ref r0, .int i1, .int i2, .int i3, .int i4, .int i5, .int (0 : Int32)] [] A11 else some (some (.int (-1 : Int32)), A) := (xD_bex E d h_191 [55] 90 0 _ _ _).trans rfl
set_option maxRecDepth 100000 in
theorem e191_55 (E : Nat × (Nat → Int32)) (d : Nat) (r0 : Nat) (w1 : Value) (w2 : Value) (w3 : Value) (w4 : Value) (w5 : Value) (i6 : Int32) (A : xH) : xD E (d + 1) 191 55 [.ref r0, w1, w2, w3, w4, w5, .int i6] [] A = if (20 : Int32) ≤ i6 then (gI A r0 9 13).bind fun x1 => (pF A r0 9 13 (.int (x1 + (20 : Int32)))).bind fun A2 => (gI A2 r0 9 13).bind fun x3 => some (some (.int x3), A2) else (gN A r0 9 11).bind fun n4 => (gI A r0 9 13).bind fun x5 => (gN A r0 9 12).bind fun n6 => (aI 0 A n6 (i6 / (4 : Int32))).bind fun x7 => (sI 1 A n4 (x5 + i6) (((x7 >>> (((24 : Int32) - ((8 : Int32) * (xrem i6 (4 : Int32)))) &&& 31))).toInt8.toInt32)).bind fun A8 => xD E (d + 1) 191 55 [.ref r0, xJ, xJ, xJ, xJ, xJ, .int (i6 + (1 : Int32))] [] A8 := (xD_bex E d h_191 [55] 90 55 _ _ _).trans rfl
-- Model.end (I)I
set_option maxRecDepth 100000 in
theorem h_192 : xprog[192]? = some M_192 := rfl
set_option maxRecDepth 100000 in
theorem e192_0 (E : Nat × (Nat → Int32)) (d : Nat) (r0 : Nat) (i1 : Int32) (A : xH) : xD E (d + 1) 192 0 [.ref r0, .int i1] [] A = (gI A r0 9 13).bind fun x1 => (xI (xC E d 154 [.int i1, .int (0 : Int32), .int x1] A)).bind fun q2 => if q2.1 = 0 then some (some (.int (-1 : Int32)), q2.2) else (pF q2.2 r0 9 13 (.int i1)).bind fun A3 => some (some (.int i1), A3) := (xD_bex E d h_192 [] 90 0 _ _ _).trans rfl
-- Model.isSmall (I)Z
set_option maxRecDepth 100000 in
theorem h_193 : xprog[193]? = some M_193 := rfl
set_option maxRecDepth 100000 in
theorem e193_0 (E : Nat × (Nat → Int32)) (d : Nat) (i0 : Int32) (A : xH) : xD E (d + 1) 193 0 [.int i0] [] A = if i0 < (97 : Int32) then some (some (.int (0 : Int32)), A) else if (122 : Int32) < i0 then some (some (.int (0 : Int32)), A) else some (some (.int (1 : Int32)), A) := (xD_bex E d h_193 [] 90 0 _ _ _).trans rfl
-- Model.isDigit (I)Z
set_option maxRecDepth 100000 in
theorem h_194 : xprog[194]? = some M_194 := rfl
set_option maxRecDepth 100000 in
theorem e194_0 (E : Nat × (Nat → Int32)) (d : Nat) (i0 : Int32) (A : xH) : xD E (d + 1) 194 0 [.int i0] [] A = if i0 < (48 : Int32) then some (some (.int (0 : Int32)), A) else if (57 : Int32) < i0 then some (some (.int (0 : Int32)), A) else some (some (.int (1 : Int32)), A) := (xD_bex E d h_194 [] 90 0 _ _ _).trans rfl
-- Model.wordOf (II)I
set_option maxRecDepth 100000 in
theorem h_195 : xprog[195]? = some M_195 := rfl
set_option maxRecDepth 100000 in
theorem e195_0 (E : Nat × (Nat → Int32)) (d : Nat) (r0 : Nat) (i1 : Int32) (i2 : Int32) (A : xH) : xD E (d + 1) 195 0 [.ref r0, .int i1, .int i2, xJ, xJ, xJ, xJ, xJ] [] A = xD E (d + 1) 195 5 [.ref r0, .int i1, .int i2, .int (1 : Int32), .int (0 : Int32), xJ, xJ, xJ] [] A := (xD_bex E d h_195 [5, 18, 57, 104] 90 0 _ _ _).trans rfl
set_option maxRecDepth 100000 in
theorem e195_5 (E : Nat × (Nat → Int32)) (d : Nat) (r0 : Nat) (i1 : Int32) (i2 : Int32) (i3 : Int32) (i4 : Int32) (w5 : Value) (w6 : Value) (w7 : Value) (A : xH) : xD E (d + 1) 195 5 [.ref r0, .int i1, .int i2, .int i3, .int i4, w5, w6, w7] [] A = (gN A r0 9 7).bind fun n1 => (lA A n1).bind fun x2 => if x2 ≤ i4 then some (some (.int (0 : Int32)), A) else xD E (d + 1) 195 18 [.ref r0, .int i1, .int i2, .int i3, .int i4, .int (0 : Int32), xJ, xJ] [] A := (xD_bex E d h_195 [5, 18, 57, 104] 90 5 _ _ _).trans rfl
set_option maxRecDepth 100000 in
theorem e195_18 (E : Nat × (Nat → Int32)) (d : Nat) (r0 : Nat) (i1 : Int32) (i2 : Int32) (i3 : Int32) (i4 : Int32) (i5 : Int32) (w6 : Value) (w7 : Value) (A : xH) : xD E (d + 1) 195 18 [.ref r0, .int i1, .int i2, .int i3, .int i4, .int i5, w6, w7] [] A = (gN A r0 9 7).bind fun n1 => (aI 1 A n1 (i4 + i5)).bind fun x2 => if x2 = (32 : Int32) then if i5 = (i2 - i1) then xD E (d + 1) 195 57 [.ref r0, .int i1, .int i2, .int i3, .int i4, .int i5, .int (1 : Int32), .int (0 : Int32)] [] A else xD E (d + 1) 195 57 [.ref r0, .int i1, .int i2, .int i3, .int i4, .int i5, .int (0 : Int32), .int (0 : Int32)] [] A else xD E (d + 1) 195 18 [.ref r0, .int i1, .int i2, .int i3, .int i4, .int (i5 + (1 : Int32)), xJ, xJ] [] A := (xD_bex E d h_195 [5, 18, 57, 104] 90 18 _ _ _).trans rfl
set_option maxRecDepth 100000 in
theorem e195_57 (E : Nat × (Nat → Int32)) (d : Nat) (r0 : Nat) (i1 : Int32) (i2 : Int32) (i3 : Int32) (i4 : Int32) (i5 : Int32) (i6 : Int32) (i7 : Int32) (A : xH) : xD E (d + 1) 195 57 [.ref r0, .int i1, .int i2, .int i3, .int i4, .int i5, .int i6, .int i7] [] A = if i5 ≤ i7 then xD E (d + 1) 195 104 [.ref r0, .int i1, .int i2, .int i3, .int i4, .int i5, .int i6, .int i7] [] A else if i6 = 0 then xD E (d + 1) 195 104 [.ref r0, .int i1, .int i2, .int i3, .int i4, .int i5, .int i6, .int i7] [] A else (gN A r0 9 7).bind fun n1 => (aI 1 A n1 (i4 + i7)).bind fun x2 => (gN A r0 9 11).bind fun n3 => (aI 1 A n3 (i1 + i7)).bind fun x4 => if x2 = x4 then xD E (d + 1) 195 57 [.ref r0, .int i1, .int i2, .int i3, .int i4, .int i5, .int (1 : Int32), .int (i7 + (1 : Int32))] [] A else xD E (d + 1) 195 57 [.ref r0, .int i1, .int i2, .int i3, .int i4, .int i5, .int (0 : Int32), .int (i7 + (1 : Int32))] [] A := (xD_bex E d h_195 [5, 18, 57, 104] 90 57 _ _ _).trans rfl
set_option maxRecDepth 100000 in
theorem e195_104 (E : Nat × (Nat → Int32)) (d : Nat) (r0 : Nat) (i1 : Int32) (i2 : Int32) (i3 : Int32) (i4 : Int32) (i5 : Int32) (i6 : Int32) (w7 : Value) (A : xH) : xD E (d + 1) 195 104 [.ref r0, .int i1, .int i2, .int i3, .int i4, .int i5, .int i6, w7] [] A = if i6 = 0 then xD E (d + 1) 195 5 [.ref r0, .int i1, .int i2, .int (i3 + (1 : Int32)), .int (i4 + (i5 + (1 : Int32))), .int i5, .int i6, xJ] [] A else some (some (.int i3), A) := (xD_bex E d h_195 [5, 18, 57, 104] 90 104 _ _ _).trans rfl
-- Model.cutsUp (I)V
set_option maxRecDepth 100000 in
theorem h_196 : xprog[196]? = some M_196 := rfl
set_option maxRecDepth 100000 in
theorem e196_0 (E : Nat × (Nat → Int32)) (d : Nat) (r0 : Nat) (i1 : Int32) (A : xH) : xD E (d + 1) 196 0 [.ref r0, .int i1, xJ, xJ, xJ, xJ] [] A = (pF A r0 9 18 (.int (0 : Int32))).bind fun A1 => xD E (d + 1) 196 7 [.ref r0, .int i1, .int (0 : Int32), xJ, xJ, xJ] [] A1 := (xD_bex E d h_196 [7, 43, 75, 100, 169] 90 0 _ _ _).trans rfl
set_option maxRecDepth 100000 in
theorem e196_7 (E : Nat × (Nat → Int32)) (d : Nat) (r0 : Nat) (i1 : Int32) (i2 : Int32) (w3 : Value) (w4 : Value) (w5 : Value) (A : xH) : xD E (d + 1) 196 7 [.ref r0, .int i1, .int i2, w3, w4, w5] [] A = if i1 ≤ i2 then (gN A r0 9 17).bind fun n1 => (gI A r0 9 18).bind fun x2 => (sI 0 A n1 x2 i1).bind fun A3 => (gN A3 r0 9 15).bind fun n4 => (gI A3 r0 9 18).bind fun x5 => (sI 0 A3 n4 x5 (0 : Int32)).bind fun A6 => (gN A6 r0 9 16).bind fun n7 => (gI A6 r0 9 18).bind fun x8 => (sI 0 A6 n7 x8 (0 : Int32)).bind fun A9 => some (none, A9) else (gN A r0 9 11).bind fun n10 => (aI 1 A n10 i2).bind fun x11 => if x11 = (32 : Int32) then xD E (d + 1) 196 7 [.ref r0, .int i1, .int (i2 + (1 : Int32)), .int x11, xJ, xJ] [] A else (xI (xC E d 193 [.int x11] A)).bind fun q12 => if q12.1 = 0 then (xI (xC E d 194 [.int x11] q12.2)).bind fun q13 => if q13.1 = 0 then xD E (d + 1) 196 100 [.ref r0, .int i1, .int i2, .int x11, .int (i2 + (1 : Int32)), xJ] [] q13.2 else xD E (d + 1) 196 75 [.ref r0, .int i1, .int i2, .int x11, .int (i2 + (1 : Int32)), xJ] [] q13.2 else xD E (d + 1) 196 43 [.ref r0, .int i1, .int i2, .int x11, .int (i2 + (1 : Int32)), xJ] [] q12.2 := (xD_bex E d h_196 [7, 43, 75, 100, 169] 90 7 _ _ _).trans rfl
set_option maxRecDepth 100000 in
theorem e196_43 (E : Nat × (Nat → Int32)) (d : Nat) (r0 : Nat) (i1 : Int32) (i2 : Int32) (i3 : Int32) (i4 : Int32) (w5 : Value) (A : xH) : xD E (d + 1) 196 43 [.ref r0, .int i1, .int i2, .int i3, .int i4, w5] [] A = if i1 ≤ i4 then (xI (xC E d 194 [.int i3] A)).bind fun q1 => if q1.1 = 0 then xD E (d + 1) 196 100 [.ref r0, .int i1, .int i2, .int i3, .int i4, xJ] [] q1.2 else xD E (d + 1) 196 75 [.ref r0, .int i1, .int i2, .int i3, .int i4, xJ] [] q1.2 else (gN A r0 9 11).bind fun n2 => (aI 1 A n2 i4).bind fun x3 => (xI (xC E d 193 [.int x3] A)).bind fun q4 => if q4.1 = 0 then (xI (xC E d 194 [.int i3] q4.2)).bind fun q5 => if q5.1 = 0 then xD E (d + 1) 196 100 [.ref r0, .int i1, .int i2, .int i3, .int i4, xJ] [] q5.2 else xD E (d + 1) 196 75 [.ref r0, .int i1, .int i2, .int i3, .int i4, xJ] [] q5.2 else xD E (d + 1) 196 43 [.ref r0, .int i1, .int i2, .int i3, .int (i4 + (1 : Int32)), xJ] [] q4.2 := (xD_bex E d h_196 [7, 43, 75, 100, 169] 90 43 _ _ _).trans rfl
set_option maxRecDepth 100000 in
theorem e196_75 (E : Nat × (Nat → Int32)) (d : Nat) (r0 : Nat) (i1 : Int32) (i2 : Int32) (i3 : Int32) (i4 : Int32) (w5 : Value) (A : xH) : xD E (d + 1) 196 75 [.ref r0, .int i1, .int i2, .int i3, .int i4, w5] [] A = if i1 ≤ i4 then xD E (d + 1) 196 100 [.ref r0, .int i1, .int i2, .int i3, .int i4, xJ] [] A else (gN A r0 9 11).bind fun n1 => (aI 1 A n1 i4).bind fun x2 => (xI (xC E d 194 [.int x2] A)).bind fun q3 => if q3.1 = 0 then xD E (d + 1) 196 100 [.ref r0, .int i1, .int i2, .int i3, .int i4, xJ] [] q3.2 else xD E (d + 1) 196 75 [.ref r0, .int i1, .int i2, .int i3, .int (i4 + (1 : Int32)), xJ] [] q3.2 := (xD_bex E d h_196 [7, 43, 75, 100, 169] 90 75 _ _ _).trans rfl
set_option maxRecDepth 100000 in
theorem e196_100 (E : Nat × (Nat → Int32)) (d : Nat) (r0 : Nat) (i1 : Int32) (i2 : Int32) (i3 : Int32) (i4 : Int32) (w5 : Value) (A : xH) : xD E (d + 1) 196 100 [.ref r0, .int i1, .int i2, .int i3, .int i4, w5] [] A = (gN A r0 9 17).bind fun n1 => (gI A r0 9 18).bind fun x2 => (sI 0 A n1 x2 i2).bind fun A3 => (gN A3 r0 9 16).bind fun n4 => (gI A3 r0 9 18).bind fun x5 => (sI 0 A3 n4 x5 (0 : Int32)).bind fun A6 => (gN A6 r0 9 15).bind fun n7 => (gI A6 r0 9 18).bind fun x8 => (xI (xC E d 193 [.int i3] A6)).bind fun q9 => if q9.1 = 0 then (xI (xC E d 194 [.int i3] q9.2)).bind fun q10 => if q10.1 = 0 then (sI 0 q10.2 n7 x8 ((100 : Int32) + (i3 &&& (255 : Int32)))).bind fun A11 => xD E (d + 1) 196 169 [.ref r0, .int i1, .int i2, .int i3, .int i4, .int i2] [] A11 else (sI 0 q10.2 n7 x8 (50 : Int32)).bind fun A12 => xD E (d + 1) 196 169 [.ref r0, .int i1, .int i2, .int i3, .int i4, .int i2] [] A12 else (xI (xC E d 195 [.ref r0, .int i2, .int i4] q9.2)).bind fun q13 => (sI 0 q13.2 n7 x8 q13.1).bind fun A14 => xD E (d + 1) 196 169 [.ref r0, .int i1, .int i2, .int i3, .int i4, .int i2] [] A14 := (xD_bex E d h_196 [7, 43, 75, 100, 169] 90 100 _ _ _).trans rfl
set_option maxRecDepth 100000 in
theorem e196_169 (E : Nat × (Nat → Int32)) (d : Nat) (r0 : Nat) (i1 : Int32) (w2 : Value) (i3 : Int32) (i4 : Int32) (i5 : Int32) (A : xH) : xD E (d + 1) 196 169 [.ref r0, .int i1, w2, .int i3, .int i4, .int i5] [] A = if i4 ≤ i5 then (gI A r0 9 18).bind fun x1 => (pF A r0 9 18 (.int (x1 + (1 : Int32)))).bind fun A2 => xD E (d + 1) 196 7 [.ref r0, .int i1, .int i4, .int i3, .int i4, .int i5] [] A2 else (xI (xC E d 194 [.int i3] A)).bind fun q3 => if q3.1 = 0 then (gI q3.2 r0 9 18).bind fun x4 => (pF q3.2 r0 9 18 (.int (x4 + (1 : Int32)))).bind fun A5 => xD E (d + 1) 196 7 [.ref r0, .int i1, .int i4, .int i3, .int i4, .int i5] [] A5 else (gN q3.2 r0 9 16).bind fun n6 => (gI q3.2 r0 9 18).bind fun x7 => (gN q3.2 r0 9 16).bind fun n8 => (gI q3.2 r0 9 18).bind fun x9 => (aI 0 q3.2 n8 x9).bind fun x10 => if x10 ≤ (1000000 : Int32) then (gN q3.2 r0 9 16).bind fun n11 => (gI q3.2 r0 9 18).bind fun x12 => (aI 0 q3.2 n11 x12).bind fun x13 => (gN q3.2 r0 9 11).bind fun n14 => (aI 1 q3.2 n14 i5).bind fun x15 => (sI 0 q3.2 n6 x7 ((((10 : Int32) * x13) + x15) - (48 : Int32))).bind fun A16 => xD E (d + 1) 196 169 [.ref r0, .int i1, xJ, .int i3, .int i4, .int (i5 + (1 : Int32))] [] A16 else (gN q3.2 r0 9 16).bind fun n17 => (gI q3.2 r0 9 18).bind fun x18 => (aI 0 q3.2 n17 x18).bind fun x19 => (sI 0 q3.2 n6 x7 x19).bind fun A20 => xD E (d + 1) 196 169 [.ref r0, .int i1, xJ, .int i3, .int i4, .int (i5 + (1 : Int32))] [] A20 := (xD_bex E d h_196 [7, 43, 75, 100, 169] 90 169 _ _ _).trans rfl
-- Model.fine ()Z
set_option maxRecDepth 100000 in
theorem h_197 : xprog[197]? = some M_197 := rfl
set_option maxRecDepth 100000 in
theorem e197_0 (E : Nat × (Nat → Int32)) (d : Nat) (r0 : Nat) (A : xH) : xD E (d + 1) 197 0 [.ref r0] [] A = (gI A r0 9 21).bind fun x1 => if x1 = (-1 : Int32) then some (some (.int (1 : Int32)), A) else some (some (.int (0 : Int32)), A) := (xD_bex E d h_197 [] 90 0 _ _ _).trans rfl
-- Model.faults ()V
set_option maxRecDepth 100000 in
theorem h_198 : xprog[198]? = some M_198 := rfl
set_option maxRecDepth 100000 in
theorem e198_0 (E : Nat × (Nat → Int32)) (d : Nat) (r0 : Nat) (A : xH) : xD E (d + 1) 198 0 [.ref r0] [] A = (xI (xC E d 197 [.ref r0] A)).bind fun q1 => if q1.1 = 0 then some (none, q1.2) else (gN q1.2 r0 9 17).bind fun n2 => (gI q1.2 r0 9 19).bind fun x3 => (aI 0 q1.2 n2 x3).bind fun x4 => (pF q1.2 r0 9 21 (.int x4)).bind fun A5 => some (none, A5) := (xD_bex E d h_198 [] 90 0 _ _ _).trans rfl
-- Model.takes0 (I)Z
set_option maxRecDepth 100000 in
theorem h_199 : xprog[199]? = some M_199 := rfl
set_option maxRecDepth 100000 in
theorem e199_0 (E : Nat × (Nat → Int32)) (d : Nat) (r0 : Nat) (i1 : Int32) (A : xH) : xD E (d + 1) 199 0 [.ref r0, .int i1, xJ] [] A = (xI (xC E d 197 [.ref r0] A)).bind fun q1 => if q1.1 = 0 then xD E (d + 1) 199 25 [.ref r0, .int i1, xJ] [.int (0 : Int32)] q1.2 else (gN q1.2 r0 9 15).bind fun n2 => (gI q1.2 r0 9 19).bind fun x3 => (aI 0 q1.2 n2 x3).bind fun x4 => if x4 = i1 then xD E (d + 1) 199 25 [.ref r0, .int i1, xJ] [.int (1 : Int32)] q1.2 else xD E (d + 1) 199 25 [.ref r0, .int i1, xJ] [.int (0 : Int32)] q1.2 := (xD_bex E d h_199 [25] 90 0 _ _ _).trans rfl
set_option maxRecDepth 100000 in
theorem e199_25 (E : Nat × (Nat → Int32)) (d : Nat) (r0 : Nat) (w1 : Value) (w2 : Value) (s0 : Int32) (A : xH) : xD E (d + 1) 199 25 [.ref r0, w1, w2] [.int s0] A = if s0 = 0 then if x01 s0 = true then some (some (.int s0), A) else none else (gI A r0 9 19).bind fun x1 => (pF A r0 9 19 (.int (x1 + (1 : Int32)))).bind fun A2 => if x01 s0 = true then some (some (.int s0), A2) else none := (xD_bex E d h_199 [25] 90 25 _ _ _).trans rfl
-- Model.must (I)V
set_option maxRecDepth 100000 in
theorem h_200 : xprog[200]? = some M_200 := rfl
set_option maxRecDepth 100000 in
theorem e200_0 (E : Nat × (Nat → Int32)) (d : Nat) (r0 : Nat) (i1 : Int32) (A : xH) : xD E (d + 1) 200 0 [.ref r0, .int i1] [] A = (xI (xC E d 199 [.ref r0, .int i1] A)).bind fun q1 => if q1.1 = 0 then (xV (xC E d 198 [.ref r0] q1.2)).bind fun A2 => some (none, A2) else some (none, q1.2) := (xD_bex E d h_200 [] 90 0 _ _ _).trans rfl
-- Model.leaf ()V
set_option maxRecDepth 100000 in
theorem h_201 : xprog[201]? = some M_201 := rfl
set_option maxRecDepth 100000 in
theorem e201_0 (E : Nat × (Nat → Int32)) (d : Nat) (r0 : Nat) (A : xH) : xD E (d + 1) 201 0 [.ref r0] [] A = (gI A r0 9 20).bind fun x1 => if x1 = (50 : Int32) then (xV (xC E d 198 [.ref r0] A)).bind fun A2 => xD E (d + 1) 201 13 [.ref r0] [] A2 else xD E (d + 1) 201 13 [.ref r0] [] A := (xD_bex E d h_201 [13] 90 0 _ _ _).trans rfl
set_option maxRecDepth 100000 in
theorem e201_13 (E : Nat × (Nat → Int32)) (d : Nat) (r0 : Nat) (A : xH) : xD E (d + 1) 201 13 [.ref r0] [] A = (gI A r0 9 20).bind fun x1 => (pF A r0 9 20 (.int (x1 + (1 : Int32)))).bind fun A2 => (xI (xC E d 197 [.ref r0] A2)).bind fun q3 => if q3.1 = 0 then some (none, q3.2) else (gI q3.2 r0 9 19).bind fun x4 => (pF q3.2 r0 9 19 (.int (x4 + (1 : Int32)))).bind fun A5 => some (none, A5) := (xD_bex E d h_201 [13] 90 13 _ _ _).trans rfl
-- Model.sign (C)I
set_option maxRecDepth 100000 in
theorem h_202 : xprog[202]? = some M_202 := rfl
set_option maxRecDepth 100000 in
theorem e202_0 (E : Nat × (Nat → Int32)) (d : Nat) (i0 : Int32) (A : xH) : xD E (d + 1) 202 0 [.int i0] [] A = some (some (.int ((100 : Int32) + i0)), A) := (xD_bex E d h_202 [] 90 0 _ _ _).trans rfl
-- Model.mustNumber (II)V
set_option maxRecDepth 100000 in
theorem h_203 : xprog[203]? = some M_203 := rfl
set_option maxRecDepth 100000 in
theorem e203_0 (E : Nat × (Nat → Int32)) (d : Nat) (r0 : Nat) (i1 : Int32) (i2 : Int32) (A : xH) : xD E (d + 1) 203 0 [.ref r0, .int i1, .int i2] [] A = (xI (xC E d 197 [.ref r0] A)).bind fun q1 => if q1.1 = 0 then xD E (d + 1) 203 42 [.ref r0, .int i1, .int i2] [] q1.2 else (gN q1.2 r0 9 15).bind fun n2 => (gI q1.2 r0 9 19).bind fun x3 => (aI 0 q1.2 n2 x3).bind fun x4 => if x4 = (50 : Int32) then (gN q1.2 r0 9 16).bind fun n5 => (gI q1.2 r0 9 19).bind fun x6 => (aI 0 q1.2 n5 x6).bind fun x7 => (xI (xC E d 154 [.int x7, .int i1, .int i2] q1.2)).bind fun q8 => if q8.1 = 0 then (xV (xC E d 198 [.ref r0] q8.2)).bind fun A9 => xD E (d + 1) 203 42 [.ref r0, .int i1, .int i2] [] A9 else xD E (d + 1) 203 42 [.ref r0, .int i1, .int i2] [] q8.2 else (xV (xC E d 198 [.ref r0] q1.2)).bind fun A10 => xD E (d + 1) 203 42 [.ref r0, .int i1, .int i2] [] A10 := (xD_bex E d h_203 [42] 90 0 _ _ _).trans rfl
set_option maxRecDepth 100000 in
theorem e203_42 (E : Nat × (Nat → Int32)) (d : Nat) (r0 : Nat) (w1 : Value) (w2 : Value) (A : xH) : xD E (d + 1) 203 42 [.ref r0, w1, w2] [] A = (xI (xC E d 197 [.ref r0] A)).bind fun q1 => if q1.1 = 0 then some (none, q1.2) else (gI q1.2 r0 9 19).bind fun x2 => (pF q1.2 r0 9 19 (.int (x2 + (1 : Int32)))).bind fun A3 => some (none, A3) := (xD_bex E d h_203 [42] 90 42 _ _ _).trans rfl
-- Model.readClause ()V
set_option maxRecDepth 100000 in
theorem h_204 : xprog[204]? = some M_204 := rfl
set_option maxRecDepth 100000 in
theorem e204_0 (E : Nat × (Nat → Int32)) (d : Nat) (r0 : Nat) (A : xH) : xD E (d + 1) 204 0 [.ref r0] [] A = (xI (xC E d 199 [.ref r0, .int (1 : Int32)] A)).bind fun q1 => if q1.1 = 0 then (xV (xC E d 200 [.ref r0, .int (2 : Int32)] q1.2)).bind fun A2 => (xI (xC E d 199 [.ref r0, .int (3 : Int32)] A2)).bind fun q3 => if q3.1 = 0 then some (none, q3.2) else (xV (xC E d 207 [.ref r0, .int (0 : Int32)] q3.2)).bind fun A4 => some (none, A4) else (xV (xC E d 210 [.ref r0, .int (0 : Int32)] q1.2)).bind fun A5 => (xI (xC E d 199 [.ref r0, .int (3 : Int32)] A5)).bind fun q6 => if q6.1 = 0 then some (none, q6.2) else (xV (xC E d 207 [.ref r0, .int (0 : Int32)] q6.2)).bind fun A7 => some (none, A7) := (xD_bex E d h_204 [] 90 0 _ _ _).trans rfl
-- Model.readOrder ()V
set_option maxRecDepth 100000 in
theorem h_205 : xprog[205]? = some M_205 := rfl
set_option maxRecDepth 100000 in
theorem e205_0 (E : Nat × (Nat → Int32)) (d : Nat) (r0 : Nat) (A : xH) : xD E (d + 1) 205 0 [.ref r0] [] A = (xI (xC E d 199 [.ref r0, .int (20 : Int32)] A)).bind fun q1 => if q1.1 = 0 then (xI (xC E d 199 [.ref r0, .int (22 : Int32)] q1.2)).bind fun q2 => if q2.1 = 0 then (xI (xC E d 199 [.ref r0, .int (23 : Int32)] q2.2)).bind fun q3 => if q3.1 = 0 then (xV (xC E d 200 [.ref r0, .int (24 : Int32)] q3.2)).bind fun A4 => xD E (d + 1) 205 47 [.ref r0] [] A4 else xD E (d + 1) 205 47 [.ref r0] [] q3.2 else xD E (d + 1) 205 47 [.ref r0] [] q2.2 else (xV (xC E d 210 [.ref r0, .int (0 : Int32)] q1.2)).bind fun A5 => (xV (xC E d 200 [.ref r0, .int (21 : Int32)] A5)).bind fun A6 => xD E (d + 1) 205 47 [.ref r0] [] A6 := (xD_bex E d h_205 [47] 90 0 _ _ _).trans rfl
set_option maxRecDepth 100000 in
theorem e205_47 (E : Nat × (Nat → Int32)) (d : Nat) (r0 : Nat) (A : xH) : xD E (d + 1) 205 47 [.ref r0] [] A = (xV (xC E d 210 [.ref r0, .int (0 : Int32)] A)).bind fun A1 => (xI (xC E d 199 [.ref r0, .int (25 : Int32)] A1)).bind fun q2 => if q2.1 = 0 then (xI (xC E d 199 [.ref r0, .int (3 : Int32)] q2.2)).bind fun q3 => if q3.1 = 0 then some (none, q3.2) else (xV (xC E d 207 [.ref r0, .int (0 : Int32)] q3.2)).bind fun A4 => some (none, A4) else (xV (xC E d 203 [.ref r0, .int (1 : Int32), .int (20 : Int32)] q2.2)).bind fun A5 => (xI (xC E d 199 [.ref r0, .int (3 : Int32)] A5)).bind fun q6 => if q6.1 = 0 then some (none, q6.2) else (xV (xC E d 207 [.ref r0, .int (0 : Int32)] q6.2)).bind fun A7 => some (none, A7) := (xD_bex E d h_205 [47] 90 47 _ _ _).trans rfl
-- Model.readOne ()V
set_option maxRecDepth 100000 in
theorem h_206 : xprog[206]? = some M_206 := rfl
set_option maxRecDepth 100000 in
theorem e206_0 (E : Nat × (Nat → Int32)) (d : Nat) (r0 : Nat) (A : xH) : xD E (d + 1) 206 0 [.ref r0] [] A = (gI A r0 9 10).bind fun x1 => if x1 = 0 then (xV (xC E d 204 [.ref r0] A)).bind fun A2 => some (none, A2) else (xV (xC E d 205 [.ref r0] A)).bind fun A3 => some (none, A3) := (xD_bex E d h_206 [] 90 0 _ _ _).trans rfl
-- Model.readTest (I)V
set_option maxRecDepth 100000 in
theorem h_207 : xprog[207]? = some M_207 := rfl
set_option maxRecDepth 100000 in
theorem e207_0 (E : Nat × (Nat → Int32)) (d : Nat) (r0 : Nat) (i1 : Int32) (A : xH) : xD E (d + 1) 207 0 [.ref r0, .int i1] [] A = (xV (xC E d 208 [.ref r0, .int i1] A)).bind fun A1 => xD E (d + 1) 207 5 [.ref r0, .int i1] [] A1 := (xD_bex E d h_207 [5] 90 0 _ _ _).trans rfl
set_option maxRecDepth 100000 in
theorem e207_5 (E : Nat × (Nat → Int32)) (d : Nat) (r0 : Nat) (i1 : Int32) (A : xH) : xD E (d + 1) 207 5 [.ref r0, .int i1] [] A = (xI (xC E d 199 [.ref r0, .int (4 : Int32)] A)).bind fun q1 => if q1.1 = 0 then some (none, q1.2) else (xV (xC E d 208 [.ref r0, .int i1] q1.2)).bind fun A2 => xD E (d + 1) 207 5 [.ref r0, .int i1] [] A2 := (xD_bex E d h_207 [5] 90 5 _ _ _).trans rfl
-- Model.readBoth (I)V
set_option maxRecDepth 100000 in
theorem h_208 : xprog[208]? = some M_208 := rfl
set_option maxRecDepth 100000 in
theorem e208_0 (E : Nat × (Nat → Int32)) (d : Nat) (r0 : Nat) (i1 : Int32) (A : xH) : xD E (d + 1) 208 0 [.ref r0, .int i1] [] A = (xV (xC E d 209 [.ref r0, .int i1] A)).bind fun A1 => xD E (d + 1) 208 5 [.ref r0, .int i1] [] A1 := (xD_bex E d h_208 [5] 90 0 _ _ _).trans rfl
set_option maxRecDepth 100000 in
theorem e208_5 (E : Nat × (Nat → Int32)) (d : Nat) (r0 : Nat) (i1 : Int32) (A : xH) : xD E (d + 1) 208 5 [.ref r0, .int i1] [] A = (xI (xC E d 199 [.ref r0, .int (5 : Int32)] A)).bind fun q1 => if q1.1 = 0 then some (none, q1.2) else (xV (xC E d 209 [.ref r0, .int i1] q1.2)).bind fun A2 => xD E (d + 1) 208 5 [.ref r0, .int i1] [] A2 := (xD_bex E d h_208 [5] 90 5 _ _ _).trans rfl
-- Model.readPlain (I)V
set_option maxRecDepth 100000 in
theorem h_209 : xprog[209]? = some M_209 := rfl
set_option maxRecDepth 100000 in
theorem e209_0 (E : Nat × (Nat → Int32)) (d : Nat) (r0 : Nat) (i1 : Int32) (A : xH) : xD E (d + 1) 209 0 [.ref r0, .int i1, xJ, xJ] [] A = xD E (d + 1) 209 2 [.ref r0, .int i1, .int (1 : Int32), xJ] [] A := (xD_bex E d h_209 [2, 53] 90 0 _ _ _).trans rfl
set_option maxRecDepth 100000 in
theorem e209_2 (E : Nat × (Nat → Int32)) (d : Nat) (r0 : Nat) (i1 : Int32) (i2 : Int32) (w3 : Value) (A : xH) : xD E (d + 1) 209 2 [.ref r0, .int i1, .int i2, w3] [] A = if i2 = 0 then (xI (xC E d 197 [.ref r0] A)).bind fun q1 => if q1.1 = 0 then some (none, q1.2) else (gN q1.2 r0 9 15).bind fun n2 => (gI q1.2 r0 9 19).bind fun x3 => (aI 0 q1.2 n2 x3).bind fun x4 => (xI (xC E d 202 [.int (40 : Int32)] q1.2)).bind fun q5 => if x4 = q5.1 then if i1 = (8 : Int32) then (xV (xC E d 198 [.ref r0] q5.2)).bind fun A6 => xD E (d + 1) 209 53 [.ref r0, .int i1, .int i2, .int x4] [] A6 else xD E (d + 1) 209 53 [.ref r0, .int i1, .int i2, .int x4] [] q5.2 else (xV (xC E d 210 [.ref r0, .int i1] q5.2)).bind fun A7 => (xI (xC E d 202 [.int (60 : Int32)] A7)).bind fun q8 => (xI (xC E d 199 [.ref r0, .int q8.1] q8.2)).bind fun q9 => if q9.1 = 0 then (xI (xC E d 202 [.int (62 : Int32)] q9.2)).bind fun q10 => (xI (xC E d 199 [.ref r0, .int q10.1] q10.2)).bind fun q11 => if q11.1 = 0 then (xI (xC E d 202 [.int (61 : Int32)] q11.2)).bind fun q12 => (xV (xC E d 200 [.ref r0, .int q12.1] q12.2)).bind fun A13 => (xV (xC E d 210 [.ref r0, .int i1] A13)).bind fun A14 => some (none, A14) else (xV (xC E d 210 [.ref r0, .int i1] q11.2)).bind fun A15 => some (none, A15) else (xV (xC E d 210 [.ref r0, .int i1] q9.2)).bind fun A16 => some (none, A16) else (xI (xC E d 199 [.ref r0, .int (6 : Int32)] A)).bind fun q17 => xD E (d + 1) 209 2 [.ref r0, .int i1, .int q17.1, xJ] [] q17.2 := (xD_bex E d h_209 [2, 53] 90 2 _ _ _).trans rfl
set_option maxRecDepth 100000 in
theorem e209_53 (E : Nat × (Nat → Int32)) (d : Nat) (r0 : Nat) (i1 : Int32) (w2 : Value) (w3 : Value) (A : xH) : xD E (d + 1) 209 53 [.ref r0, .int i1, w2, w3] [] A = (xI (xC E d 197 [.ref r0] A)).bind fun q1 => if q1.1 = 0 then some (none, q1.2) else (gI q1.2 r0 9 19).bind fun x2 => (pF q1.2 r0 9 19 (.int (x2 + (1 : Int32)))).bind fun A3 => (xV (xC E d 207 [.ref r0, .int (i1 + (1 : Int32))] A3)).bind fun A4 => (xI (xC E d 202 [.int (41 : Int32)] A4)).bind fun q5 => (xV (xC E d 200 [.ref r0, .int q5.1] q5.2)).bind fun A6 => some (none, A6) := (xD_bex E d h_209 [2, 53] 90 53 _ _ _).trans rfl
-- Model.readSum (I)V
set_option maxRecDepth 100000 in
theorem h_210 : xprog[210]? = some M_210 := rfl
set_option maxRecDepth 100000 in
theorem e210_0 (E : Nat × (Nat → Int32)) (d : Nat) (r0 : Nat) (i1 : Int32) (A : xH) : xD E (d + 1) 210 0 [.ref r0, .int i1] [] A = (xV (xC E d 211 [.ref r0, .int i1] A)).bind fun A1 => xD E (d + 1) 210 5 [.ref r0, .int i1] [] A1 := (xD_bex E d h_210 [5] 90 0 _ _ _).trans rfl
set_option maxRecDepth 100000 in
theorem e210_5 (E : Nat × (Nat → Int32)) (d : Nat) (r0 : Nat) (i1 : Int32) (A : xH) : xD E (d + 1) 210 5 [.ref r0, .int i1] [] A = (xI (xC E d 202 [.int (43 : Int32)] A)).bind fun q1 => (xI (xC E d 199 [.ref r0, .int q1.1] q1.2)).bind fun q2 => if q2.1 = 0 then (xI (xC E d 202 [.int (45 : Int32)] q2.2)).bind fun q3 => (xI (xC E d 199 [.ref r0, .int q3.1] q3.2)).bind fun q4 => if q4.1 = 0 then some (none, q4.2) else (xV (xC E d 211 [.ref r0, .int i1] q4.2)).bind fun A5 => xD E (d + 1) 210 5 [.ref r0, .int i1] [] A5 else (xV (xC E d 211 [.ref r0, .int i1] q2.2)).bind fun A6 => xD E (d + 1) 210 5 [.ref r0, .int i1] [] A6 := (xD_bex E d h_210 [5] 90 5 _ _ _).trans rfl
-- Model.readTerm (I)V
set_option maxRecDepth 100000 in
theorem h_211 : xprog[211]? = some M_211 := rfl
set_option maxRecDepth 100000 in
theorem e211_0 (E : Nat × (Nat → Int32)) (d : Nat) (r0 : Nat) (i1 : Int32) (A : xH) : xD E (d + 1) 211 0 [.ref r0, .int i1] [] A = (xV (xC E d 212 [.ref r0, .int i1] A)).bind fun A1 => xD E (d + 1) 211 5 [.ref r0, .int i1] [] A1 := (xD_bex E d h_211 [5] 90 0 _ _ _).trans rfl
set_option maxRecDepth 100000 in
theorem e211_5 (E : Nat × (Nat → Int32)) (d : Nat) (r0 : Nat) (i1 : Int32) (A : xH) : xD E (d + 1) 211 5 [.ref r0, .int i1] [] A = (xI (xC E d 202 [.int (42 : Int32)] A)).bind fun q1 => (xI (xC E d 199 [.ref r0, .int q1.1] q1.2)).bind fun q2 => if q2.1 = 0 then (xI (xC E d 202 [.int (47 : Int32)] q2.2)).bind fun q3 => (xI (xC E d 199 [.ref r0, .int q3.1] q3.2)).bind fun q4 => if q4.1 = 0 then (xI (xC E d 202 [.int (37 : Int32)] q4.2)).bind fun q5 => (xI (xC E d 199 [.ref r0, .int q5.1] q5.2)).bind fun q6 => if q6.1 = 0 then some (none, q6.2) else (xV (xC E d 212 [.ref r0, .int i1] q6.2)).bind fun A7 => xD E (d + 1) 211 5 [.ref r0, .int i1] [] A7 else (xV (xC E d 212 [.ref r0, .int i1] q4.2)).bind fun A8 => xD E (d + 1) 211 5 [.ref r0, .int i1] [] A8 else (xV (xC E d 212 [.ref r0, .int i1] q2.2)).bind fun A9 => xD E (d + 1) 211 5 [.ref r0, .int i1] [] A9 := (xD_bex E d h_211 [5] 90 5 _ _ _).trans rfl
-- Model.readPart (I)V
set_option maxRecDepth 100000 in
theorem h_212 : xprog[212]? = some M_212 := rfl
set_option maxRecDepth 100000 in
theorem e212_0 (E : Nat × (Nat → Int32)) (d : Nat) (r0 : Nat) (i1 : Int32) (A : xH) : xD E (d + 1) 212 0 [.ref r0, .int i1, xJ] [] A = (xI (xC E d 197 [.ref r0] A)).bind fun q1 => if q1.1 = 0 then some (none, q1.2) else (gN q1.2 r0 9 15).bind fun n2 => (gI q1.2 r0 9 19).bind fun x3 => (aI 0 q1.2 n2 x3).bind fun x4 => (xI (xC E d 202 [.int (91 : Int32)] q1.2)).bind fun q5 => if x4 = q5.1 then if i1 = (8 : Int32) then (xV (xC E d 198 [.ref r0] q5.2)).bind fun A6 => xD E (d + 1) 212 37 [.ref r0, .int i1, .int x4] [] A6 else xD E (d + 1) 212 37 [.ref r0, .int i1, .int x4] [] q5.2 else if x4 = (50 : Int32) then (gN q5.2 r0 9 16).bind fun n7 => (gI q5.2 r0 9 19).bind fun x8 => (aI 0 q5.2 n7 x8).bind fun x9 => if x9 ≤ (1000 : Int32) then xD E (d + 1) 212 111 [.ref r0, .int i1, .int x4] [] q5.2 else xD E (d + 1) 212 95 [.ref r0, .int i1, .int x4] [] q5.2 else xD E (d + 1) 212 95 [.ref r0, .int i1, .int x4] [] q5.2 := (xD_bex E d h_212 [37, 95, 111, 135] 90 0 _ _ _).trans rfl
set_option maxRecDepth 100000 in
theorem e212_37 (E : Nat × (Nat → Int32)) (d : Nat) (r0 : Nat) (i1 : Int32) (w2 : Value) (A : xH) : xD E (d + 1) 212 37 [.ref r0, .int i1, w2] [] A = (xI (xC E d 197 [.ref r0] A)).bind fun q1 => if q1.1 = 0 then some (none, q1.2) else (gI q1.2 r0 9 19).bind fun x2 => (pF q1.2 r0 9 19 (.int (x2 + (1 : Int32)))).bind fun A3 => (xV (xC E d 210 [.ref r0, .int (i1 + (1 : Int32))] A3)).bind fun A4 => (xI (xC E d 202 [.int (93 : Int32)] A4)).bind fun q5 => (xV (xC E d 200 [.ref r0, .int q5.1] q5.2)).bind fun A6 => some (none, A6) := (xD_bex E d h_212 [37, 95, 111, 135] 90 37 _ _ _).trans rfl
set_option maxRecDepth 100000 in
theorem e212_95 (E : Nat × (Nat → Int32)) (d : Nat) (r0 : Nat) (w1 : Value) (i2 : Int32) (A : xH) : xD E (d + 1) 212 95 [.ref r0, w1, .int i2] [] A = (gI A r0 9 8).bind fun x1 => if i2 < x1 then (xV (xC E d 198 [.ref r0] A)).bind fun A2 => some (none, A2) else (gI A r0 9 9).bind fun x3 => if x3 < i2 then (xV (xC E d 198 [.ref r0] A)).bind fun A4 => some (none, A4) else xD E (d + 1) 212 111 [.ref r0, xJ, .int i2] [] A := (xD_bex E d h_212 [37, 95, 111, 135] 90 95 _ _ _).trans rfl
set_option maxRecDepth 100000 in
theorem e212_111 (E : Nat × (Nat → Int32)) (d : Nat) (r0 : Nat) (w1 : Value) (i2 : Int32) (A : xH) : xD E (d + 1) 212 111 [.ref r0, w1, .int i2] [] A = (xV (xC E d 201 [.ref r0] A)).bind fun A1 => (gI A1 r0 9 10).bind fun x2 => if x2 = 0 then xD E (d + 1) 212 135 [.ref r0, xJ, .int i2] [] A1 else if i2 = (12 : Int32) then (xV (xC E d 203 [.ref r0, .int (0 : Int32), .int (23 : Int32)] A1)).bind fun A3 => xD E (d + 1) 212 135 [.ref r0, xJ, .int i2] [] A3 else xD E (d + 1) 212 135 [.ref r0, xJ, .int i2] [] A1 := (xD_bex E d h_212 [37, 95, 111, 135] 90 111 _ _ _).trans rfl
set_option maxRecDepth 100000 in
theorem e212_135 (E : Nat × (Nat → Int32)) (d : Nat) (r0 : Nat) (w1 : Value) (i2 : Int32) (A : xH) : xD E (d + 1) 212 135 [.ref r0, w1, .int i2] [] A = (gI A r0 9 10).bind fun x1 => if x1 = 0 then some (none, A) else if i2 = (19 : Int32) then (xV (xC E d 203 [.ref r0, .int (0 : Int32), .int (999 : Int32)] A)).bind fun A2 => some (none, A2) else some (none, A) := (xD_bex E d h_212 [37, 95, 111, 135] 90 135 _ _ _).trans rfl
-- Model.reads ()Z
set_option maxRecDepth 100000 in
theorem h_213 : xprog[213]? = some M_213 := rfl
set_option maxRecDepth 100000 in
theorem e213_0 (E : Nat × (Nat → Int32)) (d : Nat) (r0 : Nat) (A : xH) : xD E (d + 1) 213 0 [.ref r0, xJ] [] A = (gI A r0 9 13).bind fun x1 => (xV (xC E d 196 [.ref r0, .int x1] A)).bind fun A2 => (pF A2 r0 9 13 (.int (0 : Int32))).bind fun A3 => (pF A3 r0 9 19 (.int (0 : Int32))).bind fun A4 => (pF A4 r0 9 20 (.int (0 : Int32))).bind fun A5 => (pF A5 r0 9 21 (.int (-1 : Int32))).bind fun A6 => (xV (xC E d 206 [.ref r0] A6)).bind fun A7 => xD E (d + 1) 213 34 [.ref r0, .int (1 : Int32)] [] A7 := (xD_bex E d h_213 [34] 90 0 _ _ _).trans rfl
set_option maxRecDepth 100000 in
theorem e213_34 (E : Nat × (Nat → Int32)) (d : Nat) (r0 : Nat) (i1 : Int32) (A : xH) : xD E (d + 1) 213 34 [.ref r0, .int i1] [] A = (xI (xC E d 202 [.int (59 : Int32)] A)).bind fun q1 => (xI (xC E d 199 [.ref r0, .int q1.1] q1.2)).bind fun q2 => if q2.1 = 0 then (xI (xC E d 197 [.ref r0] q2.2)).bind fun q3 => if q3.1 = 0 then (gI q3.2 r0 9 21).bind fun x4 => (pF q3.2 r0 9 14 (.int x4)).bind fun A5 => (xI (xC E d 197 [.ref r0] A5)).bind fun q6 => if x01 q6.1 = true then some (some (.int q6.1), q6.2) else none else (gI q3.2 r0 9 19).bind fun x7 => (gI q3.2 r0 9 18).bind fun x8 => if x8 ≤ x7 then (gI q3.2 r0 9 21).bind fun x9 => (pF q3.2 r0 9 14 (.int x9)).bind fun A10 => (xI (xC E d 197 [.ref r0] A10)).bind fun q11 => if x01 q11.1 = true then some (some (.int q11.1), q11.2) else none else (xV (xC E d 198 [.ref r0] q3.2)).bind fun A12 => (gI A12 r0 9 21).bind fun x13 => (pF A12 r0 9 14 (.int x13)).bind fun A14 => (xI (xC E d 197 [.ref r0] A14)).bind fun q15 => if x01 q15.1 = true then some (some (.int q15.1), q15.2) else none else if i1 = (12 : Int32) then (xV (xC E d 198 [.ref r0] q2.2)).bind fun A16 => (xI (xC E d 197 [.ref r0] A16)).bind fun q17 => if q17.1 = 0 then xD E (d + 1) 213 34 [.ref r0, .int (i1 + (1 : Int32))] [] q17.2 else (xV (xC E d 206 [.ref r0] q17.2)).bind fun A18 => xD E (d + 1) 213 34 [.ref r0, .int (i1 + (1 : Int32))] [] A18 else (xI (xC E d 197 [.ref r0] q2.2)).bind fun q19 => if q19.1 = 0 then xD E (d + 1) 213 34 [.ref r0, .int (i1 + (1 : Int32))] [] q19.2 else (xV (xC E d 206 [.ref r0] q19.2)).bind fun A20 => xD E (d + 1) 213 34 [.ref r0, .int (i1 + (1 : Int32))] [] A20 := (xD_bex E d h_213 [34] 90 34 _ _ _).trans rfl
-- Model.readsAs (Z)Z
set_option maxRecDepth 100000 in
theorem h_214 : xprog[214]? = some M_214 := rfl
set_option maxRecDepth 100000 in
theorem e214_0 (E : Nat × (Nat → Int32)) (d : Nat) (r0 : Nat) (i1 : Int32) (A : xH) : xD E (d + 1) 214 0 [.ref r0, .int i1] [] A = if x01 i1 = true then (pF A r0 9 10 (.int i1)).bind fun A1 => if i1 = 0 then xD E (d + 1) 214 17 [.ref r0, .int i1] [.int (7 : Int32), .ref r0] A1 else xD E (d + 1) 214 17 [.ref r0, .int i1] [.int (12 : Int32), .ref r0] A1 else none := (xD_bex E d h_214 [17] 90 0 _ _ _).trans rfl
set_option maxRecDepth 100000 in
theorem e214_17 (E : Nat × (Nat → Int32)) (d : Nat) (r0 : Nat) (i1 : Int32) (s0 : Nat) (s1 : Int32) (A : xH) : xD E (d + 1) 214 17 [.ref r0, .int i1] [.int s1, .ref s0] A = (pF A s0 9 8 (.int s1)).bind fun A1 => if i1 = 0 then (pF A1 r0 9 9 (.int (13 : Int32))).bind fun A2 => (xI (xC E d 213 [.ref r0] A2)).bind fun q3 => if x01 q3.1 = true then some (some (.int q3.1), q3.2) else none else (pF A1 r0 9 9 (.int (19 : Int32))).bind fun A4 => (xI (xC E d 213 [.ref r0] A4)).bind fun q5 => if x01 q5.1 = true then some (some (.int q5.1), q5.2) else none := (xD_bex E d h_214 [17] 90 17 _ _ _).trans rfl
-- Model.lays (I)V
set_option maxRecDepth 100000 in
theorem h_215 : xprog[215]? = some M_215 := rfl
set_option maxRecDepth 100000 in
theorem e215_0 (E : Nat × (Nat → Int32)) (d : Nat) (r0 : Nat) (i1 : Int32) (A : xH) : xD E (d + 1) 215 0 [.ref r0, .int i1, xJ] [] A = (gN A r0 9 2).bind fun n1 => (gI A r0 9 18).bind fun x2 => (sI 0 A n1 ((981 : Int32) + i1) x2).bind fun A3 => xD E (d + 1) 215 16 [.ref r0, .int i1, .int (0 : Int32)] [] A3 := (xD_bex E d h_215 [16] 90 0 _ _ _).trans rfl
set_option maxRecDepth 100000 in
theorem e215_16 (E : Nat × (Nat → Int32)) (d : Nat) (r0 : Nat) (i1 : Int32) (i2 : Int32) (A : xH) : xD E (d + 1) 215 16 [.ref r0, .int i1, .int i2] [] A = (gI A r0 9 18).bind fun x1 => if x1 ≤ i2 then some (none, A) else (gN A r0 9 2).bind fun n2 => (gN A r0 9 15).bind fun n3 => (aI 0 A n3 i2).bind fun x4 => (sI 0 A n2 (((988 : Int32) + ((400 : Int32) * i1)) + i2) x4).bind fun A5 => (gN A5 r0 9 2).bind fun n6 => (gN A5 r0 9 16).bind fun n7 => (aI 0 A5 n7 i2).bind fun x8 => (sI 0 A5 n6 (((3788 : Int32) + ((400 : Int32) * i1)) + i2) x8).bind fun A9 => xD E (d + 1) 215 16 [.ref r0, .int i1, .int (i2 + (1 : Int32))] [] A9 := (xD_bex E d h_215 [16] 90 16 _ _ _).trans rfl
-- Model.law ()I
set_option maxRecDepth 100000 in
theorem h_216 : xprog[216]? = some M_216 := rfl
set_option maxRecDepth 100000 in
theorem e216_0 (E : Nat × (Nat → Int32)) (d : Nat) (r0 : Nat) (A : xH) : xD E (d + 1) 216 0 [.ref r0] [] A = (gN A r0 9 2).bind fun n1 => (aI 0 A n1 (979 : Int32)).bind fun x2 => if x2 = (6 : Int32) then (pF A r0 9 13 (.int (0 : Int32))).bind fun A3 => (xI (xC E d 157 [.ref r0, .int (-5 : Int32)] A3)).bind fun q4 => some (some (.int q4.1), q4.2) else (xI (xC E d 214 [.ref r0, .int (0 : Int32)] A)).bind fun q5 => if q5.1 = 0 then (xI (xC E d 157 [.ref r0, .int (-6 : Int32)] q5.2)).bind fun q6 => some (some (.int q6.1), q6.2) else (gN q5.2 r0 9 2).bind fun n7 => (aI 0 q5.2 n7 (979 : Int32)).bind fun x8 => (xV (xC E d 215 [.ref r0, .int x8] q5.2)).bind fun A9 => (gN A9 r0 9 2).bind fun n10 => (aI 0 A9 n10 (979 : Int32)).bind fun x11 => (sI 0 A9 n10 (979 : Int32) (x11 + (1 : Int32))).bind fun A12 => (gN A12 r0 9 2).bind fun n13 => (aI 0 A12 n13 (979 : Int32)).bind fun x14 => (xI (xC E d 158 [.ref r0, .int (x14 - (1 : Int32))] A12)).bind fun q15 => some (some (.int q15.1), q15.2) := (xD_bex E d h_216 [] 90 0 _ _ _).trans rfl
-- Model.fault ()I
set_option maxRecDepth 100000 in
theorem h_217 : xprog[217]? = some M_217 := rfl
set_option maxRecDepth 100000 in
theorem e217_0 (E : Nat × (Nat → Int32)) (d : Nat) (r0 : Nat) (A : xH) : xD E (d + 1) 217 0 [.ref r0] [] A = (gI A r0 9 14).bind fun x1 => some (some (.int x1), A) := (xD_bex E d h_217 [] 90 0 _ _ _).trans rfl
-- Model.isLaw (I)Z
set_option maxRecDepth 100000 in
theorem h_218 : xprog[218]? = some M_218 := rfl
set_option maxRecDepth 100000 in
theorem e218_0 (E : Nat × (Nat → Int32)) (d : Nat) (r0 : Nat) (i1 : Int32) (A : xH) : xD E (d + 1) 218 0 [.ref r0, .int i1] [] A = (gN A r0 9 2).bind fun n1 => (aI 0 A n1 (979 : Int32)).bind fun x2 => (xI (xC E d 154 [.int i1, .int (-1 : Int32), .int (x2 - (1 : Int32))] A)).bind fun q3 => if x01 q3.1 = true then some (some (.int q3.1), q3.2) else none := (xD_bex E d h_218 [] 90 0 _ _ _).trans rfl
-- Model.force (I)I
set_option maxRecDepth 100000 in
theorem h_219 : xprog[219]? = some M_219 := rfl
set_option maxRecDepth 100000 in
theorem e219_0 (E : Nat × (Nat → Int32)) (d : Nat) (r0 : Nat) (i1 : Int32) (A : xH) : xD E (d + 1) 219 0 [.ref r0, .int i1, xJ] [] A = (xI (xC E d 218 [.ref r0, .int i1] A)).bind fun q1 => if q1.1 = 0 then (xI (xC E d 157 [.ref r0, .int (-2 : Int32)] q1.2)).bind fun q2 => some (some (.int q2.1), q2.2) else (gN q1.2 r0 9 2).bind fun n3 => (aI 0 q1.2 n3 (980 : Int32)).bind fun x4 => (gN q1.2 r0 9 2).bind fun n5 => (sI 0 q1.2 n5 (980 : Int32) i1).bind fun A6 => (xI (xC E d 158 [.ref r0, .int x4] A6)).bind fun q7 => some (some (.int q7.1), q7.2) := (xD_bex E d h_219 [] 90 0 _ _ _).trans rfl
-- Model.codeAt (I)I
set_option maxRecDepth 100000 in
theorem h_220 : xprog[220]? = some M_220 := rfl
set_option maxRecDepth 100000 in
theorem e220_0 (E : Nat × (Nat → Int32)) (d : Nat) (r0 : Nat) (i1 : Int32) (A : xH) : xD E (d + 1) 220 0 [.ref r0, .int i1] [] A = (gI A r0 9 23).bind fun x1 => if x1 ≤ i1 then some (some (.int (0 : Int32)), A) else (gN A r0 9 2).bind fun n2 => (aI 0 A n2 ((988 : Int32) + i1)).bind fun x3 => some (some (.int x3), A) := (xD_bex E d h_220 [] 90 0 _ _ _).trans rfl
-- Model.passes0 (I)Z
set_option maxRecDepth 100000 in
theorem h_221 : xprog[221]? = some M_221 := rfl
set_option maxRecDepth 100000 in
theorem e221_0 (E : Nat × (Nat → Int32)) (d : Nat) (r0 : Nat) (i1 : Int32) (A : xH) : xD E (d + 1) 221 0 [.ref r0, .int i1, xJ] [] A = (gI A r0 9 22).bind fun x1 => (xI (xC E d 220 [.ref r0, .int x1] A)).bind fun q2 => if q2.1 = i1 then xD E (d + 1) 221 17 [.ref r0, .int i1, xJ] [.int (1 : Int32)] q2.2 else xD E (d + 1) 221 17 [.ref r0, .int i1, xJ] [.int (0 : Int32)] q2.2 := (xD_bex E d h_221 [17] 90 0 _ _ _).trans rfl
set_option maxRecDepth 100000 in
theorem e221_17 (E : Nat × (Nat → Int32)) (d : Nat) (r0 : Nat) (w1 : Value) (w2 : Value) (s0 : Int32) (A : xH) : xD E (d + 1) 221 17 [.ref r0, w1, w2] [.int s0] A = if s0 = 0 then if x01 s0 = true then some (some (.int s0), A) else none else (gI A r0 9 22).bind fun x1 => (pF A r0 9 22 (.int (x1 + (1 : Int32)))).bind fun A2 => if x01 s0 = true then some (some (.int s0), A2) else none := (xD_bex E d h_221 [17] 90 17 _ _ _).trans rfl
-- Model.bounded (JZ)J
set_option maxRecDepth 100000 in
theorem h_222 : xprog[222]? = some M_222 := rfl
set_option maxRecDepth 100000 in
theorem e222_0 (E : Nat × (Nat → Int32)) (d : Nat) (r0 : Nat) (j1 : Int64) (i3 : Int32) (A : xH) : xD E (d + 1) 222 0 [.ref r0, .long j1, xJ, .int i3] [] A = if i3 = 0 then (gI A r0 9 24).bind fun x1 => if x1 = 0 then some (some (.long j1), A) else some (some (.long (0 : Int64)), A) else xD E (d + 1) 222 9 [.ref r0, .long j1, xJ, .int i3] [.int (lg_cmp j1 (1000000000 : Int64))] A := (xD_bex E d h_222 [9, 17, 20] 90 0 _ _ _).trans rfl
set_option maxRecDepth 100000 in
theorem e222_9 (E : Nat × (Nat → Int32)) (d : Nat) (r0 : Nat) (j1 : Int64) (w3 : Value) (s0 : Int32) (A : xH) : xD E (d + 1) 222 9 [.ref r0, .long j1, xJ, w3] [.int s0] A = if 0 < s0 then xD E (d + 1) 222 20 [.ref r0, .long j1, xJ, xJ] [] A else xD E (d + 1) 222 17 [.ref r0, .long j1, xJ, xJ] [.int (lg_cmp j1 (-1000000000 : Int64))] A := (xD_bex E d h_222 [9, 17, 20] 90 9 _ _ _).trans rfl
set_option maxRecDepth 100000 in
theorem e222_17 (E : Nat × (Nat → Int32)) (d : Nat) (r0 : Nat) (j1 : Int64) (w3 : Value) (s0 : Int32) (A : xH) : xD E (d + 1) 222 17 [.ref r0, .long j1, xJ, w3] [.int s0] A = if 0 ≤ s0 then (gI A r0 9 24).bind fun x1 => if x1 = 0 then some (some (.long j1), A) else some (some (.long (0 : Int64)), A) else xD E (d + 1) 222 20 [.ref r0, .long j1, xJ, xJ] [] A := (xD_bex E d h_222 [9, 17, 20] 90 17 _ _ _).trans rfl
set_option maxRecDepth 100000 in
theorem e222_20 (E : Nat × (Nat → Int32)) (d : Nat) (r0 : Nat) (j1 : Int64) (w3 : Value) (A : xH) : xD E (d + 1) 222 20 [.ref r0, .long j1, xJ, w3] [] A = (pF A r0 9 24 (.int (1 : Int32))).bind fun A1 => (gI A1 r0 9 24).bind fun x2 => if x2 = 0 then some (some (.long j1), A1) else some (some (.long (0 : Int64)), A1) := (xD_bex E d h_222 [9, 17, 20] 90 20 _ _ _).trans rfl
-- Model.sumOf (Z)J
set_option maxRecDepth 100000 in
theorem h_223 : xprog[223]? = some M_223 := rfl
set_option maxRecDepth 100000 in
theorem e223_0 (E : Nat × (Nat → Int32)) (d : Nat) (r0 : Nat) (i1 : Int32) (A : xH) : xD E (d + 1) 223 0 [.ref r0, .int i1, xJ, xJ, xJ, xJ, xJ] [] A = (xLo (xC E d 224 [.ref r0, .int i1] A)).bind fun q1 => xD E (d + 1) 223 6 [.ref r0, .int i1, .long q1.1, xJ, xJ, xJ, xJ] [] q1.2 := (xD_bex E d h_223 [6, 59] 90 0 _ _ _).trans rfl
set_option maxRecDepth 100000 in
theorem e223_6 (E : Nat × (Nat → Int32)) (d : Nat) (r0 : Nat) (i1 : Int32) (j2 : Int64) (w4 : Value) (w5 : Value) (w6 : Value) (A : xH) : xD E (d + 1) 223 6 [.ref r0, .int i1, .long j2, xJ, w4, w5, w6] [] A = (gI A r0 9 22).bind fun x1 => (xI (xC E d 220 [.ref r0, .int x1] A)).bind fun q2 => (xI (xC E d 202 [.int (43 : Int32)] q2.2)).bind fun q3 => if q2.1 = q3.1 then (gI q3.2 r0 9 22).bind fun x4 => (xI (xC E d 220 [.ref r0, .int x4] q3.2)).bind fun q5 => (xI (xC E d 202 [.int (43 : Int32)] q5.2)).bind fun q6 => if q5.1 = q6.1 then xD E (d + 1) 223 59 [.ref r0, .int i1, .long j2, xJ, xJ, xJ, xJ] [.int (1 : Int32)] q6.2 else xD E (d + 1) 223 59 [.ref r0, .int i1, .long j2, xJ, xJ, xJ, xJ] [.int (0 : Int32)] q6.2 else (gI q3.2 r0 9 22).bind fun x7 => (xI (xC E d 220 [.ref r0, .int x7] q3.2)).bind fun q8 => (xI (xC E d 202 [.int (45 : Int32)] q8.2)).bind fun q9 => if q8.1 = q9.1 then (gI q9.2 r0 9 22).bind fun x10 => (xI (xC E d 220 [.ref r0, .int x10] q9.2)).bind fun q11 => (xI (xC E d 202 [.int (43 : Int32)] q11.2)).bind fun q12 => if q11.1 = q12.1 then xD E (d + 1) 223 59 [.ref r0, .int i1, .long j2, xJ, xJ, xJ, xJ] [.int (1 : Int32)] q12.2 else xD E (d + 1) 223 59 [.ref r0, .int i1, .long j2, xJ, xJ, xJ, xJ] [.int (0 : Int32)] q12.2 else some (some (.long j2), q9.2) := (xD_bex E d h_223 [6, 59] 90 6 _ _ _).trans rfl
set_option maxRecDepth 100000 in
theorem e223_59 (E : Nat × (Nat → Int32)) (d : Nat) (r0 : Nat) (i1 : Int32) (j2 : Int64) (w4 : Value) (w5 : Value) (w6 : Value) (s0 : Int32) (A : xH) : xD E (d + 1) 223 59 [.ref r0, .int i1, .long j2, xJ, w4, w5, w6] [.int s0] A = (gI A r0 9 22).bind fun x1 => (pF A r0 9 22 (.int (x1 + (1 : Int32)))).bind fun A2 => (xLo (xC E d 224 [.ref r0, .int i1] A2)).bind fun q3 => if s0 = 0 then (xLo (xC E d 222 [.ref r0, .long (j2 - q3.1), .int i1] q3.2)).bind fun q4 => xD E (d + 1) 223 6 [.ref r0, .int i1, .long q4.1, xJ, .int s0, .long q3.1, xJ] [] q4.2 else (xLo (xC E d 222 [.ref r0, .long (j2 + q3.1), .int i1] q3.2)).bind fun q5 => xD E (d + 1) 223 6 [.ref r0, .int i1, .long q5.1, xJ, .int s0, .long q3.1, xJ] [] q5.2 := (xD_bex E d h_223 [6, 59] 90 59 _ _ _).trans rfl
