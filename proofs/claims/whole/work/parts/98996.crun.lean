/-! ===== the class: a clause of orders is run ===== -/
theorem n_back {x : Int32} (h : 0 ≤ x) : nI x.toNatClampNeg = x := by
  rcases pk_ix x (show 2 ^ 31 - 1 < 2 ^ 31 by omega) with q | q | ⟨m, hm, rfl⟩
  · exact absurd h (Int32.not_le.mpr q)
  · have : x = nI (2 ^ 31 - 1) := Int32.le_antisymm (by
      rw [Int32.le_iff_toInt_le]
      have := Int32.toInt_le x
      rw [show (nI (2 ^ 31 - 1)).toInt = 2147483647 by decide]
      have h2 : Int32.maxValue.toInt = 2147483647 := by decide
      omega) q
    rw [this, nI_clamp (by omega)]
  · rw [nI_clamp (by omega)]
section CRUN
variable {E : Nat × (Nat → Int32)} {d : Nat} {A A' : xH} {X : Xs} {L0 Lo : List (St × Nat)} {n : NM} {code : List (Nat × Nat)} {cl : List (Nat → Nat)} {ask : List Nat}
/-- all words are looked up -/
theorem c_fill (h : CIo A X Lo n) (hX : XI X) {Z : OS} (hZ : Z.1.1 = X.1) (h50 : ask.length ≤ 50) (hask : ∀ q ∈ ask, q < 1024) (hT : TXT A 37 code cl ask) {w : Nat → Int32} (hw : A[43]? = some (ia 56 w)) (hw1 : w 1 = nI Z.2.1) (hw2 : w 2 = oI Z.2.2) : ∃ w', xC E (d + 5) 149 [.ref 0, .ref 37] A = some (none, A.set 43 (ia 56 w')) ∧ w' 1 = nI Z.2.1 ∧ w' 2 = oI Z.2.2 ∧ ∀ j, j < 6 + ask.length → w' j = tI (oWd Z ask j) := by
  have h69 := h.1
  have key : ∀ (A : xH) (w : Nat → Int32), CIo A X Lo n → A[43]? = some (ia 56 w) → ∀ i x, i < 6 → sI 0 A 43 (nI i) x = some (A.set 43 (ia 56 (upd w i x))) := fun A w _ hw i x hi => h_sI0 hw (by omega) (by omega)
  obtain ⟨s, hS, hRS⟩ := h.2.2.1.1
  generalize hv : upd (upd (upd (upd w 0 (nI X.1.1.2.2.2.2)) 3 (nI X.1.1.2.2.2.1)) 4 (nI X.1.1.2.2.1.length)) 5 (nI (keysN X.1.1.1)) = v
  obtain ⟨w', y1, y2, y3⟩ := c_fi54 (E := E) (d := d) (code := code) (cl := cl) hX hZ h50 hask ask.length 0 (A.set 43 (ia 56 v)) v xJ (by omega) h.w43 (hT.eq (fun q q1 q2 => List.getElem?_set_ne (by omega))) (List.getElem?_set_self (by omega))
  have st : ∀ g, ST (A.set 43 (ia 56 g)) 1 s := fun g => hS.eq (fun q q1 q2 => List.getElem?_set_ne (by omega))
  have gt : ∀ g : Nat → Int32, (A.set 43 (ia 56 g))[43]? = some (ia 56 g) := fun g => List.getElem?_set_self (by omega)
  have o : ∀ c : Nat, oLV Z c 0 = oLV (X, Z.2) c 0 := fun c => by unfold oLV; rw [hZ]
  refine ⟨w', ?_, (y2 1 (by omega)).trans ?_, (y2 2 (by omega)).trans ?_, fun j hj => ?_⟩
  · rw [k149 _ _ _ _ _ h.cls, h.g9, Option.bind_some, h.g0, Option.bind_some, hS.g7, Option.bind_some, hRS.2.2.2.2.2.2, show (0 : Int32) = nI 0 from rfl, h_sI0 hw (by omega) (by omega), Option.bind_some, (h.w43 (w := _)).g9, Option.bind_some, (h.w43 (w := _)).g0, Option.bind_some, (st _).g6, Option.bind_some, hRS.2.2.2.2.2.1, show (3 : Int32) = nI 3 from rfl, h_sI0 (gt _) (by omega) (by omega), Option.bind_some, xtr, (h.w43 (w := _)).g9, Option.bind_some, (h.w43 (w := _)).g0, Option.bind_some, (st _).g5, Option.bind_some, hRS.2.2.2.2.1, show (4 : Int32) = nI 4 from rfl, h_sI0 (gt _) (by omega) (by omega), Option.bind_some, xtr, (h.w43 (w := _)).g9, Option.bind_some, (h.w43 (w := _)).g0, Option.bind_some, c_keysThere (st _) hRS.1, xI_s, Option.bind_some]
    dsimp only
    rw [show (5 : Int32) = nI 5 from rfl, h_sI0 (gt _) (by omega) (by omega), Option.bind_some, xtr, hv]
    refine y1.trans ?_
    rw [xtr]
  · rw [← hv, upd_n (by omega), upd_n (by omega), upd_n (by omega), upd_n (by omega)]; exact hw1
  · rw [← hv, upd_n (by omega), upd_n (by omega), upd_n (by omega), upd_n (by omega)]; exact hw2
  · by_cases e : j < 6
    · rw [y2 j (by omega), ← hv]
      unfold oWd
      rw [if_pos e, o]
      unfold oLV
      rcases (show j = 0 ∨ j = 1 ∨ j = 2 ∨ j = 3 ∨ j = 4 ∨ j = 5 by omega) with rfl | rfl | rfl | rfl | rfl | rfl
      · rw [if_neg (by omega), if_pos rfl, tI_nat, upd_n (by omega), upd_n (by omega), upd_n (by omega), upd_s]
      · rw [if_neg (by omega), if_neg (by omega), if_pos rfl, tI_nat, upd_n (by omega), upd_n (by omega), upd_n (by omega), upd_n (by omega), hw1]
      · rw [if_neg (by omega), if_neg (by omega), if_neg (by omega), if_pos rfl, oZ_I, upd_n (by omega), upd_n (by omega), upd_n (by omega), upd_n (by omega), hw2]
      · rw [if_neg (by omega), if_neg (by omega), if_neg (by omega), if_neg (by omega), if_pos rfl, tI_nat, upd_n (by omega), upd_n (by omega), upd_s]
      · rw [if_neg (by omega), if_neg (by omega), if_neg (by omega), if_neg (by omega), if_neg (by omega), if_pos rfl, tI_nat, upd_n (by omega), upd_s]
      · rw [if_neg (by omega), if_neg (by omega), if_neg (by omega), if_neg (by omega), if_neg (by omega), if_neg (by omega), if_pos rfl, tI_nat, upd_s]
    · exact y3 j (by omega) hj
/-- the orders' history is not yet the file's -/
def Zc (Z : OS) (L0 : List (St × Nat)) : Xs := (Z.1.1, L0, Z.1.2.2)
/-- in the midst of orders -/
def ORD (A : xH) (Z : OS) (L0 Lo : List (St × Nat)) (n : NM) : Prop := CIo A (Zc Z L0) Lo n ∧ Z.1.2.1 = Lo.foldl kph L0 ∧ OI Z ∧ XI (Zc Z L0) ∧ ∃ w, A[43]? = some (ia 56 w) ∧ w 1 = nI Z.2.1 ∧ w 2 = oI Z.2.2
/-- the text that is run, what was ahead of it -/
def fr2 (A A' : xH) : Prop := ∀ q, ((15 ≤ q ∧ q < 22) ∨ (36 ≤ q ∧ q < 43)) → A'[q]? = A[q]?
theorem fr2.tr {A B C : xH} (h : fr2 A B) (g : fr2 B C) : fr2 A C := fun q hq => (g q hq).trans (h q hq)
theorem fro.f2 (h : fro A A') : fr2 A A' := fun q hq => h q (by omega)
theorem fr2.set {q0 : Nat} {c : xA} (h : q0 = 43 ∨ q0 = 25) : fr2 A (A.set q0 c) := fun q hq => List.getElem?_set_ne (by omega)
theorem fr2.txt (h : fr2 A A') (hT : TXT A 37 code cl ask) : TXT A' 37 code cl ask := hT.eq (fun q q1 q2 => h q (by omega))
/-- once more -/
theorem c_rc18 {cs : List (List Nat)} {l : List Nat} {ci : Nat} (hcl : cl = cs.map cl8) (hci : cs[ci]? = some l) (h50 : ask.length ≤ 50) (hask : ∀ q ∈ ask, q < 1024) (hwd : ∀ q ∈ code, q.1 = 1 → q.2 < 6 + ask.length) (hok : ∀ wd nw, nwR true wd nw → CLOK code wd nw l) (h3 : l.getD 0 0 ≤ 3) {tm : Nat} (htm : tm ≤ 20) : ∀ (c i : Nat) (A : xH) (Z : OS) (Lo : List (St × Nat)) (w6 w7 w8 : Value), i + c = tm → ORD A Z L0 Lo n → Z.2.1 + c ≤ 1000 → TXT A 37 code cl ask →
    (∀ Z', oRep code ask l c Z = some Z' → ∃ A' Lo', xD E (d + 8) 148 18 [.ref 0, .ref 37, .int (nI ci), .int (nI (l.getD 0 0)), .int (nI tm), .int (nI i), w6, w7, w8] [] A = some (some (.int 1), A') ∧ ORD A' Z' L0 Lo' n ∧ fr2 A A') ∧
    (oRep code ask l c Z = none → ∃ A' S' Lo', xD E (d + 8) 148 18 [.ref 0, .ref 37, .int (nI ci), .int (nI (l.getD 0 0)), .int (nI tm), .int (nI i), w6, w7, w8] [] A = some (some (.int 0), A') ∧ CIo A' (XS (Zc Z L0) S') Lo' n ∧ fr2 A A')
  | 0, i, A, Z, Lo, w6, w7, w8, hi, hO, hd, hT => by
    refine ⟨fun Z' hZ' => ?_, fun hn => by cases hn⟩
    cases hZ'
    refine ⟨A, Lo, ?_, hO, fun q _ => rfl⟩
    rw [e148_18, if_pos (show nI tm ≤ nI i from nI_le (by omega) (by omega))]
  | c + 1, i, A, Z, Lo, w6, w7, w8, hi, hO, hd, hT => by
    obtain ⟨hC, hL, hOI, hXI, w, hw, hw1, hw2⟩ := hO
    have h69 := hC.1
    obtain ⟨w', f1, f2, f3, f4⟩ := c_fill (E := E) (d := d + 2) hC hXI (Z := Z) rfl h50 hask hT hw hw1 hw2
    have hck := hok (oWd Z ask) 56 ⟨rfl, fun j => oWd_bd hOI ask j⟩
    obtain ⟨k1, k2, k3, k4, k5, k6, k7, k8, k9, k10, k11, k12⟩ := hck
    have hg : cl[ci]? = some (cl8 l) := by rw [hcl, List.getElem?_map, hci]; rfl
    -- heaps with other words, another stack
    have hC1 := hC.w43 (w := w')
    obtain ⟨g25, k0, hk0⟩ := hC1.k25
    have hfw : ∀ (i j : Nat), code[i]? = some (1, j) → j < 56 → w' j = tI (oWd Z ask j) ∧ -1000000000 ≤ oWd Z ask j ∧ oWd Z ask j ≤ 1000000000 := fun i j hj _ => ⟨f4 j (hwd (1, j) (List.mem_of_getElem? hj) rfl), oWd_bd hOI ask j⟩
    have gW : ∀ B : xH, B.length = A.length → (∀ q, q ≠ 25 → B[q]? = (A.set 43 (ia 56 w'))[q]?) → B[43]? = some (ia 56 w') := fun B _ hB => by rw [hB 43 (by omega)]; exact List.getElem?_set_self (by omega)
    have hT1 : TXT (A.set 43 (ia 56 w')) 37 code cl ask := fr2.txt (fr2.set (Or.inl rfl)) hT
    have t25 : ∀ g : Nat → Int32, TXT ((A.set 43 (ia 56 w')).set 25 (ia 64 g)) 37 code cl ask := fun g => fr2.txt (fr2.set (Or.inr rfl)) hT1
    have s25 : ∀ g : Nat → Int32, ((A.set 43 (ia 56 w')).set 25 (ia 64 g))[25]? = some (ia 64 g) := fun g => List.getElem?_set_self (by rw [List.length_set]; omega)
    have s43 : ∀ g : Nat → Int32, ((A.set 43 (ia 56 w')).set 25 (ia 64 g))[43]? = some (ia 56 w') := fun g => by rw [List.getElem?_set_ne (by omega)]; exact List.getElem?_set_self (by omega)
    obtain ⟨q1, v1⟩ := c_wthN (E := E) (d := d + 5) (wa := 43) (sa := 25) (i := ci) (p := 6) (pp := 6) rfl hT1 hg (by omega) k12 k3 (List.getElem?_set_self (by omega)) hk0 (Nat.le_refl _) hfw (by omega) (fun q q1 q2 => by omega)
    have hC2 := hC1.s25 (w := q1)
    have bT := bI_1 (wok_bd k3)
    have nxt : ∀ (B : xH) (Z1 : OS) (Lo1 : List (St × Nat)) (u6 u7 u8 : Value), ORD B Z1 L0 Lo1 n → Z1.2.1 ≤ Z.2.1 + 1 → fr2 A B → (Z1.1.1.2 = Z.1.1.2 ∧ Z1.1.2.2 = Z.1.2.2) →
        (∀ Z', oRep code ask l c Z1 = some Z' → ∃ A' Lo', xD E (d + 8) 148 18 [.ref 0, .ref 37, .int (nI ci), .int (nI (l.getD 0 0)), .int (nI tm), .int (nI i + 1), u6, u7, u8] [] B = some (some (.int 1), A') ∧ ORD A' Z' L0 Lo' n ∧ fr2 A A') ∧
        (oRep code ask l c Z1 = none → ∃ A' S' Lo', xD E (d + 8) 148 18 [.ref 0, .ref 37, .int (nI ci), .int (nI (l.getD 0 0)), .int (nI tm), .int (nI i + 1), u6, u7, u8] [] B = some (some (.int 0), A') ∧ CIo A' (XS (Zc Z L0) S') Lo' n ∧ fr2 A A') := by
      intro B Z1 Lo1 u6 u7 u8 hO1 hd1 hf1 hsame
      obtain ⟨r1, r2⟩ := c_rc18 hcl hci h50 hask hwd hok h3 htm c (i + 1) B Z1 Lo1 u6 u7 u8 (by omega) hO1 (by omega) (hf1.txt hT)
      refine ⟨fun Z' hZ' => ?_, fun hn => ?_⟩
      · obtain ⟨A', Lo', x1, x2, x3⟩ := r1 Z' hZ'
        exact ⟨A', Lo', by rw [nI_1]; exact x1, x2, hf1.tr x3⟩
      · obtain ⟨A', S', Lo', x1, x2, x3⟩ := r2 hn
        refine ⟨A', S', Lo', by rw [nI_1]; exact x1, ?_, hf1.tr x3⟩
        have e : XS (Zc Z1 L0) S' = XS (Zc Z L0) S' := by
          unfold XS Zc
          rw [hsame.1, hsame.2]
        rw [e] at x2; exact x2
    have hstep : oRep code ask l (c + 1) Z = (oStep code ask l Z).bind (oRep code ask l c) := rfl
    rw [hstep]
    have head : xD E (d + 8) 148 18 [.ref 0, .ref 37, .int (nI ci), .int (nI (l.getD 0 0)), .int (nI tm), .int (nI i), w6, w7, w8] [] A = (if bI (cT code (oWd Z ask) 56 l) = (1 : Int32) then (gN ((A.set 43 (ia 56 w')).set 25 (ia 64 q1)) 0 8 9).bind fun n6 => (gN ((A.set 43 (ia 56 w')).set 25 (ia 64 q1)) 0 8 3).bind fun n7 => (gN ((A.set 43 (ia 56 w')).set 25 (ia 64 q1)) n7 3 2).bind fun n8 => (xI (xC E (d + 7) 96 [.ref 37, .int (nI ci), .int (2 : Int32), .ref n6, .ref n8] ((A.set 43 (ia 56 w')).set 25 (ia 64 q1)))).bind fun q9 => (gN q9.2 0 8 9).bind fun n10 => (gN q9.2 0 8 3).bind fun n11 => (gN q9.2 n11 3 2).bind fun n12 => (xI (xC E (d + 7) 96 [.ref 37, .int (nI ci), .int (4 : Int32), .ref n10, .ref n12] q9.2)).bind fun q13 => if q9.1 = (-2000000000 : Int32) then some (some (.int (0 : Int32)), q13.2) else if q13.1 = (-2000000000 : Int32) then some (some (.int (0 : Int32)), q13.2) else xD E (d + 8) 148 118 [.ref 0, .ref 37, .int (nI ci), .int (nI (l.getD 0 0)), .int (nI tm), .int (nI i), .int q9.1, .int q13.1, xJ] [.ref 0, .int q13.1, .int q9.1, .int (nI (l.getD 0 0)), .ref 0] q13.2 else xD E (d + 8) 148 18 [.ref 0, .ref 37, .int (nI ci), .int (nI (l.getD 0 0)), .int (nI tm), .int (nI i + (1 : Int32)), xJ, xJ, xJ] [] ((A.set 43 (ia 56 w')).set 25 (ia 64 q1))) := by
      rw [e148_18, if_neg (show ¬ nI tm ≤ nI i from nI_ge (by omega) (by omega)), f1, xV_s, Option.bind_some, hC1.g9, Option.bind_some, hC1.g3, Option.bind_some, g25, Option.bind_some, v1, xI_s, Option.bind_some]
      rfl
    rw [head]
    unfold oStep
    by_cases eT : cT code (oWd Z ask) 56 l = some 1
    · rw [if_pos eT, if_pos (show bI (cT code (oWd Z ask) 56 l) = (1 : Int32) from bT.mpr eT)]
      obtain ⟨q2, v2⟩ := c_wthN (E := E) (d := d + 5) (wa := 43) (sa := 25) (i := ci) (p := 2) (pp := 2) rfl (t25 q1) hg (by omega) k8 k1 (s43 q1) (s25 q1) (Nat.le_refl _) hfw (by omega) (fun q q1 q2 => by omega)
      rw [xtr] at v2
      obtain ⟨q3, v3⟩ := c_wthN (E := E) (d := d + 5) (wa := 43) (sa := 25) (i := ci) (p := 4) (pp := 4) rfl (t25 q2) hg (by omega) k10 k2 (s43 q2) (s25 q2) (Nat.le_refl _) hfw (by omega) (fun q q1 q2 => by omega)
      rw [xtr] at v3
      have v2' : xC E (d + 7) 96 [.ref 37, .int (nI ci), .int (2 : Int32), .ref 43, .ref 25] ((A.set 43 (ia 56 w')).set 25 (ia 64 q1)) = some (some (.int (bI (cS code (oWd Z ask) 56 l))), (A.set 43 (ia 56 w')).set 25 (ia 64 q2)) := v2
      have v3' : xC E (d + 7) 96 [.ref 37, .int (nI ci), .int (4 : Int32), .ref 43, .ref 25] ((A.set 43 (ia 56 w')).set 25 (ia 64 q2)) = some (some (.int (bI (cU code (oWd Z ask) 56 l))), (A.set 43 (ia 56 w')).set 25 (ia 64 q3)) := v3
      have hC3 := hC1.s25 (w := q2)
      have hC4 := hC1.s25 (w := q3)
      have f4' : fr2 A ((A.set 43 (ia 56 w')).set 25 (ia 64 q3)) := fr2.tr (fr2.set (Or.inl rfl)) (fr2.set (Or.inr rfl))
      have bS := bI_b (wok_bd k1)
      have bU := bI_b (wok_bd k2)
      rw [hC2.g9, Option.bind_some, hC2.g3, Option.bind_some, hC2.k25.1, Option.bind_some, v2', xI_s, Option.bind_some]
      dsimp only
      rw [hC3.g9, Option.bind_some, hC3.g3, Option.bind_some, hC3.k25.1, Option.bind_some, v3', xI_s, Option.bind_some]
      dsimp only
      have bad : ∃ A' S' Lo', (some (some (Value.int 0), (A.set 43 (ia 56 w')).set 25 (ia 64 q3)) : xO) = some (some (Value.int 0), A') ∧ CIo A' (XS (Zc Z L0) S') Lo' n ∧ fr2 A A' := ⟨_, Z.1.1.1, Lo, rfl, hC4, f4'⟩
      by_cases eS : cS code (oWd Z ask) 56 l = none
      · rw [if_pos (show bI (cS code (oWd Z ask) 56 l) = (-2000000000 : Int32) from bS.mpr eS), if_pos (Or.inl eS)]
        exact ⟨fun Z' hZ' => (by cases hZ'), fun _ => bad⟩
      · rw [if_neg (show ¬ bI (cS code (oWd Z ask) 56 l) = (-2000000000 : Int32) from fun z => eS (bS.mp z))]
        by_cases eU : cU code (oWd Z ask) 56 l = none
        · rw [if_pos (show bI (cU code (oWd Z ask) 56 l) = (-2000000000 : Int32) from bU.mpr eU), if_pos (Or.inr eU)]
          exact ⟨fun Z' hZ' => (by cases hZ'), fun _ => bad⟩
        · rw [if_neg (show ¬ bI (cU code (oWd Z ask) 56 l) = (-2000000000 : Int32) from fun z => eU (bU.mp z)), if_neg (fun z => z.elim eS eU)]
          obtain ⟨vS, hvS⟩ := Option.ne_none_iff_exists'.mp eS
          obtain ⟨vU, hvU⟩ := Option.ne_none_iff_exists'.mp eU
          obtain ⟨bs1, bs2⟩ := wok_bd k1 vS hvS
          obtain ⟨bu1, bu2⟩ := wok_bd k2 vU hvU
          rw [hvS, hvU]
          obtain ⟨A5, a1, a2, a3⟩ := c_act32 (E := E) (d := d) hC4 hXI (show l.getD 0 0 < 4 by omega) (tI vS) (tI vU)
          have a1' : xC E (d + 7) 147 [.ref 0, .int (nI (l.getD 0 0)), .int (tI vS), .int (tI vU), .ref 32] ((A.set 43 (ia 56 w')).set 25 (ia 64 q3)) = some (some (.int (bA Z.1.1.2.1 (l.getD 0 0) (tI vS) (tI vU) Z.1.1.1).1), A5) := a1
          have f5 : fr2 A A5 := f4'.tr a3.f2
          simp only [show bI (some vS) = tI vS from rfl, show bI (some vU) = tI vU from rfl, Option.getD_some]
          rw [e148_118, hC4.g6, Option.bind_some, a1', xI_s, Option.bind_some]
          dsimp only
          rcases oAct_b hOI.1 (show l.getD 0 0 < 4 by omega) bs1 bs2 bu1 bu2 with ⟨n1, n2⟩ | ⟨n1, n2⟩
          · rw [if_neg (show ¬ 0 ≤ (bA Z.1.1.2.1 (l.getD 0 0) (tI vS) (tI vU) Z.1.1.1).1 from Int32.not_le.mpr n1), if_pos n2]
            refine ⟨fun Z' hZ' => (by cases hZ'), fun _ => ?_⟩
            rcases a2 with ⟨-, a2⟩ | ⟨a2, -⟩
            · exact ⟨A5, Z.1.1.1, Lo, rfl, a2, f5⟩
            · exact absurd n1 a2
          · have hpos : (0 : Int32) ≤ (bA Z.1.1.2.1 (l.getD 0 0) (tI vS) (tI vU) Z.1.1.1).1 := Int32.not_lt.mp n1
            have hb1 : (bX Z.1 (l.getD 0 0) (tI vS) (tI vU)).1 = (bA Z.1.1.2.1 (l.getD 0 0) (tI vS) (tI vU) Z.1.1.1).1 := rfl
            have hb2 : (bX Z.1 (l.getD 0 0) (tI vS) (tI vU)).2 = Xact Z.1 (bA Z.1.1.2.1 (l.getD 0 0) (tI vS) (tI vU) Z.1.1.1).2 (l.getD 0 0) := if_neg n1
            rw [if_pos hpos, n2, hb1, if_neg n1, hb2, Option.bind_some]
            have a2' : CIo A5 (XS (Zc Z L0) (bA Z.1.1.2.1 (l.getD 0 0) (tI vS) (tI vU) Z.1.1.1).2) (kph Lo (Z.1.1.1, l.getD 0 0)) n := by
              rcases a2 with ⟨a2, -⟩ | ⟨-, a2⟩
              · exact absurd a2 n1
              · exact a2
            have h5 := a2'.1
            have w43 : A5[43]? = some (ia 56 w') := by rw [a3 43 (by omega)]; exact s43 q3
            -- what was done is counted
            have hoi1 : OI (Xact Z.1 (bA Z.1.1.2.1 (l.getD 0 0) (tI vS) (tI vU) Z.1.1.1).2 (l.getD 0 0), Z.2.1 + 1, if l.getD 0 0 = 0 then some (bA Z.1.1.2.1 (l.getD 0 0) (tI vS) (tI vU) Z.1.1.1).1.toNatClampNeg else Z.2.2) := by
              refine (oStep_R (F := code) (ask := ask) (l := l) hOI h3 (by omega) ?_).1
              unfold oStep
              rw [if_pos eT, if_neg (fun z => z.elim eS eU), hvS, hvU]
              simp only [Option.getD_some]
              rw [n2, hb1, if_neg n1, hb2]
            have hSI : XI (XS (Zc Z L0) (bA Z.1.1.2.1 (l.getD 0 0) (tI vS) (tI vU) Z.1.1.1).2) := hXI.s hoi1.1.1.1
            have hl16 : L0.length ≤ 16 := hXI.2.1
            have hlo : Lo.length ≤ 16 := by
              obtain ⟨pl, hp⟩ := hC.2.2.2.1
              exact hp.2.2.1.2.2.2.1
            have hhist : (Xact Z.1 (bA Z.1.1.2.1 (l.getD 0 0) (tI vS) (tI vU) Z.1.1.1).2 (l.getD 0 0)).2.1 = (kph Lo (Z.1.1.1, l.getD 0 0)).foldl kph L0 := by
              rw [fold_kph hl16 hlo]
              show kph Z.1.2.1 _ = _
              rw [hL]
            have e1 : sI 0 A5 43 (1 : Int32) (w' 1 + (1 : Int32)) = some (A5.set 43 (ia 56 (upd w' 1 (nI (Z.2.1 + 1))))) := by
              rw [f2, nI_1]; exact h_sI0 (i := 1) w43 (by omega) (by omega)
            rw [a2'.g9, Option.bind_some, show aI 0 A5 43 (1 : Int32) = some (w' 1) from h_aI (i := 1) w43 (by omega) (by omega), Option.bind_some, e1, Option.bind_some]
            by_cases h0 : l.getD 0 0 = 0
            · rw [if_pos (show nI (l.getD 0 0) = 0 by rw [h0]; rfl), (a2'.w43 (w := _)).g9, Option.bind_some, show sI 0 (A5.set 43 (ia 56 (upd w' 1 (nI (Z.2.1 + 1))))) 43 (2 : Int32) (bA Z.1.1.2.1 (l.getD 0 0) (tI vS) (tI vU) Z.1.1.1).1 = some ((A5.set 43 (ia 56 (upd w' 1 (nI (Z.2.1 + 1))))).set 43 (ia 56 (upd (upd w' 1 (nI (Z.2.1 + 1))) 2 (bA Z.1.1.2.1 (l.getD 0 0) (tI vS) (tI vU) Z.1.1.1).1))) from h_sI0 (i := 2) (List.getElem?_set_self (by omega)) (by omega) (by omega), Option.bind_some, xtr]
              refine nxt _ _ (kph Lo (Z.1.1.1, l.getD 0 0)) _ _ _ ⟨a2'.w43, hhist, hoi1, hSI, _, List.getElem?_set_self (by omega), ?_, ?_⟩ (Nat.le_refl _) (f5.tr (fr2.set (Or.inl rfl))) ⟨rfl, rfl⟩
              · rw [upd_n (by omega), upd_s]
              · rw [upd_s]
                show _ = oI (if l.getD 0 0 = 0 then _ else _)
                rw [if_pos h0]
                show _ = nI (bA Z.1.1.2.1 (l.getD 0 0) (tI vS) (tI vU) Z.1.1.1).1.toNatClampNeg
                exact (n_back hpos).symm
            · rw [if_neg (show ¬ nI (l.getD 0 0) = 0 from fun z => h0 ((nI_eq (b := 0) (by omega) (by omega)).mp z))]
              refine nxt _ _ (kph Lo (Z.1.1.1, l.getD 0 0)) _ _ _ ⟨a2'.w43, hhist, hoi1, hSI, _, List.getElem?_set_self (by omega), ?_, ?_⟩ (Nat.le_refl _) (f5.tr (fr2.set (Or.inl rfl))) ⟨rfl, rfl⟩
              · rw [upd_s]
              · rw [upd_n (by omega), f3]
                show _ = oI (if l.getD 0 0 = 0 then _ else _)
                rw [if_neg h0]
    · rw [if_neg eT, if_neg (show ¬ bI (cT code (oWd Z ask) 56 l) = (1 : Int32) from fun z => eT (bT.mp z)), Option.bind_some]
      exact nxt _ Z Lo _ _ _ ⟨hC2, hL, hOI, hXI, w', s43 q1, f2, f3⟩ (by omega) (fr2.tr (fr2.set (Or.inl rfl)) (fr2.set (Or.inr rfl))) ⟨rfl, rfl⟩
end CRUN
