/-! ===== what the reference's walk over tokens and the class's code come to: steps ===== -/
section RNS
variable {F : List (Nat × Nat)} {wd : Nat → Int} {nw to : Nat}
/-- the code goes from i with st to j with st' -/
def RS1 (F : List (Nat × Nat)) (wd : Nat → Int) (nw to i : Nat) (st : List Int) (j : Nat) (st' : List Int) : Prop := ∃ s, ∀ fu, rn F wd nw to (fu + s) i st = rn F wd nw to fu j st'
def RB1 (F : List (Nat × Nat)) (wd : Nat → Int) (nw to i : Nat) (st : List Int) : Prop := ∃ s, ∀ fu, rn F wd nw to (fu + s) i st = some none
theorem RS1.rf {i : Nat} {st : List Int} : RS1 F wd nw to i st i st := ⟨0, fun _ => rfl⟩
theorem RS1.tr {i j k : Nat} {s1 s2 s3 : List Int} (h : RS1 F wd nw to i s1 j s2) (g : RS1 F wd nw to j s2 k s3) : RS1 F wd nw to i s1 k s3 := by
  obtain ⟨a, ha⟩ := h
  obtain ⟨b, hb⟩ := g
  exact ⟨b + a, fun fu => by rw [← Nat.add_assoc, ha, hb]⟩
theorem RS1.rb {i j : Nat} {s1 s2 : List Int} (h : RS1 F wd nw to i s1 j s2) (g : RB1 F wd nw to j s2) : RB1 F wd nw to i s1 := by
  obtain ⟨a, ha⟩ := h
  obtain ⟨b, hb⟩ := g
  exact ⟨b + a, fun fu => by rw [← Nat.add_assoc, ha, hb]⟩
variable {i : Nat} {st : List Int}
def rst (F : List (Nat × Nat)) (wd : Nat → Int) (nw to fu i op a : Nat) (st : List Int) : Option (Option (List Int)) := if op = 0 then (if a ≤ 1000 then rn F wd nw to fu (i + 1) ((a : Int) :: st) else none) else if op = 1 then (if a < nw then rn F wd nw to fu (i + 1) (wd a :: st) else none) else match st with
      | [] => none
      | v :: st' => if op = 2 then (if v = 0 ∨ v = 1 then rn F wd nw to fu (i + 1) ((1 - v) :: st') else none) else if op = 3 then (if v = 0 then (if i < a ∧ a ≤ 400 then rn F wd nw to fu a (v :: st') else none) else rn F wd nw to fu (i + 1) st') else if op = 4 then (if v = 1 then (if i < a ∧ a ≤ 400 then rn F wd nw to fu a (v :: st') else none) else rn F wd nw to fu (i + 1) st') else match st' with
        | [] => none
        | u :: st'' => match comb op u v with
          | none => some none
          | some z => rn F wd nw to fu (i + 1) (z :: st'')
theorem rn_one {op a : Nat} (hi : i < to) (hs : st.length < 60) (hF : F[i]? = some (op, a)) (ho : op ≤ 12) (fu : Nat) : rn F wd nw to (fu + 1) i st = rst F wd nw to fu i op a st := by
  show (if to ≤ i then some (some st) else if 60 ≤ st.length then none else match F[i]? with
    | none => none
    | some (op, ar) => if 12 < op then none else rst F wd nw to fu i op ar st) = _
  rw [if_neg (by omega), if_neg (by omega), hF]
  show (if 12 < op then none else _) = _
  rw [if_neg (by omega)]
theorem rs_num {a : Nat} (hi : i < to) (hs : st.length < 60) (hF : F[i]? = some (0, a)) (ha : a ≤ 1000) : RS1 F wd nw to i st (i + 1) ((a : Int) :: st) := ⟨1, fun fu => by
  rw [rn_one hi hs hF (by omega)]
  unfold rst
  rw [if_pos rfl, if_pos ha]⟩
theorem rs_word {a : Nat} (hi : i < to) (hs : st.length < 60) (hF : F[i]? = some (1, a)) (ha : a < nw) : RS1 F wd nw to i st (i + 1) (wd a :: st) := ⟨1, fun fu => by
  rw [rn_one hi hs hF (by omega)]
  unfold rst
  rw [if_neg (by omega), if_pos rfl, if_pos ha]⟩
theorem rs_not {a : Nat} {v : Int} (hi : i < to) (hs : st.length < 59) (hF : F[i]? = some (2, a)) (hv : v = 0 ∨ v = 1) : RS1 F wd nw to i (v :: st) (i + 1) ((1 - v) :: st) := ⟨1, fun fu => by
  rw [rn_one hi (by simp only [List.length_cons]; omega) hF (by omega)]
  unfold rst
  rw [if_neg (by omega), if_neg (by omega)]
  dsimp only
  rw [if_pos rfl, if_pos hv]⟩
theorem rs_and0 {a : Nat} {v : Int} (hi : i < to) (hs : st.length < 59) (hF : F[i]? = some (3, a)) (hv : v = 0) (ha : i < a) (ha2 : a ≤ 400) : RS1 F wd nw to i (v :: st) a (v :: st) := ⟨1, fun fu => by
  rw [rn_one hi (by simp only [List.length_cons]; omega) hF (by omega)]
  unfold rst
  rw [if_neg (by omega), if_neg (by omega)]
  dsimp only
  rw [if_neg (by omega), if_pos rfl, if_pos hv, if_pos ⟨ha, ha2⟩]⟩
theorem rs_and1 {a : Nat} {v : Int} (hi : i < to) (hs : st.length < 59) (hF : F[i]? = some (3, a)) (hv : ¬ v = 0) : RS1 F wd nw to i (v :: st) (i + 1) st := ⟨1, fun fu => by
  rw [rn_one hi (by simp only [List.length_cons]; omega) hF (by omega)]
  unfold rst
  rw [if_neg (by omega), if_neg (by omega)]
  dsimp only
  rw [if_neg (by omega), if_pos rfl, if_neg hv]⟩
theorem rs_or1 {a : Nat} {v : Int} (hi : i < to) (hs : st.length < 59) (hF : F[i]? = some (4, a)) (hv : v = 1) (ha : i < a) (ha2 : a ≤ 400) : RS1 F wd nw to i (v :: st) a (v :: st) := ⟨1, fun fu => by
  rw [rn_one hi (by simp only [List.length_cons]; omega) hF (by omega)]
  unfold rst
  rw [if_neg (by omega), if_neg (by omega)]
  dsimp only
  rw [if_neg (by omega), if_neg (by omega), if_pos rfl, if_pos hv, if_pos ⟨ha, ha2⟩]⟩
theorem rs_or0 {a : Nat} {v : Int} (hi : i < to) (hs : st.length < 59) (hF : F[i]? = some (4, a)) (hv : ¬ v = 1) : RS1 F wd nw to i (v :: st) (i + 1) st := ⟨1, fun fu => by
  rw [rn_one hi (by simp only [List.length_cons]; omega) hF (by omega)]
  unfold rst
  rw [if_neg (by omega), if_neg (by omega)]
  dsimp only
  rw [if_neg (by omega), if_neg (by omega), if_pos rfl, if_neg hv]⟩
theorem rs_op {op a : Nat} {u v z : Int} (hi : i < to) (hs : st.length < 58) (hF : F[i]? = some (op, a)) (h5 : 5 ≤ op) (h12 : op ≤ 12) (hz : comb op u v = some z) : RS1 F wd nw to i (v :: u :: st) (i + 1) (z :: st) := ⟨1, fun fu => by
  rw [rn_one hi (by simp only [List.length_cons]; omega) hF (by omega)]
  unfold rst
  rw [if_neg (by omega), if_neg (by omega)]
  dsimp only
  rw [if_neg (by omega), if_neg (by omega), if_neg (by omega), hz]⟩
theorem rb_op {op a : Nat} {u v : Int} (hi : i < to) (hs : st.length < 58) (hF : F[i]? = some (op, a)) (h5 : 5 ≤ op) (h12 : op ≤ 12) (hz : comb op u v = none) : RB1 F wd nw to i (v :: u :: st) := ⟨1, fun fu => by
  rw [rn_one hi (by simp only [List.length_cons]; omega) hF (by omega)]
  unfold rst
  rw [if_neg (by omega), if_neg (by omega)]
  dsimp only
  rw [if_neg (by omega), if_neg (by omega), if_neg (by omega), hz]⟩
end RNS
section EV0
variable {E : Nat × (Nat → Int32)} {d : Nat} {A : xH} {fl : Nat → Int32} {ar : Nat → Nat → Int32} {al : Nat → Nat → Int64} {T : Nat → Nat × Nat} {N g0 : Nat} {o : Bool}
/-- tokens in the reference's row of laws, from g0 on -/
def evR (T : Nat → Nat × Nat) (N g0 : Nat) (ar : Nat → Nat → Int32) : Prop := N ≤ 400 ∧ g0 ≤ 2400 ∧ (∀ i, N ≤ i → (T i).1 = 0) ∧ (∀ i, (T i).1 ≤ 355) ∧ ∀ i, i < N → ar 2 (988 + (g0 + i)) = nI (T i).1 ∧ ∃ w, ar 2 (3788 + (g0 + i)) = nI w ∧ min w 1001 = (T i).2
def est (N g0 : Nat) (o : Bool) (fl : Nat → Int32) : Prop := fl 23 = nI (g0 + N) ∧ fl 25 = (if o = true then 1 else 0)
def eF (fl fl' : Nat → Int32) : Prop := ∀ j, j ≠ 22 → j ≠ 24 → fl' j = fl j
theorem eF.rf : eF fl fl := fun _ _ _ => rfl
theorem eF.tr {f1 f2 : Nat → Int32} (h : eF fl f1) (g : eF f1 f2) : eF fl f2 := fun j a b => (g j a b).trans (h j a b)
theorem est.f {f1 : Nat → Int32} (h : est N g0 o fl) (g : eF fl f1) : est N g0 o f1 := ⟨by rw [g 23 (by omega) (by omega)]; exact h.1, by rw [g 25 (by omega) (by omega)]; exact h.2⟩
theorem e22 {v : Int32} : eF fl (upd fl 22 v) := fun j a _ => upd_n a
theorem e24 {v : Int32} : eF fl (upd fl 24 v) := fun j _ a => upd_n a
theorem m_codeAt (hA : 69 ≤ A.length) (hT : evR T N g0 ar) (he : est N g0 o fl) {i : Nat} (hi : i ≤ 500) : xC E (d + 1) 220 [.ref 48, .int (nI (g0 + i))] (mw A fl ar al) = some (some (.int (nI (T i).1)), mw A fl ar al) := by
  obtain ⟨t1, t2, t3, t4, t5⟩ := hT
  rw [k220 _ _ _ _ _ (m_k48 hA), m_g48_23 hA, Option.bind_some, he.1]
  by_cases e : i < N
  · rw [if_neg (nI_ge (by omega) (by omega)), m_r48_2 hA, Option.bind_some, zl, nI_add, m_a50 hA (by omega), Option.bind_some, (t5 i e).1]
  · rw [if_pos (nI_le (by omega) (by omega)), t3 i (by omega)]; rfl
theorem m_pass1 (hA : 69 ≤ A.length) (hT : evR T N g0 ar) (he : est N g0 o fl) {i c : Nat} {cc : Int32} (hi : i ≤ 500) (h22 : fl 22 = nI (g0 + i)) (hc : cc = nI c) (ht : (T i).1 = c) : xC E (d + 2) 221 [.ref 48, .int cc] (mw A fl ar al) = some (some (.int 1), mw A (upd fl 22 (nI (g0 + (i + 1)))) ar al) := by
  rw [k221 _ _ _ _ _ (m_k48 hA), m_g48_22 hA, Option.bind_some, h22, m_codeAt hA hT he hi, xI_s, Option.bind_some]
  dsimp only
  rw [ht, hc, if_pos rfl, e221_17, i_if, m_g48_22 hA, Option.bind_some, h22, nI_1, m_p48_22 hA, Option.bind_some, if_pos (by decide), Nat.add_assoc]
theorem m_pass0 (hA : 69 ≤ A.length) (hT : evR T N g0 ar) (he : est N g0 o fl) {i c : Nat} {cc : Int32} (hi : i ≤ 500) (h22 : fl 22 = nI (g0 + i)) (hc : cc = nI c) (hc2 : c ≤ 355) (ht : ¬ (T i).1 = c) : xC E (d + 2) 221 [.ref 48, .int cc] (mw A fl ar al) = some (some (.int 0), mw A fl ar al) := by
  have h4 := hT.2.2.2.1 i
  rw [k221 _ _ _ _ _ (m_k48 hA), m_g48_22 hA, Option.bind_some, h22, m_codeAt hA hT he hi, xI_s, Option.bind_some]
  dsimp only
  rw [hc, if_neg (fun q => ht ((nI_eq (by omega) (by omega)).mp q)), e221_17, i_if0, if_pos (by decide)]
/-- what a sum comes to that is (or is not) alive -/
def OUT (F : List (Nat × Nat)) (wd : Nat → Int) (nw to : Nat) (lv : Bool) (b : Int32) (i : Nat) (st : List Int) (r : Int64) (b' : Int32) (j : Nat) (st0 : List Int) : Prop := (b' = 0 ∨ b' = 1) ∧ (¬ (lv = true ∧ b = 0) → r = 0 ∧ b' = b) ∧ (lv = true ∧ b = 0 → (b' = 1 ∧ r = 0 ∧ RB1 F wd nw to i st) ∨ ∃ v : Int, b' = 0 ∧ r = lI v ∧ -1000000000 ≤ v ∧ v ≤ 1000000000 ∧ RS1 F wd nw to i st j (v :: st0))
abbrev bB (lv : Bool) : Int32 := if lv = true then 1 else 0
theorem m_bounded1 (hA : 69 ≤ A.length) (h24 : fl 24 = 0) {v : Int} (h1 : -2000000000000000000 ≤ v) (h2 : v ≤ 2000000000000000000) : ∃ fl' r, xC E (d + 1) 222 [.ref 48, .long (lI v), .int 1] (mw A fl ar al) = some (some (.long r), mw A fl' ar al) ∧ eF fl fl' ∧ fl' 22 = fl 22 ∧ ((bd v = none ∧ fl' 24 = 1 ∧ r = 0) ∨ (bd v = some v ∧ fl' 24 = 0 ∧ r = lI v)) := by
  have e1 : (-1000000000 : Int64) = lI (-1000000000) := by decide +kernel
  have e2 : (1000000000 : Int64) = lI 1000000000 := by decide +kernel
  have brk : xD E (d + 1) 222 20 [.ref 48, .long (lI v), xJ, xJ] [] (mw A fl ar al) = some (some (.long 0), mw A (upd fl 24 1) ar al) := by
    rw [e222_20, m_p48_24 hA, Option.bind_some, m_g48_24 hA, Option.bind_some, upd_s, i_if]
  rw [k222 _ _ _ _ _ _ (m_k48 hA), i_if, e222_9]
  simp only [lg_cmp_gt]
  rw [e2]
  unfold bd
  by_cases q1 : (1000000000 : Int) < v
  · rw [if_pos ((l_lt (by omega) (by omega) (by omega) (by omega)).mpr q1), brk, if_neg (by omega)]
    exact ⟨_, _, rfl, e24, upd_n (by omega), Or.inl ⟨rfl, upd_s, rfl⟩⟩
  · rw [if_neg (fun q => q1 ((l_lt (by omega) (by omega) (by omega) (by omega)).mp q)), e222_17]
    simp only [lg_cmp_ge]
    rw [show -lI 1000000000 = lI (-1000000000) by decide +kernel]
    by_cases q2 : (-1000000000 : Int) ≤ v
    · rw [if_pos ((l_le (by omega) (by omega) (by omega) (by omega)).mpr q2), m_g48_24 hA, Option.bind_some, h24, i_if0, if_pos (by omega)]
      exact ⟨_, _, rfl, eF.rf, rfl, Or.inr ⟨rfl, h24, rfl⟩⟩
    · rw [if_neg (fun q => q2 ((l_le (by omega) (by omega) (by omega) (by omega)).mp q)), brk, if_neg (by omega)]
      exact ⟨_, _, rfl, e24, upd_n (by omega), Or.inl ⟨rfl, upd_s, rfl⟩⟩
theorem m_bounded0 (hA : 69 ≤ A.length) {lv : Bool} {y : Int64} (h : fl 24 = 1 ∨ (lv = false ∧ y = 0)) : ∃ fl', xC E (d + 1) 222 [.ref 48, .long y, .int (bB lv)] (mw A fl ar al) = some (some (.long 0), mw A fl' ar al) ∧ eF fl fl' ∧ fl' 22 = fl 22 ∧ fl' 24 = fl 24 := by
  rw [k222 _ _ _ _ _ _ (m_k48 hA)]
  cases lv with
  | false =>
    refine ⟨fl, ?_, eF.rf, rfl, rfl⟩
    rw [show bB false = 0 from rfl, i_if0, m_g48_24 hA, Option.bind_some]
    rcases h with h | ⟨_, rfl⟩
    · rw [h, i_if]
    · split <;> rfl
  | true =>
    have h1 : fl 24 = 1 := by
      rcases h with h | ⟨q, _⟩
      · exact h
      · cases q
    have brk : xD E (d + 1) 222 20 [.ref 48, .long y, xJ, xJ] [] (mw A fl ar al) = some (some (.long 0), mw A (upd fl 24 1) ar al) := by
      rw [e222_20, m_p48_24 hA, Option.bind_some, m_g48_24 hA, Option.bind_some, upd_s, i_if]
    rw [show bB true = 1 from rfl, i_if, e222_9]
    split
    · exact ⟨_, brk, e24, upd_n (by omega), by rw [upd_s, h1]⟩
    · rw [e222_17]
      split
      · refine ⟨fl, ?_, eF.rf, rfl, rfl⟩
        rw [m_g48_24 hA, Option.bind_some, h1, i_if]
      · exact ⟨_, brk, e24, upd_n (by omega), by rw [upd_s, h1]⟩
end EV0
