/-! ===== the first state (printed by ginit2.py) ===== -/
def X0 : Xs := ((st0, ([], none, 0, 0), 1, []), [], fun _ => none, (fun _ => 0, 0), (0, 0, -1, -1), fun _ => 0, fun _ => -1)
theorem nil_g {α : Type} {i : Nat} {y : α} {P : Prop} (h : ([] : List α)[i]? = some y) : P := by simp at h
theorem nil_m {α : Type} {y : α} {P : Prop} (h : y ∈ ([] : List α)) : P := by cases h
theorem non_s {α : Type} {y : α} {P : Prop} (h : none = some y) : P := by cases h
theorem XI_0 : XI X0 := ⟨⟨st0_SI 0, (show 1 ≤ 10 by omega), (show 0 ≤ 6 by omega), fun q hq => nil_m hq, (show 0 < 1000 by omega), (show 0 ≤ 9 by omega), (show 0 ≤ 6 by omega), fun q hq => non_s hq, fun L hL => nil_m hL⟩, (show 0 ≤ 16 by omega), fun q hq => nil_m hq, fun k K hK => non_s hK, (show 0 ≤ 400 by omega), fun j => (show 0 < 256 by omega)⟩
theorem kz0_n {j : Nat} (h1 : j ≠ 975) (h2 : j ≠ 980) (h3 : j ≠ 0) (h4 : j ≠ 240) : kz0 j = nI 0 := by
  unfold kz0; rw [upd_n h4, upd_n h3, upd_n h2, upd_n h1]; rfl
theorem kz0_0 : kz0 0 = nI 1 := by
  unfold kz0; rw [upd_n (by omega), upd_s]; rfl
theorem kz0_240 : kz0 240 = nI 1 := by
  unfold kz0; rw [upd_s]; rfl
theorem kz0_975 : kz0 975 = nI 1 := by
  unfold kz0; rw [upd_n (by omega), upd_n (by omega), upd_n (by omega), upd_s]; rfl
theorem kz0_980 : kz0 980 = -1 := by
  unfold kz0; rw [upd_n (by omega), upd_n (by omega), upd_s]
/-- a page that is not used; the first page -/
theorem pg_no {f : Nat → Int32} {o : Nat} (h1 : f o = nI 0) (h2 : f (o + 3) = nI 0) : pgR f o none := ⟨Nat.zero_le _, h1, h2, fun i k v hi => nil_g hi, fun z => absurd rfl z⟩
theorem pg_1 {f : Nat → Int32} {o : Nat} (h1 : f o = nI 1) (h2 : f (o + 3) = nI 0) (h3 : f (o + 1) = nI 0) (h4 : f (o + 2) = nI 0) : pgR f o (some (0, 0, [])) := ⟨Nat.zero_le _, h1, h2, fun i k v hi => nil_g hi, fun _ => ⟨h3, h4⟩⟩
theorem MS_0 : MS kz0 st0 := by
  refine ⟨fun b hb => ?_, fun b hb => ?_, ⟨Nat.zero_le _, fun i q hq => nil_g hq⟩, kz0_n (by omega) (by omega) (by omega) (by omega), kz0_n (by omega) (by omega) (by omega) (by omega), kz0_n (by omega) (by omega) (by omega) (by omega)⟩
  · show pgR kz0 (10 * b) (if b = 0 then some (0, 0, []) else none)
    by_cases h : b = 0
    · subst h
      rw [if_pos rfl]
      exact pg_1 kz0_0 (kz0_n (by omega) (by omega) (by omega) (by omega)) (kz0_n (by omega) (by omega) (by omega) (by omega)) (kz0_n (by omega) (by omega) (by omega) (by omega))
    · rw [if_neg h]
      exact pg_no (kz0_n (by omega) (by omega) (by omega) (by omega)) (kz0_n (by omega) (by omega) (by omega) (by omega))
  · show pgR kz0 (240 + 10 * b) (if b = 0 then some (0, 0, []) else none)
    by_cases h : b = 0
    · subst h
      rw [if_pos rfl]
      exact pg_1 kz0_240 (kz0_n (by omega) (by omega) (by omega) (by omega)) (kz0_n (by omega) (by omega) (by omega) (by omega)) (kz0_n (by omega) (by omega) (by omega) (by omega))
    · rw [if_neg h]
      exact pg_no (kz0_n (by omega) (by omega) (by omega) (by omega)) (kz0_n (by omega) (by omega) (by omega) (by omega))
theorem MK_0 : MK kz0 X0.1 := ⟨MS_0, ⟨kz0_n (by omega) (by omega) (by omega) (by omega), (show 0 ≤ 9 by omega), kz0_n (by omega) (by omega) (by omega) (by omega), (show 0 < 1000 by omega), kz0_n (by omega) (by omega) (by omega) (by omega), (show 0 ≤ 6 by omega), kz0_980, fun q hq => non_s hq, fun i L hi => nil_g hi⟩, kz0_975, kz0_n (by omega) (by omega) (by omega) (by omega), fun i q hq => nil_g hq⟩
theorem MI_0 : MI fz0 az0 X0 := by
  refine ⟨MK_0, ⟨rfl, fun i q hq => nil_g hq⟩, fun k hk => ⟨fun _ => rfl, fun K hK => non_s hK⟩, ⟨rfl, fun j hj => absurd hj (Nat.not_lt_zero j)⟩, ⟨rfl, rfl, rfl, rfl⟩, fun i hi => rfl, Or.inl ⟨rfl, fun k hk => rfl⟩, fun j hj => ?_⟩
  show wnA 126 j = _
  unfold wnA
  rw [if_pos hj]
theorem cnt_zz : ∀ m, cnt (fun _ => 0) m = 0
  | 0 => rfl
  | m + 1 => by rw [cnt_s, cnt_zz m]
theorem CI_0 {A : xH} (hA : A.length = 48) (hS : SC A 1 st0) (hd : ∃ f, A[45]? = some (ia 40 f) ∧ ∀ i, i < 40 → f i = -1) (hk : ∀ q, (q = 0 ∨ 8 ≤ q) → q ≠ 45 → A[q]? = cst15[q]?) : CIo (A ++ mcs fz0 az0 lz0) X0 [] (0, fun q => (A ++ mcs fz0 az0 lz0)[q]?) := by
  have hl : (A ++ mcs fz0 az0 lz0).length = 69 := by rw [List.length_append, hA]; rfl
  have hg : ∀ q, q < 48 → (A ++ mcs fz0 az0 lz0)[q]? = A[q]? := fun q hq => List.getElem?_append_left (by omega)
  have hs : ∀ q c, q < 48 → (q = 0 ∨ 8 ≤ q) → q ≠ 45 → cst15[q]? = some c → (A ++ mcs fz0 az0 lz0)[q]? = some c := fun q c a1 a2 a3 a4 => (hg q a1).trans ((hk q a2 a3).trans a4)
  obtain ⟨fd, d1, d2⟩ := hd
  generalize A ++ mcs fz0 az0 lz0 = H at hl hg hs ⊢
  have c22 : H[22]? = some (.inr (3, [.ref 23, .ref 24, .ref 25, .int 0, .int (-1), .int 1, .int 0, .int 0])) := hs 22 _ (by omega) (by omega) (by omega) rfl
  have c23 : H[23]? = some (.inl (4, 6, .inr (.inr fun _ => none))) := hs 23 _ (by omega) (by omega) (by omega) rfl
  have c24 : H[24]? = some (ia 7 (fun _ => 0)) := hs 24 _ (by omega) (by omega) (by omega) rfl
  have c25 : H[25]? = some (ia 64 (fun _ => 0)) := hs 25 _ (by omega) (by omega) (by omega) rfl
  have c26 : H[26]? = some (.inr (4, [.ref 27, .ref 28, .int 0])) := hs 26 _ (by omega) (by omega) (by omega) rfl
  have c27 : H[27]? = some (ia 6 (fun _ => 0)) := hs 27 _ (by omega) (by omega) (by omega) rfl
  have c28 : H[28]? = some (ia 6 (fun _ => 0)) := hs 28 _ (by omega) (by omega) (by omega) rfl
  have c29 : H[29]? = some (.inr (0, [.ref 30, .ref 31, .null, .int 0])) := hs 29 _ (by omega) (by omega) (by omega) rfl
  have c30 : H[30]? = some (.inl (5, 16, .inr (.inr fun _ => none))) := hs 30 _ (by omega) (by omega) (by omega) rfl
  have c31 : H[31]? = some (ia 16 (fun _ => 0)) := hs 31 _ (by omega) (by omega) (by omega) rfl
  have c32 : H[32]? = some (.inr (0, [.ref 33, .ref 34, .null, .int 0])) := hs 32 _ (by omega) (by omega) (by omega) rfl
  have c33 : H[33]? = some (.inl (5, 16, .inr (.inr fun _ => none))) := hs 33 _ (by omega) (by omega) (by omega) rfl
  have c34 : H[34]? = some (ia 16 (fun _ => 0)) := hs 34 _ (by omega) (by omega) (by omega) rfl
  have c35 : H[35]? = some (.inl (6, 2, .inr (.inr fun _ => none))) := hs 35 _ (by omega) (by omega) (by omega) rfl
  have c43 : H[43]? = some (ia 56 (fun _ => 0)) := hs 43 _ (by omega) (by omega) (by omega) rfl
  have c44 : H[44]? = some (ia 7 (fun _ => 0)) := hs 44 _ (by omega) (by omega) (by omega) rfl
  have c46 : H[46]? = some (ia 64 (fun _ => 0)) := hs 46 _ (by omega) (by omega) (by omega) rfl
  have c47 : H[47]? = some (.inl (3, 20, .inr (.inl fun _ => 0))) := hs 47 _ (by omega) (by omega) (by omega) rfl
  have c0 : H[0]? = some (.inr (8, [.ref 1, .ref 8, .ref 15, .ref 22, .ref 26, .ref 29, .ref 32, .ref 35, .ref 36, .ref 43, .ref 44, .ref 45, .ref 46, .ref 47, .int 0, .int (-1), .int (-1), .int 0])) := hs 0 _ (by omega) (by omega) (by omega) rfl
  have c45 : H[45]? = some (ia 40 fd) := (hg 45 (by omega)).trans d1
  have sx : ∀ a, a = 8 ∨ a = 15 → SX H a := fun a ha => by
    rcases ha with rfl | rfl
    · exact ⟨(fun _ => 0, fun _ => 0, fun _ => 0, fun _ => 0, 0, 0, 0, 0), hs 8 _ (by omega) (by omega) (by omega) rfl, ⟨hs 9 _ (by omega) (by omega) (by omega) rfl, hs 10 _ (by omega) (by omega) (by omega) rfl⟩, ⟨hs 11 _ (by omega) (by omega) (by omega) rfl, hs 12 _ (by omega) (by omega) (by omega) rfl⟩, hs 13 _ (by omega) (by omega) (by omega) rfl, hs 14 _ (by omega) (by omega) (by omega) rfl⟩
    · exact ⟨(fun _ => 0, fun _ => 0, fun _ => 0, fun _ => 0, 0, 0, 0, 0), hs 15 _ (by omega) (by omega) (by omega) rfl, ⟨hs 16 _ (by omega) (by omega) (by omega) rfl, hs 17 _ (by omega) (by omega) (by omega) rfl⟩, ⟨hs 18 _ (by omega) (by omega) (by omega) rfl, hs 19 _ (by omega) (by omega) (by omega) rfl⟩, hs 20 _ (by omega) (by omega) (by omega) rfl, hs 21 _ (by omega) (by omega) (by omega) rfl⟩
  have hru : RC H 22 ([], none, 0, 0) 1 := ⟨(fun _ => none, 0, -1, 1, 0, 0), ⟨⟨c22, c23, ⟨_, c24⟩, ⟨_, c25⟩⟩, ⟨Nat.zero_le _, rfl, fun i L hi => nil_g hi⟩, fun i t hi ht => non_s ht, rfl, fun q hq => non_s hq, rfl, Nat.zero_le _, rfl, (show 0 < 1000 by omega)⟩, rfl, fun i t hi ht => non_s ht, fun i t hi ht => non_s ht⟩
  have hsg : SG H 26 [] := ⟨c26, _, _, c27, c28, fun i q hq => nil_g hq⟩
  have h29 : HS H 29 0 (fun _ => none) [] := ⟨c29, ⟨_, c30, fun i hi => rfl⟩, ⟨_, c31, fun i q hq => nil_g hq⟩, Nat.zero_le _, fun i q hq => nil_g hq⟩
  have h32 : HS H 32 17 (fun _ => none) [] := ⟨c32, ⟨_, c33, fun i hi => rfl⟩, ⟨_, c34, fun i q hq => nil_g hq⟩, Nat.zero_le _, fun i q hq => nil_g hq⟩
  have him : IMC H (fun _ => none) (fun _ => none) := ⟨_, c35, fun j hj => ⟨fun _ => ⟨rfl, rfl⟩, fun K hK => non_s hK⟩⟩
  have hrm : RM H (fun _ => none) (0, fun q => H[q]?) := ⟨by rw [hl]; exact (show 69 = 69 + 7 * cnt (fun _ => 0) 34 + 15 * (0 + 0) + 5 * 0 by have hz := cnt_zz 34; omega), fun q c hq hc => by
    have := (List.getElem?_eq_some_iff.mp hc).1
    omega, fun q _ _ => rfl⟩
  have htp : TPC H (fun _ => 0, 0) := ⟨fun j => if j = 6 then -1 else 0, fun _ => 0, fun _ _ => 0, fun j hj => by
    rcases (show j = 0 ∨ j = 1 ∨ j = 2 ∨ j = 3 ∨ j = 4 ∨ j = 5 ∨ j = 6 by omega) with rfl | rfl | rfl | rfl | rfl | rfl | rfl
    all_goals exact hs _ _ (by omega) (by omega) (by omega) rfl, rfl, fun j hj => absurd hj (Nat.not_lt_zero j)⟩
  exact ⟨by omega, c0, ⟨hS.eq (fun q q1 q2 => hg q (by omega)), hru, hsg⟩, ⟨fun _ => none, ⟨fun i j p _ _ hp => non_s hp, fun i p _ hp => non_s hp⟩, h29, h32, him, hrm⟩, htp, ⟨⟨_, c44, fun i hi => rfl⟩, ⟨_, c45, d2⟩⟩, sx 8 (Or.inl rfl), sx 15 (Or.inr rfl), ⟨_, c43⟩, ⟨_, c46⟩, ⟨_, c47⟩⟩
theorem law_ok (E : Nat × (Nat → Int32)) (hE : E.1 ≤ 3072) : ∃ A', xD E 60 302 0 [.float 0, xJ, xJ, xJ] [] [] = some (some (.int 1), A') ∧ A'.length ≤ 600000 ∧ xsl A' ≤ 7302250 := by
  obtain ⟨A1, a1, a2, a3, a4, a5⟩ := c_born (E := E) (d := 55)
  have a1' : xC E 59 98 [.ref 0] cst0 = some (none, A1) := a1
  have b1 : xC E 59 164 [.ref 48] (A1 ++ ms0) = some (none, A1 ++ mcs fz0 az0 lz0) := m_born (E := E) (d := 58) a2
  have h0 : LI (A1 ++ mcs fz0 az0 lz0) X0 0 := by
    have hl : (A1 ++ mcs fz0 az0 lz0).length = 69 := by rw [List.length_append, a2]; rfl
    refine ⟨XI_0, [], _, fz0, az0, lz0, CI_0 a2 a3 a4 a5, Nat.le_refl _, m_self (by omega) (fun j hj => ap_G (show 48 + j = A1.length + j by omega)), MI_0⟩
  obtain ⟨A2, X2, c1, c2⟩ := l_all hE 513 0 _ X0 0 (by omega) (by omega) h0
  refine ⟨A2, ?_, (c2.room (by omega)).1, (c2.room (by omega)).2⟩
  rw [e302_0]
  refine (show _ = ((xV (xC E 59 98 [.ref 0] cst0)).bind fun H1 => (xV (xC E 59 164 [.ref H1.length] (H1 ++ ms0))).bind fun H2 => xD E 60 302 18 [.float 0, .ref 0, .ref H1.length, .int (0 : Int32)] [] H2) from rfl).trans ?_
  rw [a1', xV_s, Option.bind_some, a2, b1, xV_s, Option.bind_some]
  exact c1
