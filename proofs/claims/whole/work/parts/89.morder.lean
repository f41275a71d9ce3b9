/-! ===== orders: what they mean; the reference goes along one ===== -/
/-- the state, acts done, the latest put's answer -/
abbrev OS : Type := Xs × Nat × Option Nat
def oZ (o : Option Nat) : Int := match o with
  | none => -1
  | some n => n
theorem oZ_n : oZ none = -1 := rfl
theorem oZ_s (n : Nat) : oZ (some n) = n := rfl
theorem oZ_I (o : Option Nat) : tI (oZ o) = oI o := by
  cases o with
  | none => decide +kernel
  | some n => rw [oZ_s, tI_nat]; rfl
theorem oZ_bd {o : Option Nat} (h : ∀ n, o = some n → n ≤ 1000) : -1000000000 ≤ oZ o ∧ oZ o ≤ 1000000000 := by
  cases o with
  | none => rw [oZ_n]; omega
  | some n => have := h n rfl; rw [oZ_s]; omega
def oLV (Z : OS) (c k : Nat) : Int := if c = 12 then oZ ((Z.1.1.1.1 k).map (·.2.2.length)) else if c = 13 then (Z.1.1.1.2.2.2.2 : Int) else if c = 14 then (Z.2.1 : Int) else if c = 15 then oZ Z.2.2 else if c = 16 then (Z.1.1.1.2.2.2.1 : Int) else if c = 17 then (Z.1.1.1.2.2.1.length : Int) else if c = 18 then (keysN Z.1.1.1.1 : Int) else oZ (valO (ents (Z.1.1.1.1 (own Z.1.1.1.1 (hsh Z.1.1.2.1.2.2.2 k % 64)))) k)
def oWd (Z : OS) (ask : List Nat) (w : Nat) : Int := if w < 6 then oLV Z (13 + w) 0 else match ask[w - 6]? with
  | none => 0
  | some q => if q < 1000 then oLV Z 19 q else oLV Z 12 (q - 1000)
def OI (Z : OS) : Prop := XI Z.1 ∧ Z.2.1 ≤ 1000 ∧ ∀ n, Z.2.2 = some n → n ≤ 1000
theorem oLV_bd {Z : OS} (h : OI Z) (c k : Nat) : -1000000000 ≤ oLV Z c k ∧ oLV Z c k ≤ 1000000000 := by
  obtain ⟨h1, h2, h3⟩ := h
  have hok := h1.1.1.1.1
  have ht := h1.1.1.1.2.2.2.2.1
  have hw := h1.1.1.1.2.2.2.2.2.1
  have hd := h1.1.1.2
  have hd6 := deepN_6 hok
  have hk := keysN_le hok
  have one : ∀ n : Nat, n ≤ 1000 → -1000000000 ≤ (n : Int) ∧ (n : Int) ≤ 1000000000 := fun n hn => by omega
  unfold oLV
  split
  · refine oZ_bd (fun n hn => ?_)
    cases hB : Z.1.1.1.1 k with
    | none => rw [hB] at hn; cases hn
    | some q =>
      rw [hB] at hn
      cases hn
      have : (ents (Z.1.1.1.1 k)).length ≤ 3 := (hok.2 k).1
      rw [hB] at this
      have : q.2.2.length ≤ 3 := this
      show q.2.2.length ≤ 1000
      omega
  · split
    · exact one _ (by omega)
    · split
      · exact one _ h2
      · split
        · exact oZ_bd h3
        · split
          · exact one _ (by rw [hd]; omega)
          · split
            · exact one _ (by omega)
            · split
              · exact one _ (by omega)
              · refine oZ_bd (fun n hn => ?_)
                have := valO_le hok hn
                omega
theorem oWd_bd {Z : OS} (h : OI Z) (ask : List Nat) (w : Nat) : -1000000000 ≤ oWd Z ask w ∧ oWd Z ask w ≤ 1000000000 := by
  unfold oWd
  split
  · exact oLV_bd h _ _
  · split
    · omega
    · split
      · exact oLV_bd h _ _
      · exact oLV_bd h _ _
theorem oWd_R {Z : OS} (h : OI Z) (ask : List Nat) : nwR true (oWd Z ask) 56 := ⟨rfl, oWd_bd h ask⟩
noncomputable def cU (F : List (Nat × Nat)) (wd : Nat → Int) (nw : Nat) (l : List Nat) : Option Int := wth F wd nw (l.getD 4 0) (l.getD 5 0)
section MORDER
variable {E : Nat × (Nat → Int32)} {d : Nat} {A : xH} {fl : Nat → Int32} {ar : Nat → Nat → Int32} {al : Nat → Nat → Int64} {T : Nat → Nat × Nat} {N g0 : Nat} {F : List (Nat × Nat)} {wd : Nat → Int} {askF : List Nat} {LV : Nat → Nat → Int}
theorem m_orderValue (hA : 69 ≤ A.length) {Z : OS} (hZ : OI Z) (h : MS (ar 2) Z.1.1.1) (hs : ar 2 977 = nI Z.1.1.2.1.2.2.2) (h27 : fl 27 = nI Z.2.1) (h28 : fl 28 = oI Z.2.2) {c k : Nat} (hc : 12 ≤ c) (hc2 : c ≤ 19) (hk : c = 19 → k < 1000) (hk2 : c = 12 → k < 24) : xC E (d + 7) 226 [.ref 48, .int (nI c), .int (nI k)] (mw A fl ar al) = some (some (.int (tI (oLV Z c k))), mw A fl ar al) := by
  have hok := hZ.1.1.1.1.1
  rw [k226 _ _ _ _ _ _ (m_k48 hA)]
  unfold oLV
  rcases (show c = 12 ∨ c = 13 ∨ c = 14 ∨ c = 15 ∨ c = 16 ∨ c = 17 ∨ c = 18 ∨ c = 19 by omega) with rfl | rfl | rfl | rfl | rfl | rfl | rfl | rfl
  · have hb := hk2 rfl
    rw [if_pos (by decide), if_pos rfl, m_isUsed hA h hb, xI_s, Option.bind_some]
    dsimp only
    cases hB : Z.1.1.1.1 k with
    | none => rw [if_pos (by rfl)]; rfl
    | some q =>
      have hmn := h.mn hb
      rw [hB] at hmn
      rw [if_neg (show ¬ nI (pus (some q)) = 0 by show ¬ nI 1 = 0; decide)]
      simp (disch := first | omega | exact m_k48 hA) only [Option.bind_some, xI_s, xV_s, m_r48_1 hA, m_r48_2 hA, m_r48_5 hA, m_a50 hA, m_s50 hA, m_l50 hA, k169, zl, pk_mul, nI_add, Nat.add_zero, sar_s, sar_sar, hmn]
      rw [Option.map_some, oZ_s, tI_nat]; rfl
  · rw [if_neg (by decide), if_pos (by decide), if_neg (by omega), if_pos rfl, m_r48_2 hA, Option.bind_some, show (962 : Int32) = nI 962 from rfl, m_a50 hA (by omega), Option.bind_some, h.2.2.2.2.2, tI_nat]
  · rw [if_neg (by decide), if_neg (by decide), if_pos (by decide), if_neg (by omega), if_neg (by omega), if_pos rfl, m_g48_27 hA, Option.bind_some, h27, tI_nat]
  · rw [if_neg (by decide), if_neg (by decide), if_neg (by decide), if_pos (by decide), if_neg (by omega), if_neg (by omega), if_neg (by omega), if_pos rfl, m_g48_28 hA, Option.bind_some, h28, oZ_I]
  · rw [if_neg (by decide), if_neg (by decide), if_neg (by decide), if_neg (by decide), if_pos (by decide), if_neg (by omega), if_neg (by omega), if_neg (by omega), if_neg (by omega), if_pos rfl, m_r48_2 hA, Option.bind_some, show (961 : Int32) = nI 961 from rfl, m_a50 hA (by omega), Option.bind_some, h.2.2.2.2.1, tI_nat]
  · rw [if_neg (by decide), if_neg (by decide), if_neg (by decide), if_neg (by decide), if_neg (by decide), if_pos (by decide), if_neg (by omega), if_neg (by omega), if_neg (by omega), if_neg (by omega), if_neg (by omega), if_pos rfl, m_r48_2 hA, Option.bind_some, show (960 : Int32) = nI 960 from rfl, m_a50 hA (by omega), Option.bind_some, h.wn, tI_nat]
  · rw [if_neg (by decide), if_neg (by decide), if_neg (by decide), if_neg (by decide), if_neg (by decide), if_neg (by decide), if_pos (by decide), if_neg (by omega), if_neg (by omega), if_neg (by omega), if_neg (by omega), if_neg (by omega), if_neg (by omega), if_pos rfl, m_keyMany hA h, xI_s, Option.bind_some, tI_nat]
  · rw [if_neg (by decide), if_neg (by decide), if_neg (by decide), if_neg (by decide), if_neg (by decide), if_neg (by decide), if_neg (by decide), if_neg (by omega), if_neg (by omega), if_neg (by omega), if_neg (by omega), if_neg (by omega), if_neg (by omega), if_neg (by omega), m_valueOrNone hA h hok (hk rfl) hZ.1.1.2.2.2.2.1 hs, xI_s, Option.bind_some, oZ_I]
theorem m_lvR (hA : 69 ≤ A.length) {Z : OS} (hZ : OI Z) (h : MS (ar 2) Z.1.1.1) (hs : ar 2 977 = nI Z.1.1.2.1.2.2.2) (h27 : fl 27 = nI Z.2.1) (h28 : fl 28 = oI Z.2.2) (ask : List Nat) : lvR E A ar al fl true (oWd Z ask) 56 ask (oLV Z) := by
  refine ⟨oLV_bd hZ, (fun z => by cases z), fun _ => ⟨rfl, fun d f1 c k hd he c1 c2 c3 c4 => ?_, fun c w hw => ?_, fun j q hq => ?_⟩⟩
  · obtain ⟨e, rfl⟩ : ∃ e, d = e + 1 := ⟨d - 1, by omega⟩
    exact m_orderValue hA hZ h hs ((he 27 (by omega) (by omega)).trans h27) ((he 28 (by omega) (by omega)).trans h28) c1 c2 c3 c4
  · have hw6 := wdO_lt hw
    unfold oWd
    rw [if_pos hw6]
    unfold wdO at hw
    repeat' split at hw
    all_goals first
      | cases hw; subst_vars; rfl
      | cases hw
  · unfold oWd
    rw [if_neg (by omega), Nat.add_sub_cancel_left, hq]
theorem e_sum2 (hA : 69 ≤ A.length) (hT : evR T N g0 ar) (hTl : ∀ i, (T i).1 ≠ 0 → i < N) (hd : 1 ≤ d) {x y : PX} {lv : Bool} (hf : pSums T true x = .inr y) (hx : okx N x) (ha : agr F askF y.2.2.1.length x y) (hl : lvR E A ar al fl true wd 56 askF LV) (he : est N g0 true fl) (h22 : fl 22 = nI (g0 + x.1)) (h24 : fl 24 = 0) : ∃ fl' r, xC E (d + 33) 223 [.ref 48, .int (bB lv)] (mw A fl ar al) = some (some (.long r), mw A fl' ar al) ∧ eF fl fl' ∧ fl' 22 = nI (g0 + y.1) ∧ (fl' 24 = 0 ∨ fl' 24 = 1) ∧ (lv = true → (fl' 24 = 0 ↔ wth F wd 56 x.2.2.1.length y.2.2.1.length ≠ none) ∧ ∀ v, wth F wd 56 x.2.2.1.length y.2.2.1.length = some v → r = lI v ∧ -1000000000 ≤ v ∧ v ≤ 1000000000) := by
  cases lv with
  | false =>
    obtain ⟨fl', r, p1, p2, p3, p4⟩ := ev_sums (E := E) (d := d) (al := al) (F := F) (wd := wd) (nw := 56) (to := y.2.2.1.length) (askF := askF) (LV := LV) hA hT hTl (fun _ => hd) x y fl false [] hf hx ha (by simp) hl he h22 (Or.inl h24)
    exact ⟨fl', r, p1, p2, p3, p4.1, fun z => by cases z⟩
  | true =>
    obtain ⟨fl', r, p1, p2, p3, p4, p5⟩ := e_sum (E := E) (d := d) (al := al) (F := F) (wd := wd) (askF := askF) (LV := LV) hA hT hTl (fun _ => hd) hf hx ha hl he h22 h24
    refine ⟨fl', r, p1, p2, p3, ?_, fun _ => ?_⟩
    · rcases p5 with z | ⟨v, z, -⟩
      · exact Or.inr z.1
      · exact Or.inl z
    · rcases p5 with ⟨z1, z2, z3⟩ | ⟨v, z1, z2, z3, z4, z5⟩
      · rw [z3, z1]
        exact ⟨⟨fun q => absurd q (by decide), fun q => absurd rfl q⟩, fun v q => by cases q⟩
      · rw [z5, z1]
        exact ⟨⟨fun _ q => (by cases q), fun _ => rfl⟩, fun v' q => by cases q; exact ⟨z2, z3, z4⟩⟩
theorem e_test2 (hA : 69 ≤ A.length) (hT : evR T N g0 ar) (hTl : ∀ i, (T i).1 ≠ 0 → i < N) (hd : 1 ≤ d) {x y : PX} {lv : Bool} (hf : pTests T true x = .inr y) (hx : okx N x) (ha : agr F askF y.2.2.1.length x y) (hl : lvR E A ar al fl true wd 56 askF LV) (he : est N g0 true fl) (h22 : fl 22 = nI (g0 + x.1)) (h24 : fl 24 = 0) : ∃ fl' r, xC E (d + 45) 227 [.ref 48, .int (bB lv)] (mw A fl ar al) = some (some (.int r), mw A fl' ar al) ∧ eF fl fl' ∧ fl' 22 = nI (g0 + y.1) ∧ (r = 0 ∨ r = 1) ∧ (fl' 24 = 0 ∨ fl' 24 = 1) ∧ (lv = true → (wth F wd 56 x.2.2.1.length y.2.2.1.length = some 1 ↔ r = 1 ∧ fl' 24 = 0)) := by
  cases lv with
  | false =>
    obtain ⟨fl', r, p1, p2, p3, p4⟩ := evb_tests (E := E) (d := d) (al := al) (F := F) (wd := wd) (nw := 56) (to := y.2.2.1.length) (askF := askF) (LV := LV) hA hT hTl (fun _ => hd) x y fl false [] hf hx ha (by simp) hl he h22 (Or.inl h24)
    exact ⟨fl', r, p1, p2, p3, p4.2.1, p4.1, fun z => by cases z⟩
  | true =>
    obtain ⟨fl', r, p1, p2, p3, p4, p5, p6, p7⟩ := e_test (E := E) (d := d) (al := al) (F := F) (wd := wd) (askF := askF) (LV := LV) hA hT hTl (fun _ => hd) hf hx ha hl he h22 h24
    exact ⟨fl', r, p1, p2, p3, p4, p5, fun _ => p7⟩
/-- one sum of an order -/
theorem o79 (hA : 69 ≤ A.length) (hT : evR T N g0 ar) (hTl : ∀ i, (T i).1 ≠ 0 → i < N) (hd : 1 ≤ d) {x y : PX} {lv : Bool} (hf : pSums T true x = .inr y) (hx : okx N x) (ha : agr F askF y.2.2.1.length x y) (hl : lvR E A ar al fl true wd 56 askF LV) (he : est N g0 true fl) (h22 : fl 22 = nI (g0 + x.1)) (h40 : fl 40 = 0 ∨ fl 40 = 1) {i : Nat} (hi : i < 2) {w1 : Value} : ∃ fl' r, xD E (d + 46) 284 79 [.ref 48, w1, .int (bB lv), .int (nI i)] [] (mw A fl ar al) = xD E (d + 46) 284 47 [.ref 48, xJ, .int (bB lv), .int (nI (i + 1))] [] (mw A fl' ar (sal al 42 (vp_updL (al 42) i r))) ∧ (∀ j, j ≠ 22 → j ≠ 24 → j ≠ 40 → fl' j = fl j) ∧ fl' 22 = nI (g0 + y.1) ∧ (fl' 40 = 0 ∨ fl' 40 = 1) ∧ (lv = true → (fl' 40 = 1 ↔ fl 40 = 1 ∧ wth F wd 56 x.2.2.1.length y.2.2.1.length ≠ none) ∧ ∀ v, wth F wd 56 x.2.2.1.length y.2.2.1.length = some v → r = lI v ∧ -1000000000 ≤ v ∧ v ≤ 1000000000) := by
  obtain ⟨f2, r, p1, p2, p3, p4, p5⟩ := e_sum2 (E := E) (d := d + 12) (al := al) (fl := upd fl 24 0) (lv := lv) hA hT hTl (by omega) hf hx ha (hl.fr e24) (he.f e24) (by rw [upd_n (by omega)]; exact h22) upd_s
  have f40 : f2 40 = fl 40 := by rw [p2 40 (by omega) (by omega), upd_n (by omega)]
  have hfr : ∀ j, j ≠ 22 → j ≠ 24 → f2 j = fl j := fun j a b => by rw [p2 j a b, upd_n b]
  rw [e284_79, m_p48_24 hA, Option.bind_some, m_r48_42 hA, Option.bind_some, p1, xL_s, Option.bind_some]
  dsimp only
  rw [m_s67 hA hi, Option.bind_some, m_g48_40 hA, Option.bind_some, f40]
  rcases h40 with z | z
  · rw [if_pos z, m_p48_40 hA, Option.bind_some, nI_1]
    refine ⟨upd f2 40 0, r, rfl, fun j a b c => by rw [upd_n c]; exact hfr j a b, by rw [upd_n (by omega)]; exact p3, Or.inl upd_s, fun hlv => ⟨?_, (p5 hlv).2⟩⟩
    rw [upd_s, z]
    exact ⟨fun q => absurd q (by decide), fun q => absurd q.1 (by decide)⟩
  · rw [if_neg (by rw [z]; decide), m_g48_24 hA, Option.bind_some]
    rcases p4 with y0 | y0
    · rw [if_pos y0, m_p48_40 hA, Option.bind_some, nI_1]
      refine ⟨upd f2 40 1, r, rfl, fun j a b c => by rw [upd_n c]; exact hfr j a b, by rw [upd_n (by omega)]; exact p3, Or.inr upd_s, fun hlv => ⟨?_, (p5 hlv).2⟩⟩
      rw [upd_s, z]
      exact ⟨fun _ => ⟨rfl, (p5 hlv).1.mp y0⟩, fun _ => rfl⟩
    · rw [if_neg (by rw [y0]; decide), m_p48_40 hA, Option.bind_some, nI_1]
      refine ⟨upd f2 40 0, r, rfl, fun j a b c => by rw [upd_n c]; exact hfr j a b, by rw [upd_n (by omega)]; exact p3, Or.inl upd_s, fun hlv => ⟨?_, (p5 hlv).2⟩⟩
      rw [upd_s, z]
      refine ⟨fun q => absurd q (by decide), fun q => ?_⟩
      have := (p5 hlv).1.mpr q.2
      rw [y0] at this
      exact absurd this (by decide)
/-- an order's end -/
theorem o192 (hA : 69 ≤ A.length) {p : Nat} {s : Int32} (h22 : fl 22 = nI (g0 + p)) (h24 : fl 24 = 0 ∨ fl 24 = 1) (hs : s = 0 ∨ s = 1) {w1 w2 w3 : Value} : ∃ fl', xD E (d + 1) 284 192 [.ref 48, w1, w2, w3] [.int s, .ref 48] (mw A fl ar al) = some (none, mw A fl' ar al) ∧ (∀ j, j ≠ 22 → j ≠ 41 → fl' j = fl j) ∧ fl' 22 = nI (g0 + (p + 1)) ∧ ((fl' 41 = 1 ∧ s = 1 ∧ fl 24 = 0) ∨ (fl' 41 = 0 ∧ ¬ (s = 1 ∧ fl 24 = 0))) := by
  have hx : x01 s = true := by rcases hs with h | h <;> rw [h] <;> decide
  have fr : ∀ z y : Int32, ∀ j, j ≠ 22 → j ≠ 41 → upd (upd (upd fl 41 s) 41 z) 22 y j = fl j := fun z y j a b => by rw [upd_n a, upd_n b, upd_n b]
  have f22 : ∀ z : Int32, upd (upd fl 41 s) 41 z 22 = nI (g0 + p) := fun z => by rw [upd_n (by omega), upd_n (by omega)]; exact h22
  have g41 : ∀ z y : Int32, upd (upd (upd fl 41 s) 41 z) 22 y 41 = z := fun z y => by rw [upd_n (by omega), upd_s]
  rw [e284_192, if_pos hx, m_p48_41 hA, Option.bind_some, m_g48_41 hA, Option.bind_some, upd_s]
  rcases hs with rfl | rfl
  · rw [i_if0, m_p48_41 hA, Option.bind_some, m_g48_22 hA, Option.bind_some, f22, nI_1, m_p48_22 hA, Option.bind_some]
    exact ⟨_, rfl, fr _ _, upd_s, Or.inr ⟨g41 _ _, fun q => absurd q.1 (by decide)⟩⟩
  · rw [i_if, m_g48_24 hA, Option.bind_some, upd_n (by omega)]
    rcases h24 with z | z
    · rw [z, i_if0, m_p48_41 hA, Option.bind_some, m_g48_22 hA, Option.bind_some, f22, nI_1, m_p48_22 hA, Option.bind_some]
      exact ⟨_, rfl, fr _ _, upd_s, Or.inl ⟨g41 _ _, rfl, rfl⟩⟩
    · rw [z, i_if, m_p48_41 hA, Option.bind_some, m_g48_22 hA, Option.bind_some, f22, nI_1, m_p48_22 hA, Option.bind_some]
      exact ⟨_, rfl, fr _ _, upd_s, Or.inr ⟨g41 _ _, fun q => absurd q.2 (by decide)⟩⟩
/-- an order's test -/
theorem o165 (hA : 69 ≤ A.length) (hT : evR T N g0 ar) (hTl : ∀ i, (T i).1 ≠ 0 → i < N) (hd : 1 ≤ d) {y0 x' : PX} {l0 l : List Nat} {lv : Bool} (hl6 : l0.length = 6) (hif : (if (T y0.1).1 = 3 then (match pTests T true (adv y0) with
    | .inl f => Sum.inl f
    | .inr z => .inr (z, l0 ++ [y0.2.2.1.length, z.2.2.1.length])) else .inr (y0, l0 ++ [0, 0])) = (.inr (x', l) : PC)) (hy : okx N y0) (hp : pfx F askF x') (hl : lvR E A ar al fl true wd 56 askF LV) (he : est N g0 true fl) (h22 : fl 22 = nI (g0 + y0.1)) {w1 w3 : Value} : ∃ fl', xD E (d + 46) 284 165 [.ref 48, w1, .int (bB lv), w3] [] (mw A fl ar al) = some (none, mw A fl' ar al) ∧ (∀ j, j ≠ 22 → j ≠ 24 → j ≠ 41 → fl' j = fl j) ∧ fl' 22 = nI (g0 + (x'.1 + 1)) ∧ (fl' 41 = 0 ∨ fl' 41 = 1) ∧ (lv = true → (fl' 41 = 1 ↔ cT F wd 56 l = some 1)) := by
  have hN4 := hT.1
  have hy1 := hy.1
  have f122 : upd fl 24 0 22 = nI (g0 + y0.1) := by rw [upd_n (by omega)]; exact h22
  rw [e284_165, m_p48_24 hA, Option.bind_some]
  by_cases e : (T y0.1).1 = 3
  · rw [if_pos e] at hif
    cases hr : pTests T true (adv y0) with
    | inl t => rw [hr] at hif; cases hif
    | inr z =>
      rw [hr] at hif
      cases hif
      have hlt : y0.1 < N := hTl _ (by omega)
      have hyx : okx N (adv y0) := hy.le (xle_adv hlt)
      have hg := gd_test hTl (gd_plain (o := true) hTl 8) (adv y0) hyx.1
      rw [show pTest T (pPlain T true 8) (adv y0) = .inr x' from hr] at hg
      have hz := hyx.le hg.1
      obtain ⟨f2, r, p1, p2, p3, p4, p5, p6⟩ := e_test2 (E := E) (d := d) (al := al) (F := F) (askF := askF) (lv := lv) (fl := upd (upd fl 24 0) 22 (nI (g0 + (y0.1 + 1)))) hA hT hTl hd hr hyx (hp.agr hz hN4) (hl.fr (e24.tr e22)) (he.f (e24.tr e22)) upd_s (by rw [upd_n (by omega)]; exact upd_s)
      obtain ⟨f3, k1, k2, k3, k4⟩ := o192 (E := E) (d := d + 45) (ar := ar) (al := al) (g0 := g0) (p := x'.1) (s := r) (w1 := xJ) (w2 := .int (bB lv)) (w3 := xJ) hA p3 p5 p4
      have hcT : cT F wd 56 (l0 ++ [y0.2.2.1.length, x'.2.2.1.length]) = wth F wd 56 y0.2.2.1.length x'.2.2.1.length := by
        unfold cT
        rw [List.getD_eq_getElem?_getD, List.getElem?_append_right (by omega), List.getD_eq_getElem?_getD, List.getElem?_append_right (by omega), hl6]
        rfl
      refine ⟨f3, ?_, fun j a b c => ?_, k3, ?_, fun hlv => ?_⟩
      · rw [m_pass1 (c := 3) (cc := 3) hA hT (he.f e24) (by omega) f122 rfl e, xI_s, Option.bind_some]
        dsimp only
        rw [i_if, p1, xI_s, Option.bind_some]
        dsimp only
        rcases p4 with rfl | rfl
        · rw [i_if0]; exact k1
        · rw [i_if]; exact k1
      · rw [k2 j a c, p2 j a b, upd_n a, upd_n b]
      · rcases k4 with q | q
        · exact Or.inr q.1
        · exact Or.inl q.1
      · rw [hcT]
        refine Iff.trans ?_ (p6 hlv).symm
        rcases k4 with q | q
        · exact ⟨fun _ => q.2, fun _ => q.1⟩
        · exact ⟨fun z => by rw [q.1] at z; exact absurd z (by decide), fun z => absurd z q.2⟩
  · rw [if_neg e] at hif
    cases hif
    obtain ⟨f3, k1, k2, k3, k4⟩ := o192 (E := E) (d := d + 45) (ar := ar) (al := al) (fl := upd fl 24 0) (g0 := g0) (p := y0.1) (s := 1) (w1 := xJ) (w2 := .int (bB lv)) (w3 := xJ) hA f122 (Or.inl upd_s) (Or.inr rfl)
    have hcT : cT F wd 56 (l0 ++ [0, 0]) = some 1 := by
      unfold cT
      rw [List.getD_eq_getElem?_getD, List.getElem?_append_right (by omega), List.getD_eq_getElem?_getD, List.getElem?_append_right (by omega), hl6]
      exact wth_same
    refine ⟨f3, ?_, fun j a b c => ?_, k3, ?_, fun hlv => ?_⟩
    · rw [m_pass0 (c := 3) (cc := 3) hA hT (he.f e24) (by omega) f122 rfl (by omega) e, xI_s, Option.bind_some]
      dsimp only
      rw [i_if0]; exact k1
    · rw [k2 j a c, upd_n b]
    · rcases k4 with q | q
      · exact Or.inr q.1
      · exact Or.inl q.1
    · rw [hcT]
      rcases k4 with q | q
      · exact ⟨fun _ => rfl, fun _ => q.1⟩
      · exact absurd ⟨rfl, upd_s⟩ q.2
/-- how often, then the test -/
theorem o62 (hA : 69 ≤ A.length) (hT : evR T N g0 ar) (hTl : ∀ i, (T i).1 ≠ 0 → i < N) (hd : 1 ≤ d) {z y0 x' : PX} {l0 l : List Nat} {lv : Bool} {k a b c e : Nat} (htm : pTimes T z k a b c e = .inr (y0, l0)) (hif : (if (T y0.1).1 = 3 then (match pTests T true (adv y0) with
    | .inl f => Sum.inl f
    | .inr z => .inr (z, l0 ++ [y0.2.2.1.length, z.2.2.1.length])) else .inr (y0, l0 ++ [0, 0])) = (.inr (x', l) : PC)) (hz : okx N z) (hp : pfx F askF x') (hl : ∀ f1 al1, f1 27 = fl 27 → f1 28 = fl 28 → lvR E A ar al1 f1 true wd 56 askF LV) (he : est N g0 true fl) (h22 : fl 22 = nI (g0 + z.1)) {m i : Nat} (hm : m ≤ i) (hi : i < 100) {w1 : Value} : ∃ fl' t, xD E (d + 46) 284 62 [.ref 48, w1, .int (bB lv), .int (nI i)] [.int (nI m), .int (nI i)] (mw A fl ar al) = some (none, mw A fl' ar al) ∧ (∀ j, j ≠ 22 → j ≠ 24 → j ≠ 38 → j ≠ 41 → fl' j = fl j) ∧ fl' 22 = nI (g0 + (x'.1 + 1)) ∧ l0 = [k, t, a, b, c, e] ∧ t ≤ 20 ∧ fl' 38 = nI t ∧ (fl' 41 = 0 ∨ fl' 41 = 1) ∧ (lv = true → (fl' 41 = 1 ↔ cT F wd 56 l = some 1)) := by
  have hN4 := hT.1
  have hg4 := hT.2.1
  have hz1 := hz.1
  have he1 : est N g0 true (upd fl 38 1) := ⟨(upd_n (by omega)).trans he.1, (upd_n (by omega)).trans he.2⟩
  have f122 : upd fl 38 1 22 = nI (g0 + z.1) := (upd_n (by omega)).trans h22
  rw [e284_62, if_pos (nI_le hm (by omega)), m_p48_38 hA, Option.bind_some]
  unfold pTimes at htm
  by_cases q1 : (T z.1).1 = 25
  · rw [if_pos q1] at htm
    split at htm
    · rename_i q2
      cases htm
      have hlt1 : z.1 < N := hTl _ (by omega)
      have hlt2 : z.1 + 1 < N := hTl _ (by omega)
      obtain ⟨-, w, hw, hwm⟩ := hT.2.2.2.2 (z.1 + 1) hlt2
      have hww : w = (T (z.1 + 1)).2 := by omega
      have hy : okx N (z.1 + 2, z.2) := (hz.le (xle_adv hlt1)).le (xle_adv (x := adv z) (by simp only [adv]; omega))
      obtain ⟨f3, k1, k2, k3, k4, k5⟩ := o165 (E := E) (d := d) (al := al) (F := F) (askF := askF) (lv := lv) (fl := upd (upd (upd (upd fl 38 1) 22 (nI (g0 + (z.1 + 1)))) 38 (nI w)) 22 (nI (g0 + (z.1 + 1) + 1))) (w1 := xJ) (w3 := .int (nI i)) hA hT hTl hd rfl hif hy hp (hl _ _ (by rw [upd_n (by omega), upd_n (by omega), upd_n (by omega), upd_n (by omega)]) (by rw [upd_n (by omega), upd_n (by omega), upd_n (by omega), upd_n (by omega)])) ⟨by rw [upd_n (by omega), upd_n (by omega), upd_n (by omega)]; exact he1.1, by rw [upd_n (by omega), upd_n (by omega), upd_n (by omega)]; exact he1.2⟩ (by rw [upd_s]; exact congrArg nI (by show g0 + (z.1 + 1) + 1 = g0 + (z.1 + 2); omega))
      refine ⟨f3, (T (z.1 + 1)).2, ?_, fun j a b c d => ?_, k3, rfl, q2.2.2, ?_, k4, k5⟩
      · rw [m_pass1 (c := 25) (cc := 25) hA hT he1 (by omega) f122 rfl q1, xI_s, Option.bind_some]
        dsimp only
        rw [i_if, m_r48_2 hA, Option.bind_some, m_g48_22 hA, Option.bind_some, upd_s, show (3788 : Int32) = nI 3788 from rfl, nI_add, m_a50 hA (by omega), Option.bind_some, hw, m_p48_38 hA, Option.bind_some, m_g48_22 hA, Option.bind_some, upd_n (by omega), upd_s, nI_1, m_p48_22 hA, Option.bind_some]
        exact k1
      · rw [k2 j a b d, upd_n a, upd_n c, upd_n a, upd_n c]
      · rw [k2 38 (by omega) (by omega) (by omega), upd_n (by omega), upd_s, hww]
    · cases htm
  · rw [if_neg q1] at htm
    cases htm
    obtain ⟨f3, k1, k2, k3, k4, k5⟩ := o165 (E := E) (d := d) (al := al) (F := F) (askF := askF) (lv := lv) (fl := upd fl 38 1) (w1 := xJ) (w3 := .int (nI i)) hA hT hTl hd rfl hif hz hp (hl _ _ (by rw [upd_n (by omega)]) (by rw [upd_n (by omega)])) he1 f122
    refine ⟨f3, 1, ?_, fun j a b c d => ?_, k3, rfl, by omega, ?_, k4, k5⟩
    · rw [m_pass0 (c := 25) (cc := 25) hA hT he1 (by omega) f122 rfl (by omega) q1, xI_s, Option.bind_some]
      dsimp only
      rw [i_if0]; exact k1
    · rw [k2 j a b d, upd_n c]
    · rw [k2 38 (by omega) (by omega) (by omega), upd_s]; rfl
end MORDER
