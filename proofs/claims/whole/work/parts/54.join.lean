/-! ===== the class's store: splits that are needed, twins, a join ===== -/
theorem n_or (x y : Nat) : nI x ||| nI y = nI (x ||| y) := by
  apply Int32.toBitVec_inj.mp
  rw [Int32.toBitVec_or]
  show BitVec.ofNat 32 x ||| BitVec.ofNat 32 y = BitVec.ofNat 32 (x ||| y)
  exact BitVec.ofNat_or.symm
theorem n_xr (x y : Nat) : nI x ^^^ nI y = nI (x ^^^ y) := by
  apply Int32.toBitVec_inj.mp
  rw [Int32.toBitVec_xor]
  show BitVec.ofNat 32 x ^^^ BitVec.ofNat 32 y = BitVec.ofNat 32 (x ^^^ y)
  exact BitVec.ofNat_xor.symm
/-- the bits in which a hash differs from a key's -/
def difB (t h D : Nat) (l : List (Nat × Nat)) : Nat := l.foldl (fun x e => x ||| (h ^^^ hsh t e.1)) D
theorem difB_lt {t h : Nat} (hh : h < 1024) : ∀ (l : List (Nat × Nat)) (D : Nat), D < 1024 → difB t h D l < 1024
  | [], D, hD => hD
  | e :: l, D, hD => difB_lt hh l _ (Nat.or_lt_two_pow (n := 10) hD (Nat.xor_lt_two_pow (n := 10) hh (hsh_lt t e.1)))
def bitT (D k : Nat) : Bool := D / 2 ^ k % 2 == 1
def ndE (B : Bk) (dp : Nat) (o : Option Nat) : Option Nat := o.bind fun k => if usedN B + (k - dp + 1) ≤ 24 then some (k - dp + 1) else none
/-- how many splits make room -/
def ndS (t : Nat) (B : Bk) (b h : Nat) : Option Nat := if (ents (B b)).length < 3 then some 0 else ndE B (pdp (B b)) (fst1 (bitT (difB t h 0 (ents (B b)))) (6 - pdp (B b)) (pdp (B b)))
def ndI (o : Option Nat) : Int32 := match o with
  | none => -5
  | some n => nI n
/-- the twin -/
def twn (B : Bk) (b : Nat) : Option Nat := if pdp (B b) = 0 then none else if pdp (B (own B (ppx (B b) ^^^ 2 ^ (pdp (B b) - 1)))) = pdp (B b) then some (own B (ppx (B b) ^^^ 2 ^ (pdp (B b) - 1))) else none
def jn (B : Bk) (lo up : Nat) : Bk := two B up lo none (some (pdp (B lo) - 1, ppx (B lo), ents (B lo) ++ ents (B up)))
theorem usedN_le (B : Bk) : usedN B ≤ 24 := by
  have := cnt_le (h := fun b => pus (B b)) (m := 1) (fun i => pus_le _) 24
  unfold usedN; omega
theorem jn_own {B : Bk} {lo up i m : Nat} (h : prt B) (hlo : lo < 24) (hup : up < 24) (hne : up ≠ lo) (hu1 : B lo ≠ none) (hu2 : B up ≠ none) (hd1 : pdp (B lo) = m + 1) (hd2 : pdp (B up) = m + 1) (hp1 : ppx (B lo) < 2 ^ m) (hp2 : ppx (B up) = ppx (B lo) + 2 ^ m) (hi : i < 64) : clm (jn B lo up (if i % 2 ^ pdp (B up) = ppx (B up) then lo else own B i)) i = true ∧ ∀ c, c < 24 → clm (jn B lo up c) i = true → c = if i % 2 ^ pdp (B up) = ppx (B up) then lo else own B i := by
  obtain ⟨m1, m2⟩ := mod_spl (i := i) hp1
  obtain ⟨o1, o2⟩ := h.own hi
  have hc1 : i % 2 ^ (m + 1) = ppx (B lo) → lo = own B i := fun q => o2 lo hlo (by
    cases hB : B lo with
    | none => exact absurd hB hu1
    | some w => rw [hB] at q hd1; rw [← hd1] at q; exact clm_of.mpr q)
  have hc2 : i % 2 ^ (m + 1) = ppx (B lo) + 2 ^ m → up = own B i := fun q => o2 up hup (by
    rw [← hp2] at q
    cases hB : B up with
    | none => exact absurd hB hu2
    | some w => rw [hB] at q hd2; rw [← hd2] at q; exact clm_of.mpr q)
  unfold jn
  rw [hd1, hd2, hp2, Nat.add_sub_cancel]
  by_cases e : i % 2 ^ (m + 1) = ppx (B lo) + 2 ^ m
  · rw [if_pos e]
    refine ⟨by rw [two_b]; exact clm_of.mpr (m2.mp e).1, fun c hc q => ?_⟩
    by_cases c2 : c = lo
    · exact c2
    · by_cases c1 : c = up
      · subst c1
        rw [two_n hne] at q
        simp [clm] at q
      · rw [two_o c1 c2] at q
        exact absurd ((o2 c hc q).trans (hc2 e).symm) c1
  · rw [if_neg e]
    have hnu : own B i ≠ up := fun q => by
      rw [q] at o1
      have := (clm_some o1).2
      rw [hd2, hp2] at this
      exact e this
    refine ⟨?_, fun c hc q => ?_⟩
    · by_cases c2 : own B i = lo
      · rw [c2, two_b]
        rw [c2] at o1
        have h9 := (clm_some o1).2
        rw [hd1] at h9
        exact clm_of.mpr (m1.mp h9).1
      · rw [two_o hnu c2]; exact o1
    · by_cases c2 : c = lo
      · subst c2
        rw [two_b] at q
        have h9 : i % 2 ^ m = ppx (B c) := clm_of.mp q
        rcases Nat.mod_two_eq_zero_or_one (i / 2 ^ m) with w | w
        · exact hc1 (m1.mpr ⟨h9, w⟩)
        · exact absurd (m2.mpr ⟨h9, w⟩) e
      · by_cases c1 : c = up
        · subst c1
          rw [two_n hne] at q
          simp [clm] at q
        · rw [two_o c1 c2] at q
          exact o2 c hc q
theorem jn_prt {B : Bk} {lo up m : Nat} (h : prt B) (hlo : lo < 24) (hup : up < 24) (hne : up ≠ lo) (hu1 : B lo ≠ none) (hu2 : B up ≠ none) (hd1 : pdp (B lo) = m + 1) (hd2 : pdp (B up) = m + 1) (hp1 : ppx (B lo) < 2 ^ m) (hp2 : ppx (B up) = ppx (B lo) + 2 ^ m) : prt (jn B lo up) := fun i hi => by
  obtain ⟨h1, h2⟩ := jn_own h hlo hup hne hu1 hu2 hd1 hd2 hp1 hp2 hi
  refine ⟨_, ?_, h1, h2⟩
  split
  · exact hlo
  · exact own_lt _ _
section JOIN
variable {E : Nat × (Nat → Int32)} {d a r : Nat} {A : xH} {s : xS} {u : xU} {R : Ru} {S : St}
theorem c_sn67 (h : ST A a s) {B : Bk} (hB : pgs s.1 0 B) {D dp : Nat} (hD : D < 1024) : ∀ (c i : Nat) (w1 w2 w3 w7 : Value), i + c = 6 → dp ≤ i → xD E (d + 3) 49 67 [.ref a, w1, w2, w3, .int (nI D), .int (nI dp), .int (nI i), w7] [] A = some (some (.int (ndI (ndE B dp (fst1 (bitT D) c i)))), A)
  | 0, i, w1, w2, w3, w7, hc, hi => by
    rw [e49_67, if_pos (show (6 : Int32) ≤ nI i from nI_le (a := 6) (by omega) (by omega))]; rfl
  | c + 1, i, w1, w2, w3, w7, hc, hi => by
    have hu := usedN_le B
    rw [e49_67, if_neg (show ¬ (6 : Int32) ≤ nI i from nI_ge (b := 6) (by omega) (by omega)), n_bit (by omega) (by omega)]
    unfold fst1 bitT
    rcases Nat.mod_two_eq_zero_or_one (D / 2 ^ i) with q | q
    · rw [q, if_pos (by rfl), if_neg (by decide), nI_1]
      exact c_sn67 h hB hD c (i + 1) _ _ _ _ (by omega) (by omega)
    · rw [q, if_neg (by decide), if_pos (by decide), h.g0, Option.bind_some, c_usedCount h.2.1 hB, xI_s, Option.bind_some]
      dsimp only
      rw [pk_sub hi, nI_1, nI_add]
      unfold ndE
      rw [Option.bind_some]
      by_cases w : usedN B + (i - dp + 1) ≤ 24
      · rw [if_pos w, if_neg (show ¬ (24 : Int32) < nI (usedN B + (i - dp + 1)) from nI_nlt (a := 24) w (by omega))]; rfl
      · rw [if_neg w, if_pos (show (24 : Int32) < nI (usedN B + (i - dp + 1)) from nI_lt (a := 24) (by omega) (by omega))]; rfl
theorem c_sn20 (h : ST A a s) (hu : RU A r u) {B : Bk} (hB : pgs s.1 0 B) {b hh t : Nat} (hb : b < 24) (hb2 : B b ≠ none) (ht : t < 1000) (hs : u.2.2.2.2.2 = nI t) (hk : ∀ e ∈ ents (B b), e.1 < 1000) (h3 : (ents (B b)).length = 3) : ∀ (rest pre : List (Nat × Nat)) (D : Nat) (w6 w7 : Value), ents (B b) = pre ++ rest → xD E (d + 3) 49 20 [.ref a, .int (nI b), .int (nI hh), .ref r, .int (nI D), .int (nI pre.length), w6, w7] [] A = xD E (d + 3) 49 67 [.ref a, .int (nI b), .int (nI hh), .ref r, .int (nI (difB t hh D rest)), .int (nI (pdp (B b))), .int (nI (pdp (B b))), xJ] [] A
  | [], pre, D, w6, w7, he => by
    have hl : pre.length = 3 := by rw [← h3, he, List.append_nil]
    rw [e49_20, hl, if_pos (by decide), h.g0, Option.bind_some, c_depth h.2.1 hB hb hb2, xI_s, Option.bind_some]; rfl
  | e :: rest, pre, D, w6, w7, he => by
    have hl : pre.length + (rest.length + 1) = 3 := by rw [← h3, he, List.length_append]; rfl
    have hi : (ents (B b))[pre.length]? = some (e.1, e.2) := by
      rw [he, List.getElem?_append_right (Nat.le_refl _), Nat.sub_self]; rfl
    rw [e49_20, if_neg (show ¬ (3 : Int32) ≤ nI pre.length from nI_ge (b := 3) (by omega) (by omega)), h.g0, Option.bind_some, c_keyAt h.2.1 hB hb hi, xI_s, Option.bind_some]
    dsimp only
    rw [c_hashOf hu (hk e (by rw [he]; simp)) ht hs, xI_s, Option.bind_some]
    dsimp only
    rw [n_xr, n_or, nI_1]
    have ih := c_sn20 (hh := hh) h hu hB hb hb2 ht hs hk h3 rest (pre ++ [e]) (D ||| (hh ^^^ hsh t e.1)) xJ xJ (by rw [he, List.append_assoc]; rfl)
    rw [List.length_append] at ih
    exact ih
theorem c_splitsNeeded (h : ST A a s) (hu : RU A r u) {B : Bk} (hB : pgs s.1 0 B) {b hh t : Nat} (hb : b < 24) (hb2 : B b ≠ none) (hdp : pdp (B b) ≤ 6) (hh2 : hh < 1024) (ht : t < 1000) (hs : u.2.2.2.2.2 = nI t) (hk : ∀ e ∈ ents (B b), e.1 < 1000) : xC E (d + 3) 49 [.ref a, .int (nI b), .int (nI hh), .ref r] A = some (some (.int (ndI (ndS t B b hh))), A) := by
  have hl := hB.len hb
  rw [k49 _ _ _ _ _ _ _ h.cls, h.g0, Option.bind_some, c_many h.2.1 hB hb, xI_s, Option.bind_some]
  dsimp only
  unfold ndS
  by_cases q : (ents (B b)).length < 3
  · rw [if_neg (show ¬ (3 : Int32) ≤ nI (ents (B b)).length from nI_ge (b := 3) q (by omega)), if_pos q]; rfl
  · rw [if_pos (show (3 : Int32) ≤ nI (ents (B b)).length from nI_le (a := 3) (by omega) (by omega)), if_neg q]
    have h1 := c_sn20 (E := E) (d := d) (hh := hh) h hu hB hb hb2 ht hs hk (by omega) (ents (B b)) [] 0 xJ xJ rfl
    refine Eq.trans h1 ?_
    exact c_sn67 h hB (difB_lt hh2 _ _ (by omega)) (6 - pdp (B b)) (pdp (B b)) _ _ _ _ (by omega) (Nat.le_refl _)
theorem c_twinOf (h : ST A a s) (hS : RS s S) (hp : prt S.1) {b : Nat} (hb : b < 24) (hu : S.1 b ≠ none) (hdp : pdp (S.1 b) ≤ 6) (hpx : ppx (S.1 b) < 2 ^ pdp (S.1 b)) (h31 : ∀ q, pdp (S.1 q) ≤ 6) : xC E (d + 3) 53 [.ref a, .int (nI b)] A = some (some (.int (oI (twn S.1 b))), A) := by
  have hp64 := pow6 hdp
  have hus : pus (S.1 b) = 1 := by
    cases hB : S.1 b with
    | none => exact absurd hB hu
    | some w => rfl
  rw [k53 _ _ _ _ _ h.cls, h.g0, Option.bind_some, c_depth h.2.1 hS.1 hb hu, xI_s, Option.bind_some]
  dsimp only
  rw [h.g0, Option.bind_some, c_used h.2.1 hS.1 hb, xI_s, Option.bind_some, hus]
  dsimp only
  rw [if_neg (by decide)]
  unfold twn
  by_cases q : pdp (S.1 b) = 0
  · rw [q, if_pos (by rfl), if_pos rfl]; rfl
  · have hx : ppx (S.1 b) ^^^ 2 ^ (pdp (S.1 b) - 1) < 64 := Nat.xor_lt_two_pow (n := 6) (by omega) (Nat.pow_lt_pow_right (by omega) (by omega))
    obtain ⟨o1, o2⟩ := hp.own hx
    have ho := own_lt S.1 (ppx (S.1 b) ^^^ 2 ^ (pdp (S.1 b) - 1))
    have h6 := h31 (own S.1 (ppx (S.1 b) ^^^ 2 ^ (pdp (S.1 b) - 1)))
    rw [if_neg (nI_ne0 (by omega) (by omega)), if_neg q, h.g0, Option.bind_some, c_prefix h.2.1 hS.1 hb hu, xI_s, Option.bind_some]
    dsimp only
    rw [show (1 : Int32) = nI 1 from rfl, pk_sub (by omega), show nI 1 = (1 : Int32) from rfl, n_shl _ (by omega), n_xr, c_ownerOf h hx, xI_s, Option.bind_some]
    dsimp only
    rw [hS.2.2.1 _ hx, h.g0, Option.bind_some, c_depth h.2.1 hS.1 ho (clm_some o1).1, xI_s, Option.bind_some]
    dsimp only
    by_cases w : pdp (S.1 (own S.1 (ppx (S.1 b) ^^^ 2 ^ (pdp (S.1 b) - 1)))) = pdp (S.1 b)
    · rw [if_pos (by rw [w]), if_pos w]; rfl
    · rw [if_neg (fun z => w ((nI_eq (by omega) (by omega)).mp z)), if_neg w]; rfl
theorem c_jn_loop {lo up dd px : Nat} {B : Bk} {l : List (Nat × Nat)} (hlo : lo < 24) (hup : up < 24) (hne : up ≠ lo) (hdd : 1 ≤ dd) : ∀ (rest pre : List (Nat × Nat)) (A : xH) (s : xS), ST A a s → ents (B up) = pre ++ rest → l.length + (pre.length + rest.length) ≤ 3 → pgs s.1 0 (ub B lo (some (dd, px, l ++ pre))) → ∃ A' f, xD E (d + 4) 54 8 [.ref a, .int (nI lo), .int (nI up), .int (nI pre.length)] [] A = some (none, A') ∧ ST A' a (f, s.2) ∧ pgs f 0 (two B up lo none (some (dd - 1, px, l ++ ents (B up)))) ∧ sm (inS a) A A'
  | [], pre, A, s, h, he, hl, hB => by
    rw [List.append_nil] at he
    have hl0 : pre.length ≤ 3 := by omega
    obtain ⟨g1, c1, c2⟩ := c_clear (E := E) (d := d) h.2.1 hB hup
    obtain ⟨a1, m1⟩ := h.sF g1
    have hlo2 : ub (ub B lo (some (dd, px, l ++ pre))) up none lo = some (dd, px, l ++ pre) := by rw [ub_ne (Ne.symm hne), ub_self]
    obtain ⟨g2, c3, c4⟩ := c_setPlace (E := E) (d := d + 1) (dd := dd - 1) (px := px) a1.2.1 c2 hlo
    obtain ⟨a2, m2⟩ := a1.sF g2
    have e1 := c_depth (E := E) (d := d + 1) a1.2.1 c2 hlo (by rw [hlo2]; simp)
    have e2 := c_prefix (E := E) (d := d + 1) a1.2.1 c2 hlo (by rw [hlo2]; simp)
    rw [hlo2] at e1 e2 c4
    refine ⟨_, g2, ?_, a2, ?_, m1.trans m2⟩
    · rw [e54_8, h.g0, Option.bind_some, c_many h.2.1 hB hup, xI_s, Option.bind_some, ub_ne hne, he]
      dsimp only
      rw [if_pos (nI_le (Nat.le_refl _) (by omega)), h.g0, Option.bind_some, c1, xV_s, Option.bind_some, a1.g0, Option.bind_some, Option.bind_some, e1, xI_s, Option.bind_some]
      dsimp only
      rw [a1.g0, Option.bind_some, e2, xI_s, Option.bind_some]
      dsimp only [pdp, ppx]
      rw [show (1 : Int32) = nI 1 from rfl, pk_sub hdd, c3, xV_s, Option.bind_some]
    · rw [he]
      have e9 : ub (ub (ub B lo (some (dd, px, l ++ pre))) up none) lo (some (dd - 1, px, ents (some (dd, px, l ++ pre)))) = two B up lo none (some (dd - 1, px, l ++ pre)) := by
        funext c
        unfold two ub
        by_cases z : c = lo
        · rw [if_pos z, if_pos z]; rfl
        · rw [if_neg z, if_neg z, if_neg z]
      rw [e9] at c4
      exact c4
  | e :: rest, pre, A, s, h, he, hl, hB => by
    have hl2 : l.length + (pre.length + (rest.length + 1)) ≤ 3 := hl
    have hi : (ents (ub B lo (some (dd, px, l ++ pre)) up))[pre.length]? = some (e.1, e.2) := by
      rw [ub_ne hne, he, List.getElem?_append_right (Nat.le_refl _), Nat.sub_self]; rfl
    obtain ⟨g1, c1, c2⟩ := c_append (E := E) (d := d) (k := e.1) (v := e.2) h.2.1 hB hlo (ub_self _ _ _) (by rw [List.length_append]; omega)
    obtain ⟨a1, m1⟩ := h.sF g1
    have e9 : ub (ub B lo (some (dd, px, l ++ pre))) lo (some (dd, px, l ++ pre ++ [(e.1, e.2)])) = ub B lo (some (dd, px, l ++ (pre ++ [e]))) := by
      funext c
      unfold ub
      by_cases z : c = lo
      · rw [if_pos z, if_pos z, List.append_assoc]
      · rw [if_neg z, if_neg z, if_neg z]
    rw [e9] at c2
    obtain ⟨A', f, i1, i2, i3, i4⟩ := c_jn_loop hlo hup hne hdd rest (pre ++ [e]) _ _ a1 (by rw [he, List.append_assoc]; rfl) (by simp; omega) c2
    refine ⟨A', f, ?_, i2, i3, m1.trans i4⟩
    rw [List.length_append] at i1
    rw [e54_8, h.g0, Option.bind_some, c_many h.2.1 hB hup, xI_s, Option.bind_some]
    dsimp only
    rw [if_neg (by rw [ub_ne hne, he]; exact nI_ge (by simp) (by simp; omega)), h.g0, Option.bind_some, Option.bind_some, c_keyAt h.2.1 hB hup hi, xI_s, Option.bind_some]
    dsimp only
    rw [h.g0, Option.bind_some, c_valueAt h.2.1 hB hup hi, xI_s, Option.bind_some]
    dsimp only
    rw [c1, xV_s, Option.bind_some, nI_1]
    exact i1
theorem c_joinTwins (h : ST A a s) (hS : RS s S) {lo up m : Nat} (hp : prt S.1) (hlo : lo < 24) (hup : up < 24) (hne : up ≠ lo) (hu1 : S.1 lo ≠ none) (hu2 : S.1 up ≠ none) (hd1 : pdp (S.1 lo) = m + 1) (hd2 : pdp (S.1 up) = m + 1) (hm : m ≤ 5) (hp1 : ppx (S.1 lo) < 2 ^ m) (hp2 : ppx (S.1 up) = ppx (S.1 lo) + 2 ^ m) (hl : (ents (S.1 lo)).length + (ents (S.1 up)).length ≤ 3) : ∃ A' s', xC E (d + 4) 54 [.ref a, .int (nI lo), .int (nI up)] A = some (none, A') ∧ ST A' a s' ∧ RS s' (jn S.1 lo up, S.2) ∧ sm (inS a) A A' := by
  obtain ⟨A1, o, s1, s2, s3, s4⟩ := c_giveSlots (E := E) (d := d) (to := lo) h hS.1 hup hu2 (by omega) (by rw [hd2, hp2, Nat.pow_succ]; omega)
  have hB : pgs s.1 0 (ub S.1 lo (some (m + 1, ppx (S.1 lo), ents (S.1 lo) ++ []))) := by
    have e9 : ub S.1 lo (some (m + 1, ppx (S.1 lo), ents (S.1 lo) ++ [])) = S.1 := by
      funext c
      unfold ub
      by_cases z : c = lo
      · rw [if_pos z, z, ← hd1, List.append_nil]
        cases hB : S.1 lo with
        | none => exact absurd hB hu1
        | some w => rfl
      · rw [if_neg z]
    rw [e9]; exact hS.1
  obtain ⟨A2, f, i1, i2, i3, i4⟩ := c_jn_loop (E := E) (d := d) hlo hup hne (by omega) (ents (S.1 up)) [] _ _ s2 rfl (by simpa using hl) hB
  refine ⟨A2, _, ?_, i2, ⟨?_, hS.2.1, fun i hi => ?_, hS.2.2.2⟩, s4.trans i4⟩
  · rw [k54 _ _ _ _ _ _ h.cls, s1, xV_s, Option.bind_some]
    exact i1
  · unfold jn; rw [hd1]; exact i3
  · obtain ⟨w1, w2⟩ := jn_own hp hlo hup hne hu1 hu2 hd1 hd2 hp1 hp2 hi
    have w0 : (if i % 2 ^ pdp (S.1 up) = ppx (S.1 up) then lo else own S.1 i) < 24 := by
      split
      · exact hlo
      · exact own_lt _ _
    show o i = _
    rw [own_un w0 w1 w2, s3 i hi]
    split
    · rfl
    · exact hS.2.2.1 i hi
end JOIN
