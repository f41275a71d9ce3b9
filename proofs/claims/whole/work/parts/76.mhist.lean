/-! ===== the reference: acts are kept, undone ===== -/
/-- an act is kept, sixteen at most -/
def kph (L : List (St × Nat)) (x : St × Nat) : List (St × Nat) := (if L.length = 16 then L.drop 1 else L) ++ [x]
theorem kph_len {L : List (St × Nat)} {x : St × Nat} (h : L.length ≤ 16) : (kph L x).length ≤ 16 := by
  unfold kph
  split
  · rw [List.length_append, List.length_drop]; simp; omega
  · rw [List.length_append]; simp; omega
theorem kph_mem {L : List (St × Nat)} {x q : St × Nat} (h : q ∈ kph L x) : q ∈ L ∨ q = x := by
  unfold kph at h
  rcases List.mem_append.mp h with z | z
  · left
    split at z
    · exact List.mem_of_mem_drop z
    · exact z
  · exact Or.inr (List.mem_singleton.mp z)
theorem n_ngP {n m : Nat} (hn : n < 2 ^ 31) (hm : m < 100) (h0 : 0 < m) : ¬ nI n = -nI m := fun e => by
  have h1 : (0 : Int32) ≤ nI n := nI_pos' hn
  rw [e] at h1
  have : ∀ m, m < 100 → 0 < m → ¬ (0 : Int32) ≤ -nI m := by decide +kernel
  exact this m hm h0 h1
theorem n_ng1 {n : Nat} (hn : n < 2 ^ 31) : ¬ nI n = (-1 : Int32) := n_ngP (m := 1) hn (by omega) (by omega)
theorem n_ng3 {n : Nat} (hn : n < 2 ^ 31) : ¬ nI n = (-3 : Int32) := n_ngP (m := 3) hn (by omega) (by omega)
theorem n_ng5 {n : Nat} (hn : n < 2 ^ 31) : ¬ nI n = (-5 : Int32) := n_ngP (m := 5) hn (by omega) (by omega)
def Xact (X : Xs) (S : St) (k : Nat) : Xs := ((S, X.1.2), kph X.2.1 (X.1.1, k), X.2.2)
/-- what acts leave of the reference -/
def AF (fl : Nat → Int32) (ar : Nat → Nat → Int32) (fl' : Nat → Int32) (ar' : Nat → Nat → Int32) : Prop := (∀ j, j ≠ 22 → j ≠ 23 → j ≠ 24 → j ≠ 25 → j ≠ 32 → fl' j = fl j) ∧ (∀ j, j ≠ 2 → j ≠ 5 → j ≠ 26 → j ≠ 29 → j ≠ 30 → ar' j = ar j) ∧ (∀ i, 963 ≤ i → ar' 2 i = ar 2 i) ∧ ∀ i, i < 1926 → ar' 5 i = ar 5 i
theorem AF.rf {fl : Nat → Int32} {ar : Nat → Nat → Int32} : AF fl ar fl ar := ⟨fun _ _ _ _ _ _ => rfl, fun _ _ _ _ _ _ => rfl, fun _ _ => rfl, fun _ _ => rfl⟩
theorem AF.tr {f1 f2 f3 : Nat → Int32} {a b c : Nat → Nat → Int32} (h : AF f1 a f2 b) (g : AF f2 b f3 c) : AF f1 a f3 c := ⟨fun j q1 q2 q3 q4 q5 => (g.1 j q1 q2 q3 q4 q5).trans (h.1 j q1 q2 q3 q4 q5), fun j q1 q2 q3 q4 q5 => (g.2.1 j q1 q2 q3 q4 q5).trans (h.2.1 j q1 q2 q3 q4 q5), fun i q => (g.2.2.1 i q).trans (h.2.2.1 i q), fun i q => (g.2.2.2 i q).trans (h.2.2.2 i q)⟩
theorem MP.af {fl fl' : Nat → Int32} {ar ar' : Nat → Nat → Int32} (h : MP fl ar fl' ar') : AF fl ar fl' ar' := ⟨fun j q1 q2 q3 q4 _ => h.1 j q1 q2 q3 q4, fun j q1 q2 q3 q4 _ => h.2.1 j q1 q2 q3 q4, h.2.2.1, fun i q => h.2.2.2 i (Or.inl q)⟩
section MHIST
variable {E : Nat × (Nat → Int32)} {d : Nat} {A : xH} {al : Nat → Nat → Int64} {fl : Nat → Int32} {ar : Nat → Nat → Int32} {X : Xs}
theorem MS.mv {f g : Nat → Int32} {S : St} (h : MS f S) (hg : ∀ j, j < 963 → g j = f j) : MS g S := h.cong hg
theorem m_ka55 (hA : 69 ≤ A.length) {n : Nat} {x : Int32} (hn : n ≤ 15) (h32 : fl 32 = nI n) : ∀ (c i : Nat), i + c = 963 → xD E (d + 1) 252 55 [.ref 48, .int x, .int (nI 964), .int (nI i)] [] (mw A fl (sar ar 30 (cpx (ar 5) (ar 30) 2889 (964 * n) i)) al) = some (none, mw A (upd fl 32 (nI (n + 1))) (sar ar 30 (upd (cpx (ar 5) (ar 30) 2889 (964 * n) 963) (964 * n + 963) x)) al)
  | 0, i, hi => by
    rw [e252_55, if_pos (by rw [zl]; exact nI_le (by omega) (by omega)), show i = 963 by omega]
    simp (disch := first | omega | exact m_k48 hA) only [Option.bind_some, xI_s, xV_s, m_r48_1 hA, m_r48_2 hA, m_r48_5 hA, m_a50 hA, m_s50 hA, m_l50 hA, k169, zl, pk_mul, nI_add, Nat.add_zero, sar_s, sar_sar, m_r48_30 hA, m_g48_32 hA, h32, m_s62 hA, m_p48_32 hA]
  | c + 1, i, hi => by
    have hst := cpx_step (ar 5) (ar 30) 2889 (964 * n) i
    rw [e252_55, if_neg (by rw [zl]; exact nI_ge (by omega) (by omega))]
    simp (disch := first | omega | exact m_k48 hA) only [Option.bind_some, xI_s, xV_s, m_r48_1 hA, m_r48_2 hA, m_r48_5 hA, m_a50 hA, m_s50 hA, m_l50 hA, k169, zl, pk_mul, nI_add, Nat.add_zero, sar_s, sar_sar, m_r48_30 hA, m_g48_32 hA, h32, m_s62 hA, m_a53 hA, sar_n, hst]
    exact m_ka55 hA hn h32 c (i + 1) (by omega)
theorem m_ka15 (hA : 69 ≤ A.length) {x : Int32} (h32 : fl 32 = nI 16) : ∀ (c i : Nat), i + c = 14460 → xD E (d + 1) 252 15 [.ref 48, .int x, .int (nI 964), .int (nI i)] [] (mw A fl (sar ar 30 (cpx (ar 30) (ar 30) 964 0 i)) al) = xD E (d + 1) 252 55 [.ref 48, .int x, .int (nI 964), .int (nI 0)] [] (mw A (upd fl 32 (nI 15)) (sar ar 30 (cpx (ar 30) (ar 30) 964 0 14460)) al)
  | 0, i, hi => by
    rw [e252_15, if_pos (by rw [zl, pk_mul]; exact nI_le (by omega) (by omega)), show i = 14460 by omega, m_g48_32 hA, Option.bind_some, h32, m_p48_32 hA, Option.bind_some]; rfl
  | c + 1, i, hi => by
    have hst := cpx_step (ar 30) (ar 30) 964 0 i
    rw [Nat.zero_add, Nat.add_comm 964 i] at hst
    have hr : cpx (ar 30) (ar 30) 964 0 i (i + 964) = ar 30 (i + 964) := cpx_out (by omega)
    rw [e252_15, if_neg (by rw [zl, pk_mul]; exact nI_ge (by omega) (by omega))]
    simp (disch := first | omega | exact m_k48 hA) only [Option.bind_some, xI_s, xV_s, m_r48_1 hA, m_r48_2 hA, m_r48_5 hA, m_a50 hA, m_s50 hA, m_l50 hA, k169, zl, pk_mul, nI_add, Nat.add_zero, sar_s, sar_sar, m_r48_30 hA, m_s62 hA, m_a62 hA, hr, hst]
    exact m_ka15 hA h32 c (i + 1) (by omega)
theorem m_keepsAside (hA : 69 ≤ A.length) {L : List (St × Nat)} {S : St} {k : Nat} (hL : L.length ≤ 16) (h32 : fl 32 = nI L.length) (hH : MH (ar 30) L) (hS : MS (fun j => ar 5 (2889 + j)) S) : ∃ fl' h', xC E (d + 1) 252 [.ref 48, .int (nI k)] (mw A fl ar al) = some (none, mw A fl' (sar ar 30 h') al) ∧ fl' 32 = nI (kph L (S, k)).length ∧ MH h' (kph L (S, k)) ∧ ∀ j, j ≠ 32 → fl' j = fl j := by
  have base : ∀ (L : List (St × Nat)) (fl : Nat → Int32) (h0 : Nat → Int32), L.length ≤ 15 → MH h0 L → MH (upd (cpx (ar 5) h0 2889 (964 * L.length) 963) (964 * L.length + 963) (nI k)) (L ++ [(S, k)]) := by
    intro L fl h0 hl hM i q hq
    by_cases e : i = L.length
    · subst e
      rw [List.getElem?_append_right (Nat.le_refl _), Nat.sub_self] at hq
      cases hq
      refine ⟨hS.cong (fun j hj => ?_), upd_s⟩
      rw [upd_n (by omega), cpx_in hj]
    · have hi : i < L.length := by
        have := (List.getElem?_eq_some_iff.mp hq).1
        rw [List.length_append] at this
        simp at this
        omega
      rw [List.getElem?_append_left hi] at hq
      obtain ⟨m1, m2⟩ := hM i q hq
      refine ⟨m1.cong (fun j hj => ?_), ?_⟩
      · rw [upd_n (by omega), cpx_out (by omega)]
      · rw [upd_n (by omega), cpx_out (by omega)]; exact m2
  rw [k252 _ _ _ _ _ (m_k48 hA), m_g48_32 hA, Option.bind_some, h32]
  unfold kph
  by_cases e : L.length = 16
  · rw [if_pos (show nI L.length = (16 : Int32) by rw [e]; rfl), if_pos e]
    have hdl : (L.drop 1).length = 15 := by rw [List.length_drop, e]
    have hM1 : MH (cpx (ar 30) (ar 30) 964 0 14460) (L.drop 1) := by
      intro i q hq
      have hi : i < 15 := by rw [← hdl]; exact (List.getElem?_eq_some_iff.mp hq).1
      rw [List.getElem?_drop] at hq
      obtain ⟨m1, m2⟩ := hH (1 + i) q hq
      have hmv : ∀ j, j < 964 → cpx (ar 30) (ar 30) 964 0 14460 (964 * i + j) = ar 30 (964 * (1 + i) + j) := fun j hj => by
        have := cpx_in (src := ar 30) (dst := ar 30) (fr := 964) (to := 0) (n := 14460) (j := 964 * i + j) (by omega)
        rw [Nat.zero_add] at this
        rw [this]; congr 1; omega
      exact ⟨m1.cong (fun j hj => hmv j (by omega)), by rw [hmv 963 (by omega)]; exact m2⟩
    have h15 := m_ka15 (E := E) (d := d) (fl := fl) (ar := ar) (al := al) (x := nI k) hA (by rw [h32, e]) 14460 0 rfl
    rw [cpx_0, sar_self] at h15
    have h55 := m_ka55 (E := E) (d := d) (fl := upd fl 32 (nI 15)) (ar := sar ar 30 (cpx (ar 30) (ar 30) 964 0 14460)) (al := al) (n := 15) (x := nI k) hA (by omega) upd_s 963 0 rfl
    rw [cpx_0, sar_self, sar_s, sar_sar, sar_n (by omega : (5 : Nat) ≠ 30)] at h55
    refine ⟨_, _, Eq.trans h15 h55, ?_, ?_, fun j hj => by rw [upd_n hj, upd_n hj]⟩
    · rw [upd_s, List.length_append, hdl]; rfl
    · have := base (L.drop 1) fl _ (by omega) hM1
      rw [hdl] at this
      exact this
  · rw [if_neg (show ¬ nI L.length = (16 : Int32) from fun z => e ((nI_eq (b := 16) (by omega) (by omega)).mp z)), if_neg e]
    have h55 := m_ka55 (E := E) (d := d) (fl := fl) (ar := ar) (al := al) (n := L.length) (x := nI k) hA (by omega) h32 963 0 rfl
    rw [cpx_0, sar_self] at h55
    refine ⟨_, _, h55, ?_, base L fl _ (by omega) hH, fun j hj => upd_n hj⟩
    rw [upd_s, List.length_append]; rfl
/-- an act that was is kept -/
theorem m_keptOr (hA : 69 ≤ A.length) (h : MI fl ar X) (hX : XI X) {S : St} {k n : Nat} (hn : n < 2 ^ 31) (hS : MS (fun j => ar 5 (2889 + j)) S) : ∃ fl' ar', xC E (d + 2) 255 [.ref 48, .int (nI k), .int (nI n)] (mw A fl ar al) = some (some (.int (nI n)), mw A fl' ar' al) ∧ MI fl' ar' (X.1, kph X.2.1 (S, k), X.2.2) ∧ AF fl ar fl' ar' := by
  obtain ⟨h1, ⟨h3, h4⟩, h5, ⟨h6, h7⟩, ⟨h8, h9, h10, h11⟩, h12, h13, h14⟩ := h
  obtain ⟨fl', h', p1, p2, p3, p4⟩ := m_keepsAside (E := E) (d := d) (al := al) (k := k) hA hX.2.1 h3 h4 hS
  refine ⟨fl', sar ar 30 h', ?_, ⟨?_, ⟨p2, ?_⟩, ?_, ⟨?_, ?_⟩, ⟨?_, ?_, ?_, ?_⟩, ?_, ?_, ?_⟩, fun j _ _ _ _ q => p4 j q, fun j _ _ _ _ q => sar_n q, fun i _ => by rw [sar_n (by omega)], fun i _ => by rw [sar_n (by omega)]⟩
  · rw [k255 _ _ _ _ _ _ (m_k48 hA), if_neg (nI_pos hn), p1, xV_s, Option.bind_some]
  · rw [sar_n (by omega)]; exact h1
  · rw [sar_s]; exact p3
  · rw [sar_n (by omega), sar_n (by omega)]; exact h5
  · rw [p4 _ (by omega)]; exact h6
  · unfold tbR; rw [sar_n (by omega)]; exact h7
  · rw [p4 _ (by omega)]; exact h8
  · rw [p4 _ (by omega)]; exact h9
  · rw [p4 _ (by omega)]; exact h10
  · rw [p4 _ (by omega)]; exact h11
  · rw [sar_n (by omega)]; exact h12
  · rw [p4 _ (by omega), sar_n (by omega)]; exact h13
  · unfold wdR; rw [sar_n (by omega)]; exact h14
theorem m_keptOr_no (hA : 69 ≤ A.length) {x y : Int32} (hy : y < 0) : xC E (d + 1) 255 [.ref 48, .int x, .int y] (mw A fl ar al) = some (some (.int y), mw A fl ar al) := by
  rw [k255 _ _ _ _ _ _ (m_k48 hA), if_pos hy]
end MHIST
/-! acts as mathematics -/
noncomputable def aPut (X : Xs) (x y : Int32) : Int32 × Xs := if (x < 0 ∨ nI 1000 ≤ x) ∨ y < 0 ∨ nI 100 ≤ y then (-1, X) else if (putS X.1.2.1 x.toNatClampNeg y.toNatClampNeg X.1.1).1 < 0 then ((putS X.1.2.1 x.toNatClampNeg y.toNatClampNeg X.1.1).1, X) else ((putS X.1.2.1 x.toNatClampNeg y.toNatClampNeg X.1.1).1, Xact X (putS X.1.2.1 x.toNatClampNeg y.toNatClampNeg X.1.1).2 0)
noncomputable def aDrop (X : Xs) (x : Int32) : Int32 × Xs := if x < 0 ∨ nI 1000 ≤ x then (-1, X) else if (dropS X.1.2.1 x.toNatClampNeg X.1.1).1 < 0 then ((dropS X.1.2.1 x.toNatClampNeg X.1.1).1, X) else ((dropS X.1.2.1 x.toNatClampNeg X.1.1).1, Xact X (dropS X.1.2.1 x.toNatClampNeg X.1.1).2 1)
def aFlush (X : Xs) (x : Int32) : Int32 × Xs := if x < 0 then (-1, X) else if nI (X.1.1.2.2.1.length + 1) ≤ x then (-3, X) else (nI (X.1.1.2.2.1.length - x.toNatClampNeg), Xact X (eldN x.toNatClampNeg X.1.1) 2)
def aCrash (X : Xs) (x : Int32) : Int32 × Xs := if x < 0 then (-1, X) else if nI (X.1.1.2.2.1.length + 1) ≤ x then (-3, X) else (nI (keysN (lsS X.1.2.1.2.2.2 x.toNatClampNeg X.1.1).1), Xact X (lsS X.1.2.1.2.2.2 x.toNatClampNeg X.1.1) 3)
def aAns (p : Int32 × Xs) : Int32 × Xs := (p.1, if p.1 = -1 then Xrf p.2 1 else if p.1 = -3 then Xrf p.2 3 else if p.1 = -5 then Xrf p.2 5 else Xgr p.2)
def actR (v : Int32) : Prop := v = -1 ∨ v = -3 ∨ v = -5 ∨ ∃ n, n < 2 ^ 31 ∧ v = nI n
theorem drL_le {R : Ru} : ∀ (c b : Nat) (S : St), (drL R c b S).1 ≤ c
  | 0, b, S => Nat.le_refl _
  | c + 1, b, S => by
    unfold drL
    split
    · exact Nat.zero_le _
    · split
      · split
        · exact Nat.succ_le_succ (drL_le c _ _)
        · exact Nat.succ_le_succ (drL_le c _ _)
      · exact Nat.zero_le _
theorem putS_R {R : Ru} {k v : Nat} {S : St} (h : okk S.1) : (((putS R k v S).1 = -3 ∨ (putS R k v S).1 = -5) ∧ (putS R k v S).2 = S) ∨ ∃ n, n < 2 ^ 31 ∧ (putS R k v S).1 = nI n := by
  unfold putS
  cases hi : kIdx (ents (S.1 (own S.1 (hsh R.2.2.2 k % 64)))) k with
  | some i => exact Or.inr ⟨0, by omega, rfl⟩
  | none =>
    dsimp only
    by_cases br : brR R S.1 S.2.2.2.2 k = true
    · rw [if_pos br]; exact Or.inl ⟨Or.inl rfl, rfl⟩
    · rw [if_neg br]
      cases hn : ndS R.2.2.2 S.1 (own S.1 (hsh R.2.2.2 k % 64)) (hsh R.2.2.2 k) with
      | none => exact Or.inl ⟨Or.inr rfl, rfl⟩
      | some n =>
        have := (room_of h hn).2.1
        exact Or.inr ⟨n, by omega, rfl⟩
theorem dropS_R {R : Ru} {k : Nat} {S : St} : ((dropS R k S).1 = -3 ∧ (dropS R k S).2 = S) ∨ ∃ n, n < 2 ^ 31 ∧ (dropS R k S).1 = nI n := by
  unfold dropS
  cases hi : kIdx (ents (S.1 (own S.1 (hsh R.2.2.2 k % 64)))) k with
  | none => exact Or.inl ⟨rfl, rfl⟩
  | some i => exact Or.inr ⟨_, Nat.lt_of_le_of_lt (drL_le 6 _ _) (by omega), rfl⟩
theorem keysN_le {B : Bk} (h : okk B) : keysN B ≤ 72 := by
  have := cnt_le (h := fun b => (ents (B b)).length) (m := 3) (fun i => (h.2 i).1) 24
  unfold keysN; omega
section MACTS
variable {E : Nat × (Nat → Int32)} {d : Nat} {A : xH} {al : Nat → Nat → Int64} {fl : Nat → Int32} {ar : Nat → Nat → Int32} {X : Xs}
theorem XI.s (h : XI X) {S : St} (hS : SI X.1.2.1.2.2.2 S) : XI (XS X S) := ⟨⟨hS, h.1.2⟩, h.2⟩
/-- the fourth row aside is the store -/
theorem m_aside3 (h : MI fl ar X) : MI fl (sar ar 5 (cpx (ar 2) (ar 5) 0 (963 * 3) 963)) X ∧ MS (fun j => (sar ar 5 (cpx (ar 2) (ar 5) 0 (963 * 3) 963)) 5 (2889 + j)) X.1.1 ∧ AF fl ar fl (sar ar 5 (cpx (ar 2) (ar 5) 0 (963 * 3) 963)) := by
  refine ⟨h.st (S := X.1.1) (by rw [sar_n (by omega)]; exact h.ms) (fun _ _ _ _ _ => rfl) (fun i _ => by rw [sar_n (by omega)]) (fun j _ q _ _ _ _ => sar_n q), ?_, fun _ _ _ _ _ _ => rfl, fun j _ q _ _ _ => sar_n q, fun i _ => by rw [sar_n (by omega)], fun i hi => by rw [sar_s, cpx_out (by omega)]⟩
  refine h.ms.cong (fun j hj => ?_)
  show (sar ar 5 (cpx (ar 2) (ar 5) 0 (963 * 3) 963)) 5 (2889 + j) = ar 2 j
  rw [sar_s, show (2889 : Nat) + j = 963 * 3 + j by omega, cpx_in hj, Nat.zero_add]
theorem m_putsKept (hA : 69 ≤ A.length) (h : MI fl ar X) (hX : XI X) {x y : Int32} : ∃ fl' ar', xC E (d + 52) 256 [.ref 48, .int x, .int y] (mw A fl ar al) = some (some (.int (aPut X x y).1), mw A fl' ar' al) ∧ MI fl' ar' (aPut X x y).2 ∧ AF fl ar fl' ar' := by
  obtain ⟨a1, a2, a3⟩ := m_aside3 h
  have hla := m_laysAside (E := E) (d := d + 50) (fl := fl) (ar := ar) (al := al) (k := 3) hA (by omega)
  generalize (sar ar 5 (cpx (ar 2) (ar 5) 0 (963 * 3) 963)) = ar1 at *
  rw [k256 _ _ _ _ _ _ (m_k48 hA), show (3 : Int32) = nI 3 from rfl, hla, xV_s, Option.bind_some]
  unfold aPut
  by_cases hb : (x < 0 ∨ nI 1000 ≤ x) ∨ y < 0 ∨ nI 100 ≤ y
  · rw [if_pos hb]
    have hbad := m_puts_bad (E := E) (d := d + 48) (fl := fl) (ar := ar1) (al := al) (x := x) (y := y) hA (hb.imp (n_liesI (n := 999) (by omega)) (n_liesI (n := 99) (by omega)))
    refine ⟨fl, ar1, ?_, a1, a3⟩
    rw [hbad, xI_s, Option.bind_some]
    dsimp only
    rw [m_keptOr_no hA (by decide), xI_s, Option.bind_some]
  · rw [if_neg hb]
    obtain ⟨k, hk, rfl⟩ : ∃ k, k < 1000 ∧ x = nI k := by
      rcases pk_ix x (show 1000 < 2 ^ 31 by omega) with q | q | q
      · exact absurd (Or.inl (Or.inl q)) hb
      · exact absurd (Or.inl (Or.inr q)) hb
      · exact q
    obtain ⟨v, hv, rfl⟩ : ∃ v, v < 100 ∧ y = nI v := by
      rcases pk_ix y (show 100 < 2 ^ 31 by omega) with q | q | q
      · exact absurd (Or.inr (Or.inl q)) hb
      · exact absurd (Or.inr (Or.inr q)) hb
      · exact q
    rw [nI_clamp (by omega), nI_clamp (by omega)]
    obtain ⟨fl2, ar2, p1, p2, p3⟩ := m_puts (E := E) (d := d) (fl := fl) (al := al) hA hk (show v ≤ 99 by omega) a1.ms a1.mr hX.1.1
    rw [p1, xI_s, Option.bind_some]
    dsimp only
    have hM2 : MI fl2 ar2 (XS X (putS X.1.2.1 k v X.1.1).2) := a1.st p2 p3.1 p3.2.2.1 (fun j q1 q2 q3 q4 _ _ => p3.2.1 j q1 q2 q3 q4)
    rcases putS_R (R := X.1.2.1) (k := k) (v := v) hX.1.1.1.1 with ⟨hv2, hs2⟩ | ⟨n, hn, hv2⟩
    · have hneg : (putS X.1.2.1 k v X.1.1).1 < 0 := by rcases hv2 with z | z <;> rw [z] <;> decide
      rw [if_pos hneg]
      refine ⟨fl2, ar2, ?_, ?_, a3.tr p3.af⟩
      · rw [m_keptOr_no hA hneg, xI_s, Option.bind_some]
      · rw [hs2] at hM2; exact hM2
    · have hneg : ¬ (putS X.1.2.1 k v X.1.1).1 < 0 := by rw [hv2]; exact nI_pos hn
      rw [if_neg hneg, hv2]
      have has : MS (fun j => ar2 5 (2889 + j)) X.1.1 := a2.cong (fun j hj => p3.2.2.2 (2889 + j) (Or.inr (by omega)))
      obtain ⟨fl3, ar3, q1, q2, q3⟩ := m_keptOr (E := E) (d := d + 49) (fl := fl2) (ar := ar2) (al := al) (k := 0) (n := n) (S := X.1.1) hA hM2 (hX.s (putS_SI hk (by omega) hX.1.1)) hn has
      refine ⟨fl3, ar3, ?_, q2, (a3.tr p3.af).tr q3⟩
      rw [show xC E (d + 51) 255 [.ref 48, .int (0 : Int32), .int (nI n)] (mw A fl2 ar2 al) = _ from q1, xI_s, Option.bind_some]
theorem m_dropsKept (hA : 69 ≤ A.length) (h : MI fl ar X) (hX : XI X) {x : Int32} : ∃ fl' ar', xC E (d + 52) 257 [.ref 48, .int x] (mw A fl ar al) = some (some (.int (aDrop X x).1), mw A fl' ar' al) ∧ MI fl' ar' (aDrop X x).2 ∧ AF fl ar fl' ar' := by
  obtain ⟨a1, a2, a3⟩ := m_aside3 h
  have hla := m_laysAside (E := E) (d := d + 50) (fl := fl) (ar := ar) (al := al) (k := 3) hA (by omega)
  generalize (sar ar 5 (cpx (ar 2) (ar 5) 0 (963 * 3) 963)) = ar1 at *
  rw [k257 _ _ _ _ _ (m_k48 hA), show (3 : Int32) = nI 3 from rfl, hla, xV_s, Option.bind_some]
  unfold aDrop
  by_cases hb : x < 0 ∨ nI 1000 ≤ x
  · rw [if_pos hb]
    have hbad := m_drops_bad (E := E) (d := d + 48) (fl := fl) (ar := ar1) (al := al) (x := x) hA (n_liesI (n := 999) (by omega) hb)
    refine ⟨fl, ar1, ?_, a1, a3⟩
    rw [hbad, xI_s, Option.bind_some]
    dsimp only
    rw [m_keptOr_no hA (by decide), xI_s, Option.bind_some]
  · rw [if_neg hb]
    obtain ⟨k, hk, rfl⟩ : ∃ k, k < 1000 ∧ x = nI k := by
      rcases pk_ix x (show 1000 < 2 ^ 31 by omega) with q | q | q
      · exact absurd (Or.inl q) hb
      · exact absurd (Or.inr q) hb
      · exact q
    rw [nI_clamp (by omega)]
    obtain ⟨fl2, ar2, p1, p2, p3'⟩ := m_drops (E := E) (d := d + 1) (fl := fl) (al := al) hA hk a1.ms a1.mr hX.1.1.1.1 hX.1.1.1.2.2.2.2.1
    have p3 := p3'.p
    rw [p1, xI_s, Option.bind_some]
    dsimp only
    have hM2 : MI fl2 ar2 (XS X (dropS X.1.2.1 k X.1.1).2) := a1.st p2 p3.1 p3.2.2.1 (fun j q1 q2 q3 q4 _ _ => p3.2.1 j q1 q2 q3 q4)
    rcases dropS_R (R := X.1.2.1) (k := k) (S := X.1.1) with ⟨hv2, hs2⟩ | ⟨n, hn, hv2⟩
    · have hneg : (dropS X.1.2.1 k X.1.1).1 < 0 := by rw [hv2]; decide
      rw [if_pos hneg]
      refine ⟨fl2, ar2, ?_, ?_, a3.tr p3.af⟩
      · rw [m_keptOr_no hA hneg, xI_s, Option.bind_some]
      · rw [hs2] at hM2; exact hM2
    · have hneg : ¬ (dropS X.1.2.1 k X.1.1).1 < 0 := by rw [hv2]; exact nI_pos hn
      rw [if_neg hneg, hv2]
      have has : MS (fun j => ar2 5 (2889 + j)) X.1.1 := a2.cong (fun j hj => p3.2.2.2 (2889 + j) (Or.inr (by omega)))
      obtain ⟨fl3, ar3, q1, q2, q3⟩ := m_keptOr (E := E) (d := d + 49) (fl := fl2) (ar := ar2) (al := al) (k := 1) (n := n) (S := X.1.1) hA hM2 (hX.s (dropS_SI hX.1.1)) hn has
      refine ⟨fl3, ar3, ?_, q2, (a3.tr p3.af).tr q3⟩
      rw [show xC E (d + 51) 255 [.ref 48, .int (1 : Int32), .int (nI n)] (mw A fl2 ar2 al) = _ from q1, xI_s, Option.bind_some]
theorem m_fl28 (hA : 69 ≤ A.length) {n : Nat} (hn : n < 100) : ∀ (c i : Nat) (S : St) (ar : Nat → Nat → Int32), i + c = n → c ≤ S.2.2.1.length → MS (ar 2) S → ∃ ar', xD E (d + 3) 258 28 [.ref 48, .int (nI n), .int (nI i)] [] (mw A fl ar al) = xD E (d + 3) 258 28 [.ref 48, .int (nI n), .int (nI n)] [] (mw A fl ar' al) ∧ MS (ar' 2) (eldN c S) ∧ k2F ar ar'
  | 0, i, S, ar, hi, hc, h => ⟨ar, by rw [show i = n by omega], h, k2F.rf⟩
  | c + 1, i, S, ar, hi, hc, h => by
    obtain ⟨g, g1, g2, g3⟩ := m_elds (E := E) (d := d) (fl := fl) (al := al) hA h (fun z => by rw [z] at hc; simp at hc)
    have hlen := eld_len (S := S)
    obtain ⟨ar', i1, i2, i3⟩ := m_fl28 hA hn c (i + 1) (eld S) (sar ar 2 g) (by omega) (by omega) (by rw [sar_s]; exact g2)
    refine ⟨ar', ?_, i2, (k2F.st g3).tr i3⟩
    rw [e258_28, if_neg (nI_ge (by omega) (by omega)), g1, xV_s, Option.bind_some, nI_1]
    exact i1
theorem m_flushesKept (hA : 69 ≤ A.length) (h : MI fl ar X) (hX : XI X) {x : Int32} : ∃ fl' ar', xC E (d + 4) 258 [.ref 48, .int x] (mw A fl ar al) = some (some (.int (aFlush X x).1), mw A fl' ar' al) ∧ MI fl' ar' (aFlush X x).2 ∧ AF fl ar fl' ar' := by
  have hwl := h.ms.wl
  rw [k258 _ _ _ _ _ (m_k48 hA)]
  unfold aFlush
  rcases pk_ix x (show X.1.1.2.2.1.length + 1 < 2 ^ 31 by omega) with q | q | ⟨n, hn, rfl⟩
  · rw [if_neg (Int32.not_le.mpr q), if_pos q]
    exact ⟨fl, ar, rfl, h, AF.rf⟩
  · have q0 : ¬ x < 0 := fun z => absurd (Int32.lt_of_lt_of_le z (nI_pos' (n := X.1.1.2.2.1.length + 1) (by omega))) (Int32.not_lt.mpr q)
    rw [if_pos (Int32.not_lt.mp q0), if_neg q0, if_pos q]
    refine ⟨fl, ar, ?_, h, AF.rf⟩
    simp (disch := first | omega | exact m_k48 hA) only [Option.bind_some, xI_s, xV_s, m_r48_1 hA, m_r48_2 hA, m_r48_5 hA, m_a50 hA, m_s50 hA, m_l50 hA, k169, zl, pk_mul, nI_add, Nat.add_zero, sar_s, sar_sar, h.ms.wn]
    rw [if_neg (Int32.not_le.mpr (Int32.lt_of_lt_of_le (nI_lt (by omega) (by omega)) q))]
  · rw [if_pos (nI_pos' (by omega)), if_neg (nI_pos (by omega)), if_neg (nI_ge hn (by omega)), nI_clamp (by omega)]
    obtain ⟨a1, a2, a3⟩ := m_aside3 h
    have hla := m_laysAside (E := E) (d := d + 2) (fl := fl) (ar := ar) (al := al) (k := 3) hA (by omega)
    generalize (sar ar 5 (cpx (ar 2) (ar 5) 0 (963 * 3) 963)) = ar1 at *
    obtain ⟨ar2, l1, l2, l3⟩ := m_fl28 (E := E) (d := d + 1) (fl := fl) (al := al) hA (n := n) (by omega) n 0 X.1.1 ar1 (by omega) (by omega) a1.ms
    have hM2 : MI fl ar2 (XS X (eldN n X.1.1)) := a1.st l2 (fun _ _ _ _ _ => rfl) l3.2 (fun j q1 _ _ _ _ _ => l3.1 j q1)
    have has : MS (fun j => ar2 5 (2889 + j)) X.1.1 := a2.cong (fun j hj => by rw [l3.1 5 (by omega)])
    have hlen := eldN_len n X.1.1
    obtain ⟨fl3, ar3, q1, q2, q3⟩ := m_keptOr (E := E) (d := d + 1) (fl := fl) (ar := ar2) (al := al) (k := 2) (n := X.1.1.2.2.1.length - n) (S := X.1.1) hA hM2 (hX.s (SI_eldN n hX.1.1)) (by omega) has
    refine ⟨fl3, ar3, ?_, q2, (a3.tr (MF.p ⟨eG.rf, l3.k⟩).af).tr q3⟩
    simp (disch := first | omega | exact m_k48 hA) only [Option.bind_some, xI_s, xV_s, m_r48_1 hA, m_r48_2 hA, m_r48_5 hA, m_a50 hA, m_s50 hA, m_l50 hA, k169, zl, pk_mul, nI_add, Nat.add_zero, sar_s, sar_sar, h.ms.wn]
    rw [if_pos (nI_le (by omega) (by omega)), hla, xV_s, Option.bind_some]
    refine Eq.trans l1 ?_
    have hwn := l2.wn
    rw [hlen] at hwn
    rw [e258_28, if_pos (nI_le (Nat.le_refl _) (by omega))]
    simp (disch := first | omega | exact m_k48 hA) only [Option.bind_some, xI_s, xV_s, m_r48_1 hA, m_r48_2 hA, m_r48_5 hA, m_a50 hA, m_s50 hA, m_l50 hA, k169, zl, pk_mul, nI_add, Nat.add_zero, sar_s, sar_sar, hwn]
    rw [q1, xI_s, Option.bind_some]
theorem m_crashesKept (hA : 69 ≤ A.length) (h : MI fl ar X) (hX : XI X) {x : Int32} : ∃ fl' ar', xC E (d + 6) 259 [.ref 48, .int x] (mw A fl ar al) = some (some (.int (aCrash X x).1), mw A fl' ar' al) ∧ MI fl' ar' (aCrash X x).2 ∧ AF fl ar fl' ar' := by
  have hwl := h.ms.wl
  rw [k259 _ _ _ _ _ (m_k48 hA)]
  unfold aCrash
  rcases pk_ix x (show X.1.1.2.2.1.length + 1 < 2 ^ 31 by omega) with q | q | ⟨n, hn, rfl⟩
  · rw [if_neg (Int32.not_le.mpr q), if_pos q]
    exact ⟨fl, ar, rfl, h, AF.rf⟩
  · have q0 : ¬ x < 0 := fun z => absurd (Int32.lt_of_lt_of_le z (nI_pos' (n := X.1.1.2.2.1.length + 1) (by omega))) (Int32.not_lt.mpr q)
    rw [if_pos (Int32.not_lt.mp q0), if_neg q0, if_pos q]
    refine ⟨fl, ar, ?_, h, AF.rf⟩
    simp (disch := first | omega | exact m_k48 hA) only [Option.bind_some, xI_s, xV_s, m_r48_1 hA, m_r48_2 hA, m_r48_5 hA, m_a50 hA, m_s50 hA, m_l50 hA, k169, zl, pk_mul, nI_add, Nat.add_zero, sar_s, sar_sar, h.ms.wn]
    rw [if_neg (Int32.not_le.mpr (Int32.lt_of_lt_of_le (nI_lt (by omega) (by omega)) q))]
  · rw [if_pos (nI_pos' (by omega)), if_neg (nI_pos (by omega)), if_neg (nI_ge hn (by omega)), nI_clamp (by omega)]
    obtain ⟨a1, a2, a3⟩ := m_aside3 h
    have hla := m_laysAside (E := E) (d := d + 4) (fl := fl) (ar := ar) (al := al) (k := 3) hA (by omega)
    generalize (sar ar 5 (cpx (ar 2) (ar 5) 0 (963 * 3) 963)) = ar1 at *
    have hR := a1.mr
    obtain ⟨ar2, l1, l2, l3⟩ := m_loses (E := E) (d := d) (fl := fl) (al := al) (n := n) hA hR.2.2.2.1 hR.2.2.1 a1.ms hX.1.1 (by omega)
    have hM2 : MI fl ar2 (XS X (lsS X.1.2.1.2.2.2 n X.1.1)) := a1.st l2 (fun _ _ _ _ _ => rfl) l3.2 (fun j q1 _ q3 q4 _ _ => l3.1 j q1 q3 q4)
    have has : MS (fun j => ar2 5 (2889 + j)) X.1.1 := a2.cong (fun j hj => by rw [l3.1 5 (by omega) (by omega) (by omega)])
    have hSI := SI_ls (t := X.1.2.1.2.2.2) n hX.1.1
    have hkm := m_keyMany (E := E) (d := d + 2) (fl := fl) (al := al) hA l2
    have hkl := keysN_le hSI.1.1
    obtain ⟨fl3, ar3, q1, q2, q3⟩ := m_keptOr (E := E) (d := d + 3) (fl := fl) (ar := ar2) (al := al) (k := 3) (n := keysN (lsS X.1.2.1.2.2.2 n X.1.1).1) (S := X.1.1) hA hM2 (hX.s hSI) (by omega) has
    refine ⟨fl3, ar3, ?_, q2, (a3.tr (MF.p ⟨eG.rf, l3⟩).af).tr q3⟩
    simp (disch := first | omega | exact m_k48 hA) only [Option.bind_some, xI_s, xV_s, m_r48_1 hA, m_r48_2 hA, m_r48_5 hA, m_a50 hA, m_s50 hA, m_l50 hA, k169, zl, pk_mul, nI_add, Nat.add_zero, sar_s, sar_sar, h.ms.wn]
    rw [if_pos (nI_le (by omega) (by omega)), hla, xV_s, Option.bind_some, l1, xV_s, Option.bind_some, hkm, xI_s, Option.bind_some]
    dsimp only
    rw [q1, xI_s, Option.bind_some]
theorem m_goodOr (hA : 69 ≤ A.length) {p : Int32 × Xs} (h : MI fl ar p.2) (hp : actR p.1) : ∃ fl' ar', xC E (d + 2) 254 [.ref 48, .int p.1] (mw A fl ar al) = some (some (.int (aAns p).1), mw A fl' ar' al) ∧ MI fl' ar' (aAns p).2 := by
  rw [k254 _ _ _ _ _ (m_k48 hA)]
  unfold aAns
  rcases hp with z | z | z | ⟨n, hn, z⟩
  · obtain ⟨fl', ar', r1, r2, -⟩ := m_refuses (E := E) (d := d) (al := al) (c := 1) (x := -1) hA h (by omega) rfl (by decide)
    rw [z, if_neg (by decide), if_pos rfl]
    exact ⟨fl', ar', by rw [r1, xI_s, Option.bind_some], r2⟩
  · obtain ⟨fl', ar', r1, r2, -⟩ := m_refuses (E := E) (d := d) (al := al) (c := 3) (x := -3) hA h (by omega) rfl (by decide)
    rw [z, if_neg (by decide), if_neg (by decide), if_pos rfl]
    exact ⟨fl', ar', by rw [r1, xI_s, Option.bind_some], r2⟩
  · obtain ⟨fl', ar', r1, r2, -⟩ := m_refuses (E := E) (d := d) (al := al) (c := 5) (x := -5) hA h (by omega) rfl (by decide)
    rw [z, if_neg (by decide), if_neg (by decide), if_neg (by decide), if_pos rfl]
    exact ⟨fl', ar', by rw [r1, xI_s, Option.bind_some], r2⟩
  · obtain ⟨g1, g2⟩ := m_good (E := E) (d := d) (al := al) (x := nI n) hA h
    rw [z, if_pos (nI_pos' hn), if_neg (n_ng1 hn), if_neg (n_ng3 hn), if_neg (n_ng5 hn)]
    exact ⟨_, _, by rw [g1, xI_s, Option.bind_some], g2⟩
theorem aPut_R (hX : XI X) {x y : Int32} : actR (aPut X x y).1 ∧ XI (aPut X x y).2 := by
  unfold aPut
  by_cases hb : (x < 0 ∨ nI 1000 ≤ x) ∨ y < 0 ∨ nI 100 ≤ y
  · rw [if_pos hb]; exact ⟨Or.inl rfl, hX⟩
  · rw [if_neg hb]
    obtain ⟨k, hk, rfl⟩ : ∃ k, k < 1000 ∧ x = nI k := by
      rcases pk_ix x (show 1000 < 2 ^ 31 by omega) with q | q | q
      · exact absurd (Or.inl (Or.inl q)) hb
      · exact absurd (Or.inl (Or.inr q)) hb
      · exact q
    obtain ⟨v, hv, rfl⟩ : ∃ v, v < 100 ∧ y = nI v := by
      rcases pk_ix y (show 100 < 2 ^ 31 by omega) with q | q | q
      · exact absurd (Or.inr (Or.inl q)) hb
      · exact absurd (Or.inr (Or.inr q)) hb
      · exact q
    rw [nI_clamp (by omega), nI_clamp (by omega)]
    rcases putS_R (R := X.1.2.1) (k := k) (v := v) hX.1.1.1.1 with ⟨hv2, hs2⟩ | ⟨n, hn, hv2⟩
    · have hneg : (putS X.1.2.1 k v X.1.1).1 < 0 := by rcases hv2 with z | z <;> rw [z] <;> decide
      rw [if_pos hneg]
      exact ⟨Or.inr (hv2.elim Or.inl (fun z => Or.inr (Or.inl z))), hX⟩
    · have hneg : ¬ (putS X.1.2.1 k v X.1.1).1 < 0 := by rw [hv2]; exact nI_pos hn
      rw [if_neg hneg]
      exact ⟨Or.inr (Or.inr (Or.inr ⟨n, hn, hv2⟩)), ⟨putS_SI hk (by omega) hX.1.1, hX.1.2⟩, kph_len hX.2.1, fun q hq => (kph_mem hq).elim (fun z => hX.2.2.1 q z) (fun z => by rw [z]; exact ⟨hX.1.1, by show 0 ≤ 3; omega⟩), hX.2.2.2⟩
theorem XI.act (hX : XI X) {S : St} {k : Nat} (hS : SI X.1.2.1.2.2.2 S) (hk : k ≤ 3) : XI (Xact X S k) := ⟨⟨hS, hX.1.2⟩, kph_len hX.2.1, fun q hq => (kph_mem hq).elim (fun z => hX.2.2.1 q z) (fun z => by rw [z]; exact ⟨hX.1.1, hk⟩), hX.2.2.2⟩
theorem aDrop_R (hX : XI X) {x : Int32} : actR (aDrop X x).1 ∧ XI (aDrop X x).2 := by
  unfold aDrop
  by_cases hb : x < 0 ∨ nI 1000 ≤ x
  · rw [if_pos hb]; exact ⟨Or.inl rfl, hX⟩
  · rw [if_neg hb]
    rcases dropS_R (R := X.1.2.1) (k := x.toNatClampNeg) (S := X.1.1) with ⟨hv2, hs2⟩ | ⟨n, hn, hv2⟩
    · rw [if_pos (by rw [hv2]; decide)]
      exact ⟨Or.inr (Or.inl hv2), hX⟩
    · rw [if_neg (by rw [hv2]; exact nI_pos hn)]
      exact ⟨Or.inr (Or.inr (Or.inr ⟨n, hn, hv2⟩)), hX.act (dropS_SI hX.1.1) (by omega)⟩
theorem aFlush_R (hX : XI X) {x : Int32} : actR (aFlush X x).1 ∧ XI (aFlush X x).2 := by
  have hwl := hX.1.1.1.2.2.2.2.2.1
  unfold aFlush
  split
  · exact ⟨Or.inl rfl, hX⟩
  · split
    · exact ⟨Or.inr (Or.inl rfl), hX⟩
    · exact ⟨Or.inr (Or.inr (Or.inr ⟨_, by omega, rfl⟩)), hX.act (SI_eldN _ hX.1.1) (by omega)⟩
theorem aCrash_R (hX : XI X) {x : Int32} : actR (aCrash X x).1 ∧ XI (aCrash X x).2 := by
  unfold aCrash
  split
  · exact ⟨Or.inl rfl, hX⟩
  · split
    · exact ⟨Or.inr (Or.inl rfl), hX⟩
    · have hSI := SI_ls (t := X.1.2.1.2.2.2) x.toNatClampNeg hX.1.1
      have hkl := keysN_le hSI.1.1
      exact ⟨Or.inr (Or.inr (Or.inr ⟨_, by omega, rfl⟩)), hX.act hSI (by omega)⟩
theorem XI.rf (hX : XI X) (c : Nat) : XI (Xrf X c) := hX
theorem XI.gr (hX : XI X) : XI (Xgr X) := hX
theorem XI.cl (hX : XI X) : XI (Xcl X) := ⟨hX.1, Nat.zero_le _, fun q hq => by simp [Xcl] at hq, hX.2.2.2⟩
theorem aAns_R {p : Int32 × Xs} (hX : XI p.2) : XI (aAns p).2 := by
  unfold aAns
  dsimp only
  split
  · exact hX
  · split
    · exact hX
    · split
      · exact hX
      · exact hX
theorem m_put (hA : 69 ≤ A.length) (h : MI fl ar X) (hX : XI X) {x y : Int32} : ∃ fl' ar', xC E (d + 53) 260 [.ref 48, .int x, .int y] (mw A fl ar al) = some (some (.int (aAns (aPut X x y)).1), mw A fl' ar' al) ∧ MI fl' ar' (aAns (aPut X x y)).2 := by
  obtain ⟨fl1, ar1, p1, p2, -⟩ := m_putsKept (E := E) (d := d) (al := al) (x := x) (y := y) hA h hX
  obtain ⟨fl2, ar2, q1, q2⟩ := m_goodOr (E := E) (d := d + 50) (al := al) hA p2 (aPut_R hX).1
  exact ⟨fl2, ar2, by rw [k260 _ _ _ _ _ _ (m_k48 hA), p1, xI_s, Option.bind_some]; dsimp only; rw [q1, xI_s, Option.bind_some], q2⟩
theorem m_drop (hA : 69 ≤ A.length) (h : MI fl ar X) (hX : XI X) {x : Int32} : ∃ fl' ar', xC E (d + 53) 261 [.ref 48, .int x] (mw A fl ar al) = some (some (.int (aAns (aDrop X x)).1), mw A fl' ar' al) ∧ MI fl' ar' (aAns (aDrop X x)).2 := by
  obtain ⟨fl1, ar1, p1, p2, -⟩ := m_dropsKept (E := E) (d := d) (al := al) (x := x) hA h hX
  obtain ⟨fl2, ar2, q1, q2⟩ := m_goodOr (E := E) (d := d + 50) (al := al) hA p2 (aDrop_R hX).1
  exact ⟨fl2, ar2, by rw [k261 _ _ _ _ _ (m_k48 hA), p1, xI_s, Option.bind_some]; dsimp only; rw [q1, xI_s, Option.bind_some], q2⟩
theorem m_flush (hA : 69 ≤ A.length) (h : MI fl ar X) (hX : XI X) {x : Int32} : ∃ fl' ar', xC E (d + 5) 262 [.ref 48, .int x] (mw A fl ar al) = some (some (.int (aAns (aFlush X x)).1), mw A fl' ar' al) ∧ MI fl' ar' (aAns (aFlush X x)).2 := by
  obtain ⟨fl1, ar1, p1, p2, -⟩ := m_flushesKept (E := E) (d := d) (al := al) (x := x) hA h hX
  obtain ⟨fl2, ar2, q1, q2⟩ := m_goodOr (E := E) (d := d + 2) (al := al) hA p2 (aFlush_R hX).1
  exact ⟨fl2, ar2, by rw [k262 _ _ _ _ _ (m_k48 hA), p1, xI_s, Option.bind_some]; dsimp only; rw [q1, xI_s, Option.bind_some], q2⟩
theorem m_crash (hA : 69 ≤ A.length) (h : MI fl ar X) (hX : XI X) {x : Int32} : ∃ fl' ar', xC E (d + 7) 263 [.ref 48, .int x] (mw A fl ar al) = some (some (.int (aAns (aCrash X x)).1), mw A fl' ar' al) ∧ MI fl' ar' (aAns (aCrash X x)).2 := by
  obtain ⟨fl1, ar1, p1, p2, -⟩ := m_crashesKept (E := E) (d := d) (al := al) (x := x) hA h hX
  obtain ⟨fl2, ar2, q1, q2⟩ := m_goodOr (E := E) (d := d + 4) (al := al) hA p2 (aCrash_R hX).1
  exact ⟨fl2, ar2, by rw [k263 _ _ _ _ _ (m_k48 hA), p1, xI_s, Option.bind_some]; dsimp only; rw [q1, xI_s, Option.bind_some], q2⟩
/-- the latest act is undone -/
def aUndo (X : Xs) : Int32 × Xs := match X.2.1.getLast? with
  | none => (-3, Xrf X 3)
  | some q => (nI q.2, Xgr ((q.1, X.1.2), X.2.1.dropLast, X.2.2))
theorem m_un35 (hA : 69 ≤ A.length) {n : Nat} {fl : Nat → Int32} (hn : n ≤ 15) : ∀ (c i : Nat), i + c = 963 → xD E (d + 2) 253 35 [.ref 48, .int (nI (964 * n)), .int (nI i)] [] (mw A fl (sar ar 2 (cpx (ar 30) (ar 2) (964 * n) 0 i)) al) = (xI (xC E (d + 1) 158 [.ref 48, .int (ar 30 (964 * n + 963))] (mw A fl (sar ar 2 (cpx (ar 30) (ar 2) (964 * n) 0 963)) al))).bind fun q3 => some (some (.int q3.1), q3.2)
  | 0, i, hi => by
    rw [e253_35, if_pos (by rw [zl]; exact nI_le (by omega) (by omega)), show i = 963 by omega]
    simp (disch := first | omega | exact m_k48 hA) only [Option.bind_some, xI_s, xV_s, m_r48_1 hA, m_r48_2 hA, m_r48_5 hA, m_a50 hA, m_s50 hA, m_l50 hA, k169, zl, pk_mul, nI_add, Nat.add_zero, sar_s, sar_sar, m_r48_30 hA, m_a62 hA, sar_n]
  | c + 1, i, hi => by
    have hst := cpx_step (ar 30) (ar 2) (964 * n) 0 i
    rw [Nat.zero_add] at hst
    rw [e253_35, if_neg (by rw [zl]; exact nI_ge (by omega) (by omega))]
    simp (disch := first | omega | exact m_k48 hA) only [Option.bind_some, xI_s, xV_s, m_r48_1 hA, m_r48_2 hA, m_r48_5 hA, m_a50 hA, m_s50 hA, m_l50 hA, k169, zl, pk_mul, nI_add, Nat.add_zero, sar_s, sar_sar, m_r48_30 hA, m_a62 hA, sar_n, hst]
    exact m_un35 hA hn c (i + 1) (by omega)
theorem m_undo (hA : 69 ≤ A.length) (h : MI fl ar X) (hX : XI X) : ∃ fl' ar', xC E (d + 2) 253 [.ref 48] (mw A fl ar al) = some (some (.int (aUndo X).1), mw A fl' ar' al) ∧ MI fl' ar' (aUndo X).2 := by
  have hl := hX.2.1
  rw [k253 _ _ _ _ (m_k48 hA), m_g48_32 hA, Option.bind_some, h.2.1.1]
  unfold aUndo
  cases hL : X.2.1.getLast? with
  | none =>
    have h0 : X.2.1 = [] := List.getLast?_eq_none_iff.mp hL
    obtain ⟨fl', ar', r1, r2, -⟩ := m_refuses (E := E) (d := d) (al := al) (c := 3) (x := -3) hA h (by omega) rfl (by decide)
    rw [if_pos (by rw [h0]; rfl)]
    exact ⟨fl', ar', by rw [r1, xI_s, Option.bind_some], r2⟩
  | some q =>
    have hne : X.2.1 ≠ [] := fun z => by rw [z] at hL; simp at hL
    obtain ⟨n, hn⟩ : ∃ n, X.2.1.length = n + 1 := ⟨X.2.1.length - 1, by have := List.length_pos_iff.mpr hne; omega⟩
    have hq : X.2.1[n]? = some q := by rw [List.getLast?_eq_getElem?, hn, Nat.add_sub_cancel] at hL; exact hL
    obtain ⟨m1, m2⟩ := h.2.1.2 n q hq
    have hM : MI (upd fl 32 (nI n)) (sar ar 2 (cpx (ar 30) (ar 2) (964 * n) 0 963)) ((q.1, X.1.2), X.2.1.dropLast, X.2.2) := by
      obtain ⟨h1, ⟨h3, h4⟩, h5, ⟨h6, h7⟩, ⟨h8, h9, h10, h11⟩, h12, h13, h14⟩ := h
      refine ⟨?_, ⟨?_, ?_⟩, ?_, ⟨h6, ?_⟩, ⟨h8, h9, h10, h11⟩, ?_, ?_, ?_⟩
      · rw [sar_s]
        refine h1.st (m1.cong (fun j hj => ?_)) (fun j hj => cpx_out (by omega))
        have := cpx_in (src := ar 30) (dst := ar 2) (fr := 964 * n) (to := 0) (n := 963) hj
        rw [Nat.zero_add] at this
        exact this
      · show _ = nI X.2.1.dropLast.length
        rw [List.length_dropLast, hn, Nat.add_sub_cancel]; exact upd_s
      · rw [sar_n (by omega)]
        intro i q' hq'
        refine h4 i q' ?_
        have hi : i < X.2.1.dropLast.length := (List.getElem?_eq_some_iff.mp hq').1
        rw [List.length_dropLast] at hi
        have hq2 : X.2.1.dropLast[i]? = some q' := hq'
        rw [List.getElem?_dropLast, if_pos hi] at hq2
        exact hq2
      · rw [sar_n (by omega), sar_n (by omega)]; exact h5
      · unfold tbR; rw [sar_n (by omega)]; exact h7
      · rw [sar_n (by omega)]; exact h12
      · rw [sar_n (by omega)]; exact h13
      · unfold wdR; rw [sar_n (by omega)]; exact h14
    obtain ⟨g1, g2⟩ := m_good (E := E) (d := d) (al := al) (x := nI q.2) hA hM
    have h35 := m_un35 (E := E) (d := d) (ar := ar) (al := al) (fl := upd fl 32 (nI n)) (n := n) hA (by omega) 963 0 rfl
    rw [cpx_0, sar_self, m2, g1, xI_s, Option.bind_some] at h35
    refine ⟨_, _, ?_, g2⟩
    rw [hn, if_neg (nI_ne0 (by omega) (by omega)), Option.bind_some, show (1 : Int32) = nI 1 from rfl, pk_sub (by omega), Nat.add_sub_cancel, m_p48_32 hA, Option.bind_some, m_g48_32 hA, Option.bind_some, upd_s, show (964 : Int32) = nI 964 from rfl, pk_mul]
    exact h35
theorem aUndo_R (hX : XI X) : XI (aUndo X).2 := by
  unfold aUndo
  cases hL : X.2.1.getLast? with
  | none => exact hX
  | some q =>
    have hm := hX.2.2.1 q (List.mem_of_getLast? hL)
    exact ⟨⟨hm.1, hX.1.2⟩, by show X.2.1.dropLast.length ≤ 16; rw [List.length_dropLast]; have := hX.2.1; omega, fun p hp => hX.2.2.1 p ((List.dropLast_sublist _).subset hp), hX.2.2.2⟩
end MACTS
