/-! ===== the whole state; what both hold of it ===== -/
/-- what images keep: the store, the rules, fails, what was seen -/
abbrev Kp : Type := St × Ru × Nat × List (Nat × Nat)
/-- that, what can be undone, the images, the tape, (status, tears, fault, stopped), the refusals, what was drawn -/
abbrev Xs : Type := Kp × List (St × Nat) × (Nat → Option Kp) × ((Nat → Nat) × Nat) × (Int32 × Int32 × Int32 × Int32) × (Nat → Int32) × (Nat → Int32)
/-- what holds of what is kept -/
def KI (K : Kp) : Prop := SI K.2.1.2.2.2 K.1 ∧ K.2.2.1 ≤ 10 ∧ K.2.2.2.length ≤ 6 ∧ (∀ q ∈ K.2.2.2, q.1 < 64 ∧ q.2 ≤ 1) ∧ K.2.1.2.2.2 < 1000 ∧ K.2.1.2.2.1 ≤ 9 ∧ K.2.1.1.length ≤ 6 ∧ (∀ q, K.2.1.2.1 = some q → q < K.2.1.1.length) ∧ ∀ L ∈ K.2.1.1, lawK L
def XI (X : Xs) : Prop := KI X.1 ∧ X.2.1.length ≤ 16 ∧ (∀ q ∈ X.2.1, SI X.1.2.1.2.2.2 q.1 ∧ q.2 ≤ 3) ∧ (∀ k K, X.2.2.1 k = some K → KI K) ∧ X.2.2.2.1.2 ≤ 400 ∧ ∀ j, X.2.2.2.1.1 j < 256
/-! the reference's -/
def MK (f : Nat → Int32) (K : Kp) : Prop := MS f K.1 ∧ MRR f K.2.1 ∧ f 975 = nI K.2.2.1 ∧ f 978 = nI K.2.2.2.length ∧ ∀ i q, K.2.2.2[i]? = some q → f (963 + 2 * i) = nI q.1 ∧ f (963 + 2 * i + 1) = nI q.2
def MH (h : Nat → Int32) (L : List (St × Nat)) : Prop := ∀ i q, L[i]? = some q → MS (fun j => h (964 * i + j)) q.1 ∧ h (964 * i + 963) = nI q.2
def MIm (f g : Nat → Int32) (I : Nat → Option Kp) : Prop := ∀ k, k < 2 → (I k = none → g k = 0) ∧ ∀ K, I k = some K → g k = 1 ∧ MK (fun j => f (6588 * k + j)) K
def MI (fl : Nat → Int32) (ar : Nat → Nat → Int32) (X : Xs) : Prop := MK (ar 2) X.1 ∧ (fl 32 = nI X.2.1.length ∧ MH (ar 30) X.2.1) ∧ MIm (ar 3) (ar 4) X.2.2.1 ∧ (fl 13 = nI X.2.2.2.1.2 ∧ tbR X.2.2.2.1.1 X.2.2.2.1.2 ar) ∧ (fl 0 = X.2.2.2.2.1.1 ∧ fl 6 = X.2.2.2.2.1.2.1 ∧ fl 14 = X.2.2.2.2.1.2.2.1 ∧ fl 36 = X.2.2.2.2.1.2.2.2) ∧ (∀ i, i < 7 → ar 1 i = X.2.2.2.2.2.1 i) ∧ ((fl 44 = 0 ∧ ∀ k, k < 40 → X.2.2.2.2.2.2 k = -1) ∨ (fl 44 = 1 ∧ ∀ k, k < 40 → ar 43 k = X.2.2.2.2.2.2 k)) ∧ wdR ar
theorem MK.cong {f g : Nat → Int32} {K : Kp} (h : MK f K) (hl : K.2.2.2.length ≤ 6) (hg : ∀ j, j < 6588 → g j = f j) : MK g K := by
  obtain ⟨h1, h2, h3, h4, h5⟩ := h
  refine ⟨h1.cong (fun j hj => hg j (by omega)), ?_, (hg _ (by omega)).trans h3, (hg _ (by omega)).trans h4, fun i q hq => ?_⟩
  · obtain ⟨r1, r2, r3, r4, r5, r6, r7, r8, r9⟩ := h2
    refine ⟨(hg _ (by omega)).trans r1, r2, (hg _ (by omega)).trans r3, r4, (hg _ (by omega)).trans r5, r6, (hg _ (by omega)).trans r7, r8, fun i L hi => ?_⟩
    obtain ⟨a, b, c1, c2, c3, c4, c5⟩ := r9 i L hi
    have hil : i < K.2.1.1.length := (List.getElem?_eq_some_iff.mp hi).1
    refine ⟨a, (hg _ (by omega)).trans b, c1, c2, c3, c4, fun j hj => ?_⟩
    obtain ⟨z1, w, z2, z3⟩ := c5 j hj
    exact ⟨(hg _ (by omega)).trans z1, w, (hg _ (by omega)).trans z2, z3⟩
  · have hi : i < K.2.2.2.length := (List.getElem?_eq_some_iff.mp hq).1
    rw [hg _ (by omega), hg _ (by omega)]; exact h5 i q hq
/-- the store's cells have changed, none beyond -/
theorem MK.st {f g : Nat → Int32} {K : Kp} {S : St} (h : MK f K) (hS : MS g S) (hg : ∀ j, 963 ≤ j → g j = f j) : MK g (S, K.2) := by
  obtain ⟨h1, h2, h3, h4, h5⟩ := h
  exact ⟨hS, h2.cong hg, (hg _ (by omega)).trans h3, (hg _ (by omega)).trans h4, fun i q hq => by rw [hg _ (by omega), hg _ (by omega)]; exact h5 i q hq⟩
def Xk (X : Xs) (K : Kp) : Xs := (K, X.2)
def XS (X : Xs) (S : St) : Xs := ((S, X.1.2), X.2)
/-- refused by -c; granted -/
def rfC (c : Nat) (r : Nat → Int32) : Nat → Int32 := upd r c (r c + 1)
def Xrf (X : Xs) (c : Nat) : Xs := (X.1, X.2.1, X.2.2.1, X.2.2.2.1, (-nI c, X.2.2.2.2.1.2), rfC c X.2.2.2.2.2.1, X.2.2.2.2.2.2)
def Xgr (X : Xs) : Xs := (X.1, X.2.1, X.2.2.1, X.2.2.2.1, (0, X.2.2.2.2.1.2), X.2.2.2.2.2)
/-- nothing can be undone -/
def Xcl (X : Xs) : Xs := (X.1, [], X.2.2)
section MSTATE
variable {E : Nat × (Nat → Int32)} {d : Nat} {A : xH} {al : Nat → Nat → Int64} {fl : Nat → Int32} {ar : Nat → Nat → Int32} {X : Xs}
/-- frames of a state under acts of the store -/
theorem MI.st {fl' : Nat → Int32} {ar' : Nat → Nat → Int32} {S : St} (h : MI fl ar X) (hS : MS (ar' 2) S) (hf : ∀ j, j ≠ 22 → j ≠ 23 → j ≠ 24 → j ≠ 25 → fl' j = fl j) (h2 : ∀ i, 963 ≤ i → ar' 2 i = ar 2 i) (ha : ∀ j, j ≠ 2 → j ≠ 5 → j ≠ 26 → j ≠ 29 → j ≠ 33 → j ≠ 34 → ar' j = ar j) : MI fl' ar' (XS X S) := by
  obtain ⟨h1, ⟨h3, h4⟩, h5, ⟨h6, h7⟩, ⟨h8, h9, h10, h11⟩, h12, h13, h14⟩ := h
  refine ⟨h1.st hS h2, ⟨(hf 32 (by omega) (by omega) (by omega) (by omega)).trans h3, ?_⟩, ?_, ⟨(hf 13 (by omega) (by omega) (by omega) (by omega)).trans h6, ?_⟩, ⟨(hf 0 (by omega) (by omega) (by omega) (by omega)).trans h8, (hf 6 (by omega) (by omega) (by omega) (by omega)).trans h9, (hf 14 (by omega) (by omega) (by omega) (by omega)).trans h10, (hf 36 (by omega) (by omega) (by omega) (by omega)).trans h11⟩, ?_, ?_, ?_⟩
  · rw [ha 30 (by omega) (by omega) (by omega) (by omega) (by omega) (by omega)]; exact h4
  · rw [ha 3 (by omega) (by omega) (by omega) (by omega) (by omega) (by omega), ha 4 (by omega) (by omega) (by omega) (by omega) (by omega) (by omega)]; exact h5
  · unfold tbR; rw [ha 11 (by omega) (by omega) (by omega) (by omega) (by omega) (by omega)]; exact h7
  · rw [ha 1 (by omega) (by omega) (by omega) (by omega) (by omega) (by omega)]; exact h12
  · rw [hf 44 (by omega) (by omega) (by omega) (by omega), ha 43 (by omega) (by omega) (by omega) (by omega) (by omega) (by omega)]; exact h13
  · unfold wdR; rw [ha 7 (by omega) (by omega) (by omega) (by omega) (by omega) (by omega)]; exact h14
theorem XS_self : XS X X.1.1 = X := rfl
theorem MI.ms (h : MI fl ar X) : MS (ar 2) X.1.1 := h.1.1
theorem MI.mr (h : MI fl ar X) : MRR (ar 2) X.1.2.1 := h.1.2.1
theorem m_refuses (hA : 69 ≤ A.length) (h : MI fl ar X) {c : Nat} {x : Int32} (hc : c < 7) (hx : x = -nI c) (hx2 : -x = nI c) : ∃ fl' ar', xC E (d + 1) 157 [.ref 48, .int x] (mw A fl ar al) = some (some (.int x), mw A fl' ar' al) ∧ MI fl' ar' (Xrf X c) ∧ (∀ j, j ≠ 0 → fl' j = fl j) ∧ ∀ j, j ≠ 1 → ar' j = ar j := by
  obtain ⟨h1, ⟨h3, h4⟩, h5, ⟨h6, h7⟩, ⟨h8, h9, h10, h11⟩, h12, h13, h14⟩ := h
  refine ⟨upd fl 0 x, sar ar 1 (upd (ar 1) c (ar 1 c + 1)), ?_, ?_, fun j hj => upd_n hj, fun j hj => sar_n hj⟩
  · rw [k157 _ _ _ _ _ (m_k48 hA), m_p48_0 hA, Option.bind_some, m_r48_1 hA, Option.bind_some, hx2, m_a49 hA (by omega), Option.bind_some, m_s49 hA (by omega), Option.bind_some]
  · refine ⟨?_, ⟨h3, ?_⟩, ?_, ⟨h6, ?_⟩, ⟨hx, h9, h10, h11⟩, fun i hi => ?_, ?_, ?_⟩
    · rw [sar_n (by omega)]; exact h1
    · rw [sar_n (by omega)]; exact h4
    · rw [sar_n (by omega), sar_n (by omega)]; exact h5
    · unfold tbR; rw [sar_n (by omega)]; exact h7
    · rw [sar_s]
      show _ = upd _ c _ i
      by_cases e : i = c
      · subst e; rw [upd_s, upd_s, h12 i hi]
      · rw [upd_n e, upd_n e]; exact h12 i hi
    · rw [sar_n (by omega)]; exact h13
    · unfold wdR; rw [sar_n (by omega)]; exact h14
theorem m_good (hA : 69 ≤ A.length) (h : MI fl ar X) {x : Int32} : xC E (d + 1) 158 [.ref 48, .int x] (mw A fl ar al) = some (some (.int x), mw A (upd fl 0 0) ar al) ∧ MI (upd fl 0 0) ar (Xgr X) := by
  obtain ⟨h1, h3, h5, h6, ⟨h8, h9, h10, h11⟩, h12, h13, h14⟩ := h
  refine ⟨?_, h1, h3, h5, h6, ⟨upd_s, h9, h10, h11⟩, h12, h13, h14⟩
  rw [k158 _ _ _ _ _ (m_k48 hA), m_p48_0 hA, Option.bind_some]
theorem m_settled (hA : 69 ≤ A.length) (h : MI fl ar X) {x : Int32} : ∃ fl', xC E (d + 2) 159 [.ref 48, .int x] (mw A fl ar al) = some (some (.int x), mw A fl' ar al) ∧ MI fl' ar (Xgr (Xcl X)) := by
  obtain ⟨h1, ⟨h3, h4⟩, h5, h6, h8, h12, h13, h14⟩ := h
  have hM : MI (upd fl 32 0) ar (Xcl X) := ⟨h1, ⟨upd_s, fun i q hq => by simp [Xcl] at hq⟩, h5, h6, h8, h12, h13, h14⟩
  obtain ⟨g1, g2⟩ := m_good (E := E) (d := d) (al := al) (x := x) hA hM
  refine ⟨_, ?_, g2⟩
  rw [k159 _ _ _ _ _ (m_k48 hA), m_p48_32 hA, Option.bind_some, g1, xI_s, Option.bind_some]
end MSTATE
/-! simple questions -/
def tlP (P : Pg) (w : Int32) : Int32 := if w < 0 ∨ nI 10 ≤ w then -1 else tel P w.toNatClampNeg
def slI (S : St) (x : Int32) : Int32 := if x < 0 ∨ nI (2 ^ S.2.2.2.1) ≤ x then -1 else nI (own S.1 x.toNatClampNeg)
noncomputable def kyN (R : Ru) (S : St) (k : Nat) (w : Int32) : Int32 := if w = 0 then nI (hsh R.2.2.2 k) else if w = 1 then oI (valO (ents (S.1 (own S.1 (hsh R.2.2.2 k % 64)))) k) else if w = 2 then nI (own S.1 (hsh R.2.2.2 k % 64)) else if w = 3 then nI (if brR R S.1 S.2.2.2.2 k = true then 1 else 0) else -1
noncomputable def kyI (R : Ru) (S : St) (x w : Int32) : Int32 := if x < 0 ∨ nI 1000 ≤ x then -1 else kyN R S x.toNatClampNeg w
section MASK
variable {E : Nat × (Nat → Int32)} {d : Nat} {A : xH} {al : Nat → Nat → Int64} {fl : Nat → Int32} {ar : Nat → Nat → Int32} {X : Xs}
theorem n_liesI {x : Int32} {n : Nat} (hn : n < 2 ^ 30) (h : x < 0 ∨ nI (n + 1) ≤ x) : x < nI 0 ∨ nI n < x := h.elim Or.inl (fun z => Or.inr (Int32.lt_of_lt_of_le (nI_lt (by omega) (by omega)) z))
theorem n_liesN {i n : Nat} (hn : n < 2 ^ 30) (h : i ≤ n) : ¬ (nI i < nI 0 ∨ nI n < nI i) := fun z => z.elim (nI_pos (by omega)) (nI_nlt (by omega) (by omega))
theorem n_out {i n : Nat} (hn : n < 2 ^ 31) (h : i < n) : ¬ (nI i < 0 ∨ nI n ≤ nI i) := fun z => z.elim (nI_pos (by omega)) (nI_ge (by omega) (by omega))
theorem m_toldOf (hA : 69 ≤ A.length) {o : Nat} {P : Pg} (ho : o + 10 ≤ 963) (hP : pgR (ar 2) o P) {w : Int32} : xC E (d + 2) 179 [.ref 48, .int (nI o), .int w] (mw A fl ar al) = some (some (.int (tlP P w)), mw A fl ar al) := by
  obtain ⟨q0, q1, q2, q3, q4⟩ := hP
  rw [k179 _ _ _ _ _ _ (m_k48 hA)]
  have hl19 : ∀ H : xH, xC E (d + 1) 154 [.int w, .int (nI 1), .int (nI 9)] H = some (some (.int (nI (if w < nI 1 ∨ nI 9 < w then 0 else 1))), H) := fun H => m_liesI
  simp (disch := first | omega | exact m_k48 hA) only [Option.bind_some, xI_s, xV_s, m_r48_1 hA, m_r48_2 hA, m_r48_5 hA, m_a50 hA, m_s50 hA, m_l50 hA, k169, zl, pk_mul, nI_add, Nat.add_zero, sar_s, sar_sar, q1, hl19]
  rcases pk_ix w (show 10 < 2 ^ 31 by omega) with hw | hw | ⟨i, hi, rfl⟩
  · have hw0 : ¬ w = nI 0 := fun z => by rw [z] at hw; exact absurd hw (by decide)
    have hb : w < nI 1 ∨ nI 9 < w := Or.inl (Int32.lt_trans hw (by decide))
    unfold tlP
    rw [if_neg hw0, if_pos (Or.inl hw), if_pos hb]
    split
    · rfl
    · rw [if_pos (show nI 0 = nI 0 by rfl)]; rfl
  · have hw0 : ¬ w = nI 0 := fun z => by rw [z] at hw; exact absurd hw (by decide)
    have hb : w < nI 1 ∨ nI 9 < w := Or.inr (Int32.lt_of_lt_of_le (by decide) hw)
    unfold tlP
    rw [if_neg hw0, if_pos (Or.inr hw), if_pos hb]
    split
    · rfl
    · rw [if_pos (show nI 0 = nI 0 by rfl)]; rfl
  · unfold tlP
    rw [if_neg (n_out (by omega) hi), nI_clamp (by omega)]
    by_cases e0 : i = 0
    · subst e0; rw [if_pos rfl]; rfl
    · rw [if_neg (fun z => e0 ((nI_eq (by omega) (by omega)).mp z))]
      unfold tel
      rw [if_neg e0]
      cases P with
      | none => rw [if_pos (show nI (pus none) = nI 0 by rfl)]; rfl
      | some q =>
        have hlen : q.2.2.length ≤ 3 := q0
        have q2' : ar 2 (o + 3) = nI q.2.2.length := q2
        obtain ⟨q5, q6⟩ := q4 (by simp)
        have q5' : ar 2 (o + 1) = nI q.1 := q5
        have q6' : ar 2 (o + 2) = nI q.2.1 := q6
        rw [if_neg (show ¬ nI (pus (some q)) = nI 0 by show ¬ nI 1 = nI 0; decide), if_neg (show ¬ (nI i < nI 1 ∨ nI 9 < nI i) from fun z => z.elim (nI_nlt (by omega) (by omega)) (nI_nlt (by omega) (by omega))), if_neg (show ¬ nI 1 = nI 0 by decide)]
        dsimp only
        by_cases e3 : i ≤ 3
        · rw [if_neg (nI_nlt (by omega) (by omega)), nI_add, m_a50 hA (by omega), Option.bind_some]
          rcases (show i = 1 ∨ i = 2 ∨ i = 3 by omega) with rfl | rfl | rfl
          · rw [q5', if_pos rfl]
          · rw [q6', if_neg (by omega), if_pos rfl]
          · rw [q2', if_neg (by omega), if_neg (by omega), if_pos rfl]
        · rw [if_pos (nI_lt (by omega) (by omega)), q2', if_neg (show ¬ i = 1 by omega), if_neg (show ¬ i = 2 by omega), if_neg (show ¬ i = 3 by omega), pk_sub (by omega), n_rem (by omega) (by omega) (by omega)]
          by_cases e4 : (i - 4) % 3 < q.2.2.length
          · rw [if_neg (nI_ge e4 (by omega)), nI_add, m_a50 hA (by omega), Option.bind_some, List.getElem?_eq_getElem e4]
            dsimp only
            obtain ⟨z1, z2⟩ := q3 ((i - 4) % 3) q.2.2[(i - 4) % 3].1 q.2.2[(i - 4) % 3].2 (List.getElem?_eq_getElem e4)
            by_cases e7 : i < 7
            · rw [if_pos e7, show o + i = o + 4 + (i - 4) % 3 by omega, z1]
            · rw [if_neg e7, show o + i = o + 7 + (i - 4) % 3 by omega, z2]
          · rw [if_pos (nI_le (by omega) (by omega)), List.getElem?_eq_none (by omega)]; rfl
theorem telI_of {B : Bk} {i : Nat} {w : Int32} (hi : i < 24) : telI B (nI i) w = tlP (B i) w := by
  unfold telI tlP
  rw [nI_clamp (by omega)]
  by_cases e : w < 0 ∨ nI 10 ≤ w
  · rw [if_pos e, if_pos (Or.inr (Or.inr e))]
  · rw [if_neg e, if_neg (fun z => z.elim (nI_pos (by omega)) (fun z => z.elim (nI_ge (by omega) (by omega)) e))]
theorem telI_no {B : Bk} {x w : Int32} (hx : x < 0 ∨ nI 24 ≤ x) : telI B x w = -1 := by
  unfold telI
  rw [if_pos (hx.elim Or.inl (fun z => Or.inr (Or.inl z)))]
theorem m_of (hA : 69 ≤ A.length) (h : MI fl ar X) {x w : Int32} : xC E (d + 3) 180 [.ref 48, .int x, .int w] (mw A fl ar al) = some (some (.int (telI X.1.1.1 x w)), mw A fl ar al) := by
  rw [k180 _ _ _ _ _ _ (m_k48 hA), m_isBucket, xI_s, Option.bind_some]
  dsimp only
  rcases pk_ix x (show 24 < 2 ^ 31 by omega) with hx | hx | ⟨i, hi, rfl⟩
  · rw [if_pos (n_liesI (n := 23) (by omega) (Or.inl hx)), if_pos (by rfl), telI_no (Or.inl hx)]
  · rw [if_pos (n_liesI (n := 23) (by omega) (Or.inr hx)), if_pos (by rfl), telI_no (Or.inr hx)]
  · have ht := m_toldOf (E := E) (d := d) (fl := fl) (ar := ar) (al := al) (w := w) hA (by omega) (h.ms.1 i hi)
    rw [if_neg (n_liesN (by omega) (by omega)), if_neg (show ¬ nI 1 = 0 by decide), telI_of hi]
    simp (disch := first | omega | exact m_k48 hA) only [Option.bind_some, xI_s, xV_s, m_r48_1 hA, m_r48_2 hA, m_r48_5 hA, m_a50 hA, m_s50 hA, m_l50 hA, k169, zl, pk_mul, nI_add, Nat.add_zero, sar_s, sar_sar, ht]
theorem m_page (hA : 69 ≤ A.length) (h : MI fl ar X) {x w : Int32} : xC E (d + 3) 181 [.ref 48, .int x, .int w] (mw A fl ar al) = some (some (.int (telI X.1.1.2.1 x w)), mw A fl ar al) := by
  rw [k181 _ _ _ _ _ _ (m_k48 hA), m_isBucket, xI_s, Option.bind_some]
  dsimp only
  rcases pk_ix x (show 24 < 2 ^ 31 by omega) with hx | hx | ⟨i, hi, rfl⟩
  · rw [if_pos (n_liesI (n := 23) (by omega) (Or.inl hx)), if_pos (by rfl), telI_no (Or.inl hx)]
  · rw [if_pos (n_liesI (n := 23) (by omega) (Or.inr hx)), if_pos (by rfl), telI_no (Or.inr hx)]
  · have ht := m_toldOf (E := E) (d := d) (fl := fl) (ar := ar) (al := al) (w := w) hA (by omega) (h.ms.2.1 i hi)
    rw [if_neg (n_liesN (by omega) (by omega)), if_neg (show ¬ nI 1 = 0 by decide), telI_of hi]
    simp (disch := first | omega | exact m_k48 hA) only [Option.bind_some, xI_s, xV_s, m_r48_1 hA, m_r48_2 hA, m_r48_5 hA, m_a50 hA, m_s50 hA, m_l50 hA, k169, zl, pk_mul, nI_add, Nat.add_zero, sar_s, sar_sar, ht]
theorem m_write (hA : 69 ≤ A.length) (h : MI fl ar X) {x w : Int32} : xC E (d + 2) 183 [.ref 48, .int x, .int w] (mw A fl ar al) = some (some (.int (telW X.1.1.2.2.1 x w)), mw A fl ar al) := by
  have hM := h.ms
  have hwl := hM.wl
  rw [k183 _ _ _ _ _ _ (m_k48 hA)]
  simp (disch := first | omega | exact m_k48 hA) only [Option.bind_some, xI_s, xV_s, m_r48_1 hA, m_r48_2 hA, m_r48_5 hA, m_a50 hA, m_s50 hA, m_l50 hA, k169, zl, pk_mul, nI_add, Nat.add_zero, sar_s, sar_sar, hM.wn]
  unfold telW
  generalize hW : X.1.1.2.2.1 = W at *
  have hl0 : ∀ y : Int32, xC E (d + 1) 154 [.int x, .int (nI 0), .int y] (mw A fl ar al) = some (some (.int (if x < nI 0 then 0 else if y < x then 0 else 1)), mw A fl ar al) := fun y => by
    rw [k154]
    by_cases e : x < nI 0
    · rw [if_pos e, if_pos e]
    · rw [if_neg e, if_neg e]
      by_cases e2 : y < x
      · rw [if_pos e2, if_pos e2]
      · rw [if_neg e2, if_neg e2]
  rw [hl0, xI_s, Option.bind_some]
  dsimp only
  rcases pk_ix x (show W.length < 2 ^ 31 by omega) with hx | hx | ⟨i, hi, rfl⟩
  · rw [if_pos (show x < nI 0 from hx), if_pos (by rfl), if_pos (Or.inl hx)]; rfl
  · rw [if_pos (show x < 0 ∨ nI W.length ≤ x from Or.inr hx)]
    have hs : nI W.length - nI 1 < x := by
      cases hn : W.length with
      | zero => rw [hn] at hx; exact Int32.lt_of_lt_of_le (by decide) hx
      | succ m => rw [hn] at hx; rw [pk_sub (by omega), Nat.add_sub_cancel]; exact Int32.lt_of_lt_of_le (nI_lt (by omega) (by omega)) hx
    rw [if_pos hs, ite_self, if_pos (by rfl)]; rfl
  · obtain ⟨q, hq⟩ : ∃ q, W[i]? = some q := ⟨_, List.getElem?_eq_getElem hi⟩
    have hwr := hM.2.2.1.2 i q (by rw [hW]; exact hq)
    obtain ⟨q1, q2, q3, q4⟩ := hwr
    rw [if_neg (show ¬ nI i < nI 0 from nI_pos (by omega)), pk_sub (by omega), if_neg (nI_nlt (by omega) (by omega)), if_neg (show ¬ (1 : Int32) = nI 0 by decide), if_neg (n_out (by omega) hi), nI_clamp (by omega), hq]
    dsimp only
    have q30 : ar 2 (480 + 12 * i + 2) = nI (pus q.2.2) := q3.2.1
    have q33 : ar 2 (480 + 12 * i + 2 + 3) = nI (ents q.2.2).length := q3.2.2.1
    simp (disch := first | omega | exact m_k48 hA) only [Option.bind_some, xI_s, xV_s, m_r48_1 hA, m_r48_2 hA, m_r48_5 hA, m_a50 hA, m_s50 hA, m_l50 hA, k169, zl, pk_mul, nI_add, Nat.add_zero, sar_s, sar_sar, k182, q1, q2, q30]
    by_cases w0 : w = nI 0
    · rw [if_pos w0, if_pos w0]
    · rw [if_neg w0, if_neg w0]
      by_cases w1 : w = nI 1
      · rw [if_pos w1, if_pos w1]
      · rw [if_neg w1, if_neg w1]
        by_cases w2 : w = nI 2
        · rw [if_pos w2, if_pos w2]
          cases hP : q.2.2 with
          | none => rw [if_neg (show ¬ nI (pus none) = nI 1 by show ¬ nI 0 = nI 1; decide), if_pos rfl]
          | some p =>
            rw [hP] at q33
            rw [if_pos (show nI (pus (some p)) = nI 1 by rfl), if_neg (by simp), q33]
        · rw [if_neg w2, if_neg w2]
theorem m_slot (hA : 69 ≤ A.length) {S : St} (h : MS (ar 2) S) (ho : okk S.1) (hd : S.2.2.2.1 ≤ 6) {x : Int32} : xC E (d + 4) 184 [.ref 48, .int x] (mw A fl ar al) = some (some (.int (slI S x)), mw A fl ar al) := by
  have hp6 := pow6 hd
  rw [k184 _ _ _ _ _ (m_k48 hA), m_r48_2 hA, Option.bind_some, show (961 : Int32) = nI 961 from rfl, m_a50 hA (by omega), Option.bind_some, h.de, n_shl _ (by omega), show (1 : Int32) = nI 1 from rfl, pk_sub (by omega), show (0 : Int32) = nI 0 from rfl, m_liesI, xI_s, Option.bind_some]
  dsimp only
  unfold slI
  rcases pk_ix x (show 2 ^ S.2.2.2.1 < 2 ^ 31 by omega) with hx | hx | ⟨i, hi, rfl⟩
  · rw [if_pos (show x < nI 0 ∨ nI (2 ^ S.2.2.2.1 - 1) < x from Or.inl hx), if_pos rfl, if_pos (Or.inl hx)]; rfl
  · rw [if_pos (n_liesI (n := 2 ^ S.2.2.2.1 - 1) (by omega) (Or.inr (by rw [show 2 ^ S.2.2.2.1 - 1 + 1 = 2 ^ S.2.2.2.1 by omega]; exact hx))), if_pos rfl, if_pos (Or.inr hx)]; rfl
  · rw [if_neg (n_liesN (by omega) (by omega)), if_neg (show ¬ nI 1 = nI 0 by decide), m_ownerOf hA h ho (by omega), xI_s, Option.bind_some, if_neg (n_out (by omega) hi), nI_clamp (by omega)]
theorem m_key (hA : 69 ≤ A.length) (h : MI fl ar X) (hX : XI X) {x w : Int32} : ∃ fl' ar', xC E (d + 48) 185 [.ref 48, .int x, .int w] (mw A fl ar al) = some (some (.int (kyI X.1.2.1 X.1.1 x w)), mw A fl' ar' al) ∧ MI fl' ar' X := by
  have hM := h.ms
  have hR := h.mr
  have hok := hX.1.1.1.1
  rw [k185 _ _ _ _ _ _ (m_k48 hA), m_isKey, xI_s, Option.bind_some]
  dsimp only
  unfold kyI
  rcases pk_ix x (show 1000 < 2 ^ 31 by omega) with hx | hx | ⟨k, hk, rfl⟩
  · rw [if_pos (n_liesI (n := 999) (by omega) (Or.inl hx)), if_pos (by rfl), if_pos (Or.inl hx)]
    exact ⟨fl, ar, rfl, h⟩
  · rw [if_pos (n_liesI (n := 999) (by omega) (Or.inr hx)), if_pos (by rfl), if_pos (Or.inr hx)]
    exact ⟨fl, ar, rfl, h⟩
  · rw [if_neg (n_liesN (by omega) (by omega)), if_neg (show ¬ nI 1 = 0 by decide), if_neg (n_out (by omega) hk), nI_clamp (by omega)]
    unfold kyN
    by_cases w0 : w = 0
    · rw [if_pos w0, if_pos w0]
      exact ⟨fl, ar, by rw [m_hashOf hA hk hR.2.2.2.1 hR.2.2.1, xI_s, Option.bind_some], h⟩
    · rw [if_neg w0, if_neg w0]
      by_cases w1 : w = 1
      · rw [if_pos w1, if_pos w1]
        exact ⟨fl, ar, by rw [m_valueOrNone hA hM hok hk hR.2.2.2.1 hR.2.2.1, xI_s, Option.bind_some], h⟩
      · rw [if_neg w1, if_neg w1]
        by_cases w2 : w = 2
        · rw [if_pos w2, if_pos w2]
          exact ⟨fl, ar, by rw [m_soughtIn hA hM hok hk hR.2.2.2.1 hR.2.2.1, xI_s, Option.bind_some], h⟩
        · rw [if_neg w2, if_neg w2]
          by_cases w3 : w = 3
          · rw [if_pos w3, if_pos w3]
            obtain ⟨fl1, ga, b1, b2⟩ := m_isBarred (E := E) (d := d) (fl := fl) (al := al) hA hM hR hok hX.1.1.1.2.2.2.2.1 hk
            refine ⟨fl1, sar ar 26 ga, ?_, h.st (S := X.1.1) (by rw [sar_n (by omega)]; exact hM) b2 (fun i _ => by rw [sar_n (by omega)]) (fun j _ _ q _ _ _ => sar_n q)⟩
            rw [b1, xI_s, Option.bind_some]
            dsimp only
            by_cases br : brR X.1.2.1 X.1.1.1 X.1.1.2.2.2.2 k = true
            · rw [if_pos br, if_neg (show ¬ nI 1 = 0 by decide)]; rfl
            · rw [if_neg br, if_pos (show nI 0 = 0 by rfl)]; rfl
          · rw [if_neg w3, if_neg w3]
            exact ⟨fl, ar, rfl, h⟩
end MASK
