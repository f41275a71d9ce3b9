/-! ===== a page as mathematics: none, or (depth, prefix, keys with their values) ===== -/
abbrev Pg : Type := Option (Nat × Nat × List (Nat × Nat))
def ents (P : Pg) : List (Nat × Nat) := match P with
  | none => []
  | some q => q.2.2
def pdp (P : Pg) : Nat := match P with
  | none => 0
  | some q => q.1
def ppx (P : Pg) : Nat := match P with
  | none => 0
  | some q => q.2.1
def pus (P : Pg) : Nat := match P with
  | none => 0
  | some _ => 1
/-- ten cells from o on are the page P -/
def pgR (f : Nat → Int32) (o : Nat) (P : Pg) : Prop := (ents P).length ≤ 3 ∧ f o = nI (pus P) ∧ f (o + 3) = nI (ents P).length ∧ (∀ i k v, (ents P)[i]? = some (k, v) → f (o + 4 + i) = nI k ∧ f (o + 7 + i) = nI v) ∧ (P ≠ none → f (o + 1) = nI (pdp P) ∧ f (o + 2) = nI (ppx P))
abbrev Bk : Type := Nat → Pg
def pgs (f : Nat → Int32) (o : Nat) (B : Bk) : Prop := ∀ b, b < 24 → pgR f (b * 10 + o) (B b)
def ub (B : Bk) (b : Nat) (P : Pg) : Bk := fun q => if q = b then P else B q
theorem ub_self (B : Bk) (b : Nat) (P : Pg) : ub B b P b = P := if_pos rfl
theorem ub_ne {B : Bk} {b q : Nat} {P : Pg} (h : q ≠ b) : ub B b P q = B q := if_neg h
theorem pgR_cong {f g : Nat → Int32} {o : Nat} {P : Pg} (h : pgR f o P) (hg : ∀ j, o ≤ j → j < o + 10 → g j = f j) : pgR g o P := by
  obtain ⟨h0, h1, h2, h3, h4⟩ := h
  refine ⟨h0, ?_, ?_, fun i k v hi => ?_, fun hq => ?_⟩
  · rw [hg _ (by omega) (by omega)]; exact h1
  · rw [hg _ (by omega) (by omega)]; exact h2
  · have : i < (ents P).length := (List.getElem?_eq_some_iff.mp hi).1
    rw [hg _ (by omega) (by omega), hg _ (by omega) (by omega)]; exact h3 i k v hi
  · rw [hg _ (by omega) (by omega), hg _ (by omega) (by omega)]; exact h4 hq
theorem pgs_upd {f g : Nat → Int32} {o b : Nat} {B : Bk} {P : Pg} (h : pgs f o B) (hg : ∀ j, (j < b * 10 + o ∨ b * 10 + o + 10 ≤ j) → g j = f j) (hP : pgR g (b * 10 + o) P) : pgs g o (ub B b P) := by
  intro q hq
  by_cases e : q = b
  · subst e; rw [ub_self]; exact hP
  · rw [ub_ne e]
    exact pgR_cong (h q hq) (fun j h1 h2 => hg j (by omega))
theorem pgs_cong {f g : Nat → Int32} {o : Nat} {B : Bk} (h : pgs f o B) (hg : ∀ j, o ≤ j → j < o + 240 → g j = f j) : pgs g o B := fun b hb => pgR_cong (h b hb) (fun j h1 h2 => hg j (by omega) (by omega))
def pgW (P : Pg) : Prop := (ents P).length ≤ 3 ∧ (∀ e ∈ ents P, e.1 < 1000 ∧ e.2 ≤ 99) ∧ pdp P ≤ 6 ∧ ppx P < 2 ^ pdp P
/-- where a key lies among entries -/
def kIdx : List (Nat × Nat) → Nat → Option Nat
  | [], _ => none
  | e :: l, k => if e.1 = k then some 0 else (kIdx l k).map (· + 1)
def oI (o : Option Nat) : Int32 := match o with
  | none => -1
  | some n => nI n
/-! ===== the class's Pages: at p, its cells at p + 1 ===== -/
def PG (A : xH) (p : Nat) (f : Nat → Int32) : Prop := A[p]? = some (.inr (2, [.ref (p + 1)])) ∧ A[p + 1]? = some (ia 240 f)
theorem xI_s (x : Int32) (A : xH) : xI (some (some (.int x), A)) = some (x, A) := rfl
theorem xV_s (A : xH) : xV (some (none, A)) = some A := rfl
theorem xN_s (r : Nat) (A : xH) : xNn (some (some (.ref r), A)) = some (r, A) := rfl
theorem xO_s (r : Nat) (A : xH) : xOp (some (some (.ref r), A)) = some (some r, A) := rfl
theorem xO_n (A : xH) : xOp (some (some .null, A)) = some (none, A) := rfl
theorem xL_s (x : Int64) (A : xH) : xLo (some (some (.long x), A)) = some (x, A) := rfl
theorem set_self {A : xH} {a : Nat} {w : xA} (h : A[a]? = some w) : A.set a w = A := by
  apply xh_ext
  intro q
  rw [List.getElem?_set]
  by_cases e : a = q
  · subst e; rw [if_pos rfl, if_pos (List.getElem?_eq_some_iff.mp h).1, h]
  · rw [if_neg e]
/-- cells lo to hi of an array become x -/
def fil (f : Nat → Int32) (lo hi : Nat) (x : Int32) : Nat → Int32 := fun j => if lo ≤ j ∧ j < hi then x else f j
theorem fil_nil (f : Nat → Int32) (hi : Nat) (x : Int32) : fil f hi hi x = f := by
  funext j; unfold fil; rw [if_neg (by omega)]
theorem fil_step {f : Nat → Int32} {lo hi : Nat} (h : lo < hi) (x : Int32) : fil (upd f lo x) (lo + 1) hi x = fil f lo hi x := by
  funext j
  unfold fil upd
  by_cases e : j = lo
  · subst e; rw [if_neg (by omega), if_pos rfl, if_pos (by omega)]
  · by_cases e2 : lo ≤ j ∧ j < hi
    · rw [if_pos (by omega), if_pos e2]
    · rw [if_neg (by omega), if_neg e, if_neg e2]
section FILL
variable {E : Nat × (Nat → Int32)} {d a n : Nat} {x : Int32}
theorem fill1_loop (hn : n < 2 ^ 31) : ∀ (c lo : Nat) (A : xH) (f : Nat → Int32), A[a]? = some (ia n f) → lo + c = n → xD E (d + 1) 297 5 [.ref a, .int x, .int (nI lo), .int (nI n)] [] A = some (none, A.set a (ia n (fil f lo n x)))
  | 0, lo, A, f, hA, hc => by
    rw [e297_5, if_pos (by rw [nI_leI (by omega) (by omega)]; omega), show lo = n by omega, fil_nil, set_self hA]
  | c + 1, lo, A, f, hA, hc => by
    have hl : a < A.length := (List.getElem?_eq_some_iff.mp hA).1
    rw [e297_5, if_neg (by rw [nI_leI (by omega) (by omega)]; omega), h_sI0 hA (by omega) hn, Option.bind_some, nI_1,
      fill1_loop hn c (lo + 1) (A.set a (ia n (upd f lo x))) (upd f lo x) (List.getElem?_set_self hl) (by omega), List.set_set, fil_step (by omega)]
theorem fill1_ok {A : xH} {f : Nat → Int32} (hA : A[a]? = some (ia n f)) (hn : n < 2 ^ 31) : xC E (d + 1) 297 [.ref a, .int x] A = some (none, A.set a (ia n (fil f 0 n x))) := by
  rw [k297, h_lA hA, Option.bind_some, zl, fill1_loop hn n 0 A f hA (by omega)]
end FILL
section PAGES
variable {E : Nat × (Nat → Int32)} {d p b i : Nat} {A : xH} {f : Nat → Int32} {P : Pg}
theorem PG.cls (h : PG A p f) : xcls A p = some 2 := h_cls h.1
theorem PG.gN (h : PG A p f) : gN A p 2 0 = some (p + 1) := h_gN h.1 rfl
theorem PG.aI (h : PG A p f) (hi : i < 240) : aI 0 A (p + 1) (nI i) = some (f i) := h_aI h.2 hi (by omega)
theorem PG.sI (h : PG A p f) (hi : i < 240) (x : Int32) : sI 0 A (p + 1) (nI i) x = some (A.set (p + 1) (ia 240 (upd f i x))) := h_sI0 h.2 hi (by omega)
theorem PG.set (h : PG A p f) (g : Nat → Int32) : PG (A.set (p + 1) (ia 240 g)) p g := by
  have hl : p + 1 < A.length := (List.getElem?_eq_some_iff.mp h.2).1
  refine ⟨?_, ?_⟩
  · rw [List.getElem?_set_ne (by omega)]; exact h.1
  · rw [List.getElem?_set_self hl]
theorem n10 {b w : Nat} : nI b * (10 : Int32) + nI w = nI (b * 10 + w) := by rw [zl, pk_mul, nI_add]
theorem pg_cell (h : PG A p f) {w : Nat} (hw : b * 10 + w < 240) : xC E (d + 1) 17 [.ref p, .int (nI b), .int (nI w)] A = some (some (.int (f (b * 10 + w))), A) := by
  rw [k17 _ _ _ _ _ _ h.cls, n10, if_neg (nI_pos (by omega)), h.gN]
  simp only [Option.bind_some, h_lA h.2]
  rw [if_neg (nI_ge hw (by omega)), h.aI hw, Option.bind_some]
theorem pg_setCell (h : PG A p f) {w : Nat} (hw : b * 10 + w < 240) (x : Int32) : xC E (d + 1) 295 [.ref p, .int (nI b), .int (nI w), .int x] A = some (none, A.set (p + 1) (ia 240 (upd f (b * 10 + w) x))) := by
  rw [k295 _ _ _ _ _ _ _ h.cls, n10, if_neg (nI_pos (by omega)), h.gN]
  simp only [Option.bind_some, h_lA h.2]
  rw [if_neg (nI_ge hw (by omega)), h.sI hw, Option.bind_some]
theorem pg_setKey (h : PG A p f) (hb : b < 24) (hi : i < 3) (x y : Int32) : xC E (d + 2) 298 [.ref p, .int (nI b), .int (nI i), .int x, .int y] A = some (none, A.set (p + 1) (ia 240 (upd (upd f (b * 10 + 4 + i) x) (b * 10 + 7 + i) y))) := by
  rw [k298 _ _ _ _ _ _ _ _ h.cls, show (4 : Int32) + nI i = nI (4 + i) from by rw [zl, nI_add], show (7 : Int32) + nI i = nI (7 + i) from by rw [zl, nI_add], pg_setCell h (by omega), xV_s, Option.bind_some, pg_setCell (h.set _) (by omega), xV_s, Option.bind_some, List.set_set, show b * 10 + (4 + i) = b * 10 + 4 + i by omega, show b * 10 + (7 + i) = b * 10 + 7 + i by omega]
theorem pg_isUsed (h : PG A p f) (hb : b < 24) : xC E (d + 2) 11 [.ref p, .int (nI b)] A = some (some (.int (if f (b * 10) = nI 0 then nI 0 else nI 1)), A) := by
  rw [k11 _ _ _ _ _ h.cls]
  simp only [zl]
  rw [pg_cell h (by omega), xI_s]
  simp only [Option.bind_some, Nat.add_zero]
  by_cases q : f (b * 10) = nI 0
  · rw [if_pos q, if_pos q]
  · rw [if_neg q, if_neg q]
theorem pg_depth (h : PG A p f) (hb : b < 24) : xC E (d + 2) 12 [.ref p, .int (nI b)] A = some (some (.int (f (b * 10 + 1))), A) := by
  rw [k12 _ _ _ _ _ h.cls]
  simp only [zl]
  rw [pg_cell h (by omega), xI_s, Option.bind_some]
theorem pg_prefix (h : PG A p f) (hb : b < 24) : xC E (d + 2) 13 [.ref p, .int (nI b)] A = some (some (.int (f (b * 10 + 2))), A) := by
  rw [k13 _ _ _ _ _ h.cls]
  simp only [zl]
  rw [pg_cell h (by omega), xI_s, Option.bind_some]
theorem pg_many (h : PG A p f) (hb : b < 24) : xC E (d + 2) 14 [.ref p, .int (nI b)] A = some (some (.int (f (b * 10 + 3))), A) := by
  rw [k14 _ _ _ _ _ h.cls]
  simp only [zl]
  rw [pg_cell h (by omega), xI_s, Option.bind_some]
theorem pg_keyAt (h : PG A p f) (hb : b < 24) (hi : i < 3) : xC E (d + 2) 15 [.ref p, .int (nI b), .int (nI i)] A = some (some (.int (f (b * 10 + 4 + i))), A) := by
  rw [k15 _ _ _ _ _ _ h.cls]
  simp only [zl, nI_add]
  rw [pg_cell h (by omega), xI_s, Option.bind_some, show b * 10 + (4 + i) = b * 10 + 4 + i by omega]
theorem pg_valueAt (h : PG A p f) (hb : b < 24) (hi : i < 3) : xC E (d + 2) 16 [.ref p, .int (nI b), .int (nI i)] A = some (some (.int (f (b * 10 + 7 + i))), A) := by
  rw [k16 _ _ _ _ _ _ h.cls]
  simp only [zl, nI_add]
  rw [pg_cell h (by omega), xI_s, Option.bind_some, show b * 10 + (7 + i) = b * 10 + 7 + i by omega]
/-! what Pages' methods do to a page -/
variable {B : Bk}
theorem pus_01 (P : Pg) : pus P = 0 ∨ pus P = 1 := by cases P <;> simp [pus]
theorem pgs.us (h : pgs f 0 B) (hb : b < 24) : f (b * 10) = nI (pus (B b)) := (h b hb).2.1
theorem pgs.mn (h : pgs f 0 B) (hb : b < 24) : f (b * 10 + 3) = nI (ents (B b)).length := (h b hb).2.2.1
theorem pgs.len (h : pgs f 0 B) (hb : b < 24) : (ents (B b)).length ≤ 3 := (h b hb).1
theorem pgs.dp (h : pgs f 0 B) (hb : b < 24) (hu : B b ≠ none) : f (b * 10 + 1) = nI (pdp (B b)) := ((h b hb).2.2.2.2 hu).1
theorem pgs.px (h : pgs f 0 B) (hb : b < 24) (hu : B b ≠ none) : f (b * 10 + 2) = nI (ppx (B b)) := ((h b hb).2.2.2.2 hu).2
theorem pgs.ky (h : pgs f 0 B) (hb : b < 24) {k v : Nat} (hi : (ents (B b))[i]? = some (k, v)) : f (b * 10 + 4 + i) = nI k := ((h b hb).2.2.2.1 i k v hi).1
theorem pgs.vl (h : pgs f 0 B) (hb : b < 24) {k v : Nat} (hi : (ents (B b))[i]? = some (k, v)) : f (b * 10 + 7 + i) = nI v := ((h b hb).2.2.2.1 i k v hi).2
theorem c_used (h : PG A p f) (hB : pgs f 0 B) (hb : b < 24) : xC E (d + 2) 11 [.ref p, .int (nI b)] A = some (some (.int (nI (pus (B b)))), A) := by
  rw [pg_isUsed h hb, hB.us hb]
  rcases pus_01 (B b) with e | e <;> rw [e]
  · rw [if_pos rfl]
  · rw [if_neg (by decide)]
theorem c_many (h : PG A p f) (hB : pgs f 0 B) (hb : b < 24) : xC E (d + 2) 14 [.ref p, .int (nI b)] A = some (some (.int (nI (ents (B b)).length)), A) := by
  rw [pg_many h hb, hB.mn hb]
theorem c_find_loop (h : PG A p f) (hB : pgs f 0 B) (hb : b < 24) {k : Nat} (hk : k < 2 ^ 31) (hks : ∀ e ∈ ents (B b), e.1 < 2 ^ 31) : ∀ (t pre : List (Nat × Nat)), ents (B b) = pre ++ t → xD E (d + 3) 20 2 [.ref p, .int (nI b), .int (nI k), .int (nI pre.length)] [] A = some (some (.int (oI ((kIdx t k).map (· + pre.length)))), A)
  | [], pre, he => by
    rw [e20_2, c_many h hB hb, xI_s, Option.bind_some]
    have hl := hB.len hb
    rw [he, List.append_nil] at hl ⊢
    rw [if_pos (nI_le (Nat.le_refl _) (by omega))]
    rfl
  | e :: t, pre, he => by
    have hl := hB.len hb
    have hl2 : (ents (B b)).length = pre.length + (t.length + 1) := by rw [he, List.length_append, List.length_cons]
    have hi : (ents (B b))[pre.length]? = some e := by rw [he, List.getElem?_append_right (Nat.le_refl _), Nat.sub_self]; rfl
    have hek : e.1 < 2 ^ 31 := hks e (by rw [he]; simp)
    rw [e20_2, c_many h hB hb, xI_s, Option.bind_some, if_neg (nI_ge (by omega) (by omega)), pg_keyAt h hb (by omega), xI_s, Option.bind_some, hB.ky hb (show _ = some (e.1, e.2) from hi)]
    dsimp only
    unfold kIdx
    by_cases q : e.1 = k
    · rw [if_pos (by rw [q]), if_pos q]
      simp [oI]
    · rw [if_neg (fun w => q ((nI_eq hek hk).mp w)), if_neg q, nI_1, ← (show (pre ++ [e]).length = pre.length + 1 by simp), c_find_loop h hB hb hk hks t (pre ++ [e]) (by rw [he, List.append_assoc]; rfl)]
      cases kIdx t k <;> simp [oI, Nat.add_comm, Nat.add_left_comm]
theorem c_find (h : PG A p f) (hB : pgs f 0 B) (hb : b < 24) {k : Nat} (hk : k < 2 ^ 31) (hks : ∀ e ∈ ents (B b), e.1 < 2 ^ 31) : xC E (d + 3) 20 [.ref p, .int (nI b), .int (nI k)] A = some (some (.int (oI (kIdx (ents (B b)) k))), A) := by
  rw [k20 _ _ _ _ _ _ h.cls]
  have := c_find_loop (E := E) (d := d) h hB hb hk hks (ents (B b)) [] rfl
  rw [zl]
  rw [show nI 0 = nI ([] : List (Nat × Nat)).length from rfl, this]
  cases kIdx (ents (B b)) k <;> simp
theorem xtr {A : xH} {a : Nat} {u w : xA} : (A.set a u).set a w = A.set a w := List.set_set ..
theorem upd_s {f : Nat → Int32} {k : Nat} {x : Int32} : upd f k x k = x := if_pos rfl
theorem upd_n {f : Nat → Int32} {k j : Nat} {x : Int32} (h : j ≠ k) : upd f k x j = f j := if_neg h
/-- a value is set -/
theorem c_setValue (h : PG A p f) (hB : pgs f 0 B) (hb : b < 24) {k v w : Nat} (hi : (ents (B b))[i]? = some (k, v)) : ∃ g, xC E (d + 2) 298 [.ref p, .int (nI b), .int (nI i), .int (nI k), .int (nI w)] A = some (none, A.set (p + 1) (ia 240 g)) ∧ pgs g 0 (ub B b ((B b).map fun q => (q.1, q.2.1, q.2.2.set i (k, w)))) := by
  have hl := hB.len hb
  have hil : i < (ents (B b)).length := (List.getElem?_eq_some_iff.mp hi).1
  refine ⟨upd (upd f (b * 10 + 4 + i) (nI k)) (b * 10 + 7 + i) (nI w), pg_setKey h hb (by omega) _ _, ?_⟩
  · refine pgs_upd hB (fun j hj => by rw [upd_n (by omega), upd_n (by omega)]) ?_
    obtain ⟨q0, q1, q2, q3, q4⟩ := hB b hb
    cases hP : B b with
    | none => rw [hP] at hi; simp [ents] at hi
    | some q =>
      rw [hP] at q0 q1 q2 q3 q4 hi hil
      simp only [ents] at q0 q1 q2 q3 q4 hi hil
      refine ⟨by simp [ents]; exact q0, ?_, ?_, fun j k' v' hj => ?_, fun _ => ⟨?_, ?_⟩⟩
      · rw [upd_n (by omega), upd_n (by omega), q1]; rfl
      · rw [upd_n (by omega), upd_n (by omega), q2]; simp [ents]
      · simp only [ents, Option.map_some, List.getElem?_set] at hj
        split at hj
        · rename_i e
          subst e
          cases hj
          exact ⟨by rw [upd_n (by omega)]; exact upd_s, upd_s⟩
        · rename_i e
          have hj3 : j < q.2.2.length := (List.getElem?_eq_some_iff.mp hj).1
          exact ⟨by rw [upd_n (by omega), upd_n (by omega)]; exact (q3 j k' v' hj).1, by rw [upd_n (by omega), upd_n (by omega)]; exact (q3 j k' v' hj).2⟩
      · rw [upd_n (by omega), upd_n (by omega)]; exact (q4 (by simp)).1
      · rw [upd_n (by omega), upd_n (by omega)]; exact (q4 (by simp)).2
/-- a bucket gets its place -/
theorem c_setPlace (h : PG A p f) (hB : pgs f 0 B) (hb : b < 24) {dd px : Nat} : ∃ g, xC E (d + 2) 18 [.ref p, .int (nI b), .int (nI dd), .int (nI px)] A = some (none, A.set (p + 1) (ia 240 g)) ∧ pgs g 0 (ub B b (some (dd, px, ents (B b)))) := by
  have hl := hB.len hb
  refine ⟨upd (upd (upd f (b * 10) (nI 1)) (b * 10 + 1) (nI dd)) (b * 10 + 2) (nI px), ?_, ?_⟩
  · rw [k18 _ _ _ _ _ _ _ h.cls]
    simp only [zl]
    rw [pg_setCell h (by omega), xV_s, Option.bind_some, pg_setCell (h.set _) (by omega), xV_s, Option.bind_some, xtr, pg_setCell (h.set _) (by omega), xV_s, Option.bind_some, xtr]
    rfl
  · refine pgs_upd hB (fun j hj => by rw [upd_n (by omega), upd_n (by omega), upd_n (by omega)]) ?_
    obtain ⟨q0, q1, q2, q3, q4⟩ := hB b hb
    refine ⟨q0, ?_, ?_, fun j k' v' hj => ?_, fun _ => ⟨?_, ?_⟩⟩
    · rw [upd_n (by omega), upd_n (by omega)]; exact upd_s
    · rw [upd_n (by omega), upd_n (by omega), upd_n (by omega), q2]; rfl
    · have hj3 : j < (ents (B b)).length := (List.getElem?_eq_some_iff.mp hj).1
      rw [upd_n (by omega), upd_n (by omega), upd_n (by omega), upd_n (by omega), upd_n (by omega), upd_n (by omega)]
      exact q3 j k' v' hj
    · rw [upd_n (by omega)]; exact upd_s
    · exact upd_s
theorem clear_loop (hb : b < 24) : ∀ (c lo : Nat) (A : xH) (f : Nat → Int32), PG A p f → lo + c = 10 → xD E (d + 2) 19 2 [.ref p, .int (nI b), .int (nI lo)] [] A = some (none, A.set (p + 1) (ia 240 (fil f (b * 10 + lo) (b * 10 + 10) (nI 0))))
  | 0, lo, A, f, h, hc => by
    rw [e19_2, if_pos (by rw [zl]; exact nI_le (by omega) (by omega)), show lo = 10 by omega, fil_nil, set_self h.2]
  | c + 1, lo, A, f, h, hc => by
    rw [e19_2, if_neg (by rw [zl]; exact nI_ge (by omega) (by omega))]
    simp only [zl, nI_add]
    rw [pg_setCell h (by omega), xV_s, Option.bind_some, clear_loop hb c (lo + 1) _ _ (h.set _) (by omega), xtr, show b * 10 + (lo + 1) = b * 10 + lo + 1 by omega, fil_step (by omega)]
theorem c_clear (h : PG A p f) (hB : pgs f 0 B) (hb : b < 24) : ∃ g, xC E (d + 3) 19 [.ref p, .int (nI b)] A = some (none, A.set (p + 1) (ia 240 g)) ∧ pgs g 0 (ub B b none) := by
  refine ⟨fil f (b * 10) (b * 10 + 10) (nI 0), ?_, ?_⟩
  · rw [k19 _ _ _ _ _ h.cls]
    simp only [zl]
    rw [clear_loop hb 10 0 A f h rfl]
    rfl
  · refine pgs_upd hB (fun j hj => if_neg (by omega)) ?_
    refine ⟨by simp [ents], if_pos (by omega), if_pos (by omega), fun i k v hi => by simp [ents] at hi, fun q => absurd rfl q⟩
/-- a key with its value is appended -/
theorem c_append (h : PG A p f) (hB : pgs f 0 B) (hb : b < 24) {dd px k v : Nat} {l : List (Nat × Nat)} (hP : B b = some (dd, px, l)) (hl : l.length < 3) : ∃ g, xC E (d + 3) 21 [.ref p, .int (nI b), .int (nI k), .int (nI v)] A = some (none, A.set (p + 1) (ia 240 g)) ∧ pgs g 0 (ub B b (some (dd, px, l ++ [(k, v)]))) := by
  have hents : ents (B b) = l := by rw [hP]; rfl
  refine ⟨upd (upd (upd f (b * 10 + 4 + l.length) (nI k)) (b * 10 + 7 + l.length) (nI v)) (b * 10 + 3) (nI (l.length + 1)), ?_, ?_⟩
  · rw [k21 _ _ _ _ _ _ _ h.cls, c_many h hB hb, xI_s, hents]
    simp only [Option.bind_some, zl, nI_add]
    rw [if_neg (nI_ge (by omega) (by omega)), pg_setKey h hb (by omega), xV_s, Option.bind_some, pg_setCell (h.set _) (by omega), xV_s, Option.bind_some, xtr]
  · refine pgs_upd hB (fun j hj => by rw [upd_n (by omega), upd_n (by omega), upd_n (by omega)]) ?_
    obtain ⟨q0, q1, q2, q3, q4⟩ := hB b hb
    rw [hents] at q0 q2 q3
    rw [hP] at q1 q4
    have hll : (l ++ [(k, v)]).length = l.length + 1 := by simp
    refine ⟨by simp only [ents, hll]; omega, ?_, ?_, fun j k' v' hj => ?_, fun _ => ⟨?_, ?_⟩⟩
    · rw [upd_n (by omega), upd_n (by omega), upd_n (by omega), q1]; rfl
    · simp only [ents, hll]; exact upd_s
    · simp only [ents] at hj
      have hj3 : j < l.length + 1 := by rw [← hll]; exact (List.getElem?_eq_some_iff.mp hj).1
      by_cases e : j = l.length
      · subst e
        rw [List.getElem?_append_right (Nat.le_refl _), Nat.sub_self] at hj
        cases hj
        refine ⟨?_, ?_⟩
        · rw [upd_n (by omega), upd_n (by omega)]; exact upd_s
        · rw [upd_n (by omega)]; exact upd_s
      · rw [List.getElem?_append_left (by omega)] at hj
        rw [upd_n (by omega), upd_n (by omega), upd_n (by omega), upd_n (by omega), upd_n (by omega), upd_n (by omega)]
        exact q3 j k' v' hj
    · rw [upd_n (by omega), upd_n (by omega), upd_n (by omega)]; exact (q4 (by simp)).1
    · rw [upd_n (by omega), upd_n (by omega), upd_n (by omega)]; exact (q4 (by simp)).2
def entR (f : Nat → Int32) (o : Nat) (t : Nat) (e : Nat × Nat) : Prop := f (o + 4 + t) = nI e.1 ∧ f (o + 7 + t) = nI e.2
theorem c_rem_loop {o last : Nat} {l : List (Nat × Nat)} {f0 : Nat → Int32} (hb : b < 24) (ho : o = b * 10) (hl : l.length = last + 1) (h3 : last < 3) : ∀ (c j : Nat) (A : xH) (f : Nat → Int32) (w : Value), j + c = last → i ≤ j → PG A p f → (∀ t e, t < j → (l.eraseIdx i)[t]? = some e → entR f o t e) → (∀ t e, j ≤ t → l[t]? = some e → entR f o t e) → (∀ q, (q < o + 4 ∨ o + 10 ≤ q) → f q = f0 q) →
    ∃ g, xD E (d + 3) 22 11 [.ref p, .int (nI b), w, .int (nI last), .int (nI j)] [] A = some (none, A.set (p + 1) (ia 240 g)) ∧ (∀ t e, t < last → (l.eraseIdx i)[t]? = some e → entR g o t e) ∧ g (o + 3) = nI last ∧ (∀ q, (q < o + 3 ∨ o + 10 ≤ q) → g q = f0 q)
  | 0, j, A, f, w, hc, hij, h, h1, h2, hf => by
    refine ⟨upd f (o + 3) (nI last), ?_, fun t e ht he => ?_, upd_s, fun q hq => ?_⟩
    · rw [e22_11, if_pos (nI_le (by omega) (by omega))]
      simp only [zl]
      rw [pg_setCell h (by omega), xV_s, Option.bind_some, ho]
    · have := h1 t e (by omega) he
      exact ⟨by rw [upd_n (by omega)]; exact this.1, by rw [upd_n (by omega)]; exact this.2⟩
    · rw [upd_n (by omega)]; exact hf q (by omega)
  | c + 1, j, A, f, w, hc, hij, h, h1, h2, hf => by
    have hj1 : j + 1 < l.length := by omega
    have he1 := h2 (j + 1) l[j + 1] (by omega) (List.getElem?_eq_getElem hj1)
    have hsh : (l.eraseIdx i)[j]? = some l[j + 1] := by
      rw [List.getElem?_eraseIdx, if_neg (by omega), List.getElem?_eq_getElem hj1]
    generalize l[j + 1] = ee at he1 hsh
    have hk : f (b * 10 + 4 + (j + 1)) = nI ee.1 := by rw [← ho]; exact he1.1
    have hv : f (b * 10 + 7 + (j + 1)) = nI ee.2 := by rw [← ho]; exact he1.2
    obtain ⟨g, hg, k1, k2, k3⟩ := c_rem_loop (f0 := f0) hb ho hl h3 c (j + 1) (A.set (p + 1) (ia 240 (upd (upd f (b * 10 + 4 + j) (nI ee.1)) (b * 10 + 7 + j) (nI ee.2)))) _ xJ (by omega) (by omega) (h.set _)
      (fun t e ht he => by
        by_cases q : t = j
        · subst q
          rw [hsh] at he
          cases he
          subst ho
          exact ⟨by rw [upd_n (by omega)]; exact upd_s, upd_s⟩
        · have := h1 t e (by omega) he
          exact ⟨by rw [upd_n (by omega), upd_n (by omega)]; exact this.1, by rw [upd_n (by omega), upd_n (by omega)]; exact this.2⟩)
      (fun t e ht he => by
        have htl : t < l.length := (List.getElem?_eq_some_iff.mp he).1
        have := h2 t e (by omega) he
        exact ⟨by rw [upd_n (by omega), upd_n (by omega)]; exact this.1, by rw [upd_n (by omega), upd_n (by omega)]; exact this.2⟩)
      (fun q hq => by rw [upd_n (by omega), upd_n (by omega)]; exact hf q hq)
    refine ⟨g, ?_, k1, k2, k3⟩
    rw [e22_11, if_neg (nI_ge (by omega) (by omega))]
    simp only [zl, nI_add]
    rw [pg_keyAt h hb (by omega), xI_s]
    simp only [Option.bind_some]
    rw [pg_valueAt h hb (by omega), xI_s]
    simp only [Option.bind_some]
    rw [hk, hv, pg_setKey h hb (by omega), xV_s, Option.bind_some, hg, xtr]
theorem c_removeAt (h : PG A p f) (hB : pgs f 0 B) (hb : b < 24) {dd px : Nat} {l : List (Nat × Nat)} (hP : B b = some (dd, px, l)) (hi : i < l.length) : ∃ g, xC E (d + 3) 22 [.ref p, .int (nI b), .int (nI i)] A = some (none, A.set (p + 1) (ia 240 g)) ∧ pgs g 0 (ub B b (some (dd, px, l.eraseIdx i))) := by
  have hents : ents (B b) = l := by rw [hP]; rfl
  have h0 := hB b hb
  obtain ⟨q0, q1, q2, q3, q4⟩ := h0
  rw [hents] at q0 q2 q3
  obtain ⟨g, hg, k1, k2, k3⟩ := c_rem_loop (E := E) (d := d) (p := p) (b := b) (i := i) (o := b * 10) (last := l.length - 1) (l := l) (f0 := f) hb rfl (by omega) (by omega) (l.length - 1 - i) i A f (.int (nI i)) (by omega) (by omega) h
    (fun t e ht he => by
      rw [List.getElem?_eraseIdx, if_pos ht] at he
      exact q3 t e.1 e.2 he)
    (fun t e ht he => q3 t e.1 e.2 he) (fun _ _ => rfl)
  have hel : (l.eraseIdx i).length = l.length - 1 := by rw [List.length_eraseIdx, if_pos hi]
  refine ⟨g, ?_, ?_⟩
  · rw [k22 _ _ _ _ _ _ h.cls, c_many h hB hb, xI_s, Option.bind_some, hents, zl, pk_sub (by omega), hg]
  · refine pgs_upd hB (fun j hj => k3 j (by omega)) ?_
    rw [hP] at q1 q4
    refine ⟨by simp only [ents, hel]; omega, ?_, ?_, fun j k' v' hj => ?_, fun _ => ⟨?_, ?_⟩⟩
    · rw [k3 _ (by omega), q1]; rfl
    · simp only [ents, hel]; exact k2
    · simp only [ents] at hj
      exact k1 j (k', v') (by rw [← hel]; exact (List.getElem?_eq_some_iff.mp hj).1) hj
    · rw [k3 _ (by omega)]; exact (q4 (by simp)).1
    · rw [k3 _ (by omega)]; exact (q4 (by simp)).2
/-! sums, greatest, first -/
def cnt (h : Nat → Nat) : Nat → Nat
  | 0 => 0
  | n + 1 => cnt h n + h n
def gst (h : Nat → Nat) : Nat → Nat
  | 0 => 0
  | n + 1 => max (gst h n) (h n)
def fst1 (P : Nat → Bool) : Nat → Nat → Option Nat
  | 0, _ => none
  | n + 1, i => if P i then some i else fst1 P n (i + 1)
theorem cnt_le {h : Nat → Nat} {m : Nat} (hm : ∀ i, h i ≤ m) : ∀ n, cnt h n ≤ n * m
  | 0 => by simp [cnt]
  | n + 1 => by have := cnt_le hm n; have := hm n; simp only [cnt, Nat.add_mul]; omega
theorem gst_le {h : Nat → Nat} {m : Nat} (hm : ∀ i, h i ≤ m) : ∀ n, gst h n ≤ m
  | 0 => by simp [gst]
  | n + 1 => by have := gst_le hm n; have := hm n; simp only [gst]; omega
def usedN (B : Bk) : Nat := cnt (fun b => pus (B b)) 24
def keysN (B : Bk) : Nat := cnt (fun b => (ents (B b)).length) 24
def deepN (B : Bk) : Nat := gst (fun b => pdp (B b)) 24
def freeN (B : Bk) : Option Nat := fst1 (fun b => (B b).isNone) 24 0
theorem pus_le (P : Pg) : pus P ≤ 1 := by cases P <;> simp [pus]
theorem c_used_loop (h : PG A p f) (hB : pgs f 0 B) : ∀ c i, i + c = 24 → xD E (d + 2) 23 4 [.ref p, .int (nI (cnt (fun b => pus (B b)) i)), .int (nI i)] [] A = some (some (.int (nI (usedN B))), A)
  | 0, i, hc => by
    rw [e23_4, if_pos (by rw [zl]; exact nI_le (by omega) (by omega)), show i = 24 by omega]; rfl
  | c + 1, i, hc => by
    rw [e23_4, if_neg (by rw [zl]; exact nI_ge (by omega) (by omega))]
    simp only [zl, nI_add]
    rw [pg_cell h (by omega), xI_s]
    simp only [Option.bind_some, Nat.add_zero]
    rw [hB.us (by omega), nI_add]
    exact c_used_loop h hB c (i + 1) (by omega)
theorem c_usedCount (h : PG A p f) (hB : pgs f 0 B) : xC E (d + 2) 23 [.ref p] A = some (some (.int (nI (usedN B))), A) := by
  rw [k23 _ _ _ _ h.cls, zl]; exact c_used_loop h hB 24 0 rfl
theorem c_free_loop (h : PG A p f) (hB : pgs f 0 B) : ∀ c i, i + c = 24 → xD E (d + 3) 24 2 [.ref p, .int (nI i)] [] A = some (some (.int (oI (fst1 (fun b => (B b).isNone) c i))), A)
  | 0, i, hc => by
    rw [e24_2, if_pos (by rw [zl]; exact nI_le (by omega) (by omega))]; rfl
  | c + 1, i, hc => by
    rw [e24_2, if_neg (by rw [zl]; exact nI_ge (by omega) (by omega)), c_used h hB (by omega), xI_s]
    simp only [Option.bind_some, zl, nI_add]
    unfold fst1
    cases hP : B i with
    | none => simp only [pus, Option.isNone_none, if_true]; rfl
    | some q =>
      simp only [pus, Option.isNone_some]
      rw [if_neg (by decide), c_free_loop h hB c (i + 1) (by omega)]; rfl
theorem c_lowestFree (h : PG A p f) (hB : pgs f 0 B) : xC E (d + 3) 24 [.ref p] A = some (some (.int (oI (freeN B))), A) := by
  rw [k24 _ _ _ _ h.cls, zl]; exact c_free_loop h hB 24 0 rfl
theorem c_depth (h : PG A p f) (hB : pgs f 0 B) (hb : b < 24) (hu : B b ≠ none) : xC E (d + 2) 12 [.ref p, .int (nI b)] A = some (some (.int (nI (pdp (B b)))), A) := by
  rw [pg_depth h hb, hB.dp hb hu]
theorem c_prefix (h : PG A p f) (hB : pgs f 0 B) (hb : b < 24) (hu : B b ≠ none) : xC E (d + 2) 13 [.ref p, .int (nI b)] A = some (some (.int (nI (ppx (B b)))), A) := by
  rw [pg_prefix h hb, hB.px hb hu]
theorem c_keyAt (h : PG A p f) (hB : pgs f 0 B) (hb : b < 24) {k v : Nat} (hi : (ents (B b))[i]? = some (k, v)) : xC E (d + 2) 15 [.ref p, .int (nI b), .int (nI i)] A = some (some (.int (nI k)), A) := by
  have hl := hB.len hb
  have hi2 := (List.getElem?_eq_some_iff.mp hi).1
  rw [pg_keyAt h hb (by omega), hB.ky hb hi]
theorem c_valueAt (h : PG A p f) (hB : pgs f 0 B) (hb : b < 24) {k v : Nat} (hi : (ents (B b))[i]? = some (k, v)) : xC E (d + 2) 16 [.ref p, .int (nI b), .int (nI i)] A = some (some (.int (nI v)), A) := by
  have hl := hB.len hb
  have hi2 := (List.getElem?_eq_some_iff.mp hi).1
  rw [pg_valueAt h hb (by omega), hB.vl hb hi]
theorem c_gd_loop (h : PG A p f) (hB : pgs f 0 B) (h31 : ∀ q, pdp (B q) ≤ 6) : ∀ c i, i + c = 24 → xD E (d + 3) 25 4 [.ref p, .int (nI (gst (fun b => pdp (B b)) i)), .int (nI i)] [] A = some (some (.int (nI (deepN B))), A)
  | 0, i, hc => by
    rw [e25_4, if_pos (by rw [zl]; exact nI_le (by omega) (by omega)), show i = 24 by omega]; rfl
  | c + 1, i, hc => by
    have hg := gst_le h31 i
    have hi := h31 i
    rw [e25_4, if_neg (by rw [zl]; exact nI_ge (by omega) (by omega)), c_used h hB (by omega), xI_s]
    simp only [Option.bind_some, zl, nI_add]
    have hr := c_gd_loop h hB h31 c (i + 1) (by omega)
    simp only [gst] at hr
    cases hP : B i with
    | none =>
      rw [if_pos (by show nI 0 = nI 0; rfl)]
      rw [hP] at hr
      exact (by have e : max (gst (fun b => pdp (B b)) i) (pdp none) = gst (fun b => pdp (B b)) i := Nat.max_eq_left (Nat.zero_le _)
                rw [e] at hr; exact hr)
    | some q =>
      rw [if_neg (by show ¬ nI 1 = nI 0; decide), c_depth h hB (by omega) (by rw [hP]; simp), xI_s]
      simp only [Option.bind_some]
      rw [n_max (by omega) (by omega)]
      exact hr
theorem c_greatestDepth (h : PG A p f) (hB : pgs f 0 B) (h31 : ∀ q, pdp (B q) ≤ 6) : xC E (d + 3) 25 [.ref p] A = some (some (.int (nI (deepN B))), A) := by
  rw [k25 _ _ _ _ h.cls]; simp only [zl]; exact c_gd_loop h hB h31 24 0 rfl
theorem c_copy {r : Nat} {g : Nat → Int32} (h : PG A p f) (h2 : PG A r g) : xC E (d + 1) 9 [.ref p, .ref r] A = some (none, A.set (p + 1) (ia 240 (va_cpy g f 0 0 240))) := by
  rw [k9 _ _ _ _ _ h.cls, h2.gN]
  simp only [Option.bind_some, h.gN, h_lA h.2, zl]
  rw [h_copy h2.2 h.2 (by omega) (by omega) (by omega) (by omega), Option.bind_some]
/-- what is told of a page -/
def tel (P : Pg) (w : Nat) : Int32 := if w = 0 then nI (pus P) else match P with
  | none => -1
  | some q => if w = 1 then nI q.1 else if w = 2 then nI q.2.1 else if w = 3 then nI q.2.2.length else match q.2.2[(w - 4) % 3]? with
    | none => -1
    | some e => if w < 7 then nI e.1 else nI e.2
def telI (B : Bk) (x w : Int32) : Int32 := if x < 0 ∨ nI 24 ≤ x ∨ w < 0 ∨ nI 10 ≤ w then -1 else tel (B x.toNatClampNeg) w.toNatClampNeg
end PAGES
theorem c_isBucket {E : Nat × (Nat → Int32)} {d : Nat} {A : xH} (x : Int32) : xC E (d + 1) 140 [.int x] A = some (some (.int (if x < 0 ∨ nI 24 ≤ x then nI 0 else nI 1)), A) := by
  rw [k140]
  simp only [zl]
  by_cases h : x < nI 0
  · rw [if_pos h, if_pos (Or.inl h)]
  · rw [if_neg h]
    by_cases h2 : nI 24 ≤ x
    · rw [if_pos h2, if_pos (Or.inr h2)]
    · rw [if_neg h2, if_neg (fun q => q.elim h h2)]
theorem c_isB {E : Nat × (Nat → Int32)} {d b : Nat} {A : xH} (hb : b < 24) : xC E (d + 1) 140 [.int (nI b)] A = some (some (.int (nI 1)), A) := by
  rw [c_isBucket, if_neg (fun q => q.elim (nI_pos (by omega)) (nI_ge hb (by omega)))]
theorem c_isKey {E : Nat × (Nat → Int32)} {d : Nat} {A : xH} (x : Int32) : xC E (d + 1) 139 [.int x] A = some (some (.int (if x < 0 ∨ nI 1000 ≤ x then nI 0 else nI 1)), A) := by
  rw [k139]
  simp only [zl]
  by_cases h : x < nI 0
  · rw [if_pos h, if_pos (Or.inl h)]
  · rw [if_neg h]
    by_cases h2 : nI 1000 ≤ x
    · rw [if_pos h2, if_pos (Or.inr h2)]
    · rw [if_neg h2, if_neg (fun q => q.elim h h2)]
theorem n_shl : ∀ k, k < 31 → (1 : Int32) <<< (nI k &&& 31) = nI (2 ^ k) := by decide +kernel
theorem n_xor : ∀ k, k < 6 → ∀ q, q < 64 → nI q ^^^ nI (2 ^ k) = nI (q ^^^ 2 ^ k) := by decide +kernel
theorem n_and63 {n : Nat} (h : n < 2 ^ 32) : nI n &&& (63 : Int32) = nI (n % 64) := pk_andN h 6 (by decide +kernel)
