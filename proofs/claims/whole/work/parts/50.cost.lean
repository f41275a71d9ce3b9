/-! ===== what a write costs, who is barred: the class ===== -/
abbrev Lw : Type := (Nat → Nat) × Nat
def lpt (L : Lw) : Nat ⊕ (PX × List (List Nat)) := pText (tok L.1 L.2) false (tkN L.1 L.2)
def lcd (L : Lw) : List (Nat × Nat) := match lpt L with
  | .inl _ => []
  | .inr w => w.1.2.2.1
def lcs (L : Lw) : List (List Nat) := match lpt L with
  | .inl _ => []
  | .inr w => w.2
def lask (L : Lw) : List Nat := match lpt L with
  | .inl _ => []
  | .inr w => w.1.2.2.2
def lawK (L : Lw) : Prop := L.2 ≤ 400 ∧ (∀ j, L.1 j < 256) ∧ ∃ w, lpt L = .inr w
theorem law_cl {L : Lw} (h : lawK L) {wd : Nat → Int} {nw : Nat} (hw : nwR false wd nw) : ∀ l ∈ lcs L, CLOK (lcd L) wd nw l := by
  obtain ⟨h1, h2, w, hw2⟩ := h
  have := text_ok (bs := L.1) (n := L.2) (o := false) h1 hw (y := w.1) (cs := w.2) hw2
  unfold lcs lcd
  rw [hw2]; exact this
def wdl (ws : List Int) : Nat → Int := fun j => ws.getD j 0
noncomputable def lcost (L : Lw) (ws : List Int) : Nat := tfold (lcd L) (wdl ws) 7 4 (lcs L) 1
noncomputable def lbars (L : Lw) (ws : List Int) : Nat := tfold (lcd L) (wdl ws) 7 5 (lcs L) 0
/-- the words of a law: bucket, depth, many, key, hash, time, mood -/
def cws (P : Pg) (b time mood : Nat) (key hash : Int) : List Int := [(b : Int), (match P with
  | none => -1
  | some q => (q.1 : Int)), ((ents P).length : Int), key, hash, (time : Int), (mood : Int)]
noncomputable def costF (Ls : List Lw) (f : Option Nat) (ws : List Int) : Nat := match f with
  | none => 1
  | some q => match Ls[q]? with
    | none => 1
    | some L => lcost L ws
noncomputable def barF (Ls : List Lw) (f : Option Nat) (ws : List Int) : Nat := match f with
  | none => 0
  | some q => match Ls[q]? with
    | none => 0
    | some L => lbars L ws
def tcl (L : Lw) : List (Nat → Nat) := (lcs L).map cl8
/-- the laws of the class's Rules -/
def LWR (A : xH) (u : xU) (Ls : List Lw) : Prop := Ls.length ≤ 6 ∧ u.2.1 = nI Ls.length ∧ ∀ i L, Ls[i]? = some L → lawK L ∧ ∃ t, u.1 i = some t ∧ TXT A t (lcd L) (tcl L) (lask L)
theorem LWR.kp {A A' : xH} {u : xU} {Ls : List Lw} {P : Nat → Prop} (h : LWR A u Ls) (hs : sm P A A') (h1 : ∀ i L t, Ls[i]? = some L → u.1 i = some t → ∀ q, t ≤ q → q < t + 5 → ¬ P q) : LWR A' u Ls := by
  refine ⟨h.1, h.2.1, fun i L hi => ?_⟩
  obtain ⟨a, t, b, c⟩ := h.2.2 i L hi
  exact ⟨a, t, b, c.kp hs (h1 i L t hi b)⟩
theorem more_len {T : Nat → Nat × Nat} {o : Bool} : ∀ (c : Nat) (x y : PX) (cs cs' : List (List Nat)), pMore T o c x cs = .inr (y, cs') → cs'.length ≤ cs.length + c
  | 0, x, y, cs, cs', h => by
    unfold pMore at h
    split at h
    · cases h
    · cases h; omega
  | c + 1, x, y, cs, cs', h => by
    unfold pMore at h
    split at h
    · split at h
      · cases h
      · have := more_len c _ _ _ _ h
        simp only [List.length_append, List.length_cons, List.length_nil] at this; omega
    · cases h; omega
theorem text_len {T : Nat → Nat × Nat} {o : Bool} {N : Nat} {w : PX × List (List Nat)} (h : pText T o N = .inr w) : w.2.length ≤ 12 := by
  unfold pText at h
  split at h
  · cases h
  · split at h
    · cases h
    · rename_i h2
      split at h
      · cases h
      · cases h
        have := more_len _ _ _ _ _ h2
        simp only [List.length_cons, List.length_nil] at this
        exact this
section COST
variable {E : Nat × (Nat → Int32)} {d a r : Nat} {A : xH} {s : xS} {u : xU} {B : Bk} {Ls : List Lw}
def wsB (ws : List Int) : Prop := ws.length = 7 ∧ ∀ v ∈ ws, -1000000000 ≤ v ∧ v ≤ 1000000000
theorem wsB.nw {ws : List Int} (h : wsB ws) : nwR false (wdl ws) 7 := ⟨rfl, fun j => by
  unfold wdl
  rw [List.getD_eq_getElem?_getD]
  cases hj : ws[j]? with
  | none => simp
  | some v => simp; exact h.2 v (List.mem_of_getElem? hj)⟩
theorem cws_B {P : Pg} {b time mood : Nat} {key hash : Int} (hl : (ents P).length ≤ 3) (hd : pdp P ≤ 6) (hb : b < 24) (ht : time ≤ 999) (hm : mood ≤ 9) (hk : -1 ≤ key ∧ key ≤ 1000) (hh : -1 ≤ hash ∧ hash ≤ 1024) : wsB (cws P b time mood key hash) := by
  refine ⟨rfl, fun v hv => ?_⟩
  unfold cws at hv
  simp only [List.mem_cons, List.not_mem_nil, or_false] at hv
  rcases hv with rfl | rfl | rfl | rfl | rfl | rfl | rfl
  · omega
  · cases P with
    | none => dsimp only; omega
    | some q => simp only [pdp] at hd; dsimp only; omega
  · omega
  · omega
  · omega
  · omega
  · omega
/-- the words are laid -/
theorem c_fillWords (h : ST A a s) (hu : RU A r u) (hd : a + 7 ≤ r ∨ r + 4 ≤ a) (hB : pgs s.1 0 B) {b time mood : Nat} {key hash : Int} (hb : b < 24) (ht : s.2.2.2.2.2.2.2 = nI time) (hm : u.2.2.2.2.1 = nI mood) : ∃ A' fw, xC E (d + 2) 32 [.ref r, .ref a, .int (nI b), .int (tI key), .int (tI hash)] A = some (none, A') ∧ A' = A.set (r + 2) (ia 7 fw) ∧ ∀ j, j < 7 → fw j = tI (wdl (cws (B b) b time mood key hash) j) := by
  obtain ⟨u1, u2, ⟨w, hw⟩, k, hk⟩ := hu
  have hlw : r + 2 < A.length := (List.getElem?_eq_some_iff.mp hw).1
  have stw : ∀ g : Nat → Int32, ST (A.set (r + 2) (ia 7 g)) a s ∧ (A.set (r + 2) (ia 7 g))[r]? = some (.inr (3, [.ref (r + 1), .ref (r + 2), .ref (r + 3), .int u.2.1, .int u.2.2.1, .int u.2.2.2.1, .int u.2.2.2.2.1, .int u.2.2.2.2.2])) ∧ (A.set (r + 2) (ia 7 g))[r + 2]? = some (ia 7 g) := fun g =>
    ⟨h.kp (sm.set (P := fun q => q = r + 2) _ rfl) (fun q h1 h2 h3 => by omega), by rw [List.getElem?_set_ne (by omega)]; exact u1, List.getElem?_set_self hlw⟩
  have hdep : ∀ q, B b = some q → s.1 (b * 10 + 1) = nI q.1 := fun q hq => by
    have := hB.dp hb (by rw [hq]; simp)
    rw [hq] at this; exact this
  refine ⟨_, upd (upd (upd (upd (upd (upd (upd w 0 (nI b)) 1 (match B b with
    | none => -1
    | some q => nI q.1)) 2 (nI (ents (B b)).length)) 3 (tI key)) 4 (tI hash)) 5 (nI time)) 6 (nI mood), ?_, rfl, ?_⟩
  · rw [k32 _ _ _ _ _ _ _ _ (h_cls u1), h_gN u1 rfl, Option.bind_some, show (0 : Int32) = nI 0 from rfl, h_sI0 hw (by omega) (by omega), Option.bind_some, h_gN (stw _).2.1 rfl, Option.bind_some, (stw _).1.g0, Option.bind_some, pg_cell (stw _).1.2.1 (by omega), xI_s, Option.bind_some, Nat.add_zero, hB.us hb]
    dsimp only
    have tail : ∀ (g : Nat → Int32) (s2 : Int32), xD E (d + 2) 32 37 [.ref r, .ref a, .int (nI b), .int (tI key), .int (tI hash)] [.int s2, .int (1 : Int32), .ref (r + 2)] (A.set (r + 2) (ia 7 g)) = some (none, A.set (r + 2) (ia 7 (upd (upd (upd (upd (upd (upd g 1 s2) 2 (nI (ents (B b)).length)) 3 (tI key)) 4 (tI hash)) 5 (nI time)) 6 (nI mood)))) := by
      intro g s2
      rw [e32_37, show (1 : Int32) = nI 1 from rfl, h_sI0 (stw g).2.2 (by omega) (by omega), Option.bind_some, xtr, h_gN (stw _).2.1 rfl, Option.bind_some, (stw _).1.g0, Option.bind_some, show (3 : Int32) = nI 3 from rfl, pg_cell (stw _).1.2.1 (by omega), xI_s, Option.bind_some, hB.mn hb]
      dsimp only
      rw [show (2 : Int32) = nI 2 from rfl, h_sI0 (stw _).2.2 (by omega) (by omega), Option.bind_some, xtr, h_gN (stw _).2.1 rfl, Option.bind_some, h_sI0 (stw _).2.2 (by omega) (by omega), Option.bind_some, xtr, h_gN (stw _).2.1 rfl, Option.bind_some, show (4 : Int32) = nI 4 from rfl, h_sI0 (stw _).2.2 (by omega) (by omega), Option.bind_some, xtr, h_gN (stw _).2.1 rfl, Option.bind_some, (stw _).1.g7, Option.bind_some, ht, show (5 : Int32) = nI 5 from rfl, h_sI0 (stw _).2.2 (by omega) (by omega), Option.bind_some, xtr, h_gN (stw _).2.1 rfl, Option.bind_some, h_gI (stw _).2.1 rfl, Option.bind_some, hm, show (6 : Int32) = nI 6 from rfl, h_sI0 (stw _).2.2 (by omega) (by omega), Option.bind_some, xtr]
    cases hP : B b with
    | none =>
      rw [show nI (pus none) = (0 : Int32) from rfl, if_pos (by rfl)]
      have := tail (upd w 0 (nI b)) (-1)
      rw [hP] at this
      exact this
    | some q =>
      rw [show nI (pus (some q)) = (1 : Int32) from rfl, if_neg (by decide), (stw _).1.g0, Option.bind_some, show (1 : Int32) = nI 1 from rfl, pg_cell (stw _).1.2.1 (by omega), xI_s, Option.bind_some]
      dsimp only
      rw [hdep q hP]
      have := tail (upd w 0 (nI b)) (nI q.1)
      rw [hP] at this
      exact this
  · intro j hj
    unfold wdl cws
    rcases (show j = 0 ∨ j = 1 ∨ j = 2 ∨ j = 3 ∨ j = 4 ∨ j = 5 ∨ j = 6 by omega) with rfl | rfl | rfl | rfl | rfl | rfl | rfl
    · rw [upd_n (by omega), upd_n (by omega), upd_n (by omega), upd_n (by omega), upd_n (by omega), upd_n (by omega), upd_s]; exact (tI_nat b).symm
    · rw [upd_n (by omega), upd_n (by omega), upd_n (by omega), upd_n (by omega), upd_n (by omega), upd_s]
      cases B b with
      | none => exact (show (-1 : Int32) = tI (-1) by decide +kernel)
      | some q => exact (tI_nat q.1).symm
    · rw [upd_n (by omega), upd_n (by omega), upd_n (by omega), upd_n (by omega), upd_s]; exact (tI_nat _).symm
    · rw [upd_n (by omega), upd_n (by omega), upd_n (by omega), upd_s]; rfl
    · rw [upd_n (by omega), upd_n (by omega), upd_s]; rfl
    · rw [upd_n (by omega), upd_s]; exact (tI_nat _).symm
    · rw [upd_s]; exact (tI_nat _).symm
/-- counts down: c clauses are left -/
def dI : Nat → Int32
  | 0 => -1
  | c + 1 => nI c
theorem dI_dn (c : Nat) : nI c + (-1 : Int32) = dI c := by
  cases c with
  | zero => decide
  | succ c => exact pk_m1 c
theorem dI_m (c : Nat) : nI c - (1 : Int32) = dI c := by
  cases c with
  | zero => decide
  | succ c => exact nI_pred c
theorem n_clamp {v : Int} (h1 : -1000000000 ≤ v) (h2 : v ≤ 1000000000) : xmax (0 : Int32) (xmin (tI v) (99 : Int32)) = nI (clampI v) := by
  have e99 : (99 : Int32) = tI 99 := by decide +kernel
  have e0 : (0 : Int32) = tI 0 := by decide +kernel
  have lt : ∀ {x y : Int}, -2000000000 ≤ x → x ≤ 2000000000 → -2000000000 ≤ y → y ≤ 2000000000 → (tI x < tI y ↔ x < y) := fun a b c e => by
    rw [Int32.lt_iff_toInt_lt, tI_toInt a b, tI_toInt c e]
  unfold xmin xmax clampI
  rw [e99, e0]
  by_cases q : 99 < v
  · rw [if_pos ((lt (by omega) (by omega) (by omega) (by omega)).mpr q), if_pos ((lt (by omega) (by omega) (by omega) (by omega)).mpr (by omega)), if_neg (by omega), if_pos q]; exact tI_nat 99
  · rw [if_neg (fun z => q ((lt (by omega) (by omega) (by omega) (by omega)).mp z))]
    by_cases q2 : v < 0
    · rw [if_neg (fun z => by have := (lt (by omega) (by omega) (by omega) (by omega)).mp z; omega), if_pos q2]; exact tI_nat 0
    · rw [if_neg q2, if_neg q]
      by_cases q3 : v = 0
      · subst q3; rw [if_neg (fun z => by have := (lt (by omega) (by omega) (by omega) (by omega)).mp z; omega)]; exact tI_nat 0
      · rw [if_pos ((lt (by omega) (by omega) (by omega) (by omega)).mpr (by omega)), ← tI_nat, Int.toNat_of_nonneg (by omega)]
variable {F : List (Nat × Nat)} {cs : List (List Nat)} {ask : List Nat} {wd : Nat → Int} {t : Nat} {fw : Nat → Int32}
/-- the scratch rows and the text, on any heap of the loop -/
def scR (A : xH) (r t : Nat) (u : xU) (F : List (Nat × Nat)) (cs : List (List Nat)) (ask : List Nat) (fw k : Nat → Int32) : Prop := TXT A t F (cs.map cl8) ask ∧ A[r]? = some (.inr (3, [.ref (r + 1), .ref (r + 2), .ref (r + 3), .int u.2.1, .int u.2.2.1, .int u.2.2.2.1, .int u.2.2.2.2.1, .int u.2.2.2.2.2])) ∧ A[r + 2]? = some (ia 7 fw) ∧ A[r + 3]? = some (ia 64 k)
theorem scR.set {k k' : Nat → Int32} (h : scR A r t u F cs ask fw k) (hd : t + 5 ≤ r ∨ r + 4 ≤ t) : scR (A.set (r + 3) (ia 64 k')) r t u F cs ask fw k' := by
  obtain ⟨h1, h2, h3, h4⟩ := h
  have hl := (List.getElem?_eq_some_iff.mp h4).1
  exact ⟨h1.kp (sm.set (P := fun q => q = r + 3) _ rfl) (fun q a b c => by omega), by rw [List.getElem?_set_ne (by omega)]; exact h2, by rw [List.getElem?_set_ne (by omega)]; exact h3, List.getElem?_set_self hl⟩
theorem c_cost_loop (hd : t + 5 ≤ r ∨ r + 4 ≤ t) (hfw : ∀ j, j < 7 → fw j = tI (wd j) ∧ -1000000000 ≤ wd j ∧ wd j ≤ 1000000000) (hok : ∀ l ∈ cs, CLOK F wd 7 l) (hc12 : cs.length ≤ 12) : ∀ (c : Nat) (A : xH) (k : Nat → Int32) (w1 w2 w3 w6 : Value), c ≤ cs.length → scR A r t u F cs ask fw k → ∃ k', xD E (d + 3) 33 31 [.ref r, w1, w2, w3, .ref t, .int (dI c), w6] [] A = some (some (.int (nI (tfold F wd 7 4 (cs.take c) 1))), A.set (r + 3) (ia 64 k'))
  | 0, A, k, w1, w2, w3, w6, hc, hs => by
    refine ⟨k, ?_⟩
    rw [e33_31a, if_pos (by decide), set_self hs.2.2.2]; rfl
  | c + 1, A, k, w1, w2, w3, w6, hc, hs => by
    have hcl : c < cs.length := by omega
    have hmem := List.getElem_mem hcl
    have hg : (cs.map cl8)[c]? = some (cl8 cs[c]) := by rw [List.getElem?_map, List.getElem?_eq_getElem hcl]; rfl
    have htk : cs.take (c + 1) = cs.take c ++ [cs[c]] := by rw [List.take_succ_eq_append_getElem hcl]
    have hO := hok _ hmem
    generalize hl : cs[c] = l at hg htk hO
    obtain ⟨o1, o2, o3, o4, o5, o6, o7, o8, o9, o10, o11, o12⟩ := hO
    have hnt : ∀ q, t ≤ q → q < t + 5 → q ≠ r + 3 := fun q a b => by omega
    rw [htk, tfold_app]
    have go : ∀ (A : xH) (k : Nat → Int32) (w6 : Value), scR A r t u F cs ask fw k → ∃ k', xD E (d + 3) 33 31 [.ref r, xJ, xJ, xJ, .ref t, .int (nI c + (-1 : Int32)), w6] [] A = some (some (.int (nI (tfold F wd 7 4 (cs.take c) 1))), A.set (r + 3) (ia 64 k')) := by
      intro A k w6 hs
      rw [dI_dn]
      exact c_cost_loop hd hfw hok hc12 c A k xJ xJ xJ w6 (by omega) hs
    rw [e33_31a, show dI (c + 1) = nI c from rfl, if_neg (nI_pos (by omega)), show (0 : Int32) = nI 0 from rfl, c_cell hs.1 hg (by omega), xI_s, Option.bind_some]
    dsimp only
    unfold upt
    by_cases e4 : l.getD 0 0 = 4
    · rw [if_pos (show nI (cl8 l 0) = (4 : Int32) by show nI (l.getD 0 0) = _; rw [e4]; rfl), h_gN hs.2.1 rfl, Option.bind_some, h_gN hs.2.1 rfl, Option.bind_some]
      obtain ⟨k1, p1⟩ := c_wth (E := E) (d := d) (wd := wd) (nw := 7) (p := 6) (pp := 6) rfl hs.1 hg (by omega) o12 o3 hs.2.2.1 hs.2.2.2 (by omega) hfw (by omega) hnt
      have hs1 := hs.set (k' := k1) hd
      rw [p1, xI_s, Option.bind_some]
      dsimp only
      have hT1 : bI (wth F wd 7 (cl8 l 6) (cl8 l (6 + 1))) = (1 : Int32) ↔ wth F wd 7 (l.getD 6 0) (l.getD 7 0) = some 1 := bI_1 (wok_bd o3)
      by_cases eT : wth F wd 7 (l.getD 6 0) (l.getD 7 0) = some 1
      · rw [if_pos (hT1.mpr eT), if_pos (show l.getD 0 0 = 4 ∧ cT F wd 7 l = some 1 from ⟨e4, eT⟩), h_gN hs1.2.1 rfl, Option.bind_some, h_gN hs1.2.1 rfl, Option.bind_some]
        obtain ⟨k2, p2⟩ := c_wth (E := E) (d := d) (wd := wd) (nw := 7) (p := 2) (pp := 2) rfl hs1.1 hg (by omega) o8 o1 hs1.2.2.1 hs1.2.2.2 (by omega) hfw (by omega) hnt
        have hs2 := hs1.set (k' := k2) hd
        rw [p2, xI_s, Option.bind_some]
        dsimp only
        rw [show wth F wd 7 (cl8 l 2) (cl8 l (2 + 1)) = cS F wd 7 l from rfl]
        cases hS : cS F wd 7 l with
        | none =>
          obtain ⟨k3, p3⟩ := go _ _ (.int (bI none)) hs2
          refine ⟨k3, ?_⟩
          rw [if_pos bI_n, p3, xtr, xtr]
        | some v =>
          have hb := wok_bd o1 v hS
          refine ⟨k2, ?_⟩
          rw [if_neg (fun q => by have := (bI_b (o := some v) (fun v' h' => by cases h'; exact hb)).mp q; cases this), xtr]
          show some (some (Value.int (xmax 0 (xmin (tI v) 99))), _) = _
          rw [n_clamp hb.1 hb.2]
      · obtain ⟨k3, p3⟩ := go _ _ xJ hs1
        refine ⟨k3, ?_⟩
        rw [if_neg (fun q => eT (hT1.mp q)), if_neg (show ¬ (l.getD 0 0 = 4 ∧ cT F wd 7 l = some 1) from fun q => eT q.2), p3, xtr]
    · obtain ⟨k3, p3⟩ := go _ _ xJ hs
      refine ⟨k3, ?_⟩
      rw [if_neg (show ¬ nI (cl8 l 0) = (4 : Int32) from fun q => e4 ((nI_eq (a := l.getD 0 0) (b := 4) (by omega) (by omega)).mp q)), if_neg (fun q => e4 q.1), p3]
theorem tfold5 {cs : List (List Nat)} (hok : ∀ l ∈ cs, CLOK F wd 7 l) : ∀ t, t ≤ 1 → (tfold F wd 7 5 cs t = 1 ∨ tfold F wd 7 5 cs t = 0) ∧ (t = 1 → tfold F wd 7 5 cs t = 1) := by
  induction cs with
  | nil => intro t ht; exact ⟨by show t = 1 ∨ t = 0; omega, id⟩
  | cons l cs ih =>
    intro t ht
    have hu : upt F wd 7 5 l t = 1 ∨ upt F wd 7 5 l t = t := by
      unfold upt
      split
      · rename_i q
        have := (hok l (by simp)).2.2.2.1 q.1
        unfold cS
        rw [this, wth_same]
        left; rfl
      · right; rfl
    obtain ⟨a, b⟩ := ih (fun l' h' => hok l' (by simp [h'])) (upt F wd 7 5 l t) (by omega)
    refine ⟨a, fun h1 => b (by omega)⟩
theorem c_bars_loop (hd : t + 5 ≤ r ∨ r + 4 ≤ t) (hfw : ∀ j, j < 7 → fw j = tI (wd j) ∧ -1000000000 ≤ wd j ∧ wd j ≤ 1000000000) (hok : ∀ l ∈ cs, CLOK F wd 7 l) (hc12 : cs.length ≤ 12) : ∀ (c i : Nat) (A : xH) (k : Nat → Int32) (w1 w2 w3 : Value), i + c = cs.length → scR A r t u F cs ask fw k → ∃ k', xD E (d + 3) 34 32 [.ref r, w1, w2, w3, .ref t, .int (nI i)] [] A = some (some (.int (nI (tfold F wd 7 5 (cs.drop i) 0))), A.set (r + 3) (ia 64 k'))
  | 0, i, A, k, w1, w2, w3, hc, hs => by
    have hcn : gI A t 7 5 = some (nI (cs.map cl8).length) := by
      obtain ⟨n0, n1, n2, n3, f0, f1, f2, f3, a0, ar⟩ := hs.1
      exact h_gI a0 rfl
    refine ⟨k, ?_⟩
    rw [e34_32a, hcn, Option.bind_some, List.length_map, if_pos (nI_le (by omega) (by omega)), set_self hs.2.2.2, List.drop_eq_nil_of_le (by omega)]; rfl
  | c + 1, i, A, k, w1, w2, w3, hc, hs => by
    have hcl : i < cs.length := by omega
    have hcn : gI A t 7 5 = some (nI (cs.map cl8).length) := by
      obtain ⟨n0, n1, n2, n3, f0, f1, f2, f3, a0, ar⟩ := hs.1
      exact h_gI a0 rfl
    have hmem := List.getElem_mem hcl
    have hg : (cs.map cl8)[i]? = some (cl8 cs[i]) := by rw [List.getElem?_map, List.getElem?_eq_getElem hcl]; rfl
    have htk : cs.drop i = cs[i] :: cs.drop (i + 1) := List.drop_eq_getElem_cons hcl
    have hO := hok _ hmem
    generalize hl : cs[i] = l at hg htk hO
    obtain ⟨o1, o2, o3, o4, o5, o6, o7, o8, o9, o10, o11, o12⟩ := hO
    have hnt : ∀ q, t ≤ q → q < t + 5 → q ≠ r + 3 := fun q a b => by omega
    rw [htk]
    rw [show tfold F wd 7 5 (l :: cs.drop (i + 1)) 0 = tfold F wd 7 5 (cs.drop (i + 1)) (upt F wd 7 5 l 0) from rfl]
    have go : ∀ (A : xH) (k : Nat → Int32), scR A r t u F cs ask fw k → ∃ k', xD E (d + 3) 34 32 [.ref r, xJ, xJ, xJ, .ref t, .int (nI i + (1 : Int32))] [] A = some (some (.int (nI (tfold F wd 7 5 (cs.drop (i + 1)) 0))), A.set (r + 3) (ia 64 k')) := by
      intro A k hs
      rw [nI_1]
      exact c_bars_loop hd hfw hok hc12 c (i + 1) A k xJ xJ xJ (by omega) hs
    have hdo : ∀ l' ∈ cs.drop (i + 1), CLOK F wd 7 l' := fun l' h' => hok l' (List.mem_of_mem_drop h')
    rw [e34_32a, hcn, Option.bind_some, List.length_map, if_neg (nI_ge hcl (by omega)), show (0 : Int32) = nI 0 from rfl, c_cell hs.1 hg (by omega), xI_s, Option.bind_some]
    dsimp only
    unfold upt
    by_cases e5 : l.getD 0 0 = 5
    · rw [if_pos (show nI (cl8 l 0) = (5 : Int32) by show nI (l.getD 0 0) = _; rw [e5]; rfl), h_gN hs.2.1 rfl, Option.bind_some, h_gN hs.2.1 rfl, Option.bind_some]
      obtain ⟨k1, p1⟩ := c_wth (E := E) (d := d) (wd := wd) (nw := 7) (p := 6) (pp := 6) rfl hs.1 hg (by omega) o12 o3 hs.2.2.1 hs.2.2.2 (by omega) hfw (by omega) hnt
      have hs1 := hs.set (k' := k1) hd
      rw [p1, xI_s, Option.bind_some]
      dsimp only
      have hT1 : bI (wth F wd 7 (cl8 l 6) (cl8 l (6 + 1))) = (1 : Int32) ↔ wth F wd 7 (l.getD 6 0) (l.getD 7 0) = some 1 := bI_1 (wok_bd o3)
      by_cases eT : wth F wd 7 (l.getD 6 0) (l.getD 7 0) = some 1
      · refine ⟨k1, ?_⟩
        have hcs : cS F wd 7 l = some 1 := by unfold cS; rw [o4 e5, wth_same]
        rw [if_pos (hT1.mpr eT), if_pos (show l.getD 0 0 = 5 ∧ cT F wd 7 l = some 1 from ⟨e5, eT⟩), hcs]
        have hone := (tfold5 hdo 1 (by omega)).2 rfl
        exact congrArg (fun z => some (some (Value.int (nI z)), A.set (r + 3) (ia 64 k1))) hone.symm
      · obtain ⟨k3, p3⟩ := go _ _ hs1
        refine ⟨k3, ?_⟩
        rw [if_neg (fun q => eT (hT1.mp q)), if_neg (show ¬ (l.getD 0 0 = 5 ∧ cT F wd 7 l = some 1) from fun q => eT q.2), p3, xtr]
    · obtain ⟨k3, p3⟩ := go _ _ hs
      refine ⟨k3, ?_⟩
      rw [if_neg (show ¬ nI (cl8 l 0) = (5 : Int32) from fun q => e5 ((nI_eq (a := l.getD 0 0) (b := 5) (by omega) (by omega)).mp q)), if_neg (fun q => e5 q.1), p3]
variable {f : Option Nat}
def txV (u : xU) (f : Option Nat) : Value := match f with
  | none => .null
  | some q => match u.1 q with
    | none => .null
    | some t => .ref t
/-- which law is in force, as an int -/
theorem c_textOf (hu : RU A r u) (hL : LWR A u Ls) {x : Int32} (hx : x = oI f) (hf : ∀ q, f = some q → q < Ls.length) : xC E (d + 1) 31 [.ref r, .int x] A = some (some (txV u f), A) := by
  have h6 := hL.1
  subst hx
  rw [k31 _ _ _ _ _ hu.cls]
  cases f with
  | none => rw [oI_n, if_pos (by decide)]; rfl
  | some q =>
    have hq := hf q rfl
    rw [oI_s, if_neg (nI_pos (by omega)), hu.g3, Option.bind_some, hL.2.1, if_neg (nI_ge hq (by omega)), hu.g0, Option.bind_some]
    have har : aR 4 A (r + 1) (nI q) = some (u.1 q) := by
      simp only [aR, hu.2.1, if_true, h_ix (show q < 6 by omega) (by omega), if_false, nI_clamp (show q < 2 ^ 31 by omega)]
    rw [har, Option.bind_some]
    unfold txV
    dsimp only
    cases u.1 q <;> rfl
/-- the texts lie apart from a row of places -/
def sepL (u : xU) (Ls : List Lw) (a n : Nat) : Prop := ∀ i t, i < Ls.length → u.1 i = some t → t + 5 ≤ a ∨ a + n ≤ t
theorem lcs_len {L : Lw} (h : lawK L) : (lcs L).length ≤ 12 := by
  obtain ⟨h1, h2, w, hw⟩ := h
  unfold lcs
  rw [hw]
  exact text_len hw
theorem c_costOf (h : ST A a s) (hu : RU A r u) (hd : a + 7 ≤ r ∨ r + 4 ≤ a) (hL : LWR A u Ls) (hsr : sepL u Ls r 4) (hB : pgs s.1 0 B) {b time mood : Nat} (hb : b < 24) (ht : s.2.2.2.2.2.2.2 = nI time) (hm : u.2.2.2.2.1 = nI mood) (hdp : pdp (B b) ≤ 6) (ht9 : time ≤ 999) (hm9 : mood ≤ 9) {x : Int32} (hx : x = oI f) (hf : ∀ q, f = some q → q < Ls.length) : ∃ A', xC E (d + 4) 33 [.ref r, .int x, .ref a, .int (nI b)] A = some (some (.int (nI (costF Ls f (cws (B b) b time mood (-1) (-1))))), A') ∧ sm (inR r) A A' ∧ RU A' r u := by
  rw [k33 _ _ _ _ _ _ _ hu.cls, c_textOf hu hL hx hf]
  cases hf0 : f with
  | none =>
    rw [show txV u none = .null from rfl, xO_n, Option.bind_some]
    exact ⟨A, rfl, sm.refl _ _, hu⟩
  | some q =>
    have hq := hf q hf0
    obtain ⟨hK, t, hut, hT⟩ := hL.2.2 q Ls[q] (List.getElem?_eq_getElem hq)
    rw [show txV u (some q) = .ref t by unfold txV; dsimp only; rw [hut], xO_s, Option.bind_some]
    dsimp only
    obtain ⟨A1, fw, p1, p2, p3⟩ := c_fillWords (E := E) (d := d + 1) (key := -1) (hash := -1) h hu hd hB hb ht hm
    have hws := cws_B (P := B b) (b := b) (time := time) (mood := mood) (key := -1) (hash := -1) (hB.len hb) hdp hb ht9 hm9 (by omega) (by omega)
    have hnw := hws.nw
    have hdt := hsr q t hq hut
    obtain ⟨u1, u2, ⟨w, hw⟩, k, hk⟩ := id hu
    have hl2 : r + 2 < A.length := (List.getElem?_eq_some_iff.mp hw).1
    have hl3 : r + 3 < A.length := (List.getElem?_eq_some_iff.mp hk).1
    have hsc : scR A1 r t u (lcd Ls[q]) (lcs Ls[q]) (lask Ls[q]) fw k := by
      rw [p2]
      exact ⟨hT.kp (sm.set (P := fun z => z = r + 2) _ rfl) (fun z z1 z2 z3 => by omega), by rw [List.getElem?_set_ne (by omega)]; exact u1, List.getElem?_set_self hl2, by rw [List.getElem?_set_ne (by omega)]; exact hk⟩
    have hcn : gI A1 t 7 5 = some (nI (lcs Ls[q]).length) := by
      obtain ⟨n0, n1, n2, n3, f0, f1, f2, f3, a0, ar⟩ := hsc.1
      rw [List.length_map] at a0
      exact h_gI a0 rfl
    obtain ⟨k', c1⟩ := c_cost_loop (E := E) (d := d + 1) (wd := wdl (cws (B b) b time mood (-1) (-1))) hdt (fun j hj => ⟨p3 j hj, (hnw.2 j).1, (hnw.2 j).2⟩) (law_cl hK hnw) (lcs_len hK) (lcs Ls[q]).length A1 k (.int x) (.ref a) (.int (nI b)) xJ (Nat.le_refl _) hsc
    rw [show xC E (d + 3) 32 [.ref r, .ref a, .int (nI b), .int (-1 : Int32), .int (-1 : Int32)] A = _ from p1, xV_s, Option.bind_some, hcn, Option.bind_some, dI_m, c1, List.take_length]
    refine ⟨A1.set (r + 3) (ia 64 k'), ?_, ?_, ?_⟩
    rotate_left
    · rw [p2]
      exact (sm.set (P := inR r) _ (Or.inl rfl)).trans (sm.set (P := inR r) _ (Or.inr rfl))
    · rw [p2]
      refine ⟨by rw [List.getElem?_set_ne (by omega), List.getElem?_set_ne (by omega)]; exact u1, by rw [List.getElem?_set_ne (by omega), List.getElem?_set_ne (by omega)]; exact u2, ⟨fw, ?_⟩, ⟨k', ?_⟩⟩
      · rw [List.getElem?_set_ne (by omega), List.getElem?_set_self hl2]
      · rw [List.getElem?_set_self (by rw [List.length_set]; exact hl3)]
    · unfold costF lcost
      dsimp only
      rw [List.getElem?_eq_getElem hq]
theorem c_bars (h : ST A a s) (hu : RU A r u) (hd : a + 7 ≤ r ∨ r + 4 ≤ a) (hL : LWR A u Ls) (hsr : sepL u Ls r 4) (hB : pgs s.1 0 B) {b time mood key salt : Nat} (hb : b < 24) (hkey : key < 1000) (hsl : salt < 1000) (hs : u.2.2.2.2.2 = nI salt) (ht : s.2.2.2.2.2.2.2 = nI time) (hm : u.2.2.2.2.1 = nI mood) (hdp : pdp (B b) ≤ 6) (ht9 : time ≤ 999) (hm9 : mood ≤ 9) (hx : u.2.2.1 = oI f) (hf : ∀ q, f = some q → q < Ls.length) : ∃ A', xC E (d + 4) 34 [.ref r, .int (nI key), .ref a, .int (nI b)] A = some (some (.int (nI (barF Ls f (cws (B b) b time mood key (hsh salt key))))), A') ∧ sm (inR r) A A' ∧ RU A' r u ∧ barF Ls f (cws (B b) b time mood key (hsh salt key)) ≤ 1 := by
  have hh := hsh_lt salt key
  rw [k34 _ _ _ _ _ _ _ hu.cls, hu.g4, Option.bind_some, c_textOf hu hL hx hf]
  cases hf0 : f with
  | none =>
    rw [show txV u none = .null from rfl, xO_n, Option.bind_some]
    exact ⟨A, rfl, sm.refl _ _, hu, Nat.zero_le 1⟩
  | some q =>
    have hq := hf q hf0
    obtain ⟨hK, t, hut, hT⟩ := hL.2.2 q Ls[q] (List.getElem?_eq_getElem hq)
    rw [show txV u (some q) = .ref t by unfold txV; dsimp only; rw [hut], xO_s, Option.bind_some]
    dsimp only
    rw [c_hashOf hu hkey hsl hs, xI_s, Option.bind_some]
    dsimp only
    obtain ⟨A1, fw, p1, p2, p3⟩ := c_fillWords (E := E) (d := d + 1) (key := (key : Int)) (hash := (hsh salt key : Int)) h hu hd hB hb ht hm
    rw [tI_nat, tI_nat] at p1
    have hws := cws_B (P := B b) (b := b) (time := time) (mood := mood) (key := (key : Int)) (hash := (hsh salt key : Int)) (hB.len hb) hdp hb ht9 hm9 (by omega) (by omega)
    have hnw := hws.nw
    have hdt := hsr q t hq hut
    obtain ⟨u1, u2, ⟨w, hw⟩, k, hk⟩ := id hu
    have hl2 : r + 2 < A.length := (List.getElem?_eq_some_iff.mp hw).1
    have hl3 : r + 3 < A.length := (List.getElem?_eq_some_iff.mp hk).1
    have hsc : scR A1 r t u (lcd Ls[q]) (lcs Ls[q]) (lask Ls[q]) fw k := by
      rw [p2]
      exact ⟨hT.kp (sm.set (P := fun z => z = r + 2) _ rfl) (fun z z1 z2 z3 => by omega), by rw [List.getElem?_set_ne (by omega)]; exact u1, List.getElem?_set_self hl2, by rw [List.getElem?_set_ne (by omega)]; exact hk⟩
    obtain ⟨k', c1⟩ := c_bars_loop (E := E) (d := d + 1) (wd := wdl (cws (B b) b time mood key (hsh salt key))) hdt (fun j hj => ⟨p3 j hj, (hnw.2 j).1, (hnw.2 j).2⟩) (law_cl hK hnw) (lcs_len hK) (lcs Ls[q]).length 0 A1 k (.int (nI key)) (.ref a) (.int (nI b)) (Nat.zero_add _) hsc
    rw [p1, xV_s, Option.bind_some, show xD E (d + 4) 34 32 [.ref r, .int (nI key), .ref a, .int (nI b), .ref t, .int (0 : Int32)] [] A1 = _ from c1, List.drop_zero]
    have hbf : barF Ls (some q) (cws (B b) b time mood key (hsh salt key)) = tfold (lcd Ls[q]) (wdl (cws (B b) b time mood key (hsh salt key))) 7 5 (lcs Ls[q]) 0 := by
      unfold barF lbars
      dsimp only
      rw [List.getElem?_eq_getElem hq]
    refine ⟨A1.set (r + 3) (ia 64 k'), by rw [hbf], ?_, ?_, ?_⟩
    · rw [p2]
      exact (sm.set (P := inR r) _ (Or.inl rfl)).trans (sm.set (P := inR r) _ (Or.inr rfl))
    · rw [p2]
      refine ⟨by rw [List.getElem?_set_ne (by omega), List.getElem?_set_ne (by omega)]; exact u1, by rw [List.getElem?_set_ne (by omega), List.getElem?_set_ne (by omega)]; exact u2, ⟨fw, ?_⟩, ⟨k', ?_⟩⟩
      · rw [List.getElem?_set_ne (by omega), List.getElem?_set_self hl2]
      · rw [List.getElem?_set_self (by rw [List.length_set]; exact hl3)]
    · rw [hbf]
      have := (tfold5 (law_cl hK hnw) 0 (by omega)).1
      omega
end COST
