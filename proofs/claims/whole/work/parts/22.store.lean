/-! ===== the class's Store at a: seven cells; its Rules at r: four cells ===== -/
/-- what a store holds: the file's cells, the disk's, the owners, the writes, eldest, waits, deep, time -/
abbrev xS : Type := (Nat → Int32) × (Nat → Int32) × (Nat → Int32) × (Nat → Int32) × Int32 × Int32 × Int32 × Int32
def ST (A : xH) (a : Nat) (s : xS) : Prop := A[a]? = some (.inr (5, [.ref (a + 1), .ref (a + 3), .ref (a + 5), .ref (a + 6), .int s.2.2.2.2.1, .int s.2.2.2.2.2.1, .int s.2.2.2.2.2.2.1, .int s.2.2.2.2.2.2.2])) ∧ PG A (a + 1) s.1 ∧ PG A (a + 3) s.2.1 ∧ A[a + 5]? = some (ia 64 s.2.2.1) ∧ A[a + 6]? = some (ia 480 s.2.2.2.1)
/-- laws, how many, which is in force, fails, mood, salt -/
abbrev xU : Type := (Nat → Option Nat) × Int32 × Int32 × Int32 × Int32 × Int32
def RU (A : xH) (r : Nat) (u : xU) : Prop := A[r]? = some (.inr (3, [.ref (r + 1), .ref (r + 2), .ref (r + 3), .int u.2.1, .int u.2.2.1, .int u.2.2.2.1, .int u.2.2.2.2.1, .int u.2.2.2.2.2])) ∧ A[r + 1]? = some (.inl (4, 6, .inr (.inr u.1))) ∧ (∃ w, A[r + 2]? = some (ia 7 w)) ∧ ∃ t, A[r + 3]? = some (ia 64 t)
/-- nothing but the places of P has changed -/
def sm (P : Nat → Prop) (A A' : xH) : Prop := A'.length = A.length ∧ ∀ q, ¬ P q → A'[q]? = A[q]?
theorem sm.refl (P : Nat → Prop) (A : xH) : sm P A A := ⟨rfl, fun _ _ => rfl⟩
theorem sm.trans {P : Nat → Prop} {A B C : xH} (h : sm P A B) (h2 : sm P B C) : sm P A C := ⟨h2.1.trans h.1, fun q hq => (h2.2 q hq).trans (h.2 q hq)⟩
theorem sm.mono {P Q : Nat → Prop} {A B : xH} (h : sm P A B) (hpq : ∀ q, P q → Q q) : sm Q A B := ⟨h.1, fun q hq => h.2 q (fun w => hq (hpq q w))⟩
theorem sm.set {P : Nat → Prop} {A : xH} {b : Nat} (w : xA) (h : P b) : sm P A (A.set b w) := ⟨List.length_set .., fun q hq => List.getElem?_set_ne (fun e => hq (by rw [← e]; exact h))⟩
/-- the places of a store, of the scratch rows of rules -/
def inS (a : Nat) : Nat → Prop := fun q => a ≤ q ∧ q < a + 7
def inR (r : Nat) : Nat → Prop := fun q => q = r + 2 ∨ q = r + 3
def inSR (a r : Nat) : Nat → Prop := fun q => inS a q ∨ inR r q
theorem PG.kp {P : Nat → Prop} {A A' : xH} {p : Nat} {f : Nat → Int32} (h : PG A p f) (hs : sm P A A') (h1 : ¬ P p) (h2 : ¬ P (p + 1)) : PG A' p f := ⟨by rw [hs.2 _ h1]; exact h.1, by rw [hs.2 _ h2]; exact h.2⟩
theorem ST.kp {P : Nat → Prop} {A A' : xH} {a : Nat} {s : xS} (h : ST A a s) (hs : sm P A A') (h1 : ∀ q, a ≤ q → q < a + 7 → ¬ P q) : ST A' a s :=
  ⟨by rw [hs.2 _ (h1 _ (by omega) (by omega))]; exact h.1, h.2.1.kp hs (h1 _ (by omega) (by omega)) (h1 _ (by omega) (by omega)), h.2.2.1.kp hs (h1 _ (by omega) (by omega)) (h1 _ (by omega) (by omega)), by rw [hs.2 _ (h1 _ (by omega) (by omega))]; exact h.2.2.2.1, by rw [hs.2 _ (h1 _ (by omega) (by omega))]; exact h.2.2.2.2⟩
theorem RU.kp {P : Nat → Prop} {A A' : xH} {r : Nat} {u : xU} (h : RU A r u) (hs : sm P A A') (h1 : ∀ q, r ≤ q → q < r + 4 → ¬ P q) : RU A' r u :=
  ⟨by rw [hs.2 _ (h1 _ (by omega) (by omega))]; exact h.1, by rw [hs.2 _ (h1 _ (by omega) (by omega))]; exact h.2.1, by rw [hs.2 _ (h1 _ (by omega) (by omega))]; exact h.2.2.1, by rw [hs.2 _ (h1 _ (by omega) (by omega))]; exact h.2.2.2⟩
section STORE
variable {E : Nat × (Nat → Int32)} {d a r : Nat} {A : xH} {s : xS} {u : xU}
theorem ST.cls (h : ST A a s) : xcls A a = some 5 := h_cls h.1
theorem ST.g0 (h : ST A a s) : gN A a 5 0 = some (a + 1) := h_gN h.1 rfl
theorem ST.g1 (h : ST A a s) : gN A a 5 1 = some (a + 3) := h_gN h.1 rfl
theorem ST.g2 (h : ST A a s) : gN A a 5 2 = some (a + 5) := h_gN h.1 rfl
theorem ST.g3 (h : ST A a s) : gN A a 5 3 = some (a + 6) := h_gN h.1 rfl
theorem ST.g4 (h : ST A a s) : gI A a 5 4 = some s.2.2.2.2.1 := h_gI h.1 rfl
theorem ST.g5 (h : ST A a s) : gI A a 5 5 = some s.2.2.2.2.2.1 := h_gI h.1 rfl
theorem ST.g6 (h : ST A a s) : gI A a 5 6 = some s.2.2.2.2.2.2.1 := h_gI h.1 rfl
theorem ST.g7 (h : ST A a s) : gI A a 5 7 = some s.2.2.2.2.2.2.2 := h_gI h.1 rfl
theorem ST.len (h : ST A a s) : a + 6 < A.length := (List.getElem?_eq_some_iff.mp h.2.2.2.2).1
/-- a field is set -/
theorem ST.p4 (h : ST A a s) (x : Int32) : ∃ A', pF A a 5 4 (.int x) = some A' ∧ ST A' a (s.1, s.2.1, s.2.2.1, s.2.2.2.1, x, s.2.2.2.2.2) ∧ sm (inS a) A A' := by
  have hl := h.len
  refine ⟨_, h_pF h.1 (by decide : 4 < 8), ⟨?_, ?_, ?_, ?_, ?_⟩, sm.set _ ⟨by omega, by omega⟩⟩
  · rw [List.getElem?_set_self (by omega)]; rfl
  · exact ⟨by rw [List.getElem?_set_ne (by omega)]; exact h.2.1.1, by rw [List.getElem?_set_ne (by omega)]; exact h.2.1.2⟩
  · exact ⟨by rw [List.getElem?_set_ne (by omega)]; exact h.2.2.1.1, by rw [List.getElem?_set_ne (by omega)]; exact h.2.2.1.2⟩
  · rw [List.getElem?_set_ne (by omega)]; exact h.2.2.2.1
  · rw [List.getElem?_set_ne (by omega)]; exact h.2.2.2.2
theorem ST.p5 (h : ST A a s) (x : Int32) : ∃ A', pF A a 5 5 (.int x) = some A' ∧ ST A' a (s.1, s.2.1, s.2.2.1, s.2.2.2.1, s.2.2.2.2.1, x, s.2.2.2.2.2.2) ∧ sm (inS a) A A' := by
  have hl := h.len
  refine ⟨_, h_pF h.1 (by decide : 5 < 8), ⟨?_, ?_, ?_, ?_, ?_⟩, sm.set _ ⟨by omega, by omega⟩⟩
  · rw [List.getElem?_set_self (by omega)]; rfl
  · exact ⟨by rw [List.getElem?_set_ne (by omega)]; exact h.2.1.1, by rw [List.getElem?_set_ne (by omega)]; exact h.2.1.2⟩
  · exact ⟨by rw [List.getElem?_set_ne (by omega)]; exact h.2.2.1.1, by rw [List.getElem?_set_ne (by omega)]; exact h.2.2.1.2⟩
  · rw [List.getElem?_set_ne (by omega)]; exact h.2.2.2.1
  · rw [List.getElem?_set_ne (by omega)]; exact h.2.2.2.2
theorem ST.p6 (h : ST A a s) (x : Int32) : ∃ A', pF A a 5 6 (.int x) = some A' ∧ ST A' a (s.1, s.2.1, s.2.2.1, s.2.2.2.1, s.2.2.2.2.1, s.2.2.2.2.2.1, x, s.2.2.2.2.2.2.2) ∧ sm (inS a) A A' := by
  have hl := h.len
  refine ⟨_, h_pF h.1 (by decide : 6 < 8), ⟨?_, ?_, ?_, ?_, ?_⟩, sm.set _ ⟨by omega, by omega⟩⟩
  · rw [List.getElem?_set_self (by omega)]; rfl
  · exact ⟨by rw [List.getElem?_set_ne (by omega)]; exact h.2.1.1, by rw [List.getElem?_set_ne (by omega)]; exact h.2.1.2⟩
  · exact ⟨by rw [List.getElem?_set_ne (by omega)]; exact h.2.2.1.1, by rw [List.getElem?_set_ne (by omega)]; exact h.2.2.1.2⟩
  · rw [List.getElem?_set_ne (by omega)]; exact h.2.2.2.1
  · rw [List.getElem?_set_ne (by omega)]; exact h.2.2.2.2
theorem ST.p7 (h : ST A a s) (x : Int32) : ∃ A', pF A a 5 7 (.int x) = some A' ∧ ST A' a (s.1, s.2.1, s.2.2.1, s.2.2.2.1, s.2.2.2.2.1, s.2.2.2.2.2.1, s.2.2.2.2.2.2.1, x) ∧ sm (inS a) A A' := by
  have hl := h.len
  refine ⟨_, h_pF h.1 (by decide : 7 < 8), ⟨?_, ?_, ?_, ?_, ?_⟩, sm.set _ ⟨by omega, by omega⟩⟩
  · rw [List.getElem?_set_self (by omega)]; rfl
  · exact ⟨by rw [List.getElem?_set_ne (by omega)]; exact h.2.1.1, by rw [List.getElem?_set_ne (by omega)]; exact h.2.1.2⟩
  · exact ⟨by rw [List.getElem?_set_ne (by omega)]; exact h.2.2.1.1, by rw [List.getElem?_set_ne (by omega)]; exact h.2.2.1.2⟩
  · rw [List.getElem?_set_ne (by omega)]; exact h.2.2.2.1
  · rw [List.getElem?_set_ne (by omega)]; exact h.2.2.2.2
/-- an array's cell is set -/
theorem ST.sF (h : ST A a s) (g : Nat → Int32) : ST (A.set (a + 1 + 1) (ia 240 g)) a (g, s.2) ∧ sm (inS a) A (A.set (a + 1 + 1) (ia 240 g)) := by
  have hl := h.len
  refine ⟨⟨?_, h.2.1.set g, ?_, ?_, ?_⟩, sm.set _ ⟨by omega, by omega⟩⟩
  · rw [List.getElem?_set_ne (by omega)]; exact h.1
  · exact ⟨by rw [List.getElem?_set_ne (by omega)]; exact h.2.2.1.1, by rw [List.getElem?_set_ne (by omega)]; exact h.2.2.1.2⟩
  · rw [List.getElem?_set_ne (by omega)]; exact h.2.2.2.1
  · rw [List.getElem?_set_ne (by omega)]; exact h.2.2.2.2
theorem ST.sG (h : ST A a s) (g : Nat → Int32) : ST (A.set (a + 3 + 1) (ia 240 g)) a (s.1, g, s.2.2) ∧ sm (inS a) A (A.set (a + 3 + 1) (ia 240 g)) := by
  have hl := h.len
  refine ⟨⟨?_, ?_, h.2.2.1.set g, ?_, ?_⟩, sm.set _ ⟨by omega, by omega⟩⟩
  · rw [List.getElem?_set_ne (by omega)]; exact h.1
  · exact ⟨by rw [List.getElem?_set_ne (by omega)]; exact h.2.1.1, by rw [List.getElem?_set_ne (by omega)]; exact h.2.1.2⟩
  · rw [List.getElem?_set_ne (by omega)]; exact h.2.2.2.1
  · rw [List.getElem?_set_ne (by omega)]; exact h.2.2.2.2
theorem ST.sO (h : ST A a s) (g : Nat → Int32) : ST (A.set (a + 5) (ia 64 g)) a (s.1, s.2.1, g, s.2.2.2) ∧ sm (inS a) A (A.set (a + 5) (ia 64 g)) := by
  have hl := h.len
  refine ⟨⟨?_, ?_, ?_, ?_, ?_⟩, sm.set _ ⟨by omega, by omega⟩⟩
  · rw [List.getElem?_set_ne (by omega)]; exact h.1
  · exact ⟨by rw [List.getElem?_set_ne (by omega)]; exact h.2.1.1, by rw [List.getElem?_set_ne (by omega)]; exact h.2.1.2⟩
  · exact ⟨by rw [List.getElem?_set_ne (by omega)]; exact h.2.2.1.1, by rw [List.getElem?_set_ne (by omega)]; exact h.2.2.1.2⟩
  · rw [List.getElem?_set_self (by omega)]
  · rw [List.getElem?_set_ne (by omega)]; exact h.2.2.2.2
theorem ST.sW (h : ST A a s) (g : Nat → Int32) : ST (A.set (a + 6) (ia 480 g)) a (s.1, s.2.1, s.2.2.1, g, s.2.2.2.2) ∧ sm (inS a) A (A.set (a + 6) (ia 480 g)) := by
  have hl := h.len
  refine ⟨⟨?_, ?_, ?_, ?_, ?_⟩, sm.set _ ⟨by omega, by omega⟩⟩
  · rw [List.getElem?_set_ne (by omega)]; exact h.1
  · exact ⟨by rw [List.getElem?_set_ne (by omega)]; exact h.2.1.1, by rw [List.getElem?_set_ne (by omega)]; exact h.2.1.2⟩
  · exact ⟨by rw [List.getElem?_set_ne (by omega)]; exact h.2.2.1.1, by rw [List.getElem?_set_ne (by omega)]; exact h.2.2.1.2⟩
  · rw [List.getElem?_set_ne (by omega)]; exact h.2.2.2.1
  · rw [List.getElem?_set_self (by omega)]
theorem RU.cls (h : RU A r u) : xcls A r = some 3 := h_cls h.1
theorem RU.g0 (h : RU A r u) : gN A r 3 0 = some (r + 1) := h_gN h.1 rfl
theorem RU.g1 (h : RU A r u) : gN A r 3 1 = some (r + 2) := h_gN h.1 rfl
theorem RU.g2 (h : RU A r u) : gN A r 3 2 = some (r + 3) := h_gN h.1 rfl
theorem RU.g3 (h : RU A r u) : gI A r 3 3 = some u.2.1 := h_gI h.1 rfl
theorem RU.g4 (h : RU A r u) : gI A r 3 4 = some u.2.2.1 := h_gI h.1 rfl
theorem RU.g5 (h : RU A r u) : gI A r 3 5 = some u.2.2.2.1 := h_gI h.1 rfl
theorem RU.g6 (h : RU A r u) : gI A r 3 6 = some u.2.2.2.2.1 := h_gI h.1 rfl
theorem RU.g7 (h : RU A r u) : gI A r 3 7 = some u.2.2.2.2.2 := h_gI h.1 rfl
/-! ===== the store as mathematics ===== -/
abbrev Wr : Type := Nat × Nat × Pg
/-- file, disk, writes that wait, how deep, the time -/
abbrev St : Type := Bk × Bk × List Wr × Nat × Nat
def hsh (salt k : Nat) : Nat := (421 * k + salt) % 1024
def clm (P : Pg) (i : Nat) : Bool := match P with
  | none => false
  | some q => q.2.1 == i % 2 ^ q.1
/-- whose a slot, or a hash, is -/
def own (B : Bk) (i : Nat) : Nat := (fst1 (fun b => clm (B b) i) 24 0).getD 0
def wrR (w : Nat → Int32) (o : Nat) (q : Wr) : Prop := w o = nI q.1 ∧ w (o + 1) = nI q.2.1 ∧ pgR w (o + 2) q.2.2 ∧ q.1 < 24
/-- the ring -/
def rngR (w : Nat → Int32) (e : Nat) (W : List Wr) : Prop := e < 40 ∧ W.length ≤ 40 ∧ ∀ i q, W[i]? = some q → wrR w ((e + i) % 40 * 12) q
def RS (s : xS) (S : St) : Prop := pgs s.1 0 S.1 ∧ pgs s.2.1 0 S.2.1 ∧ (∀ i, i < 64 → s.2.2.1 i = nI (own S.1 i)) ∧ (∃ e, s.2.2.2.2.1 = nI e ∧ rngR s.2.2.2.1 e S.2.2.1) ∧ s.2.2.2.2.2.1 = nI S.2.2.1.length ∧ s.2.2.2.2.2.2.1 = nI S.2.2.2.1 ∧ s.2.2.2.2.2.2.2 = nI S.2.2.2.2
theorem hsh_lt (salt k : Nat) : hsh salt k < 1024 := Nat.mod_lt _ (by omega)
theorem c_hashBy {k t : Nat} (hk : k < 1000) (ht : t < 1000) : xC E (d + 1) 28 [.int (nI k), .int (nI t)] A = some (some (.int (nI (hsh t k))), A) := by
  rw [k28]
  simp only [zl, pk_mul, nI_add]
  rw [n_rem (by omega) (by omega) (by omega)]; rfl
theorem c_hashOf (hu : RU A r u) {k t : Nat} (hk : k < 1000) (ht : t < 1000) (hs : u.2.2.2.2.2 = nI t) : xC E (d + 2) 29 [.ref r, .int (nI k)] A = some (some (.int (nI (hsh t k))), A) := by
  rw [k29 _ _ _ _ _ hu.cls, hu.g7, Option.bind_some, hs, c_hashBy hk ht, xI_s, Option.bind_some]
theorem c_ownerOf (h : ST A a s) {i : Nat} (hi : i < 64) : xC E (d + 1) 300 [.ref a, .int (nI i)] A = some (some (.int (s.2.2.1 i)), A) := by
  rw [k300 _ _ _ _ _ h.cls, if_neg (nI_pos (by omega)), if_neg (by rw [zl]; exact nI_ge (by omega) (by omega)), h.g2, Option.bind_some, h_aI h.2.2.2.1 hi (by omega), Option.bind_some]
theorem c_ownerNeg (h : ST A a s) {x : Int32} (hx : x < 0) : xC E (d + 1) 300 [.ref a, .int x] A = some (some (.int (-1)), A) := by
  rw [k300 _ _ _ _ _ h.cls, if_pos hx]
theorem c_setOwner (h : ST A a s) {i : Nat} (hi : i < 64) (x : Int32) : xC E (d + 1) 301 [.ref a, .int (nI i), .int x] A = some (none, A.set (a + 5) (ia 64 (upd s.2.2.1 i x))) := by
  rw [k301 _ _ _ _ _ _ h.cls, if_neg (nI_pos (by omega)), if_neg (by rw [zl]; exact nI_ge (by omega) (by omega)), h.g2, Option.bind_some, h_sI0 h.2.2.2.1 hi (by omega), Option.bind_some]
theorem c_soughtIn (h : ST A a s) (hu : RU A r u) {B : Bk} (ho : ∀ i, i < 64 → s.2.2.1 i = nI (own B i)) {k t : Nat} (hk : k < 1000) (ht : t < 1000) (hs : u.2.2.2.2.2 = nI t) : xC E (d + 3) 45 [.ref a, .int (nI k), .ref r] A = some (some (.int (nI (own B (hsh t k % 64)))), A) := by
  have h1 := hsh_lt t k
  rw [k45 _ _ _ _ _ _ h.cls, c_hashOf hu hk ht hs, xI_s, Option.bind_some, n_and63 (by omega), c_ownerOf h (by omega), xI_s, Option.bind_some, ho _ (by omega)]
theorem c_keys_loop (h : ST A a s) {B : Bk} (hB : pgs s.1 0 B) : ∀ c i, i + c = 24 → xD E (d + 3) 44 4 [.ref a, .int (nI (cnt (fun b => (ents (B b)).length) i)), .int (nI i)] [] A = some (some (.int (nI (keysN B))), A)
  | 0, i, hc => by
    rw [e44_4, if_pos (by rw [zl]; exact nI_le (by omega) (by omega)), show i = 24 by omega]; rfl
  | c + 1, i, hc => by
    rw [e44_4, if_neg (by rw [zl]; exact nI_ge (by omega) (by omega)), h.g0, Option.bind_some, c_many h.2.1 hB (by omega), xI_s, Option.bind_some, nI_add, zl, nI_add]
    exact c_keys_loop h hB c (i + 1) (by omega)
theorem c_keysThere (h : ST A a s) {B : Bk} (hB : pgs s.1 0 B) : xC E (d + 3) 44 [.ref a] A = some (some (.int (nI (keysN B))), A) := by
  rw [k44 _ _ _ _ h.cls]; simp only [zl]; exact c_keys_loop h hB 24 0 rfl
theorem c_slotsThere (h : ST A a s) {n : Nat} (hn : s.2.2.2.2.2.2.1 = nI n) (h6 : n ≤ 6) : xC E (d + 1) 43 [.ref a] A = some (some (.int (nI (2 ^ n))), A) := by
  rw [k43 _ _ _ _ h.cls, h.g6, Option.bind_some, hn, n_shl n (by omega)]
theorem pgR_mv {f g : Nat → Int32} {o o' : Nat} {P : Pg} (h : pgR f o P) (hg : ∀ j, j < 10 → g (o' + j) = f (o + j)) : pgR g o' P := by
  obtain ⟨h0, h1, h2, h3, h4⟩ := h
  refine ⟨h0, ?_, ?_, fun i k v hi => ?_, fun hq => ?_⟩
  · have := hg 0 (by omega); simp only [Nat.add_zero] at this; rw [this]; exact h1
  · rw [hg 3 (by omega)]; exact h2
  · have hl : i < (ents P).length := (List.getElem?_eq_some_iff.mp hi).1
    have e1 := hg (4 + i) (by omega)
    have e2 := hg (7 + i) (by omega)
    rw [← Nat.add_assoc, ← Nat.add_assoc] at e1 e2
    rw [e1, e2]; exact h3 i k v hi
  · rw [hg 1 (by omega), hg 2 (by omega)]; exact h4 hq
/-- the eldest write is done -/
def eld (S : St) : St := match S.2.2.1 with
  | [] => S
  | q :: W => (S.1, ub S.2.1 q.1 q.2.2, W, S.2.2.2)
theorem c_writeAt (h : ST A a s) {e i : Nat} (he : s.2.2.2.2.1 = nI e) (h1 : e < 40) (h2 : i ≤ 40) : xC E (d + 1) 56 [.ref a, .int (nI i)] A = some (some (.int (nI ((e + i) % 40 * 12))), A) := by
  rw [k56 _ _ _ _ _ h.cls, h.g4, Option.bind_some, he]
  simp only [zl, nI_add]
  rw [n_rem (by omega) (by omega) (by omega), pk_mul]
theorem c_doEldest (h : ST A a s) {S : St} {q : Wr} {W : List Wr} (hS : RS s S) (hW : S.2.2.1 = q :: W) : ∃ A' s', xC E (d + 2) 57 [.ref a] A = some (none, A') ∧ ST A' a s' ∧ RS s' (eld S) ∧ sm (inS a) A A' := by
  obtain ⟨r1, r2, r3, ⟨e, r4, r5, r6, r7⟩, r8, r9, r10⟩ := hS
  have hq := r7 0 q (by rw [hW]; rfl)
  rw [Nat.add_zero] at hq
  have hlen : S.2.2.1.length = W.length + 1 := by rw [hW]; rfl
  obtain ⟨q1, q2, q3, q4⟩ := hq
  obtain ⟨a1, a2⟩ := h.sG (va_cpy s.2.2.2.1 s.2.1 (e % 40 * 12 + 2) (q.1 * 10) 10)
  obtain ⟨A2, b1, b2, b3⟩ := a1.p4 (nI ((e + 1) % 40))
  obtain ⟨A3, c1, c2, c3⟩ := b2.p5 (nI W.length)
  refine ⟨A3, _, ?_, c2, ?_, (a2.trans b3).trans c3⟩
  · rw [k57 _ _ _ _ h.cls]
    have h0 := c_writeAt (E := E) (d := d) (i := 0) h r4 r5 (by omega)
    simp only [zl, Nat.add_zero] at h0 ⊢
    rw [h0, xI_s]
    simp only [Option.bind_some, h.g3, h.g1, h.2.2.1.gN]
    rw [h_aI h.2.2.2.2 (by omega) (by omega)]
    simp only [Option.bind_some, q1]
    rw [c_isB q4, xI_s]
    simp only [Option.bind_some]
    rw [if_neg (show ¬ nI 1 = nI 0 by decide)]
    simp only [nI_add, pk_mul, Option.bind_some, h.g3, h.g1, h.2.2.1.gN]
    rw [h_copy h.2.2.2.2 h.2.2.1.2 (by omega) (by omega) (by omega) (by omega)]
    simp only [Option.bind_some]
    rw [e57_43]
    simp only [zl, Option.bind_some, a1.g4]
    simp only [r4, nI_add]
    rw [n_rem (by omega) (by omega) (by omega), b1]
    simp only [Option.bind_some, b2.g5]
    rw [r8, hlen, pk_sub (by omega), Nat.add_sub_cancel, c1, Option.bind_some]
  · unfold eld
    rw [hW]
    refine ⟨r1, pgs_upd r2 (fun j hj => pk_cpy_out (by omega)) (pgR_mv q3 ?_), r3, ⟨(e + 1) % 40, rfl, by omega, ?_, ?_⟩, rfl, r9, r10⟩
    · intro j hj
      show va_cpy s.2.2.2.1 s.2.1 (e % 40 * 12 + 2) (q.1 * 10) 10 (q.1 * 10 + 0 + j) = _
      rw [pk_cpy_in (by omega) (by omega), show e % 40 * 12 + 2 + (q.1 * 10 + 0 + j - q.1 * 10) = e % 40 * 12 + 2 + j by omega]
    · show W.length ≤ 40
      omega
    · intro i w hw
      have := r7 (i + 1) w (by rw [hW]; exact hw)
      rw [show ((e + 1) % 40 + i) % 40 = (e + (i + 1)) % 40 by omega]
      exact this
theorem cpy_at {f g : Nat → Int32} {n j : Nat} (h : j < n) : va_cpy f g 0 0 n j = f j := by
  rw [pk_cpy_in (by omega) (by omega)]; congr 1; omega
theorem wrR_cong {f g : Nat → Int32} {o : Nat} {q : Wr} (h : wrR f o q) (hg : ∀ j, o ≤ j → j < o + 12 → g j = f j) : wrR g o q := by
  refine ⟨?_, ?_, pgR_cong h.2.2.1 (fun j h1 h2 => hg j (by omega) (by omega)), h.2.2.2⟩
  · rw [hg _ (by omega) (by omega)]; exact h.1
  · rw [hg _ (by omega) (by omega)]; exact h.2.1
theorem inS_off {a c q : Nat} (hd : a + 7 ≤ c ∨ c + 7 ≤ a) (h1 : c ≤ q) (h2 : q < c + 7) : ¬ inS a q := fun h => by
  have := h.1; have := h.2; omega
theorem c_copyFrom {c : Nat} {s2 : xS} (h : ST A a s) (h2 : ST A c s2) (hd : a + 7 ≤ c ∨ c + 7 ≤ a) {S : St} (hS : RS s2 S) : ∃ A' s', xC E (d + 2) 42 [.ref a, .ref c] A = some (none, A') ∧ ST A' a s' ∧ RS s' S ∧ sm (inS a) A A' := by
  obtain ⟨f, g, o, w, el, wt, dp, tm⟩ := s
  obtain ⟨f2, g2, o2, w2, el2, wt2, dp2, tm2⟩ := s2
  have kp : ∀ {A' : xH}, sm (inS a) A A' → ST A' c (f2, g2, o2, w2, el2, wt2, dp2, tm2) := fun k => h2.kp k (fun q q1 q2 => inS_off hd q1 q2)
  obtain ⟨a1, m1⟩ := h.sF (va_cpy f2 f 0 0 240)
  obtain ⟨a2, m2⟩ := a1.sG (va_cpy g2 g 0 0 240)
  have m2' := m1.trans m2
  obtain ⟨a3, m3⟩ := a2.sO (va_cpy o2 o 0 0 64)
  have m3' := m2'.trans m3
  obtain ⟨a4, m4⟩ := a3.sW (va_cpy w2 w 0 0 480)
  have m4' := m3'.trans m4
  obtain ⟨A5, e5, a5, m5⟩ := a4.p4 el2
  have m5' := m4'.trans m5
  obtain ⟨A6, e6, a6, m6⟩ := a5.p5 wt2
  have m6' := m5'.trans m6
  obtain ⟨A7, e7, a7, m7⟩ := a6.p6 dp2
  have m7' := m6'.trans m7
  obtain ⟨A8, e8, a8, m8⟩ := a7.p7 tm2
  have m8' := m7'.trans m8
  dsimp only at a1 a2 a3 a4 a5 a6 a7 a8
  refine ⟨A8, _, ?_, a8, ?_, m8'⟩
  · rw [k42 _ _ _ _ _ h.cls]
    simp only [Option.bind_some, h.g0, h2.g0, zl]
    rw [c_copy h.2.1 h2.2.1, xV_s]
    simp only [Option.bind_some, a1.g1, (kp m1).g1]
    rw [c_copy a1.2.2.1 (kp m1).2.2.1, xV_s]
    simp only [Option.bind_some, a2.g2, (kp m2').g2]
    rw [h_copy (kp m2').2.2.2.1 a2.2.2.2.1 (by omega) (by omega) (by omega) (by omega)]
    simp only [Option.bind_some, a3.g3, (kp m3').g3, h_lA a3.2.2.2.2]
    rw [h_copy (kp m3').2.2.2.2 a3.2.2.2.2 (by omega) (by omega) (by omega) (by omega)]
    simp only [Option.bind_some, (kp m4').g4, e5, (kp m5').g5, e6, (kp m6').g6, e7, (kp m7').g7, e8]
  · obtain ⟨r1, r2, r3, ⟨e, r4, r5, r6, r7⟩, r8, r9, r10⟩ := hS
    refine ⟨pgs_cong r1 (fun j _ hj => cpy_at (by omega)), pgs_cong r2 (fun j _ hj => cpy_at (by omega)), fun i hi => ?_, ⟨e, r4, r5, r6, fun i q hq => wrR_cong (r7 i q hq) (fun j h1 h2 => cpy_at (by omega))⟩, r8, r9, r10⟩
    show va_cpy o2 o 0 0 64 i = _
    rw [cpy_at hi]; exact r3 i hi
theorem oI_n : oI none = (-1 : Int32) := rfl
theorem oI_s (n : Nat) : oI (some n) = nI n := rfl
/-- the value of a key among entries -/
def valO (l : List (Nat × Nat)) (k : Nat) : Option Nat := (kIdx l k).bind fun i => (l[i]?).map (·.2)
theorem kIdx_some : ∀ {l : List (Nat × Nat)} {k i : Nat}, kIdx l k = some i → ∃ v, l[i]? = some (k, v)
  | [], k, i, h => by simp [kIdx] at h
  | e :: l, k, i, h => by
    unfold kIdx at h
    split at h
    · rename_i q
      cases h
      exact ⟨e.2, by rw [← q]; rfl⟩
    · cases hj : kIdx l k with
      | none => rw [hj] at h; simp at h
      | some j =>
        rw [hj] at h
        simp only [Option.map_some, Option.some.injEq] at h
        obtain ⟨v, hv⟩ := kIdx_some hj
        exact ⟨v, by rw [← h]; exact hv⟩
theorem kIdx_none : ∀ {l : List (Nat × Nat)} {k : Nat}, kIdx l k = none ↔ ∀ e ∈ l, e.1 ≠ k
  | [], k => by simp [kIdx]
  | e :: l, k => by
    unfold kIdx
    by_cases q : e.1 = k
    · rw [if_pos q]; simp [q]
    · rw [if_neg q, Option.map_eq_none_iff, kIdx_none]
      simp [q]
theorem fst1_lt {P : Nat → Bool} : ∀ {n i j : Nat}, fst1 P n i = some j → i ≤ j ∧ j < i + n ∧ P j = true
  | 0, i, j, h => by simp [fst1] at h
  | n + 1, i, j, h => by
    unfold fst1 at h
    split at h
    · rename_i q
      cases h
      exact ⟨by omega, by omega, q⟩
    · obtain ⟨h1, h2, h3⟩ := fst1_lt h
      exact ⟨by omega, by omega, h3⟩
theorem own_lt (B : Bk) (i : Nat) : own B i < 24 := by
  unfold own
  cases h : fst1 (fun b => clm (B b) i) 24 0 with
  | none => simp
  | some j => have := fst1_lt h; simp only [Option.getD_some]; omega
theorem c_valueOf (h : ST A a s) (hu : RU A r u) {B : Bk} (hB : pgs s.1 0 B) (ho : ∀ i, i < 64 → s.2.2.1 i = nI (own B i)) (hks : ∀ b e, e ∈ ents (B b) → e.1 < 2 ^ 31) {k t : Nat} (hk : k < 1000) (ht : t < 1000) (hs : u.2.2.2.2.2 = nI t) : xC E (d + 4) 46 [.ref a, .int (nI k), .ref r] A = some (some (.int (oI (valO (ents (B (own B (hsh t k % 64)))) k))), A) := by
  have hlt := own_lt B (hsh t k % 64)
  rw [k46 _ _ _ _ _ _ h.cls, c_soughtIn h hu ho hk ht hs, xI_s]
  generalize own B (hsh t k % 64) = b at hlt ⊢
  have hl := hB.len hlt
  simp only [Option.bind_some, h.g0]
  rw [c_find h.2.1 hB hlt (by omega) (hks b), xI_s, Option.bind_some]
  unfold valO
  cases hi : kIdx (ents (B b)) k with
  | none => dsimp only; rw [oI_n, if_pos rfl, Option.bind_none, oI_n]
  | some i =>
    obtain ⟨v, hv⟩ := kIdx_some hi
    have hi2 := (List.getElem?_eq_some_iff.mp hv).1
    dsimp only
    rw [oI_s, if_neg (n_m1ne (by omega)), h.g0, Option.bind_some, c_valueAt h.2.1 hB hlt hv, xI_s, Option.bind_some, Option.bind_some, hv]; rfl
theorem telI_off {B : Bk} {x w : Int32} (h : x < 0 ∨ nI 24 ≤ x ∨ w < 0 ∨ nI 10 ≤ w) : telI B x w = -1 := if_pos h
theorem telI_on {B : Bk} {b w : Nat} (hb : b < 24) (hw : w < 10) : telI B (nI b) (nI w) = tel (B b) w := by
  unfold telI
  rw [if_neg, nI_clamp (by omega), nI_clamp (by omega)]
  rintro (h | h | h | h)
  · exact nI_pos (by omega) h
  · exact nI_ge hb (by omega) h
  · exact nI_pos (by omega) h
  · exact nI_ge hw (by omega) h
theorem c_tell {p : Nat} {f : Nat → Int32} {B : Bk} (h : PG A p f) (hB : pgs f 0 B) (x w : Int32) : xC E (d + 3) 10 [.ref p, .int x, .int w] A = some (some (.int (telI B x w)), A) := by
  rw [k10 _ _ _ _ _ _ h.cls, c_isBucket, xI_s, Option.bind_some]
  dsimp only
  rcases pk_ix x (show 24 < 2 ^ 31 by omega) with hx | hx | ⟨b, hb, rfl⟩
  · rw [if_pos (Or.inl hx)]
    rw [if_pos (show nI 0 = 0 by rfl), telI_off (Or.inl hx)]
  · rw [if_pos (Or.inr hx)]
    rw [if_pos (show nI 0 = 0 by rfl), telI_off (Or.inr (Or.inl hx))]
  · rw [if_neg (show ¬ (nI b < 0 ∨ nI 24 ≤ nI b) from fun q => q.elim (nI_pos (by omega)) (nI_ge hb (by omega))), if_neg (show ¬ nI 1 = 0 by decide)]
    rcases pk_ix w (show 10 < 2 ^ 31 by omega) with hw | hw | ⟨j, hj, rfl⟩
    · rw [if_pos hw, telI_off (Or.inr (Or.inr (Or.inl hw)))]
    · have hw2 : ¬ w < (10 : Int32) := by rw [zl]; exact Int32.not_lt.mpr hw
      have hw3 : ¬ w < 0 := fun q => by
        have h1 := Int32.lt_of_lt_of_le q (show (0 : Int32) ≤ nI 10 by decide)
        exact hw2 (by rw [zl]; exact h1)
      rw [if_neg hw3, if_neg hw2, telI_off (Or.inr (Or.inr (Or.inr hw)))]
    · rw [telI_on hb hj, if_neg (nI_pos (by omega))]
      have hc := pg_cell (E := E) (d := d + 1) (b := b) (w := j) h (by omega)
      simp only [zl, nI_add, pk_mul, Nat.add_zero]
      rw [if_pos (nI_lt hj (by omega))]
      unfold tel
      obtain ⟨q0, q1, q2, q3, q4⟩ := hB b hb
      by_cases e0 : j = 0
      · subst e0
        rw [if_pos rfl, if_pos rfl, e10_54, if_neg (show ¬ nI 1 = (0 : Int32) by decide), hc, xI_s, Option.bind_some]
        dsimp only
        rw [Nat.add_zero, hB.us hb]
      · rw [if_neg (fun q => e0 ((nI_eq (by omega) (by omega)).mp q)), if_neg e0, c_used h hB hb, xI_s, Option.bind_some]
        dsimp only
        cases hP : B b with
        | none => rw [if_pos (by rfl), e10_54, if_pos (by rfl)]
        | some q =>
          rw [if_neg (by show ¬ nI 1 = nI 0; decide)]
          rw [hP] at q0 q2 q3 q4
          have q5 := q4 (by simp)
          dsimp only [ents, pdp, ppx] at q0 q2 q3 q5 ⊢
          by_cases e4 : j < 4
          · rw [if_pos (nI_lt e4 (by omega)), e10_54, if_neg (show ¬ nI 1 = (0 : Int32) by decide), hc, xI_s, Option.bind_some]
            rcases (show j = 1 ∨ j = 2 ∨ j = 3 by omega) with rfl | rfl | rfl
            · rw [if_pos rfl]; exact congrArg (fun z => some (some (Value.int z), A)) q5.1
            · rw [if_neg (by omega), if_pos rfl]; exact congrArg (fun z => some (some (Value.int z), A)) q5.2
            · rw [if_neg (by omega), if_neg (by omega), if_pos rfl]; exact congrArg (fun z => some (some (Value.int z), A)) q2
          · rw [if_neg (nI_nlt (by omega) (by omega)), c_many h hB hb, xI_s, Option.bind_some, hP, pk_sub (by omega), n_rem (by omega) (by omega) (by omega)]
            rw [show (ents (some q)).length = q.2.2.length from rfl]
            rw [if_neg (show ¬ j = 1 by omega), if_neg (show ¬ j = 2 by omega), if_neg (show ¬ j = 3 by omega)]
            by_cases e5 : (j - 4) % 3 < q.2.2.length
            · rw [if_neg (nI_ge e5 (by omega)), e10_54, if_neg (show ¬ nI 1 = (0 : Int32) by decide), hc, xI_s, Option.bind_some]
              obtain ⟨ee, hee⟩ : ∃ ee, q.2.2[(j - 4) % 3]? = some ee := ⟨_, List.getElem?_eq_getElem e5⟩
              have q6 := q3 _ ee.1 ee.2 hee
              rw [hee]
              dsimp only
              by_cases e7 : j < 7
              · rw [if_pos e7, ← q6.1, show b * 10 + 0 + 4 + (j - 4) % 3 = b * 10 + j by omega]
              · rw [if_neg e7, ← q6.2, show b * 10 + 0 + 7 + (j - 4) % 3 = b * 10 + j by omega]
            · rw [if_pos (nI_le (by omega) (by omega)), e10_54, if_pos (show nI 0 = (0 : Int32) from rfl), List.getElem?_eq_none (by omega)]
end STORE
