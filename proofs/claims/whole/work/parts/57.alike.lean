/-! ===== the class's store: what is not alike, what would split ===== -/
/-- how many entries another file does not hold -/
def nalL (t : Nat) (B2 : Bk) : List (Nat × Nat) → Nat
  | [] => 0
  | e :: l => (if valO (ents (B2 (own B2 (hsh t e.1 % 64)))) e.1 = some e.2 then 0 else 1) + nalL t B2 l
def keysNA (t : Nat) (B B2 : Bk) : Nat := cnt (fun b => nalL t B2 (ents (B b))) 24
def slotsNA (S S2 : St) : Nat := max (2 ^ S.2.2.2.1) (2 ^ S2.2.2.2.1) - min (2 ^ S.2.2.2.1) (2 ^ S2.2.2.2.1) + cnt (fun i => if own S.1 i = own S2.1 i then 0 else 1) (min (2 ^ S.2.2.2.1) (2 ^ S2.2.2.2.1))
/-- whether a put would split -/
noncomputable def wsp (R : Ru) (S : St) (k : Nat) : Nat := match kIdx (ents (S.1 (own S.1 (hsh R.2.2.2 k % 64)))) k with
  | some _ => 0
  | none => match ndS R.2.2.2 S.1 (own S.1 (hsh R.2.2.2 k % 64)) (hsh R.2.2.2 k) with
    | none => 0
    | some n => if n = 0 then 0 else if brR R S.1 S.2.2.2.2 k = true then 0 else 1
theorem valO_le {B : Bk} {b k w : Nat} (h : okk B) (hv : valO (ents (B b)) k = some w) : w ≤ 99 := by
  unfold valO at hv
  cases hi : kIdx (ents (B b)) k with
  | none => rw [hi] at hv; cases hv
  | some i =>
    rw [hi, Option.bind_some] at hv
    cases he : (ents (B b))[i]? with
    | none => rw [he] at hv; cases hv
    | some e =>
      rw [he] at hv
      have h1 : e.2 = w := Option.some.inj hv
      have h2 := ((h.2 b).2.1 e (List.mem_of_getElem? he)).2
      omega
section ALIKE
variable {E : Nat × (Nat → Int32)} {d a c r : Nat} {u : xU} {R : Ru} {A : xH} {s s2 : xS} {S S2 : St}
theorem c_placeKey_bad (h : ST A a s) {x y : Int32} (hx : (x < 0 ∨ nI 1000 ≤ x) ∨ y < 0 ∨ (99 : Int32) < y) : xC E (d + 2) 48 [.ref a, .int x, .int y, .ref r] A = some (some (.int (-1)), A) := by
  rw [k48 _ _ _ _ _ _ _ h.cls, c_isKey, xI_s, Option.bind_some]
  dsimp only
  by_cases q : x < 0 ∨ nI 1000 ≤ x
  · rw [if_pos q, if_pos (show nI 0 = 0 by rfl)]
  · rw [if_neg q, if_neg (show ¬ nI 1 = 0 by decide)]
    rcases hx.resolve_left q with y1 | y1
    · rw [if_pos y1]
    · by_cases y2 : y < 0
      · rw [if_pos y2]
      · rw [if_neg y2, if_neg (Int32.not_le.mpr y1)]
theorem c_removeKey_bad (h : ST A a s) {x : Int32} (hx : x < 0 ∨ nI 1000 ≤ x) : xC E (d + 2) 52 [.ref a, .int x, .ref r] A = some (some (.int (-1)), A) := by
  rw [k52 _ _ _ _ _ _ h.cls, c_isKey, xI_s, Option.bind_some]
  dsimp only
  rw [if_pos hx, if_pos (show nI 0 = 0 by rfl)]
theorem c_ka_in (h : ST A a s) (h2 : ST A c s2) (hR : RUR A r u R) (hS : RS s S) (hS2 : RS s2 S2) (hok : okk S.1) (hok2 : okk S2.1) {b : Nat} (hb : b < 24) : ∀ (rest pre : List (Nat × Nat)) (v : Nat), ents (S.1 b) = pre ++ rest → xD E (d + 5) 64 15 [.ref a, .ref c, .ref r, .int (nI v), .int (nI b), .int (nI pre.length)] [] A = xD E (d + 5) 64 5 [.ref a, .ref c, .ref r, .int (nI (v + nalL R.2.2.2 S2.1 rest)), .int (nI (b + 1)), xJ] [] A
  | [], pre, v, he => by
    have hl := (hok.2 b).1
    have hl2 : (ents (S.1 b)).length = pre.length := by rw [he, List.append_nil]
    rw [e64_15, h.g0, Option.bind_some, c_many h.2.1 hS.1 hb, xI_s, Option.bind_some]
    dsimp only
    rw [hl2, if_pos (nI_le (Nat.le_refl _) (by omega)), nI_1]
    exact (e64_5 ..).trans (e64_5 ..).symm
  | e :: rest, pre, v, he => by
    have hl := (hok.2 b).1
    have hl2 : (ents (S.1 b)).length = pre.length + (rest.length + 1) := by rw [he, List.length_append]; rfl
    have hi : (ents (S.1 b))[pre.length]? = some (e.1, e.2) := by
      rw [he, List.getElem?_append_right (Nat.le_refl _), Nat.sub_self]; rfl
    obtain ⟨k1, k2⟩ := (hok.2 b).2.1 e (by rw [he]; simp)
    have ih := fun v' => c_ka_in h h2 hR hS hS2 hok hok2 hb rest (pre ++ [e]) v' (by rw [he, List.append_assoc]; rfl)
    have e0 : nI (pre ++ [e]).length = nI (pre.length + 1) := by rw [List.length_append]; rfl
    rw [e64_15, h.g0, Option.bind_some, c_many h.2.1 hS.1 hb, xI_s, Option.bind_some]
    dsimp only
    rw [if_neg (nI_ge (by omega) (by omega)), h.g0, Option.bind_some, c_keyAt h.2.1 hS.1 hb hi, xI_s, Option.bind_some]
    dsimp only
    rw [c_valueOf h2 hR.1 hS2.1 hS2.2.2.1 (fun q x hx => by have := ((hok2.2 q).2.1 x hx).1; omega) k1 hR.2.2.2.2.2.2.2.2 hR.2.2.2.2.2.2.2.1, xI_s, Option.bind_some]
    dsimp only
    rw [h.g0, Option.bind_some, c_valueAt h.2.1 hS.1 hb hi, xI_s, Option.bind_some]
    dsimp only
    have hq : oI (valO (ents (S2.1 (own S2.1 (hsh R.2.2.2 e.1 % 64)))) e.1) = nI e.2 ↔ valO (ents (S2.1 (own S2.1 (hsh R.2.2.2 e.1 % 64)))) e.1 = some e.2 := by
      cases hv : valO (ents (S2.1 (own S2.1 (hsh R.2.2.2 e.1 % 64)))) e.1 with
      | none => exact ⟨fun z => absurd z.symm (n_m1ne (by omega)), fun z => by cases z⟩
      | some w =>
        have := valO_le hok2 hv
        rw [oI_s, nI_eq (by omega) (by omega)]
        exact ⟨fun z => by rw [z], fun z => Option.some.inj z⟩
    unfold nalL
    by_cases q : valO (ents (S2.1 (own S2.1 (hsh R.2.2.2 e.1 % 64)))) e.1 = some e.2
    · rw [if_pos (hq.mpr q), if_pos q, nI_1, ← e0, Nat.zero_add]
      exact ih v
    · rw [if_neg (fun z => q (hq.mp z)), if_neg q, nI_1, nI_1, ← e0, ← Nat.add_assoc]
      exact ih (v + 1)
theorem c_ka_out (h : ST A a s) (h2 : ST A c s2) (hR : RUR A r u R) (hS : RS s S) (hS2 : RS s2 S2) (hok : okk S.1) (hok2 : okk S2.1) : ∀ (n i : Nat) (w5 : Value), i + n = 24 → xD E (d + 5) 64 5 [.ref a, .ref c, .ref r, .int (nI (cnt (fun b => nalL R.2.2.2 S2.1 (ents (S.1 b))) i)), .int (nI i), w5] [] A = some (some (.int (nI (keysNA R.2.2.2 S.1 S2.1))), A)
  | 0, i, w5, hn => by
    obtain rfl : i = 24 := by omega
    rw [e64_5, if_pos (by decide)]; rfl
  | n + 1, i, w5, hn => by
    rw [e64_5, if_neg (show ¬ (24 : Int32) ≤ nI i from nI_ge (b := 24) (by omega) (by omega))]
    exact (c_ka_in h h2 hR hS hS2 hok hok2 (b := i) (by omega) (ents (S.1 i)) [] _ rfl).trans (c_ka_out h h2 hR hS hS2 hok hok2 n (i + 1) xJ (by omega))
theorem c_keysNotAlike (h : ST A a s) (h2 : ST A c s2) (hR : RUR A r u R) (hS : RS s S) (hS2 : RS s2 S2) (hok : okk S.1) (hok2 : okk S2.1) : xC E (d + 5) 64 [.ref a, .ref c, .ref r] A = some (some (.int (nI (keysNA R.2.2.2 S.1 S2.1))), A) := by
  rw [k64 _ _ _ _ _ _ h.cls]
  exact c_ka_out h h2 hR hS hS2 hok hok2 24 0 xJ rfl
theorem c_sa_loop (h : ST A a s) (h2 : ST A c s2) (hS : RS s S) (hS2 : RS s2 S2) {m : Nat} (hm : m ≤ 64) : ∀ (n i v : Nat), i + n = m → xD E (d + 2) 65 29 [.ref a, .ref c, .int (nI m), .int (nI (v + cnt (fun i => if own S.1 i = own S2.1 i then 0 else 1) i)), .int (nI i)] [] A = some (some (.int (nI (v + cnt (fun i => if own S.1 i = own S2.1 i then 0 else 1) m))), A)
  | 0, i, v, hn => by
    obtain rfl : i = m := by omega
    rw [e65_29, if_pos (nI_le (Nat.le_refl _) (by omega))]
  | n + 1, i, v, hn => by
    have o1 := own_lt S.1 i
    have o2 := own_lt S2.1 i
    have ih := c_sa_loop h h2 hS hS2 hm n (i + 1) v (by omega)
    rw [e65_29, if_neg (nI_ge (by omega) (by omega)), c_ownerOf h (by omega), xI_s, Option.bind_some]
    dsimp only
    rw [c_ownerOf h2 (by omega), xI_s, Option.bind_some]
    dsimp only
    rw [hS.2.2.1 i (by omega), hS2.2.2.1 i (by omega), nI_1]
    rw [show cnt (fun i => if own S.1 i = own S2.1 i then 0 else 1) (i + 1) = cnt (fun i => if own S.1 i = own S2.1 i then 0 else 1) i + (if own S.1 i = own S2.1 i then 0 else 1) from rfl] at ih
    by_cases q : own S.1 i = own S2.1 i
    · rw [if_pos (by rw [q])]
      rw [if_pos q, Nat.add_zero] at ih
      exact ih
    · rw [if_neg (fun z => q ((nI_eq (by omega) (by omega)).mp z)), nI_1]
      rw [if_neg q, ← Nat.add_assoc] at ih
      exact ih
theorem c_slotsNotAlike (h : ST A a s) (h2 : ST A c s2) (hS : RS s S) (hS2 : RS s2 S2) (hd1 : S.2.2.2.1 ≤ 6) (hd2 : S2.2.2.2.1 ≤ 6) : xC E (d + 2) 65 [.ref a, .ref c] A = some (some (.int (nI (slotsNA S S2))), A) := by
  have p1 := pow6 hd1
  have p2 := pow6 hd2
  have e1 := c_slotsThere (E := E) (d := d) h hS.2.2.2.2.2.1 hd1
  have e2 := c_slotsThere (E := E) (d := d) h2 hS2.2.2.2.2.2.1 hd2
  rw [k65 _ _ _ _ _ h.cls, e1, xI_s, Option.bind_some]
  dsimp only
  rw [e2, xI_s, Option.bind_some]
  dsimp only
  rw [e1, xI_s, Option.bind_some]
  dsimp only
  rw [e2, xI_s, Option.bind_some]
  dsimp only
  rw [n_min (by omega) (by omega), n_max (by omega) (by omega), pk_sub (by omega)]
  exact c_sa_loop h h2 hS hS2 (by omega) _ 0 _ (Nat.zero_add _)
theorem c_wouldSplit (h : ST A a s) (hR : RUR A r u R) (hd : a + 7 ≤ r ∨ r + 4 ≤ a) (hS : RS s S) (hok : okk S.1) (ht : S.2.2.2.2 ≤ 999) {k : Nat} (hk : k < 1000) : ∃ A', xC E (d + 6) 66 [.ref a, .int (nI k), .ref r] A = some (some (.int (nI (wsp R S k))), A') ∧ ST A' a s ∧ RUR A' r u R ∧ sm (inR r) A A' := by
  have hsl := hR.2.2.2.2.2.2.2.2
  have hsl2 := hR.2.2.2.2.2.2.2.1
  have hh := hsh_lt R.2.2.2 k
  obtain ⟨o1, o2⟩ := hok.1.own (show hsh R.2.2.2 k % 64 < 64 from Nat.mod_lt _ (by omega))
  obtain ⟨o3, -⟩ := clm_some o1
  have hb := own_lt S.1 (hsh R.2.2.2 k % 64)
  have hW := hok.2 (own S.1 (hsh R.2.2.2 k % 64))
  rw [k66 _ _ _ _ _ _ h.cls, c_soughtIn h hR.1 hS.2.2.1 hk hsl hsl2, xI_s, Option.bind_some]
  dsimp only
  rw [h.g0, Option.bind_some, c_find h.2.1 hS.1 hb (by omega) (fun e he => by have := (hW.2.1 e he).1; omega), xI_s, Option.bind_some]
  dsimp only
  unfold wsp
  cases hi : kIdx (ents (S.1 (own S.1 (hsh R.2.2.2 k % 64)))) k with
  | some i =>
    obtain ⟨w, hw⟩ := kIdx_some hi
    have hi2 := (List.getElem?_eq_some_iff.mp hw).1
    have hl3 := hW.1
    rw [oI_s, if_neg (n_m1ne (by omega))]
    exact ⟨A, rfl, h, hR, sm.refl _ _⟩
  | none =>
    rw [oI_n, if_pos rfl, c_hashOf hR.1 hk hsl hsl2, xI_s, Option.bind_some]
    dsimp only
    rw [c_splitsNeeded h hR.1 hS.1 hb o3 hW.2.2.1 hh hsl hsl2 (fun e he => (hW.2.1 e he).1), xI_s, Option.bind_some]
    dsimp only
    cases hn : ndS R.2.2.2 S.1 (own S.1 (hsh R.2.2.2 k % 64)) (hsh R.2.2.2 k) with
    | none =>
      rw [if_pos (show ndI none ≤ (0 : Int32) by decide)]
      exact ⟨A, rfl, h, hR, sm.refl _ _⟩
    | some n =>
      have hr2 := (room_of hok hn).2.1
      by_cases n0 : n = 0
      · subst n0
        rw [if_pos (show ndI (some 0) ≤ (0 : Int32) by decide)]
        exact ⟨A, rfl, h, hR, sm.refl _ _⟩
      · obtain ⟨A1, p1, p2, p3, p4⟩ := c_isBarred (E := E) (d := d) h hR hd hS hk ht (fun b => (hok.2 b).2.2.1)
        rw [if_neg (show ¬ ndI (some n) ≤ (0 : Int32) from nI_ge (a := 0) (b := n) (by omega) (by omega)), p1, xI_s, Option.bind_some]
        dsimp only
        rw [if_neg n0]
        by_cases br : brR R S.1 S.2.2.2.2 k = true
        · rw [if_pos br, if_pos br, if_neg (show ¬ nI 1 = 0 by decide)]
          exact ⟨A1, rfl, p2, p3, p4⟩
        · rw [if_neg br, if_neg br, if_pos (show nI 0 = 0 by rfl)]
          exact ⟨A1, rfl, p2, p3, p4⟩
end ALIKE
