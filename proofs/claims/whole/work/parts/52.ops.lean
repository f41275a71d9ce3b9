/-! ===== the class's store: small deeds ===== -/
section OPS
variable {E : Nat × (Nat → Int32)} {d a r : Nat} {A : xH} {s : xS} {u : xU} {R : Ru} {S : St}
theorem c_isBarred (h : ST A a s) (hR : RUR A r u R) (hd : a + 7 ≤ r ∨ r + 4 ≤ a) (hS : RS s S) {k : Nat} (hk : k < 1000) (ht : S.2.2.2.2 ≤ 999) (hdp : pgB S.1) : ∃ A', xC E (d + 5) 47 [.ref a, .int (nI k), .ref r] A = some (some (.int (nI (if brR R S.1 S.2.2.2.2 k = true then 1 else 0))), A') ∧ ST A' a s ∧ RUR A' r u R ∧ sm (inR r) A A' := by
  obtain ⟨A1, p1, p2, p3, p4⟩ := c_bars (E := E) (d := d) h hR.1 hd hR.2.1 hR.2.2.1 hS.1 (own_lt S.1 (hsh R.2.2.2 k % 64)) hk hR.2.2.2.2.2.2.2.2 hR.2.2.2.2.2.2.2.1 hS.2.2.2.2.2.2 hR.2.2.2.2.2.1 (hdp _) ht hR.2.2.2.2.2.2.1 hR.2.2.2.1 hR.2.2.2.2.1
  refine ⟨A1, ?_, h.kp p2 (fun q q1 q2 q3 => by rcases q3 with q3 | q3 <;> omega), hR.sR p3 p2, p2⟩
  rw [k47 _ _ _ _ _ _ h.cls, c_soughtIn h hR.1 hS.2.2.1 hk hR.2.2.2.2.2.2.2.2 hR.2.2.2.2.2.2.2.1, xI_s, Option.bind_some]
  dsimp only
  rw [p1, xI_s, Option.bind_some]
  dsimp only
  unfold brR
  generalize barF R.1 R.2.1 _ = v at p4 ⊢
  rcases (show v = 0 ∨ v = 1 by omega) with rfl | rfl
  · rfl
  · rfl
/-- what is told of the writes that wait -/
def telW (W : List Wr) (x w : Int32) : Int32 := if x < 0 ∨ nI W.length ≤ x then -1 else match W[x.toNatClampNeg]? with
  | none => -1
  | some q => if w = 0 then nI q.1 else if w = 1 then nI q.2.1 else if w = 2 then (if q.2.2 = none then -1 else nI (ents q.2.2).length) else -1
theorem c_tellWrite (h : ST A a s) (hS : RS s S) (x w : Int32) : xC E (d + 2) 58 [.ref a, .int x, .int w] A = some (some (.int (telW S.2.2.1 x w)), A) := by
  obtain ⟨-, -, -, ⟨e, r4, r5, r6, r7⟩, r8, -, -⟩ := hS
  rw [k58 _ _ _ _ _ _ h.cls, h.g5]
  unfold telW
  rcases pk_ix x (show S.2.2.1.length < 2 ^ 31 by omega) with hx | hx | ⟨i, hi, rfl⟩
  · rw [if_pos hx, if_pos (Or.inl hx)]
  · have hx2 : ¬ x < 0 := fun q => by
      have h1 := Int32.lt_of_lt_of_le q (nI_pos' (n := S.2.2.1.length) (by omega))
      exact Int32.not_lt.mpr hx h1
    rw [if_neg hx2, if_pos (Or.inr hx), Option.bind_some, r8, if_neg (Int32.not_lt.mpr hx)]
  · obtain ⟨q, hq⟩ : ∃ q, S.2.2.1[i]? = some q := ⟨_, List.getElem?_eq_getElem hi⟩
    obtain ⟨q1, q2, q3, q4⟩ := r7 i q hq
    rw [if_neg (nI_pos (by omega)), if_neg (show ¬ (nI i < 0 ∨ nI S.2.2.1.length ≤ nI i) from fun q => q.elim (nI_pos (by omega)) (nI_ge hi (by omega))), nI_clamp (by omega), hq, Option.bind_some, r8, if_pos (nI_lt hi (by omega)), c_writeAt h r4 r5 (by omega), xI_s, Option.bind_some]
    dsimp only
    by_cases w0 : w = 0
    · rw [if_pos w0, if_pos w0, h.g3, Option.bind_some, h_aI h.2.2.2.2 (by omega) (by omega), Option.bind_some, q1]
    · rw [if_neg w0, if_neg w0]
      by_cases w1 : w = 1
      · rw [if_pos w1, if_pos w1, h.g3, Option.bind_some, show (1 : Int32) = nI 1 from rfl, nI_add, h_aI h.2.2.2.2 (by omega) (by omega), Option.bind_some, q2]
      · rw [if_neg w1, if_neg w1]
        by_cases w2 : w = 2
        · rw [if_pos w2, if_pos w2, h.g3, Option.bind_some, show nI ((e + i) % 40 * 12) + (2 : Int32) + (0 : Int32) = nI ((e + i) % 40 * 12 + 2) by rw [show (2 : Int32) = nI 2 from rfl, nI_add, Int32.add_zero], h_aI h.2.2.2.2 (by omega) (by omega), Option.bind_some, q3.2.1]
          cases hP : q.2.2 with
          | none => rw [if_pos (by rfl), if_pos rfl]
          | some p =>
            rw [hP] at q3
            rw [if_neg (by show ¬ nI 1 = 0; decide), if_neg (by simp), Option.bind_some, show nI ((e + i) % 40 * 12) + (2 : Int32) + (3 : Int32) = nI ((e + i) % 40 * 12 + 2 + 3) by rw [show (2 : Int32) = nI 2 from rfl, nI_add, show (3 : Int32) = nI 3 from rfl, nI_add], h_aI h.2.2.2.2 (by omega) (by omega), Option.bind_some, q3.2.2.1]
        · rw [if_neg w2, if_neg w2]
/-- what the writes that wait cost -/
def wsum : List Wr → Nat
  | [] => 0
  | q :: W => q.2.1 + wsum W
theorem c_wait_loop (h : ST A a s) (hS : RS s S) : ∀ c i v, i + c = S.2.2.1.length → xD E (d + 2) 59 4 [.ref a, .int (nI v), .int (nI i)] [] A = some (some (.int (nI (v + wsum (S.2.2.1.drop i)))), A)
  | 0, i, v, hc => by
    obtain ⟨-, -, -, ⟨e, r4, r5, r6, r7⟩, r8, -, -⟩ := hS
    rw [e59_4, h.g5, Option.bind_some, r8, if_pos (nI_le (by omega) (by omega)), List.drop_of_length_le (by omega)]; rfl
  | c + 1, i, v, hc => by
    have hS' := hS
    obtain ⟨-, -, -, ⟨e, r4, r5, r6, r7⟩, r8, -, -⟩ := hS
    have hi : i < S.2.2.1.length := by omega
    obtain ⟨q1, q2, q3, q4⟩ := r7 i S.2.2.1[i] (List.getElem?_eq_getElem hi)
    rw [e59_4, h.g5, Option.bind_some, r8, if_neg (nI_ge hi (by omega)), h.g3, Option.bind_some, c_writeAt h r4 r5 (by omega), xI_s, Option.bind_some]
    dsimp only
    rw [show (1 : Int32) = nI 1 from rfl, nI_add, h_aI h.2.2.2.2 (by omega) (by omega), Option.bind_some, q2, nI_add, nI_add, c_wait_loop h hS' c (i + 1) _ (by omega), List.drop_eq_getElem_cons hi]
    simp only [wsum, Nat.add_assoc]
theorem c_costOfWaiting (h : ST A a s) (hS : RS s S) : xC E (d + 2) 59 [.ref a] A = some (some (.int (nI (wsum S.2.2.1))), A) := by
  have := c_wait_loop (E := E) (d := d) h hS S.2.2.1.length 0 0 (by omega)
  rw [List.drop_zero, Nat.zero_add] at this
  rw [k59 _ _ _ _ h.cls]; exact this
/-- the n eldest writes are done -/
def eldN : Nat → St → St
  | 0, S => S
  | n + 1, S => eldN n (eld S)
theorem eld_len {S : St} : (eld S).2.2.1.length = S.2.2.1.length - 1 := by
  unfold eld
  split
  · rename_i h; rw [h]; rfl
  · rename_i h; rw [h]; rfl
theorem eldN_len : ∀ n (S : St), (eldN n S).2.2.1.length = S.2.2.1.length - n
  | 0, S => rfl
  | n + 1, S => by
    show (eldN n (eld S)).2.2.1.length = _
    rw [eldN_len n, eld_len]; omega
theorem c_dow_loop : ∀ c (A : xH) (s : xS) (S : St) (i : Nat), ST A a s → RS s S → c ≤ S.2.2.1.length → i + c < 2 ^ 31 → ∃ A' s', xD E (d + 3) 60 19 [.ref a, .int (nI (i + c)), .int (nI i)] [] A = some (some (.int (nI (S.2.2.1.length - c))), A') ∧ ST A' a s' ∧ RS s' (eldN c S) ∧ sm (inS a) A A'
  | 0, A, s, S, i, h, hS, hc, hb => by
    refine ⟨A, s, ?_, h, hS, sm.refl _ _⟩
    rw [e60_19, if_pos (nI_le (by omega) (by omega)), h.g5, Option.bind_some, hS.2.2.2.2.1]; rfl
  | c + 1, A, s, S, i, h, hS, hc, hb => by
    obtain ⟨q, W, hW⟩ : ∃ q W, S.2.2.1 = q :: W := by
      cases hW : S.2.2.1 with
      | nil => rw [hW] at hc; simp at hc
      | cons q W => exact ⟨q, W, rfl⟩
    obtain ⟨A1, s1, p1, p2, p3, p4⟩ := c_doEldest (E := E) (d := d) h hS hW
    have hl := eld_len (S := S)
    obtain ⟨A2, s2, q1, q2, q3, q4⟩ := c_dow_loop c A1 s1 (eld S) (i + 1) p2 p3 (by omega) (by omega)
    refine ⟨A2, s2, ?_, q2, q3, p4.trans q4⟩
    rw [e60_19, if_neg (nI_ge (by omega) (by omega)), p1, xV_s, Option.bind_some, nI_1, show i + (c + 1) = i + 1 + c by omega, q1, hl, show S.2.2.1.length - 1 - c = S.2.2.1.length - (c + 1) by omega]
theorem c_doWrites (h : ST A a s) (hS : RS s S) {n : Nat} (hn : n ≤ S.2.2.1.length) : ∃ A' s', xC E (d + 3) 60 [.ref a, .int (nI n)] A = some (some (.int (nI (S.2.2.1.length - n))), A') ∧ ST A' a s' ∧ RS s' (eldN n S) ∧ sm (inS a) A A' := by
  have h40 : S.2.2.1.length ≤ 40 := by
    obtain ⟨-, -, -, ⟨e, -, -, r6, -⟩, -⟩ := hS
    exact r6
  obtain ⟨A2, s2, q1, q2, q3, q4⟩ := c_dow_loop (E := E) (d := d) n A s S 0 h hS hn (by omega)
  refine ⟨A2, s2, ?_, q2, q3, q4⟩
  rw [k60 _ _ _ _ _ h.cls, if_pos (nI_pos' (by omega)), h.g5, Option.bind_some, hS.2.2.2.2.1, if_pos (nI_le hn (by omega))]
  rw [Nat.zero_add] at q1
  exact q1
theorem c_doWrites_no (h : ST A a s) (hS : RS s S) {x : Int32} (hx : x < 0 ∨ nI S.2.2.1.length < x) : xC E (d + 1) 60 [.ref a, .int x] A = some (some (.int (if x < 0 then -1 else -3)), A) := by
  rw [k60 _ _ _ _ _ h.cls]
  by_cases q : x < 0
  · rw [if_neg (Int32.not_le.mpr q), if_pos q]
  · have h2 := hx.resolve_left q
    rw [if_pos (Int32.not_lt.mp q), if_neg q, h.g5, Option.bind_some, hS.2.2.2.2.1, if_neg (Int32.not_le.mpr h2)]
theorem pow6 {n : Nat} (h : n ≤ 6) : 2 ^ n = 1 ∨ 2 ^ n = 2 ∨ 2 ^ n = 4 ∨ 2 ^ n = 8 ∨ 2 ^ n = 16 ∨ 2 ^ n = 32 ∨ 2 ^ n = 64 := by
  rcases (show n = 0 ∨ n = 1 ∨ n = 2 ∨ n = 3 ∨ n = 4 ∨ n = 5 ∨ n = 6 by omega) with rfl | rfl | rfl | rfl | rfl | rfl | rfl <;> simp
theorem nxt_cls {st i j : Nat} (hst : st = 1 ∨ st = 2 ∨ st = 4 ∨ st = 8 ∨ st = 16 ∨ st = 32 ∨ st = 64) (h1 : i ≤ j) (h2 : j % st = i % st) (h3 : j ≠ i) : i + st ≤ j := by
  rcases hst with rfl | rfl | rfl | rfl | rfl | rfl | rfl <;> omega
theorem c_give_loop {st px to : Nat} (hst : st = 1 ∨ st = 2 ∨ st = 4 ∨ st = 8 ∨ st = 16 ∨ st = 32 ∨ st = 64) : ∀ n (A : xH) (s : xS) (i : Nat) (w1 : Value), ST A a s → 64 ≤ i + n → i < 128 → i % st = px → ∃ A' o, xD E (d + 2) 51 21 [.ref a, w1, .int (nI to), .int (nI st), .int (nI i)] [] A = some (none, A') ∧ ST A' a (s.1, s.2.1, o, s.2.2.2) ∧ (∀ j, j < 64 → o j = if i ≤ j ∧ j % st = px then nI to else s.2.2.1 j) ∧ sm (inS a) A A'
  | n, A, s, i, w1, h, hn, hi, hp => by
    rw [e51_21]
    by_cases q : 64 ≤ i
    · refine ⟨A, s.2.2.1, ?_, h, fun j hj => ?_, sm.refl _ _⟩
      · rw [if_pos (show (64 : Int32) ≤ nI i from nI_le (a := 64) q (by omega))]
      · rw [if_neg (by omega)]
    · obtain ⟨m, rfl⟩ : ∃ m, n = m + 1 := ⟨n - 1, by omega⟩
      obtain ⟨a1, m1⟩ := h.sO (upd s.2.2.1 i (nI to))
      have hs2 : (i + st) % st = px := by rw [Nat.add_mod_right]; exact hp
      have hs0 : 0 < st ∧ st ≤ 64 := by omega
      obtain ⟨A2, o, q1, q2, q3, q4⟩ := c_give_loop hst m _ _ (i + st) xJ a1 (by omega) (by omega) hs2
      refine ⟨A2, o, ?_, q2, fun j hj => ?_, m1.trans q4⟩
      · rw [if_neg (show ¬ (64 : Int32) ≤ nI i from nI_ge (b := 64) (by omega) (by omega)), c_setOwner h (by omega), xV_s, Option.bind_some, nI_add]; exact q1
      · rw [q3 j hj]
        by_cases e1 : i + st ≤ j ∧ j % st = px
        · rw [if_pos e1, if_pos ⟨by omega, e1.2⟩]
        · rw [if_neg e1]
          show upd s.2.2.1 i (nI to) j = _
          by_cases e2 : j = i
          · subst e2; rw [upd_s, if_pos ⟨Nat.le_refl _, hp⟩]
          · rw [upd_n e2, if_neg (fun q => e1 ⟨nxt_cls hst q.1 (q.2.trans hp.symm) e2, q.2⟩)]
theorem c_giveSlots (h : ST A a s) {B : Bk} (hB : pgs s.1 0 B) {b to : Nat} (hb : b < 24) (hu : B b ≠ none) (hdp : pdp (B b) ≤ 6) (hpx : ppx (B b) < 2 ^ pdp (B b)) : ∃ A' o, xC E (d + 3) 51 [.ref a, .int (nI b), .int (nI to)] A = some (none, A') ∧ ST A' a (s.1, s.2.1, o, s.2.2.2) ∧ (∀ j, j < 64 → o j = if j % 2 ^ pdp (B b) = ppx (B b) then nI to else s.2.2.1 j) ∧ sm (inS a) A A' := by
  have hst := pow6 hdp
  obtain ⟨A2, o, q1, q2, q3, q4⟩ := c_give_loop (E := E) (d := d + 1) (to := to) hst 64 A s (ppx (B b)) (.int (nI b)) h (by omega) (by omega) (Nat.mod_eq_of_lt hpx)
  refine ⟨A2, o, ?_, q2, fun j hj => ?_, q4⟩
  · rw [k51 _ _ _ _ _ _ h.cls, h.g0, Option.bind_some, c_depth h.2.1 hB hb hu, xI_s, Option.bind_some]
    dsimp only
    rw [h.g0, Option.bind_some, c_prefix h.2.1 hB hb hu, xI_s, Option.bind_some]
    dsimp only
    rw [n_shl _ (by omega)]; exact q1
  · rw [q3 j hj]
    by_cases e1 : j % 2 ^ pdp (B b) = ppx (B b)
    · rw [if_pos e1, if_pos ⟨by rw [← e1]; exact Nat.mod_le _ _, e1⟩]
    · rw [if_neg e1, if_neg (fun q => e1 q.2)]
end OPS
