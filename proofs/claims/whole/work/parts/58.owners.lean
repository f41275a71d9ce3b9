/-! ===== the class's store: whose a slot is by the disk ===== -/
/-- the deepest page so far that claims slot i; page b comes -/
def dwS (D : Bk) (i : Nat) (o : Option Nat) (b : Nat) : Option Nat := if clm (D b) i = true then (match o with
  | none => some b
  | some c => if pdp (D c) < pdp (D b) then some b else some c) else o
def dwN (D : Bk) (i : Nat) : Nat → Option Nat
  | 0 => none
  | n + 1 => dwS D i (dwN D i n) n
/-- whose slot i is by the disk -/
def dow (D : Bk) (i : Nat) : Option Nat := dwN D i 24
theorem dwN_no {D : Bk} {i n : Nat} (h : clm (D n) i = false) : dwN D i (n + 1) = dwN D i n := by
  show dwS D i (dwN D i n) n = _
  unfold dwS
  rw [if_neg (by rw [h]; decide)]
theorem dwN_some {D : Bk} {i : Nat} : ∀ {n c : Nat}, dwN D i n = some c → c < n ∧ clm (D c) i = true
  | 0, c, h => by cases h
  | n + 1, c, h => by
    change dwS D i (dwN D i n) n = some c at h
    unfold dwS at h
    by_cases q : clm (D n) i = true
    · rw [if_pos q] at h
      cases ho : dwN D i n with
      | none =>
        rw [ho] at h
        obtain rfl := Option.some.inj h
        exact ⟨by omega, q⟩
      | some e =>
        rw [ho] at h
        obtain ⟨e1, e2⟩ := dwN_some ho
        dsimp only at h
        split at h
        · obtain rfl := Option.some.inj h
          exact ⟨by omega, q⟩
        · obtain rfl := Option.some.inj h
          exact ⟨by omega, e2⟩
    · rw [if_neg q] at h
      obtain ⟨e1, e2⟩ := dwN_some h
      exact ⟨by omega, e2⟩
theorem clm_iff {P : Pg} {i : Nat} (h : P ≠ none) : clm P i = true ↔ i % 2 ^ pdp P = ppx P := by
  cases P with
  | none => exact absurd rfl h
  | some q => exact clm_of
section OWNERS
variable {E : Nat × (Nat → Int32)} {d a : Nat}
theorem c_fo_in {D : Bk} {b : Nat} (hb : b < 24) (hu : D b ≠ none) (hdp : ∀ q, pdp (D q) ≤ 6) : ∀ (n i : Nat) (A : xH) (s : xS) (w4 : Value), ST A a s → pgs s.2.1 0 D → 64 ≤ i + n → i < 128 → i % 2 ^ pdp (D b) = ppx (D b) → (∀ j, j < 64 → s.2.2.1 j = oI (if j < i then dwN D j (b + 1) else dwN D j b)) → ∃ A' o, xD E (d + 3) 62 50 [.ref a, .int (nI b), .int (nI (2 ^ pdp (D b))), .int (nI i), w4] [] A = xD E (d + 3) 62 10 [.ref a, .int (nI (b + 1)), xJ, xJ, xJ] [] A' ∧ ST A' a (s.1, s.2.1, o, s.2.2.2) ∧ (∀ j, j < 64 → o j = oI (dwN D j (b + 1))) ∧ sm (inS a) A A'
  | n, i, A, s, w4, h, hD, hn, hi, hp, ho => by
    have hst := pow6 (hdp b)
    rw [e62_50]
    by_cases q : 64 ≤ i
    · rw [if_pos (show (64 : Int32) ≤ nI i from nI_le (a := 64) q (by omega)), nI_1]
      refine ⟨A, s.2.2.1, (e62_10 ..).trans (e62_10 ..).symm, h, fun j hj => ?_, sm.refl _ _⟩
      rw [ho j hj, if_pos (by omega)]
    · obtain ⟨m, rfl⟩ : ∃ m, n = m + 1 := ⟨n - 1, by omega⟩
      have hs2 : (i + 2 ^ pdp (D b)) % 2 ^ pdp (D b) = ppx (D b) := by rw [Nat.add_mod_right]; exact hp
      have hcl : clm (D b) i = true := (clm_iff hu).mpr hp
      have hoi : s.2.2.1 i = oI (dwN D i b) := by rw [ho i (by omega), if_neg (by omega)]
      have hne : ∀ j, i ≤ j → j < i + 2 ^ pdp (D b) → j ≠ i → dwN D j (b + 1) = dwN D j b := fun j j1 j2 j3 => dwN_no (by
        cases hc : clm (D b) j with
        | false => rfl
        | true =>
          have := nxt_cls hst j1 (((clm_iff hu).mp hc).trans hp.symm) j3
          omega)
      have hat : ∀ v : Option Nat, dwN D i (b + 1) = v → ∀ j, j < 64 → upd s.2.2.1 i (oI v) j = oI (if j < i + 2 ^ pdp (D b) then dwN D j (b + 1) else dwN D j b) := by
        intro v hv j hj
        by_cases e : j = i
        · subst e; rw [upd_s, if_pos (by omega), hv]
        · rw [upd_n e, ho j hj]
          by_cases e1 : j < i
          · rw [if_pos e1, if_pos (by omega)]
          · rw [if_neg e1]
            by_cases e2 : j < i + 2 ^ pdp (D b)
            · rw [if_pos e2, hne j (by omega) e2 e]
            · rw [if_neg e2]
      have hset : ∀ (w4 : Value) (v : Option Nat), v = some b → dwN D i (b + 1) = v → ∃ A' o, xD E (d + 3) 62 50 [.ref a, .int (nI b), .int (nI (2 ^ pdp (D b))), .int (nI (i + 2 ^ pdp (D b))), w4] [] (A.set (a + 5) (ia 64 (upd s.2.2.1 i (nI b)))) = xD E (d + 3) 62 10 [.ref a, .int (nI (b + 1)), xJ, xJ, xJ] [] A' ∧ ST A' a (s.1, s.2.1, o, s.2.2.2) ∧ (∀ j, j < 64 → o j = oI (dwN D j (b + 1))) ∧ sm (inS a) A A' := by
        intro w4 v hv1 hv
        obtain ⟨a1, m1⟩ := h.sO (upd s.2.2.1 i (nI b))
        have h9 := hat v hv
        rw [hv1, oI_s] at h9
        obtain ⟨A2, o, q1, q2, q3, q4⟩ := c_fo_in hb hu hdp m (i + 2 ^ pdp (D b)) _ _ w4 a1 hD (by omega) (by omega) hs2 h9
        exact ⟨A2, o, q1, q2, q3, m1.trans q4⟩
      have hdw : dwN D i (b + 1) = match dwN D i b with
        | none => some b
        | some c => if pdp (D c) < pdp (D b) then some b else some c := by
        show dwS D i (dwN D i b) b = _
        unfold dwS
        rw [if_pos hcl]
      rw [if_neg (show ¬ (64 : Int32) ≤ nI i from nI_ge (b := 64) (by omega) (by omega)), c_ownerOf h (by omega), xI_s, Option.bind_some]
      dsimp only
      rw [hoi]
      cases hc : dwN D i b with
      | none =>
        rw [hc] at hdw
        rw [oI_n, if_pos rfl, c_setOwner h (by omega), xV_s, Option.bind_some, nI_add]
        exact hset _ _ rfl hdw
      | some c =>
        rw [hc] at hdw
        dsimp only at hdw
        obtain ⟨c1, c2⟩ := dwN_some hc
        have c3 := (clm_some c2).1
        have c4 := hdp c
        have c5 := hdp b
        rw [oI_s, if_neg (n_m1ne (by omega)), h.g1, Option.bind_some, c_depth h.2.2.1 hD (by omega) c3, xI_s, Option.bind_some]
        dsimp only
        rw [h.g1, Option.bind_some, c_depth h.2.2.1 hD hb hu, xI_s, Option.bind_some]
        dsimp only
        by_cases e : pdp (D c) < pdp (D b)
        · rw [if_pos e] at hdw
          rw [if_neg (nI_ge e (by omega)), c_setOwner h (by omega), xV_s, Option.bind_some, nI_add]
          exact hset _ _ rfl hdw
        · rw [if_neg e] at hdw
          rw [if_pos (nI_le (by omega) (by omega)), nI_add]
          have h9 := hat _ hdw
          rw [show upd s.2.2.1 i (oI (some c)) = s.2.2.1 from funext fun j => by
            by_cases z : j = i
            · subst z; rw [upd_s, hoi, hc]
            · rw [upd_n z]] at h9
          exact c_fo_in hb hu hdp m (i + 2 ^ pdp (D b)) A s _ h hD (by omega) (by omega) hs2 h9
theorem c_fo_out {D : Bk} (hdp : ∀ q, pdp (D q) ≤ 6) (hpx : ∀ q, ppx (D q) < 2 ^ pdp (D q)) : ∀ (n b : Nat) (A : xH) (s : xS) (w2 w3 w4 : Value), ST A a s → pgs s.2.1 0 D → b + n = 24 → (∀ j, j < 64 → s.2.2.1 j = oI (dwN D j b)) → ∃ A' o, xD E (d + 3) 62 10 [.ref a, .int (nI b), w2, w3, w4] [] A = some (none, A') ∧ ST A' a (s.1, s.2.1, o, s.2.2.2) ∧ (∀ j, j < 64 → o j = oI (dow D j)) ∧ sm (inS a) A A'
  | 0, b, A, s, w2, w3, w4, h, hD, hn, ho => by
    obtain rfl : b = 24 := by omega
    refine ⟨A, s.2.2.1, ?_, h, ho, sm.refl _ _⟩
    rw [e62_10, if_pos (by decide)]
  | n + 1, b, A, s, w2, w3, w4, h, hD, hn, ho => by
    have hb : b < 24 := by omega
    rw [e62_10, if_neg (show ¬ (24 : Int32) ≤ nI b from nI_ge (b := 24) hb (by omega)), h.g1, Option.bind_some, c_used h.2.2.1 hD hb, xI_s, Option.bind_some]
    dsimp only
    by_cases hu : D b = none
    · rw [hu, if_pos (by rfl), nI_1]
      exact c_fo_out hdp hpx n (b + 1) A s _ _ _ h hD (by omega) (fun j hj => by rw [dwN_no (by rw [hu]; rfl)]; exact ho j hj)
    · have h64 := pow6 (hdp b)
      have hx := hpx b
      have hus : pus (D b) = 1 := by
        cases hB : D b with
        | none => exact absurd hB hu
        | some w => rfl
      rw [hus, if_neg (by decide), h.g1, Option.bind_some, c_depth h.2.2.1 hD hb hu, xI_s, Option.bind_some]
      dsimp only
      have hd6 := hdp b
      rw [h.g1, Option.bind_some, c_prefix h.2.2.1 hD hb hu, xI_s, Option.bind_some, n_shl _ (by omega)]
      dsimp only
      obtain ⟨A1, o, q1, q2, q3, q4⟩ := c_fo_in (E := E) (d := d) hb hu hdp 64 (ppx (D b)) A s xJ h hD (by omega) (by omega) (Nat.mod_eq_of_lt hx) (fun j hj => by
        rw [ho j hj]
        by_cases e : j < ppx (D b)
        · rw [if_pos e, dwN_no]
          cases hc : clm (D b) j with
          | false => rfl
          | true =>
            have := (clm_iff hu).mp hc
            rw [Nat.mod_eq_of_lt (by omega)] at this
            omega
        · rw [if_neg e])
      obtain ⟨A2, o2, i1, i2, i3, i4⟩ := c_fo_out hdp hpx n (b + 1) A1 _ xJ xJ xJ q2 hD (by omega) q3
      exact ⟨A2, o2, q1.trans i1, i2, i3, q4.trans i4⟩
theorem c_findOwners {A : xH} {s : xS} {D : Bk} (h : ST A a s) (hD : pgs s.2.1 0 D) (hdp : ∀ q, pdp (D q) ≤ 6) (hpx : ∀ q, ppx (D q) < 2 ^ pdp (D q)) : ∃ A' o, xC E (d + 3) 62 [.ref a] A = some (none, A') ∧ ST A' a (s.1, s.2.1, o, s.2.2.2) ∧ (∀ j, j < 64 → o j = oI (dow D j)) ∧ sm (inS a) A A' := by
  obtain ⟨a1, m1⟩ := h.sO (fil s.2.2.1 0 64 (-1))
  obtain ⟨A2, o, i1, i2, i3, i4⟩ := c_fo_out (E := E) (d := d) hdp hpx 24 0 _ _ xJ xJ xJ a1 hD rfl (fun j hj => if_pos ⟨by omega, hj⟩)
  refine ⟨A2, o, ?_, i2, i3, m1.trans i4⟩
  rw [k62 _ _ _ _ h.cls, h.g2, Option.bind_some, fill1_ok h.2.2.2.1 (by omega), xV_s, Option.bind_some]
  exact i1
end OWNERS
