/-! ===== the class: simple questions ===== -/
theorem n_nn {x : Int32} {m : Nat} (hm : m < 2 ^ 31) (h : nI m ≤ x) : ¬ x < 0 := fun z => Int32.lt_irrefl (Int32.lt_of_lt_of_le z (Int32.le_trans (nI_le (a := 0) (Nat.zero_le _) hm) h))
section CASK
variable {E : Nat × (Nat → Int32)} {d : Nat} {A A' : xH} {X : Xs} {Lo : List (St × Nat)} {n : NM}
/-- scratch of the rules has changed -/
theorem CIo.scr (h : CIo A X Lo n) (hs : sm (inR 22) A A') {u : xU} (hR : RUR A' 22 u X.1.2.1) (hu : u.2.2.2.1 = nI X.1.2.2.1) (ht : ∀ i t, i < X.1.2.1.1.length → u.1 i = some t → 69 ≤ t) (hx : TX A u.1) : CIo A' X Lo n := by
  have kp : ∀ q, q ≠ 24 → q ≠ 25 → A'[q]? = A[q]? := fun q a b => hs.2 q (fun z => z.elim a b)
  exact h.wk1 hs (fun q z => by unfold wkc; unfold inR at z; omega) (S := X.1.1) (h.2.2.1.1.eq (fun q q1 q2 => kp q (by omega) (by omega))) ⟨u, hR, hu, ht, hx.fr hs (fun q z => by unfold inR at z; omega)⟩ (h.2.2.2.2.2.2.eq (fun q q1 q2 => kp q (by omega) (by omega)) (fun q q1 => kp q (by omega) (by omega)))
theorem c_of (h : CIo A X Lo n) (x w : Int32) : xC E (d + 4) 99 [.ref 0, .int x, .int w] A = some (some (.int (telI X.1.1.1 x w)), A) := by
  obtain ⟨s, hS, hRS⟩ := h.2.2.1.1
  rw [k99 _ _ _ _ _ _ h.cls, h.g0, Option.bind_some, hS.g0, Option.bind_some, c_tell hS.2.1 hRS.1, xI_s, Option.bind_some]
theorem c_page (h : CIo A X Lo n) (x w : Int32) : xC E (d + 4) 100 [.ref 0, .int x, .int w] A = some (some (.int (telI X.1.1.2.1 x w)), A) := by
  obtain ⟨s, hS, hRS⟩ := h.2.2.1.1
  rw [k100 _ _ _ _ _ _ h.cls, h.g0, Option.bind_some, hS.g1, Option.bind_some, c_tell hS.2.2.1 hRS.2.1, xI_s, Option.bind_some]
theorem c_write (h : CIo A X Lo n) (x w : Int32) : xC E (d + 3) 101 [.ref 0, .int x, .int w] A = some (some (.int (telW X.1.1.2.2.1 x w)), A) := by
  obtain ⟨s, hS, hRS⟩ := h.2.2.1.1
  rw [k101 _ _ _ _ _ _ h.cls, h.g0, Option.bind_some, c_tellWrite hS hRS, xI_s, Option.bind_some]
theorem XI.deep (hX : XI X) : X.1.1.2.2.2.1 ≤ 6 := by rw [hX.1.1.2]; exact deepN_6 hX.1.1.1.1
theorem c_slot (h : CIo A X Lo n) (hX : XI X) (x : Int32) : xC E (d + 2) 102 [.ref 0, .int x] A = some (some (.int (slI X.1.1 x)), A) := by
  obtain ⟨s, hS, hRS⟩ := h.2.2.1.1
  have hd := hX.deep
  have h64 := pow6 hd
  rw [k102 _ _ _ _ _ h.cls, h.g0, Option.bind_some, c_slotsThere hS hRS.2.2.2.2.2.1 hd, xI_s, Option.bind_some]
  dsimp only
  unfold slI
  rcases pk_ix x (show 2 ^ X.1.1.2.2.2.1 < 2 ^ 31 by omega) with hx | hx | ⟨i, hi, rfl⟩
  · rw [if_neg (fun z => n_nn (by omega) z hx), h.g0, Option.bind_some, c_ownerNeg hS hx, xI_s, Option.bind_some, if_pos (Or.inl hx)]
  · rw [if_pos hx, if_pos (Or.inr hx)]
  · rw [if_neg (nI_ge hi (by omega)), h.g0, Option.bind_some, c_ownerOf hS (by omega), xI_s, Option.bind_some, if_neg (n_out (by omega) hi), nI_clamp (by omega), hRS.2.2.1 i (by omega)]
theorem c_key (h : CIo A X Lo n) (hX : XI X) (x w : Int32) : ∃ A', xC E (d + 6) 103 [.ref 0, .int x, .int w] A = some (some (.int (kyI X.1.2.1 X.1.1 x w)), A') ∧ CIo A' X Lo n ∧ sm (inR 22) A A' := by
  obtain ⟨s, hS, hRS⟩ := h.2.2.1.1
  obtain ⟨u, hu, hu5, hut, htx⟩ := h.2.2.1.2.1
  have hok := hX.1.1.1.1
  rw [k103 _ _ _ _ _ _ h.cls, c_isKey x, xI_s, Option.bind_some]
  dsimp only
  unfold kyI
  rcases pk_ix x (show 1000 < 2 ^ 31 by omega) with hx | hx | ⟨k, hk, rfl⟩
  · rw [if_pos (Or.inl hx), if_pos (by rfl), if_pos (Or.inl hx)]; exact ⟨A, rfl, h, sm.refl _ _⟩
  · rw [if_pos (Or.inr hx), if_pos (by rfl), if_pos (Or.inr hx)]; exact ⟨A, rfl, h, sm.refl _ _⟩
  · rw [if_neg (n_out (by omega) hk), if_neg (show ¬ nI 1 = 0 by decide), if_neg (n_out (by omega) hk), nI_clamp (by omega)]
    unfold kyN
    have hsalt := hu.2.2.2.2.2.2.2.1
    have hslt := hu.2.2.2.2.2.2.2.2
    have hks : ∀ b e, e ∈ ents (X.1.1.1 b) → e.1 < 2 ^ 31 := fun b e he => by have := ((hok.2 b).2.1 e he).1; omega
    by_cases e0 : w = 0
    · rw [if_pos e0, if_pos e0, h.g3, Option.bind_some, c_hashOf hu.1 hk hslt hsalt, xI_s, Option.bind_some]; exact ⟨A, rfl, h, sm.refl _ _⟩
    · rw [if_neg e0, if_neg e0]
      by_cases e1 : w = 1
      · rw [if_pos e1, if_pos e1, h.g0, Option.bind_some, h.g3, Option.bind_some, c_valueOf hS hu.1 hRS.1 hRS.2.2.1 hks hk hslt hsalt, xI_s, Option.bind_some]; exact ⟨A, rfl, h, sm.refl _ _⟩
      · rw [if_neg e1, if_neg e1]
        by_cases e2 : w = 2
        · rw [if_pos e2, if_pos e2, h.g0, Option.bind_some, h.g3, Option.bind_some, c_soughtIn hS hu.1 hRS.2.2.1 hk hslt hsalt, xI_s, Option.bind_some]; exact ⟨A, rfl, h, sm.refl _ _⟩
        · rw [if_neg e2, if_neg e2]
          by_cases e3 : w = 3
          · obtain ⟨A', b1, b2, b3, b4⟩ := c_isBarred (E := E) (d := d) hS hu (by omega) hRS hk hX.1.1.1.2.2.2.2.1 (fun b => (hok.2 b).2.2.1)
            rw [if_pos e3, if_pos e3, h.g0, Option.bind_some, h.g3, Option.bind_some, b1, xI_s, Option.bind_some]
            dsimp only
            refine ⟨A', ?_, h.scr b4 b3 hu5 hut htx, b4⟩
            by_cases br : brR X.1.2.1 X.1.1.1 X.1.1.2.2.2.2 k = true
            · rw [if_pos br, if_neg (show ¬ nI 1 = 0 by decide)]; rfl
            · rw [if_neg br, if_pos (show nI 0 = 0 from rfl)]; rfl
          · rw [if_neg e3, if_neg e3]; exact ⟨A, rfl, h, sm.refl _ _⟩
theorem c_tears (h : CIo A X Lo n) : xC E (d + 1) 108 [.ref 0] A = some (some (.int X.2.2.2.2.1.2.1), A) := by
  rw [k108 _ _ _ _ h.cls, h.i14, Option.bind_some]
theorem c_fault (h : CIo A X Lo n) : xC E (d + 1) 111 [.ref 0] A = some (some (.int X.2.2.2.2.1.2.2.1), A) := by
  rw [k111 _ _ _ _ h.cls, h.i15, Option.bind_some]
theorem c_stopped (h : CIo A X Lo n) : xC E (d + 1) 112 [.ref 0] A = some (some (.int X.2.2.2.2.1.2.2.2), A) := by
  rw [k112 _ _ _ _ h.cls, h.i16, Option.bind_some]
theorem c_status (h : CIo A X Lo n) : xC E (d + 1) 138 [.ref 0] A = some (some (.int X.2.2.2.2.1.1), A) := by
  rw [k138 _ _ _ _ h.cls, h.i17, Option.bind_some]
theorem c_drawn (h : CIo A X Lo n) (x : Int32) : xC E (d + 1) 134 [.ref 0, .int x] A = some (some (.int (aDrawn X x)), A) := by
  obtain ⟨f, f1, f2⟩ := h.2.2.2.2.2.1.2
  rw [k134 _ _ _ _ _ h.cls]
  unfold aDrawn
  rcases pk_ix x (show 40 < 2 ^ 31 by omega) with hx | hx | ⟨k, hk, rfl⟩
  · rw [if_pos hx, if_pos (Or.inl hx)]
  · rw [if_neg (n_nn (by omega) hx), if_pos (show (40 : Int32) ≤ x from hx), if_pos (Or.inr hx)]
  · rw [if_neg (show ¬ nI k < 0 from nI_pos (by omega)), if_neg (show ¬ (40 : Int32) ≤ nI k from nI_ge (b := 40) hk (by omega)), h.g11, Option.bind_some, h_aI f1 hk (by omega), Option.bind_some, if_neg (n_out (by omega) hk), nI_clamp (by omega), f2 k hk]
theorem c_spent (h : CIo A X Lo n) : xC E (d + 3) 126 [.ref 0] A = some (some (.int (nI (wsum X.1.1.2.2.1))), A) := by
  obtain ⟨s, hS, hRS⟩ := h.2.2.1.1
  rw [k126 _ _ _ _ h.cls, h.g0, Option.bind_some, c_costOfWaiting hS hRS, xI_s, Option.bind_some]
theorem c_room (h : CIo A X Lo n) : xC E (d + 4) 123 [.ref 0] A = some (some (.int (nI (3 * usedN X.1.1.1) - nI (keysN X.1.1.1))), A) := by
  obtain ⟨s, hS, hRS⟩ := h.2.2.1.1
  rw [k123 _ _ _ _ h.cls, h.g0, Option.bind_some, hS.g0, Option.bind_some, c_usedCount hS.2.1 hRS.1, xI_s, Option.bind_some]
  dsimp only
  rw [h.g0, Option.bind_some, c_keysThere hS hRS.1, xI_s, Option.bind_some]
  dsimp only
  rw [show (3 : Int32) = nI 3 from rfl, pk_mul, Nat.mul_comm]
theorem c_twin (h : CIo A X Lo n) (hX : XI X) (x : Int32) : xC E (d + 4) 124 [.ref 0, .int x] A = some (some (.int (aTwin X x)), A) := by
  obtain ⟨s, hS, hRS⟩ := h.2.2.1.1
  have hok := hX.1.1.1.1
  rw [k124 _ _ _ _ _ h.cls, c_isBucket x, xI_s, Option.bind_some]
  dsimp only
  unfold aTwin
  rcases pk_ix x (show 24 < 2 ^ 31 by omega) with hx | hx | ⟨b, hb, rfl⟩
  · rw [if_pos (Or.inl hx), if_pos (by rfl), if_pos (Or.inl hx)]
  · rw [if_pos (Or.inr hx), if_pos (by rfl), if_pos (Or.inr hx)]
  · rw [if_neg (n_out (by omega) hb), if_neg (show ¬ nI 1 = 0 by decide), if_neg (n_out (by omega) hb), nI_clamp (by omega), h.g0, Option.bind_some]
    by_cases hu : X.1.1.1 b = none
    · have : twn X.1.1.1 b = none := by unfold twn; rw [if_pos (by rw [hu]; rfl)]
      rw [this, k53 _ _ _ _ _ hS.cls, hS.g0, Option.bind_some, pg_depth hS.2.1 hb, xI_s, Option.bind_some]
      dsimp only
      rw [hS.g0, Option.bind_some, c_used hS.2.1 hRS.1 hb, xI_s, Option.bind_some, hu]
      dsimp only
      rw [if_pos (show nI (pus none) = 0 from rfl), xI_s, Option.bind_some]
      rfl
    · rw [c_twinOf hS hRS hok.1 hb hu (hok.2 b).2.2.1 (hok.2 b).2.2.2 (fun q => (hok.2 q).2.2.1), xI_s, Option.bind_some]
theorem c_sp4 (hX : XI X) : ∀ (c i : Nat) (A : xH), i + c = 1000 → CIo A X Lo n → ∃ A', xD E (d + 7) 122 4 [.ref 0, .int (nI (cnt (fun k => wsp X.1.2.1 X.1.1 k) i)), .int (nI i)] [] A = some (some (.int (nI (cnt (fun k => wsp X.1.2.1 X.1.1 k) 1000))), A') ∧ CIo A' X Lo n ∧ sm (inR 22) A A'
  | 0, i, A, hi, h => by
    have : i = 1000 := by omega
    subst this
    refine ⟨A, ?_, h, sm.refl _ _⟩
    rw [e122_4, if_pos (show (1000 : Int32) ≤ nI 1000 by decide)]
  | c + 1, i, A, hi, h => by
    obtain ⟨s, hS, hRS⟩ := h.2.2.1.1
    obtain ⟨u, hu, hu5, hut, htx⟩ := h.2.2.1.2.1
    obtain ⟨A', b1, b2, b3, b4⟩ := c_wouldSplit (E := E) (d := d) (k := i) hS hu (by omega) hRS hX.1.1.1.1 hX.1.1.1.2.2.2.2.1 (by omega)
    obtain ⟨A2, g1, g2, g3⟩ := c_sp4 hX c (i + 1) A' (by omega) (h.scr b4 b3 hu5 hut htx)
    refine ⟨A2, ?_, g2, b4.trans g3⟩
    rw [e122_4, if_neg (show ¬ (1000 : Int32) ≤ nI i from nI_ge (b := 1000) (by omega) (by omega)), h.g0, Option.bind_some, h.g3, Option.bind_some, b1, xI_s, Option.bind_some]
    dsimp only
    rw [cnt_s] at g1
    have := wsp_le (R := X.1.2.1) (S := X.1.1) (k := i)
    rcases (show wsp X.1.2.1 X.1.1 i = 0 ∨ wsp X.1.2.1 X.1.1 i = 1 by omega) with e | e
    · rw [e] at g1 ⊢
      rw [if_pos (show nI 0 = 0 by rfl)]
      simp only [zl, nI_add]
      exact g1
    · rw [e] at g1 ⊢
      rw [if_neg (show ¬ nI 1 = 0 by decide)]
      simp only [zl, nI_add]
      exact g1
theorem c_splits (h : CIo A X Lo n) (hX : XI X) : ∃ A', xC E (d + 7) 122 [.ref 0] A = some (some (.int (nI (cnt (fun k => wsp X.1.2.1 X.1.1 k) 1000))), A') ∧ CIo A' X Lo n ∧ sm (inR 22) A A' := by
  obtain ⟨A', g1, g2, g3⟩ := c_sp4 (E := E) (d := d) hX 1000 0 A rfl h
  refine ⟨A', ?_, g2, g3⟩
  rw [k122 _ _ _ _ h.cls]
  exact g1
theorem c_compare (h : CIo A X Lo n) (hX : XI X) (x y : Int32) : ∃ A', xC E (d + 5) 132 [.ref 0, .int x, .int y] A = some (some (.int (aCompare X x y)), A') ∧ CIo A' X Lo n ∧ sm (inR 22) A A' := by
  obtain ⟨s, hS, hRS⟩ := h.2.2.1.1
  obtain ⟨u, hu, hu5, hut, htx⟩ := h.2.2.1.2.1
  have hl := hu.2.1.1
  have hok := hX.1.1.1.1
  rw [k132 _ _ _ _ _ _ h.cls]
  unfold aCompare
  have good : ∀ q : Option Nat, (∀ p, q = some p → p < X.1.2.1.1.length) → x = oI q → ∃ A', ((xI (xC E (d + 4) 140 [.int y] A)).bind fun q3 => if q3.1 = 0 then some (some (Value.int (-1 : Int32)), q3.2) else (gN q3.2 0 8 3).bind fun n4 => (gN q3.2 0 8 0).bind fun n5 => (xI (xC E (d + 4) 33 [.ref n4, .int x, .ref n5, .int y] q3.2)).bind fun q6 => some (some (Value.int q6.1), q6.2)) = some (some (Value.int (if y < 0 ∨ nI 24 ≤ y then -1 else nI (costF X.1.2.1.1 q (cws (X.1.1.1 y.toNatClampNeg) y.toNatClampNeg X.1.1.2.2.2.2 X.1.2.1.2.2.1 (-1) (-1))))), A') ∧ CIo A' X Lo n ∧ sm (inR 22) A A' := by
    intro q hq hx
    rw [c_isBucket y, xI_s, Option.bind_some]
    dsimp only
    rcases pk_ix y (show 24 < 2 ^ 31 by omega) with hy | hy | ⟨b, hb, rfl⟩
    · rw [if_pos (Or.inl hy), if_pos (by rfl), if_pos (Or.inl hy)]; exact ⟨A, rfl, h, sm.refl _ _⟩
    · rw [if_pos (Or.inr hy), if_pos (by rfl), if_pos (Or.inr hy)]; exact ⟨A, rfl, h, sm.refl _ _⟩
    · obtain ⟨A', c1, c2, c3⟩ := c_costOf (E := E) (d := d) (b := b) (f := q) (x := x) hS hu.1 (by omega) hu.2.1 hu.2.2.1 hRS.1 hb hRS.2.2.2.2.2.2 hu.2.2.2.2.2.1 (hok.2 b).2.2.1 hX.1.1.1.2.2.2.2.1 hu.2.2.2.2.2.2.1 hx hq
      rw [if_neg (n_out (by omega) hb), if_neg (show ¬ nI 1 = 0 by decide), if_neg (n_out (by omega) hb), nI_clamp (by omega), h.g3, Option.bind_some, h.g0, Option.bind_some, c1, xI_s, Option.bind_some]
      exact ⟨A', rfl, h.scr c2 (hu.sR c3 c2) hu5 hut htx, c2⟩
  rcases frI_cases (n := X.1.2.1.1.length) (by omega) x with ⟨hx, hf⟩ | ⟨hx1, hx, hf⟩ | ⟨i, hi, hx, hf⟩
  · rw [hf]
    dsimp only
    rw [if_neg (show ¬ x < (-1 : Int32) by rw [hx]; decide), h.g3, Option.bind_some, hu.1.g3, Option.bind_some, hu.2.1.2.1, if_neg (show ¬ nI X.1.2.1.1.length ≤ x from fun z => n_nn (m := X.1.2.1.1.length) (by omega) z (by rw [hx]; decide))]
    exact good none (fun p z => by cases z) hx
  · rw [hf]
    dsimp only
    rcases hx with hx | hx
    · rw [if_pos (n_ltm1 hx hx1)]; exact ⟨A, rfl, h, sm.refl _ _⟩
    · rw [if_neg (show ¬ x < (-1 : Int32) from fun z => n_nn (m := X.1.2.1.1.length) (by omega) hx (Int32.lt_trans z (by decide))), h.g3, Option.bind_some, hu.1.g3, Option.bind_some, hu.2.1.2.1, if_pos hx]; exact ⟨A, rfl, h, sm.refl _ _⟩
  · rw [hf]
    dsimp only
    rw [if_neg (show ¬ x < (-1 : Int32) from fun z => by rw [hx] at z; exact nI_pos (by omega) (Int32.lt_trans z (by decide))), h.g3, Option.bind_some, hu.1.g3, Option.bind_some, hu.2.1.2.1, if_neg (show ¬ nI X.1.2.1.1.length ≤ x by rw [hx]; exact nI_ge hi (by omega))]
    exact good (some i) (fun p z => by rw [← Option.some.inj z]; exact hi) hx
end CASK
