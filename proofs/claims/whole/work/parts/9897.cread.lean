/-! ===== the class: what to read next ===== -/
section CREAD
variable {E : Nat × (Nat → Int32)} {d : Nat} {A : xH} {X : Xs} {Lo : List (St × Nat)} {n : NM}
theorem c_rd42 (h : CIo A X Lo n) (hX : XI X) {x : Int32} {s : Nat} (hs : s < 2 ^ 24) : ∀ (c i : Nat) (w7 w8 : Value), i + 1 + c = 2 ^ X.1.1.2.2.2.1 → xD E (d + 2) 130 42 [.ref 0, .int x, .int (nI s), .int (nI (popN s)), .int (nI (rdS (rdV X.1.1 s) i).1), .int (nI (rdS (rdV X.1.1 s) i).2), .int (nI (i + 1)), w7, w8] [] A = (if x = 0 then some (some (.int (nI (rdS (rdV X.1.1 s) (2 ^ X.1.1.2.2.2.1 - 1)).1)), A) else some (some (.int (nI (rdS (rdV X.1.1 s) (2 ^ X.1.1.2.2.2.1 - 1)).2)), A))
  | 0, i, w7, w8, hi => by
    obtain ⟨st, hS, hRS⟩ := h.2.2.1.1
    have hd := hX.deep
    have h64 := pow6 hd
    rw [e130_42, h.g0, Option.bind_some, c_slotsThere hS hRS.2.2.2.2.2.1 hd, xI_s, Option.bind_some]
    dsimp only
    rw [if_pos (nI_le (by omega) (by omega)), show 2 ^ X.1.1.2.2.2.1 - 1 = i by omega]
  | c + 1, i, w7, w8, hi => by
    obtain ⟨st, hS, hRS⟩ := h.2.2.1.1
    have hd := hX.deep
    have h64 := pow6 hd
    have hol := own_lt X.1.1.1 (i + 1)
    have hbl := bitN_le s (own X.1.1.1 (i + 1))
    have hpl := popN_le s
    have hpb : bitN s (own X.1.1.1 (i + 1)) ≤ popN s := by
      unfold popN
      exact cnt_ge1 24 _ hol
    have hr := (rdS_in (v := rdV X.1.1 s) (m := 24) (fun j => rdV_le X.1.1 s j) i).2
    have hv := rdV_le X.1.1 s (i + 1)
    have hmx : xmax (nI (bitN s (own X.1.1.1 (i + 1)))) (nI (popN s) - nI (bitN s (own X.1.1.1 (i + 1)))) = nI (rdV X.1.1 s (i + 1)) := by
      rw [pk_sub hpb, n_max (by omega) (by omega)]; rfl
    have ih := fun w7 w8 => c_rd42 h hX (x := x) hs c (i + 1) w7 w8 (by omega)
    have hst : rdS (rdV X.1.1 s) (i + 1) = if rdV X.1.1 s (i + 1) < (rdS (rdV X.1.1 s) i).2 then (i + 1, rdV X.1.1 s (i + 1)) else rdS (rdV X.1.1 s) i := rfl
    rw [e130_42, h.g0, Option.bind_some, c_slotsThere hS hRS.2.2.2.2.2.1 hd, xI_s, Option.bind_some]
    dsimp only
    rw [if_neg (nI_ge (by omega) (by omega)), h.g0, Option.bind_some, c_ownerOf hS (by omega), xI_s, Option.bind_some]
    dsimp only
    rw [hRS.2.2.1 _ (by omega), n_bitG (by omega) (by omega), hmx, nI_1]
    by_cases e : rdV X.1.1 s (i + 1) < (rdS (rdV X.1.1 s) i).2
    · rw [if_neg (nI_ge e (by omega))]
      rw [hst, if_pos e] at ih
      exact ih _ _
    · rw [if_pos (nI_le (by omega) (by omega))]
      rw [hst, if_neg e] at ih
      exact ih _ _
theorem c_read (h : CIo A X Lo n) (hX : XI X) (x : Int32) : xC E (d + 4) 130 [.ref 0, .int x] A = some (some (.int (aRead X x)), A) := by
  obtain ⟨st, hS, hRS⟩ := h.2.2.1.1
  have hd := hX.deep
  have h64 := pow6 hd
  have hlt : aCan X < 2 ^ 24 := cbN_lt 24
  rw [k130 _ _ _ _ _ h.cls, h.g4, Option.bind_some, h.g0, Option.bind_some, c_cands h hX, xI_s, Option.bind_some]
  dsimp only
  unfold aRead
  generalize aCan X = s at *
  by_cases e0 : s = 0
  · rw [if_pos (show nI s = 0 by rw [e0]; rfl), if_pos e0]
    split <;> rfl
  · rw [if_neg (show ¬ nI s = 0 from nI_ne0 (by omega) (by omega)), if_neg e0]
    rcases pk_ix x (show 2 < 2 ^ 31 by omega) with hx | hx | ⟨k, hk, rfl⟩
    · rw [if_pos hx, if_pos (Or.inl hx)]
    · rw [if_neg (n_nn (by omega) hx), if_neg (show ¬ x ≤ (1 : Int32) from Int32.not_le.mpr (Int32.lt_of_lt_of_le (by decide) hx)), if_pos (Or.inr hx)]
    · have hol := own_lt X.1.1.1 0
      have hbl := bitN_le s (own X.1.1.1 0)
      have hpl := popN_le s
      have hpb : bitN s (own X.1.1.1 0) ≤ popN s := by
        unfold popN
        exact cnt_ge1 24 _ hol
      have hv := rdV_le X.1.1 s 0
      have hmx : xmax (nI (bitN s (own X.1.1.1 0))) (nI (popN s) - nI (bitN s (own X.1.1.1 0))) = nI (rdV X.1.1 s 0) := by
        rw [pk_sub hpb, n_max (by omega) (by omega)]; rfl
      have ih := fun w7 w8 => c_rd42 (E := E) (d := d + 2) h hX (x := nI k) hlt (2 ^ X.1.1.2.2.2.1 - 1) 0 w7 w8 (by omega)
      rw [if_neg (show ¬ nI k < 0 from nI_pos (by omega)), if_pos (show nI k ≤ (1 : Int32) from nI_le (b := 1) (by omega) (by omega)), if_neg (n_out (by omega) hk), c_bitCount hlt, xI_s, Option.bind_some]
      dsimp only
      rw [e130_42, h.g0, Option.bind_some, c_slotsThere hS hRS.2.2.2.2.2.1 hd, xI_s, Option.bind_some]
      dsimp only
      rw [if_neg (show ¬ nI (2 ^ X.1.1.2.2.2.1) ≤ (0 : Int32) from nI_ge (a := 0) (by omega) (by omega)), h.g0, Option.bind_some, show (0 : Int32) = nI 0 from rfl, c_ownerOf hS (by omega), xI_s, Option.bind_some]
      dsimp only
      rw [hRS.2.2.1 _ (by omega), n_bitG (by omega) (by omega), hmx, if_neg (show ¬ (25 : Int32) ≤ nI (rdV X.1.1 s 0) from nI_ge (b := 25) (by omega) (by omega)), nI_1]
      refine Eq.trans (ih _ _) ?_
      by_cases e : nI k = nI 0
      · rw [if_pos (show nI k = 0 from e), if_pos e]
      · rw [if_neg (show ¬ nI k = 0 from e), if_neg e]
end CREAD
