/-! ===== the class: the tape, undo ===== -/
theorem ush_b {x : Int32} {k : Nat} (hk : k = 24 ∨ k = 16 ∨ k = 8 ∨ k = 0) : (xushr x (nI k)) &&& (255 : Int32) = nI (fb x k) := by
  apply Int32.toBitVec_inj.mp
  apply BitVec.eq_of_toNat_eq
  have h4 : (nI (fb x k)).toBitVec.toNat = fb x k := by
    have := fb_lt x k
    show (BitVec.ofNat 32 (fb x k)).toNat = fb x k
    rw [BitVec.toNat_ofNat]; exact Nat.mod_eq_of_lt (by omega)
  have hh : ∀ k, (k = 24 ∨ k = 16 ∨ k = 8 ∨ k = 0) → ((nI k).toUInt32 &&& Int32.toUInt32 31).toNat % 32 = k := by
    intro k hk
    rcases hk with rfl | rfl | rfl | rfl <;> decide
  have h1 : (xushr x (nI k)).toBitVec.toNat = x.toBitVec.toNat / 2 ^ k := by
    show (x.toUInt32 >>> ((nI k).toUInt32 &&& Int32.toUInt32 31)).toNat = _
    rw [UInt32.toNat_shiftRight, hh k hk, Nat.shiftRight_eq_div_pow]; rfl
  rw [h4, Int32.toBitVec_and, BitVec.toNat_and, h1]
  exact Nat.and_two_pow_sub_one_eq_mod _ 8
def twA (A : xH) (fl tl : Nat → Int32) (ar : Nat → Nat → Int32) : Prop := tw A fl tl ar = A
section CTAPE
variable {E : Nat × (Nat → Int32)} {d : Nat} {A A' : xH} {X : Xs} {Lo : List (St × Nat)} {n : NM}
/-- the tape has changed -/
theorem CIo.tp (h : CIo A X Lo n) {bs : Nat → Nat} {m : Nat} (hl : A'.length = A.length) (h1 : ∀ q, (q < 36 ∨ 43 ≤ q) → A'[q]? = A[q]?) (h2 : TPC A' (bs, m)) : CIo A' (Xtp X bs m) Lo n := by
  obtain ⟨a, b, c, e, f, ⟨⟨g1, g2, g3⟩, i1, i2, i3⟩, j⟩ := h
  exact ⟨by rw [hl]; exact a, (h1 0 (by omega)).trans b, c.eq (fun q q1 q2 => h1 q (by omega)) (fun q q1 q2 => h1 q (by omega)) (fun q q1 q2 => h1 q (by omega)) (fun q q1 q2 => h1 q (by omega)), e.eq hl (fun q q1 q2 => h1 q (by omega)) (fun q q1 => h1 q (by omega)), h2, ⟨⟨g1, (h1 44 (by omega)).trans g2, g3⟩, i1, (h1 45 (by omega)).trans i2, i3⟩, j.eq (fun q q1 q2 => h1 q (by omega)) (fun q q1 => h1 q (by omega))⟩
/-- the tape's cells by themselves -/
theorem CIo.tpw (h : CIo A X Lo n) : ∃ fl tl ar, twA A fl tl ar ∧ fl 2 = nI X.2.2.2.1.2 ∧ ∀ j, j < X.2.2.2.1.2 → ar 4 j = nI (X.2.2.2.1.1 j) := by
  obtain ⟨fl, tl, ar, a, b, c⟩ := h.2.2.2.2.1
  have := h.1
  exact ⟨fl, tl, ar, t_self (by omega) a, b, c⟩
theorem tw_TPC (hA : 43 ≤ A.length) {fl tl : Nat → Int32} {ar : Nat → Nat → Int32} {bs : Nat → Nat} {m : Nat} (h2 : fl 2 = nI m) (h4 : ∀ j, j < m → ar 4 j = nI (bs j)) : TPC (tw A fl tl ar) (bs, m) := by
  refine ⟨fl, tl, ar, fun j hj => ?_, h2, h4⟩
  rcases (show j = 0 ∨ j = 1 ∨ j = 2 ∨ j = 3 ∨ j = 4 ∨ j = 5 ∨ j = 6 by omega) with rfl | rfl | rfl | rfl | rfl | rfl | rfl
  · exact t_c36 hA
  · exact t_c37 hA
  · exact t_c38 hA
  · exact t_c39 hA
  · exact t_c40 hA
  · exact t_c41 hA
  · exact t_c42 hA
theorem CIo.tpc (h : CIo A X Lo n) {fl tl : Nat → Int32} {ar : Nat → Nat → Int32} {bs : Nat → Nat} {m : Nat} (h2 : fl 2 = nI m) (h4 : ∀ j, j < m → ar 4 j = nI (bs j)) : CIo (tw A fl tl ar) (Xtp X bs m) Lo n := by
  have := h.1
  exact h.tp (t_len (by omega)) (fun q hq => t_out (by omega) hq) (tw_TPC (by omega) h2 h4)
theorem c_end (h : CIo A X Lo n) (hX : XI X) (x : Int32) : ∃ A', xC E (d + 1) 106 [.ref 0, .int x] A = some (some (.int (aEnd X x).1), A') ∧ CIo A' (aEnd X x).2 Lo n := by
  obtain ⟨fl, tl, ar, a, b, c⟩ := h.tpw
  have hA := h.1
  have hn := hX.2.2.2.2.1
  rw [k106 _ _ _ _ _ h.cls]
  unfold aEnd
  have g2 : gI A 36 6 2 = some (nI X.2.2.2.1.2) := by rw [← a, t_g36_2 (by omega), b]
  rcases pk_ix x (show X.2.2.2.1.2 + 1 < 2 ^ 31 by omega) with hx | hx | ⟨m, hm, rfl⟩
  · rw [if_pos hx, if_pos (Or.inl hx)]; exact ⟨A, rfl, h⟩
  · rw [if_neg (n_nn (by omega) hx), h.g8, Option.bind_some, g2, Option.bind_some, if_neg (show ¬ x ≤ nI X.2.2.2.1.2 from Int32.not_le.mpr (Int32.lt_of_lt_of_le (nI_lt (by omega) (by omega)) hx)), if_pos (Or.inr hx)]; exact ⟨A, rfl, h⟩
  · rw [if_neg (show ¬ nI m < 0 from nI_pos (by omega)), h.g8, Option.bind_some, g2, Option.bind_some, if_pos (nI_le (by omega) (by omega)), if_neg (n_out (by omega) hm), nI_clamp (by omega), Option.bind_some]
    refine ⟨tw A (upd fl 2 (nI m)) tl ar, ?_, h.tpc upd_s (fun j hj => c j (by omega))⟩
    have : pF A 36 6 2 (.int (nI m)) = some (tw A (upd fl 2 (nI m)) tl ar) := by
      conv => lhs; rw [← a]
      exact t_p36_2 (by omega)
    rw [this, Option.bind_some]
/-- four bytes more -/
theorem c_addB (hA : 43 ≤ A.length) {fl tl : Nat → Int32} {ar : Nat → Nat → Int32} {m : Nat} {x : Int32} (h2 : fl 2 = nI m) (hm : m + 4 ≤ 400) : ∃ fl' ar', xC E (d + 1) 69 [.ref 36, .int x] (tw A fl tl ar) = some (none, tw A fl' tl ar') ∧ fl' 2 = nI (m + 4) ∧ (∀ j, j < m → ar' 4 j = ar 4 j) ∧ ∀ j, j < 4 → ar' 4 (m + j) = nI (fb x (24 - 8 * j)) := by
  have st : ∀ (fl : Nat → Int32) (ar : Nat → Nat → Int32) (i s : Nat) (s' : Int32), i < 400 → fl 2 = nI i → (s = 24 ∨ s = 16 ∨ s = 8 ∨ s = 0) → nI s + (-8 : Int32) = s' → xD E (d + 1) 69 3 [.ref 36, .int x, .int (nI s)] [] (tw A fl tl ar) = xD E (d + 1) 69 3 [.ref 36, .int x, .int s'] [] (tw A (upd fl 2 (nI (i + 1))) tl (sar ar 4 (upd (ar 4) i (nI (fb x s))))) := by
    intro fl ar i s s' hi hf hs hs'
    rw [e69_3, if_neg (show ¬ nI s < 0 from nI_pos (by omega)), t_g36_2 hA, Option.bind_some, hf, if_neg (show ¬ (400 : Int32) ≤ nI i from nI_ge (b := 400) hi (by omega)), t_r36_1 hA, Option.bind_some, Option.bind_some, ush_b hs, t_s42 hA hi, Option.bind_some, t_g36_2 hA, Option.bind_some, hf, nI_1, t_p36_2 hA, Option.bind_some, hs']
  have e1 := st fl ar m 24 (nI 16) (by omega) h2 (by omega) (by decide)
  have e2 := st (upd fl 2 (nI (m + 1))) (sar ar 4 (upd (ar 4) m (nI (fb x 24)))) (m + 1) 16 (nI 8) (by omega) upd_s (by omega) (by decide)
  have e3 := st (upd (upd fl 2 (nI (m + 1))) 2 (nI ((m + 1) + 1))) (sar (sar ar 4 (upd (ar 4) m (nI (fb x 24)))) 4 (upd ((sar ar 4 (upd (ar 4) m (nI (fb x 24)))) 4) (m + 1) (nI (fb x 16)))) (m + 2) 8 (nI 0) (by omega) upd_s (by omega) (by decide)
  have e4 := st (upd (upd (upd fl 2 (nI (m + 1))) 2 (nI ((m + 1) + 1))) 2 (nI ((m + 2) + 1))) (sar (sar (sar ar 4 (upd (ar 4) m (nI (fb x 24)))) 4 (upd ((sar ar 4 (upd (ar 4) m (nI (fb x 24)))) 4) (m + 1) (nI (fb x 16)))) 4 (upd ((sar (sar ar 4 (upd (ar 4) m (nI (fb x 24)))) 4 (upd ((sar ar 4 (upd (ar 4) m (nI (fb x 24)))) 4) (m + 1) (nI (fb x 16)))) 4) (m + 2) (nI (fb x 8)))) (m + 3) 0 (-8) (by omega) upd_s (by omega) (by decide)
  have e5 : ∀ F R, xD E (d + 1) 69 3 [.ref 36, .int x, .int (-8)] [] (tw A F tl R) = some (none, tw A F tl R) := fun F R => by rw [e69_3, if_pos (show (-8 : Int32) < 0 by decide)]
  refine ⟨_, _, (k69 _ _ _ _ _ (t_k36 hA)).trans (e1.trans (e2.trans (e3.trans (e4.trans (e5 _ _))))), upd_s, ?_⟩
  simp only [sar_s, sar_sar]
  refine ⟨fun j hj => by rw [upd_n (by omega), upd_n (by omega), upd_n (by omega), upd_n (by omega)], fun j hj => ?_⟩
  rcases (show j = 0 ∨ j = 1 ∨ j = 2 ∨ j = 3 by omega) with rfl | rfl | rfl | rfl
  · rw [upd_n (by omega), upd_n (by omega), upd_n (by omega)]; exact upd_s
  · rw [upd_n (by omega), upd_n (by omega)]; exact upd_s
  · rw [upd_n (by omega)]; exact upd_s
  · exact upd_s
theorem c_feed (h : CIo A X Lo n) (hX : XI X) (a b c e f : Int32) : ∃ A', xC E (d + 2) 105 [.ref 0, .int a, .int b, .int c, .int e, .int f] A = some (some (.int (aFeed X a b c e f).1), A') ∧ CIo A' (aFeed X a b c e f).2 Lo n := by
  obtain ⟨fl, tl, ar, hw, h2, h4⟩ := h.tpw
  have hA := h.1
  have hn := hX.2.2.2.2.1
  have g2 : gI A 36 6 2 = some (nI X.2.2.2.1.2) := by rw [← hw, t_g36_2 (by omega), h2]
  have c0 : ∀ fl tl ar, gN (tw A fl tl ar) 0 8 8 = some 36 := fun fl tl ar => h_gN ((t_out (by omega) (by omega)).trans h.2.1) rfl
  rw [k105 _ _ _ _ _ _ _ _ _ h.cls, h.g8, Option.bind_some, g2, Option.bind_some, show (20 : Int32) = nI 20 from rfl, nI_add]
  unfold aFeed
  by_cases q : X.2.2.2.1.2 ≤ 380
  · rw [if_pos (show nI (X.2.2.2.1.2 + 20) ≤ (400 : Int32) from nI_le (b := 400) (by omega) (by omega)), if_pos q]
    obtain ⟨f1, r1, p1, p2, p3, p4⟩ := c_addB (E := E) (d := d) (A := A) (tl := tl) (ar := ar) (x := a) (by omega) h2 (by omega)
    obtain ⟨f2, r2, q1, q2, q3, q4⟩ := c_addB (E := E) (d := d) (A := A) (tl := tl) (ar := r1) (x := b) (by omega) p2 (by omega)
    obtain ⟨f3, r3, s1, s2, s3, s4⟩ := c_addB (E := E) (d := d) (A := A) (tl := tl) (ar := r2) (x := c) (by omega) q2 (by omega)
    obtain ⟨f4, r4, t1, t2, t3, t4⟩ := c_addB (E := E) (d := d) (A := A) (tl := tl) (ar := r3) (x := e) (by omega) s2 (by omega)
    obtain ⟨f5, r5, u1, u2, u3, u4⟩ := c_addB (E := E) (d := d) (A := A) (tl := tl) (ar := r4) (x := f) (by omega) t2 (by omega)
    refine ⟨tw A f5 tl r5, ?_, h.tpc u2 (fun j hj => ?_)⟩
    · have p1' : xC E (d + 1) 69 [.ref 36, .int a] A = _ := Eq.trans (by rw [show tw A fl tl ar = A from hw]) p1
      rw [Option.bind_some, p1', xV_s, Option.bind_some, c0, Option.bind_some, q1, xV_s, Option.bind_some, c0, Option.bind_some, s1, xV_s, Option.bind_some, c0, Option.bind_some, t1, xV_s, Option.bind_some, c0, Option.bind_some, u1, xV_s, Option.bind_some, c0, Option.bind_some, t_g36_2 (by omega), Option.bind_some, u2]
    · have hj' : j < X.2.2.2.1.2 + 20 := by omega
      unfold fdB five
      generalize X.2.2.2.1.2 = N at *
      by_cases z0 : j < N
      · rw [u3 j (by omega), t3 j (by omega), s3 j (by omega), q3 j (by omega), p3 j z0, if_neg (by omega)]; exact h4 j z0
      · rw [if_pos (by omega)]
        obtain ⟨i, rfl⟩ : ∃ i, j = N + i := ⟨j - N, by omega⟩
        rw [Nat.add_sub_cancel_left]
        by_cases z1 : i < 4
        · rw [u3 _ (by omega), t3 _ (by omega), s3 _ (by omega), q3 _ (by omega), p4 i z1, show i / 4 = 0 by omega, if_pos rfl, show i % 4 = i by omega]
        · by_cases z2 : i < 8
          · rw [u3 _ (by omega), t3 _ (by omega), s3 _ (by omega), show N + i = N + 4 + (i - 4) by omega, q4 (i - 4) (by omega), show i / 4 = 1 by omega, if_neg (by omega), if_pos rfl, show i % 4 = i - 4 by omega]
          · by_cases z3 : i < 12
            · rw [u3 _ (by omega), t3 _ (by omega), show N + i = N + 4 + 4 + (i - 8) by omega, s4 (i - 8) (by omega), show i / 4 = 2 by omega, if_neg (by omega), if_neg (by omega), if_pos rfl, show i % 4 = i - 8 by omega]
            · by_cases z4 : i < 16
              · rw [u3 _ (by omega), show N + i = N + 4 + 4 + 4 + (i - 12) by omega, t4 (i - 12) (by omega), show i / 4 = 3 by omega, if_neg (by omega), if_neg (by omega), if_neg (by omega), if_pos rfl, show i % 4 = i - 12 by omega]
              · rw [show N + i = N + 4 + 4 + 4 + 4 + (i - 16) by omega, u4 (i - 16) (by omega), show i / 4 = 4 by omega, if_neg (by omega), if_neg (by omega), if_neg (by omega), if_neg (by omega), show i % 4 = i - 16 by omega]
  · rw [if_neg (show ¬ nI (X.2.2.2.1.2 + 20) ≤ (400 : Int32) from nI_ge (a := 400) (by omega) (by omega)), if_neg q]
    exact ⟨A, rfl, h⟩
end CTAPE
