/-! ===== the class's store: a write comes ===== -/
/-- rules as mathematics: laws, which is in force, mood, salt -/
abbrev Ru : Type := List Lw × Option Nat × Nat × Nat
noncomputable def ctR (R : Ru) (P : Pg) (b time : Nat) : Nat := costF R.1 R.2.1 (cws P b time R.2.2.1 (-1) (-1))
noncomputable def brR (R : Ru) (B : Bk) (time key : Nat) : Bool := barF R.1 R.2.1 (cws (B (own B (hsh R.2.2.2 key % 64))) (own B (hsh R.2.2.2 key % 64)) time R.2.2.1 key (hsh R.2.2.2 key)) == 1
noncomputable def wrt (R : Ru) (S : St) (b : Nat) : St := (S.1, (if S.2.2.1.length = 40 then eld S else S).2.1, (if S.2.2.1.length = 40 then eld S else S).2.2.1 ++ [(b, ctR R (S.1 b) b S.2.2.2.2, S.1 b)], S.2.2.2.1, min (S.2.2.2.2 + 1) 999)
theorem costF_le {Ls : List Lw} {f : Option Nat} {ws : List Int} : costF Ls f ws ≤ 99 := by
  unfold costF
  split
  · omega
  · split
    · omega
    · exact tfold_le _ _ (by omega)
/-- the class's Rules at r are R -/
def RUR (A : xH) (r : Nat) (u : xU) (R : Ru) : Prop := RU A r u ∧ LWR A u R.1 ∧ sepL u R.1 r 4 ∧ u.2.2.1 = oI R.2.1 ∧ (∀ q, R.2.1 = some q → q < R.1.length) ∧ u.2.2.2.2.1 = nI R.2.2.1 ∧ R.2.2.1 ≤ 9 ∧ u.2.2.2.2.2 = nI R.2.2.2 ∧ R.2.2.2 < 1000
theorem RUR.kp {A A' : xH} {r : Nat} {u : xU} {R : Ru} {P : Nat → Prop} (h : RUR A r u R) (hu : RU A' r u) (hs : sm P A A') (h1 : ∀ i t, i < R.1.length → u.1 i = some t → ∀ q, t ≤ q → q < t + 5 → ¬ P q) : RUR A' r u R :=
  ⟨hu, h.2.1.kp hs (fun i L t hi ht => h1 i t (List.getElem?_eq_some_iff.mp hi).1 ht), h.2.2⟩
/-- the store's pages are within bounds -/
def pgB (B : Bk) : Prop := ∀ b, pdp (B b) ≤ 6
section QUEUE
variable {E : Nat × (Nat → Int32)} {d a r : Nat} {A : xH} {s : xS} {u : xU} {R : Ru} {S : St}
theorem RUR.sR (h : RUR A r u R) {A' : xH} (hu : RU A' r u) (hs : sm (inR r) A A') : RUR A' r u R := h.kp hu hs (fun i t hi ht q q1 q2 q3 => by
  have := h.2.2.1 i t hi ht
  rcases q3 with q3 | q3 <;> omega)
theorem RUR.sS (h : RUR A r u R) (hd : a + 7 ≤ r ∨ r + 4 ≤ a) (ha : sepL u R.1 a 7) {A' : xH} (hs : sm (inS a) A A') : RUR A' r u R := h.kp (h.1.kp hs (fun q q1 q2 q3 => by have := q3.1; have := q3.2; omega)) hs (fun i t hi ht q q1 q2 q3 => by
  have := ha i t hi ht
  have := q3.1; have := q3.2; omega)
theorem sm.toSR1 {A A' : xH} (h : sm (inS a) A A') : sm (inSR a r) A A' := h.mono (fun _ => Or.inl)
theorem sm.toSR2 {A A' : xH} (h : sm (inR r) A A') : sm (inSR a r) A A' := h.mono (fun _ => Or.inr)
theorem n_min999 {t : Nat} (h : t ≤ 999) : xmin (nI t + (1 : Int32)) (999 : Int32) = nI (min (t + 1) 999) := by
  rw [nI_1, show (999 : Int32) = nI 999 from rfl, n_min (by omega) (by omega)]
/-- the write itself -/
theorem c_q24 (h : ST A a s) (hS : RS s S) (hl : S.2.2.1.length < 40) {b c : Nat} (hb : b < 24) (ht : S.2.2.2.2 ≤ 999) {w2 w4 : Value} : ∃ A' s', xD E (d + 2) 55 32 [.ref a, .int (nI b), w2, .int (nI c), w4] [] A = some (none, A') ∧ ST A' a s' ∧ RS s' (S.1, S.2.1, S.2.2.1 ++ [(b, c, S.1 b)], S.2.2.2.1, min (S.2.2.2.2 + 1) 999) ∧ sm (inS a) A A' := by
  obtain ⟨r1, r2, r3, ⟨e, r4, r5, r6, r7⟩, r8, r9, r10⟩ := hS
  generalize hat : (e + S.2.2.1.length) % 40 * 12 = at0
  have hat2 : at0 + 12 ≤ 480 := by omega
  obtain ⟨a1, m1⟩ := h.sW (upd s.2.2.2.1 at0 (nI b))
  obtain ⟨a2, m2⟩ := a1.sW (upd (upd s.2.2.2.1 at0 (nI b)) (at0 + 1) (nI c))
  obtain ⟨a3, m3⟩ := a2.sW (va_cpy s.1 (upd (upd s.2.2.2.1 at0 (nI b)) (at0 + 1) (nI c)) (b * 10) (at0 + 2) 10)
  obtain ⟨A4, e4, a4, m4⟩ := a3.p5 (nI (S.2.2.1.length + 1))
  obtain ⟨A5, e5, a5, m5⟩ := a4.p7 (nI (min (S.2.2.2.2 + 1) 999))
  refine ⟨A5, _, ?_, a5, ?_, (((m1.trans m2).trans m3).trans m4).trans m5⟩
  · rw [e55_32, h.g5, Option.bind_some, r8, c_writeAt h r4 r5 (by omega), xI_s, Option.bind_some]
    dsimp only
    rw [hat, h.g3, Option.bind_some, h_sI0 h.2.2.2.2 (by omega) (by omega), Option.bind_some, a1.g3, Option.bind_some, show (1 : Int32) = nI 1 from rfl, nI_add, h_sI0 a1.2.2.2.2 (by omega) (by omega), Option.bind_some, a2.g0, Option.bind_some, a2.2.1.gN, Option.bind_some, a2.g3, Option.bind_some, show (2 : Int32) = nI 2 from rfl, show (10 : Int32) = nI 10 from rfl, nI_add, pk_mul, h_copy a2.2.1.2 a2.2.2.2.2 (by omega) (by omega) (by omega) (by omega), Option.bind_some, a3.g5, Option.bind_some, r8, nI_add, e4, Option.bind_some, a4.g7, Option.bind_some, r10, show nI S.2.2.2.2 + nI 1 = nI S.2.2.2.2 + (1 : Int32) from rfl, n_min999 ht, e5, Option.bind_some]
  · refine ⟨r1, r2, r3, ⟨e, r4, r5, ?_, ?_⟩, ?_, r9, rfl⟩
    · show (S.2.2.1 ++ _).length ≤ 40
      simp; omega
    · intro i q hq
      show wrR (va_cpy s.1 (upd (upd s.2.2.2.1 at0 (nI b)) (at0 + 1) (nI c)) (b * 10) (at0 + 2) 10) _ q
      by_cases ei : i = S.2.2.1.length
      · subst ei
        change (S.2.2.1 ++ [(b, c, S.1 b)])[S.2.2.1.length]? = some q at hq
        rw [List.getElem?_append_right (Nat.le_refl _), Nat.sub_self] at hq
        cases hq
        rw [hat]
        refine ⟨?_, ?_, ?_, hb⟩
        · rw [pk_cpy_out (by omega), upd_n (by omega)]; exact upd_s
        · rw [pk_cpy_out (by omega)]; exact upd_s
        · refine pgR_mv (r1 b hb) (fun j hj => ?_)
          rw [pk_cpy_in (by omega) (by omega), show b * 10 + (at0 + 2 + j - (at0 + 2)) = b * 10 + 0 + j by omega]
      · have hi : i < S.2.2.1.length := by
          have := (List.getElem?_eq_some_iff.mp hq).1
          have h2 : (S.2.2.1 ++ [(b, c, S.1 b)]).length = S.2.2.1.length + 1 := by simp
          have h3 : i < (S.2.2.1 ++ [(b, c, S.1 b)]).length := this
          omega
        change (S.2.2.1 ++ [(b, c, S.1 b)])[i]? = some q at hq
        rw [List.getElem?_append_left hi] at hq
        refine wrR_cong (r7 i q hq) (fun j j1 j2 => ?_)
        have hne : (e + i) % 40 ≠ (e + S.2.2.1.length) % 40 := by omega
        have : j < at0 ∨ at0 + 12 ≤ j := by omega
        rw [pk_cpy_out (by omega), upd_n (by omega), upd_n (by omega)]
    · show nI (S.2.2.1.length + 1) = nI (S.2.2.1 ++ [(b, c, S.1 b)]).length
      simp
theorem c_queueWrite (h : ST A a s) (hR : RUR A r u R) (hd : a + 7 ≤ r ∨ r + 4 ≤ a) (ha : sepL u R.1 a 7) (hS : RS s S) {b : Nat} (hb : b < 24) (ht : S.2.2.2.2 ≤ 999) (hdp : pdp (S.1 b) ≤ 6) : ∃ A' s', xC E (d + 5) 55 [.ref a, .int (nI b), .ref r] A = some (none, A') ∧ ST A' a s' ∧ RS s' (wrt R S b) ∧ RUR A' r u R ∧ sm (inSR a r) A A' := by
  have hr10 := hS.2.2.2.2.2.2
  obtain ⟨A1, p1, p2, p3⟩ := c_costOf (E := E) (d := d) h hR.1 hd hR.2.1 hR.2.2.1 hS.1 hb hr10 hR.2.2.2.2.2.1 hdp ht hR.2.2.2.2.2.2.1 hR.2.2.2.1 hR.2.2.2.2.1
  have h1 := h.kp p2 (fun q q1 q2 q3 => by rcases q3 with q3 | q3 <;> omega)
  have hR1 := hR.sR p3 p2
  rw [k55 _ _ _ _ _ _ h.cls, c_isB hb, xI_s, Option.bind_some]
  dsimp only
  rw [if_neg (show ¬ nI 1 = (0 : Int32) by decide), hR.1.g4, Option.bind_some, p1, xI_s, Option.bind_some]
  dsimp only
  rw [h1.g5, Option.bind_some, hS.2.2.2.2.1]
  have h40 : S.2.2.1.length ≤ 40 := by
    obtain ⟨-, -, -, ⟨e, -, -, r6, -⟩, -⟩ := hS
    exact r6
  unfold wrt
  by_cases e40 : S.2.2.1.length = 40
  · rw [if_pos e40, if_pos (show nI S.2.2.1.length = (40 : Int32) by rw [e40]; rfl)]
    cases hW : S.2.2.1 with
    | nil => rw [hW] at e40; cases e40
    | cons q W =>
      obtain ⟨A2, s2, q1, q2, q3, q4⟩ := c_doEldest (E := E) (d := d + 2) h1 hS hW
      have he : eld S = (S.1, ub S.2.1 q.1 q.2.2, W, S.2.2.2) := by unfold eld; rw [hW]
      rw [he] at q3 ⊢
      have hWl : W.length < 40 := by
        have h9 : S.2.2.1.length = W.length + 1 := by rw [hW]; rfl
        omega
      obtain ⟨A3, s3, w1, w2, w3, w4⟩ := c_q24 (E := E) (d := d + 3) (b := b) (c := ctR R (S.1 b) b S.2.2.2.2) (w2 := .ref r) (w4 := xJ) q2 q3 hWl hb ht
      refine ⟨A3, s3, ?_, w2, w3, (hR1.sS hd ha q4).sS hd ha w4, (p2.toSR2.trans q4.toSR1).trans w4.toSR1⟩
      rw [q1, xV_s, Option.bind_some]; exact w1
  · rw [if_neg e40, if_neg (show ¬ nI S.2.2.1.length = (40 : Int32) from fun q => e40 ((nI_eq (b := 40) (by omega) (by omega)).mp q))]
    obtain ⟨A3, s3, w1, w2, w3, w4⟩ := c_q24 (E := E) (d := d + 3) (b := b) (c := ctR R (S.1 b) b S.2.2.2.2) (w2 := .ref r) (w4 := xJ) h1 hS (by omega) hb ht
    exact ⟨A3, s3, w1, w2, w3, hR1.sS hd ha w4, p2.toSR2.trans w4.toSR1⟩
end QUEUE
