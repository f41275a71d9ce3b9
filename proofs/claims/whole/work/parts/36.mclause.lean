/-! ===== the reference's readers: clauses, texts ===== -/
def toP (r : PC) : PR := match r with
  | .inl f => .inl f
  | .inr (y, _) => .inr y
section MCLAUSE
variable {E : Nat × (Nat → Int32)} {d : Nat} {A : xH} {fl : Nat → Int32} {ar : Nat → Nat → Int32} {al : Nat → Nat → Int64} {bs : Nat → Nat} {n : Nat} {o : Bool} {x : PX}
def qIf (T : Nat → Nat × Nat) (o : Bool) (y : PX) : PR := if (T y.1).1 = 3 then pTests T o (adv y) else .inr y
def qRule (T : Nat → Nat × Nat) (o : Bool) (x : PX) : PR := if (T x.1).1 = 1 then pSums T o (adv x) else eat T 2 x
def qNum (T : Nat → Nat × Nat) (y : PX) : PR := if (T y.1).1 = 50 ∧ 1 ≤ (T y.1).2 ∧ (T y.1).2 ≤ 20 then .inr (adv y) else .inl y.1
def qTimes (T : Nat → Nat × Nat) (z : PX) : PR := if (T z.1).1 = 25 then qNum T (adv z) else .inr z
def qTail (T : Nat → Nat × Nat) (o : Bool) (y : PX) : PR := rb (pSums T o y) (qTimes T)
def qOrder (T : Nat → Nat × Nat) (o : Bool) (x : PX) : PR := if (T x.1).1 = 20 then rb (rb (pSums T o (adv x)) (eat T 21)) (qTail T o) else if (T x.1).1 = 22 then qTail T o (adv x) else if (T x.1).1 = 23 then qTail T o (adv x) else rb (eat T 24 x) (qTail T o)
theorem toP_rule (T : Nat → Nat × Nat) : toP (pRule T o x) = qRule T o x := by
  unfold pRule qRule eat
  by_cases e : (T x.1).1 = 2
  · rw [if_pos e, if_neg (by omega), if_pos e]; rfl
  · rw [if_neg e]
    by_cases e1 : (T x.1).1 = 1
    · rw [if_pos e1, if_pos e1]; cases pSums T o (adv x) <;> rfl
    · rw [if_neg e1, if_neg e1, if_neg e]; rfl
theorem toP_times (T : Nat → Nat × Nat) {k a b c e : Nat} : toP (pTimes T x k a b c e) = qTimes T x := by
  unfold pTimes qTimes qNum
  split
  · show toP (if (T (x.1 + 1)).1 = 50 ∧ 1 ≤ (T (x.1 + 1)).2 ∧ (T (x.1 + 1)).2 ≤ 20 then _ else _) = (if (T (x.1 + 1)).1 = 50 ∧ 1 ≤ (T (x.1 + 1)).2 ∧ (T (x.1 + 1)).2 ≤ 20 then _ else _)
    split <;> rfl
  · rfl
theorem toP_one (T : Nat → Nat × Nat) {k : Nat} : toP (pOne T o x k) = qTail T o (adv x) := by
  unfold pOne qTail
  cases pSums T o (adv x) with
  | inl t => rfl
  | inr z => exact toP_times T
theorem toP_order (T : Nat → Nat × Nat) : toP (pOrder T o x) = qOrder T o x := by
  unfold pOrder qOrder
  by_cases e : (T x.1).1 = 20
  · rw [if_pos e, if_pos e]
    cases pSums T o (adv x) with
    | inl t => rfl
    | inr y =>
      show toP (if (T y.1).1 = 21 then _ else _) = rb (if (T y.1).1 = 21 then _ else _) _
      by_cases e2 : (T y.1).1 = 21
      · rw [if_pos e2, if_pos e2]
        show _ = rb (pSums T o (adv y)) (qTimes T)
        cases pSums T o (adv y) with
        | inl t => rfl
        | inr z => exact toP_times T
      · rw [if_neg e2, if_neg e2]; rfl
  · rw [if_neg e, if_neg e]
    by_cases e2 : (T x.1).1 = 22
    · rw [if_pos e2, if_pos e2]; exact toP_one T
    · rw [if_neg e2, if_neg e2]
      by_cases e3 : (T x.1).1 = 23
      · rw [if_pos e3, if_pos e3]; exact toP_one T
      · rw [if_neg e3, if_neg e3]
        unfold eat
        by_cases e4 : (T x.1).1 = 24
        · rw [if_pos e4, if_pos e4]; exact toP_one T
        · rw [if_neg e4, if_neg e4]; rfl
theorem toP_clause (T : Nat → Nat × Nat) : toP (pClause T o x) = rb (if o = true then qOrder T o x else qRule T o x) (qIf T o) := by
  have h : toP (if o = true then pOrder T o x else pRule T o x) = (if o = true then qOrder T o x else qRule T o x) := by
    split
    · exact toP_order T
    · exact toP_rule T
  rw [← h]
  unfold pClause
  cases (if o = true then pOrder T o x else pRule T o x) with
  | inl t => rfl
  | inr w =>
    obtain ⟨y, l⟩ := w
    show toP (if (T y.1).1 = 3 then _ else _) = qIf T o y
    unfold qIf
    split
    · cases pTests T o (adv y) <;> rfl
    · rfl
theorem mt_if (hA : 69 ≤ A.length) (hn : n ≤ 400) (hbs : ∀ j, bs j < 256) (hk : mkR bs n ar) : MT A ar al bs n (mst o) (qIf (tok bs n) o) (fun H => (xI (xC E (d + 33) 199 [.ref 48, .int (3 : Int32)] H)).bind fun q3 => if q3.1 = 0 then some (none, q3.2) else (xV (xC E (d + 33) 207 [.ref 48, .int (0 : Int32)] q3.2)).bind fun A4 => some (none, A4)) := by
  refine ⟨fun fl h => ?_, fun fl x hP hx h => ?_⟩
  · dsimp only
    rw [m_takesX hA h, xI_s, Option.bind_some]; exact i_if0
  · unfold qIf
    dsimp only
    by_cases e : (tok bs n x.1).1 = 3
    · obtain ⟨k1, k2⟩ := m_takes1 (E := E) (d := d + 31) (al := al) (c := 3) (cc := 3) hA hn hk hx.1 h rfl e
      have hlt := tok_lt (bs := bs) (n := n) (i := x.1) (by omega)
      rw [if_pos e, k1, xI_s, Option.bind_some]
      dsimp only
      rw [i_if]
      obtain ⟨f1, z1, z2, z3⟩ := (mt_tests (E := E) (d := d) (al := al) (o := o) hA hn hbs hk).2 _ (adv x) (hP.f3 mf19) ⟨hlt, hx.2⟩ k2
      exact ⟨f1, by rw [z1, xV_s, Option.bind_some], mf19.tr z2, z3⟩
    · rw [if_neg e, m_takes0 (c := 3) (cc := 3) hA hn hbs hk hx.1 h rfl (by omega) e, xI_s, Option.bind_some]
      dsimp only
      rw [i_if0]; exact MO.ok h
theorem gd_of {r : PR} {N : Nat} (h : gr N x r) (hx : mok N x) : ∀ y, r = .inr y → mok N y := fun y hy => by
  rw [hy] at h; exact hx.le h.1
theorem eat_ok {c : Nat} (hc : c ≠ 0) (hx : mok (tkN bs n) x) : ∀ y, eat (tok bs n) c x = .inr y → mok (tkN bs n) y := fun y hy => by
  unfold eat at hy
  split at hy
  · rename_i e
    cases hy
    exact ⟨tok_lt (by omega), hx.2⟩
  · cases hy
theorem rb_ok {r : PR} {g : PX → PR} {N : Nat} (h1 : ∀ y, r = .inr y → mok N y) (h2 : ∀ x, mok N x → ∀ y, g x = .inr y → mok N y) : ∀ y, rb r g = .inr y → mok N y := fun y hy => by
  cases r with
  | inl t => cases hy
  | inr z => exact h2 z (h1 z rfl) y hy
theorem sums_ok (hx : mok (tkN bs n) x) : ∀ y, pSums (tok bs n) o x = .inr y → mok (tkN bs n) y := gd_ok gd_sums hx
theorem m_rule (hA : 69 ≤ A.length) (hn : n ≤ 400) (hbs : ∀ j, bs j < 256) (hk : mkR bs n ar) : MT A ar al bs n (mst o) (fun x => rb (qRule (tok bs n) o x) (qIf (tok bs n) o)) (xC E (d + 34) 204 [.ref 48]) := by
  have hi := mt_if (E := E) (d := d) (al := al) (o := o) hA hn hbs hk
  have hm := mt_must (E := E) (d := d + 30) (al := al) (P := mst o) hA hn hbs hk (c := 2) (cc := 2) rfl (by omega)
  have hs := mt_sums (E := E) (d := d + 3) (al := al) (o := o) hA hn hbs hk
  refine ⟨fun fl h => ?_, fun fl x hP hx h => ?_⟩
  · rw [k204 _ _ _ _ (m_k48 hA), m_takesX hA h, xI_s, Option.bind_some]
    dsimp only
    rw [i_if0, hm.1 fl h, xV_s, Option.bind_some]
    exact hi.1 fl h
  · rw [k204 _ _ _ _ (m_k48 hA)]
    dsimp only
    by_cases e : (tok bs n x.1).1 = 1
    · obtain ⟨k1, k2⟩ := m_takes1 (E := E) (d := d + 31) (al := al) (c := 1) (cc := 1) hA hn hk hx.1 h rfl e
      have hlt := tok_lt (bs := bs) (n := n) (i := x.1) (by omega)
      rw [k1, xI_s, Option.bind_some, show qRule (tok bs n) o x = _ from if_pos e]
      dsimp only
      rw [i_if]
      have hx1 : mok (tkN bs n) (adv x) := ⟨hlt, hx.2⟩
      exact MO.tr mf19 (mo_bd hn (P := mst o) (fun f1 h3 => (hP.f3 mf19).f3 h3) (sums_ok hx1) (hs.2 _ (adv x) (hP.f3 mf19) hx1 k2) hi.1 hi.2)
    · rw [m_takes0 (c := 1) (cc := 1) hA hn hbs hk hx.1 h rfl (by omega) e, xI_s, Option.bind_some, show qRule (tok bs n) o x = _ from if_neg e]
      dsimp only
      rw [i_if0]
      exact mo_bd hn (P := mst o) (fun f1 h3 => hP.f3 h3) (eat_ok (by omega) hx) (hm.2 fl x hP hx h) hi.1 hi.2
theorem m_times (hA : 69 ≤ A.length) (hn : n ≤ 400) (hbs : ∀ j, bs j < 256) (hk : mkR bs n ar) : MT A ar al bs n (mst o) (fun z => rb (qTimes (tok bs n) z) (qIf (tok bs n) o)) (fun A1 => (xI (xC E (d + 33) 199 [.ref 48, .int (25 : Int32)] A1)).bind fun q2 => if q2.1 = 0 then (xI (xC E (d + 33) 199 [.ref 48, .int (3 : Int32)] q2.2)).bind fun q3 => if q3.1 = 0 then some (none, q3.2) else (xV (xC E (d + 33) 207 [.ref 48, .int (0 : Int32)] q3.2)).bind fun A4 => some (none, A4) else (xV (xC E (d + 33) 203 [.ref 48, .int (1 : Int32), .int (20 : Int32)] q2.2)).bind fun A5 => (xI (xC E (d + 33) 199 [.ref 48, .int (3 : Int32)] A5)).bind fun q6 => if q6.1 = 0 then some (none, q6.2) else (xV (xC E (d + 33) 207 [.ref 48, .int (0 : Int32)] q6.2)).bind fun A7 => some (none, A7)) := by
  have hi := mt_if (E := E) (d := d) (al := al) (o := o) hA hn hbs hk
  refine ⟨fun fl h => ?_, fun fl x hP hx h => ?_⟩
  · dsimp only
    rw [m_takesX hA h, xI_s, Option.bind_some]
    dsimp only
    rw [i_if0]; exact hi.1 fl h
  · unfold qTimes
    dsimp only
    by_cases e : (tok bs n x.1).1 = 25
    · obtain ⟨k1, k2⟩ := m_takes1 (E := E) (d := d + 31) (al := al) (c := 25) (cc := 25) hA hn hk hx.1 h rfl e
      have hlt := tok_lt (bs := bs) (n := n) (i := x.1) (by omega)
      have hx1 : mok (tkN bs n) (adv x) := ⟨hlt, hx.2⟩
      have hm := m_mustN (E := E) (d := d + 30) (al := al) hA hn hbs hk hx1 k2 (lo := 1) (hi := 20) (a := 1) (b := 20) rfl rfl (by omega) (by omega)
      rw [if_pos e, k1, xI_s, Option.bind_some]
      dsimp only
      rw [i_if]
      refine MO.tr mf19 (mo_bd hn (P := mst o) (fun f1 h3 => (hP.f3 mf19).f3 h3) (fun y hy => ?_) hm hi.1 hi.2)
      unfold qNum at hy
      split at hy
      · rename_i e2
        cases hy
        exact ⟨tok_lt (bs := bs) (n := n) (i := x.1 + 1) (by have := e2.1; simp only [adv] at this; omega), hx.2⟩
      · cases hy
    · rw [if_neg e, m_takes0 (c := 25) (cc := 25) hA hn hbs hk hx.1 h rfl (by omega) e, xI_s, Option.bind_some]
      dsimp only
      rw [i_if0]; exact hi.2 fl x hP hx h
theorem m_tail (hA : 69 ≤ A.length) (hn : n ≤ 400) (hbs : ∀ j, bs j < 256) (hk : mkR bs n ar) : MT A ar al bs n (mst o) (fun y => rb (qTail (tok bs n) o y) (qIf (tok bs n) o)) (fun H => xD E (d + 34) 205 47 [.ref 48] [] H) := by
  have ht := m_times (E := E) (d := d) (al := al) (o := o) hA hn hbs hk
  have hs := mt_sums (E := E) (d := d + 3) (al := al) (o := o) hA hn hbs hk
  refine ⟨fun fl h => ?_, fun fl x hP hx h => ?_⟩
  · dsimp only
    rw [e205_47, hs.1 fl h, xV_s, Option.bind_some]; exact ht.1 fl h
  · dsimp only
    rw [e205_47]
    have e0 : rb (qTail (tok bs n) o x) (qIf (tok bs n) o) = rb (pSums (tok bs n) o x) (fun z => rb (qTimes (tok bs n) z) (qIf (tok bs n) o)) := by
      unfold qTail; cases pSums (tok bs n) o x <;> rfl
    rw [e0]
    exact mo_bd hn (P := mst o) (fun f1 h3 => hP.f3 h3) (sums_ok hx) (hs.2 fl x hP hx h) ht.1 ht.2
theorem m_order (hA : 69 ≤ A.length) (hn : n ≤ 400) (hbs : ∀ j, bs j < 256) (hk : mkR bs n ar) : MT A ar al bs n (mst o) (fun x => rb (qOrder (tok bs n) o x) (qIf (tok bs n) o)) (xC E (d + 34) 205 [.ref 48]) := by
  have ht := m_tail (E := E) (d := d) (al := al) (o := o) hA hn hbs hk
  have hs := mt_sums (E := E) (d := d + 3) (al := al) (o := o) hA hn hbs hk
  have hm24 := mt_must (E := E) (d := d + 30) (al := al) (P := mst o) hA hn hbs hk (c := 24) (cc := 24) rfl (by omega)
  have hm21 := mt_must (E := E) (d := d + 30) (al := al) (P := mst o) hA hn hbs hk (c := 21) (cc := 21) rfl (by omega)
  refine ⟨fun fl h => ?_, fun fl x hP hx h => ?_⟩
  · rw [k205 _ _ _ _ (m_k48 hA), m_takesX hA h, xI_s, Option.bind_some]
    dsimp only
    rw [i_if0, m_takesX hA h, xI_s, Option.bind_some]
    dsimp only
    rw [i_if0, m_takesX hA h, xI_s, Option.bind_some]
    dsimp only
    rw [i_if0, hm24.1 fl h, xV_s, Option.bind_some]
    exact ht.1 fl h
  · rw [k205 _ _ _ _ (m_k48 hA)]
    dsimp only
    have tk1 : ∀ {c : Nat}, (tok bs n x.1).1 = c → c ≠ 0 → mok (tkN bs n) (adv x) := fun e h0 => ⟨tok_lt (bs := bs) (n := n) (i := x.1) (by omega), hx.2⟩
    unfold qOrder
    by_cases e : (tok bs n x.1).1 = 20
    · obtain ⟨k1, k2⟩ := m_takes1 (E := E) (d := d + 31) (al := al) (c := 20) (cc := 20) hA hn hk hx.1 h rfl e
      have hx1 := tk1 e (by omega)
      rw [if_pos e, k1, xI_s, Option.bind_some]
      dsimp only
      rw [i_if]
      have e0 : rb (rb (rb (pSums (tok bs n) o (adv x)) (eat (tok bs n) 21)) (qTail (tok bs n) o)) (qIf (tok bs n) o) = rb (pSums (tok bs n) o (adv x)) (fun y => rb (eat (tok bs n) 21 y) (fun z => rb (qTail (tok bs n) o z) (qIf (tok bs n) o))) := by
        cases pSums (tok bs n) o (adv x) with
        | inl t => rfl
        | inr y =>
          show rb (rb (eat (tok bs n) 21 y) _) _ = rb (eat (tok bs n) 21 y) _
          cases eat (tok bs n) 21 y <;> rfl
      rw [e0]
      refine MO.tr mf19 (mo_bd hn (P := mst o) (fun f1 h3 => (hP.f3 mf19).f3 h3) (sums_ok hx1) (hs.2 _ (adv x) (hP.f3 mf19) hx1 k2) (fun f1 h1 => ?_) (fun f1 y hP1 hy hR => ?_))
      · rw [hm21.1 f1 h1, xV_s, Option.bind_some]; exact ht.1 f1 h1
      · exact mo_bd hn (P := mst o) (fun f2 h3 => hP1.f3 h3) (eat_ok (by omega) hy) (hm21.2 f1 y hP1 hy hR) ht.1 ht.2
    rw [if_neg e, m_takes0 (c := 20) (cc := 20) hA hn hbs hk hx.1 h rfl (by omega) e, xI_s, Option.bind_some]
    dsimp only
    rw [i_if0]
    by_cases e2 : (tok bs n x.1).1 = 22
    · obtain ⟨k1, k2⟩ := m_takes1 (E := E) (d := d + 31) (al := al) (c := 22) (cc := 22) hA hn hk hx.1 h rfl e2
      rw [if_pos e2, k1, xI_s, Option.bind_some]
      dsimp only
      rw [i_if]
      exact MO.tr mf19 (ht.2 _ (adv x) (hP.f3 mf19) (tk1 e2 (by omega)) k2)
    rw [if_neg e2, m_takes0 (c := 22) (cc := 22) hA hn hbs hk hx.1 h rfl (by omega) e2, xI_s, Option.bind_some]
    dsimp only
    rw [i_if0]
    by_cases e3 : (tok bs n x.1).1 = 23
    · obtain ⟨k1, k2⟩ := m_takes1 (E := E) (d := d + 31) (al := al) (c := 23) (cc := 23) hA hn hk hx.1 h rfl e3
      rw [if_pos e3, k1, xI_s, Option.bind_some]
      dsimp only
      rw [i_if]
      exact MO.tr mf19 (ht.2 _ (adv x) (hP.f3 mf19) (tk1 e3 (by omega)) k2)
    rw [if_neg e3, m_takes0 (c := 23) (cc := 23) hA hn hbs hk hx.1 h rfl (by omega) e3, xI_s, Option.bind_some]
    dsimp only
    rw [i_if0]
    have e0 : rb (rb (eat (tok bs n) 24 x) (qTail (tok bs n) o)) (qIf (tok bs n) o) = rb (eat (tok bs n) 24 x) (fun z => rb (qTail (tok bs n) o z) (qIf (tok bs n) o)) := by
      cases eat (tok bs n) 24 x <;> rfl
    rw [e0]
    exact mo_bd hn (P := mst o) (fun f1 h3 => hP.f3 h3) (eat_ok (by omega) hx) (hm24.2 fl x hP hx h) ht.1 ht.2
theorem m_one (hA : 69 ≤ A.length) (hn : n ≤ 400) (hbs : ∀ j, bs j < 256) (hk : mkR bs n ar) (hP : mst o fl) : (fl 21 ≠ -1 → xC E (d + 35) 206 [.ref 48] (mw A fl ar al) = some (none, mw A fl ar al)) ∧ (mok (tkN bs n) x → mpR x fl → MO A ar al bs n fl (toP (pClause (tok bs n) o x)) (xC E (d + 35) 206 [.ref 48] (mw A fl ar al))) := by
  have hr := m_rule (E := E) (d := d) (al := al) (o := o) hA hn hbs hk
  have ho := m_order (E := E) (d := d) (al := al) (o := o) hA hn hbs hk
  have p10 := hP.1
  rw [toP_clause, k206 _ _ _ _ (m_k48 hA), m_g48_10 hA, Option.bind_some, p10]
  have fin : ∀ {r : PR} {X : xO}, MO A ar al bs n fl r X → MO A ar al bs n fl r ((xV X).bind fun A2 => some (none, A2)) := by
    intro r X hx
    obtain ⟨f1, z1, z2, z3⟩ := hx
    exact ⟨f1, by rw [z1, xV_s, Option.bind_some], z2, z3⟩
  cases o with
  | false =>
    simp only [Bool.false_eq_true, if_false, if_true]
    exact ⟨fun h => by rw [hr.1 fl h, xV_s, Option.bind_some], fun hx h => fin (hr.2 fl x hP hx h)⟩
  | true =>
    simp only [if_true]
    rw [i_if]
    exact ⟨fun h => by rw [ho.1 fl h, xV_s, Option.bind_some], fun hx h => fin (ho.2 fl x hP hx h)⟩
/-- what reading a text comes to -/
def MW (A : xH) (ar : Nat → Nat → Int32) (al : Nat → Nat → Int64) (bs : Nat → Nat) (n : Nat) (fl : Nat → Int32) (r : Nat ⊕ (PX × List (List Nat))) (res : xO) : Prop := ∃ fl', (∀ j, j ≠ 14 → j ≠ 19 → j ≠ 20 → j ≠ 21 → fl' j = fl j) ∧ match r with
  | .inl t => res = some (some (.int 0), mw A fl' ar al) ∧ fl' 14 = nI (ps bs n t)
  | .inr _ => res = some (some (.int 1), mw A fl' ar al) ∧ fl' 14 = -1
theorem MW.tr {f1 : Nat → Int32} {r : Nat ⊕ (PX × List (List Nat))} {res : xO} (h : mF3 fl f1) (g : MW A ar al bs n f1 r res) : MW A ar al bs n fl r res := by
  obtain ⟨f', g1, g2⟩ := g
  exact ⟨f', fun j a b c e => (g1 j a b c e).trans (h j b c e), g2⟩
theorem m_rt0 (hA : 69 ≤ A.length) (hn : n ≤ 400) {t : Nat} {i1 : Int32} (h : fl 21 = nI (ps bs n t)) : MW A ar al bs n fl (.inl t) (xD E (d + 36) 213 34 [.ref 48, .int i1] [] (mw A fl ar al)) := by
  have h1 : fl 21 ≠ -1 := by rw [h]; exact ps_n1 hn t
  have h2 : upd fl 14 (fl 21) 21 ≠ -1 := by rw [upd_n (by omega)]; exact h1
  refine ⟨upd fl 14 (fl 21), fun j a _ _ _ => upd_n a, ?_, by rw [upd_s]; exact h⟩
  rw [e213_34, m_sign (c := 59) (cc := 59) rfl, xI_s, Option.bind_some]
  dsimp only
  rw [m_takesX hA h1, xI_s, Option.bind_some]
  dsimp only
  rw [i_if0, m_fine0 hA h1, xI_s, Option.bind_some]
  dsimp only
  rw [i_if0, m_g48_21 hA, Option.bind_some, m_p48_14 hA, Option.bind_some, m_fine0 hA h2, xI_s, Option.bind_some]
  exact if_pos (show x01 0 = true by decide)
theorem m_rt_loop (hA : 69 ≤ A.length) (hn : n ≤ 400) (hbs : ∀ j, bs j < 256) (hk : mkR bs n ar) : ∀ (c : Nat) (cs : List (List Nat)) (x : PX) (fl : Nat → Int32), cs.length + c = 12 → 1 ≤ cs.length → mst o fl → fl 18 = nI (tkN bs n) → mok (tkN bs n) x → mpR x fl → MW A ar al bs n fl (pTail bs n (pMore (tok bs n) o c x cs)) (xD E (d + 36) 213 34 [.ref 48, .int (nI cs.length)] [] (mw A fl ar al))
  | c, cs, x, fl, hc, h1, hP, h18, hx, h => by
    have hN := tkN_le (bs := bs) (n := n)
    have hxN := hx.1
    by_cases e : (tok bs n x.1).1 = 159
    · obtain ⟨k1, k2⟩ := m_takes1 (E := E) (d := d + 33) (al := al) (c := 159) (cc := nI 159) hA hn hk hx.1 h rfl e
      have hlt := tok_lt (bs := bs) (n := n) (i := x.1) (by omega)
      have hx1 : mok (tkN bs n) (adv x) := ⟨hlt, hx.2⟩
      rw [e213_34, m_sign (c := 59) (cc := 59) rfl, xI_s, Option.bind_some]
      dsimp only
      rw [show (100 : Nat) + 59 = 159 from rfl, k1, xI_s, Option.bind_some]
      dsimp only
      rw [i_if]
      refine MW.tr (mf19 (v := nI (x.1 + 1))) ?_
      cases c with
      | zero =>
        have e0 : pMore (tok bs n) o 0 x cs = .inl (x.1 + 1) := if_pos e
        have hb : upd (upd fl 19 (nI (x.1 + 1))) 21 (nI (ps bs n (adv x).1)) 21 ≠ -1 := by rw [upd_s]; exact ps_n1 hn _
        rw [e0, if_pos (show nI cs.length = (12 : Int32) by rw [show cs.length = 12 by omega]; rfl), m_faults1 hA hn hk hx1.1 k2, xV_s, Option.bind_some, m_fine0 hA hb, xI_s, Option.bind_some]
        dsimp only
        rw [i_if0]
        exact MW.tr mf21 (m_rt0 hA hn upd_s)
      | succ c =>
        have e0 : pMore (tok bs n) o (c + 1) x cs = (match pClause (tok bs n) o (adv x) with
          | .inl f => .inl f
          | .inr (y, g) => pMore (tok bs n) o c y (cs ++ [g])) := if_pos e
        have hg := gc_clause (bs := bs) (n := n) (o := o) hx1.1
        have hP1 := hP.f3 (mf19 (v := nI (x.1 + 1)))
        rw [e0, if_neg (show ¬ nI cs.length = (12 : Int32) from fun q => by have := (nI_eq (b := 12) (by omega) (by omega)).mp q; omega), m_fine1 hA k2.2.2, xI_s, Option.bind_some]
        dsimp only
        rw [i_if]
        obtain ⟨f1, z1, z2, z3⟩ := (m_one (E := E) (d := d) (al := al) (x := adv x) hA hn hbs hk hP1).2 hx1 k2
        rw [z1, xV_s, Option.bind_some]
        refine MW.tr z2 ?_
        cases hr : pClause (tok bs n) o (adv x) with
        | inl t =>
          rw [hr] at z3
          exact m_rt0 hA hn z3.1
        | inr w =>
          obtain ⟨y, l⟩ := w
          rw [hr] at z3 hg
          dsimp only
          rw [nI_1, show cs.length + 1 = (cs ++ [l]).length by simp]
          refine m_rt_loop hA hn hbs hk c (cs ++ [l]) y f1 (by simp; omega) (by simp) (hP1.f3 z2) ?_ (hx1.le hg.1) z3
          rw [z2 18 (by omega) (by omega) (by omega), upd_n (by omega)]; exact h18
    · have e0 : pMore (tok bs n) o c x cs = .inr (x, cs) := by cases c <;> exact if_neg e
      rw [e213_34, m_sign (c := 59) (cc := 59) rfl, xI_s, Option.bind_some]
      dsimp only
      rw [m_takes0 hA hn hbs hk hx.1 h rfl (by omega) e, xI_s, Option.bind_some]
      dsimp only
      rw [i_if0, m_fine1 hA h.2.2, xI_s, Option.bind_some]
      dsimp only
      rw [i_if, m_g48_19 hA, Option.bind_some, m_g48_18 hA, Option.bind_some, h.1, h18, e0]
      unfold pTail
      dsimp only
      by_cases e1 : x.1 < tkN bs n
      · rw [if_pos e1, if_neg (nI_ge e1 (by omega)), m_faults1 hA hn hk hx.1 h, xV_s, Option.bind_some, m_g48_21 hA, Option.bind_some, upd_s, m_p48_14 hA, Option.bind_some, m_fine0 hA (show upd (upd fl 21 (nI (ps bs n x.1))) 14 (nI (ps bs n x.1)) 21 ≠ -1 by rw [upd_n (by omega), upd_s]; exact ps_n1 hn _), xI_s, Option.bind_some]
        refine ⟨upd (upd fl 21 (nI (ps bs n x.1))) 14 (nI (ps bs n x.1)), fun j a _ _ b => ?_, if_pos (show x01 0 = true by decide), upd_s⟩
        rw [upd_n a, upd_n b]
      · rw [if_neg e1, if_pos (nI_le (by omega) (by omega)), m_g48_21 hA, Option.bind_some, m_p48_14 hA, Option.bind_some, m_fine1 hA (show upd fl 14 (fl 21) 21 = -1 by rw [upd_n (by omega)]; exact h.2.2), xI_s, Option.bind_some]
        refine ⟨upd fl 14 (fl 21), fun j a _ _ b => upd_n a, if_pos (show x01 1 = true by decide), by rw [upd_s]; exact h.2.2⟩
end MCLAUSE
