/-! ===== the reference's readers ===== -/
section MREAD
variable {E : Nat × (Nat → Int32)} {d : Nat} {A : xH} {fl : Nat → Int32} {ar : Nat → Nat → Int32} {al : Nat → Nat → Int64} {bs : Nat → Nat} {n : Nat} {o : Bool} {x : PX} {f : PX → PR} {br : Int32}
/-- the tokens as the reference keeps them -/
def mkR (bs : Nat → Nat) (n : Nat) (ar : Nat → Nat → Int32) : Prop := ∀ i, i ≤ tkN bs n → ar 15 i = nI (tok bs n i).1 ∧ ar 17 i = nI (ps bs n i) ∧ ∃ w, ar 16 i = nI w ∧ min w 1001 = (tok bs n i).2 ∧ w ≤ 20000000
def mpR (x : PX) (fl : Nat → Int32) : Prop := fl 19 = nI x.1 ∧ fl 20 = nI x.2.1 ∧ fl 21 = -1
def mok (N : Nat) (x : PX) : Prop := x.1 ≤ N ∧ x.2.1 ≤ 50
theorem mok.le {N : Nat} {x y : PX} (h : mok N x) (g : xle N x y) : mok N y := ⟨g.2.1 h.1, g.2.2.2.2.2.2.1 h.2⟩
def mF3 (fl fl' : Nat → Int32) : Prop := ∀ j, j ≠ 19 → j ≠ 20 → j ≠ 21 → fl' j = fl j
theorem mF3.rf : mF3 fl fl := fun _ _ _ _ => rfl
theorem mF3.tr {f1 f2 : Nat → Int32} (h : mF3 fl f1) (g : mF3 f1 f2) : mF3 fl f2 := fun j a b c => (g j a b c).trans (h j a b c)
def MO (A : xH) (ar : Nat → Nat → Int32) (al : Nat → Nat → Int64) (bs : Nat → Nat) (n : Nat) (fl : Nat → Int32) (r : PR) (res : xO) : Prop := ∃ fl', res = some (none, mw A fl' ar al) ∧ mF3 fl fl' ∧ match r with
  | .inl t => fl' 21 = nI (ps bs n t) ∧ t ≤ tkN bs n
  | .inr y => mpR y fl'
theorem MO.tr {f1 : Nat → Int32} {r : PR} {res : xO} (h : mF3 fl f1) (g : MO A ar al bs n f1 r res) : MO A ar al bs n fl r res := by
  obtain ⟨f', g1, g2, g3⟩ := g
  exact ⟨f', g1, h.tr g2, g3⟩
def MT (A : xH) (ar : Nat → Nat → Int32) (al : Nat → Nat → Int64) (bs : Nat → Nat) (n : Nat) (P : (Nat → Int32) → Prop) (f : PX → PR) (call : xH → xO) : Prop := (∀ fl, fl 21 ≠ -1 → call (mw A fl ar al) = some (none, mw A fl ar al)) ∧ ∀ fl x, P fl → mok (tkN bs n) x → mpR x fl → MO A ar al bs n fl (f x) (call (mw A fl ar al))
/-- what of the reference does not change while it reads -/
def mst (o : Bool) (fl : Nat → Int32) : Prop := fl 10 = (if o = true then 1 else 0) ∧ fl 8 = (if o = true then nI 12 else nI 7) ∧ fl 9 = (if o = true then nI 19 else nI 13)
theorem mst.f3 {f1 : Nat → Int32} (h : mst o fl) (g : mF3 fl f1) : mst o f1 := ⟨by rw [g 10 (by omega) (by omega) (by omega)]; exact h.1, by rw [g 8 (by omega) (by omega) (by omega)]; exact h.2.1, by rw [g 9 (by omega) (by omega) (by omega)]; exact h.2.2⟩
theorem ps_n1 (hn : n ≤ 400) (i : Nat) : nI (ps bs n i) ≠ -1 := by
  have := ps_le (bs := bs) (n := n) i
  exact n_m1ne (by omega)
theorem tok_c (hbs : ∀ j, bs j < 256) (i : Nat) : (tok bs n i).1 ≤ 355 := by
  unfold tok tcd
  dsimp only
  have h1 := wcd_le (wdB bs (ps bs n i) (en bs n (ps bs n i)))
  have h2 := hbs (ps bs n i)
  split
  · omega
  · split
    · omega
    · split <;> omega
theorem m_fine1 (hA : 69 ≤ A.length) (h : fl 21 = -1) : xC E (d + 1) 197 [.ref 48] (mw A fl ar al) = some (some (.int 1), mw A fl ar al) := by
  rw [k197 _ _ _ _ (m_k48 hA), m_g48_21 hA, Option.bind_some, if_pos h]
theorem m_fine0 (hA : 69 ≤ A.length) (h : fl 21 ≠ -1) : xC E (d + 1) 197 [.ref 48] (mw A fl ar al) = some (some (.int 0), mw A fl ar al) := by
  rw [k197 _ _ _ _ (m_k48 hA), m_g48_21 hA, Option.bind_some, if_neg h]
theorem m_faults1 (hA : 69 ≤ A.length) (hn : n ≤ 400) (hk : mkR bs n ar) (hx : x.1 ≤ tkN bs n) (h : mpR x fl) : xC E (d + 2) 198 [.ref 48] (mw A fl ar al) = some (none, mw A (upd fl 21 (nI (ps bs n x.1))) ar al) := by
  have hN := tkN_le (bs := bs) (n := n)
  rw [k198 _ _ _ _ (m_k48 hA), m_fine1 hA h.2.2, xI_s, Option.bind_some]
  dsimp only
  rw [i_if, m_r48_17 hA, Option.bind_some, m_g48_19 hA, Option.bind_some, h.1, m_a59 hA (by omega), Option.bind_some, m_p48_21 hA, Option.bind_some, (hk _ hx).2.1]
theorem m_faults0 (hA : 69 ≤ A.length) (h : fl 21 ≠ -1) : xC E (d + 2) 198 [.ref 48] (mw A fl ar al) = some (none, mw A fl ar al) := by
  rw [k198 _ _ _ _ (m_k48 hA), m_fine0 hA h, xI_s, Option.bind_some]
  exact i_if0
theorem m_takes1 (hA : 69 ≤ A.length) (hn : n ≤ 400) (hk : mkR bs n ar) (hx : x.1 ≤ tkN bs n) (h : mpR x fl) {c : Nat} {cc : Int32} (hc : cc = nI c) (ht : (tok bs n x.1).1 = c) : xC E (d + 2) 199 [.ref 48, .int cc] (mw A fl ar al) = some (some (.int 1), mw A (upd fl 19 (nI (x.1 + 1))) ar al) ∧ mpR (adv x) (upd fl 19 (nI (x.1 + 1))) := by
  have hN := tkN_le (bs := bs) (n := n)
  refine ⟨?_, upd_s, by rw [upd_n (by omega)]; exact h.2.1, by rw [upd_n (by omega)]; exact h.2.2⟩
  rw [k199 _ _ _ _ _ (m_k48 hA), m_fine1 hA h.2.2, xI_s, Option.bind_some]
  dsimp only
  rw [i_if, m_r48_15 hA, Option.bind_some, m_g48_19 hA, Option.bind_some, h.1, m_a57 hA (by omega), Option.bind_some, (hk _ hx).1, ht, hc, if_pos rfl, e199_25, i_if, m_g48_19 hA, Option.bind_some, h.1, nI_1, m_p48_19 hA, Option.bind_some, if_pos (by decide)]
theorem m_takes0 (hA : 69 ≤ A.length) (hn : n ≤ 400) (hbs : ∀ j, bs j < 256) (hk : mkR bs n ar) (hx : x.1 ≤ tkN bs n) (h : mpR x fl) {c : Nat} {cc : Int32} (hc : cc = nI c) (hc2 : c ≤ 355) (ht : ¬ (tok bs n x.1).1 = c) : xC E (d + 2) 199 [.ref 48, .int cc] (mw A fl ar al) = some (some (.int 0), mw A fl ar al) := by
  have hN := tkN_le (bs := bs) (n := n)
  have htc := tok_c (bs := bs) (n := n) hbs x.1
  rw [k199 _ _ _ _ _ (m_k48 hA), m_fine1 hA h.2.2, xI_s, Option.bind_some]
  dsimp only
  rw [i_if, m_r48_15 hA, Option.bind_some, m_g48_19 hA, Option.bind_some, h.1, m_a57 hA (by omega), Option.bind_some, (hk _ hx).1, hc, if_neg (fun q => ht ((nI_eq (by omega) (by omega)).mp q)), e199_25, i_if0, if_pos (by decide)]
theorem m_takesX (hA : 69 ≤ A.length) (h : fl 21 ≠ -1) {cc : Int32} : xC E (d + 2) 199 [.ref 48, .int cc] (mw A fl ar al) = some (some (.int 0), mw A fl ar al) := by
  rw [k199 _ _ _ _ _ (m_k48 hA), m_fine0 hA h, xI_s, Option.bind_some]
  dsimp only
  rw [i_if0, e199_25, i_if0, if_pos (by decide)]
theorem m_sign {c : Nat} {cc : Int32} (hc : cc = nI c) {H : xH} : xC E (d + 1) 202 [.int cc] H = some (some (.int (nI (100 + c))), H) := by
  rw [k202, hc, zl, nI_add]
theorem mf19 {v : Int32} : mF3 fl (upd fl 19 v) := fun j a _ _ => upd_n a
theorem mf20 {v : Int32} : mF3 fl (upd fl 20 v) := fun j _ a _ => upd_n a
theorem mf21 {v : Int32} : mF3 fl (upd fl 21 v) := fun j _ _ a => upd_n a
theorem MO.bad (hx : x.1 ≤ tkN bs n) : MO A ar al bs n fl (.inl x.1) (some (none, mw A (upd fl 21 (nI (ps bs n x.1))) ar al)) := ⟨_, rfl, mf21, upd_s, hx⟩
theorem MO.ok (h : mpR x fl) : MO A ar al bs n fl (.inr x) (some (none, mw A fl ar al)) := ⟨fl, rfl, mF3.rf, h⟩
theorem mt_must (hA : 69 ≤ A.length) (hn : n ≤ 400) (hbs : ∀ j, bs j < 256) (hk : mkR bs n ar) {P : (Nat → Int32) → Prop} {c : Nat} {cc : Int32} (hc : cc = nI c) (hc2 : c ≤ 355) : MT A ar al bs n P (eat (tok bs n) c) (xC E (d + 3) 200 [.ref 48, .int cc]) := by
  refine ⟨fun fl h => ?_, fun fl x _ hx h => ?_⟩
  · rw [k200 _ _ _ _ _ (m_k48 hA), m_takesX hA h, xI_s, Option.bind_some]
    dsimp only
    rw [i_if0, m_faults0 hA h, xV_s, Option.bind_some]
  · rw [k200 _ _ _ _ _ (m_k48 hA)]
    unfold eat
    by_cases e : (tok bs n x.1).1 = c
    · obtain ⟨k1, k2⟩ := m_takes1 (E := E) (d := d) (al := al) hA hn hk hx.1 h hc e
      rw [if_pos e, k1, xI_s, Option.bind_some]
      dsimp only
      rw [i_if]
      exact MO.tr mf19 (MO.ok k2)
    · rw [if_neg e, m_takes0 hA hn hbs hk hx.1 h hc hc2 e, xI_s, Option.bind_some]
      dsimp only
      rw [i_if0, m_faults1 hA hn hk hx.1 h, xV_s, Option.bind_some]
      exact MO.bad hx.1
/-- one reader, then another -/
theorem mo_bd {r : PR} {X : xO} {g : PX → PR} {K : xH → xO} (hn : n ≤ 400) {P : (Nat → Int32) → Prop} (hP : ∀ f1, mF3 fl f1 → P f1) (hr : ∀ y, r = .inr y → mok (tkN bs n) y) (h : MO A ar al bs n fl r X) (h0 : ∀ fl, fl 21 ≠ -1 → K (mw A fl ar al) = some (none, mw A fl ar al)) (h1 : ∀ fl x, P fl → mok (tkN bs n) x → mpR x fl → MO A ar al bs n fl (g x) (K (mw A fl ar al))) : MO A ar al bs n fl (rb r g) ((xV X).bind K) := by
  obtain ⟨f1, k1, k2, k3⟩ := h
  rw [k1, xV_s, Option.bind_some]
  cases r with
  | inl t =>
    refine ⟨f1, h0 f1 ?_, k2, k3⟩
    rw [k3.1]; exact ps_n1 hn t
  | inr y => exact MO.tr k2 (h1 f1 y (hP f1 k2) (hr y rfl) k3)
theorem gd_ok {N : Nat} (hf : gd N f) (hx : mok N x) : ∀ y, f x = .inr y → mok N y := fun y hy => by
  have := hf x hx.1
  rw [hy] at this
  exact hx.le this.1
theorem mt_seq {g : PX → PR} {c1 c2 : xH → xO} {K : xH → xO} (hn : n ≤ 400) {o : Bool} (hf : gd (tkN bs n) f) (h1 : MT A ar al bs n (mst o) f c1) (h2 : MT A ar al bs n (mst o) g K) (hc : ∀ fl, c2 (mw A fl ar al) = (xV (c1 (mw A fl ar al))).bind K) : MT A ar al bs n (mst o) (fun x => rb (f x) g) c2 := by
  refine ⟨fun fl h => ?_, fun fl x hP hx h => ?_⟩
  · rw [hc, h1.1 fl h, xV_s, Option.bind_some, h2.1 fl h]
  · rw [hc]
    exact mo_bd hn (fun f1 h3 => hP.f3 h3) (gd_ok hf hx) (h1.2 fl x hP hx h) h2.1 h2.2
/-- behind a sign: a reader, then on -/
theorem mt_step {call K : xH → xO} {G : PX → PR} {post : PX → PX} {x0 : PX} (hn : n ≤ 400) (hf : gd (tkN bs n) f) (hp : MT A ar al bs n (mst o) f call) (h0 : ∀ fl, fl 21 ≠ -1 → K (mw A fl ar al) = some (none, mw A fl ar al)) (hP : mst o fl) (hx : mok (tkN bs n) x) (hlt : x.1 < tkN bs n) (h : mpR x fl) (e1 : x0.1 = x.1 + 1) (e2 : x0.2.1 = x.2.1) (hpost : ∀ z, (post z).1 = z.1 ∧ (post z).2.1 = z.2.1) (ih : ∀ (f1 : Nat → Int32) (z : PX), mst o f1 → mok (tkN bs n) z → x.1 < z.1 → mpR z f1 → MO A ar al bs n f1 (G z) (K (mw A f1 ar al))) : MO A ar al bs n fl (rb (rb (f x0) fun z => .inr (post z)) G) ((xV (call (mw A (upd fl 19 (nI (x.1 + 1))) ar al))).bind K) := by
  have hx1 : mok (tkN bs n) x0 := ⟨by omega, by rw [e2]; exact hx.2⟩
  have hR : mpR x0 (upd fl 19 (nI (x.1 + 1))) := ⟨by rw [e1]; exact upd_s, by rw [upd_n (by omega), e2]; exact h.2.1, by rw [upd_n (by omega)]; exact h.2.2⟩
  have hg := hf x0 hx1.1
  have e0 : rb (rb (f x0) fun z => .inr (post z)) G = rb (f x0) (fun z => G (post z)) := by
    cases f x0 <;> rfl
  rw [e0]
  refine MO.tr (mf19 (v := nI (x.1 + 1))) ?_
  obtain ⟨f1, k1, k2, k3⟩ := hp.2 _ _ (hP.f3 mf19) hx1 hR
  rw [k1, xV_s, Option.bind_some]
  cases hr : f x0 with
  | inl t =>
    rw [hr] at k3
    exact ⟨f1, h0 f1 (by rw [k3.1]; exact ps_n1 hn t), k2, k3⟩
  | inr z =>
    rw [hr] at k3 hg
    obtain ⟨p1, p2⟩ := hpost z
    have hz := hx1.le hg.1
    refine MO.tr k2 (ih f1 _ ((hP.f3 mf19).f3 k2) ⟨by rw [p1]; exact hz.1, by rw [p2]; exact hz.2⟩ ?_ ⟨by rw [p1]; exact k3.1, by rw [p2]; exact k3.2.1, k3.2.2⟩)
    have := hg.2
    omega
theorem emi_p (op a : Nat) (z : PX) : (emi z op a).1 = z.1 ∧ (emi z op a).2.1 = z.2.1 := ⟨rfl, rfl⟩
theorem aim_p (s op : Nat) (z : PX) : (aimx z s op).1 = z.1 ∧ (aimx z s op).2.1 = z.2.1 := ⟨rfl, rfl⟩
theorem mt_term0 (hA : 69 ≤ A.length) (h : fl 21 ≠ -1) : xD E (d + 3) 211 5 [.ref 48, .int br] [] (mw A fl ar al) = some (none, mw A fl ar al) := by
  rw [e211_5, m_sign (c := 42) (cc := 42) rfl, xI_s, Option.bind_some]
  dsimp only
  rw [m_takesX hA h, xI_s, Option.bind_some]
  dsimp only
  rw [i_if0, m_sign (c := 47) (cc := 47) rfl, xI_s, Option.bind_some]
  dsimp only
  rw [m_takesX hA h, xI_s, Option.bind_some]
  dsimp only
  rw [i_if0, m_sign (c := 37) (cc := 37) rfl, xI_s, Option.bind_some]
  dsimp only
  rw [m_takesX hA h, xI_s, Option.bind_some]
  exact i_if0
theorem mt_term_loop (hA : 69 ≤ A.length) (hn : n ≤ 400) (hbs : ∀ j, bs j < 256) (hk : mkR bs n ar) (hf : gd (tkN bs n) f) (hp : MT A ar al bs n (mst o) f (xC E (d + 2) 212 [.ref 48, .int br])) : ∀ (c : Nat) (fl : Nat → Int32) (x : PX), mst o fl → mok (tkN bs n) x → tkN bs n ≤ x.1 + c → mpR x fl → MO A ar al bs n fl (lp (sTerm (tok bs n) f) c x) (xD E (d + 3) 211 5 [.ref 48, .int br] [] (mw A fl ar al)) := by
  have no : ∀ (fl : Nat → Int32) (x : PX), mok (tkN bs n) x → mpR x fl → ¬ ((tok bs n x.1).1 = 142 ∨ (tok bs n x.1).1 = 147 ∨ (tok bs n x.1).1 = 137) → MO A ar al bs n fl (.inr x) (xD E (d + 3) 211 5 [.ref 48, .int br] [] (mw A fl ar al)) := by
    intro fl x hx h e
    rw [e211_5, m_sign (c := 42) (cc := 42) rfl, xI_s, Option.bind_some]
    dsimp only
    rw [m_takes0 hA hn hbs hk hx.1 h rfl (by omega) (fun q => e (Or.inl q)), xI_s, Option.bind_some]
    dsimp only
    rw [i_if0, m_sign (c := 47) (cc := 47) rfl, xI_s, Option.bind_some]
    dsimp only
    rw [m_takes0 hA hn hbs hk hx.1 h rfl (by omega) (fun q => e (Or.inr (Or.inl q))), xI_s, Option.bind_some]
    dsimp only
    rw [i_if0, m_sign (c := 37) (cc := 37) rfl, xI_s, Option.bind_some]
    dsimp only
    rw [m_takes0 hA hn hbs hk hx.1 h rfl (by omega) (fun q => e (Or.inr (Or.inr q))), xI_s, Option.bind_some]
    dsimp only
    rw [i_if0]
    exact MO.ok h
  intro c
  induction c with
  | zero =>
    intro fl x hP hx hc h
    have ht := tok_end (bs := bs) (n := n) (i := x.1) (by omega)
    exact no fl x hx h (by rw [ht]; simp)
  | succ c ih =>
    intro fl x hP hx hc h
    by_cases e : (tok bs n x.1).1 = 142 ∨ (tok bs n x.1).1 = 147 ∨ (tok bs n x.1).1 = 137
    · rw [lp_some (if_pos e : sTerm (tok bs n) f x = _)]
      have go := mt_step (K := fun A7 => xD E (d + 3) 211 5 [.ref 48, .int br] [] A7) (G := lp (sTerm (tok bs n) f) c) (post := fun z => emi z (opT (tok bs n x.1).1) 0) (x0 := adv x) hn hf hp (fun fl h => mt_term0 hA h) hP hx (tok_lt (by omega)) h rfl rfl (fun z => emi_p _ _ z) (fun f1 z a b c' e' => ih f1 z a b (by omega) e')
      rw [e211_5, m_sign (c := 42) (cc := 42) rfl, xI_s, Option.bind_some]
      dsimp only
      by_cases e1 : (tok bs n x.1).1 = 142
      · rw [(m_takes1 (E := E) (d := d) (al := al) hA hn hk hx.1 h rfl e1).1, xI_s, Option.bind_some]
        dsimp only
        rw [i_if]; exact go
      rw [m_takes0 hA hn hbs hk hx.1 h rfl (by omega) e1, xI_s, Option.bind_some]
      dsimp only
      rw [i_if0, m_sign (c := 47) (cc := 47) rfl, xI_s, Option.bind_some]
      dsimp only
      by_cases e2 : (tok bs n x.1).1 = 147
      · rw [(m_takes1 (E := E) (d := d) (al := al) hA hn hk hx.1 h rfl e2).1, xI_s, Option.bind_some]
        dsimp only
        rw [i_if]; exact go
      rw [m_takes0 hA hn hbs hk hx.1 h rfl (by omega) e2, xI_s, Option.bind_some]
      dsimp only
      rw [i_if0, m_sign (c := 37) (cc := 37) rfl, xI_s, Option.bind_some]
      dsimp only
      rw [(m_takes1 (E := E) (d := d) (al := al) hA hn hk hx.1 h rfl (show (tok bs n x.1).1 = 137 by omega)).1, xI_s, Option.bind_some]
      dsimp only
      rw [i_if]; exact go
    · rw [lp_none (if_neg e : sTerm (tok bs n) f x = _)]
      exact no fl x hx h e
theorem mt_term (hA : 69 ≤ A.length) (hn : n ≤ 400) (hbs : ∀ j, bs j < 256) (hk : mkR bs n ar) (hf : gd (tkN bs n) f) (hp : MT A ar al bs n (mst o) f (xC E (d + 2) 212 [.ref 48, .int br])) : MT A ar al bs n (mst o) (pTerm (tok bs n) f) (xC E (d + 3) 211 [.ref 48, .int br]) := by
  have hN := tkN_le (bs := bs) (n := n)
  exact mt_seq (K := fun A1 => xD E (d + 3) 211 5 [.ref 48, .int br] [] A1) hn hf hp ⟨fun fl h => mt_term0 hA h, fun fl x hP hx h => mt_term_loop hA hn hbs hk hf hp 400 fl x hP hx (by omega) h⟩ (fun fl => k211 _ _ _ _ _ (m_k48 hA))
theorem mt_sum0 (hA : 69 ≤ A.length) (h : fl 21 ≠ -1) : xD E (d + 3) 210 5 [.ref 48, .int br] [] (mw A fl ar al) = some (none, mw A fl ar al) := by
  rw [e210_5, m_sign (c := 43) (cc := 43) rfl, xI_s, Option.bind_some]
  dsimp only
  rw [m_takesX hA h, xI_s, Option.bind_some]
  dsimp only
  rw [i_if0, m_sign (c := 45) (cc := 45) rfl, xI_s, Option.bind_some]
  dsimp only
  rw [m_takesX hA h, xI_s, Option.bind_some]
  exact i_if0
theorem mt_sum_loop (hA : 69 ≤ A.length) (hn : n ≤ 400) (hbs : ∀ j, bs j < 256) (hk : mkR bs n ar) (hf : gd (tkN bs n) f) (hp : MT A ar al bs n (mst o) (pTerm (tok bs n) f) (xC E (d + 2) 211 [.ref 48, .int br])) : ∀ (c : Nat) (fl : Nat → Int32) (x : PX), mst o fl → mok (tkN bs n) x → tkN bs n ≤ x.1 + c → mpR x fl → MO A ar al bs n fl (lp (sSum (tok bs n) f) c x) (xD E (d + 3) 210 5 [.ref 48, .int br] [] (mw A fl ar al)) := by
  have no : ∀ (fl : Nat → Int32) (x : PX), mok (tkN bs n) x → mpR x fl → ¬ ((tok bs n x.1).1 = 143 ∨ (tok bs n x.1).1 = 145) → MO A ar al bs n fl (.inr x) (xD E (d + 3) 210 5 [.ref 48, .int br] [] (mw A fl ar al)) := by
    intro fl x hx h e
    rw [e210_5, m_sign (c := 43) (cc := 43) rfl, xI_s, Option.bind_some]
    dsimp only
    rw [m_takes0 hA hn hbs hk hx.1 h rfl (by omega) (fun q => e (Or.inl q)), xI_s, Option.bind_some]
    dsimp only
    rw [i_if0, m_sign (c := 45) (cc := 45) rfl, xI_s, Option.bind_some]
    dsimp only
    rw [m_takes0 hA hn hbs hk hx.1 h rfl (by omega) (fun q => e (Or.inr q)), xI_s, Option.bind_some]
    dsimp only
    rw [i_if0]
    exact MO.ok h
  intro c
  induction c with
  | zero =>
    intro fl x hP hx hc h
    have ht := tok_end (bs := bs) (n := n) (i := x.1) (by omega)
    exact no fl x hx h (by rw [ht]; simp)
  | succ c ih =>
    intro fl x hP hx hc h
    by_cases e : (tok bs n x.1).1 = 143 ∨ (tok bs n x.1).1 = 145
    · rw [lp_some (if_pos e : sSum (tok bs n) f x = _)]
      have go := mt_step (K := fun A7 => xD E (d + 3) 210 5 [.ref 48, .int br] [] A7) (G := lp (sSum (tok bs n) f) c) (post := fun z => emi z (opS (tok bs n x.1).1) 0) (x0 := adv x) hn (gd_term hTk hf) hp (fun fl h => mt_sum0 hA h) hP hx (tok_lt (by omega)) h rfl rfl (fun z => emi_p _ _ z) (fun f1 z a b c' e' => ih f1 z a b (by omega) e')
      rw [e210_5, m_sign (c := 43) (cc := 43) rfl, xI_s, Option.bind_some]
      dsimp only
      by_cases e1 : (tok bs n x.1).1 = 143
      · rw [(m_takes1 (E := E) (d := d) (al := al) hA hn hk hx.1 h rfl e1).1, xI_s, Option.bind_some]
        dsimp only
        rw [i_if]; exact go
      rw [m_takes0 hA hn hbs hk hx.1 h rfl (by omega) e1, xI_s, Option.bind_some]
      dsimp only
      rw [i_if0, m_sign (c := 45) (cc := 45) rfl, xI_s, Option.bind_some]
      dsimp only
      rw [(m_takes1 (E := E) (d := d) (al := al) hA hn hk hx.1 h rfl (show (tok bs n x.1).1 = 145 by omega)).1, xI_s, Option.bind_some]
      dsimp only
      rw [i_if]; exact go
    · rw [lp_none (if_neg e : sSum (tok bs n) f x = _)]
      exact no fl x hx h e
theorem mt_sum (hA : 69 ≤ A.length) (hn : n ≤ 400) (hbs : ∀ j, bs j < 256) (hk : mkR bs n ar) (hf : gd (tkN bs n) f) (hp : MT A ar al bs n (mst o) f (xC E (d + 2) 212 [.ref 48, .int br])) : MT A ar al bs n (mst o) (pSum (tok bs n) f) (xC E (d + 4) 210 [.ref 48, .int br]) := by
  have hN := tkN_le (bs := bs) (n := n)
  have ht := mt_term (E := E) hA hn hbs hk hf hp
  exact mt_seq (K := fun A1 => xD E (d + 4) 210 5 [.ref 48, .int br] [] A1) hn (gd_term hTk hf) ht ⟨fun fl h => mt_sum0 hA h, fun fl x hP hx h => mt_sum_loop (d := d + 1) hA hn hbs hk hf ht 400 fl x hP hx (by omega) h⟩ (fun fl => k210 _ _ _ _ _ (m_k48 hA))
theorem mt_both (hA : 69 ≤ A.length) (hn : n ≤ 400) (hbs : ∀ j, bs j < 256) (hk : mkR bs n ar) (hf : gd (tkN bs n) f) (hp : MT A ar al bs n (mst o) f (xC E (d + 2) 209 [.ref 48, .int br])) : MT A ar al bs n (mst o) (pBoth (tok bs n) f) (xC E (d + 3) 208 [.ref 48, .int br]) := by
  have hN := tkN_le (bs := bs) (n := n)
  have h0 : ∀ fl, fl 21 ≠ -1 → xD E (d + 3) 208 5 [.ref 48, .int br] [] (mw A fl ar al) = some (none, mw A fl ar al) := by
    intro fl h
    rw [e208_5, m_takesX hA h, xI_s, Option.bind_some]; exact i_if0
  have no : ∀ (fl : Nat → Int32) (x : PX), mok (tkN bs n) x → mpR x fl → ¬ (tok bs n x.1).1 = 5 → MO A ar al bs n fl (.inr x) (xD E (d + 3) 208 5 [.ref 48, .int br] [] (mw A fl ar al)) := by
    intro fl x hx h e
    rw [e208_5, m_takes0 (c := 5) (cc := 5) hA hn hbs hk hx.1 h rfl (by omega) e, xI_s, Option.bind_some]
    dsimp only
    rw [i_if0]
    exact MO.ok h
  have lo : ∀ (c : Nat) (fl : Nat → Int32) (x : PX), mst o fl → mok (tkN bs n) x → tkN bs n ≤ x.1 + c → mpR x fl → MO A ar al bs n fl (lp (sBoth (tok bs n) f) c x) (xD E (d + 3) 208 5 [.ref 48, .int br] [] (mw A fl ar al)) := by
    intro c
    induction c with
    | zero =>
      intro fl x hP hx hc h
      have ht := tok_end (bs := bs) (n := n) (i := x.1) (by omega)
      exact no fl x hx h (by rw [ht]; simp)
    | succ c ih =>
      intro fl x hP hx hc h
      by_cases e : (tok bs n x.1).1 = 5
      · rw [lp_some (if_pos e : sBoth (tok bs n) f x = _)]
        have go := mt_step (K := fun A7 => xD E (d + 3) 208 5 [.ref 48, .int br] [] A7) (G := lp (sBoth (tok bs n) f) c) (post := fun z => aimx z x.2.2.1.length 3) (x0 := emi (adv x) 3 0) hn hf hp h0 hP hx (tok_lt (by omega)) h rfl rfl (fun z => aim_p _ _ z) (fun f1 z a b c' e' => ih f1 z a b (by omega) e')
        rw [e208_5, (m_takes1 (E := E) (d := d) (al := al) (c := 5) (cc := 5) hA hn hk hx.1 h rfl e).1, xI_s, Option.bind_some]
        dsimp only
        rw [i_if]; exact go
      · rw [lp_none (if_neg e : sBoth (tok bs n) f x = _)]
        exact no fl x hx h e
  exact mt_seq (K := fun A1 => xD E (d + 3) 208 5 [.ref 48, .int br] [] A1) hn hf hp ⟨h0, fun fl x hP hx h => lo 400 fl x hP hx (by omega) h⟩ (fun fl => k208 _ _ _ _ _ (m_k48 hA))
theorem mt_test (hA : 69 ≤ A.length) (hn : n ≤ 400) (hbs : ∀ j, bs j < 256) (hk : mkR bs n ar) (hf : gd (tkN bs n) f) (hp : MT A ar al bs n (mst o) f (xC E (d + 2) 209 [.ref 48, .int br])) : MT A ar al bs n (mst o) (pTest (tok bs n) f) (xC E (d + 4) 207 [.ref 48, .int br]) := by
  have hN := tkN_le (bs := bs) (n := n)
  have hb := mt_both (E := E) hA hn hbs hk hf hp
  have hfb := gd_both (T := tok bs n) hTk hf
  have h0 : ∀ fl, fl 21 ≠ -1 → xD E (d + 4) 207 5 [.ref 48, .int br] [] (mw A fl ar al) = some (none, mw A fl ar al) := by
    intro fl h
    rw [e207_5, m_takesX hA h, xI_s, Option.bind_some]; exact i_if0
  have no : ∀ (fl : Nat → Int32) (x : PX), mok (tkN bs n) x → mpR x fl → ¬ (tok bs n x.1).1 = 4 → MO A ar al bs n fl (.inr x) (xD E (d + 4) 207 5 [.ref 48, .int br] [] (mw A fl ar al)) := by
    intro fl x hx h e
    rw [e207_5, m_takes0 (c := 4) (cc := 4) hA hn hbs hk hx.1 h rfl (by omega) e, xI_s, Option.bind_some]
    dsimp only
    rw [i_if0]
    exact MO.ok h
  have lo : ∀ (c : Nat) (fl : Nat → Int32) (x : PX), mst o fl → mok (tkN bs n) x → tkN bs n ≤ x.1 + c → mpR x fl → MO A ar al bs n fl (lp (sTest (tok bs n) f) c x) (xD E (d + 4) 207 5 [.ref 48, .int br] [] (mw A fl ar al)) := by
    intro c
    induction c with
    | zero =>
      intro fl x hP hx hc h
      have ht := tok_end (bs := bs) (n := n) (i := x.1) (by omega)
      exact no fl x hx h (by rw [ht]; simp)
    | succ c ih =>
      intro fl x hP hx hc h
      by_cases e : (tok bs n x.1).1 = 4
      · rw [lp_some (if_pos e : sTest (tok bs n) f x = _)]
        have go := mt_step (K := fun A7 => xD E (d + 4) 207 5 [.ref 48, .int br] [] A7) (G := lp (sTest (tok bs n) f) c) (post := fun z => aimx z x.2.2.1.length 4) (x0 := emi (adv x) 4 0) hn hfb hb h0 hP hx (tok_lt (by omega)) h rfl rfl (fun z => aim_p _ _ z) (fun f1 z a b c' e' => ih f1 z a b (by omega) e')
        rw [e207_5, (m_takes1 (E := E) (d := d + 1) (al := al) (c := 4) (cc := 4) hA hn hk hx.1 h rfl e).1, xI_s, Option.bind_some]
        dsimp only
        rw [i_if]; exact go
      · rw [lp_none (if_neg e : sTest (tok bs n) f x = _)]
        exact no fl x hx h e
  exact mt_seq (K := fun A1 => xD E (d + 4) 207 5 [.ref 48, .int br] [] A1) hn hfb hb ⟨h0, fun fl x hP hx h => lo 400 fl x hP hx (by omega) h⟩ (fun fl => k207 _ _ _ _ _ (m_k48 hA))
end MREAD
