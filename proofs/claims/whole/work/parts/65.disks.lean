/-! ===== the disks that can be ===== -/
def pgV (P : Pg) : Prop := pgW P ∧ ((ents P).map Prod.fst).Nodup
/-- the same place -/
def geq (P Q : Pg) : Prop := (P = none ↔ Q = none) ∧ pdp P = pdp Q ∧ ppx P = ppx Q
theorem geq.rf (P : Pg) : geq P P := ⟨Iff.rfl, rfl, rfl⟩
theorem geq_clm {P Q : Pg} (h : geq P Q) (i : Nat) : clm P i = clm Q i := by
  obtain ⟨h1, h2, h3⟩ := h
  cases P with
  | none => rw [h1.mp rfl]
  | some p =>
    cases Q with
    | none => exact absurd (h1.mpr rfl) (by simp)
    | some q =>
      have e1 : p.1 = q.1 := h2
      have e2 : p.2.1 = q.2.1 := h3
      simp only [clm, e1, e2]
/-- half done: the page of b claims all, its twin's page is there and deeper -/
def hlf (G D : Bk) (b : Nat) : Prop := ∃ Y, Y < 24 ∧ D b ≠ none ∧ G b ≠ none ∧ D Y ≠ none ∧ geq (G Y) (D Y) ∧ pdp (G b) = pdp (D b) + 1 ∧ ppx (G b) = ppx (D b) ∧ pdp (D Y) = pdp (D b) + 1 ∧ ppx (D Y) = ppx (D b) + 2 ^ pdp (D b)
def gdk (G D : Bk) : Prop := prt G ∧ (∀ b, pgW (G b)) ∧ (∀ b, pgV (D b)) ∧ (∀ b, 24 ≤ b → D b = none) ∧ ∀ b, geq (G b) (D b) ∨ hlf G D b
theorem dwN_max {D : Bk} {i o : Nat} (ho : clm (D o) i = true) (hc : ∀ c, c < 24 → c ≠ o → clm (D c) i = true → pdp (D c) < pdp (D o)) : ∀ n, n ≤ 24 → (o < n → dwN D i n = some o) ∧ (n ≤ o → ∀ c, dwN D i n = some c → pdp (D c) < pdp (D o))
  | 0, _ => ⟨fun q => by omega, fun _ c h => by cases h⟩
  | n + 1, hn => by
    obtain ⟨h1, h2⟩ := dwN_max ho hc n (by omega)
    have e : dwN D i (n + 1) = dwS D i (dwN D i n) n := rfl
    refine ⟨fun q => ?_, fun q c hc' => ?_⟩
    · by_cases z : n = o
      · subst z
        rw [e]
        unfold dwS
        rw [if_pos ho]
        cases hx : dwN D i n with
        | none => rfl
        | some c => dsimp only; rw [if_pos (h2 (Nat.le_refl _) c hx)]
      · have hx := h1 (by omega)
        rw [e]
        unfold dwS
        by_cases w : clm (D n) i = true
        · rw [if_pos w, hx]
          dsimp only
          have := hc n (by omega) z w
          rw [if_neg (by omega)]
        · rw [if_neg w]; exact hx
    · obtain ⟨w1, w2⟩ := dwN_some hc'
      exact hc c (by omega) (by omega) w2
theorem dow_gd {G D : Bk} {i : Nat} (h : gdk G D) (hi : i < 64) : dow D i = some (own G i) := by
  obtain ⟨g1, g2, g3, g4, g5⟩ := h
  obtain ⟨o1, o2⟩ := g1.own hi
  have ho24 := own_lt G i
  have hD : clm (D (own G i)) i = true := by
    rcases g5 (own G i) with q | ⟨Y, y1, y2, y3, y4, y5, y6, y7, y8, y9⟩
    · rw [← geq_clm q]; exact o1
    · rw [clm_iff y2]
      have := (clm_some o1).2
      rw [y6, y7] at this
      exact ((mod_spl ((g3 (own G i)).1.2.2.2)).1.mp this).1
  refine (dwN_max hD (fun c c1 c2 c3 => ?_) 24 (Nat.le_refl _)).1 ho24
  rcases g5 c with q | ⟨Y, y1, y2, y3, y4, y5, y6, y7, y8, y9⟩
  · exact absurd (o2 c c1 (by rw [geq_clm q]; exact c3)) c2
  · have c4 := (clm_some c3).2
    have hp := (g3 c).1.2.2.2
    rcases Nat.mod_two_eq_zero_or_one (i / 2 ^ pdp (D c)) with w | w
    · exact absurd (o2 c c1 ((clm_iff y3).mpr (by rw [y6, y7]; exact (mod_spl hp).1.mpr ⟨c4, w⟩))) c2
    · have : Y = own G i := o2 Y y1 (by rw [geq_clm y5]; exact (clm_iff y4).mpr (by rw [y8, y9]; exact (mod_spl hp).2.mpr ⟨c4, w⟩))
      rw [← this, y8]; omega
theorem gdk_none {G D : Bk} {b : Nat} (h : gdk G D) : G b = none ↔ D b = none := by
  rcases h.2.2.2.2 b with q | ⟨Y, y1, y2, y3, -⟩
  · exact q.1
  · exact ⟨fun z => absurd z y3, fun z => absurd z y2⟩
theorem cls_cnt : ∀ n, n ≤ 6 → ∀ d, d ≤ n → ∀ p, p < 64 → p < 2 ^ d → cnt (fun j => if j % 2 ^ d = p then 1 else 0) (2 ^ n) = 2 ^ (n - d) := by decide +kernel
theorem cnt_cong {f g : Nat → Nat} : ∀ n, (∀ i, i < n → f i = g i) → cnt f n = cnt g n
  | 0, _ => rfl
  | n + 1, h => by
    simp only [cnt]
    rw [cnt_cong n (fun i hi => h i (by omega)), h n (by omega)]
theorem lgF_pow : ∀ d, d ≤ 6 → 6 - lgF (2 ^ (6 - d)) 6 0 = d := by decide +kernel
theorem lwN_at {D : Bk} {b p : Nat} (h0 : ∀ j, j < p → mine D b j = 0) (h1 : mine D b p = 1) : ∀ k, lwN D b (p + 1 + k) = some p
  | 0 => by
    have h2 := (mine_skip (D := D) (b := b) (p := 0) p (fun j _ j2 => h0 j (by omega))).2
    rw [Nat.zero_add] at h2
    show lwS (lwN D b p) (mine D b p) p = some p
    rw [h2, h1]; rfl
  | k + 1 => by
    show lwS (lwN D b (p + 1 + k)) (mine D b (p + 1 + k)) (p + 1 + k) = some p
    rw [lwN_at h0 h1 k]; rfl
/-- the page that is built of b -/
def gbp (t : Nat) (G D : Bk) (b : Nat) : Pg := (G b).map fun q => (q.1, q.2.1, (ents (D b)).filter fun e => dow D (hsh t e.1 % 64) == some b)
theorem mine_gd {G D : Bk} {b j : Nat} (h : gdk G D) (hj : j < 64) : mine D b j = if own G j = b then 1 else 0 := by
  unfold mine
  rw [dow_gd h hj]
  by_cases q : own G j = b
  · rw [if_pos ⟨hj, by rw [q]⟩, if_pos q]
  · rw [if_neg (fun z => q (Option.some.inj z.2)), if_neg q]
theorem own_iff {G : Bk} {b j : Nat} (h : prt G) (hb : b < 24) (hu : G b ≠ none) (hj : j < 64) : own G j = b ↔ j % 2 ^ pdp (G b) = ppx (G b) := by
  obtain ⟨o1, o2⟩ := h.own hj
  constructor
  · intro z; rw [z] at o1; exact (clm_some o1).2
  · intro z; exact (o2 b hb ((clm_iff hu).mpr z)).symm
theorem reb_gd {G D : Bk} {b t : Nat} (h : gdk G D) (hb : b < 24) : reb t D b = gbp t G D b := by
  unfold reb gbp
  have hgW := h.2.1 b
  cases hG : G b with
  | none =>
    have h0 : cnt (mine D b) 64 = 0 := by
      rw [cnt_cong (g := fun _ => 0) 64 (fun j hj => by
        rw [mine_gd h hj, if_neg (fun z => by
          have := (h.1.own hj).1
          rw [z, hG] at this
          simp [clm] at this)])]
      decide
    rw [if_pos h0]; rfl
  | some q =>
    have hu : G b ≠ none := by rw [hG]; simp
    obtain ⟨w1, w2, w3, w4⟩ := hgW
    have h64 := pow6 w3
    have hc : cnt (mine D b) 64 = 2 ^ (6 - pdp (G b)) := by
      rw [← cls_cnt 6 (by omega) (pdp (G b)) w3 (ppx (G b)) (by omega) w4]
      refine cnt_cong 64 (fun j hj => ?_)
      rw [mine_gd h hj]
      by_cases z : own G j = b
      · rw [if_pos z, if_pos ((own_iff h.1 hb hu hj).mp z)]
      · rw [if_neg z, if_neg (fun y => z ((own_iff h.1 hb hu hj).mpr y))]
    have hl : lwN D b 64 = some (ppx (G b)) := by
      have h9 := lwN_at (D := D) (b := b) (p := ppx (G b)) (fun j hj => by
        rw [mine_gd h (by omega), if_neg (fun z => by
          have := (own_iff h.1 hb hu (by omega)).mp z
          rw [Nat.mod_eq_of_lt (by omega)] at this
          omega)]) (by
        rw [mine_gd h (by omega), if_pos ((own_iff h.1 hb hu (by omega)).mpr (Nat.mod_eq_of_lt w4))]) (63 - ppx (G b))
      rw [show ppx (G b) + 1 + (63 - ppx (G b)) = 64 by omega] at h9
      exact h9
    have hp := Nat.two_pow_pos (6 - pdp (G b))
    rw [if_neg (by omega), hc, hl, lgF_pow _ w3, hG]; rfl
theorem rebB_gd {G D : Bk} {t : Nat} (h : gdk G D) : rebB t D = gbp t G D := by
  funext b
  unfold rebB rebN
  by_cases q : b < 24
  · rw [if_pos q]
    by_cases z : D b = none
    · rw [if_pos z]
      unfold gbp
      rw [(gdk_none h).mpr z]; rfl
    · rw [if_neg z]; exact reb_gd h q
  · rw [if_neg q, h.2.2.2.1 b (by omega)]
    unfold gbp
    rw [(gdk_none h).mpr (h.2.2.2.1 b (by omega))]; rfl
theorem gbp_geq {G D : Bk} {b t : Nat} : geq (gbp t G D b) (G b) := by
  unfold gbp
  cases G b with
  | none => exact geq.rf none
  | some q => exact ⟨by simp, rfl, rfl⟩
theorem gbp_ents {G D : Bk} {b t : Nat} : ents (gbp t G D b) = [] ∨ ents (gbp t G D b) = (ents (D b)).filter fun e => dow D (hsh t e.1 % 64) == some b := by
  unfold gbp
  cases G b with
  | none => exact Or.inl rfl
  | some q => exact Or.inr rfl
theorem gbp_own {G D : Bk} {t : Nat} (i : Nat) : own (gbp t G D) i = own G i := own_cong (fun c j => geq_clm gbp_geq j) i
theorem prt_geq {G B : Bk} (h : prt G) (hg : ∀ b, geq (B b) (G b)) : prt B := fun j hj => by
  obtain ⟨q, q1, q2, q3⟩ := h j hj
  exact ⟨q, q1, by rw [geq_clm (hg q)]; exact q2, fun c c1 c2 => q3 c c1 (by rw [geq_clm (hg c)] at c2; exact c2)⟩
theorem rebB_pgV {G D : Bk} {t : Nat} (h : gdk G D) (b : Nat) : pgV (rebB t D b) := by
  rw [rebB_gd h]
  obtain ⟨⟨v1, v2, v3, v4⟩, v5⟩ := h.2.2.1 b
  obtain ⟨w1, w2, w3, w4⟩ := h.2.1 b
  obtain ⟨g1, g2, g3⟩ := gbp_geq (G := G) (D := D) (b := b) (t := t)
  unfold pgV pgW
  rw [g2, g3]
  rcases gbp_ents (G := G) (D := D) (b := b) (t := t) with q | q
  · rw [q]; exact ⟨⟨by simp, by simp, w3, w4⟩, by simp⟩
  · rw [q]
    refine ⟨⟨Nat.le_trans (List.length_filter_le _ _) v1, fun e he => v2 e (List.mem_filter.mp he).1, w3, w4⟩, ?_⟩
    exact List.Nodup.sublist (List.Sublist.map _ List.filter_sublist) v5
theorem rebB_okk {G D : Bk} {t : Nat} (h : gdk G D) : okk (rebB t D) := ⟨by rw [rebB_gd h]; exact prt_geq h.1 (fun b => gbp_geq), fun b => (rebB_pgV h b).1⟩
theorem rebB_hG {G D : Bk} {t i : Nat} (h : gdk G D) (hi : i < 64) : dow D i = some (own (rebB t D) i) := by
  rw [rebB_gd h, gbp_own]; exact dow_gd h hi
/-- each key lies where its hash leads -/
def hsT (t : Nat) (P : Pg) : Prop := ∀ e ∈ ents P, hsh t e.1 % 2 ^ pdp P = ppx P
theorem mod64 {h d : Nat} (hd : d ≤ 6) : h % 64 % 2 ^ d = h % 2 ^ d := Nat.mod_mod_of_dvd h (show 2 ^ d ∣ 2 ^ 6 from Nat.pow_dvd_pow 2 hd)
theorem rebB_hsT {G D : Bk} {t : Nat} (h : gdk G D) (b : Nat) : hsT t (rebB t D b) := by
  rw [rebB_gd h]
  intro e he
  obtain ⟨g1, g2, g3⟩ := gbp_geq (G := G) (D := D) (b := b) (t := t)
  rw [g2, g3]
  rcases gbp_ents (G := G) (D := D) (b := b) (t := t) with q | q
  · rw [q] at he; simp at he
  · rw [q] at he
    have h1 := (List.mem_filter.mp he).2
    have h2 : dow D (hsh t e.1 % 64) = some b := by simpa using h1
    have h64 : hsh t e.1 % 64 < 64 := Nat.mod_lt _ (by omega)
    rw [dow_gd h h64] at h2
    have h3 := (h.1.own h64).1
    rw [Option.some.inj h2] at h3
    have h4 := (clm_some h3).2
    rwa [mod64 (h.2.1 b).2.2.1] at h4
/-- a disk with writes that wait: each that may be left is good; the last one is F -/
def wgd : Bk → List Wr → Bk → Prop
  | D, [], F => D = F ∧ ∃ G, gdk G D
  | D, w :: W, F => (∃ G, gdk G D) ∧ w.1 < 24 ∧ wgd (ub D w.1 w.2.2) W F
theorem wgd_head {D F : Bk} {W : List Wr} (h : wgd D W F) : ∃ G, gdk G D := by
  cases W with
  | nil => exact h.2
  | cons w W => exact h.1
theorem wgd_app {q : Wr} {G : Bk} (hq : q.1 < 24) : ∀ (W : List Wr) (D F : Bk), wgd D W F → gdk G (ub F q.1 q.2.2) → wgd D (W ++ [q]) (ub F q.1 q.2.2)
  | [], D, F, h, hg => by
    obtain ⟨rfl, h2⟩ := h
    exact ⟨h2, hq, rfl, G, hg⟩
  | w :: W, D, F, h, hg => ⟨h.1, h.2.1, wgd_app hq W _ F h.2.2 hg⟩
theorem wgd_eld {S : St} {F : Bk} (h : wgd S.2.1 S.2.2.1 F) : wgd (eld S).2.1 (eld S).2.2.1 F := by
  unfold eld
  cases hW : S.2.2.1 with
  | nil => dsimp only; rw [hW] at h ⊢; exact h
  | cons w W => dsimp only; rw [hW] at h; exact h.2.2
theorem wgd_eldN {F : Bk} : ∀ (n : Nat) (S : St), wgd S.2.1 S.2.2.1 F → wgd (eldN n S).2.1 (eldN n S).2.2.1 F
  | 0, S, h => h
  | n + 1, S, h => wgd_eldN n (eld S) (wgd_eld h)
theorem eld_time (S : St) : (eld S).2.2.2 = S.2.2.2 := by
  unfold eld
  split <;> rfl
theorem eld_file (S : St) : (eld S).1 = S.1 := by
  unfold eld
  split <;> rfl
theorem eldN_time : ∀ (n : Nat) (S : St), (eldN n S).2.2.2 = S.2.2.2
  | 0, S => rfl
  | n + 1, S => (eldN_time n (eld S)).trans (eld_time S)
theorem eldN_file : ∀ (n : Nat) (S : St), (eldN n S).1 = S.1
  | 0, S => rfl
  | n + 1, S => (eldN_file n (eld S)).trans (eld_file S)
theorem wgd_wrt {R : Ru} {S : St} {F G : Bk} {b : Nat} (h : wgd S.2.1 S.2.2.1 F) (hb : b < 24) (hg : gdk G (ub F b (S.1 b))) : wgd (wrt R S b).2.1 (wrt R S b).2.2.1 (ub F b (S.1 b)) := by
  unfold wrt
  dsimp only
  split
  · exact wgd_app (q := (b, ctR R (S.1 b) b S.2.2.2.2, S.1 b)) hb _ _ F (wgd_eld h) hg
  · exact wgd_app (q := (b, ctR R (S.1 b) b S.2.2.2.2, S.1 b)) hb _ _ F h hg
theorem wrt_len {R : Ru} {S : St} {b : Nat} (h : S.2.2.1.length ≤ 40) : (wrt R S b).2.2.1.length ≤ 40 := by
  unfold wrt
  dsimp only
  split
  · rw [List.length_append, eld_len]; simp; omega
  · rw [List.length_append]; simp; omega
theorem gdk_self {B : Bk} (h : okk B) (hV : ∀ b, pgV (B b)) (h24 : ∀ b, 24 ≤ b → B b = none) : gdk B B := ⟨h.1, h.2, hV, h24, fun b => Or.inl (geq.rf _)⟩
