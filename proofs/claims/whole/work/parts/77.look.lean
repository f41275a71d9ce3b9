/-! ===== all keys of a file ===== -/
theorem valO_cons {e : Nat × Nat} {l : List (Nat × Nat)} {k : Nat} : valO (e :: l) k = if e.1 = k then some e.2 else valO l k := by
  unfold valO
  by_cases h : e.1 = k
  · rw [if_pos h, show kIdx (e :: l) k = some 0 from if_pos h]; rfl
  · rw [if_neg h, show kIdx (e :: l) k = (kIdx l k).map (· + 1) from if_neg h]
    cases kIdx l k with
    | none => rfl
    | some i => rfl
theorem valO_no {k : Nat} : ∀ {l : List (Nat × Nat)}, (∀ e ∈ l, e.1 ≠ k) → valO l k = none
  | [], _ => rfl
  | e :: l, h => by
    rw [valO_cons, if_neg (h e (List.mem_cons_self ..))]
    exact valO_no (fun x hx => h x (List.mem_cons_of_mem _ hx))
theorem valO_some {k v : Nat} : ∀ {l : List (Nat × Nat)}, valO l k = some v → (k, v) ∈ l
  | [], h => by cases h
  | e :: l, h => by
    rw [valO_cons] at h
    by_cases q : e.1 = k
    · rw [if_pos q] at h
      have h2 := Option.some.inj h
      rw [← q, ← h2]; exact List.mem_cons_self ..
    · rw [if_neg q] at h
      exact List.mem_cons_of_mem _ (valO_some h)
theorem valO_app {k : Nat} : ∀ {l m : List (Nat × Nat)}, valO (l ++ m) k = (valO l k).or (valO m k)
  | [], m => rfl
  | e :: l, m => by
    rw [List.cons_append, valO_cons, valO_cons]
    by_cases q : e.1 = k
    · rw [if_pos q, if_pos q]; rfl
    · rw [if_neg q, if_neg q]; exact valO_app
def lsum (g : Nat → Nat → Nat) : List (Nat × Nat) → Nat
  | [] => 0
  | e :: l => g e.1 e.2 + lsum g l
def vg (g : Nat → Nat → Nat) (o : Option Nat) (k : Nat) : Nat := match o with
  | none => 0
  | some v => g k v
theorem lsum_app {g : Nat → Nat → Nat} : ∀ (l m : List (Nat × Nat)), lsum g (l ++ m) = lsum g l + lsum g m
  | [], m => (Nat.zero_add _).symm
  | e :: l, m => by
    show g e.1 e.2 + lsum g (l ++ m) = g e.1 e.2 + lsum g l + lsum g m
    rw [lsum_app l m]; omega
theorem cnt_z {f : Nat → Nat} : ∀ n, (∀ i, i < n → f i = 0) → cnt f n = 0
  | 0, _ => rfl
  | n + 1, h => by
    simp only [cnt]
    rw [cnt_z n (fun i hi => h i (by omega)), h n (by omega)]
theorem cnt_look {g : Nat → Nat → Nat} {n : Nat} : ∀ (l : List (Nat × Nat)), (l.map Prod.fst).Nodup → (∀ e ∈ l, e.1 < n) → cnt (fun k => vg g (valO l k) k) n = lsum g l
  | [], _, _ => cnt_z n (fun _ _ => rfl)
  | e :: l, hn, hl => by
    rw [List.map_cons, List.nodup_cons] at hn
    have ih := cnt_look (g := g) (n := n) l hn.2 (fun x hx => hl x (List.mem_cons_of_mem _ hx))
    have hno : valO l e.1 = none := valO_no (fun x hx z => hn.1 (by rw [← z]; exact List.mem_map_of_mem hx))
    have h1 := (cnt_upd (f := fun k => vg g (valO l k) k) (g := fun k => vg g (valO (e :: l) k) k) (m := e.1) (fun i hi => by
      show vg g (valO (e :: l) i) i = vg g (valO l i) i
      rw [valO_cons, if_neg (Ne.symm hi)]) n).1 (hl e (List.mem_cons_self ..))
    have h2 : vg g (valO l e.1) e.1 = 0 := by rw [hno]; rfl
    have h3 : vg g (valO (e :: l) e.1) e.1 = g e.1 e.2 := by rw [valO_cons, if_pos rfl]; rfl
    rw [h2, h3, ih] at h1
    show cnt (fun k => vg g (valO (e :: l) k) k) n = g e.1 e.2 + lsum g l
    omega
theorem allE_snoc {B : Bk} : ∀ (n i : Nat), allE B (n + 1) i = allE B n i ++ ents (B (i + n))
  | 0, i => by
    show ents (B i) ++ [] = [] ++ ents (B (i + 0))
    rw [List.append_nil]; rfl
  | n + 1, i => by
    show ents (B i) ++ allE B (n + 1) (i + 1) = (ents (B i) ++ allE B n (i + 1)) ++ ents (B (i + (n + 1)))
    rw [allE_snoc n (i + 1), List.append_assoc, show i + 1 + n = i + (n + 1) by omega]
theorem mem_allE {B : Bk} {e : Nat × Nat} : ∀ {n i : Nat}, e ∈ allE B n i → ∃ c, i ≤ c ∧ c < i + n ∧ e ∈ ents (B c)
  | 0, i, h => by cases h
  | n + 1, i, h => by
    rcases List.mem_append.mp (show e ∈ ents (B i) ++ allE B n (i + 1) from h) with q | q
    · exact ⟨i, by omega, by omega, q⟩
    · obtain ⟨c, c1, c2, c3⟩ := mem_allE q
      exact ⟨c, by omega, by omega, c3⟩
theorem lsum_allE {B : Bk} {g : Nat → Nat → Nat} : ∀ n, lsum g (allE B n 0) = cnt (fun b => lsum g (ents (B b))) n
  | 0 => rfl
  | n + 1 => by
    rw [allE_snoc, lsum_app, lsum_allE n, Nat.zero_add]; rfl
section LOOK
variable {t : Nat} {B : Bk}
theorem hs_own (h : okk B) (hh : ∀ b, hsT t (B b)) {b k v : Nat} (hb : b < 24) (he : (k, v) ∈ ents (B b)) : b = own B (hsh t k % 64) := by
  have hu : B b ≠ none := fun z => by rw [z] at he; simp [ents] at he
  have h1 := hh b (k, v) he
  have h64 : hsh t k % 64 < 64 := Nat.mod_lt _ (by omega)
  exact (h.1.own h64).2 b hb ((clm_iff hu).mpr (by rw [mod64 (h.2 b).2.2.1]; exact h1))
theorem allE_nodup (h : okk B) (hh : ∀ b, hsT t (B b)) (hV : ∀ b, pgV (B b)) : ∀ (n i : Nat), i + n ≤ 24 → ((allE B n i).map Prod.fst).Nodup
  | 0, i, _ => by simp [allE]
  | n + 1, i, hi => by
    show ((ents (B i) ++ allE B n (i + 1)).map Prod.fst).Nodup
    rw [List.map_append, List.nodup_append]
    refine ⟨(hV i).2, allE_nodup h hh hV n (i + 1) (by omega), fun a ha c hc => ?_⟩
    obtain ⟨e, e1, e2⟩ := List.mem_map.mp ha
    obtain ⟨f, f1, f2⟩ := List.mem_map.mp hc
    obtain ⟨q, q1, q2, q3⟩ := mem_allE f1
    intro z
    have w1 := hs_own h hh (b := i) (k := e.1) (v := e.2) (by omega) e1
    have w2 := hs_own h hh (b := q) (k := f.1) (v := f.2) (by omega) q3
    rw [e2, z, ← f2, ← w2] at w1
    omega
theorem allE_look (h : okk B) (hh : ∀ b, hsT t (B b)) (k : Nat) : ∀ n, n ≤ 24 → valO (allE B n 0) k = if own B (hsh t k % 64) < n then valO (ents (B (own B (hsh t k % 64)))) k else none
  | 0, _ => by rw [if_neg (by omega)]; rfl
  | n + 1, hn => by
    rw [allE_snoc, valO_app, allE_look h hh k n (by omega), Nat.zero_add]
    by_cases e : own B (hsh t k % 64) < n
    · rw [if_pos e, if_pos (by omega), show valO (ents (B n)) k = none from valO_no (fun x hx z => by
        have := hs_own h hh (b := n) (k := x.1) (v := x.2) (by omega) hx
        rw [z] at this
        omega)]
      cases valO (ents (B (own B (hsh t k % 64)))) k <;> rfl
    · rw [if_neg e]
      by_cases e2 : own B (hsh t k % 64) = n
      · rw [if_pos (by omega), e2]; rfl
      · rw [if_neg (by omega), show valO (ents (B n)) k = none from valO_no (fun x hx z => by
          have := hs_own h hh (b := n) (k := x.1) (v := x.2) (by omega) hx
          rw [z] at this
          omega)]; rfl
/-- a sum over keys is one over entries -/
theorem cnt_keys (h : okk B) (hh : ∀ b, hsT t (B b)) (hV : ∀ b, pgV (B b)) (g : Nat → Nat → Nat) : cnt (fun k => vg g (valO (ents (B (own B (hsh t k % 64)))) k) k) 1000 = lsum g (allE B 24 0) := by
  rw [← cnt_look (g := g) (n := 1000) (allE B 24 0) (allE_nodup h hh hV 24 0 (by omega)) (fun e he => by
    obtain ⟨c, c1, c2, c3⟩ := mem_allE he
    exact ((h.2 c).2.1 e c3).1)]
  refine cnt_cong 1000 (fun k hk => ?_)
  rw [allE_look h hh k 24 (by omega), if_pos (own_lt _ _)]
theorem nalL_sum {B2 : Bk} : ∀ l, nalL t B2 l = lsum (fun k v => if valO (ents (B2 (own B2 (hsh t k % 64)))) k = some v then 0 else 1) l
  | [] => rfl
  | e :: l => by
    show _ + nalL t B2 l = _ + lsum _ l
    rw [nalL_sum l]
theorem keysNA_cnt (h : okk B) (hh : ∀ b, hsT t (B b)) (hV : ∀ b, pgV (B b)) {B2 : Bk} : keysNA t B B2 = cnt (fun k => vg (fun k v => if valO (ents (B2 (own B2 (hsh t k % 64)))) k = some v then 0 else 1) (valO (ents (B (own B (hsh t k % 64)))) k) k) 1000 := by
  rw [cnt_keys h hh hV, lsum_allE]
  unfold keysNA
  exact cnt_cong 24 (fun b _ => nalL_sum _)
end LOOK
theorem cnt_split {f : Nat → Nat} (a : Nat) : ∀ b, cnt f (a + b) = cnt f a + cnt (fun i => f (a + i)) b
  | 0 => rfl
  | b + 1 => by
    show cnt f (a + b) + f (a + b) = cnt f a + (cnt (fun i => f (a + i)) b + f (a + b))
    rw [cnt_split a b]; omega
theorem slotsNA_cnt {S S2 : St} (h1 : S.2.2.2.1 ≤ 6) (h2 : S2.2.2.2.1 ≤ 6) : slotsNA S S2 = cnt (fun i => if slI S2 (nI i) = slI S (nI i) then 0 else 1) 64 := by
  have p1 := pow6 h1
  have p2 := pow6 h2
  unfold slotsNA
  generalize ha : 2 ^ S.2.2.2.1 = a at *
  generalize hb : 2 ^ S2.2.2.2.1 = b at *
  have hs1 : ∀ i, i < 64 → slI S (nI i) = if i < a then nI (own S.1 i) else -1 := fun i hi => by
    unfold slI
    rw [ha, nI_clamp (by omega)]
    by_cases e : i < a
    · rw [if_neg (n_out (by omega) e), if_pos e]
    · rw [if_pos (Or.inr (nI_le (by omega) (by omega))), if_neg e]
  have hs2 : ∀ i, i < 64 → slI S2 (nI i) = if i < b then nI (own S2.1 i) else -1 := fun i hi => by
    unfold slI
    rw [hb, nI_clamp (by omega)]
    by_cases e : i < b
    · rw [if_neg (n_out (by omega) e), if_pos e]
    · rw [if_pos (Or.inr (nI_le (by omega) (by omega))), if_neg e]
  have ho1 := own_lt S.1
  have ho2 := own_lt S2.1
  have e64 : 64 = min a b + ((max a b - min a b) + (64 - max a b)) := by omega
  conv => rhs; rw [e64]
  rw [cnt_split, cnt_split]
  have c1 : cnt (fun i => if slI S2 (nI i) = slI S (nI i) then 0 else 1) (min a b) = cnt (fun i => if own S.1 i = own S2.1 i then 0 else 1) (min a b) := cnt_cong _ (fun i hi => by
    rw [hs1 i (by omega), hs2 i (by omega), if_pos (show i < b by omega), if_pos (show i < a by omega)]
    by_cases e : own S.1 i = own S2.1 i
    · rw [if_pos e, if_pos (by rw [e])]
    · have := ho1 i
      have := ho2 i
      rw [if_neg e, if_neg (fun z => e ((nI_eq (by omega) (by omega)).mp z).symm)])
  have c2 : cnt (fun i => if slI S2 (nI (min a b + i)) = slI S (nI (min a b + i)) then 0 else 1) (max a b - min a b) = max a b - min a b := cnt_all _ (fun i hi => by
    rw [hs1 _ (by omega), hs2 _ (by omega)]
    have := ho1 (min a b + i)
    have := ho2 (min a b + i)
    by_cases e : a ≤ b
    · rw [if_pos (show min a b + i < b by omega), if_neg (show ¬ min a b + i < a by omega), if_neg (n_m1ne (by omega))]
    · rw [if_neg (show ¬ min a b + i < b by omega), if_pos (show min a b + i < a by omega), if_neg (fun z => n_m1ne (by omega) z.symm)])
  have c3 : cnt (fun i => if slI S2 (nI (min a b + (max a b - min a b + i))) = slI S (nI (min a b + (max a b - min a b + i))) then 0 else 1) (64 - max a b) = 0 := cnt_z _ (fun i hi => by
    rw [hs1 _ (by omega), hs2 _ (by omega), if_neg (show ¬ min a b + (max a b - min a b + i) < b by omega), if_neg (show ¬ min a b + (max a b - min a b + i) < a by omega), if_pos rfl])
  rw [c1, c2, c3]
  omega
