/-! ===== the reference cuts a text into tokens ===== -/
/-- a byte as the reference keeps it -/
def sb (b : Nat) : Int32 := xnar 1 (nI b)
def flat : List (List Nat) → List Nat
  | [] => []
  | l :: r => l ++ (32 :: flat r)
theorem flat_WL : (flat WL).length = 126 := by decide +kernel
theorem sb_eq : ∀ b, b < 256 → ∀ c, c < 128 → (nI c = sb b ↔ b = c) := by decide +kernel
theorem sb_32 : ∀ b, b < 256 → (sb b = (32 : Int32) ↔ b = 32) := by decide +kernel
theorem sb_L : ∀ b, b < 256 → (if sb b < (97 : Int32) then (0 : Int32) else if (122 : Int32) < sb b then 0 else 1) = (if isL b = true then 1 else 0) := by decide +kernel
theorem sb_D : ∀ b, b < 256 → (if sb b < (48 : Int32) then (0 : Int32) else if (57 : Int32) < sb b then 0 else 1) = (if isD b = true then 1 else 0) := by decide +kernel
theorem sb_and : ∀ b, b < 256 → (100 : Int32) + (sb b &&& 255) = nI (100 + b) := by decide +kernel
theorem sb_dig : ∀ b, b < 256 → isD b = true → sb b = nI b := by decide +kernel
section MTOK
variable {E : Nat × (Nat → Int32)} {d : Nat} {A : xH} {fl : Nat → Int32} {ar : Nat → Nat → Int32} {al : Nat → Nat → Int64} {bs : Nat → Nat} {n : Nat}
theorem m_isSmall {b : Nat} (hb : b < 256) {H : xH} : xC E (d + 1) 193 [.int (sb b)] H = some (some (.int (if isL b = true then 1 else 0)), H) := by
  rw [k193, ← sb_L b hb]
  split
  · rfl
  · split <;> rfl
theorem m_isDigit {b : Nat} (hb : b < 256) {H : xH} : xC E (d + 1) 194 [.int (sb b)] H = some (some (.int (if isD b = true then 1 else 0)), H) := by
  rw [k194, ← sb_D b hb]
  split
  · rfl
  · split <;> rfl
/-- the words -/
def wdR (ar : Nat → Nat → Int32) : Prop := ∀ j, j < 126 → ar 7 j = nI ((flat WL).getD j 0)
def tbR (bs : Nat → Nat) (n : Nat) (ar : Nat → Nat → Int32) : Prop := ∀ j, j < n → ar 11 j = sb (bs j)
theorem wo_len (hA : 69 ≤ A.length) {i1 i2 i3 : Int32} {k : Nat} {l : List Nat} {rest : List Nat} (hk : k + (l.length + 1 + rest.length) = 126) (hw : ∀ j, j < l.length + 1 + rest.length → ar 7 (k + j) = nI ((l ++ (32 :: rest)).getD j 0)) (hl : ∀ c ∈ l, c ≠ 32 ∧ c < 128) : ∀ (m i : Nat) (w6 w7 : Value), i + m = l.length → xD E (d + 1) 195 18 [.ref 48, .int i1, .int i2, .int i3, .int (nI k), .int (nI i), w6, w7] [] (mw A fl ar al) = xD E (d + 1) 195 57 [.ref 48, .int i1, .int i2, .int i3, .int (nI k), .int (nI l.length), .int (if nI l.length = i2 - i1 then 1 else 0), .int 0] [] (mw A fl ar al)
  | 0, i, w6, w7, hi => by
    have hi2 : i = l.length := by omega
    subst hi2
    rw [e195_18, m_r48_7 hA, Option.bind_some, nI_add, m_a54 hA (by omega), Option.bind_some, hw _ (by omega), List.getD_eq_getElem?_getD, List.getElem?_append_right (Nat.le_refl _), Nat.sub_self]
    rw [if_pos (by rfl)]
    split <;> rfl
  | m + 1, i, w6, w7, hi => by
    have hil : i < l.length := by omega
    have hc := hl _ (List.getElem_mem hil)
    rw [e195_18, m_r48_7 hA, Option.bind_some, nI_add, m_a54 hA (by omega), Option.bind_some, hw _ (by omega), List.getD_eq_getElem?_getD, List.getElem?_append_left hil, List.getElem?_eq_getElem hil, Option.getD_some, if_neg (show ¬ nI l[i] = (32 : Int32) from fun q => hc.1 ((nI_eq (b := 32) (by omega) (by omega)).mp q)), nI_1]
    exact wo_len hA hk hw hl m (i + 1) xJ xJ (by omega)
theorem wo_cmp (hA : 69 ≤ A.length) (hn : n ≤ 400) (hbs : ∀ j, bs j < 256) (htb : tbR bs n ar) {i2 i3 : Int32} {k p : Nat} {l : List Nat} {rest : List Nat} (hk : k + (l.length + 1 + rest.length) = 126) (hw : ∀ j, j < l.length + 1 + rest.length → ar 7 (k + j) = nI ((l ++ (32 :: rest)).getD j 0)) (hl : ∀ c ∈ l, c ≠ 32 ∧ c < 128) (hp : p + l.length ≤ n) : ∀ (m i : Nat), i + m = l.length → ∃ w7, xD E (d + 1) 195 57 [.ref 48, .int (nI p), .int i2, .int i3, .int (nI k), .int (nI l.length), .int 1, .int (nI i)] [] (mw A fl ar al) = xD E (d + 1) 195 104 [.ref 48, .int (nI p), .int i2, .int i3, .int (nI k), .int (nI l.length), .int (if (wdB bs p (p + l.length)).drop i = l.drop i then 1 else 0), w7] [] (mw A fl ar al)
  | 0, i, hi => by
    have hlen : (wdB bs p (p + l.length)).length = l.length := by simp [wdB]
    refine ⟨.int (nI i), ?_⟩
    rw [e195_57, if_pos (nI_le (by omega) (by omega)), List.drop_eq_nil_of_le (by omega), List.drop_eq_nil_of_le (by omega), if_pos rfl]
  | m + 1, i, hi => by
    have hil : i < l.length := by omega
    have hc := hl _ (List.getElem_mem hil)
    have hb := hbs (p + i)
    have hlen : (wdB bs p (p + l.length)).length = l.length := by simp [wdB]
    have hv : (wdB bs p (p + l.length))[i]'(by omega) = bs (p + i) := by simp [wdB]
    have hse := sb_eq (bs (p + i)) hb l[i] hc.2
    rw [e195_57, if_neg (nI_ge hil (by omega)), i_if, m_r48_7 hA, Option.bind_some, nI_add, m_a54 hA (by omega), Option.bind_some, hw _ (by omega), m_r48_11 hA, Option.bind_some, nI_add, m_a55 hA (by omega), Option.bind_some, htb _ (by omega), List.getD_eq_getElem?_getD, List.getElem?_append_left hil, List.getElem?_eq_getElem hil, Option.getD_some]
    rw [List.drop_eq_getElem_cons (l := wdB bs p (p + l.length)) (i := i) (by omega), List.drop_eq_getElem_cons hil, hv]
    by_cases e : bs (p + i) = l[i]
    · obtain ⟨w7, k1⟩ := wo_cmp hA hn hbs htb hk hw hl hp m (i + 1) (by omega)
      refine ⟨w7, ?_⟩
      rw [if_pos (hse.mpr e), nI_1, k1, e]
      by_cases e2 : (wdB bs p (p + l.length)).drop (i + 1) = l.drop (i + 1)
      · rw [if_pos e2, if_pos (by rw [e2])]
      · rw [if_neg e2, if_neg (fun q => e2 (List.cons.inj q).2)]
    · refine ⟨.int (nI (i + 1)), ?_⟩
      rw [if_neg (fun q => e (hse.mp q)), nI_1, if_neg (fun q => e (List.cons.inj q).1), e195_57]
      split
      · rfl
      · rw [i_if0]
theorem wo_loop (hA : 69 ≤ A.length) (hn : n ≤ 400) (hbs : ∀ j, bs j < 256) (htb : tbR bs n ar) {p e : Nat} (hpe : p ≤ e) (hen : e ≤ n) : ∀ (L : List (List Nat)) (w k : Nat) (w5 w6 w7 : Value), k + (flat L).length = 126 → (∀ j, j < (flat L).length → ar 7 (k + j) = nI ((flat L).getD j 0)) → (∀ l ∈ L, ∀ c ∈ l, c ≠ 32 ∧ c < 128) → xD E (d + 1) 195 5 [.ref 48, .int (nI p), .int (nI e), .int (nI w), .int (nI k), w5, w6, w7] [] (mw A fl ar al) = some (some (.int (nI (wix L w (wdB bs p e)))), mw A fl ar al)
  | [], w, k, w5, w6, w7, hk, hw, hl => by
    simp only [flat, List.length_nil] at hk
    rw [e195_5, m_r48_7 hA, Option.bind_some, m_l54 hA, Option.bind_some, if_pos (nI_le (by omega) (by omega))]; rfl
  | l :: L, w, k, w5, w6, w7, hk, hw, hl => by
    have hfl : (flat (l :: L)).length = l.length + 1 + (flat L).length := by simp [flat]; omega
    rw [hfl] at hk hw
    have hl1 := hl l (by simp)
    rw [e195_5, m_r48_7 hA, Option.bind_some, m_l54 hA, Option.bind_some, if_neg (nI_ge (by omega) (by omega)), show (0 : Int32) = nI 0 from rfl, wo_len hA hk hw hl1 l.length 0 xJ xJ (Nat.zero_add _), pk_sub hpe]
    have next : ∀ w6 w7 : Value, xD E (d + 1) 195 104 [.ref 48, .int (nI p), .int (nI e), .int (nI w), .int (nI k), .int (nI l.length), .int 0, w7] [] (mw A fl ar al) = some (some (.int (nI (wix L (w + 1) (wdB bs p e)))), mw A fl ar al) := by
      intro w6 w7
      rw [e195_104, i_if0, nI_1, nI_1, nI_add]
      refine wo_loop hA hn hbs htb hpe hen L (w + 1) (k + (l.length + 1)) _ _ _ (by omega) (fun j hj => ?_) (fun l' h' => hl l' (by simp [h']))
      rw [show k + (l.length + 1) + j = k + (l.length + 1 + j) by omega, hw _ (by omega)]
      show nI ((l ++ (32 :: flat L)).getD _ 0) = _
      rw [List.getD_eq_getElem?_getD, List.getElem?_append_right (by omega), show l.length + 1 + j - l.length = j + 1 by omega, List.getElem?_cons_succ, List.getD_eq_getElem?_getD]
    unfold wix
    by_cases q : l.length = e - p
    · have he : e = p + l.length := by omega
      rw [if_pos (by rw [q]), he]
      obtain ⟨w8, k1⟩ := wo_cmp (E := E) (d := d) (fl := fl) (al := al) (i2 := nI (p + l.length)) (i3 := nI w) (p := p) hA hn hbs htb hk hw hl1 (by omega) l.length 0 (Nat.zero_add _)
      rw [show xD E (d + 1) 195 57 [.ref 48, .int (nI p), .int (nI (p + l.length)), .int (nI w), .int (nI k), .int (nI l.length), .int 1, .int 0] [] (mw A fl ar al) = _ from k1, List.drop_zero, List.drop_zero]
      by_cases e2 : wdB bs p (p + l.length) = l
      · rw [if_pos e2, if_pos e2.symm, e195_104, i_if]
      · rw [if_neg e2, if_neg (fun z => e2 z.symm), ← he]
        exact next xJ _
    · have hne : ¬ l = wdB bs p e := fun z => q (by rw [z]; simp [wdB])
      rw [if_neg (fun z => q ((nI_eq (by omega) (by omega)).mp z)), if_neg hne, e195_57]
      split
      · exact next xJ _
      · rw [i_if0]
        exact next xJ _
theorem WL_ok : ∀ l ∈ WL, ∀ c ∈ l, c ≠ 32 ∧ c < 128 := by decide
theorem m_wordOf (hA : 69 ≤ A.length) (hn : n ≤ 400) (hbs : ∀ j, bs j < 256) (htb : tbR bs n ar) (hwd : wdR ar) {p e : Nat} (hpe : p ≤ e) (hen : e ≤ n) : xC E (d + 1) 195 [.ref 48, .int (nI p), .int (nI e)] (mw A fl ar al) = some (some (.int (nI (wcd (wdB bs p e)))), mw A fl ar al) := by
  rw [k195 _ _ _ _ _ _ (m_k48 hA)]
  have := wo_loop (E := E) (d := d) (fl := fl) (al := al) hA hn hbs htb hpe hen WL 1 0 xJ xJ xJ (by rw [flat_WL]) (fun j hj => by rw [Nat.zero_add]; exact hwd j (by rw [flat_WL] at hj; exact hj)) WL_ok
  exact this
theorem cu_l (hA : 69 ≤ A.length) (hn : n ≤ 400) (hbs : ∀ j, bs j < 256) (htb : tbR bs n ar) {i2 : Int32} {b : Nat} (hb : b < 256) (hbd : isD b = false) : ∀ (c q : Nat) (w5 : Value), q + c = n → xD E (d + 2) 196 43 [.ref 48, .int (nI n), .int i2, .int (sb b), .int (nI q), w5] [] (mw A fl ar al) = xD E (d + 2) 196 100 [.ref 48, .int (nI n), .int i2, .int (sb b), .int (nI (skp isL bs c q)), xJ] [] (mw A fl ar al)
  | 0, q, w5, hq => by
    rw [e196_43, if_pos (nI_le (by omega) (by omega)), m_isDigit hb, xI_s, Option.bind_some, hbd]
    dsimp only
    rw [if_pos (show (if false = true then (1 : Int32) else 0) = 0 by decide)]; rfl
  | c + 1, q, w5, hq => by
    rw [e196_43, if_neg (nI_ge (by omega) (by omega)), m_r48_11 hA, Option.bind_some, m_a55 hA (by omega), Option.bind_some, htb _ (by omega), m_isSmall (hbs q), xI_s, Option.bind_some]
    dsimp only
    unfold skp
    by_cases e : isL (bs q) = true
    · rw [if_pos e, i_if, if_pos e, nI_1]; exact cu_l hA hn hbs htb hb hbd c (q + 1) xJ (by omega)
    · rw [if_neg e, i_if0, if_neg e, m_isDigit hb, xI_s, Option.bind_some, hbd]
      dsimp only
      rw [if_pos (show (if false = true then (1 : Int32) else 0) = 0 by decide)]
theorem cu_d (hA : 69 ≤ A.length) (hn : n ≤ 400) (hbs : ∀ j, bs j < 256) (htb : tbR bs n ar) {i2 i3 : Int32} : ∀ (c q : Nat) (w5 : Value), q + c = n → xD E (d + 2) 196 75 [.ref 48, .int (nI n), .int i2, .int i3, .int (nI q), w5] [] (mw A fl ar al) = xD E (d + 2) 196 100 [.ref 48, .int (nI n), .int i2, .int i3, .int (nI (skp isD bs c q)), xJ] [] (mw A fl ar al)
  | 0, q, w5, hq => by
    rw [e196_75, if_pos (nI_le (by omega) (by omega))]; rfl
  | c + 1, q, w5, hq => by
    rw [e196_75, if_neg (nI_ge (by omega) (by omega)), m_r48_11 hA, Option.bind_some, m_a55 hA (by omega), Option.bind_some, htb _ (by omega), m_isDigit (hbs q), xI_s, Option.bind_some]
    dsimp only
    unfold skp
    by_cases e : isD (bs q) = true
    · rw [if_pos e, i_if, if_pos e, nI_1]; exact cu_d hA hn hbs htb c (q + 1) xJ (by omega)
    · rw [if_neg e, i_if0, if_neg e]
/-- what token i is, in the arrays -/
def tkR (bs : Nat → Nat) (n : Nat) (ar : Nat → Nat → Int32) (i : Nat) : Prop := ar 15 i = nI (tok bs n i).1 ∧ ar 17 i = nI (ps bs n i) ∧ ∃ w, ar 16 i = nI w ∧ min w 1001 = (tok bs n i).2 ∧ w ≤ 20000000
theorem cu_v (hA : 69 ≤ A.length) (hn : n ≤ 400) (hbs : ∀ j, bs j < 256) {b i t : Nat} (hb : b < 256) (hbd : isD b = true) (hi : i ≤ 400) (h18 : fl 18 = nI i) : ∀ (m q a a' : Nat) (ar : Nat → Nat → Int32) (w2 : Value), tbR bs n ar → q + m = n → t = skp isD bs m q → ar 16 i = nI a → min a 1001 = a' → a ≤ 20000000 → ∃ ar' w, xD E (d + 2) 196 169 [.ref 48, .int (nI n), w2, .int (sb b), .int (nI t), .int (nI q)] [] (mw A fl ar al) = xD E (d + 2) 196 7 [.ref 48, .int (nI n), .int (nI t), .int (sb b), .int (nI t), .int (nI t)] [] (mw A (upd fl 18 (nI (i + 1))) ar' al) ∧ ar' 16 i = nI w ∧ min w 1001 = nuw bs m q a' ∧ w ≤ 20000000 ∧ (∀ j, j ≠ i → ar' 16 j = ar 16 j) ∧ (∀ k, k ≠ 16 → ar' k = ar k)
  | 0, q, a, a', ar, w2, htb, hq, ht, ha, haa, hab => by
    have ht2 : t = q := ht
    subst ht2
    refine ⟨ar, a, ?_, ha, haa, hab, fun _ _ => rfl, fun _ _ => rfl⟩
    rw [e196_169, if_pos (nI_le (Nat.le_refl _) (by omega)), m_g48_18 hA, Option.bind_some, h18, nI_1, m_p48_18 hA, Option.bind_some]
  | m + 1, q, a, a', ar, w2, htb, hq, ht, ha, haa, hab => by
    unfold skp at ht
    by_cases e : isD (bs q) = true
    · rw [if_pos e] at ht
      have hts := skp_le isD bs m (q + 1)
      have hbq := hbs q
      have hdq : 48 ≤ bs q ∧ bs q ≤ 57 := by
        unfold isD at e; simp at e; exact e
      rw [e196_169, if_neg (nI_ge (by omega) (by omega)), m_isDigit hb, xI_s, Option.bind_some, hbd]
      dsimp only
      rw [if_pos rfl, i_if, m_r48_16 hA, Option.bind_some, m_g48_18 hA, Option.bind_some, Option.bind_some, Option.bind_some, h18, m_a58 hA (by omega), Option.bind_some, ha]
      unfold nuw
      rw [if_pos e]
      by_cases e2 : a ≤ 1000000
      · rw [if_pos (show nI a ≤ (1000000 : Int32) from nI_le (b := 1000000) e2 (by omega))]
        simp (disch := omega) only [m_r48_16, m_r48_11, m_g48_18, h18, m_a58, ha, m_a55, Option.bind_some]
        rw [htb _ (by omega), sb_dig _ hbq e, show (10 : Int32) = nI 10 from rfl, show (48 : Int32) = nI 48 from rfl, pk_mul, nI_add, pk_sub (by omega), m_s58 hA (by omega), Option.bind_some, nI_1]
        obtain ⟨ar', w, k1, k2, k3, k4, k5, k6⟩ := cu_v hA hn hbs hb hbd hi h18 m (q + 1) (10 * a + bs q - 48) (min (a' * 10 + (bs q - 48)) 1001) (sar ar 16 (upd (ar 16) i (nI (10 * a + bs q - 48)))) xJ (fun j hj => by rw [sar_n (by omega)]; exact htb j hj) (by omega) ht (by rw [sar_s]; exact upd_s) (by omega) (by omega)
        refine ⟨ar', w, k1, k2, k3, k4, fun j hj => ?_, fun k hk => by rw [k6 k hk, sar_n hk]⟩
        rw [k5 j hj, sar_s, upd_n hj]
      · rw [if_neg (show ¬ nI a ≤ (1000000 : Int32) from nI_ge (a := 1000000) (by omega) (by omega))]
        simp (disch := omega) only [m_r48_16, m_g48_18, h18, m_a58, ha, Option.bind_some]
        rw [m_s58 hA (by omega), Option.bind_some, nI_1]
        obtain ⟨ar', w, k1, k2, k3, k4, k5, k6⟩ := cu_v hA hn hbs hb hbd hi h18 m (q + 1) a (min (a' * 10 + (bs q - 48)) 1001) (sar ar 16 (upd (ar 16) i (nI a))) xJ (fun j hj => by rw [sar_n (by omega)]; exact htb j hj) (by omega) ht (by rw [sar_s]; exact upd_s) (by omega) hab
        refine ⟨ar', w, k1, k2, k3, k4, fun j hj => ?_, fun k hk => by rw [k6 k hk, sar_n hk]⟩
        rw [k5 j hj, sar_s, upd_n hj]
    · rw [if_neg e] at ht
      subst ht
      refine ⟨ar, a, ?_, ha, ?_, hab, fun _ _ => rfl, fun _ _ => rfl⟩
      · rw [e196_169, if_pos (nI_le (Nat.le_refl _) (by omega)), m_g48_18 hA, Option.bind_some, h18, nI_1, m_p48_18 hA, Option.bind_some]
      · unfold nuw; rw [if_neg e]; exact haa
end MTOK
