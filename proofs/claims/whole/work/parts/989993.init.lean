/-! ===== the class's constructor: its pieces ===== -/
section CINIT
variable {E : Nat × (Nat → Int32)} {d : Nat}
def nHI (h : Nat) : xH := [.inr (0, [.ref (h + 1), .ref (h + 2), .null, .int 0]), .inl (5, 16, .inr (.inr fun _ => none)), ia 16 (fun _ => 0)]
theorem c_hinit (A : xH) : xC E (d + 1) 0 [.ref A.length] (A ++ [.inr (0, [.null, .null, .null, .int 0])]) = some (none, A ++ nHI A.length) := by
  rw [k0 _ _ _ _ (ap_C (A := A) (p := A.length) (j := 0) rfl rfl)]
  simp only [ap_A, List.length_append, List.length_cons, List.length_nil, Nat.zero_add, List.cons_append, List.nil_append]
  rw [ap_F (A := A) (p := A.length) (j := 0) rfl rfl (show 0 < 4 by omega), Option.bind_some]
  simp only [List.set]
  simp only [ap_A, List.length_append, List.length_cons, List.length_nil, Nat.zero_add, List.cons_append, List.nil_append]
  rw [ap_F (A := A) (p := A.length) (j := 0) rfl rfl (show 1 < 4 by omega), Option.bind_some, ap_F (A := A) (p := A.length) (j := 0) rfl rfl (show 2 < 4 by omega), Option.bind_some, ap_F (A := A) (p := A.length) (j := 0) rfl rfl (show 3 < 4 by omega), Option.bind_some]
  rfl
def nTT (t : Nat) : xH := [.inr (7, [.ref (t + 1), .ref (t + 2), .ref (t + 3), .ref (t + 4), .int 0, .int 0, .int 0]), ia 400 (fun _ => 0), ia 400 (fun _ => 0), ia 96 (fun _ => 0), ia 50 (fun _ => 0)]
theorem c_ttinit (A : xH) : xC E (d + 1) 89 [.ref A.length] (A ++ [.inr (7, [.null, .null, .null, .null, .int 0, .int 0, .int 0])]) = some (none, A ++ nTT A.length) := by
  rw [k89 _ _ _ _ (ap_C (A := A) (p := A.length) (j := 0) rfl rfl), ap_F (A := A) (p := A.length) (j := 0) rfl rfl (show 4 < 7 by omega), Option.bind_some, ap_F (A := A) (p := A.length) (j := 0) rfl rfl (show 5 < 7 by omega), Option.bind_some, ap_F (A := A) (p := A.length) (j := 0) rfl rfl (show 6 < 7 by omega), Option.bind_some]
  simp only [List.set]
  simp only [ap_A, List.length_append, List.length_cons, List.length_nil, Nat.zero_add, List.cons_append, List.nil_append]
  rw [e89_25, ap_F (A := A) (p := A.length) (j := 0) rfl rfl (show 0 < 7 by omega), Option.bind_some]
  simp only [List.set]
  simp only [ap_A, List.length_append, List.length_cons, List.length_nil, Nat.zero_add, List.cons_append, List.nil_append]
  rw [e89_34, ap_F (A := A) (p := A.length) (j := 0) rfl rfl (show 1 < 7 by omega), Option.bind_some]
  simp only [List.set]
  simp only [ap_A, List.length_append, List.length_cons, List.length_nil, Nat.zero_add, List.cons_append, List.nil_append]
  rw [e89_42, ap_F (A := A) (p := A.length) (j := 0) rfl rfl (show 2 < 7 by omega), Option.bind_some]
  simp only [List.set]
  simp only [ap_A, List.length_append, List.length_cons, List.length_nil, Nat.zero_add, List.cons_append, List.nil_append]
  rw [e89_50, ap_F (A := A) (p := A.length) (j := 0) rfl rfl (show 3 < 7 by omega), Option.bind_some]
  rfl
end CINIT
