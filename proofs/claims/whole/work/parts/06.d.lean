def xnest : List Cond := [.methodLinkNest "TwinBuckets" 11 ⟨"TwinBuckets$Store", "<init>", "()V"⟩ "TwinBuckets", .methodLinkNest "TwinBuckets$Store" 11 ⟨"TwinBuckets$Pages", "<init>", "()V"⟩ "TwinBuckets", .methodLinkNest "TwinBuckets" 24 ⟨"TwinBuckets$Rules", "<init>", "()V"⟩ "TwinBuckets", .methodLinkNest "TwinBuckets" 31 ⟨"TwinBuckets$Sightings", "<init>", "()V"⟩ "TwinBuckets", .methodLinkNest "TwinBuckets" 38 ⟨"TwinBuckets$History", "<init>", "()V"⟩ "TwinBuckets", .methodLinkNest "TwinBuckets" 54 ⟨"TwinBuckets$Tape", "<init>", "()V"⟩ "TwinBuckets", .methodLinkNest "TwinBuckets$Pages" 21 ⟨"TwinBuckets", "isBucket", "(I)Z"⟩ "TwinBuckets", .methodLinkNest "TwinBuckets$Store" 82 ⟨"TwinBuckets", "isKey", "(I)Z"⟩ "TwinBuckets", .methodLinkNest "TwinBuckets$Store" 155 ⟨"TwinBuckets", "isBucket", "(I)Z"⟩ "TwinBuckets", .methodLinkNest "TwinBuckets$History" 29 ⟨"TwinBuckets$Store", "<init>", "()V"⟩ "TwinBuckets", .methodLinkNest "TwinBuckets" 298 ⟨"TwinBuckets$Image", "<init>", "()V"⟩ "TwinBuckets", .methodLinkNest "TwinBuckets$Image" 9 ⟨"TwinBuckets$Store", "<init>", "()V"⟩ "TwinBuckets", .methodLinkNest "TwinBuckets$Image" 18 ⟨"TwinBuckets$Rules", "<init>", "()V"⟩ "TwinBuckets", .methodLinkNest "TwinBuckets$Image" 25 ⟨"TwinBuckets$Sightings", "<init>", "()V"⟩ "TwinBuckets"]
theorem xnest_tbl : ∀ w ∈ xnest, w ∈ lw_tbl := by
  unfold xnest
  exact List.forall_mem_cons.mpr ⟨tb1 (List.mem_of_getElem? (i := 29) rfl), List.forall_mem_cons.mpr ⟨tb1 (List.mem_of_getElem? (i := 35) rfl), List.forall_mem_cons.mpr ⟨tb1 (List.mem_of_getElem? (i := 80) rfl), List.forall_mem_cons.mpr ⟨tb1 (List.mem_of_getElem? (i := 120) rfl), List.forall_mem_cons.mpr ⟨tb1 (List.mem_of_getElem? (i := 137) rfl), List.forall_mem_cons.mpr ⟨tb1 (List.mem_of_getElem? (i := 161) rfl), List.forall_mem_cons.mpr ⟨tb2 (List.mem_of_getElem? (i := 74) rfl), List.forall_mem_cons.mpr ⟨tb3 (List.mem_of_getElem? (i := 10) rfl), List.forall_mem_cons.mpr ⟨tb3 (List.mem_of_getElem? (i := 19) rfl), List.forall_mem_cons.mpr ⟨tb4 (List.mem_of_getElem? (i := 67) rfl), List.forall_mem_cons.mpr ⟨tb5 (List.mem_of_getElem? (i := 63) rfl), List.forall_mem_cons.mpr ⟨tb5 (List.mem_of_getElem? (i := 68) rfl), List.forall_mem_cons.mpr ⟨tb5 (List.mem_of_getElem? (i := 70) rfl), List.forall_mem_cons.mpr ⟨tb5 (List.mem_of_getElem? (i := 72) rfl), fun _ h => absurd h List.not_mem_nil⟩⟩⟩⟩⟩⟩⟩⟩⟩⟩⟩⟩⟩⟩
/-- a link to a method of the program: the words that the call needs -/
def xLk (own idx kd mid na : Nat) (nst : Bool) : Prop := mid < 302 ∧ ∀ (M : xM) (y : MethodName) (b : ByteArray) (rt : Option FieldType), xprog[mid]? = some M → xmeta[mid]? = some (y, b, rt) →
  (if nst = true then Cond.methodLinkNest (xcn own) idx y "TwinBuckets" ∈ xnest else Cond.methodLink (xcn own) idx y ∈ gw) ∧ M.2.2.1 = kd ∧ (parseMethodDescriptor y.desc).map (fun d => d.parameters.length) = some (if kd = 1 then na else na - 1) ∧ (kd = 1 ∨ 1 ≤ na)
def xsLen : MethodName := ⟨"java/lang/String", "length", "()I"⟩
def xsAt : MethodName := ⟨"java/lang/String", "charAt", "(I)C"⟩
def xMLok (e : Nat × Nat × Nat × Nat × Nat × Nat) : Prop := match e.2.2.1 with
  | 0 => xLk e.1 e.2.1 0 e.2.2.2.1 e.2.2.2.2.1 false
  | 1 => xLk e.1 e.2.1 1 e.2.2.2.1 e.2.2.2.2.1 false
  | 2 => xLk e.1 e.2.1 2 e.2.2.2.1 e.2.2.2.2.1 false
  | 3 => xLk e.1 e.2.1 0 e.2.2.2.1 e.2.2.2.2.1 true
  | 4 => xLk e.1 e.2.1 1 e.2.2.2.1 e.2.2.2.2.1 true
  | 5 => xLk e.1 e.2.1 2 e.2.2.2.1 e.2.2.2.2.1 true
  | 6 => Cond.methodLink (xcn e.1) e.2.1 objectInit ∈ gw
  | 7 => Cond.methodLink (xcn e.1) e.2.1 Lib.Math.max.name ∈ gw
  | 8 => Cond.methodLink (xcn e.1) e.2.1 Lib.Math.min.name ∈ gw
  | 9 => Cond.methodLink (xcn e.1) e.2.1 arraycopyName ∈ gw
  | 10 => Cond.methodLink (xcn e.1) e.2.1 xsLen ∈ gw
  | 11 => Cond.methodLink (xcn e.1) e.2.1 xsAt ∈ gw
  | 12 => Cond.methodLink (xcn e.1) e.2.1 ⟨"[I", "clone", "()Ljava/lang/Object;"⟩ ∈ gw
  | _ => False
theorem ml_0 : xMLok (10, 9, 2, 98, 1, 0) := ⟨by decide, fun M y b rt h1 h2 => by cases h1; cases h2; exact ⟨gm1 21 rfl rfl, rfl, by decide +kernel, by decide⟩⟩
theorem ml_1 : xMLok (8, 3, 6, 0, 0, 0) := gm1 24 rfl rfl
theorem ml_2 : xMLok (8, 11, 5, 40, 1, 0) := ⟨by decide, fun M y b rt h1 h2 => by cases h1; cases h2; exact ⟨List.mem_of_getElem? (i := 0) rfl, rfl, by decide +kernel, by decide⟩⟩
theorem ml_3 : xMLok (5, 3, 6, 0, 0, 0) := gm1 32 rfl rfl
theorem ml_4 : xMLok (5, 11, 5, 8, 1, 0) := ⟨by decide, fun M y b rt h1 h2 => by cases h1; cases h2; exact ⟨List.mem_of_getElem? (i := 1) rfl, rfl, by decide +kernel, by decide⟩⟩
theorem ml_5 : xMLok (2, 3, 6, 0, 0, 0) := gm1 38 rfl rfl
theorem ml_6 : xMLok (8, 24, 5, 26, 1, 0) := ⟨by decide, fun M y b rt h1 h2 => by cases h1; cases h2; exact ⟨List.mem_of_getElem? (i := 2) rfl, rfl, by decide +kernel, by decide⟩⟩
theorem ml_7 : xMLok (3, 3, 6, 0, 0, 0) := gm1 83 rfl rfl
theorem ml_8 : xMLok (8, 31, 5, 35, 1, 0) := ⟨by decide, fun M y b rt h1 h2 => by cases h1; cases h2; exact ⟨List.mem_of_getElem? (i := 3) rfl, rfl, by decide +kernel, by decide⟩⟩
theorem ml_9 : xMLok (4, 3, 6, 0, 0, 0) := gm1 123 rfl rfl
theorem ml_10 : xMLok (8, 38, 5, 0, 1, 0) := ⟨by decide, fun M y b rt h1 h2 => by cases h1; cases h2; exact ⟨List.mem_of_getElem? (i := 4) rfl, rfl, by decide +kernel, by decide⟩⟩
theorem ml_11 : xMLok (0, 3, 6, 0, 0, 0) := gm1 140 rfl rfl
theorem ml_12 : xMLok (8, 54, 5, 68, 1, 0) := ⟨by decide, fun M y b rt h1 h2 => by cases h1; cases h2; exact ⟨List.mem_of_getElem? (i := 5) rfl, rfl, by decide +kernel, by decide⟩⟩
theorem ml_13 : xMLok (6, 3, 6, 0, 0, 0) := gm1 164 rfl rfl
theorem ml_14 : xMLok (6, 11, 2, 89, 1, 0) := ⟨by decide, fun M y b rt h1 h2 => by cases h1; cases h2; exact ⟨gm1 167 rfl rfl, rfl, by decide +kernel, by decide⟩⟩
theorem ml_15 : xMLok (7, 3, 6, 0, 0, 0) := gm1 170 rfl rfl
theorem ml_16 : xMLok (8, 89, 0, 41, 1, 0) := ⟨by decide, fun M y b rt h1 h2 => by cases h1; cases h2; exact ⟨gm1 235 rfl rfl, rfl, by decide +kernel, by decide⟩⟩
theorem ml_17 : xMLok (5, 41, 0, 18, 4, 0) := ⟨by decide, fun M y b rt h1 h2 => by cases h1; cases h2; exact ⟨gm1 239 rfl rfl, rfl, by decide +kernel, by decide⟩⟩
theorem ml_18 : xMLok (2, 36, 0, 295, 4, 0) := ⟨by decide, fun M y b rt h1 h2 => by cases h1; cases h2; exact ⟨gm2 3 rfl rfl, rfl, by decide +kernel, by decide⟩⟩
theorem ml_19 : xMLok (8, 92, 1, 297, 2, 0) := ⟨by decide, fun M y b rt h1 h2 => by cases h1; cases h2; exact ⟨gm2 7 rfl rfl, rfl, by decide +kernel, by decide⟩⟩
theorem ml_20 : xMLok (10, 13, 0, 99, 3, 1) := ⟨by decide, fun M y b rt h1 h2 => by cases h1; cases h2; exact ⟨gm2 66 rfl rfl, rfl, by decide +kernel, by decide⟩⟩
theorem ml_21 : xMLok (8, 102, 0, 10, 3, 1) := ⟨by decide, fun M y b rt h1 h2 => by cases h1; cases h2; exact ⟨gm2 70 rfl rfl, rfl, by decide +kernel, by decide⟩⟩
theorem ml_22 : xMLok (2, 21, 4, 140, 1, 1) := ⟨by decide, fun M y b rt h1 h2 => by cases h1; cases h2; exact ⟨List.mem_of_getElem? (i := 6) rfl, rfl, by decide +kernel, by decide⟩⟩
theorem ml_23 : xMLok (2, 25, 0, 11, 2, 1) := ⟨by decide, fun M y b rt h1 h2 => by cases h1; cases h2; exact ⟨gm2 77 rfl rfl, rfl, by decide +kernel, by decide⟩⟩
theorem ml_24 : xMLok (2, 32, 0, 17, 3, 1) := ⟨by decide, fun M y b rt h1 h2 => by cases h1; cases h2; exact ⟨gm2 81 rfl rfl, rfl, by decide +kernel, by decide⟩⟩
theorem ml_25 : xMLok (2, 28, 0, 14, 2, 1) := ⟨by decide, fun M y b rt h1 h2 => by cases h1; cases h2; exact ⟨gm2 85 rfl rfl, rfl, by decide +kernel, by decide⟩⟩
theorem ml_26 : xMLok (10, 18, 0, 100, 3, 1) := ⟨by decide, fun M y b rt h1 h2 => by cases h1; cases h2; exact ⟨gm2 89 rfl rfl, rfl, by decide +kernel, by decide⟩⟩
theorem ml_27 : xMLok (10, 22, 0, 101, 3, 1) := ⟨by decide, fun M y b rt h1 h2 => by cases h1; cases h2; exact ⟨gm2 93 rfl rfl, rfl, by decide +kernel, by decide⟩⟩
theorem ml_28 : xMLok (8, 111, 0, 58, 3, 1) := ⟨by decide, fun M y b rt h1 h2 => by cases h1; cases h2; exact ⟨gm2 97 rfl rfl, rfl, by decide +kernel, by decide⟩⟩
theorem ml_29 : xMLok (5, 168, 0, 56, 2, 1) := ⟨by decide, fun M y b rt h1 h2 => by cases h1; cases h2; exact ⟨gm2 101 rfl rfl, rfl, by decide +kernel, by decide⟩⟩
theorem ml_30 : xMLok (10, 26, 0, 102, 2, 1) := ⟨by decide, fun M y b rt h1 h2 => by cases h1; cases h2; exact ⟨gm2 105 rfl rfl, rfl, by decide +kernel, by decide⟩⟩
theorem ml_31 : xMLok (8, 114, 0, 43, 1, 1) := ⟨by decide, fun M y b rt h1 h2 => by cases h1; cases h2; exact ⟨gm2 109 rfl rfl, rfl, by decide +kernel, by decide⟩⟩
theorem ml_32 : xMLok (8, 118, 0, 300, 2, 1) := ⟨by decide, fun M y b rt h1 h2 => by cases h1; cases h2; exact ⟨gm2 113 rfl rfl, rfl, by decide +kernel, by decide⟩⟩
theorem ml_33 : xMLok (10, 31, 0, 103, 3, 1) := ⟨by decide, fun M y b rt h1 h2 => by cases h1; cases h2; exact ⟨gm2 117 rfl rfl, rfl, by decide +kernel, by decide⟩⟩
theorem ml_34 : xMLok (8, 122, 1, 139, 1, 1) := ⟨by decide, fun M y b rt h1 h2 => by cases h1; cases h2; exact ⟨gm2 121 rfl rfl, rfl, by decide +kernel, by decide⟩⟩
theorem ml_35 : xMLok (8, 126, 0, 29, 2, 1) := ⟨by decide, fun M y b rt h1 h2 => by cases h1; cases h2; exact ⟨gm2 124 rfl rfl, rfl, by decide +kernel, by decide⟩⟩
theorem ml_36 : xMLok (3, 40, 1, 28, 2, 1) := ⟨by decide, fun M y b rt h1 h2 => by cases h1; cases h2; exact ⟨gm2 128 rfl rfl, rfl, by decide +kernel, by decide⟩⟩
theorem ml_37 : xMLok (8, 129, 0, 46, 3, 1) := ⟨by decide, fun M y b rt h1 h2 => by cases h1; cases h2; exact ⟨gm2 131 rfl rfl, rfl, by decide +kernel, by decide⟩⟩
theorem ml_38 : xMLok (5, 67, 0, 45, 3, 1) := ⟨by decide, fun M y b rt h1 h2 => by cases h1; cases h2; exact ⟨gm2 135 rfl rfl, rfl, by decide +kernel, by decide⟩⟩
theorem ml_39 : xMLok (5, 59, 0, 29, 2, 1) := ⟨by decide, fun M y b rt h1 h2 => by cases h1; cases h2; exact ⟨gm2 139 rfl rfl, rfl, by decide +kernel, by decide⟩⟩
theorem ml_40 : xMLok (5, 64, 0, 300, 2, 1) := ⟨by decide, fun M y b rt h1 h2 => by cases h1; cases h2; exact ⟨gm2 140 rfl rfl, rfl, by decide +kernel, by decide⟩⟩
theorem ml_41 : xMLok (5, 71, 0, 20, 3, 1) := ⟨by decide, fun M y b rt h1 h2 => by cases h1; cases h2; exact ⟨gm2 141 rfl rfl, rfl, by decide +kernel, by decide⟩⟩
theorem ml_42 : xMLok (2, 40, 0, 15, 3, 1) := ⟨by decide, fun M y b rt h1 h2 => by cases h1; cases h2; exact ⟨gm2 145 rfl rfl, rfl, by decide +kernel, by decide⟩⟩
theorem ml_43 : xMLok (5, 75, 0, 16, 3, 1) := ⟨by decide, fun M y b rt h1 h2 => by cases h1; cases h2; exact ⟨gm2 149 rfl rfl, rfl, by decide +kernel, by decide⟩⟩
theorem ml_44 : xMLok (8, 133, 0, 45, 3, 1) := ⟨by decide, fun M y b rt h1 h2 => by cases h1; cases h2; exact ⟨gm2 153 rfl rfl, rfl, by decide +kernel, by decide⟩⟩
theorem ml_45 : xMLok (8, 136, 0, 47, 3, 1) := ⟨by decide, fun M y b rt h1 h2 => by cases h1; cases h2; exact ⟨gm2 154 rfl rfl, rfl, by decide +kernel, by decide⟩⟩
theorem ml_46 : xMLok (5, 78, 0, 34, 4, 1) := ⟨by decide, fun M y b rt h1 h2 => by cases h1; cases h2; exact ⟨gm2 158 rfl rfl, rfl, by decide +kernel, by decide⟩⟩
theorem ml_47 : xMLok (3, 58, 0, 31, 2, 5) := ⟨by decide, fun M y b rt h1 h2 => by cases h1; cases h2; exact ⟨gm2 162 rfl rfl, rfl, by decide +kernel, by decide⟩⟩
theorem ml_48 : xMLok (3, 83, 0, 29, 2, 1) := ⟨by decide, fun M y b rt h1 h2 => by cases h1; cases h2; exact ⟨gm2 166 rfl rfl, rfl, by decide +kernel, by decide⟩⟩
theorem ml_49 : xMLok (3, 62, 0, 32, 5, 0) := ⟨by decide, fun M y b rt h1 h2 => by cases h1; cases h2; exact ⟨gm2 167 rfl rfl, rfl, by decide +kernel, by decide⟩⟩
theorem ml_50 : xMLok (3, 50, 0, 17, 3, 1) := ⟨by decide, fun M y b rt h1 h2 => by cases h1; cases h2; exact ⟨gm2 171 rfl rfl, rfl, by decide +kernel, by decide⟩⟩
theorem ml_51 : xMLok (3, 69, 0, 92, 3, 1) := ⟨by decide, fun M y b rt h1 h2 => by cases h1; cases h2; exact ⟨gm2 172 rfl rfl, rfl, by decide +kernel, by decide⟩⟩
theorem ml_52 : xMLok (3, 70, 0, 96, 5, 1) := ⟨by decide, fun M y b rt h1 h2 => by cases h1; cases h2; exact ⟨gm2 176 rfl rfl, rfl, by decide +kernel, by decide⟩⟩
theorem ml_53 : xMLok (7, 40, 0, 92, 3, 1) := ⟨by decide, fun M y b rt h1 h2 => by cases h1; cases h2; exact ⟨gm2 180 rfl rfl, rfl, by decide +kernel, by decide⟩⟩
theorem ml_54 : xMLok (7, 44, 7, 0, 0, 0) := gm2 181 rfl rfl
theorem ml_55 : xMLok (7, 49, 8, 0, 0, 0) := gm2 184 rfl rfl
theorem ml_56 : xMLok (7, 53, 1, 97, 3, 1) := ⟨by decide, fun M y b rt h1 h2 => by cases h1; cases h2; exact ⟨gm2 188 rfl rfl, rfl, by decide +kernel, by decide⟩⟩
theorem ml_57 : xMLok (10, 35, 0, 104, 3, 1) := ⟨by decide, fun M y b rt h1 h2 => by cases h1; cases h2; exact ⟨gm2 194 rfl rfl, rfl, by decide +kernel, by decide⟩⟩
theorem ml_58 : xMLok (8, 140, 1, 144, 1, 1) := ⟨by decide, fun M y b rt h1 h2 => by cases h1; cases h2; exact ⟨gm2 198 rfl rfl, rfl, by decide +kernel, by decide⟩⟩
theorem ml_59 : xMLok (8, 143, 0, 141, 2, 1) := ⟨by decide, fun M y b rt h1 h2 => by cases h1; cases h2; exact ⟨gm2 201 rfl rfl, rfl, by decide +kernel, by decide⟩⟩
theorem ml_60 : xMLok (8, 146, 0, 44, 1, 1) := ⟨by decide, fun M y b rt h1 h2 => by cases h1; cases h2; exact ⟨gm2 205 rfl rfl, rfl, by decide +kernel, by decide⟩⟩
theorem ml_61 : xMLok (5, 55, 0, 14, 2, 1) := ⟨by decide, fun M y b rt h1 h2 => by cases h1; cases h2; exact ⟨gm2 209 rfl rfl, rfl, by decide +kernel, by decide⟩⟩
theorem ml_62 : xMLok (8, 149, 0, 145, 2, 1) := ⟨by decide, fun M y b rt h1 h2 => by cases h1; cases h2; exact ⟨gm2 210 rfl rfl, rfl, by decide +kernel, by decide⟩⟩
theorem ml_63 : xMLok (8, 152, 0, 146, 3, 0) := ⟨by decide, fun M y b rt h1 h2 => by cases h1; cases h2; exact ⟨gm2 214 rfl rfl, rfl, by decide +kernel, by decide⟩⟩
theorem ml_64 : xMLok (8, 156, 0, 1, 1, 0) := ⟨by decide, fun M y b rt h1 h2 => by cases h1; cases h2; exact ⟨gm2 218 rfl rfl, rfl, by decide +kernel, by decide⟩⟩
theorem ml_65 : xMLok (8, 159, 0, 142, 2, 1) := ⟨by decide, fun M y b rt h1 h2 => by cases h1; cases h2; exact ⟨gm2 222 rfl rfl, rfl, by decide +kernel, by decide⟩⟩
theorem ml_66 : xMLok (10, 39, 0, 105, 6, 1) := ⟨by decide, fun M y b rt h1 h2 => by cases h1; cases h2; exact ⟨gm2 226 rfl rfl, rfl, by decide +kernel, by decide⟩⟩
theorem ml_67 : xMLok (8, 165, 0, 69, 2, 0) := ⟨by decide, fun M y b rt h1 h2 => by cases h1; cases h2; exact ⟨gm2 230 rfl rfl, rfl, by decide +kernel, by decide⟩⟩
theorem ml_68 : xMLok (10, 44, 0, 106, 2, 1) := ⟨by decide, fun M y b rt h1 h2 => by cases h1; cases h2; exact ⟨gm2 234 rfl rfl, rfl, by decide +kernel, by decide⟩⟩
theorem ml_69 : xMLok (10, 48, 0, 107, 1, 1) := ⟨by decide, fun M y b rt h1 h2 => by cases h1; cases h2; exact ⟨gm2 238 rfl rfl, rfl, by decide +kernel, by decide⟩⟩
theorem ml_70 : xMLok (8, 169, 0, 70, 1, 1) := ⟨by decide, fun M y b rt h1 h2 => by cases h1; cases h2; exact ⟨gm3 2 rfl rfl, rfl, by decide +kernel, by decide⟩⟩
theorem ml_71 : xMLok (8, 175, 0, 48, 4, 1) := ⟨by decide, fun M y b rt h1 h2 => by cases h1; cases h2; exact ⟨gm3 6 rfl rfl, rfl, by decide +kernel, by decide⟩⟩
theorem ml_72 : xMLok (5, 82, 4, 139, 1, 1) := ⟨by decide, fun M y b rt h1 h2 => by cases h1; cases h2; exact ⟨List.mem_of_getElem? (i := 7) rfl, rfl, by decide +kernel, by decide⟩⟩
theorem ml_73 : xMLok (5, 86, 0, 298, 5, 0) := ⟨by decide, fun M y b rt h1 h2 => by cases h1; cases h2; exact ⟨gm3 11 rfl rfl, rfl, by decide +kernel, by decide⟩⟩
theorem ml_74 : xMLok (5, 90, 0, 55, 3, 0) := ⟨by decide, fun M y b rt h1 h2 => by cases h1; cases h2; exact ⟨gm3 15 rfl rfl, rfl, by decide +kernel, by decide⟩⟩
theorem ml_75 : xMLok (5, 155, 4, 140, 1, 1) := ⟨by decide, fun M y b rt h1 h2 => by cases h1; cases h2; exact ⟨List.mem_of_getElem? (i := 8) rfl, rfl, by decide +kernel, by decide⟩⟩
theorem ml_76 : xMLok (5, 161, 0, 33, 4, 1) := ⟨by decide, fun M y b rt h1 h2 => by cases h1; cases h2; exact ⟨gm3 20 rfl rfl, rfl, by decide +kernel, by decide⟩⟩
theorem ml_77 : xMLok (3, 75, 8, 0, 0, 0) := gm3 25 rfl rfl
theorem ml_78 : xMLok (3, 80, 7, 0, 0, 0) := gm3 26 rfl rfl
theorem ml_79 : xMLok (5, 165, 0, 57, 1, 0) := ⟨by decide, fun M y b rt h1 h2 => by cases h1; cases h2; exact ⟨gm3 27 rfl rfl, rfl, by decide +kernel, by decide⟩⟩
theorem ml_80 : xMLok (5, 49, 9, 0, 0, 0) := gm3 31 rfl rfl
theorem ml_81 : xMLok (5, 174, 8, 0, 0, 0) := gm3 34 rfl rfl
theorem ml_82 : xMLok (5, 94, 0, 47, 3, 1) := ⟨by decide, fun M y b rt h1 h2 => by cases h1; cases h2; exact ⟨gm3 35 rfl rfl, rfl, by decide +kernel, by decide⟩⟩
theorem ml_83 : xMLok (5, 98, 0, 49, 4, 1) := ⟨by decide, fun M y b rt h1 h2 => by cases h1; cases h2; exact ⟨gm3 36 rfl rfl, rfl, by decide +kernel, by decide⟩⟩
theorem ml_84 : xMLok (5, 108, 0, 15, 3, 1) := ⟨by decide, fun M y b rt h1 h2 => by cases h1; cases h2; exact ⟨gm3 40 rfl rfl, rfl, by decide +kernel, by decide⟩⟩
theorem ml_85 : xMLok (5, 111, 0, 12, 2, 1) := ⟨by decide, fun M y b rt h1 h2 => by cases h1; cases h2; exact ⟨gm3 41 rfl rfl, rfl, by decide +kernel, by decide⟩⟩
theorem ml_86 : xMLok (5, 114, 0, 23, 1, 1) := ⟨by decide, fun M y b rt h1 h2 => by cases h1; cases h2; exact ⟨gm3 45 rfl rfl, rfl, by decide +kernel, by decide⟩⟩
theorem ml_87 : xMLok (5, 102, 0, 50, 3, 1) := ⟨by decide, fun M y b rt h1 h2 => by cases h1; cases h2; exact ⟨gm3 49 rfl rfl, rfl, by decide +kernel, by decide⟩⟩
theorem ml_88 : xMLok (5, 118, 0, 24, 1, 1) := ⟨by decide, fun M y b rt h1 h2 => by cases h1; cases h2; exact ⟨gm3 53 rfl rfl, rfl, by decide +kernel, by decide⟩⟩
theorem ml_89 : xMLok (5, 121, 0, 13, 2, 1) := ⟨by decide, fun M y b rt h1 h2 => by cases h1; cases h2; exact ⟨gm3 57 rfl rfl, rfl, by decide +kernel, by decide⟩⟩
theorem ml_90 : xMLok (5, 124, 0, 19, 2, 0) := ⟨by decide, fun M y b rt h1 h2 => by cases h1; cases h2; exact ⟨gm3 61 rfl rfl, rfl, by decide +kernel, by decide⟩⟩
theorem ml_91 : xMLok (5, 105, 0, 21, 4, 0) := ⟨by decide, fun M y b rt h1 h2 => by cases h1; cases h2; exact ⟨gm3 65 rfl rfl, rfl, by decide +kernel, by decide⟩⟩
theorem ml_92 : xMLok (2, 43, 0, 298, 5, 0) := ⟨by decide, fun M y b rt h1 h2 => by cases h1; cases h2; exact ⟨gm3 69 rfl rfl, rfl, by decide +kernel, by decide⟩⟩
theorem ml_93 : xMLok (5, 128, 0, 22, 3, 0) := ⟨by decide, fun M y b rt h1 h2 => by cases h1; cases h2; exact ⟨gm3 70 rfl rfl, rfl, by decide +kernel, by decide⟩⟩
theorem ml_94 : xMLok (2, 47, 0, 16, 3, 1) := ⟨by decide, fun M y b rt h1 h2 => by cases h1; cases h2; exact ⟨gm3 74 rfl rfl, rfl, by decide +kernel, by decide⟩⟩
theorem ml_95 : xMLok (5, 132, 0, 51, 3, 0) := ⟨by decide, fun M y b rt h1 h2 => by cases h1; cases h2; exact ⟨gm3 75 rfl rfl, rfl, by decide +kernel, by decide⟩⟩
theorem ml_96 : xMLok (5, 140, 0, 301, 3, 0) := ⟨by decide, fun M y b rt h1 h2 => by cases h1; cases h2; exact ⟨gm3 79 rfl rfl, rfl, by decide +kernel, by decide⟩⟩
theorem ml_97 : xMLok (5, 135, 7, 0, 0, 0) := gm3 83 rfl rfl
theorem ml_98 : xMLok (10, 53, 0, 108, 1, 1) := ⟨by decide, fun M y b rt h1 h2 => by cases h1; cases h2; exact ⟨gm3 84 rfl rfl, rfl, by decide +kernel, by decide⟩⟩
theorem ml_99 : xMLok (10, 57, 0, 109, 1, 1) := ⟨by decide, fun M y b rt h1 h2 => by cases h1; cases h2; exact ⟨gm3 88 rfl rfl, rfl, by decide +kernel, by decide⟩⟩
theorem ml_100 : xMLok (8, 182, 0, 71, 2, 1) := ⟨by decide, fun M y b rt h1 h2 => by cases h1; cases h2; exact ⟨gm3 92 rfl rfl, rfl, by decide +kernel, by decide⟩⟩
theorem ml_101 : xMLok (6, 48, 0, 91, 1, 0) := ⟨by decide, fun M y b rt h1 h2 => by cases h1; cases h2; exact ⟨gm3 96 rfl rfl, rfl, by decide +kernel, by decide⟩⟩
theorem ml_102 : xMLok (6, 51, 0, 72, 1, 0) := ⟨by decide, fun M y b rt h1 h2 => by cases h1; cases h2; exact ⟨gm3 100 rfl rfl, rfl, by decide +kernel, by decide⟩⟩
theorem ml_103 : xMLok (6, 58, 8, 0, 0, 0) := gm3 104 rfl rfl
theorem ml_104 : xMLok (6, 54, 0, 76, 1, 1) := ⟨by decide, fun M y b rt h1 h2 => by cases h1; cases h2; exact ⟨gm3 105 rfl rfl, rfl, by decide +kernel, by decide⟩⟩
theorem ml_105 : xMLok (6, 77, 0, 93, 3, 0) := ⟨by decide, fun M y b rt h1 h2 => by cases h1; cases h2; exact ⟨gm3 109 rfl rfl, rfl, by decide +kernel, by decide⟩⟩
theorem ml_106 : xMLok (6, 81, 0, 78, 1, 1) := ⟨by decide, fun M y b rt h1 h2 => by cases h1; cases h2; exact ⟨gm3 113 rfl rfl, rfl, by decide +kernel, by decide⟩⟩
theorem ml_107 : xMLok (6, 89, 0, 74, 2, 1) := ⟨by decide, fun M y b rt h1 h2 => by cases h1; cases h2; exact ⟨gm3 118 rfl rfl, rfl, by decide +kernel, by decide⟩⟩
theorem ml_108 : xMLok (6, 73, 0, 73, 2, 1) := ⟨by decide, fun M y b rt h1 h2 => by cases h1; cases h2; exact ⟨gm3 122 rfl rfl, rfl, by decide +kernel, by decide⟩⟩
theorem ml_109 : xMLok (6, 64, 10, 0, 0, 0) := gm3 126 rfl rfl
theorem ml_110 : xMLok (6, 69, 11, 0, 0, 0) := gm3 136 rfl rfl
theorem ml_111 : xMLok (6, 106, 0, 79, 2, 1) := ⟨by decide, fun M y b rt h1 h2 => by cases h1; cases h2; exact ⟨gm3 174 rfl rfl, rfl, by decide +kernel, by decide⟩⟩
theorem ml_112 : xMLok (6, 121, 0, 83, 2, 1) := ⟨by decide, fun M y b rt h1 h2 => by cases h1; cases h2; exact ⟨gm3 178 rfl rfl, rfl, by decide +kernel, by decide⟩⟩
theorem ml_113 : xMLok (6, 147, 0, 84, 2, 1) := ⟨by decide, fun M y b rt h1 h2 => by cases h1; cases h2; exact ⟨gm3 182 rfl rfl, rfl, by decide +kernel, by decide⟩⟩
theorem ml_114 : xMLok (6, 150, 0, 85, 2, 1) := ⟨by decide, fun M y b rt h1 h2 => by cases h1; cases h2; exact ⟨gm3 186 rfl rfl, rfl, by decide +kernel, by decide⟩⟩
theorem ml_115 : xMLok (6, 143, 0, 75, 2, 1) := ⟨by decide, fun M y b rt h1 h2 => by cases h1; cases h2; exact ⟨gm3 190 rfl rfl, rfl, by decide +kernel, by decide⟩⟩
theorem ml_116 : xMLok (6, 129, 0, 94, 3, 0) := ⟨by decide, fun M y b rt h1 h2 => by cases h1; cases h2; exact ⟨gm3 194 rfl rfl, rfl, by decide +kernel, by decide⟩⟩
theorem ml_117 : xMLok (6, 155, 0, 86, 3, 1) := ⟨by decide, fun M y b rt h1 h2 => by cases h1; cases h2; exact ⟨gm3 199 rfl rfl, rfl, by decide +kernel, by decide⟩⟩
theorem ml_118 : xMLok (6, 161, 0, 88, 1, 1) := ⟨by decide, fun M y b rt h1 h2 => by cases h1; cases h2; exact ⟨gm3 204 rfl rfl, rfl, by decide +kernel, by decide⟩⟩
theorem ml_119 : xMLok (6, 164, 0, 87, 1, 1) := ⟨by decide, fun M y b rt h1 h2 => by cases h1; cases h2; exact ⟨gm3 214 rfl rfl, rfl, by decide +kernel, by decide⟩⟩
theorem ml_120 : xMLok (6, 84, 0, 77, 1, 1) := ⟨by decide, fun M y b rt h1 h2 => by cases h1; cases h2; exact ⟨gm3 228 rfl rfl, rfl, by decide +kernel, by decide⟩⟩
theorem ml_121 : xMLok (6, 95, 0, 80, 2, 1) := ⟨by decide, fun M y b rt h1 h2 => by cases h1; cases h2; exact ⟨gm3 235 rfl rfl, rfl, by decide +kernel, by decide⟩⟩
theorem ml_122 : xMLok (6, 124, 0, 81, 2, 1) := ⟨by decide, fun M y b rt h1 h2 => by cases h1; cases h2; exact ⟨gm3 239 rfl rfl, rfl, by decide +kernel, by decide⟩⟩
theorem ml_123 : xMLok (6, 136, 0, 82, 2, 1) := ⟨by decide, fun M y b rt h1 h2 => by cases h1; cases h2; exact ⟨gm4 3 rfl rfl, rfl, by decide +kernel, by decide⟩⟩
theorem ml_124 : xMLok (6, 132, 0, 95, 2, 0) := ⟨by decide, fun M y b rt h1 h2 => by cases h1; cases h2; exact ⟨gm4 9 rfl rfl, rfl, by decide +kernel, by decide⟩⟩
theorem ml_125 : xMLok (8, 192, 2, 90, 2, 0) := ⟨by decide, fun M y b rt h1 h2 => by cases h1; cases h2; exact ⟨gm4 15 rfl rfl, rfl, by decide +kernel, by decide⟩⟩
theorem ml_126 : xMLok (7, 34, 1, 299, 2, 4) := ⟨by decide, fun M y b rt h1 h2 => by cases h1; cases h2; exact ⟨gm4 18 rfl rfl, rfl, by decide +kernel, by decide⟩⟩
theorem ml_127 : xMLok (11, 316, 12, 0, 0, 0) := gm4 21 rfl rfl
theorem ml_128 : xMLok (11, 304, 8, 0, 0, 0) := gm4 28 rfl rfl
theorem ml_129 : xMLok (11, 150, 9, 0, 0, 0) := gm4 29 rfl rfl
theorem ml_130 : xMLok (8, 195, 0, 30, 2, 1) := ⟨by decide, fun M y b rt h1 h2 => by cases h1; cases h2; exact ⟨gm4 30 rfl rfl, rfl, by decide +kernel, by decide⟩⟩
theorem ml_131 : xMLok (10, 61, 0, 110, 1, 1) := ⟨by decide, fun M y b rt h1 h2 => by cases h1; cases h2; exact ⟨gm4 35 rfl rfl, rfl, by decide +kernel, by decide⟩⟩
theorem ml_132 : xMLok (8, 199, 0, 42, 2, 0) := ⟨by decide, fun M y b rt h1 h2 => by cases h1; cases h2; exact ⟨gm4 39 rfl rfl, rfl, by decide +kernel, by decide⟩⟩
theorem ml_133 : xMLok (5, 45, 0, 9, 2, 0) := ⟨by decide, fun M y b rt h1 h2 => by cases h1; cases h2; exact ⟨gm4 43 rfl rfl, rfl, by decide +kernel, by decide⟩⟩
theorem ml_134 : xMLok (2, 15, 9, 0, 0, 0) := gm4 47 rfl rfl
theorem ml_135 : xMLok (8, 206, 0, 148, 3, 1) := ⟨by decide, fun M y b rt h1 h2 => by cases h1; cases h2; exact ⟨gm4 48 rfl rfl, rfl, by decide +kernel, by decide⟩⟩
theorem ml_136 : xMLok (8, 344, 0, 92, 3, 1) := ⟨by decide, fun M y b rt h1 h2 => by cases h1; cases h2; exact ⟨gm4 52 rfl rfl, rfl, by decide +kernel, by decide⟩⟩
theorem ml_137 : xMLok (8, 347, 0, 149, 2, 0) := ⟨by decide, fun M y b rt h1 h2 => by cases h1; cases h2; exact ⟨gm4 53 rfl rfl, rfl, by decide +kernel, by decide⟩⟩
theorem ml_138 : xMLok (8, 353, 0, 96, 5, 1) := ⟨by decide, fun M y b rt h1 h2 => by cases h1; cases h2; exact ⟨gm4 57 rfl rfl, rfl, by decide +kernel, by decide⟩⟩
theorem ml_139 : xMLok (8, 217, 0, 147, 5, 1) := ⟨by decide, fun M y b rt h1 h2 => by cases h1; cases h2; exact ⟨gm4 59 rfl rfl, rfl, by decide +kernel, by decide⟩⟩
theorem ml_140 : xMLok (8, 329, 0, 2, 2, 0) := ⟨by decide, fun M y b rt h1 h2 => by cases h1; cases h2; exact ⟨gm4 63 rfl rfl, rfl, by decide +kernel, by decide⟩⟩
theorem ml_141 : xMLok (0, 29, 5, 40, 1, 0) := ⟨by decide, fun M y b rt h1 h2 => by cases h1; cases h2; exact ⟨List.mem_of_getElem? (i := 9) rfl, rfl, by decide +kernel, by decide⟩⟩
theorem ml_142 : xMLok (0, 30, 0, 42, 2, 0) := ⟨by decide, fun M y b rt h1 h2 => by cases h1; cases h2; exact ⟨gm4 68 rfl rfl, rfl, by decide +kernel, by decide⟩⟩
theorem ml_143 : xMLok (8, 332, 0, 52, 3, 1) := ⟨by decide, fun M y b rt h1 h2 => by cases h1; cases h2; exact ⟨gm4 69 rfl rfl, rfl, by decide +kernel, by decide⟩⟩
theorem ml_144 : xMLok (5, 143, 0, 53, 2, 1) := ⟨by decide, fun M y b rt h1 h2 => by cases h1; cases h2; exact ⟨gm4 73 rfl rfl, rfl, by decide +kernel, by decide⟩⟩
theorem ml_145 : xMLok (5, 152, 0, 11, 2, 1) := ⟨by decide, fun M y b rt h1 h2 => by cases h1; cases h2; exact ⟨gm4 77 rfl rfl, rfl, by decide +kernel, by decide⟩⟩
theorem ml_146 : xMLok (5, 146, 0, 54, 3, 0) := ⟨by decide, fun M y b rt h1 h2 => by cases h1; cases h2; exact ⟨gm4 78 rfl rfl, rfl, by decide +kernel, by decide⟩⟩
theorem ml_147 : xMLok (5, 149, 0, 25, 1, 1) := ⟨by decide, fun M y b rt h1 h2 => by cases h1; cases h2; exact ⟨gm4 82 rfl rfl, rfl, by decide +kernel, by decide⟩⟩
theorem ml_148 : xMLok (2, 50, 0, 12, 2, 1) := ⟨by decide, fun M y b rt h1 h2 => by cases h1; cases h2; exact ⟨gm4 86 rfl rfl, rfl, by decide +kernel, by decide⟩⟩
theorem ml_149 : xMLok (2, 53, 7, 0, 0, 0) := gm4 87 rfl rfl
theorem ml_150 : xMLok (8, 335, 0, 60, 2, 1) := ⟨by decide, fun M y b rt h1 h2 => by cases h1; cases h2; exact ⟨gm4 88 rfl rfl, rfl, by decide +kernel, by decide⟩⟩
theorem ml_151 : xMLok (8, 338, 0, 61, 3, 1) := ⟨by decide, fun M y b rt h1 h2 => by cases h1; cases h2; exact ⟨gm4 92 rfl rfl, rfl, by decide +kernel, by decide⟩⟩
theorem ml_152 : xMLok (5, 177, 0, 60, 2, 1) := ⟨by decide, fun M y b rt h1 h2 => by cases h1; cases h2; exact ⟨gm4 96 rfl rfl, rfl, by decide +kernel, by decide⟩⟩
theorem ml_153 : xMLok (5, 180, 0, 62, 1, 0) := ⟨by decide, fun M y b rt h1 h2 => by cases h1; cases h2; exact ⟨gm4 97 rfl rfl, rfl, by decide +kernel, by decide⟩⟩
theorem ml_154 : xMLok (5, 189, 1, 297, 2, 0) := ⟨by decide, fun M y b rt h1 h2 => by cases h1; cases h2; exact ⟨gm4 101 rfl rfl, rfl, by decide +kernel, by decide⟩⟩
theorem ml_155 : xMLok (5, 183, 0, 63, 3, 0) := ⟨by decide, fun M y b rt h1 h2 => by cases h1; cases h2; exact ⟨gm4 102 rfl rfl, rfl, by decide +kernel, by decide⟩⟩
theorem ml_156 : xMLok (5, 186, 0, 44, 1, 1) := ⟨by decide, fun M y b rt h1 h2 => by cases h1; cases h2; exact ⟨gm4 106 rfl rfl, rfl, by decide +kernel, by decide⟩⟩
theorem ml_157 : xMLok (8, 341, 0, 3, 2, 0) := ⟨by decide, fun M y b rt h1 h2 => by cases h1; cases h2; exact ⟨gm4 107 rfl rfl, rfl, by decide +kernel, by decide⟩⟩
theorem ml_158 : xMLok (0, 34, 0, 4, 3, 5) := ⟨by decide, fun M y b rt h1 h2 => by cases h1; cases h2; exact ⟨gm4 111 rfl rfl, rfl, by decide +kernel, by decide⟩⟩
theorem ml_159 : xMLok (8, 210, 0, 5, 2, 0) := ⟨by decide, fun M y b rt h1 h2 => by cases h1; cases h2; exact ⟨gm4 115 rfl rfl, rfl, by decide +kernel, by decide⟩⟩
theorem ml_160 : xMLok (10, 65, 0, 111, 1, 1) := ⟨by decide, fun M y b rt h1 h2 => by cases h1; cases h2; exact ⟨gm4 119 rfl rfl, rfl, by decide +kernel, by decide⟩⟩
theorem ml_161 : xMLok (10, 69, 0, 112, 1, 1) := ⟨by decide, fun M y b rt h1 h2 => by cases h1; cases h2; exact ⟨gm4 123 rfl rfl, rfl, by decide +kernel, by decide⟩⟩
theorem ml_162 : xMLok (10, 73, 0, 113, 2, 1) := ⟨by decide, fun M y b rt h1 h2 => by cases h1; cases h2; exact ⟨gm4 127 rfl rfl, rfl, by decide +kernel, by decide⟩⟩
theorem ml_163 : xMLok (10, 77, 0, 114, 3, 1) := ⟨by decide, fun M y b rt h1 h2 => by cases h1; cases h2; exact ⟨gm4 131 rfl rfl, rfl, by decide +kernel, by decide⟩⟩
theorem ml_164 : xMLok (8, 221, 0, 143, 2, 1) := ⟨by decide, fun M y b rt h1 h2 => by cases h1; cases h2; exact ⟨gm4 135 rfl rfl, rfl, by decide +kernel, by decide⟩⟩
theorem ml_165 : xMLok (10, 81, 0, 115, 2, 1) := ⟨by decide, fun M y b rt h1 h2 => by cases h1; cases h2; exact ⟨gm4 139 rfl rfl, rfl, by decide +kernel, by decide⟩⟩
theorem ml_166 : xMLok (10, 85, 0, 116, 2, 1) := ⟨by decide, fun M y b rt h1 h2 => by cases h1; cases h2; exact ⟨gm4 143 rfl rfl, rfl, by decide +kernel, by decide⟩⟩
theorem ml_167 : xMLok (10, 89, 0, 117, 2, 1) := ⟨by decide, fun M y b rt h1 h2 => by cases h1; cases h2; exact ⟨gm4 147 rfl rfl, rfl, by decide +kernel, by decide⟩⟩
theorem ml_168 : xMLok (10, 93, 0, 118, 1, 1) := ⟨by decide, fun M y b rt h1 h2 => by cases h1; cases h2; exact ⟨gm4 151 rfl rfl, rfl, by decide +kernel, by decide⟩⟩
theorem ml_169 : xMLok (8, 224, 0, 6, 2, 1) := ⟨by decide, fun M y b rt h1 h2 => by cases h1; cases h2; exact ⟨gm4 155 rfl rfl, rfl, by decide +kernel, by decide⟩⟩
theorem ml_170 : xMLok (10, 97, 0, 119, 3, 1) := ⟨by decide, fun M y b rt h1 h2 => by cases h1; cases h2; exact ⟨gm4 159 rfl rfl, rfl, by decide +kernel, by decide⟩⟩
theorem ml_171 : xMLok (8, 228, 0, 150, 2, 1) := ⟨by decide, fun M y b rt h1 h2 => by cases h1; cases h2; exact ⟨gm4 163 rfl rfl, rfl, by decide +kernel, by decide⟩⟩
theorem ml_172 : xMLok (10, 101, 0, 120, 2, 1) := ⟨by decide, fun M y b rt h1 h2 => by cases h1; cases h2; exact ⟨gm4 167 rfl rfl, rfl, by decide +kernel, by decide⟩⟩
theorem ml_173 : xMLok (8, 231, 0, 64, 3, 1) := ⟨by decide, fun M y b rt h1 h2 => by cases h1; cases h2; exact ⟨gm4 171 rfl rfl, rfl, by decide +kernel, by decide⟩⟩
theorem ml_174 : xMLok (5, 195, 0, 46, 3, 1) := ⟨by decide, fun M y b rt h1 h2 => by cases h1; cases h2; exact ⟨gm4 175 rfl rfl, rfl, by decide +kernel, by decide⟩⟩
theorem ml_175 : xMLok (10, 105, 0, 121, 2, 1) := ⟨by decide, fun M y b rt h1 h2 => by cases h1; cases h2; exact ⟨gm4 176 rfl rfl, rfl, by decide +kernel, by decide⟩⟩
theorem ml_176 : xMLok (8, 235, 0, 65, 2, 1) := ⟨by decide, fun M y b rt h1 h2 => by cases h1; cases h2; exact ⟨gm4 180 rfl rfl, rfl, by decide +kernel, by decide⟩⟩
theorem ml_177 : xMLok (5, 198, 0, 43, 1, 1) := ⟨by decide, fun M y b rt h1 h2 => by cases h1; cases h2; exact ⟨gm4 184 rfl rfl, rfl, by decide +kernel, by decide⟩⟩
theorem ml_178 : xMLok (10, 109, 0, 122, 1, 1) := ⟨by decide, fun M y b rt h1 h2 => by cases h1; cases h2; exact ⟨gm4 185 rfl rfl, rfl, by decide +kernel, by decide⟩⟩
theorem ml_179 : xMLok (8, 238, 0, 66, 3, 1) := ⟨by decide, fun M y b rt h1 h2 => by cases h1; cases h2; exact ⟨gm4 189 rfl rfl, rfl, by decide +kernel, by decide⟩⟩
theorem ml_180 : xMLok (10, 113, 0, 123, 1, 1) := ⟨by decide, fun M y b rt h1 h2 => by cases h1; cases h2; exact ⟨gm4 193 rfl rfl, rfl, by decide +kernel, by decide⟩⟩
theorem ml_181 : xMLok (8, 241, 0, 23, 1, 1) := ⟨by decide, fun M y b rt h1 h2 => by cases h1; cases h2; exact ⟨gm4 197 rfl rfl, rfl, by decide +kernel, by decide⟩⟩
theorem ml_182 : xMLok (10, 117, 0, 124, 2, 1) := ⟨by decide, fun M y b rt h1 h2 => by cases h1; cases h2; exact ⟨gm4 198 rfl rfl, rfl, by decide +kernel, by decide⟩⟩
theorem ml_183 : xMLok (8, 244, 1, 140, 1, 1) := ⟨by decide, fun M y b rt h1 h2 => by cases h1; cases h2; exact ⟨gm4 202 rfl rfl, rfl, by decide +kernel, by decide⟩⟩
theorem ml_184 : xMLok (8, 247, 0, 53, 2, 1) := ⟨by decide, fun M y b rt h1 h2 => by cases h1; cases h2; exact ⟨gm4 203 rfl rfl, rfl, by decide +kernel, by decide⟩⟩
theorem ml_185 : xMLok (10, 121, 0, 125, 2, 1) := ⟨by decide, fun M y b rt h1 h2 => by cases h1; cases h2; exact ⟨gm4 204 rfl rfl, rfl, by decide +kernel, by decide⟩⟩
theorem ml_186 : xMLok (8, 250, 0, 67, 3, 1) := ⟨by decide, fun M y b rt h1 h2 => by cases h1; cases h2; exact ⟨gm4 208 rfl rfl, rfl, by decide +kernel, by decide⟩⟩
theorem ml_187 : xMLok (5, 201, 1, 28, 2, 1) := ⟨by decide, fun M y b rt h1 h2 => by cases h1; cases h2; exact ⟨gm4 212 rfl rfl, rfl, by decide +kernel, by decide⟩⟩
theorem ml_188 : xMLok (10, 125, 0, 126, 1, 1) := ⟨by decide, fun M y b rt h1 h2 => by cases h1; cases h2; exact ⟨gm4 213 rfl rfl, rfl, by decide +kernel, by decide⟩⟩
theorem ml_189 : xMLok (8, 254, 0, 59, 1, 1) := ⟨by decide, fun M y b rt h1 h2 => by cases h1; cases h2; exact ⟨gm4 217 rfl rfl, rfl, by decide +kernel, by decide⟩⟩
theorem ml_190 : xMLok (10, 129, 0, 127, 3, 1) := ⟨by decide, fun M y b rt h1 h2 => by cases h1; cases h2; exact ⟨gm4 221 rfl rfl, rfl, by decide +kernel, by decide⟩⟩
theorem ml_191 : xMLok (8, 260, 0, 37, 3, 1) := ⟨by decide, fun M y b rt h1 h2 => by cases h1; cases h2; exact ⟨gm4 225 rfl rfl, rfl, by decide +kernel, by decide⟩⟩
theorem ml_192 : xMLok (10, 133, 0, 128, 1, 1) := ⟨by decide, fun M y b rt h1 h2 => by cases h1; cases h2; exact ⟨gm4 229 rfl rfl, rfl, by decide +kernel, by decide⟩⟩
theorem ml_193 : xMLok (10, 137, 0, 129, 1, 1) := ⟨by decide, fun M y b rt h1 h2 => by cases h1; cases h2; exact ⟨gm4 233 rfl rfl, rfl, by decide +kernel, by decide⟩⟩
theorem ml_194 : xMLok (8, 263, 0, 38, 2, 1) := ⟨by decide, fun M y b rt h1 h2 => by cases h1; cases h2; exact ⟨gm4 237 rfl rfl, rfl, by decide +kernel, by decide⟩⟩
theorem ml_195 : xMLok (4, 34, 0, 11, 2, 1) := ⟨by decide, fun M y b rt h1 h2 => by cases h1; cases h2; exact ⟨gm5 1 rfl rfl, rfl, by decide +kernel, by decide⟩⟩
theorem ml_196 : xMLok (4, 40, 0, 39, 3, 1) := ⟨by decide, fun M y b rt h1 h2 => by cases h1; cases h2; exact ⟨gm5 2 rfl rfl, rfl, by decide +kernel, by decide⟩⟩
theorem ml_197 : xMLok (4, 44, 0, 43, 1, 1) := ⟨by decide, fun M y b rt h1 h2 => by cases h1; cases h2; exact ⟨gm5 6 rfl rfl, rfl, by decide +kernel, by decide⟩⟩
theorem ml_198 : xMLok (4, 48, 0, 300, 2, 1) := ⟨by decide, fun M y b rt h1 h2 => by cases h1; cases h2; exact ⟨gm5 7 rfl rfl, rfl, by decide +kernel, by decide⟩⟩
theorem ml_199 : xMLok (10, 141, 0, 130, 2, 1) := ⟨by decide, fun M y b rt h1 h2 => by cases h1; cases h2; exact ⟨gm5 8 rfl rfl, rfl, by decide +kernel, by decide⟩⟩
theorem ml_200 : xMLok (8, 266, 1, 294, 1, 1) := ⟨by decide, fun M y b rt h1 h2 => by cases h1; cases h2; exact ⟨gm5 12 rfl rfl, rfl, by decide +kernel, by decide⟩⟩
theorem ml_201 : xMLok (8, 271, 7, 0, 0, 0) := gm5 18 rfl rfl
theorem ml_202 : xMLok (10, 145, 0, 131, 3, 3) := ⟨by decide, fun M y b rt h1 h2 => by cases h1; cases h2; exact ⟨gm5 19 rfl rfl, rfl, by decide +kernel, by decide⟩⟩
theorem ml_203 : xMLok (8, 278, 1, 296, 2, 0) := ⟨by decide, fun M y b rt h1 h2 => by cases h1; cases h2; exact ⟨gm5 24 rfl rfl, rfl, by decide +kernel, by decide⟩⟩
theorem ml_204 : xMLok (8, 283, 0, 151, 2, 0) := ⟨by decide, fun M y b rt h1 h2 => by cases h1; cases h2; exact ⟨gm5 28 rfl rfl, rfl, by decide +kernel, by decide⟩⟩
theorem ml_205 : xMLok (10, 150, 0, 132, 3, 1) := ⟨by decide, fun M y b rt h1 h2 => by cases h1; cases h2; exact ⟨gm5 33 rfl rfl, rfl, by decide +kernel, by decide⟩⟩
theorem ml_206 : xMLok (8, 286, 0, 33, 4, 1) := ⟨by decide, fun M y b rt h1 h2 => by cases h1; cases h2; exact ⟨gm5 37 rfl rfl, rfl, by decide +kernel, by decide⟩⟩
theorem ml_207 : xMLok (10, 154, 0, 133, 3, 1) := ⟨by decide, fun M y b rt h1 h2 => by cases h1; cases h2; exact ⟨gm5 38 rfl rfl, rfl, by decide +kernel, by decide⟩⟩
theorem ml_208 : xMLok (8, 291, 1, 152, 1, 1) := ⟨by decide, fun M y b rt h1 h2 => by cases h1; cases h2; exact ⟨gm5 43 rfl rfl, rfl, by decide +kernel, by decide⟩⟩
theorem ml_209 : xMLok (8, 294, 0, 153, 4, 0) := ⟨by decide, fun M y b rt h1 h2 => by cases h1; cases h2; exact ⟨gm5 49 rfl rfl, rfl, by decide +kernel, by decide⟩⟩
theorem ml_210 : xMLok (8, 372, 8, 0, 0, 0) := gm5 53 rfl rfl
theorem ml_211 : xMLok (10, 158, 0, 134, 2, 1) := ⟨by decide, fun M y b rt h1 h2 => by cases h1; cases h2; exact ⟨gm5 54 rfl rfl, rfl, by decide +kernel, by decide⟩⟩
theorem ml_212 : xMLok (10, 162, 0, 135, 2, 1) := ⟨by decide, fun M y b rt h1 h2 => by cases h1; cases h2; exact ⟨gm5 58 rfl rfl, rfl, by decide +kernel, by decide⟩⟩
theorem ml_213 : xMLok (8, 298, 5, 7, 1, 0) := ⟨by decide, fun M y b rt h1 h2 => by cases h1; cases h2; exact ⟨List.mem_of_getElem? (i := 10) rfl, rfl, by decide +kernel, by decide⟩⟩
theorem ml_214 : xMLok (1, 1, 6, 0, 0, 0) := gm5 66 rfl rfl
theorem ml_215 : xMLok (1, 9, 5, 40, 1, 0) := ⟨by decide, fun M y b rt h1 h2 => by cases h1; cases h2; exact ⟨List.mem_of_getElem? (i := 11) rfl, rfl, by decide +kernel, by decide⟩⟩
theorem ml_216 : xMLok (1, 18, 5, 26, 1, 0) := ⟨by decide, fun M y b rt h1 h2 => by cases h1; cases h2; exact ⟨List.mem_of_getElem? (i := 12) rfl, rfl, by decide +kernel, by decide⟩⟩
theorem ml_217 : xMLok (1, 25, 5, 35, 1, 0) := ⟨by decide, fun M y b rt h1 h2 => by cases h1; cases h2; exact ⟨List.mem_of_getElem? (i := 13) rfl, rfl, by decide +kernel, by decide⟩⟩
theorem ml_218 : xMLok (8, 303, 0, 27, 2, 0) := ⟨by decide, fun M y b rt h1 h2 => by cases h1; cases h2; exact ⟨gm5 86 rfl rfl, rfl, by decide +kernel, by decide⟩⟩
theorem ml_219 : xMLok (8, 307, 0, 36, 2, 0) := ⟨by decide, fun M y b rt h1 h2 => by cases h1; cases h2; exact ⟨gm5 90 rfl rfl, rfl, by decide +kernel, by decide⟩⟩
theorem ml_220 : xMLok (4, 22, 9, 0, 0, 0) := gm5 94 rfl rfl
theorem ml_221 : xMLok (10, 166, 0, 136, 2, 1) := ⟨by decide, fun M y b rt h1 h2 => by cases h1; cases h2; exact ⟨gm5 95 rfl rfl, rfl, by decide +kernel, by decide⟩⟩
theorem ml_222 : xMLok (10, 170, 0, 137, 2, 1) := ⟨by decide, fun M y b rt h1 h2 => by cases h1; cases h2; exact ⟨gm5 99 rfl rfl, rfl, by decide +kernel, by decide⟩⟩
theorem ml_223 : xMLok (10, 174, 0, 138, 1, 1) := ⟨by decide, fun M y b rt h1 h2 => by cases h1; cases h2; exact ⟨gm5 103 rfl rfl, rfl, by decide +kernel, by decide⟩⟩
theorem ml_224 : xMLok (10, 12, 2, 164, 1, 0) := ⟨by decide, fun M y b rt h1 h2 => by cases h1; cases h2; exact ⟨gm5 109 rfl rfl, rfl, by decide +kernel, by decide⟩⟩
theorem ml_225 : xMLok (9, 22, 6, 0, 0, 0) := gm5 112 rfl rfl
theorem ml_226 : xMLok (10, 165, 0, 167, 2, 1) := ⟨by decide, fun M y b rt h1 h2 => by cases h1; cases h2; exact ⟨gm6 13 rfl rfl, rfl, by decide +kernel, by decide⟩⟩
theorem ml_227 : xMLok (9, 18, 1, 154, 3, 1) := ⟨by decide, fun M y b rt h1 h2 => by cases h1; cases h2; exact ⟨gm6 17 rfl rfl, rfl, by decide +kernel, by decide⟩⟩
theorem ml_228 : xMLok (9, 94, 0, 157, 2, 1) := ⟨by decide, fun M y b rt h1 h2 => by cases h1; cases h2; exact ⟨gm6 20 rfl rfl, rfl, by decide +kernel, by decide⟩⟩
theorem ml_229 : xMLok (9, 14, 0, 158, 2, 1) := ⟨by decide, fun M y b rt h1 h2 => by cases h1; cases h2; exact ⟨gm6 24 rfl rfl, rfl, by decide +kernel, by decide⟩⟩
theorem ml_230 : xMLok (10, 169, 0, 168, 2, 1) := ⟨by decide, fun M y b rt h1 h2 => by cases h1; cases h2; exact ⟨gm6 28 rfl rfl, rfl, by decide +kernel, by decide⟩⟩
theorem ml_231 : xMLok (9, 97, 0, 159, 2, 1) := ⟨by decide, fun M y b rt h1 h2 => by cases h1; cases h2; exact ⟨gm6 32 rfl rfl, rfl, by decide +kernel, by decide⟩⟩
theorem ml_232 : xMLok (10, 17, 0, 180, 3, 1) := ⟨by decide, fun M y b rt h1 h2 => by cases h1; cases h2; exact ⟨gm6 36 rfl rfl, rfl, by decide +kernel, by decide⟩⟩
theorem ml_233 : xMLok (9, 123, 1, 162, 1, 1) := ⟨by decide, fun M y b rt h1 h2 => by cases h1; cases h2; exact ⟨gm6 40 rfl rfl, rfl, by decide +kernel, by decide⟩⟩
theorem ml_234 : xMLok (9, 100, 1, 169, 2, 1) := ⟨by decide, fun M y b rt h1 h2 => by cases h1; cases h2; exact ⟨gm6 43 rfl rfl, rfl, by decide +kernel, by decide⟩⟩
theorem ml_235 : xMLok (9, 126, 0, 179, 3, 1) := ⟨by decide, fun M y b rt h1 h2 => by cases h1; cases h2; exact ⟨gm6 46 rfl rfl, rfl, by decide +kernel, by decide⟩⟩
theorem ml_236 : xMLok (10, 21, 0, 181, 3, 1) := ⟨by decide, fun M y b rt h1 h2 => by cases h1; cases h2; exact ⟨gm6 50 rfl rfl, rfl, by decide +kernel, by decide⟩⟩
theorem ml_237 : xMLok (10, 25, 0, 183, 3, 1) := ⟨by decide, fun M y b rt h1 h2 => by cases h1; cases h2; exact ⟨gm6 54 rfl rfl, rfl, by decide +kernel, by decide⟩⟩
theorem ml_238 : xMLok (9, 129, 1, 182, 1, 1) := ⟨by decide, fun M y b rt h1 h2 => by cases h1; cases h2; exact ⟨gm6 58 rfl rfl, rfl, by decide +kernel, by decide⟩⟩
theorem ml_239 : xMLok (10, 30, 0, 184, 2, 1) := ⟨by decide, fun M y b rt h1 h2 => by cases h1; cases h2; exact ⟨gm6 61 rfl rfl, rfl, by decide +kernel, by decide⟩⟩
theorem ml_240 : xMLok (9, 114, 0, 175, 2, 1) := ⟨by decide, fun M y b rt h1 h2 => by cases h1; cases h2; exact ⟨gm6 65 rfl rfl, rfl, by decide +kernel, by decide⟩⟩
theorem ml_241 : xMLok (9, 104, 0, 170, 2, 1) := ⟨by decide, fun M y b rt h1 h2 => by cases h1; cases h2; exact ⟨gm6 69 rfl rfl, rfl, by decide +kernel, by decide⟩⟩
theorem ml_242 : xMLok (9, 108, 1, 173, 2, 1) := ⟨by decide, fun M y b rt h1 h2 => by cases h1; cases h2; exact ⟨gm6 73 rfl rfl, rfl, by decide +kernel, by decide⟩⟩
theorem ml_243 : xMLok (10, 34, 0, 185, 3, 1) := ⟨by decide, fun M y b rt h1 h2 => by cases h1; cases h2; exact ⟨gm6 76 rfl rfl, rfl, by decide +kernel, by decide⟩⟩
theorem ml_244 : xMLok (9, 132, 1, 163, 1, 1) := ⟨by decide, fun M y b rt h1 h2 => by cases h1; cases h2; exact ⟨gm6 80 rfl rfl, rfl, by decide +kernel, by decide⟩⟩
theorem ml_245 : xMLok (9, 111, 0, 174, 2, 1) := ⟨by decide, fun M y b rt h1 h2 => by cases h1; cases h2; exact ⟨gm6 83 rfl rfl, rfl, by decide +kernel, by decide⟩⟩
theorem ml_246 : xMLok (9, 135, 0, 178, 2, 1) := ⟨by decide, fun M y b rt h1 h2 => by cases h1; cases h2; exact ⟨gm6 87 rfl rfl, rfl, by decide +kernel, by decide⟩⟩
theorem ml_247 : xMLok (9, 120, 0, 177, 2, 1) := ⟨by decide, fun M y b rt h1 h2 => by cases h1; cases h2; exact ⟨gm6 91 rfl rfl, rfl, by decide +kernel, by decide⟩⟩
theorem ml_248 : xMLok (9, 117, 0, 176, 2, 1) := ⟨by decide, fun M y b rt h1 h2 => by cases h1; cases h2; exact ⟨gm6 95 rfl rfl, rfl, by decide +kernel, by decide⟩⟩
theorem ml_249 : xMLok (9, 138, 0, 234, 2, 1) := ⟨by decide, fun M y b rt h1 h2 => by cases h1; cases h2; exact ⟨gm6 99 rfl rfl, rfl, by decide +kernel, by decide⟩⟩
theorem ml_250 : xMLok (9, 320, 0, 231, 4, 0) := ⟨by decide, fun M y b rt h1 h2 => by cases h1; cases h2; exact ⟨gm6 103 rfl rfl, rfl, by decide +kernel, by decide⟩⟩
theorem ml_251 : xMLok (9, 324, 0, 232, 3, 1) := ⟨by decide, fun M y b rt h1 h2 => by cases h1; cases h2; exact ⟨gm6 107 rfl rfl, rfl, by decide +kernel, by decide⟩⟩
theorem ml_252 : xMLok (9, 267, 0, 220, 2, 1) := ⟨by decide, fun M y b rt h1 h2 => by cases h1; cases h2; exact ⟨gm6 111 rfl rfl, rfl, by decide +kernel, by decide⟩⟩
theorem ml_253 : xMLok (9, 291, 0, 223, 2, 3) := ⟨by decide, fun M y b rt h1 h2 => by cases h1; cases h2; exact ⟨gm6 115 rfl rfl, rfl, by decide +kernel, by decide⟩⟩
theorem ml_254 : xMLok (9, 277, 0, 224, 2, 3) := ⟨by decide, fun M y b rt h1 h2 => by cases h1; cases h2; exact ⟨gm6 119 rfl rfl, rfl, by decide +kernel, by decide⟩⟩
theorem ml_255 : xMLok (9, 285, 0, 225, 2, 3) := ⟨by decide, fun M y b rt h1 h2 => by cases h1; cases h2; exact ⟨gm6 123 rfl rfl, rfl, by decide +kernel, by decide⟩⟩
theorem ml_256 : xMLok (9, 223, 1, 202, 1, 1) := ⟨by decide, fun M y b rt h1 h2 => by cases h1; cases h2; exact ⟨gm6 127 rfl rfl, rfl, by decide +kernel, by decide⟩⟩
theorem ml_257 : xMLok (9, 288, 0, 221, 2, 1) := ⟨by decide, fun M y b rt h1 h2 => by cases h1; cases h2; exact ⟨gm6 130 rfl rfl, rfl, by decide +kernel, by decide⟩⟩
theorem ml_258 : xMLok (9, 297, 0, 226, 3, 1) := ⟨by decide, fun M y b rt h1 h2 => by cases h1; cases h2; exact ⟨gm6 134 rfl rfl, rfl, by decide +kernel, by decide⟩⟩
theorem ml_259 : xMLok (9, 145, 0, 172, 1, 1) := ⟨by decide, fun M y b rt h1 h2 => by cases h1; cases h2; exact ⟨gm6 138 rfl rfl, rfl, by decide +kernel, by decide⟩⟩
theorem ml_260 : xMLok (9, 281, 0, 222, 3, 3) := ⟨by decide, fun M y b rt h1 h2 => by cases h1; cases h2; exact ⟨gm6 142 rfl rfl, rfl, by decide +kernel, by decide⟩⟩
theorem ml_261 : xMLok (9, 315, 0, 227, 2, 1) := ⟨by decide, fun M y b rt h1 h2 => by cases h1; cases h2; exact ⟨gm6 148 rfl rfl, rfl, by decide +kernel, by decide⟩⟩
theorem ml_262 : xMLok (9, 306, 0, 228, 2, 1) := ⟨by decide, fun M y b rt h1 h2 => by cases h1; cases h2; exact ⟨gm6 152 rfl rfl, rfl, by decide +kernel, by decide⟩⟩
theorem ml_263 : xMLok (9, 309, 0, 229, 2, 1) := ⟨by decide, fun M y b rt h1 h2 => by cases h1; cases h2; exact ⟨gm6 156 rfl rfl, rfl, by decide +kernel, by decide⟩⟩
theorem ml_264 : xMLok (9, 312, 0, 230, 2, 1) := ⟨by decide, fun M y b rt h1 h2 => by cases h1; cases h2; exact ⟨gm6 160 rfl rfl, rfl, by decide +kernel, by decide⟩⟩
theorem ml_265 : xMLok (10, 38, 0, 188, 3, 1) := ⟨by decide, fun M y b rt h1 h2 => by cases h1; cases h2; exact ⟨gm6 165 rfl rfl, rfl, by decide +kernel, by decide⟩⟩
theorem ml_266 : xMLok (9, 141, 1, 186, 2, 1) := ⟨by decide, fun M y b rt h1 h2 => by cases h1; cases h2; exact ⟨gm6 169 rfl rfl, rfl, by decide +kernel, by decide⟩⟩
theorem ml_267 : xMLok (9, 149, 1, 187, 1, 1) := ⟨by decide, fun M y b rt h1 h2 => by cases h1; cases h2; exact ⟨gm6 172 rfl rfl, rfl, by decide +kernel, by decide⟩⟩
theorem ml_268 : xMLok (10, 52, 0, 189, 1, 1) := ⟨by decide, fun M y b rt h1 h2 => by cases h1; cases h2; exact ⟨gm6 175 rfl rfl, rfl, by decide +kernel, by decide⟩⟩
theorem ml_269 : xMLok (9, 158, 0, 243, 3, 1) := ⟨by decide, fun M y b rt h1 h2 => by cases h1; cases h2; exact ⟨gm6 179 rfl rfl, rfl, by decide +kernel, by decide⟩⟩
theorem ml_270 : xMLok (9, 351, 0, 237, 2, 0) := ⟨by decide, fun M y b rt h1 h2 => by cases h1; cases h2; exact ⟨gm6 183 rfl rfl, rfl, by decide +kernel, by decide⟩⟩
theorem ml_271 : xMLok (9, 330, 0, 236, 1, 0) := ⟨by decide, fun M y b rt h1 h2 => by cases h1; cases h2; exact ⟨gm6 187 rfl rfl, rfl, by decide +kernel, by decide⟩⟩
theorem ml_272 : xMLok (9, 327, 0, 235, 3, 0) := ⟨by decide, fun M y b rt h1 h2 => by cases h1; cases h2; exact ⟨gm6 191 rfl rfl, rfl, by decide +kernel, by decide⟩⟩
theorem ml_273 : xMLok (9, 333, 0, 233, 2, 1) := ⟨by decide, fun M y b rt h1 h2 => by cases h1; cases h2; exact ⟨gm6 195 rfl rfl, rfl, by decide +kernel, by decide⟩⟩
theorem ml_274 : xMLok (9, 336, 1, 155, 2, 1) := ⟨by decide, fun M y b rt h1 h2 => by cases h1; cases h2; exact ⟨gm6 199 rfl rfl, rfl, by decide +kernel, by decide⟩⟩
theorem ml_275 : xMLok (9, 357, 0, 165, 2, 0) := ⟨by decide, fun M y b rt h1 h2 => by cases h1; cases h2; exact ⟨gm6 202 rfl rfl, rfl, by decide +kernel, by decide⟩⟩
theorem ml_276 : xMLok (9, 360, 0, 242, 3, 1) := ⟨by decide, fun M y b rt h1 h2 => by cases h1; cases h2; exact ⟨gm6 206 rfl rfl, rfl, by decide +kernel, by decide⟩⟩
theorem ml_277 : xMLok (9, 354, 0, 241, 2, 1) := ⟨by decide, fun M y b rt h1 h2 => by cases h1; cases h2; exact ⟨gm6 210 rfl rfl, rfl, by decide +kernel, by decide⟩⟩
theorem ml_278 : xMLok (9, 339, 0, 240, 1, 1) := ⟨by decide, fun M y b rt h1 h2 => by cases h1; cases h2; exact ⟨gm6 214 rfl rfl, rfl, by decide +kernel, by decide⟩⟩
theorem ml_279 : xMLok (9, 342, 1, 160, 2, 1) := ⟨by decide, fun M y b rt h1 h2 => by cases h1; cases h2; exact ⟨gm6 218 rfl rfl, rfl, by decide +kernel, by decide⟩⟩
theorem ml_280 : xMLok (9, 345, 0, 238, 4, 0) := ⟨by decide, fun M y b rt h1 h2 => by cases h1; cases h2; exact ⟨gm6 221 rfl rfl, rfl, by decide +kernel, by decide⟩⟩
theorem ml_281 : xMLok (9, 348, 0, 239, 3, 0) := ⟨by decide, fun M y b rt h1 h2 => by cases h1; cases h2; exact ⟨gm6 225 rfl rfl, rfl, by decide +kernel, by decide⟩⟩
theorem ml_282 : xMLok (9, 363, 0, 166, 2, 0) := ⟨by decide, fun M y b rt h1 h2 => by cases h1; cases h2; exact ⟨gm6 229 rfl rfl, rfl, by decide +kernel, by decide⟩⟩
theorem ml_283 : xMLok (10, 56, 0, 190, 1, 1) := ⟨by decide, fun M y b rt h1 h2 => by cases h1; cases h2; exact ⟨gm6 233 rfl rfl, rfl, by decide +kernel, by decide⟩⟩
theorem ml_284 : xMLok (10, 43, 0, 191, 6, 1) := ⟨by decide, fun M y b rt h1 h2 => by cases h1; cases h2; exact ⟨gm6 237 rfl rfl, rfl, by decide +kernel, by decide⟩⟩
theorem ml_285 : xMLok (10, 47, 0, 192, 2, 1) := ⟨by decide, fun M y b rt h1 h2 => by cases h1; cases h2; exact ⟨gm7 1 rfl rfl, rfl, by decide +kernel, by decide⟩⟩
theorem ml_286 : xMLok (10, 60, 0, 216, 1, 1) := ⟨by decide, fun M y b rt h1 h2 => by cases h1; cases h2; exact ⟨gm7 5 rfl rfl, rfl, by decide +kernel, by decide⟩⟩
theorem ml_287 : xMLok (9, 251, 0, 214, 2, 1) := ⟨by decide, fun M y b rt h1 h2 => by cases h1; cases h2; exact ⟨gm7 9 rfl rfl, rfl, by decide +kernel, by decide⟩⟩
theorem ml_288 : xMLok (9, 248, 0, 213, 1, 1) := ⟨by decide, fun M y b rt h1 h2 => by cases h1; cases h2; exact ⟨gm7 13 rfl rfl, rfl, by decide +kernel, by decide⟩⟩
theorem ml_289 : xMLok (9, 242, 0, 196, 2, 0) := ⟨by decide, fun M y b rt h1 h2 => by cases h1; cases h2; exact ⟨gm7 17 rfl rfl, rfl, by decide +kernel, by decide⟩⟩
theorem ml_290 : xMLok (9, 164, 1, 193, 1, 1) := ⟨by decide, fun M y b rt h1 h2 => by cases h1; cases h2; exact ⟨gm7 21 rfl rfl, rfl, by decide +kernel, by decide⟩⟩
theorem ml_291 : xMLok (9, 167, 1, 194, 1, 1) := ⟨by decide, fun M y b rt h1 h2 => by cases h1; cases h2; exact ⟨gm7 24 rfl rfl, rfl, by decide +kernel, by decide⟩⟩
theorem ml_292 : xMLok (9, 170, 0, 195, 3, 1) := ⟨by decide, fun M y b rt h1 h2 => by cases h1; cases h2; exact ⟨gm7 27 rfl rfl, rfl, by decide +kernel, by decide⟩⟩
theorem ml_293 : xMLok (9, 245, 0, 206, 1, 0) := ⟨by decide, fun M y b rt h1 h2 => by cases h1; cases h2; exact ⟨gm7 32 rfl rfl, rfl, by decide +kernel, by decide⟩⟩
theorem ml_294 : xMLok (9, 211, 0, 205, 1, 0) := ⟨by decide, fun M y b rt h1 h2 => by cases h1; cases h2; exact ⟨gm7 36 rfl rfl, rfl, by decide +kernel, by decide⟩⟩
theorem ml_295 : xMLok (9, 184, 0, 199, 2, 1) := ⟨by decide, fun M y b rt h1 h2 => by cases h1; cases h2; exact ⟨gm7 40 rfl rfl, rfl, by decide +kernel, by decide⟩⟩
theorem ml_296 : xMLok (9, 177, 0, 197, 1, 1) := ⟨by decide, fun M y b rt h1 h2 => by cases h1; cases h2; exact ⟨gm7 44 rfl rfl, rfl, by decide +kernel, by decide⟩⟩
theorem ml_297 : xMLok (9, 193, 0, 210, 2, 0) := ⟨by decide, fun M y b rt h1 h2 => by cases h1; cases h2; exact ⟨gm7 48 rfl rfl, rfl, by decide +kernel, by decide⟩⟩
theorem ml_298 : xMLok (9, 227, 0, 211, 2, 0) := ⟨by decide, fun M y b rt h1 h2 => by cases h1; cases h2; exact ⟨gm7 52 rfl rfl, rfl, by decide +kernel, by decide⟩⟩
theorem ml_299 : xMLok (9, 230, 0, 212, 2, 0) := ⟨by decide, fun M y b rt h1 h2 => by cases h1; cases h2; exact ⟨gm7 56 rfl rfl, rfl, by decide +kernel, by decide⟩⟩
theorem ml_300 : xMLok (9, 187, 0, 198, 1, 0) := ⟨by decide, fun M y b rt h1 h2 => by cases h1; cases h2; exact ⟨gm7 60 rfl rfl, rfl, by decide +kernel, by decide⟩⟩
theorem ml_301 : xMLok (9, 197, 0, 200, 2, 0) := ⟨by decide, fun M y b rt h1 h2 => by cases h1; cases h2; exact ⟨gm7 64 rfl rfl, rfl, by decide +kernel, by decide⟩⟩
theorem ml_302 : xMLok (9, 239, 0, 201, 1, 0) := ⟨by decide, fun M y b rt h1 h2 => by cases h1; cases h2; exact ⟨gm7 68 rfl rfl, rfl, by decide +kernel, by decide⟩⟩
theorem ml_303 : xMLok (9, 203, 0, 203, 3, 0) := ⟨by decide, fun M y b rt h1 h2 => by cases h1; cases h2; exact ⟨gm7 72 rfl rfl, rfl, by decide +kernel, by decide⟩⟩
theorem ml_304 : xMLok (9, 200, 0, 207, 2, 0) := ⟨by decide, fun M y b rt h1 h2 => by cases h1; cases h2; exact ⟨gm7 76 rfl rfl, rfl, by decide +kernel, by decide⟩⟩
theorem ml_305 : xMLok (9, 217, 0, 208, 2, 0) := ⟨by decide, fun M y b rt h1 h2 => by cases h1; cases h2; exact ⟨gm7 80 rfl rfl, rfl, by decide +kernel, by decide⟩⟩
theorem ml_306 : xMLok (9, 220, 0, 209, 2, 0) := ⟨by decide, fun M y b rt h1 h2 => by cases h1; cases h2; exact ⟨gm7 84 rfl rfl, rfl, by decide +kernel, by decide⟩⟩
theorem ml_307 : xMLok (9, 214, 0, 204, 1, 0) := ⟨by decide, fun M y b rt h1 h2 => by cases h1; cases h2; exact ⟨gm7 88 rfl rfl, rfl, by decide +kernel, by decide⟩⟩
theorem ml_308 : xMLok (9, 255, 0, 215, 2, 0) := ⟨by decide, fun M y b rt h1 h2 => by cases h1; cases h2; exact ⟨gm7 92 rfl rfl, rfl, by decide +kernel, by decide⟩⟩
theorem ml_309 : xMLok (10, 68, 0, 217, 1, 1) := ⟨by decide, fun M y b rt h1 h2 => by cases h1; cases h2; exact ⟨gm7 96 rfl rfl, rfl, by decide +kernel, by decide⟩⟩
theorem ml_310 : xMLok (10, 76, 0, 219, 2, 1) := ⟨by decide, fun M y b rt h1 h2 => by cases h1; cases h2; exact ⟨gm7 100 rfl rfl, rfl, by decide +kernel, by decide⟩⟩
theorem ml_311 : xMLok (9, 258, 0, 218, 2, 1) := ⟨by decide, fun M y b rt h1 h2 => by cases h1; cases h2; exact ⟨gm7 104 rfl rfl, rfl, by decide +kernel, by decide⟩⟩
theorem ml_312 : xMLok (10, 96, 0, 253, 1, 1) := ⟨by decide, fun M y b rt h1 h2 => by cases h1; cases h2; exact ⟨gm7 108 rfl rfl, rfl, by decide +kernel, by decide⟩⟩
theorem ml_313 : xMLok (10, 80, 0, 260, 3, 1) := ⟨by decide, fun M y b rt h1 h2 => by cases h1; cases h2; exact ⟨gm7 112 rfl rfl, rfl, by decide +kernel, by decide⟩⟩
theorem ml_314 : xMLok (9, 399, 0, 256, 3, 1) := ⟨by decide, fun M y b rt h1 h2 => by cases h1; cases h2; exact ⟨gm7 116 rfl rfl, rfl, by decide +kernel, by decide⟩⟩
theorem ml_315 : xMLok (9, 390, 0, 255, 3, 1) := ⟨by decide, fun M y b rt h1 h2 => by cases h1; cases h2; exact ⟨gm7 120 rfl rfl, rfl, by decide +kernel, by decide⟩⟩
theorem ml_316 : xMLok (9, 387, 0, 252, 2, 0) := ⟨by decide, fun M y b rt h1 h2 => by cases h1; cases h2; exact ⟨gm7 124 rfl rfl, rfl, by decide +kernel, by decide⟩⟩
theorem ml_317 : xMLok (9, 402, 0, 254, 2, 1) := ⟨by decide, fun M y b rt h1 h2 => by cases h1; cases h2; exact ⟨gm7 128 rfl rfl, rfl, by decide +kernel, by decide⟩⟩
theorem ml_318 : xMLok (10, 84, 0, 261, 2, 1) := ⟨by decide, fun M y b rt h1 h2 => by cases h1; cases h2; exact ⟨gm7 132 rfl rfl, rfl, by decide +kernel, by decide⟩⟩
theorem ml_319 : xMLok (9, 405, 0, 257, 2, 1) := ⟨by decide, fun M y b rt h1 h2 => by cases h1; cases h2; exact ⟨gm7 136 rfl rfl, rfl, by decide +kernel, by decide⟩⟩
theorem ml_320 : xMLok (9, 393, 0, 248, 2, 1) := ⟨by decide, fun M y b rt h1 h2 => by cases h1; cases h2; exact ⟨gm7 140 rfl rfl, rfl, by decide +kernel, by decide⟩⟩
theorem ml_321 : xMLok (9, 372, 0, 245, 2, 1) := ⟨by decide, fun M y b rt h1 h2 => by cases h1; cases h2; exact ⟨gm7 144 rfl rfl, rfl, by decide +kernel, by decide⟩⟩
theorem ml_322 : xMLok (9, 366, 0, 244, 2, 1) := ⟨by decide, fun M y b rt h1 h2 => by cases h1; cases h2; exact ⟨gm7 148 rfl rfl, rfl, by decide +kernel, by decide⟩⟩
theorem ml_323 : xMLok (9, 375, 0, 246, 2, 1) := ⟨by decide, fun M y b rt h1 h2 => by cases h1; cases h2; exact ⟨gm7 152 rfl rfl, rfl, by decide +kernel, by decide⟩⟩
theorem ml_324 : xMLok (9, 378, 0, 247, 1, 1) := ⟨by decide, fun M y b rt h1 h2 => by cases h1; cases h2; exact ⟨gm7 156 rfl rfl, rfl, by decide +kernel, by decide⟩⟩
theorem ml_325 : xMLok (9, 369, 1, 156, 2, 1) := ⟨by decide, fun M y b rt h1 h2 => by cases h1; cases h2; exact ⟨gm7 160 rfl rfl, rfl, by decide +kernel, by decide⟩⟩
theorem ml_326 : xMLok (10, 88, 0, 262, 2, 1) := ⟨by decide, fun M y b rt h1 h2 => by cases h1; cases h2; exact ⟨gm7 163 rfl rfl, rfl, by decide +kernel, by decide⟩⟩
theorem ml_327 : xMLok (9, 408, 0, 258, 2, 1) := ⟨by decide, fun M y b rt h1 h2 => by cases h1; cases h2; exact ⟨gm7 167 rfl rfl, rfl, by decide +kernel, by decide⟩⟩
theorem ml_328 : xMLok (10, 92, 0, 263, 2, 1) := ⟨by decide, fun M y b rt h1 h2 => by cases h1; cases h2; exact ⟨gm7 171 rfl rfl, rfl, by decide +kernel, by decide⟩⟩
theorem ml_329 : xMLok (9, 411, 0, 259, 2, 1) := ⟨by decide, fun M y b rt h1 h2 => by cases h1; cases h2; exact ⟨gm7 175 rfl rfl, rfl, by decide +kernel, by decide⟩⟩
theorem ml_330 : xMLok (9, 396, 0, 251, 2, 0) := ⟨by decide, fun M y b rt h1 h2 => by cases h1; cases h2; exact ⟨gm7 179 rfl rfl, rfl, by decide +kernel, by decide⟩⟩
theorem ml_331 : xMLok (9, 381, 0, 249, 2, 1) := ⟨by decide, fun M y b rt h1 h2 => by cases h1; cases h2; exact ⟨gm7 183 rfl rfl, rfl, by decide +kernel, by decide⟩⟩
theorem ml_332 : xMLok (9, 384, 0, 250, 3, 0) := ⟨by decide, fun M y b rt h1 h2 => by cases h1; cases h2; exact ⟨gm7 187 rfl rfl, rfl, by decide +kernel, by decide⟩⟩
theorem ml_333 : xMLok (10, 100, 0, 264, 3, 1) := ⟨by decide, fun M y b rt h1 h2 => by cases h1; cases h2; exact ⟨gm7 191 rfl rfl, rfl, by decide +kernel, by decide⟩⟩
theorem ml_334 : xMLok (10, 104, 0, 265, 2, 1) := ⟨by decide, fun M y b rt h1 h2 => by cases h1; cases h2; exact ⟨gm7 195 rfl rfl, rfl, by decide +kernel, by decide⟩⟩
theorem ml_335 : xMLok (10, 108, 0, 266, 2, 1) := ⟨by decide, fun M y b rt h1 h2 => by cases h1; cases h2; exact ⟨gm7 199 rfl rfl, rfl, by decide +kernel, by decide⟩⟩
theorem ml_336 : xMLok (9, 414, 0, 184, 2, 1) := ⟨by decide, fun M y b rt h1 h2 => by cases h1; cases h2; exact ⟨gm7 203 rfl rfl, rfl, by decide +kernel, by decide⟩⟩
theorem ml_337 : xMLok (10, 112, 0, 268, 1, 1) := ⟨by decide, fun M y b rt h1 h2 => by cases h1; cases h2; exact ⟨gm7 204 rfl rfl, rfl, by decide +kernel, by decide⟩⟩
theorem ml_338 : xMLok (9, 417, 0, 267, 2, 1) := ⟨by decide, fun M y b rt h1 h2 => by cases h1; cases h2; exact ⟨gm7 208 rfl rfl, rfl, by decide +kernel, by decide⟩⟩
theorem ml_339 : xMLok (10, 116, 0, 269, 1, 1) := ⟨by decide, fun M y b rt h1 h2 => by cases h1; cases h2; exact ⟨gm7 212 rfl rfl, rfl, by decide +kernel, by decide⟩⟩
theorem ml_340 : xMLok (9, 420, 0, 171, 1, 1) := ⟨by decide, fun M y b rt h1 h2 => by cases h1; cases h2; exact ⟨gm7 216 rfl rfl, rfl, by decide +kernel, by decide⟩⟩
theorem ml_341 : xMLok (10, 120, 0, 270, 2, 1) := ⟨by decide, fun M y b rt h1 h2 => by cases h1; cases h2; exact ⟨gm7 220 rfl rfl, rfl, by decide +kernel, by decide⟩⟩
theorem ml_342 : xMLok (10, 124, 0, 273, 2, 1) := ⟨by decide, fun M y b rt h1 h2 => by cases h1; cases h2; exact ⟨gm7 224 rfl rfl, rfl, by decide +kernel, by decide⟩⟩
theorem ml_343 : xMLok (9, 426, 0, 272, 2, 1) := ⟨by decide, fun M y b rt h1 h2 => by cases h1; cases h2; exact ⟨gm7 228 rfl rfl, rfl, by decide +kernel, by decide⟩⟩
theorem ml_344 : xMLok (9, 423, 0, 271, 1, 0) := ⟨by decide, fun M y b rt h1 h2 => by cases h1; cases h2; exact ⟨gm7 232 rfl rfl, rfl, by decide +kernel, by decide⟩⟩
theorem ml_345 : xMLok (10, 128, 0, 274, 1, 1) := ⟨by decide, fun M y b rt h1 h2 => by cases h1; cases h2; exact ⟨gm7 236 rfl rfl, rfl, by decide +kernel, by decide⟩⟩
theorem ml_346 : xMLok (10, 132, 0, 275, 3, 1) := ⟨by decide, fun M y b rt h1 h2 => by cases h1; cases h2; exact ⟨gm8 0 rfl rfl, rfl, by decide +kernel, by decide⟩⟩
theorem ml_347 : xMLok (10, 136, 0, 276, 1, 1) := ⟨by decide, fun M y b rt h1 h2 => by cases h1; cases h2; exact ⟨gm8 4 rfl rfl, rfl, by decide +kernel, by decide⟩⟩
theorem ml_348 : xMLok (10, 140, 0, 278, 1, 1) := ⟨by decide, fun M y b rt h1 h2 => by cases h1; cases h2; exact ⟨gm8 8 rfl rfl, rfl, by decide +kernel, by decide⟩⟩
theorem ml_349 : xMLok (9, 429, 0, 277, 2, 1) := ⟨by decide, fun M y b rt h1 h2 => by cases h1; cases h2; exact ⟨gm8 12 rfl rfl, rfl, by decide +kernel, by decide⟩⟩
theorem ml_350 : xMLok (10, 144, 0, 279, 2, 1) := ⟨by decide, fun M y b rt h1 h2 => by cases h1; cases h2; exact ⟨gm8 16 rfl rfl, rfl, by decide +kernel, by decide⟩⟩
theorem ml_351 : xMLok (9, 432, 0, 278, 1, 1) := ⟨by decide, fun M y b rt h1 h2 => by cases h1; cases h2; exact ⟨gm8 20 rfl rfl, rfl, by decide +kernel, by decide⟩⟩
theorem ml_352 : xMLok (9, 435, 1, 161, 1, 1) := ⟨by decide, fun M y b rt h1 h2 => by cases h1; cases h2; exact ⟨gm8 21 rfl rfl, rfl, by decide +kernel, by decide⟩⟩
theorem ml_353 : xMLok (10, 149, 0, 280, 3, 3) := ⟨by decide, fun M y b rt h1 h2 => by cases h1; cases h2; exact ⟨gm8 24 rfl rfl, rfl, by decide +kernel, by decide⟩⟩
theorem ml_354 : xMLok (10, 153, 0, 281, 3, 1) := ⟨by decide, fun M y b rt h1 h2 => by cases h1; cases h2; exact ⟨gm8 31 rfl rfl, rfl, by decide +kernel, by decide⟩⟩
theorem ml_355 : xMLok (10, 72, 0, 282, 1, 1) := ⟨by decide, fun M y b rt h1 h2 => by cases h1; cases h2; exact ⟨gm8 35 rfl rfl, rfl, by decide +kernel, by decide⟩⟩
theorem ml_356 : xMLok (10, 64, 0, 283, 1, 1) := ⟨by decide, fun M y b rt h1 h2 => by cases h1; cases h2; exact ⟨gm8 39 rfl rfl, rfl, by decide +kernel, by decide⟩⟩
theorem ml_357 : xMLok (9, 447, 0, 287, 2, 1) := ⟨by decide, fun M y b rt h1 h2 => by cases h1; cases h2; exact ⟨gm8 43 rfl rfl, rfl, by decide +kernel, by decide⟩⟩
theorem ml_358 : xMLok (9, 468, 0, 284, 3, 0) := ⟨by decide, fun M y b rt h1 h2 => by cases h1; cases h2; exact ⟨gm8 47 rfl rfl, rfl, by decide +kernel, by decide⟩⟩
theorem ml_359 : xMLok (9, 472, 0, 286, 1, 1) := ⟨by decide, fun M y b rt h1 h2 => by cases h1; cases h2; exact ⟨gm8 51 rfl rfl, rfl, by decide +kernel, by decide⟩⟩
theorem ml_360 : xMLok (9, 464, 1, 285, 1, 1) := ⟨by decide, fun M y b rt h1 h2 => by cases h1; cases h2; exact ⟨gm8 55 rfl rfl, rfl, by decide +kernel, by decide⟩⟩
theorem ml_361 : xMLok (10, 157, 0, 290, 3, 1) := ⟨by decide, fun M y b rt h1 h2 => by cases h1; cases h2; exact ⟨gm8 59 rfl rfl, rfl, by decide +kernel, by decide⟩⟩
theorem ml_362 : xMLok (9, 490, 0, 289, 1, 0) := ⟨by decide, fun M y b rt h1 h2 => by cases h1; cases h2; exact ⟨gm8 63 rfl rfl, rfl, by decide +kernel, by decide⟩⟩
theorem ml_363 : xMLok (9, 484, 0, 288, 2, 1) := ⟨by decide, fun M y b rt h1 h2 => by cases h1; cases h2; exact ⟨gm8 67 rfl rfl, rfl, by decide +kernel, by decide⟩⟩
theorem ml_364 : xMLok (10, 161, 0, 291, 2, 1) := ⟨by decide, fun M y b rt h1 h2 => by cases h1; cases h2; exact ⟨gm8 74 rfl rfl, rfl, by decide +kernel, by decide⟩⟩
theorem ml_365 : xMLok (10, 173, 0, 292, 2, 1) := ⟨by decide, fun M y b rt h1 h2 => by cases h1; cases h2; exact ⟨gm8 78 rfl rfl, rfl, by decide +kernel, by decide⟩⟩
theorem ml_366 : xMLok (10, 177, 0, 293, 1, 1) := ⟨by decide, fun M y b rt h1 h2 => by cases h1; cases h2; exact ⟨gm8 82 rfl rfl, rfl, by decide +kernel, by decide⟩⟩
set_option maxRecDepth 100000 in
theorem ml_all : ∀ e ∈ xML, xMLok e := by
  unfold xML
  exact List.forall_mem_cons.mpr ⟨ml_0, List.forall_mem_cons.mpr ⟨ml_1, List.forall_mem_cons.mpr ⟨ml_2, List.forall_mem_cons.mpr ⟨ml_3, List.forall_mem_cons.mpr ⟨ml_4, List.forall_mem_cons.mpr ⟨ml_5, List.forall_mem_cons.mpr ⟨ml_6, List.forall_mem_cons.mpr ⟨ml_7, List.forall_mem_cons.mpr ⟨ml_8, List.forall_mem_cons.mpr ⟨ml_9, List.forall_mem_cons.mpr ⟨ml_10, List.forall_mem_cons.mpr ⟨ml_11, List.forall_mem_cons.mpr ⟨ml_12, List.forall_mem_cons.mpr ⟨ml_13, List.forall_mem_cons.mpr ⟨ml_14, List.forall_mem_cons.mpr ⟨ml_15, List.forall_mem_cons.mpr ⟨ml_16, List.forall_mem_cons.mpr ⟨ml_17, List.forall_mem_cons.mpr ⟨ml_18, List.forall_mem_cons.mpr ⟨ml_19, List.forall_mem_cons.mpr ⟨ml_20, List.forall_mem_cons.mpr ⟨ml_21, List.forall_mem_cons.mpr ⟨ml_22, List.forall_mem_cons.mpr ⟨ml_23, List.forall_mem_cons.mpr ⟨ml_24, List.forall_mem_cons.mpr ⟨ml_25, List.forall_mem_cons.mpr ⟨ml_26, List.forall_mem_cons.mpr ⟨ml_27, List.forall_mem_cons.mpr ⟨ml_28, List.forall_mem_cons.mpr ⟨ml_29, List.forall_mem_cons.mpr ⟨ml_30, List.forall_mem_cons.mpr ⟨ml_31, List.forall_mem_cons.mpr ⟨ml_32, List.forall_mem_cons.mpr ⟨ml_33, List.forall_mem_cons.mpr ⟨ml_34, List.forall_mem_cons.mpr ⟨ml_35, List.forall_mem_cons.mpr ⟨ml_36, List.forall_mem_cons.mpr ⟨ml_37, List.forall_mem_cons.mpr ⟨ml_38, List.forall_mem_cons.mpr ⟨ml_39, List.forall_mem_cons.mpr ⟨ml_40, List.forall_mem_cons.mpr ⟨ml_41, List.forall_mem_cons.mpr ⟨ml_42, List.forall_mem_cons.mpr ⟨ml_43, List.forall_mem_cons.mpr ⟨ml_44, List.forall_mem_cons.mpr ⟨ml_45, List.forall_mem_cons.mpr ⟨ml_46, List.forall_mem_cons.mpr ⟨ml_47, List.forall_mem_cons.mpr ⟨ml_48, List.forall_mem_cons.mpr ⟨ml_49, List.forall_mem_cons.mpr ⟨ml_50, List.forall_mem_cons.mpr ⟨ml_51, List.forall_mem_cons.mpr ⟨ml_52, List.forall_mem_cons.mpr ⟨ml_53, List.forall_mem_cons.mpr ⟨ml_54, List.forall_mem_cons.mpr ⟨ml_55, List.forall_mem_cons.mpr ⟨ml_56, List.forall_mem_cons.mpr ⟨ml_57, List.forall_mem_cons.mpr ⟨ml_58, List.forall_mem_cons.mpr ⟨ml_59, List.forall_mem_cons.mpr ⟨ml_60, List.forall_mem_cons.mpr ⟨ml_61, List.forall_mem_cons.mpr ⟨ml_62, List.forall_mem_cons.mpr ⟨ml_63, List.forall_mem_cons.mpr ⟨ml_64, List.forall_mem_cons.mpr ⟨ml_65, List.forall_mem_cons.mpr ⟨ml_66, List.forall_mem_cons.mpr ⟨ml_67, List.forall_mem_cons.mpr ⟨ml_68, List.forall_mem_cons.mpr ⟨ml_69, List.forall_mem_cons.mpr ⟨ml_70, List.forall_mem_cons.mpr ⟨ml_71, List.forall_mem_cons.mpr ⟨ml_72, List.forall_mem_cons.mpr ⟨ml_73, List.forall_mem_cons.mpr ⟨ml_74, List.forall_mem_cons.mpr ⟨ml_75, List.forall_mem_cons.mpr ⟨ml_76, List.forall_mem_cons.mpr ⟨ml_77, List.forall_mem_cons.mpr ⟨ml_78, List.forall_mem_cons.mpr ⟨ml_79, List.forall_mem_cons.mpr ⟨ml_80, List.forall_mem_cons.mpr ⟨ml_81, List.forall_mem_cons.mpr ⟨ml_82, List.forall_mem_cons.mpr ⟨ml_83, List.forall_mem_cons.mpr ⟨ml_84, List.forall_mem_cons.mpr ⟨ml_85, List.forall_mem_cons.mpr ⟨ml_86, List.forall_mem_cons.mpr ⟨ml_87, List.forall_mem_cons.mpr ⟨ml_88, List.forall_mem_cons.mpr ⟨ml_89, List.forall_mem_cons.mpr ⟨ml_90, List.forall_mem_cons.mpr ⟨ml_91, List.forall_mem_cons.mpr ⟨ml_92, List.forall_mem_cons.mpr ⟨ml_93, List.forall_mem_cons.mpr ⟨ml_94, List.forall_mem_cons.mpr ⟨ml_95, List.forall_mem_cons.mpr ⟨ml_96, List.forall_mem_cons.mpr ⟨ml_97, List.forall_mem_cons.mpr ⟨ml_98, List.forall_mem_cons.mpr ⟨ml_99, List.forall_mem_cons.mpr ⟨ml_100, List.forall_mem_cons.mpr ⟨ml_101, List.forall_mem_cons.mpr ⟨ml_102, List.forall_mem_cons.mpr ⟨ml_103, List.forall_mem_cons.mpr ⟨ml_104, List.forall_mem_cons.mpr ⟨ml_105, List.forall_mem_cons.mpr ⟨ml_106, List.forall_mem_cons.mpr ⟨ml_107, List.forall_mem_cons.mpr ⟨ml_108, List.forall_mem_cons.mpr ⟨ml_109, List.forall_mem_cons.mpr ⟨ml_110, List.forall_mem_cons.mpr ⟨ml_111, List.forall_mem_cons.mpr ⟨ml_112, List.forall_mem_cons.mpr ⟨ml_113, List.forall_mem_cons.mpr ⟨ml_114, List.forall_mem_cons.mpr ⟨ml_115, List.forall_mem_cons.mpr ⟨ml_116, List.forall_mem_cons.mpr ⟨ml_117, List.forall_mem_cons.mpr ⟨ml_118, List.forall_mem_cons.mpr ⟨ml_119, List.forall_mem_cons.mpr ⟨ml_120, List.forall_mem_cons.mpr ⟨ml_121, List.forall_mem_cons.mpr ⟨ml_122, List.forall_mem_cons.mpr ⟨ml_123, List.forall_mem_cons.mpr ⟨ml_124, List.forall_mem_cons.mpr ⟨ml_125, List.forall_mem_cons.mpr ⟨ml_126, List.forall_mem_cons.mpr ⟨ml_127, List.forall_mem_cons.mpr ⟨ml_128, List.forall_mem_cons.mpr ⟨ml_129, List.forall_mem_cons.mpr ⟨ml_130, List.forall_mem_cons.mpr ⟨ml_131, List.forall_mem_cons.mpr ⟨ml_132, List.forall_mem_cons.mpr ⟨ml_133, List.forall_mem_cons.mpr ⟨ml_134, List.forall_mem_cons.mpr ⟨ml_135, List.forall_mem_cons.mpr ⟨ml_136, List.forall_mem_cons.mpr ⟨ml_137, List.forall_mem_cons.mpr ⟨ml_138, List.forall_mem_cons.mpr ⟨ml_139, List.forall_mem_cons.mpr ⟨ml_140, List.forall_mem_cons.mpr ⟨ml_141, List.forall_mem_cons.mpr ⟨ml_142, List.forall_mem_cons.mpr ⟨ml_143, List.forall_mem_cons.mpr ⟨ml_144, List.forall_mem_cons.mpr ⟨ml_145, List.forall_mem_cons.mpr ⟨ml_146, List.forall_mem_cons.mpr ⟨ml_147, List.forall_mem_cons.mpr ⟨ml_148, List.forall_mem_cons.mpr ⟨ml_149, List.forall_mem_cons.mpr ⟨ml_150, List.forall_mem_cons.mpr ⟨ml_151, List.forall_mem_cons.mpr ⟨ml_152, List.forall_mem_cons.mpr ⟨ml_153, List.forall_mem_cons.mpr ⟨ml_154, List.forall_mem_cons.mpr ⟨ml_155, List.forall_mem_cons.mpr ⟨ml_156, List.forall_mem_cons.mpr ⟨ml_157, List.forall_mem_cons.mpr ⟨ml_158, List.forall_mem_cons.mpr ⟨ml_159, List.forall_mem_cons.mpr ⟨ml_160, List.forall_mem_cons.mpr ⟨ml_161, List.forall_mem_cons.mpr ⟨ml_162, List.forall_mem_cons.mpr ⟨ml_163, List.forall_mem_cons.mpr ⟨ml_164, List.forall_mem_cons.mpr ⟨ml_165, List.forall_mem_cons.mpr ⟨ml_166, List.forall_mem_cons.mpr ⟨ml_167, List.forall_mem_cons.mpr ⟨ml_168, List.forall_mem_cons.mpr ⟨ml_169, List.forall_mem_cons.mpr ⟨ml_170, List.forall_mem_cons.mpr ⟨ml_171, List.forall_mem_cons.mpr ⟨ml_172, List.forall_mem_cons.mpr ⟨ml_173, List.forall_mem_cons.mpr ⟨ml_174, List.forall_mem_cons.mpr ⟨ml_175, List.forall_mem_cons.mpr ⟨ml_176, List.forall_mem_cons.mpr ⟨ml_177, List.forall_mem_cons.mpr ⟨ml_178, List.forall_mem_cons.mpr ⟨ml_179, List.forall_mem_cons.mpr ⟨ml_180, List.forall_mem_cons.mpr ⟨ml_181, List.forall_mem_cons.mpr ⟨ml_182, List.forall_mem_cons.mpr ⟨ml_183, List.forall_mem_cons.mpr ⟨ml_184, List.forall_mem_cons.mpr ⟨ml_185, List.forall_mem_cons.mpr ⟨ml_186, List.forall_mem_cons.mpr ⟨ml_187, List.forall_mem_cons.mpr ⟨ml_188, List.forall_mem_cons.mpr ⟨ml_189, List.forall_mem_cons.mpr ⟨ml_190, List.forall_mem_cons.mpr ⟨ml_191, List.forall_mem_cons.mpr ⟨ml_192, List.forall_mem_cons.mpr ⟨ml_193, List.forall_mem_cons.mpr ⟨ml_194, List.forall_mem_cons.mpr ⟨ml_195, List.forall_mem_cons.mpr ⟨ml_196, List.forall_mem_cons.mpr ⟨ml_197, List.forall_mem_cons.mpr ⟨ml_198, List.forall_mem_cons.mpr ⟨ml_199, List.forall_mem_cons.mpr ⟨ml_200, List.forall_mem_cons.mpr ⟨ml_201, List.forall_mem_cons.mpr ⟨ml_202, List.forall_mem_cons.mpr ⟨ml_203, List.forall_mem_cons.mpr ⟨ml_204, List.forall_mem_cons.mpr ⟨ml_205, List.forall_mem_cons.mpr ⟨ml_206, List.forall_mem_cons.mpr ⟨ml_207, List.forall_mem_cons.mpr ⟨ml_208, List.forall_mem_cons.mpr ⟨ml_209, List.forall_mem_cons.mpr ⟨ml_210, List.forall_mem_cons.mpr ⟨ml_211, List.forall_mem_cons.mpr ⟨ml_212, List.forall_mem_cons.mpr ⟨ml_213, List.forall_mem_cons.mpr ⟨ml_214, List.forall_mem_cons.mpr ⟨ml_215, List.forall_mem_cons.mpr ⟨ml_216, List.forall_mem_cons.mpr ⟨ml_217, List.forall_mem_cons.mpr ⟨ml_218, List.forall_mem_cons.mpr ⟨ml_219, List.forall_mem_cons.mpr ⟨ml_220, List.forall_mem_cons.mpr ⟨ml_221, List.forall_mem_cons.mpr ⟨ml_222, List.forall_mem_cons.mpr ⟨ml_223, List.forall_mem_cons.mpr ⟨ml_224, List.forall_mem_cons.mpr ⟨ml_225, List.forall_mem_cons.mpr ⟨ml_226, List.forall_mem_cons.mpr ⟨ml_227, List.forall_mem_cons.mpr ⟨ml_228, List.forall_mem_cons.mpr ⟨ml_229, List.forall_mem_cons.mpr ⟨ml_230, List.forall_mem_cons.mpr ⟨ml_231, List.forall_mem_cons.mpr ⟨ml_232, List.forall_mem_cons.mpr ⟨ml_233, List.forall_mem_cons.mpr ⟨ml_234, List.forall_mem_cons.mpr ⟨ml_235, List.forall_mem_cons.mpr ⟨ml_236, List.forall_mem_cons.mpr ⟨ml_237, List.forall_mem_cons.mpr ⟨ml_238, List.forall_mem_cons.mpr ⟨ml_239, List.forall_mem_cons.mpr ⟨ml_240, List.forall_mem_cons.mpr ⟨ml_241, List.forall_mem_cons.mpr ⟨ml_242, List.forall_mem_cons.mpr ⟨ml_243, List.forall_mem_cons.mpr ⟨ml_244, List.forall_mem_cons.mpr ⟨ml_245, List.forall_mem_cons.mpr ⟨ml_246, List.forall_mem_cons.mpr ⟨ml_247, List.forall_mem_cons.mpr ⟨ml_248, List.forall_mem_cons.mpr ⟨ml_249, List.forall_mem_cons.mpr ⟨ml_250, List.forall_mem_cons.mpr ⟨ml_251, List.forall_mem_cons.mpr ⟨ml_252, List.forall_mem_cons.mpr ⟨ml_253, List.forall_mem_cons.mpr ⟨ml_254, List.forall_mem_cons.mpr ⟨ml_255, List.forall_mem_cons.mpr ⟨ml_256, List.forall_mem_cons.mpr ⟨ml_257, List.forall_mem_cons.mpr ⟨ml_258, List.forall_mem_cons.mpr ⟨ml_259, List.forall_mem_cons.mpr ⟨ml_260, List.forall_mem_cons.mpr ⟨ml_261, List.forall_mem_cons.mpr ⟨ml_262, List.forall_mem_cons.mpr ⟨ml_263, List.forall_mem_cons.mpr ⟨ml_264, List.forall_mem_cons.mpr ⟨ml_265, List.forall_mem_cons.mpr ⟨ml_266, List.forall_mem_cons.mpr ⟨ml_267, List.forall_mem_cons.mpr ⟨ml_268, List.forall_mem_cons.mpr ⟨ml_269, List.forall_mem_cons.mpr ⟨ml_270, List.forall_mem_cons.mpr ⟨ml_271, List.forall_mem_cons.mpr ⟨ml_272, List.forall_mem_cons.mpr ⟨ml_273, List.forall_mem_cons.mpr ⟨ml_274, List.forall_mem_cons.mpr ⟨ml_275, List.forall_mem_cons.mpr ⟨ml_276, List.forall_mem_cons.mpr ⟨ml_277, List.forall_mem_cons.mpr ⟨ml_278, List.forall_mem_cons.mpr ⟨ml_279, List.forall_mem_cons.mpr ⟨ml_280, List.forall_mem_cons.mpr ⟨ml_281, List.forall_mem_cons.mpr ⟨ml_282, List.forall_mem_cons.mpr ⟨ml_283, List.forall_mem_cons.mpr ⟨ml_284, List.forall_mem_cons.mpr ⟨ml_285, List.forall_mem_cons.mpr ⟨ml_286, List.forall_mem_cons.mpr ⟨ml_287, List.forall_mem_cons.mpr ⟨ml_288, List.forall_mem_cons.mpr ⟨ml_289, List.forall_mem_cons.mpr ⟨ml_290, List.forall_mem_cons.mpr ⟨ml_291, List.forall_mem_cons.mpr ⟨ml_292, List.forall_mem_cons.mpr ⟨ml_293, List.forall_mem_cons.mpr ⟨ml_294, List.forall_mem_cons.mpr ⟨ml_295, List.forall_mem_cons.mpr ⟨ml_296, List.forall_mem_cons.mpr ⟨ml_297, List.forall_mem_cons.mpr ⟨ml_298, List.forall_mem_cons.mpr ⟨ml_299, List.forall_mem_cons.mpr ⟨ml_300, List.forall_mem_cons.mpr ⟨ml_301, List.forall_mem_cons.mpr ⟨ml_302, List.forall_mem_cons.mpr ⟨ml_303, List.forall_mem_cons.mpr ⟨ml_304, List.forall_mem_cons.mpr ⟨ml_305, List.forall_mem_cons.mpr ⟨ml_306, List.forall_mem_cons.mpr ⟨ml_307, List.forall_mem_cons.mpr ⟨ml_308, List.forall_mem_cons.mpr ⟨ml_309, List.forall_mem_cons.mpr ⟨ml_310, List.forall_mem_cons.mpr ⟨ml_311, List.forall_mem_cons.mpr ⟨ml_312, List.forall_mem_cons.mpr ⟨ml_313, List.forall_mem_cons.mpr ⟨ml_314, List.forall_mem_cons.mpr ⟨ml_315, List.forall_mem_cons.mpr ⟨ml_316, List.forall_mem_cons.mpr ⟨ml_317, List.forall_mem_cons.mpr ⟨ml_318, List.forall_mem_cons.mpr ⟨ml_319, List.forall_mem_cons.mpr ⟨ml_320, List.forall_mem_cons.mpr ⟨ml_321, List.forall_mem_cons.mpr ⟨ml_322, List.forall_mem_cons.mpr ⟨ml_323, List.forall_mem_cons.mpr ⟨ml_324, List.forall_mem_cons.mpr ⟨ml_325, List.forall_mem_cons.mpr ⟨ml_326, List.forall_mem_cons.mpr ⟨ml_327, List.forall_mem_cons.mpr ⟨ml_328, List.forall_mem_cons.mpr ⟨ml_329, List.forall_mem_cons.mpr ⟨ml_330, List.forall_mem_cons.mpr ⟨ml_331, List.forall_mem_cons.mpr ⟨ml_332, List.forall_mem_cons.mpr ⟨ml_333, List.forall_mem_cons.mpr ⟨ml_334, List.forall_mem_cons.mpr ⟨ml_335, List.forall_mem_cons.mpr ⟨ml_336, List.forall_mem_cons.mpr ⟨ml_337, List.forall_mem_cons.mpr ⟨ml_338, List.forall_mem_cons.mpr ⟨ml_339, List.forall_mem_cons.mpr ⟨ml_340, List.forall_mem_cons.mpr ⟨ml_341, List.forall_mem_cons.mpr ⟨ml_342, List.forall_mem_cons.mpr ⟨ml_343, List.forall_mem_cons.mpr ⟨ml_344, List.forall_mem_cons.mpr ⟨ml_345, List.forall_mem_cons.mpr ⟨ml_346, List.forall_mem_cons.mpr ⟨ml_347, List.forall_mem_cons.mpr ⟨ml_348, List.forall_mem_cons.mpr ⟨ml_349, List.forall_mem_cons.mpr ⟨ml_350, List.forall_mem_cons.mpr ⟨ml_351, List.forall_mem_cons.mpr ⟨ml_352, List.forall_mem_cons.mpr ⟨ml_353, List.forall_mem_cons.mpr ⟨ml_354, List.forall_mem_cons.mpr ⟨ml_355, List.forall_mem_cons.mpr ⟨ml_356, List.forall_mem_cons.mpr ⟨ml_357, List.forall_mem_cons.mpr ⟨ml_358, List.forall_mem_cons.mpr ⟨ml_359, List.forall_mem_cons.mpr ⟨ml_360, List.forall_mem_cons.mpr ⟨ml_361, List.forall_mem_cons.mpr ⟨ml_362, List.forall_mem_cons.mpr ⟨ml_363, List.forall_mem_cons.mpr ⟨ml_364, List.forall_mem_cons.mpr ⟨ml_365, List.forall_mem_cons.mpr ⟨ml_366, fun _ h => absurd h List.not_mem_nil⟩⟩⟩⟩⟩⟩⟩⟩⟩⟩⟩⟩⟩⟩⟩⟩⟩⟩⟩⟩⟩⟩⟩⟩⟩⟩⟩⟩⟩⟩⟩⟩⟩⟩⟩⟩⟩⟩⟩⟩⟩⟩⟩⟩⟩⟩⟩⟩⟩⟩⟩⟩⟩⟩⟩⟩⟩⟩⟩⟩⟩⟩⟩⟩⟩⟩⟩⟩⟩⟩⟩⟩⟩⟩⟩⟩⟩⟩⟩⟩⟩⟩⟩⟩⟩⟩⟩⟩⟩⟩⟩⟩⟩⟩⟩⟩⟩⟩⟩⟩⟩⟩⟩⟩⟩⟩⟩⟩⟩⟩⟩⟩⟩⟩⟩⟩⟩⟩⟩⟩⟩⟩⟩⟩⟩⟩⟩⟩⟩⟩⟩⟩⟩⟩⟩⟩⟩⟩⟩⟩⟩⟩⟩⟩⟩⟩⟩⟩⟩⟩⟩⟩⟩⟩⟩⟩⟩⟩⟩⟩⟩⟩⟩⟩⟩⟩⟩⟩⟩⟩⟩⟩⟩⟩⟩⟩⟩⟩⟩⟩⟩⟩⟩⟩⟩⟩⟩⟩⟩⟩⟩⟩⟩⟩⟩⟩⟩⟩⟩⟩⟩⟩⟩⟩⟩⟩⟩⟩⟩⟩⟩⟩⟩⟩⟩⟩⟩⟩⟩⟩⟩⟩⟩⟩⟩⟩⟩⟩⟩⟩⟩⟩⟩⟩⟩⟩⟩⟩⟩⟩⟩⟩⟩⟩⟩⟩⟩⟩⟩⟩⟩⟩⟩⟩⟩⟩⟩⟩⟩⟩⟩⟩⟩⟩⟩⟩⟩⟩⟩⟩⟩⟩⟩⟩⟩⟩⟩⟩⟩⟩⟩⟩⟩⟩⟩⟩⟩⟩⟩⟩⟩⟩⟩⟩⟩⟩⟩⟩⟩⟩⟩⟩⟩⟩⟩⟩⟩⟩⟩⟩⟩⟩⟩⟩⟩⟩⟩⟩⟩⟩⟩⟩⟩⟩⟩⟩⟩⟩⟩⟩⟩⟩⟩⟩⟩⟩⟩⟩⟩⟩⟩⟩⟩⟩⟩⟩⟩⟩⟩⟩⟩⟩⟩⟩⟩⟩⟩⟩⟩⟩⟩⟩⟩⟩⟩⟩⟩
theorem ci_all : ∀ e ∈ xCI, Cond.constant (xcn e.1) e.2.1 e.2.2 ∈ gw := by
  unfold xCI
  exact List.forall_mem_cons.mpr ⟨gm2 187 rfl rfl, List.forall_mem_cons.mpr ⟨gm3 24 rfl rfl, List.forall_mem_cons.mpr ⟨gm4 58 rfl rfl, List.forall_mem_cons.mpr ⟨gm5 15 rfl rfl, List.forall_mem_cons.mpr ⟨gm5 16 rfl rfl, List.forall_mem_cons.mpr ⟨gm5 17 rfl rfl, List.forall_mem_cons.mpr ⟨gm5 42 rfl rfl, List.forall_mem_cons.mpr ⟨gm7 31 rfl rfl, fun _ h => absurd h List.not_mem_nil⟩⟩⟩⟩⟩⟩⟩⟩
theorem cL_all : ∀ e ∈ xCL, Cond.constantLong (xcn e.1) e.2.1 e.2.2 ∈ gw := by
  unfold xCL
  exact List.forall_mem_cons.mpr ⟨gm2 191 rfl rfl, List.forall_mem_cons.mpr ⟨gm2 192 rfl rfl, List.forall_mem_cons.mpr ⟨gm2 193 rfl rfl, List.forall_mem_cons.mpr ⟨gm5 23 rfl rfl, List.forall_mem_cons.mpr ⟨gm5 27 rfl rfl, List.forall_mem_cons.mpr ⟨gm5 32 rfl rfl, List.forall_mem_cons.mpr ⟨gm5 46 rfl rfl, List.forall_mem_cons.mpr ⟨gm5 47 rfl rfl, List.forall_mem_cons.mpr ⟨gm5 48 rfl rfl, List.forall_mem_cons.mpr ⟨gm6 146 rfl rfl, List.forall_mem_cons.mpr ⟨gm6 147 rfl rfl, List.forall_mem_cons.mpr ⟨gm6 164 rfl rfl, List.forall_mem_cons.mpr ⟨gm8 28 rfl rfl, List.forall_mem_cons.mpr ⟨gm8 29 rfl rfl, List.forall_mem_cons.mpr ⟨gm8 30 rfl rfl, List.forall_mem_cons.mpr ⟨gm8 58 rfl rfl, List.forall_mem_cons.mpr ⟨gm8 71 rfl rfl, List.forall_mem_cons.mpr ⟨gm8 72 rfl rfl, List.forall_mem_cons.mpr ⟨gm8 73 rfl rfl, fun _ h => absurd h List.not_mem_nil⟩⟩⟩⟩⟩⟩⟩⟩⟩⟩⟩⟩⟩⟩⟩⟩⟩⟩⟩
def xelC (t : Nat) : String := match t with
  | 4 => "TwinBuckets$Text"
  | 5 => "TwinBuckets$Store"
  | _ => "TwinBuckets$Image"
def xKLok (e : Nat × Nat × Nat × List Value) : Prop := (e.2.2.1 = 0 ∧ Cond.classLink (xcn e.1) e.2.1 "[I" ∈ gw) ∨ (4 ≤ e.2.2.1 ∧ e.2.2.1 ≤ 6 ∧ Cond.classLink (xcn e.1) e.2.1 (xelC e.2.2.1) ∈ gw) ∨ (100 ≤ e.2.2.1 ∧ e.2.2.1 < 110 ∧ Cond.classLink (xcn e.1) e.2.1 (xcn (e.2.2.1 - 100)) ∈ gw ∧ ∀ (C : String) (T : u_T) (N : Nat) (ty : Nat → FieldType), xclasses[e.2.2.1 - 100]? = some (C, T, N) → xtyL[e.2.2.1 - 100]? = some ty → e.2.2.2.length = N ∧ ∀ j, j < N → defaultValue (ty j) = vp_V e.2.2.2 j ∧ vp_V e.2.2.2 j = (vp_V e.2.2.2 j))
theorem kl_0 : xKLok (10, 7, 108, [.null, .null, .null, .null, .null, .null, .null, .null, .null, .null, .null, .null, .null, .null, .int 0, .int 0, .int 0, .int 0]) := Or.inr (Or.inr ⟨by decide, by decide, gm1 19 rfl rfl, fun C T N ty h1 h2 => by cases h1; cases h2; exact ⟨rfl, by decide⟩⟩)
theorem kl_1 : xKLok (8, 9, 105, [.null, .null, .null, .null, .int 0, .int 0, .int 0, .int 0]) := Or.inr (Or.inr ⟨by decide, by decide, gm1 27 rfl rfl, fun C T N ty h1 h2 => by cases h1; cases h2; exact ⟨rfl, by decide⟩⟩)
theorem kl_2 : xKLok (8, 9, 5, []) := Or.inr (Or.inl ⟨by decide, by decide, gm1 27 rfl rfl⟩)
theorem kl_3 : xKLok (5, 9, 102, [.null]) := Or.inr (Or.inr ⟨by decide, by decide, gm1 33 rfl rfl, fun C T N ty h1 h2 => by cases h1; cases h2; exact ⟨rfl, by decide⟩⟩)
theorem kl_4 : xKLok (8, 22, 103, [.null, .null, .null, .int 0, .int 0, .int 0, .int 0, .int 0]) := Or.inr (Or.inr ⟨by decide, by decide, gm1 78 rfl rfl, fun C T N ty h1 h2 => by cases h1; cases h2; exact ⟨rfl, by decide⟩⟩)
theorem kl_5 : xKLok (3, 9, 107, [.null, .null, .null, .null, .int 0, .int 0, .int 0]) := Or.inr (Or.inr ⟨by decide, by decide, gm1 84 rfl rfl, fun C T N ty h1 h2 => by cases h1; cases h2; exact ⟨rfl, by decide⟩⟩)
theorem kl_6 : xKLok (3, 9, 4, []) := Or.inr (Or.inl ⟨by decide, by decide, gm1 84 rfl rfl⟩)
theorem kl_7 : xKLok (8, 29, 104, [.null, .null, .int 0]) := Or.inr (Or.inr ⟨by decide, by decide, gm1 118 rfl rfl, fun C T N ty h1 h2 => by cases h1; cases h2; exact ⟨rfl, by decide⟩⟩)
theorem kl_8 : xKLok (8, 36, 100, [.null, .null, .null, .int 0]) := Or.inr (Or.inr ⟨by decide, by decide, gm1 135 rfl rfl, fun C T N ty h1 h2 => by cases h1; cases h2; exact ⟨rfl, by decide⟩⟩)
theorem kl_9 : xKLok (0, 9, 105, [.null, .null, .null, .null, .int 0, .int 0, .int 0, .int 0]) := Or.inr (Or.inr ⟨by decide, by decide, gm1 141 rfl rfl, fun C T N ty h1 h2 => by cases h1; cases h2; exact ⟨rfl, by decide⟩⟩)
theorem kl_10 : xKLok (0, 9, 5, []) := Or.inr (Or.inl ⟨by decide, by decide, gm1 141 rfl rfl⟩)
theorem kl_11 : xKLok (8, 46, 101, [.null, .null, .null]) := Or.inr (Or.inr ⟨by decide, by decide, gm1 157 rfl rfl, fun C T N ty h1 h2 => by cases h1; cases h2; exact ⟨rfl, by decide⟩⟩)
theorem kl_12 : xKLok (8, 46, 6, []) := Or.inr (Or.inl ⟨by decide, by decide, gm1 157 rfl rfl⟩)
theorem kl_13 : xKLok (8, 52, 106, [.null, .null, .int 0, .int 0, .int 0, .int 0, .int 0, .int 0, .int 0, .int 0]) := Or.inr (Or.inr ⟨by decide, by decide, gm1 159 rfl rfl, fun C T N ty h1 h2 => by cases h1; cases h2; exact ⟨rfl, by decide⟩⟩)
theorem kl_14 : xKLok (6, 9, 107, [.null, .null, .null, .null, .int 0, .int 0, .int 0]) := Or.inr (Or.inr ⟨by decide, by decide, gm1 165 rfl rfl, fun C T N ty h1 h2 => by cases h1; cases h2; exact ⟨rfl, by decide⟩⟩)
theorem kl_15 : xKLok (6, 9, 4, []) := Or.inr (Or.inl ⟨by decide, by decide, gm1 165 rfl rfl⟩)
theorem kl_16 : xKLok (8, 186, 107, [.null, .null, .null, .null, .int 0, .int 0, .int 0]) := Or.inr (Or.inr ⟨by decide, by decide, gm4 14 rfl rfl, fun C T N ty h1 h2 => by cases h1; cases h2; exact ⟨rfl, by decide⟩⟩)
theorem kl_17 : xKLok (8, 186, 4, []) := Or.inr (Or.inl ⟨by decide, by decide, gm4 14 rfl rfl⟩)
theorem kl_18 : xKLok (11, 317, 0, []) := Or.inl ⟨rfl, gm4 27 rfl rfl⟩
theorem kl_19 : xKLok (1, 7, 105, [.null, .null, .null, .null, .int 0, .int 0, .int 0, .int 0]) := Or.inr (Or.inr ⟨by decide, by decide, gm5 67 rfl rfl, fun C T N ty h1 h2 => by cases h1; cases h2; exact ⟨rfl, by decide⟩⟩)
theorem kl_20 : xKLok (1, 7, 5, []) := Or.inr (Or.inl ⟨by decide, by decide, gm5 67 rfl rfl⟩)
theorem kl_21 : xKLok (1, 16, 103, [.null, .null, .null, .int 0, .int 0, .int 0, .int 0, .int 0]) := Or.inr (Or.inr ⟨by decide, by decide, gm5 69 rfl rfl, fun C T N ty h1 h2 => by cases h1; cases h2; exact ⟨rfl, by decide⟩⟩)
theorem kl_22 : xKLok (1, 23, 104, [.null, .null, .int 0]) := Or.inr (Or.inr ⟨by decide, by decide, gm5 71 rfl rfl, fun C T N ty h1 h2 => by cases h1; cases h2; exact ⟨rfl, by decide⟩⟩)
theorem kl_23 : xKLok (10, 10, 109, [.int 0, .null, .null, .null, .null, .null, .int 0, .null, .int 0, .int 0, .int 0, .null, .null, .int 0, .int 0, .null, .null, .null, .int 0, .int 0, .int 0, .int 0, .int 0, .int 0, .int 0, .int 0, .null, .int 0, .int 0, .null, .null, .null, .int 0, .null, .null, .null, .int 0, .int 0, .int 0, .int 0, .int 0, .int 0, .null, .null, .int 0, .int 0]) := Or.inr (Or.inr ⟨by decide, by decide, gm5 107 rfl rfl, fun C T N ty h1 h2 => by cases h1; cases h2; exact ⟨rfl, by decide⟩⟩)
theorem kl_all : ∀ e ∈ xKL, xKLok e := by
  unfold xKL
  exact List.forall_mem_cons.mpr ⟨kl_0, List.forall_mem_cons.mpr ⟨kl_1, List.forall_mem_cons.mpr ⟨kl_2, List.forall_mem_cons.mpr ⟨kl_3, List.forall_mem_cons.mpr ⟨kl_4, List.forall_mem_cons.mpr ⟨kl_5, List.forall_mem_cons.mpr ⟨kl_6, List.forall_mem_cons.mpr ⟨kl_7, List.forall_mem_cons.mpr ⟨kl_8, List.forall_mem_cons.mpr ⟨kl_9, List.forall_mem_cons.mpr ⟨kl_10, List.forall_mem_cons.mpr ⟨kl_11, List.forall_mem_cons.mpr ⟨kl_12, List.forall_mem_cons.mpr ⟨kl_13, List.forall_mem_cons.mpr ⟨kl_14, List.forall_mem_cons.mpr ⟨kl_15, List.forall_mem_cons.mpr ⟨kl_16, List.forall_mem_cons.mpr ⟨kl_17, List.forall_mem_cons.mpr ⟨kl_18, List.forall_mem_cons.mpr ⟨kl_19, List.forall_mem_cons.mpr ⟨kl_20, List.forall_mem_cons.mpr ⟨kl_21, List.forall_mem_cons.mpr ⟨kl_22, List.forall_mem_cons.mpr ⟨kl_23, fun _ h => absurd h List.not_mem_nil⟩⟩⟩⟩⟩⟩⟩⟩⟩⟩⟩⟩⟩⟩⟩⟩⟩⟩⟩⟩⟩⟩⟩⟩
theorem wo_inst : Cond.instanceMethod objectInit ∈ gw := gm1 25 rfl rfl
theorem wo_code : Cond.code objectInit ⟨#[0xb1]⟩ 1 none ∈ gw := gm1 26 rfl rfl
theorem wm_max_s : Cond.static Lib.Math.max.name ∈ gw := gm2 182 rfl rfl
theorem wm_max_c : Cond.code Lib.Math.max.name Lib.Math.max.code 2 (some .int) ∈ gw := gm2 183 rfl rfl
theorem wm_min_s : Cond.static Lib.Math.min.name ∈ gw := gm2 185 rfl rfl
theorem wm_min_c : Cond.code Lib.Math.min.name Lib.Math.min.code 2 (some .int) ∈ gw := gm2 186 rfl rfl
theorem wm_i : Cond.initialized "java/lang/Math" ∈ gw := gm1 11 rfl rfl
theorem wa_n : Cond.native arraycopyName ∈ gw := gm3 33 rfl rfl
theorem wa_s : Cond.static arraycopyName ∈ gw := gm3 32 rfl rfl
theorem wa_i : Cond.initialized "java/lang/System" ∈ gw := gm1 12 rfl rfl
theorem wc_same : Cond.sameMethod "[I" "java/lang/Object" "clone" "()Ljava/lang/Object;" ∈ gw := gm4 22 rfl rfl
theorem wc_nat : Cond.native ⟨"java/lang/Object", "clone", "()Ljava/lang/Object;"⟩ ∈ gw := gm4 23 rfl rfl
theorem wc_inst : Cond.instanceMethod ⟨"java/lang/Object", "clone", "()Ljava/lang/Object;"⟩ ∈ gw := gm4 24 rfl rfl
theorem wc_sel : Cond.selects "[I" ⟨"[I", "clone", "()Ljava/lang/Object;"⟩ ⟨"java/lang/Object", "clone", "()Ljava/lang/Object;"⟩ ∈ gw := gm4 25 rfl rfl
theorem wc_cast : Cond.castable "[I" "java/lang/Cloneable" ∈ lw_tbl := tb4 (List.mem_of_getElem? (i := 26) rfl)
theorem wy_int : Cond.arrayClass .int ∈ gw := gm1 44 rfl rfl
theorem wy_long : Cond.arrayClass .long ∈ gw := gm2 65 rfl rfl
theorem wy_byte : Cond.arrayClass .byte ∈ gw := gm4 34 rfl rfl
theorem wy_boolean : Cond.arrayClass .boolean ∈ gw := gm6 12 rfl rfl
