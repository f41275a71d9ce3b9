/-- what holds of method number mid (the law's own entry aside) -/
def xMok (mid : Nat) : Prop := ∀ (M : xM) (y : MethodName) (b : ByteArray) (rt : Option FieldType), xprog[mid]? = some M → xmeta[mid]? = some (y, b, rt) →
  Cond.code y b M.2.2.2.1 rt ∈ gw ∧ y.cls = xcn M.1 ∧ plainName y.cls = true ∧ (y.cls ≠ "java/lang/invoke/MethodHandle" ∧ y.cls ≠ "java/lang/invoke/VarHandle") ∧ Cond.initialized y.cls ∈ gw ∧
  (match M.2.1 with
    | 0 => rt = none
    | 1 => rt = some .int
    | 2 => rt = some .boolean
    | 3 => rt = some .long
    | _ => ∃ r, rt = some r ∧ ((∃ n, r = .object n) ∨ ∃ t, r = .array t)) ∧
  (match M.2.2.1 with
    | 0 => M.1 < 10 ∧ Cond.instanceMethod y ∈ gw ∧ Cond.selects y.cls y y ∈ gw
    | 1 => Cond.static y ∈ gw
    | _ => M.1 < 10 ∧ M.2.2.1 = 2 ∧ Cond.instanceMethod y ∈ gw ∧ y.name = "<init>") ∧ M.2.2.2.1 ≤ 12
theorem mk_0 : xMok 0 := fun M y b rt h1 h2 => by cases h1; cases h2; exact ⟨gm1 141 rfl rfl, rfl, by decide, by decide, gm1 6 rfl rfl, rfl, ⟨by decide, rfl, gm1 140 rfl rfl, rfl⟩, by decide⟩
theorem mk_1 : xMok 1 := fun M y b rt h1 h2 => by cases h1; cases h2; exact ⟨gm2 212 rfl rfl, rfl, by decide, by decide, gm1 6 rfl rfl, rfl, ⟨by decide, gm2 210 rfl rfl, gm2 211 rfl rfl⟩, by decide⟩
theorem mk_2 : xMok 2 := fun M y b rt h1 h2 => by cases h1; cases h2; exact ⟨gm4 56 rfl rfl, rfl, by decide, by decide, gm1 6 rfl rfl, rfl, ⟨by decide, gm4 54 rfl rfl, gm4 55 rfl rfl⟩, by decide⟩
theorem mk_3 : xMok 3 := fun M y b rt h1 h2 => by cases h1; cases h2; exact ⟨gm4 100 rfl rfl, rfl, by decide, by decide, gm1 6 rfl rfl, rfl, ⟨by decide, gm4 98 rfl rfl, gm4 99 rfl rfl⟩, by decide⟩
theorem mk_4 : xMok 4 := fun M y b rt h1 h2 => by cases h1; cases h2; exact ⟨gm4 104 rfl rfl, rfl, by decide, by decide, gm1 6 rfl rfl, ⟨_, rfl, Or.inl ⟨_, rfl⟩⟩, ⟨by decide, gm4 103 rfl rfl, gp2 8 rfl⟩, by decide⟩
theorem mk_5 : xMok 5 := fun M y b rt h1 h2 => by cases h1; cases h2; exact ⟨gm4 108 rfl rfl, rfl, by decide, by decide, gm1 6 rfl rfl, rfl, ⟨by decide, gm4 106 rfl rfl, gm4 107 rfl rfl⟩, by decide⟩
theorem mk_6 : xMok 6 := fun M y b rt h1 h2 => by cases h1; cases h2; exact ⟨gm4 148 rfl rfl, rfl, by decide, by decide, gm1 6 rfl rfl, rfl, ⟨by decide, gm4 146 rfl rfl, gm4 147 rfl rfl⟩, by decide⟩
theorem mk_7 : xMok 7 := fun M y b rt h1 h2 => by cases h1; cases h2; exact ⟨gm5 54 rfl rfl, rfl, by decide, by decide, gm1 18 rfl rfl, rfl, ⟨by decide, rfl, gm5 53 rfl rfl, rfl⟩, by decide⟩
theorem mk_8 : xMok 8 := fun M y b rt h1 h2 => by cases h1; cases h2; exact ⟨gm1 37 rfl rfl, rfl, by decide, by decide, gm1 3 rfl rfl, rfl, ⟨by decide, rfl, gm1 36 rfl rfl, rfl⟩, by decide⟩
theorem mk_9 : xMok 9 := fun M y b rt h1 h2 => by cases h1; cases h2; exact ⟨gm4 36 rfl rfl, rfl, by decide, by decide, gm1 3 rfl rfl, rfl, ⟨by decide, gm4 34 rfl rfl, gm4 35 rfl rfl⟩, by decide⟩
theorem mk_10 : xMok 10 := fun M y b rt h1 h2 => by cases h1; cases h2; exact ⟨gm2 71 rfl rfl, rfl, by decide, by decide, gm1 3 rfl rfl, rfl, ⟨by decide, gm2 69 rfl rfl, gm2 70 rfl rfl⟩, by decide⟩
theorem mk_11 : xMok 11 := fun M y b rt h1 h2 => by cases h1; cases h2; exact ⟨gm2 78 rfl rfl, rfl, by decide, by decide, gm1 3 rfl rfl, rfl, ⟨by decide, gm2 76 rfl rfl, gm2 77 rfl rfl⟩, by decide⟩
theorem mk_12 : xMok 12 := fun M y b rt h1 h2 => by cases h1; cases h2; exact ⟨gm2 164 rfl rfl, rfl, by decide, by decide, gm1 3 rfl rfl, rfl, ⟨by decide, gm2 162 rfl rfl, gm2 163 rfl rfl⟩, by decide⟩
theorem mk_13 : xMok 13 := fun M y b rt h1 h2 => by cases h1; cases h2; exact ⟨gm3 49 rfl rfl, rfl, by decide, by decide, gm1 3 rfl rfl, rfl, ⟨by decide, gm3 47 rfl rfl, gm3 48 rfl rfl⟩, by decide⟩
theorem mk_14 : xMok 14 := fun M y b rt h1 h2 => by cases h1; cases h2; exact ⟨gm2 82 rfl rfl, rfl, by decide, by decide, gm1 3 rfl rfl, rfl, ⟨by decide, gm2 80 rfl rfl, gm2 81 rfl rfl⟩, by decide⟩
theorem mk_15 : xMok 15 := fun M y b rt h1 h2 => by cases h1; cases h2; exact ⟨gm2 137 rfl rfl, rfl, by decide, by decide, gm1 3 rfl rfl, rfl, ⟨by decide, gm2 135 rfl rfl, gm2 136 rfl rfl⟩, by decide⟩
theorem mk_16 : xMok 16 := fun M y b rt h1 h2 => by cases h1; cases h2; exact ⟨gm2 141 rfl rfl, rfl, by decide, by decide, gm1 3 rfl rfl, rfl, ⟨by decide, gm2 139 rfl rfl, gm2 140 rfl rfl⟩, by decide⟩
theorem mk_17 : xMok 17 := fun M y b rt h1 h2 => by cases h1; cases h2; exact ⟨gm3 5 rfl rfl, rfl, by decide, by decide, gm1 3 rfl rfl, rfl, ⟨by decide, gm3 3 rfl rfl, gm3 4 rfl rfl⟩, by decide⟩
theorem mk_18 : xMok 18 := fun M y b rt h1 h2 => by cases h1; cases h2; exact ⟨gm2 4 rfl rfl, rfl, by decide, by decide, gm1 3 rfl rfl, rfl, ⟨by decide, gm2 2 rfl rfl, gm2 3 rfl rfl⟩, by decide⟩
theorem mk_19 : xMok 19 := fun M y b rt h1 h2 => by cases h1; cases h2; exact ⟨gm3 53 rfl rfl, rfl, by decide, by decide, gm1 3 rfl rfl, rfl, ⟨by decide, gm3 51 rfl rfl, gm3 52 rfl rfl⟩, by decide⟩
theorem mk_20 : xMok 20 := fun M y b rt h1 h2 => by cases h1; cases h2; exact ⟨gm2 133 rfl rfl, rfl, by decide, by decide, gm1 3 rfl rfl, rfl, ⟨by decide, gm2 131 rfl rfl, gm2 132 rfl rfl⟩, by decide⟩
theorem mk_21 : xMok 21 := fun M y b rt h1 h2 => by cases h1; cases h2; exact ⟨gm3 63 rfl rfl, rfl, by decide, by decide, gm1 3 rfl rfl, rfl, ⟨by decide, gm3 61 rfl rfl, gm3 62 rfl rfl⟩, by decide⟩
theorem mk_22 : xMok 22 := fun M y b rt h1 h2 => by cases h1; cases h2; exact ⟨gm3 67 rfl rfl, rfl, by decide, by decide, gm1 3 rfl rfl, rfl, ⟨by decide, gm3 65 rfl rfl, gm3 66 rfl rfl⟩, by decide⟩
theorem mk_23 : xMok 23 := fun M y b rt h1 h2 => by cases h1; cases h2; exact ⟨gm3 37 rfl rfl, rfl, by decide, by decide, gm1 3 rfl rfl, rfl, ⟨by decide, gm3 35 rfl rfl, gm3 36 rfl rfl⟩, by decide⟩
theorem mk_24 : xMok 24 := fun M y b rt h1 h2 => by cases h1; cases h2; exact ⟨gm3 45 rfl rfl, rfl, by decide, by decide, gm1 3 rfl rfl, rfl, ⟨by decide, gm3 43 rfl rfl, gm3 44 rfl rfl⟩, by decide⟩
theorem mk_25 : xMok 25 := fun M y b rt h1 h2 => by cases h1; cases h2; exact ⟨gm4 75 rfl rfl, rfl, by decide, by decide, gm1 3 rfl rfl, rfl, ⟨by decide, gm4 73 rfl rfl, gm4 74 rfl rfl⟩, by decide⟩
theorem mk_26 : xMok 26 := fun M y b rt h1 h2 => by cases h1; cases h2; exact ⟨gm1 84 rfl rfl, rfl, by decide, by decide, gm1 4 rfl rfl, rfl, ⟨by decide, rfl, gm1 83 rfl rfl, rfl⟩, by decide⟩
theorem mk_27 : xMok 27 := fun M y b rt h1 h2 => by cases h1; cases h2; exact ⟨gm5 78 rfl rfl, rfl, by decide, by decide, gm1 4 rfl rfl, rfl, ⟨by decide, gm5 76 rfl rfl, gm5 77 rfl rfl⟩, by decide⟩
theorem mk_28 : xMok 28 := fun M y b rt h1 h2 => by cases h1; cases h2; exact ⟨gm2 120 rfl rfl, rfl, by decide, by decide, gm1 4 rfl rfl, rfl, gm2 119 rfl rfl, by decide⟩
theorem mk_29 : xMok 29 := fun M y b rt h1 h2 => by cases h1; cases h2; exact ⟨gm2 117 rfl rfl, rfl, by decide, by decide, gm1 4 rfl rfl, rfl, ⟨by decide, gm2 115 rfl rfl, gm2 116 rfl rfl⟩, by decide⟩
theorem mk_30 : xMok 30 := fun M y b rt h1 h2 => by cases h1; cases h2; exact ⟨gm4 23 rfl rfl, rfl, by decide, by decide, gm1 4 rfl rfl, rfl, ⟨by decide, gm4 21 rfl rfl, gm4 22 rfl rfl⟩, by decide⟩
theorem mk_31 : xMok 31 := fun M y b rt h1 h2 => by cases h1; cases h2; exact ⟨gm2 154 rfl rfl, rfl, by decide, by decide, gm1 4 rfl rfl, ⟨_, rfl, Or.inl ⟨_, rfl⟩⟩, ⟨by decide, gm2 152 rfl rfl, gm2 153 rfl rfl⟩, by decide⟩
theorem mk_32 : xMok 32 := fun M y b rt h1 h2 => by cases h1; cases h2; exact ⟨gm2 159 rfl rfl, rfl, by decide, by decide, gm1 4 rfl rfl, rfl, ⟨by decide, gm2 157 rfl rfl, gm2 158 rfl rfl⟩, by decide⟩
theorem mk_33 : xMok 33 := fun M y b rt h1 h2 => by cases h1; cases h2; exact ⟨gm3 13 rfl rfl, rfl, by decide, by decide, gm1 4 rfl rfl, rfl, ⟨by decide, gm3 11 rfl rfl, gm3 12 rfl rfl⟩, by decide⟩
theorem mk_34 : xMok 34 := fun M y b rt h1 h2 => by cases h1; cases h2; exact ⟨gm2 150 rfl rfl, rfl, by decide, by decide, gm1 4 rfl rfl, rfl, ⟨by decide, gm2 148 rfl rfl, gm2 149 rfl rfl⟩, by decide⟩
theorem mk_35 : xMok 35 := fun M y b rt h1 h2 => by cases h1; cases h2; exact ⟨gm1 124 rfl rfl, rfl, by decide, by decide, gm1 5 rfl rfl, rfl, ⟨by decide, rfl, gm1 123 rfl rfl, rfl⟩, by decide⟩
theorem mk_36 : xMok 36 := fun M y b rt h1 h2 => by cases h1; cases h2; exact ⟨gm5 82 rfl rfl, rfl, by decide, by decide, gm1 5 rfl rfl, rfl, ⟨by decide, gm5 80 rfl rfl, gm5 81 rfl rfl⟩, by decide⟩
theorem mk_37 : xMok 37 := fun M y b rt h1 h2 => by cases h1; cases h2; exact ⟨gm4 218 rfl rfl, rfl, by decide, by decide, gm1 5 rfl rfl, rfl, ⟨by decide, gm4 216 rfl rfl, gm4 217 rfl rfl⟩, by decide⟩
theorem mk_38 : xMok 38 := fun M y b rt h1 h2 => by cases h1; cases h2; exact ⟨gm4 230 rfl rfl, rfl, by decide, by decide, gm1 5 rfl rfl, rfl, ⟨by decide, gm4 228 rfl rfl, gm4 229 rfl rfl⟩, by decide⟩
theorem mk_39 : xMok 39 := fun M y b rt h1 h2 => by cases h1; cases h2; exact ⟨gm4 235 rfl rfl, rfl, by decide, by decide, gm1 5 rfl rfl, rfl, ⟨by decide, gm4 234 rfl rfl, gp2 11 rfl⟩, by decide⟩
theorem mk_40 : xMok 40 := fun M y b rt h1 h2 => by cases h1; cases h2; exact ⟨gm1 31 rfl rfl, rfl, by decide, by decide, gm1 2 rfl rfl, rfl, ⟨by decide, rfl, gm1 30 rfl rfl, rfl⟩, by decide⟩
theorem mk_41 : xMok 41 := fun M y b rt h1 h2 => by cases h1; cases h2; exact ⟨gm2 0 rfl rfl, rfl, by decide, by decide, gm1 2 rfl rfl, rfl, ⟨by decide, gm1 238 rfl rfl, gm1 239 rfl rfl⟩, by decide⟩
theorem mk_42 : xMok 42 := fun M y b rt h1 h2 => by cases h1; cases h2; exact ⟨gm4 32 rfl rfl, rfl, by decide, by decide, gm1 2 rfl rfl, rfl, ⟨by decide, gm4 30 rfl rfl, gm4 31 rfl rfl⟩, by decide⟩
theorem mk_43 : xMok 43 := fun M y b rt h1 h2 => by cases h1; cases h2; exact ⟨gm2 106 rfl rfl, rfl, by decide, by decide, gm1 2 rfl rfl, rfl, ⟨by decide, gm2 104 rfl rfl, gm2 105 rfl rfl⟩, by decide⟩
theorem mk_44 : xMok 44 := fun M y b rt h1 h2 => by cases h1; cases h2; exact ⟨gm2 199 rfl rfl, rfl, by decide, by decide, gm1 2 rfl rfl, rfl, ⟨by decide, gm2 197 rfl rfl, gm2 198 rfl rfl⟩, by decide⟩
theorem mk_45 : xMok 45 := fun M y b rt h1 h2 => by cases h1; cases h2; exact ⟨gm2 128 rfl rfl, rfl, by decide, by decide, gm1 2 rfl rfl, rfl, ⟨by decide, gm2 126 rfl rfl, gm2 127 rfl rfl⟩, by decide⟩
theorem mk_46 : xMok 46 := fun M y b rt h1 h2 => by cases h1; cases h2; exact ⟨gm2 124 rfl rfl, rfl, by decide, by decide, gm1 2 rfl rfl, rfl, ⟨by decide, gm2 122 rfl rfl, gm2 123 rfl rfl⟩, by decide⟩
theorem mk_47 : xMok 47 := fun M y b rt h1 h2 => by cases h1; cases h2; exact ⟨gm2 146 rfl rfl, rfl, by decide, by decide, gm1 2 rfl rfl, rfl, ⟨by decide, gm2 144 rfl rfl, gm2 145 rfl rfl⟩, by decide⟩
theorem mk_48 : xMok 48 := fun M y b rt h1 h2 => by cases h1; cases h2; exact ⟨gm3 0 rfl rfl, rfl, by decide, by decide, gm1 2 rfl rfl, rfl, ⟨by decide, gm2 238 rfl rfl, gm2 239 rfl rfl⟩, by decide⟩
theorem mk_49 : xMok 49 := fun M y b rt h1 h2 => by cases h1; cases h2; exact ⟨gm3 31 rfl rfl, rfl, by decide, by decide, gm1 2 rfl rfl, rfl, ⟨by decide, gm3 29 rfl rfl, gm3 30 rfl rfl⟩, by decide⟩
theorem mk_50 : xMok 50 := fun M y b rt h1 h2 => by cases h1; cases h2; exact ⟨gm3 41 rfl rfl, rfl, by decide, by decide, gm1 2 rfl rfl, rfl, ⟨by decide, gm3 39 rfl rfl, gm3 40 rfl rfl⟩, by decide⟩
theorem mk_51 : xMok 51 := fun M y b rt h1 h2 => by cases h1; cases h2; exact ⟨gm3 72 rfl rfl, rfl, by decide, by decide, gm1 2 rfl rfl, rfl, ⟨by decide, gm3 70 rfl rfl, gm3 71 rfl rfl⟩, by decide⟩
theorem mk_52 : xMok 52 := fun M y b rt h1 h2 => by cases h1; cases h2; exact ⟨gm4 62 rfl rfl, rfl, by decide, by decide, gm1 2 rfl rfl, rfl, ⟨by decide, gm4 60 rfl rfl, gm4 61 rfl rfl⟩, by decide⟩
theorem mk_53 : xMok 53 := fun M y b rt h1 h2 => by cases h1; cases h2; exact ⟨gm4 66 rfl rfl, rfl, by decide, by decide, gm1 2 rfl rfl, rfl, ⟨by decide, gm4 64 rfl rfl, gm4 65 rfl rfl⟩, by decide⟩
theorem mk_54 : xMok 54 := fun M y b rt h1 h2 => by cases h1; cases h2; exact ⟨gm4 71 rfl rfl, rfl, by decide, by decide, gm1 2 rfl rfl, rfl, ⟨by decide, gm4 69 rfl rfl, gm4 70 rfl rfl⟩, by decide⟩
theorem mk_55 : xMok 55 := fun M y b rt h1 h2 => by cases h1; cases h2; exact ⟨gm3 9 rfl rfl, rfl, by decide, by decide, gm1 2 rfl rfl, rfl, ⟨by decide, gm3 7 rfl rfl, gm3 8 rfl rfl⟩, by decide⟩
theorem mk_56 : xMok 56 := fun M y b rt h1 h2 => by cases h1; cases h2; exact ⟨gm2 98 rfl rfl, rfl, by decide, by decide, gm1 2 rfl rfl, rfl, ⟨by decide, gm2 96 rfl rfl, gm2 97 rfl rfl⟩, by decide⟩
theorem mk_57 : xMok 57 := fun M y b rt h1 h2 => by cases h1; cases h2; exact ⟨gm3 22 rfl rfl, rfl, by decide, by decide, gm1 2 rfl rfl, rfl, ⟨by decide, gm3 20 rfl rfl, gm3 21 rfl rfl⟩, by decide⟩
theorem mk_58 : xMok 58 := fun M y b rt h1 h2 => by cases h1; cases h2; exact ⟨gm2 94 rfl rfl, rfl, by decide, by decide, gm1 2 rfl rfl, rfl, ⟨by decide, gm2 92 rfl rfl, gm2 93 rfl rfl⟩, by decide⟩
theorem mk_59 : xMok 59 := fun M y b rt h1 h2 => by cases h1; cases h2; exact ⟨gm4 210 rfl rfl, rfl, by decide, by decide, gm1 2 rfl rfl, rfl, ⟨by decide, gm4 208 rfl rfl, gm4 209 rfl rfl⟩, by decide⟩
theorem mk_60 : xMok 60 := fun M y b rt h1 h2 => by cases h1; cases h2; exact ⟨gm4 81 rfl rfl, rfl, by decide, by decide, gm1 2 rfl rfl, rfl, ⟨by decide, gm4 79 rfl rfl, gm4 80 rfl rfl⟩, by decide⟩
theorem mk_61 : xMok 61 := fun M y b rt h1 h2 => by cases h1; cases h2; exact ⟨gm4 85 rfl rfl, rfl, by decide, by decide, gm1 2 rfl rfl, rfl, ⟨by decide, gm4 83 rfl rfl, gm4 84 rfl rfl⟩, by decide⟩
theorem mk_62 : xMok 62 := fun M y b rt h1 h2 => by cases h1; cases h2; exact ⟨gm4 90 rfl rfl, rfl, by decide, by decide, gm1 2 rfl rfl, rfl, ⟨by decide, gm4 88 rfl rfl, gm4 89 rfl rfl⟩, by decide⟩
theorem mk_63 : xMok 63 := fun M y b rt h1 h2 => by cases h1; cases h2; exact ⟨gm4 95 rfl rfl, rfl, by decide, by decide, gm1 2 rfl rfl, rfl, ⟨by decide, gm4 93 rfl rfl, gm4 94 rfl rfl⟩, by decide⟩
theorem mk_64 : xMok 64 := fun M y b rt h1 h2 => by cases h1; cases h2; exact ⟨gm4 164 rfl rfl, rfl, by decide, by decide, gm1 2 rfl rfl, rfl, ⟨by decide, gm4 162 rfl rfl, gm4 163 rfl rfl⟩, by decide⟩
theorem mk_65 : xMok 65 := fun M y b rt h1 h2 => by cases h1; cases h2; exact ⟨gm4 173 rfl rfl, rfl, by decide, by decide, gm1 2 rfl rfl, rfl, ⟨by decide, gm4 171 rfl rfl, gm4 172 rfl rfl⟩, by decide⟩
theorem mk_66 : xMok 66 := fun M y b rt h1 h2 => by cases h1; cases h2; exact ⟨gm4 182 rfl rfl, rfl, by decide, by decide, gm1 2 rfl rfl, rfl, ⟨by decide, gm4 180 rfl rfl, gm4 181 rfl rfl⟩, by decide⟩
theorem mk_67 : xMok 67 := fun M y b rt h1 h2 => by cases h1; cases h2; exact ⟨gm4 201 rfl rfl, rfl, by decide, by decide, gm1 2 rfl rfl, rfl, ⟨by decide, gm4 199 rfl rfl, gm4 200 rfl rfl⟩, by decide⟩
theorem mk_68 : xMok 68 := fun M y b rt h1 h2 => by cases h1; cases h2; exact ⟨gm1 165 rfl rfl, rfl, by decide, by decide, gm1 7 rfl rfl, rfl, ⟨by decide, rfl, gm1 164 rfl rfl, rfl⟩, by decide⟩
theorem mk_69 : xMok 69 := fun M y b rt h1 h2 => by cases h1; cases h2; exact ⟨gm2 224 rfl rfl, rfl, by decide, by decide, gm1 7 rfl rfl, rfl, ⟨by decide, gm2 222 rfl rfl, gm2 223 rfl rfl⟩, by decide⟩
theorem mk_70 : xMok 70 := fun M y b rt h1 h2 => by cases h1; cases h2; exact ⟨gm2 236 rfl rfl, rfl, by decide, by decide, gm1 7 rfl rfl, rfl, ⟨by decide, gm2 234 rfl rfl, gm2 235 rfl rfl⟩, by decide⟩
theorem mk_71 : xMok 71 := fun M y b rt h1 h2 => by cases h1; cases h2; exact ⟨gm3 85 rfl rfl, rfl, by decide, by decide, gm1 7 rfl rfl, rfl, ⟨by decide, gm3 83 rfl rfl, gm3 84 rfl rfl⟩, by decide⟩
theorem mk_72 : xMok 72 := fun M y b rt h1 h2 => by cases h1; cases h2; exact ⟨gm3 93 rfl rfl, rfl, by decide, by decide, gm1 7 rfl rfl, rfl, ⟨by decide, gm3 92 rfl rfl, gp1 4 rfl⟩, by decide⟩
theorem mk_73 : xMok 73 := fun M y b rt h1 h2 => by cases h1; cases h2; exact ⟨gm3 115 rfl rfl, rfl, by decide, by decide, gm1 7 rfl rfl, rfl, ⟨by decide, gm3 114 rfl rfl, gp1 8 rfl⟩, by decide⟩
theorem mk_74 : xMok 74 := fun M y b rt h1 h2 => by cases h1; cases h2; exact ⟨gm3 111 rfl rfl, rfl, by decide, by decide, gm1 7 rfl rfl, rfl, ⟨by decide, gm3 110 rfl rfl, gp1 7 rfl⟩, by decide⟩
theorem mk_75 : xMok 75 := fun M y b rt h1 h2 => by cases h1; cases h2; exact ⟨gm3 183 rfl rfl, rfl, by decide, by decide, gm1 7 rfl rfl, rfl, ⟨by decide, gm3 182 rfl rfl, gp1 13 rfl⟩, by decide⟩
theorem mk_76 : xMok 76 := fun M y b rt h1 h2 => by cases h1; cases h2; exact ⟨gm3 98 rfl rfl, rfl, by decide, by decide, gm1 7 rfl rfl, rfl, ⟨by decide, gm3 97 rfl rfl, gp1 5 rfl⟩, by decide⟩
theorem mk_77 : xMok 77 := fun M y b rt h1 h2 => by cases h1; cases h2; exact ⟨gm3 221 rfl rfl, rfl, by decide, by decide, gm1 7 rfl rfl, rfl, ⟨by decide, gm3 220 rfl rfl, gp2 1 rfl⟩, by decide⟩
theorem mk_78 : xMok 78 := fun M y b rt h1 h2 => by cases h1; cases h2; exact ⟨gm3 106 rfl rfl, rfl, by decide, by decide, gm1 7 rfl rfl, rfl, ⟨by decide, gm3 105 rfl rfl, gp1 6 rfl⟩, by decide⟩
theorem mk_79 : xMok 79 := fun M y b rt h1 h2 => by cases h1; cases h2; exact ⟨gm3 167 rfl rfl, rfl, by decide, by decide, gm1 7 rfl rfl, rfl, ⟨by decide, gm3 166 rfl rfl, gp1 9 rfl⟩, by decide⟩
theorem mk_80 : xMok 80 := fun M y b rt h1 h2 => by cases h1; cases h2; exact ⟨gm3 228 rfl rfl, rfl, by decide, by decide, gm1 7 rfl rfl, rfl, ⟨by decide, gm3 227 rfl rfl, gp2 2 rfl⟩, by decide⟩
theorem mk_81 : xMok 81 := fun M y b rt h1 h2 => by cases h1; cases h2; exact ⟨gm3 232 rfl rfl, rfl, by decide, by decide, gm1 7 rfl rfl, rfl, ⟨by decide, gm3 231 rfl rfl, gp2 3 rfl⟩, by decide⟩
theorem mk_82 : xMok 82 := fun M y b rt h1 h2 => by cases h1; cases h2; exact ⟨gm3 236 rfl rfl, rfl, by decide, by decide, gm1 7 rfl rfl, rfl, ⟨by decide, gm3 235 rfl rfl, gp2 4 rfl⟩, by decide⟩
theorem mk_83 : xMok 83 := fun M y b rt h1 h2 => by cases h1; cases h2; exact ⟨gm3 171 rfl rfl, rfl, by decide, by decide, gm1 7 rfl rfl, rfl, ⟨by decide, gm3 170 rfl rfl, gp1 10 rfl⟩, by decide⟩
theorem mk_84 : xMok 84 := fun M y b rt h1 h2 => by cases h1; cases h2; exact ⟨gm3 175 rfl rfl, rfl, by decide, by decide, gm1 7 rfl rfl, rfl, ⟨by decide, gm3 174 rfl rfl, gp1 11 rfl⟩, by decide⟩
theorem mk_85 : xMok 85 := fun M y b rt h1 h2 => by cases h1; cases h2; exact ⟨gm3 179 rfl rfl, rfl, by decide, by decide, gm1 7 rfl rfl, rfl, ⟨by decide, gm3 178 rfl rfl, gp1 12 rfl⟩, by decide⟩
theorem mk_86 : xMok 86 := fun M y b rt h1 h2 => by cases h1; cases h2; exact ⟨gm3 192 rfl rfl, rfl, by decide, by decide, gm1 7 rfl rfl, rfl, ⟨by decide, gm3 191 rfl rfl, gp1 14 rfl⟩, by decide⟩
theorem mk_87 : xMok 87 := fun M y b rt h1 h2 => by cases h1; cases h2; exact ⟨gm3 207 rfl rfl, rfl, by decide, by decide, gm1 7 rfl rfl, rfl, ⟨by decide, gm3 206 rfl rfl, gp2 0 rfl⟩, by decide⟩
theorem mk_88 : xMok 88 := fun M y b rt h1 h2 => by cases h1; cases h2; exact ⟨gm3 197 rfl rfl, rfl, by decide, by decide, gm1 7 rfl rfl, rfl, ⟨by decide, gm3 196 rfl rfl, gp1 15 rfl⟩, by decide⟩
theorem mk_89 : xMok 89 := fun M y b rt h1 h2 => by cases h1; cases h2; exact ⟨gm1 171 rfl rfl, rfl, by decide, by decide, gm1 8 rfl rfl, rfl, ⟨by decide, rfl, gm1 170 rfl rfl, rfl⟩, by decide⟩
theorem mk_90 : xMok 90 := fun M y b rt h1 h2 => by cases h1; cases h2; exact ⟨gm4 7 rfl rfl, rfl, by decide, by decide, gm1 8 rfl rfl, rfl, ⟨by decide, rfl, gm4 6 rfl rfl, rfl⟩, by decide⟩
theorem mk_91 : xMok 91 := fun M y b rt h1 h2 => by cases h1; cases h2; exact ⟨gm3 89 rfl rfl, rfl, by decide, by decide, gm1 8 rfl rfl, rfl, ⟨by decide, gm3 87 rfl rfl, gm3 88 rfl rfl⟩, by decide⟩
theorem mk_92 : xMok 92 := fun M y b rt h1 h2 => by cases h1; cases h2; exact ⟨gm2 169 rfl rfl, rfl, by decide, by decide, gm1 8 rfl rfl, rfl, ⟨by decide, gm2 167 rfl rfl, gm2 168 rfl rfl⟩, by decide⟩
theorem mk_93 : xMok 93 := fun M y b rt h1 h2 => by cases h1; cases h2; exact ⟨gm3 102 rfl rfl, rfl, by decide, by decide, gm1 8 rfl rfl, rfl, ⟨by decide, gm3 100 rfl rfl, gm3 101 rfl rfl⟩, by decide⟩
theorem mk_94 : xMok 94 := fun M y b rt h1 h2 => by cases h1; cases h2; exact ⟨gm3 187 rfl rfl, rfl, by decide, by decide, gm1 8 rfl rfl, rfl, ⟨by decide, gm3 185 rfl rfl, gm3 186 rfl rfl⟩, by decide⟩
theorem mk_95 : xMok 95 := fun M y b rt h1 h2 => by cases h1; cases h2; exact ⟨gm4 2 rfl rfl, rfl, by decide, by decide, gm1 8 rfl rfl, rfl, ⟨by decide, gm4 0 rfl rfl, gm4 1 rfl rfl⟩, by decide⟩
theorem mk_96 : xMok 96 := fun M y b rt h1 h2 => by cases h1; cases h2; exact ⟨gm2 173 rfl rfl, rfl, by decide, by decide, gm1 8 rfl rfl, rfl, ⟨by decide, gm2 171 rfl rfl, gm2 172 rfl rfl⟩, by decide⟩
theorem mk_97 : xMok 97 := fun M y b rt h1 h2 => by cases h1; cases h2; exact ⟨gm2 181 rfl rfl, rfl, by decide, by decide, gm1 8 rfl rfl, rfl, gm2 180 rfl rfl, by decide⟩
theorem mk_98 : xMok 98 := fun M y b rt h1 h2 => by cases h1; cases h2; exact ⟨gm1 23 rfl rfl, rfl, by decide, by decide, gm1 1 rfl rfl, rfl, ⟨by decide, rfl, gm1 22 rfl rfl, rfl⟩, by decide⟩
theorem mk_99 : xMok 99 := fun M y b rt h1 h2 => by cases h1; cases h2; exact ⟨gm2 67 rfl rfl, rfl, by decide, by decide, gm1 1 rfl rfl, rfl, ⟨by decide, gm2 65 rfl rfl, gm2 66 rfl rfl⟩, by decide⟩
theorem mk_100 : xMok 100 := fun M y b rt h1 h2 => by cases h1; cases h2; exact ⟨gm2 86 rfl rfl, rfl, by decide, by decide, gm1 1 rfl rfl, rfl, ⟨by decide, gm2 84 rfl rfl, gm2 85 rfl rfl⟩, by decide⟩
theorem mk_101 : xMok 101 := fun M y b rt h1 h2 => by cases h1; cases h2; exact ⟨gm2 90 rfl rfl, rfl, by decide, by decide, gm1 1 rfl rfl, rfl, ⟨by decide, gm2 88 rfl rfl, gm2 89 rfl rfl⟩, by decide⟩
theorem mk_102 : xMok 102 := fun M y b rt h1 h2 => by cases h1; cases h2; exact ⟨gm2 102 rfl rfl, rfl, by decide, by decide, gm1 1 rfl rfl, rfl, ⟨by decide, gm2 100 rfl rfl, gm2 101 rfl rfl⟩, by decide⟩
theorem mk_103 : xMok 103 := fun M y b rt h1 h2 => by cases h1; cases h2; exact ⟨gm2 110 rfl rfl, rfl, by decide, by decide, gm1 1 rfl rfl, rfl, ⟨by decide, gm2 108 rfl rfl, gm2 109 rfl rfl⟩, by decide⟩
theorem mk_104 : xMok 104 := fun M y b rt h1 h2 => by cases h1; cases h2; exact ⟨gm2 188 rfl rfl, rfl, by decide, by decide, gm1 1 rfl rfl, rfl, ⟨by decide, gm2 186 rfl rfl, gm2 187 rfl rfl⟩, by decide⟩
theorem mk_105 : xMok 105 := fun M y b rt h1 h2 => by cases h1; cases h2; exact ⟨gm2 220 rfl rfl, rfl, by decide, by decide, gm1 1 rfl rfl, rfl, ⟨by decide, gm2 218 rfl rfl, gm2 219 rfl rfl⟩, by decide⟩
theorem mk_106 : xMok 106 := fun M y b rt h1 h2 => by cases h1; cases h2; exact ⟨gm2 228 rfl rfl, rfl, by decide, by decide, gm1 1 rfl rfl, rfl, ⟨by decide, gm2 226 rfl rfl, gm2 227 rfl rfl⟩, by decide⟩
theorem mk_107 : xMok 107 := fun M y b rt h1 h2 => by cases h1; cases h2; exact ⟨gm2 232 rfl rfl, rfl, by decide, by decide, gm1 1 rfl rfl, rfl, ⟨by decide, gm2 230 rfl rfl, gm2 231 rfl rfl⟩, by decide⟩
theorem mk_108 : xMok 108 := fun M y b rt h1 h2 => by cases h1; cases h2; exact ⟨gm3 77 rfl rfl, rfl, by decide, by decide, gm1 1 rfl rfl, rfl, ⟨by decide, gm3 75 rfl rfl, gm3 76 rfl rfl⟩, by decide⟩
theorem mk_109 : xMok 109 := fun M y b rt h1 h2 => by cases h1; cases h2; exact ⟨gm3 81 rfl rfl, rfl, by decide, by decide, gm1 1 rfl rfl, rfl, ⟨by decide, gm3 79 rfl rfl, gm3 80 rfl rfl⟩, by decide⟩
theorem mk_110 : xMok 110 := fun M y b rt h1 h2 => by cases h1; cases h2; exact ⟨gm4 28 rfl rfl, rfl, by decide, by decide, gm1 1 rfl rfl, rfl, ⟨by decide, gm4 26 rfl rfl, gm4 27 rfl rfl⟩, by decide⟩
theorem mk_111 : xMok 111 := fun M y b rt h1 h2 => by cases h1; cases h2; exact ⟨gm4 112 rfl rfl, rfl, by decide, by decide, gm1 1 rfl rfl, rfl, ⟨by decide, gm4 110 rfl rfl, gm4 111 rfl rfl⟩, by decide⟩
theorem mk_112 : xMok 112 := fun M y b rt h1 h2 => by cases h1; cases h2; exact ⟨gm4 116 rfl rfl, rfl, by decide, by decide, gm1 1 rfl rfl, rfl, ⟨by decide, gm4 114 rfl rfl, gm4 115 rfl rfl⟩, by decide⟩
theorem mk_113 : xMok 113 := fun M y b rt h1 h2 => by cases h1; cases h2; exact ⟨gm4 120 rfl rfl, rfl, by decide, by decide, gm1 1 rfl rfl, rfl, ⟨by decide, gm4 118 rfl rfl, gm4 119 rfl rfl⟩, by decide⟩
theorem mk_114 : xMok 114 := fun M y b rt h1 h2 => by cases h1; cases h2; exact ⟨gm4 124 rfl rfl, rfl, by decide, by decide, gm1 1 rfl rfl, rfl, ⟨by decide, gm4 122 rfl rfl, gm4 123 rfl rfl⟩, by decide⟩
theorem mk_115 : xMok 115 := fun M y b rt h1 h2 => by cases h1; cases h2; exact ⟨gm4 132 rfl rfl, rfl, by decide, by decide, gm1 1 rfl rfl, rfl, ⟨by decide, gm4 130 rfl rfl, gm4 131 rfl rfl⟩, by decide⟩
theorem mk_116 : xMok 116 := fun M y b rt h1 h2 => by cases h1; cases h2; exact ⟨gm4 136 rfl rfl, rfl, by decide, by decide, gm1 1 rfl rfl, rfl, ⟨by decide, gm4 134 rfl rfl, gm4 135 rfl rfl⟩, by decide⟩
theorem mk_117 : xMok 117 := fun M y b rt h1 h2 => by cases h1; cases h2; exact ⟨gm4 140 rfl rfl, rfl, by decide, by decide, gm1 1 rfl rfl, rfl, ⟨by decide, gm4 138 rfl rfl, gm4 139 rfl rfl⟩, by decide⟩
theorem mk_118 : xMok 118 := fun M y b rt h1 h2 => by cases h1; cases h2; exact ⟨gm4 144 rfl rfl, rfl, by decide, by decide, gm1 1 rfl rfl, rfl, ⟨by decide, gm4 142 rfl rfl, gm4 143 rfl rfl⟩, by decide⟩
theorem mk_119 : xMok 119 := fun M y b rt h1 h2 => by cases h1; cases h2; exact ⟨gm4 152 rfl rfl, rfl, by decide, by decide, gm1 1 rfl rfl, rfl, ⟨by decide, gm4 150 rfl rfl, gm4 151 rfl rfl⟩, by decide⟩
theorem mk_120 : xMok 120 := fun M y b rt h1 h2 => by cases h1; cases h2; exact ⟨gm4 160 rfl rfl, rfl, by decide, by decide, gm1 1 rfl rfl, rfl, ⟨by decide, gm4 158 rfl rfl, gm4 159 rfl rfl⟩, by decide⟩
theorem mk_121 : xMok 121 := fun M y b rt h1 h2 => by cases h1; cases h2; exact ⟨gm4 169 rfl rfl, rfl, by decide, by decide, gm1 1 rfl rfl, rfl, ⟨by decide, gm4 167 rfl rfl, gm4 168 rfl rfl⟩, by decide⟩
theorem mk_122 : xMok 122 := fun M y b rt h1 h2 => by cases h1; cases h2; exact ⟨gm4 178 rfl rfl, rfl, by decide, by decide, gm1 1 rfl rfl, rfl, ⟨by decide, gm4 176 rfl rfl, gm4 177 rfl rfl⟩, by decide⟩
theorem mk_123 : xMok 123 := fun M y b rt h1 h2 => by cases h1; cases h2; exact ⟨gm4 186 rfl rfl, rfl, by decide, by decide, gm1 1 rfl rfl, rfl, ⟨by decide, gm4 184 rfl rfl, gm4 185 rfl rfl⟩, by decide⟩
theorem mk_124 : xMok 124 := fun M y b rt h1 h2 => by cases h1; cases h2; exact ⟨gm4 191 rfl rfl, rfl, by decide, by decide, gm1 1 rfl rfl, rfl, ⟨by decide, gm4 189 rfl rfl, gm4 190 rfl rfl⟩, by decide⟩
theorem mk_125 : xMok 125 := fun M y b rt h1 h2 => by cases h1; cases h2; exact ⟨gm4 197 rfl rfl, rfl, by decide, by decide, gm1 1 rfl rfl, rfl, ⟨by decide, gm4 195 rfl rfl, gm4 196 rfl rfl⟩, by decide⟩
theorem mk_126 : xMok 126 := fun M y b rt h1 h2 => by cases h1; cases h2; exact ⟨gm4 206 rfl rfl, rfl, by decide, by decide, gm1 1 rfl rfl, rfl, ⟨by decide, gm4 204 rfl rfl, gm4 205 rfl rfl⟩, by decide⟩
theorem mk_127 : xMok 127 := fun M y b rt h1 h2 => by cases h1; cases h2; exact ⟨gm4 214 rfl rfl, rfl, by decide, by decide, gm1 1 rfl rfl, rfl, ⟨by decide, gm4 212 rfl rfl, gm4 213 rfl rfl⟩, by decide⟩
theorem mk_128 : xMok 128 := fun M y b rt h1 h2 => by cases h1; cases h2; exact ⟨gm4 222 rfl rfl, rfl, by decide, by decide, gm1 1 rfl rfl, rfl, ⟨by decide, gm4 220 rfl rfl, gm4 221 rfl rfl⟩, by decide⟩
theorem mk_129 : xMok 129 := fun M y b rt h1 h2 => by cases h1; cases h2; exact ⟨gm4 226 rfl rfl, rfl, by decide, by decide, gm1 1 rfl rfl, rfl, ⟨by decide, gm4 224 rfl rfl, gm4 225 rfl rfl⟩, by decide⟩
theorem mk_130 : xMok 130 := fun M y b rt h1 h2 => by cases h1; cases h2; exact ⟨gm5 0 rfl rfl, rfl, by decide, by decide, gm1 1 rfl rfl, rfl, ⟨by decide, gm4 238 rfl rfl, gm4 239 rfl rfl⟩, by decide⟩
theorem mk_131 : xMok 131 := fun M y b rt h1 h2 => by cases h1; cases h2; exact ⟨gm5 11 rfl rfl, rfl, by decide, by decide, gm1 1 rfl rfl, rfl, ⟨by decide, gm5 9 rfl rfl, gm5 10 rfl rfl⟩, by decide⟩
theorem mk_132 : xMok 132 := fun M y b rt h1 h2 => by cases h1; cases h2; exact ⟨gm5 25 rfl rfl, rfl, by decide, by decide, gm1 1 rfl rfl, rfl, ⟨by decide, gm5 23 rfl rfl, gm5 24 rfl rfl⟩, by decide⟩
theorem mk_133 : xMok 133 := fun M y b rt h1 h2 => by cases h1; cases h2; exact ⟨gm5 30 rfl rfl, rfl, by decide, by decide, gm1 1 rfl rfl, rfl, ⟨by decide, gm5 28 rfl rfl, gm5 29 rfl rfl⟩, by decide⟩
theorem mk_134 : xMok 134 := fun M y b rt h1 h2 => by cases h1; cases h2; exact ⟨gm5 46 rfl rfl, rfl, by decide, by decide, gm1 1 rfl rfl, rfl, ⟨by decide, gm5 44 rfl rfl, gm5 45 rfl rfl⟩, by decide⟩
theorem mk_135 : xMok 135 := fun M y b rt h1 h2 => by cases h1; cases h2; exact ⟨gm5 50 rfl rfl, rfl, by decide, by decide, gm1 1 rfl rfl, rfl, ⟨by decide, gm5 48 rfl rfl, gm5 49 rfl rfl⟩, by decide⟩
theorem mk_136 : xMok 136 := fun M y b rt h1 h2 => by cases h1; cases h2; exact ⟨gm5 87 rfl rfl, rfl, by decide, by decide, gm1 1 rfl rfl, rfl, ⟨by decide, gm5 85 rfl rfl, gm5 86 rfl rfl⟩, by decide⟩
theorem mk_137 : xMok 137 := fun M y b rt h1 h2 => by cases h1; cases h2; exact ⟨gm5 91 rfl rfl, rfl, by decide, by decide, gm1 1 rfl rfl, rfl, ⟨by decide, gm5 89 rfl rfl, gm5 90 rfl rfl⟩, by decide⟩
theorem mk_138 : xMok 138 := fun M y b rt h1 h2 => by cases h1; cases h2; exact ⟨gm5 95 rfl rfl, rfl, by decide, by decide, gm1 1 rfl rfl, rfl, ⟨by decide, gm5 93 rfl rfl, gm5 94 rfl rfl⟩, by decide⟩
theorem mk_139 : xMok 139 := fun M y b rt h1 h2 => by cases h1; cases h2; exact ⟨gm2 113 rfl rfl, rfl, by decide, by decide, gm1 1 rfl rfl, rfl, gm2 112 rfl rfl, by decide⟩
theorem mk_140 : xMok 140 := fun M y b rt h1 h2 => by cases h1; cases h2; exact ⟨gm2 74 rfl rfl, rfl, by decide, by decide, gm1 1 rfl rfl, rfl, gm2 73 rfl rfl, by decide⟩
theorem mk_141 : xMok 141 := fun M y b rt h1 h2 => by cases h1; cases h2; exact ⟨gm2 195 rfl rfl, rfl, by decide, by decide, gm1 1 rfl rfl, rfl, ⟨by decide, gm2 194 rfl rfl, gp1 0 rfl⟩, by decide⟩
theorem mk_142 : xMok 142 := fun M y b rt h1 h2 => by cases h1; cases h2; exact ⟨gm2 216 rfl rfl, rfl, by decide, by decide, gm1 1 rfl rfl, rfl, ⟨by decide, gm2 215 rfl rfl, gp1 3 rfl⟩, by decide⟩
theorem mk_143 : xMok 143 := fun M y b rt h1 h2 => by cases h1; cases h2; exact ⟨gm4 128 rfl rfl, rfl, by decide, by decide, gm1 1 rfl rfl, rfl, ⟨by decide, gm4 127 rfl rfl, gp2 9 rfl⟩, by decide⟩
theorem mk_144 : xMok 144 := fun M y b rt h1 h2 => by cases h1; cases h2; exact ⟨gm2 191 rfl rfl, rfl, by decide, by decide, gm1 1 rfl rfl, rfl, gm2 190 rfl rfl, by decide⟩
theorem mk_145 : xMok 145 := fun M y b rt h1 h2 => by cases h1; cases h2; exact ⟨gm2 204 rfl rfl, rfl, by decide, by decide, gm1 1 rfl rfl, rfl, ⟨by decide, gm2 203 rfl rfl, gp1 1 rfl⟩, by decide⟩
theorem mk_146 : xMok 146 := fun M y b rt h1 h2 => by cases h1; cases h2; exact ⟨gm2 208 rfl rfl, rfl, by decide, by decide, gm1 1 rfl rfl, rfl, ⟨by decide, gm2 207 rfl rfl, gp1 2 rfl⟩, by decide⟩
theorem mk_147 : xMok 147 := fun M y b rt h1 h2 => by cases h1; cases h2; exact ⟨gm4 52 rfl rfl, rfl, by decide, by decide, gm1 1 rfl rfl, rfl, ⟨by decide, gm4 51 rfl rfl, gp2 7 rfl⟩, by decide⟩
theorem mk_148 : xMok 148 := fun M y b rt h1 h2 => by cases h1; cases h2; exact ⟨gm4 41 rfl rfl, rfl, by decide, by decide, gm1 1 rfl rfl, rfl, ⟨by decide, gm4 40 rfl rfl, gp2 5 rfl⟩, by decide⟩
theorem mk_149 : xMok 149 := fun M y b rt h1 h2 => by cases h1; cases h2; exact ⟨gm4 46 rfl rfl, rfl, by decide, by decide, gm1 1 rfl rfl, rfl, ⟨by decide, gm4 45 rfl rfl, gp2 6 rfl⟩, by decide⟩
theorem mk_150 : xMok 150 := fun M y b rt h1 h2 => by cases h1; cases h2; exact ⟨gm4 156 rfl rfl, rfl, by decide, by decide, gm1 1 rfl rfl, rfl, ⟨by decide, gm4 155 rfl rfl, gp2 10 rfl⟩, by decide⟩
theorem mk_151 : xMok 151 := fun M y b rt h1 h2 => by cases h1; cases h2; exact ⟨gm5 20 rfl rfl, rfl, by decide, by decide, gm1 1 rfl rfl, rfl, ⟨by decide, gm5 19 rfl rfl, gp2 12 rfl⟩, by decide⟩
theorem mk_152 : xMok 152 := fun M y b rt h1 h2 => by cases h1; cases h2; exact ⟨gm5 34 rfl rfl, rfl, by decide, by decide, gm1 1 rfl rfl, rfl, gm5 33 rfl rfl, by decide⟩
theorem mk_153 : xMok 153 := fun M y b rt h1 h2 => by cases h1; cases h2; exact ⟨gm5 41 rfl rfl, rfl, by decide, by decide, gm1 1 rfl rfl, rfl, ⟨by decide, gm5 40 rfl rfl, gp2 13 rfl⟩, by decide⟩
theorem mk_154 : xMok 154 := fun M y b rt h1 h2 => by cases h1; cases h2; exact ⟨gm6 8 rfl rfl, rfl, by decide, by decide, gm1 10 rfl rfl, rfl, gm6 7 rfl rfl, by decide⟩
theorem mk_155 : xMok 155 := fun M y b rt h1 h2 => by cases h1; cases h2; exact ⟨gm6 190 rfl rfl, rfl, by decide, by decide, gm1 10 rfl rfl, rfl, gm6 189 rfl rfl, by decide⟩
theorem mk_156 : xMok 156 := fun M y b rt h1 h2 => by cases h1; cases h2; exact ⟨gm7 151 rfl rfl, rfl, by decide, by decide, gm1 10 rfl rfl, rfl, gm7 150 rfl rfl, by decide⟩
theorem mk_157 : xMok 157 := fun M y b rt h1 h2 => by cases h1; cases h2; exact ⟨gm6 12 rfl rfl, rfl, by decide, by decide, gm1 10 rfl rfl, rfl, ⟨by decide, gm6 11 rfl rfl, gp2 14 rfl⟩, by decide⟩
theorem mk_158 : xMok 158 := fun M y b rt h1 h2 => by cases h1; cases h2; exact ⟨gm6 16 rfl rfl, rfl, by decide, by decide, gm1 10 rfl rfl, rfl, ⟨by decide, gm6 15 rfl rfl, gp2 15 rfl⟩, by decide⟩
theorem mk_159 : xMok 159 := fun M y b rt h1 h2 => by cases h1; cases h2; exact ⟨gm6 24 rfl rfl, rfl, by decide, by decide, gm1 10 rfl rfl, rfl, ⟨by decide, gm6 23 rfl rfl, gp3 0 rfl⟩, by decide⟩
theorem mk_160 : xMok 160 := fun M y b rt h1 h2 => by cases h1; cases h2; exact ⟨gm6 209 rfl rfl, rfl, by decide, by decide, gm1 10 rfl rfl, rfl, gm6 208 rfl rfl, by decide⟩
theorem mk_161 : xMok 161 := fun M y b rt h1 h2 => by cases h1; cases h2; exact ⟨gm8 12 rfl rfl, rfl, by decide, by decide, gm1 10 rfl rfl, rfl, gm8 11 rfl rfl, by decide⟩
theorem mk_162 : xMok 162 := fun M y b rt h1 h2 => by cases h1; cases h2; exact ⟨gm6 31 rfl rfl, rfl, by decide, by decide, gm1 10 rfl rfl, rfl, gm6 30 rfl rfl, by decide⟩
theorem mk_163 : xMok 163 := fun M y b rt h1 h2 => by cases h1; cases h2; exact ⟨gm6 71 rfl rfl, rfl, by decide, by decide, gm1 10 rfl rfl, rfl, gm6 70 rfl rfl, by decide⟩
theorem mk_164 : xMok 164 := fun M y b rt h1 h2 => by cases h1; cases h2; exact ⟨gm5 100 rfl rfl, rfl, by decide, by decide, gm1 10 rfl rfl, rfl, ⟨by decide, rfl, gm5 99 rfl rfl, rfl⟩, by decide⟩
theorem mk_165 : xMok 165 := fun M y b rt h1 h2 => by cases h1; cases h2; exact ⟨gm6 194 rfl rfl, rfl, by decide, by decide, gm1 10 rfl rfl, rfl, ⟨by decide, gm6 193 rfl rfl, gp4 12 rfl⟩, by decide⟩
theorem mk_166 : xMok 166 := fun M y b rt h1 h2 => by cases h1; cases h2; exact ⟨gm6 221 rfl rfl, rfl, by decide, by decide, gm1 10 rfl rfl, rfl, ⟨by decide, gm6 220 rfl rfl, gp5 2 rfl⟩, by decide⟩
theorem mk_167 : xMok 167 := fun M y b rt h1 h2 => by cases h1; cases h2; exact ⟨gm6 5 rfl rfl, rfl, by decide, by decide, gm1 10 rfl rfl, rfl, ⟨by decide, gm6 3 rfl rfl, gm6 4 rfl rfl⟩, by decide⟩
theorem mk_168 : xMok 168 := fun M y b rt h1 h2 => by cases h1; cases h2; exact ⟨gm6 20 rfl rfl, rfl, by decide, by decide, gm1 10 rfl rfl, rfl, ⟨by decide, gm6 18 rfl rfl, gm6 19 rfl rfl⟩, by decide⟩
theorem mk_169 : xMok 169 := fun M y b rt h1 h2 => by cases h1; cases h2; exact ⟨gm6 34 rfl rfl, rfl, by decide, by decide, gm1 10 rfl rfl, rfl, gm6 33 rfl rfl, by decide⟩
theorem mk_170 : xMok 170 := fun M y b rt h1 h2 => by cases h1; cases h2; exact ⟨gm6 61 rfl rfl, rfl, by decide, by decide, gm1 10 rfl rfl, rfl, ⟨by decide, gm6 60 rfl rfl, gp3 3 rfl⟩, by decide⟩
theorem mk_171 : xMok 171 := fun M y b rt h1 h2 => by cases h1; cases h2; exact ⟨gm7 208 rfl rfl, rfl, by decide, by decide, gm1 10 rfl rfl, rfl, ⟨by decide, gm7 207 rfl rfl, gp7 8 rfl⟩, by decide⟩
theorem mk_172 : xMok 172 := fun M y b rt h1 h2 => by cases h1; cases h2; exact ⟨gm6 130 rfl rfl, rfl, by decide, by decide, gm1 10 rfl rfl, rfl, ⟨by decide, gm6 129 rfl rfl, gp4 1 rfl⟩, by decide⟩
theorem mk_173 : xMok 173 := fun M y b rt h1 h2 => by cases h1; cases h2; exact ⟨gm6 64 rfl rfl, rfl, by decide, by decide, gm1 10 rfl rfl, rfl, gm6 63 rfl rfl, by decide⟩
theorem mk_174 : xMok 174 := fun M y b rt h1 h2 => by cases h1; cases h2; exact ⟨gm6 75 rfl rfl, rfl, by decide, by decide, gm1 10 rfl rfl, rfl, ⟨by decide, gm6 74 rfl rfl, gp3 4 rfl⟩, by decide⟩
theorem mk_175 : xMok 175 := fun M y b rt h1 h2 => by cases h1; cases h2; exact ⟨gm6 57 rfl rfl, rfl, by decide, by decide, gm1 10 rfl rfl, rfl, ⟨by decide, gm6 56 rfl rfl, gp3 2 rfl⟩, by decide⟩
theorem mk_176 : xMok 176 := fun M y b rt h1 h2 => by cases h1; cases h2; exact ⟨gm6 87 rfl rfl, rfl, by decide, by decide, gm1 10 rfl rfl, rfl, ⟨by decide, gm6 86 rfl rfl, gp3 7 rfl⟩, by decide⟩
theorem mk_177 : xMok 177 := fun M y b rt h1 h2 => by cases h1; cases h2; exact ⟨gm6 83 rfl rfl, rfl, by decide, by decide, gm1 10 rfl rfl, rfl, ⟨by decide, gm6 82 rfl rfl, gp3 6 rfl⟩, by decide⟩
theorem mk_178 : xMok 178 := fun M y b rt h1 h2 => by cases h1; cases h2; exact ⟨gm6 79 rfl rfl, rfl, by decide, by decide, gm1 10 rfl rfl, rfl, ⟨by decide, gm6 78 rfl rfl, gp3 5 rfl⟩, by decide⟩
theorem mk_179 : xMok 179 := fun M y b rt h1 h2 => by cases h1; cases h2; exact ⟨gm6 38 rfl rfl, rfl, by decide, by decide, gm1 10 rfl rfl, rfl, ⟨by decide, gm6 37 rfl rfl, gp3 1 rfl⟩, by decide⟩
theorem mk_180 : xMok 180 := fun M y b rt h1 h2 => by cases h1; cases h2; exact ⟨gm6 28 rfl rfl, rfl, by decide, by decide, gm1 10 rfl rfl, rfl, ⟨by decide, gm6 26 rfl rfl, gm6 27 rfl rfl⟩, by decide⟩
theorem mk_181 : xMok 181 := fun M y b rt h1 h2 => by cases h1; cases h2; exact ⟨gm6 42 rfl rfl, rfl, by decide, by decide, gm1 10 rfl rfl, rfl, ⟨by decide, gm6 40 rfl rfl, gm6 41 rfl rfl⟩, by decide⟩
theorem mk_182 : xMok 182 := fun M y b rt h1 h2 => by cases h1; cases h2; exact ⟨gm6 49 rfl rfl, rfl, by decide, by decide, gm1 10 rfl rfl, rfl, gm6 48 rfl rfl, by decide⟩
theorem mk_183 : xMok 183 := fun M y b rt h1 h2 => by cases h1; cases h2; exact ⟨gm6 46 rfl rfl, rfl, by decide, by decide, gm1 10 rfl rfl, rfl, ⟨by decide, gm6 44 rfl rfl, gm6 45 rfl rfl⟩, by decide⟩
theorem mk_184 : xMok 184 := fun M y b rt h1 h2 => by cases h1; cases h2; exact ⟨gm6 53 rfl rfl, rfl, by decide, by decide, gm1 10 rfl rfl, rfl, ⟨by decide, gm6 51 rfl rfl, gm6 52 rfl rfl⟩, by decide⟩
theorem mk_185 : xMok 185 := fun M y b rt h1 h2 => by cases h1; cases h2; exact ⟨gm6 68 rfl rfl, rfl, by decide, by decide, gm1 10 rfl rfl, rfl, ⟨by decide, gm6 66 rfl rfl, gm6 67 rfl rfl⟩, by decide⟩
theorem mk_186 : xMok 186 := fun M y b rt h1 h2 => by cases h1; cases h2; exact ⟨gm6 160 rfl rfl, rfl, by decide, by decide, gm1 10 rfl rfl, rfl, gm6 159 rfl rfl, by decide⟩
theorem mk_187 : xMok 187 := fun M y b rt h1 h2 => by cases h1; cases h2; exact ⟨gm6 163 rfl rfl, rfl, by decide, by decide, gm1 10 rfl rfl, rfl, gm6 162 rfl rfl, by decide⟩
theorem mk_188 : xMok 188 := fun M y b rt h1 h2 => by cases h1; cases h2; exact ⟨gm6 157 rfl rfl, rfl, by decide, by decide, gm1 10 rfl rfl, rfl, ⟨by decide, gm6 155 rfl rfl, gm6 156 rfl rfl⟩, by decide⟩
theorem mk_189 : xMok 189 := fun M y b rt h1 h2 => by cases h1; cases h2; exact ⟨gm6 167 rfl rfl, rfl, by decide, by decide, gm1 10 rfl rfl, rfl, ⟨by decide, gm6 165 rfl rfl, gm6 166 rfl rfl⟩, by decide⟩
theorem mk_190 : xMok 190 := fun M y b rt h1 h2 => by cases h1; cases h2; exact ⟨gm6 225 rfl rfl, rfl, by decide, by decide, gm1 10 rfl rfl, rfl, ⟨by decide, gm6 223 rfl rfl, gm6 224 rfl rfl⟩, by decide⟩
theorem mk_191 : xMok 191 := fun M y b rt h1 h2 => by cases h1; cases h2; exact ⟨gm6 229 rfl rfl, rfl, by decide, by decide, gm1 10 rfl rfl, rfl, ⟨by decide, gm6 227 rfl rfl, gm6 228 rfl rfl⟩, by decide⟩
theorem mk_192 : xMok 192 := fun M y b rt h1 h2 => by cases h1; cases h2; exact ⟨gm6 233 rfl rfl, rfl, by decide, by decide, gm1 10 rfl rfl, rfl, ⟨by decide, gm6 231 rfl rfl, gm6 232 rfl rfl⟩, by decide⟩
theorem mk_193 : xMok 193 := fun M y b rt h1 h2 => by cases h1; cases h2; exact ⟨gm7 12 rfl rfl, rfl, by decide, by decide, gm1 10 rfl rfl, rfl, gm7 11 rfl rfl, by decide⟩
theorem mk_194 : xMok 194 := fun M y b rt h1 h2 => by cases h1; cases h2; exact ⟨gm7 15 rfl rfl, rfl, by decide, by decide, gm1 10 rfl rfl, rfl, gm7 14 rfl rfl, by decide⟩
theorem mk_195 : xMok 195 := fun M y b rt h1 h2 => by cases h1; cases h2; exact ⟨gm7 19 rfl rfl, rfl, by decide, by decide, gm1 10 rfl rfl, rfl, ⟨by decide, gm7 18 rfl rfl, gp5 6 rfl⟩, by decide⟩
theorem mk_196 : xMok 196 := fun M y b rt h1 h2 => by cases h1; cases h2; exact ⟨gm7 9 rfl rfl, rfl, by decide, by decide, gm1 10 rfl rfl, rfl, ⟨by decide, gm7 8 rfl rfl, gp5 5 rfl⟩, by decide⟩
theorem mk_197 : xMok 197 := fun M y b rt h1 h2 => by cases h1; cases h2; exact ⟨gm7 36 rfl rfl, rfl, by decide, by decide, gm1 10 rfl rfl, rfl, ⟨by decide, gm7 35 rfl rfl, gp5 10 rfl⟩, by decide⟩
theorem mk_198 : xMok 198 := fun M y b rt h1 h2 => by cases h1; cases h2; exact ⟨gm7 52 rfl rfl, rfl, by decide, by decide, gm1 10 rfl rfl, rfl, ⟨by decide, gm7 51 rfl rfl, gp5 14 rfl⟩, by decide⟩
theorem mk_199 : xMok 199 := fun M y b rt h1 h2 => by cases h1; cases h2; exact ⟨gm7 32 rfl rfl, rfl, by decide, by decide, gm1 10 rfl rfl, rfl, ⟨by decide, gm7 31 rfl rfl, gp5 9 rfl⟩, by decide⟩
theorem mk_200 : xMok 200 := fun M y b rt h1 h2 => by cases h1; cases h2; exact ⟨gm7 56 rfl rfl, rfl, by decide, by decide, gm1 10 rfl rfl, rfl, ⟨by decide, gm7 55 rfl rfl, gp5 15 rfl⟩, by decide⟩
theorem mk_201 : xMok 201 := fun M y b rt h1 h2 => by cases h1; cases h2; exact ⟨gm7 60 rfl rfl, rfl, by decide, by decide, gm1 10 rfl rfl, rfl, ⟨by decide, gm7 59 rfl rfl, gp6 0 rfl⟩, by decide⟩
theorem mk_202 : xMok 202 := fun M y b rt h1 h2 => by cases h1; cases h2; exact ⟨gm6 118 rfl rfl, rfl, by decide, by decide, gm1 10 rfl rfl, rfl, gm6 117 rfl rfl, by decide⟩
theorem mk_203 : xMok 203 := fun M y b rt h1 h2 => by cases h1; cases h2; exact ⟨gm7 64 rfl rfl, rfl, by decide, by decide, gm1 10 rfl rfl, rfl, ⟨by decide, gm7 63 rfl rfl, gp6 1 rfl⟩, by decide⟩
theorem mk_204 : xMok 204 := fun M y b rt h1 h2 => by cases h1; cases h2; exact ⟨gm7 80 rfl rfl, rfl, by decide, by decide, gm1 10 rfl rfl, rfl, ⟨by decide, gm7 79 rfl rfl, gp6 5 rfl⟩, by decide⟩
theorem mk_205 : xMok 205 := fun M y b rt h1 h2 => by cases h1; cases h2; exact ⟨gm7 28 rfl rfl, rfl, by decide, by decide, gm1 10 rfl rfl, rfl, ⟨by decide, gm7 27 rfl rfl, gp5 8 rfl⟩, by decide⟩
theorem mk_206 : xMok 206 := fun M y b rt h1 h2 => by cases h1; cases h2; exact ⟨gm7 24 rfl rfl, rfl, by decide, by decide, gm1 10 rfl rfl, rfl, ⟨by decide, gm7 23 rfl rfl, gp5 7 rfl⟩, by decide⟩
theorem mk_207 : xMok 207 := fun M y b rt h1 h2 => by cases h1; cases h2; exact ⟨gm7 68 rfl rfl, rfl, by decide, by decide, gm1 10 rfl rfl, rfl, ⟨by decide, gm7 67 rfl rfl, gp6 2 rfl⟩, by decide⟩
theorem mk_208 : xMok 208 := fun M y b rt h1 h2 => by cases h1; cases h2; exact ⟨gm7 72 rfl rfl, rfl, by decide, by decide, gm1 10 rfl rfl, rfl, ⟨by decide, gm7 71 rfl rfl, gp6 3 rfl⟩, by decide⟩
theorem mk_209 : xMok 209 := fun M y b rt h1 h2 => by cases h1; cases h2; exact ⟨gm7 76 rfl rfl, rfl, by decide, by decide, gm1 10 rfl rfl, rfl, ⟨by decide, gm7 75 rfl rfl, gp6 4 rfl⟩, by decide⟩
theorem mk_210 : xMok 210 := fun M y b rt h1 h2 => by cases h1; cases h2; exact ⟨gm7 40 rfl rfl, rfl, by decide, by decide, gm1 10 rfl rfl, rfl, ⟨by decide, gm7 39 rfl rfl, gp5 11 rfl⟩, by decide⟩
theorem mk_211 : xMok 211 := fun M y b rt h1 h2 => by cases h1; cases h2; exact ⟨gm7 44 rfl rfl, rfl, by decide, by decide, gm1 10 rfl rfl, rfl, ⟨by decide, gm7 43 rfl rfl, gp5 12 rfl⟩, by decide⟩
theorem mk_212 : xMok 212 := fun M y b rt h1 h2 => by cases h1; cases h2; exact ⟨gm7 48 rfl rfl, rfl, by decide, by decide, gm1 10 rfl rfl, rfl, ⟨by decide, gm7 47 rfl rfl, gp5 13 rfl⟩, by decide⟩
theorem mk_213 : xMok 213 := fun M y b rt h1 h2 => by cases h1; cases h2; exact ⟨gm7 5 rfl rfl, rfl, by decide, by decide, gm1 10 rfl rfl, rfl, ⟨by decide, gm7 4 rfl rfl, gp5 4 rfl⟩, by decide⟩
theorem mk_214 : xMok 214 := fun M y b rt h1 h2 => by cases h1; cases h2; exact ⟨gm7 1 rfl rfl, rfl, by decide, by decide, gm1 10 rfl rfl, rfl, ⟨by decide, gm7 0 rfl rfl, gp5 3 rfl⟩, by decide⟩
theorem mk_215 : xMok 215 := fun M y b rt h1 h2 => by cases h1; cases h2; exact ⟨gm7 84 rfl rfl, rfl, by decide, by decide, gm1 10 rfl rfl, rfl, ⟨by decide, gm7 83 rfl rfl, gp6 6 rfl⟩, by decide⟩
theorem mk_216 : xMok 216 := fun M y b rt h1 h2 => by cases h1; cases h2; exact ⟨gm6 237 rfl rfl, rfl, by decide, by decide, gm1 10 rfl rfl, rfl, ⟨by decide, gm6 235 rfl rfl, gm6 236 rfl rfl⟩, by decide⟩
theorem mk_217 : xMok 217 := fun M y b rt h1 h2 => by cases h1; cases h2; exact ⟨gm7 88 rfl rfl, rfl, by decide, by decide, gm1 10 rfl rfl, rfl, ⟨by decide, gm7 86 rfl rfl, gm7 87 rfl rfl⟩, by decide⟩
theorem mk_218 : xMok 218 := fun M y b rt h1 h2 => by cases h1; cases h2; exact ⟨gm7 96 rfl rfl, rfl, by decide, by decide, gm1 10 rfl rfl, rfl, ⟨by decide, gm7 95 rfl rfl, gp6 7 rfl⟩, by decide⟩
theorem mk_219 : xMok 219 := fun M y b rt h1 h2 => by cases h1; cases h2; exact ⟨gm7 92 rfl rfl, rfl, by decide, by decide, gm1 10 rfl rfl, rfl, ⟨by decide, gm7 90 rfl rfl, gm7 91 rfl rfl⟩, by decide⟩
theorem mk_220 : xMok 220 := fun M y b rt h1 h2 => by cases h1; cases h2; exact ⟨gm6 103 rfl rfl, rfl, by decide, by decide, gm1 10 rfl rfl, rfl, ⟨by decide, gm6 102 rfl rfl, gp3 11 rfl⟩, by decide⟩
theorem mk_221 : xMok 221 := fun M y b rt h1 h2 => by cases h1; cases h2; exact ⟨gm6 122 rfl rfl, rfl, by decide, by decide, gm1 10 rfl rfl, rfl, ⟨by decide, gm6 121 rfl rfl, gp3 15 rfl⟩, by decide⟩
theorem mk_222 : xMok 222 := fun M y b rt h1 h2 => by cases h1; cases h2; exact ⟨gm6 134 rfl rfl, rfl, by decide, by decide, gm1 10 rfl rfl, rfl, ⟨by decide, gm6 133 rfl rfl, gp4 2 rfl⟩, by decide⟩
theorem mk_223 : xMok 223 := fun M y b rt h1 h2 => by cases h1; cases h2; exact ⟨gm6 107 rfl rfl, rfl, by decide, by decide, gm1 10 rfl rfl, rfl, ⟨by decide, gm6 106 rfl rfl, gp3 12 rfl⟩, by decide⟩
theorem mk_224 : xMok 224 := fun M y b rt h1 h2 => by cases h1; cases h2; exact ⟨gm6 111 rfl rfl, rfl, by decide, by decide, gm1 10 rfl rfl, rfl, ⟨by decide, gm6 110 rfl rfl, gp3 13 rfl⟩, by decide⟩
theorem mk_225 : xMok 225 := fun M y b rt h1 h2 => by cases h1; cases h2; exact ⟨gm6 115 rfl rfl, rfl, by decide, by decide, gm1 10 rfl rfl, rfl, ⟨by decide, gm6 114 rfl rfl, gp3 14 rfl⟩, by decide⟩
theorem mk_226 : xMok 226 := fun M y b rt h1 h2 => by cases h1; cases h2; exact ⟨gm6 126 rfl rfl, rfl, by decide, by decide, gm1 10 rfl rfl, rfl, ⟨by decide, gm6 125 rfl rfl, gp4 0 rfl⟩, by decide⟩
theorem mk_227 : xMok 227 := fun M y b rt h1 h2 => by cases h1; cases h2; exact ⟨gm6 140 rfl rfl, rfl, by decide, by decide, gm1 10 rfl rfl, rfl, ⟨by decide, gm6 139 rfl rfl, gp4 3 rfl⟩, by decide⟩
theorem mk_228 : xMok 228 := fun M y b rt h1 h2 => by cases h1; cases h2; exact ⟨gm6 144 rfl rfl, rfl, by decide, by decide, gm1 10 rfl rfl, rfl, ⟨by decide, gm6 143 rfl rfl, gp4 4 rfl⟩, by decide⟩
theorem mk_229 : xMok 229 := fun M y b rt h1 h2 => by cases h1; cases h2; exact ⟨gm6 148 rfl rfl, rfl, by decide, by decide, gm1 10 rfl rfl, rfl, ⟨by decide, gm6 147 rfl rfl, gp4 5 rfl⟩, by decide⟩
theorem mk_230 : xMok 230 := fun M y b rt h1 h2 => by cases h1; cases h2; exact ⟨gm6 152 rfl rfl, rfl, by decide, by decide, gm1 10 rfl rfl, rfl, ⟨by decide, gm6 151 rfl rfl, gp4 6 rfl⟩, by decide⟩
theorem mk_231 : xMok 231 := fun M y b rt h1 h2 => by cases h1; cases h2; exact ⟨gm6 95 rfl rfl, rfl, by decide, by decide, gm1 10 rfl rfl, rfl, ⟨by decide, gm6 94 rfl rfl, gp3 9 rfl⟩, by decide⟩
theorem mk_232 : xMok 232 := fun M y b rt h1 h2 => by cases h1; cases h2; exact ⟨gm6 99 rfl rfl, rfl, by decide, by decide, gm1 10 rfl rfl, rfl, ⟨by decide, gm6 98 rfl rfl, gp3 10 rfl⟩, by decide⟩
theorem mk_233 : xMok 233 := fun M y b rt h1 h2 => by cases h1; cases h2; exact ⟨gm6 187 rfl rfl, rfl, by decide, by decide, gm1 10 rfl rfl, rfl, ⟨by decide, gm6 186 rfl rfl, gp4 11 rfl⟩, by decide⟩
theorem mk_234 : xMok 234 := fun M y b rt h1 h2 => by cases h1; cases h2; exact ⟨gm6 91 rfl rfl, rfl, by decide, by decide, gm1 10 rfl rfl, rfl, ⟨by decide, gm6 90 rfl rfl, gp3 8 rfl⟩, by decide⟩
theorem mk_235 : xMok 235 := fun M y b rt h1 h2 => by cases h1; cases h2; exact ⟨gm6 183 rfl rfl, rfl, by decide, by decide, gm1 10 rfl rfl, rfl, ⟨by decide, gm6 182 rfl rfl, gp4 10 rfl⟩, by decide⟩
theorem mk_236 : xMok 236 := fun M y b rt h1 h2 => by cases h1; cases h2; exact ⟨gm6 179 rfl rfl, rfl, by decide, by decide, gm1 10 rfl rfl, rfl, ⟨by decide, gm6 178 rfl rfl, gp4 9 rfl⟩, by decide⟩
theorem mk_237 : xMok 237 := fun M y b rt h1 h2 => by cases h1; cases h2; exact ⟨gm6 175 rfl rfl, rfl, by decide, by decide, gm1 10 rfl rfl, rfl, ⟨by decide, gm6 174 rfl rfl, gp4 8 rfl⟩, by decide⟩
theorem mk_238 : xMok 238 := fun M y b rt h1 h2 => by cases h1; cases h2; exact ⟨gm6 213 rfl rfl, rfl, by decide, by decide, gm1 10 rfl rfl, rfl, ⟨by decide, gm6 212 rfl rfl, gp5 0 rfl⟩, by decide⟩
theorem mk_239 : xMok 239 := fun M y b rt h1 h2 => by cases h1; cases h2; exact ⟨gm6 217 rfl rfl, rfl, by decide, by decide, gm1 10 rfl rfl, rfl, ⟨by decide, gm6 216 rfl rfl, gp5 1 rfl⟩, by decide⟩
theorem mk_240 : xMok 240 := fun M y b rt h1 h2 => by cases h1; cases h2; exact ⟨gm6 206 rfl rfl, rfl, by decide, by decide, gm1 10 rfl rfl, rfl, ⟨by decide, gm6 205 rfl rfl, gp4 15 rfl⟩, by decide⟩
theorem mk_241 : xMok 241 := fun M y b rt h1 h2 => by cases h1; cases h2; exact ⟨gm6 202 rfl rfl, rfl, by decide, by decide, gm1 10 rfl rfl, rfl, ⟨by decide, gm6 201 rfl rfl, gp4 14 rfl⟩, by decide⟩
theorem mk_242 : xMok 242 := fun M y b rt h1 h2 => by cases h1; cases h2; exact ⟨gm6 198 rfl rfl, rfl, by decide, by decide, gm1 10 rfl rfl, rfl, ⟨by decide, gm6 197 rfl rfl, gp4 13 rfl⟩, by decide⟩
theorem mk_243 : xMok 243 := fun M y b rt h1 h2 => by cases h1; cases h2; exact ⟨gm6 171 rfl rfl, rfl, by decide, by decide, gm1 10 rfl rfl, rfl, ⟨by decide, gm6 170 rfl rfl, gp4 7 rfl⟩, by decide⟩
theorem mk_244 : xMok 244 := fun M y b rt h1 h2 => by cases h1; cases h2; exact ⟨gm7 140 rfl rfl, rfl, by decide, by decide, gm1 10 rfl rfl, rfl, ⟨by decide, gm7 139 rfl rfl, gp6 15 rfl⟩, by decide⟩
theorem mk_245 : xMok 245 := fun M y b rt h1 h2 => by cases h1; cases h2; exact ⟨gm7 136 rfl rfl, rfl, by decide, by decide, gm1 10 rfl rfl, rfl, ⟨by decide, gm7 135 rfl rfl, gp6 14 rfl⟩, by decide⟩
theorem mk_246 : xMok 246 := fun M y b rt h1 h2 => by cases h1; cases h2; exact ⟨gm7 144 rfl rfl, rfl, by decide, by decide, gm1 10 rfl rfl, rfl, ⟨by decide, gm7 143 rfl rfl, gp7 0 rfl⟩, by decide⟩
theorem mk_247 : xMok 247 := fun M y b rt h1 h2 => by cases h1; cases h2; exact ⟨gm7 148 rfl rfl, rfl, by decide, by decide, gm1 10 rfl rfl, rfl, ⟨by decide, gm7 147 rfl rfl, gp7 1 rfl⟩, by decide⟩
theorem mk_248 : xMok 248 := fun M y b rt h1 h2 => by cases h1; cases h2; exact ⟨gm7 132 rfl rfl, rfl, by decide, by decide, gm1 10 rfl rfl, rfl, ⟨by decide, gm7 131 rfl rfl, gp6 13 rfl⟩, by decide⟩
theorem mk_249 : xMok 249 := fun M y b rt h1 h2 => by cases h1; cases h2; exact ⟨gm7 175 rfl rfl, rfl, by decide, by decide, gm1 10 rfl rfl, rfl, ⟨by decide, gm7 174 rfl rfl, gp7 5 rfl⟩, by decide⟩
theorem mk_250 : xMok 250 := fun M y b rt h1 h2 => by cases h1; cases h2; exact ⟨gm7 179 rfl rfl, rfl, by decide, by decide, gm1 10 rfl rfl, rfl, ⟨by decide, gm7 178 rfl rfl, gp7 6 rfl⟩, by decide⟩
theorem mk_251 : xMok 251 := fun M y b rt h1 h2 => by cases h1; cases h2; exact ⟨gm7 171 rfl rfl, rfl, by decide, by decide, gm1 10 rfl rfl, rfl, ⟨by decide, gm7 170 rfl rfl, gp7 4 rfl⟩, by decide⟩
theorem mk_252 : xMok 252 := fun M y b rt h1 h2 => by cases h1; cases h2; exact ⟨gm7 116 rfl rfl, rfl, by decide, by decide, gm1 10 rfl rfl, rfl, ⟨by decide, gm7 115 rfl rfl, gp6 10 rfl⟩, by decide⟩
theorem mk_253 : xMok 253 := fun M y b rt h1 h2 => by cases h1; cases h2; exact ⟨gm7 100 rfl rfl, rfl, by decide, by decide, gm1 10 rfl rfl, rfl, ⟨by decide, gm7 98 rfl rfl, gm7 99 rfl rfl⟩, by decide⟩
theorem mk_254 : xMok 254 := fun M y b rt h1 h2 => by cases h1; cases h2; exact ⟨gm7 120 rfl rfl, rfl, by decide, by decide, gm1 10 rfl rfl, rfl, ⟨by decide, gm7 119 rfl rfl, gp6 11 rfl⟩, by decide⟩
theorem mk_255 : xMok 255 := fun M y b rt h1 h2 => by cases h1; cases h2; exact ⟨gm7 112 rfl rfl, rfl, by decide, by decide, gm1 10 rfl rfl, rfl, ⟨by decide, gm7 111 rfl rfl, gp6 9 rfl⟩, by decide⟩
theorem mk_256 : xMok 256 := fun M y b rt h1 h2 => by cases h1; cases h2; exact ⟨gm7 108 rfl rfl, rfl, by decide, by decide, gm1 10 rfl rfl, rfl, ⟨by decide, gm7 107 rfl rfl, gp6 8 rfl⟩, by decide⟩
theorem mk_257 : xMok 257 := fun M y b rt h1 h2 => by cases h1; cases h2; exact ⟨gm7 128 rfl rfl, rfl, by decide, by decide, gm1 10 rfl rfl, rfl, ⟨by decide, gm7 127 rfl rfl, gp6 12 rfl⟩, by decide⟩
theorem mk_258 : xMok 258 := fun M y b rt h1 h2 => by cases h1; cases h2; exact ⟨gm7 159 rfl rfl, rfl, by decide, by decide, gm1 10 rfl rfl, rfl, ⟨by decide, gm7 158 rfl rfl, gp7 2 rfl⟩, by decide⟩
theorem mk_259 : xMok 259 := fun M y b rt h1 h2 => by cases h1; cases h2; exact ⟨gm7 167 rfl rfl, rfl, by decide, by decide, gm1 10 rfl rfl, rfl, ⟨by decide, gm7 166 rfl rfl, gp7 3 rfl⟩, by decide⟩
theorem mk_260 : xMok 260 := fun M y b rt h1 h2 => by cases h1; cases h2; exact ⟨gm7 104 rfl rfl, rfl, by decide, by decide, gm1 10 rfl rfl, rfl, ⟨by decide, gm7 102 rfl rfl, gm7 103 rfl rfl⟩, by decide⟩
theorem mk_261 : xMok 261 := fun M y b rt h1 h2 => by cases h1; cases h2; exact ⟨gm7 124 rfl rfl, rfl, by decide, by decide, gm1 10 rfl rfl, rfl, ⟨by decide, gm7 122 rfl rfl, gm7 123 rfl rfl⟩, by decide⟩
theorem mk_262 : xMok 262 := fun M y b rt h1 h2 => by cases h1; cases h2; exact ⟨gm7 155 rfl rfl, rfl, by decide, by decide, gm1 10 rfl rfl, rfl, ⟨by decide, gm7 153 rfl rfl, gm7 154 rfl rfl⟩, by decide⟩
theorem mk_263 : xMok 263 := fun M y b rt h1 h2 => by cases h1; cases h2; exact ⟨gm7 163 rfl rfl, rfl, by decide, by decide, gm1 10 rfl rfl, rfl, ⟨by decide, gm7 161 rfl rfl, gm7 162 rfl rfl⟩, by decide⟩
theorem mk_264 : xMok 264 := fun M y b rt h1 h2 => by cases h1; cases h2; exact ⟨gm7 183 rfl rfl, rfl, by decide, by decide, gm1 10 rfl rfl, rfl, ⟨by decide, gm7 181 rfl rfl, gm7 182 rfl rfl⟩, by decide⟩
theorem mk_265 : xMok 265 := fun M y b rt h1 h2 => by cases h1; cases h2; exact ⟨gm7 187 rfl rfl, rfl, by decide, by decide, gm1 10 rfl rfl, rfl, ⟨by decide, gm7 185 rfl rfl, gm7 186 rfl rfl⟩, by decide⟩
theorem mk_266 : xMok 266 := fun M y b rt h1 h2 => by cases h1; cases h2; exact ⟨gm7 191 rfl rfl, rfl, by decide, by decide, gm1 10 rfl rfl, rfl, ⟨by decide, gm7 189 rfl rfl, gm7 190 rfl rfl⟩, by decide⟩
theorem mk_267 : xMok 267 := fun M y b rt h1 h2 => by cases h1; cases h2; exact ⟨gm7 200 rfl rfl, rfl, by decide, by decide, gm1 10 rfl rfl, rfl, ⟨by decide, gm7 199 rfl rfl, gp7 7 rfl⟩, by decide⟩
theorem mk_268 : xMok 268 := fun M y b rt h1 h2 => by cases h1; cases h2; exact ⟨gm7 196 rfl rfl, rfl, by decide, by decide, gm1 10 rfl rfl, rfl, ⟨by decide, gm7 194 rfl rfl, gm7 195 rfl rfl⟩, by decide⟩
theorem mk_269 : xMok 269 := fun M y b rt h1 h2 => by cases h1; cases h2; exact ⟨gm7 204 rfl rfl, rfl, by decide, by decide, gm1 10 rfl rfl, rfl, ⟨by decide, gm7 202 rfl rfl, gm7 203 rfl rfl⟩, by decide⟩
theorem mk_270 : xMok 270 := fun M y b rt h1 h2 => by cases h1; cases h2; exact ⟨gm7 212 rfl rfl, rfl, by decide, by decide, gm1 10 rfl rfl, rfl, ⟨by decide, gm7 210 rfl rfl, gm7 211 rfl rfl⟩, by decide⟩
theorem mk_271 : xMok 271 := fun M y b rt h1 h2 => by cases h1; cases h2; exact ⟨gm7 224 rfl rfl, rfl, by decide, by decide, gm1 10 rfl rfl, rfl, ⟨by decide, gm7 223 rfl rfl, gp7 10 rfl⟩, by decide⟩
theorem mk_272 : xMok 272 := fun M y b rt h1 h2 => by cases h1; cases h2; exact ⟨gm7 220 rfl rfl, rfl, by decide, by decide, gm1 10 rfl rfl, rfl, ⟨by decide, gm7 219 rfl rfl, gp7 9 rfl⟩, by decide⟩
theorem mk_273 : xMok 273 := fun M y b rt h1 h2 => by cases h1; cases h2; exact ⟨gm7 216 rfl rfl, rfl, by decide, by decide, gm1 10 rfl rfl, rfl, ⟨by decide, gm7 214 rfl rfl, gm7 215 rfl rfl⟩, by decide⟩
theorem mk_274 : xMok 274 := fun M y b rt h1 h2 => by cases h1; cases h2; exact ⟨gm7 228 rfl rfl, rfl, by decide, by decide, gm1 10 rfl rfl, rfl, ⟨by decide, gm7 226 rfl rfl, gm7 227 rfl rfl⟩, by decide⟩
theorem mk_275 : xMok 275 := fun M y b rt h1 h2 => by cases h1; cases h2; exact ⟨gm7 232 rfl rfl, rfl, by decide, by decide, gm1 10 rfl rfl, rfl, ⟨by decide, gm7 230 rfl rfl, gm7 231 rfl rfl⟩, by decide⟩
theorem mk_276 : xMok 276 := fun M y b rt h1 h2 => by cases h1; cases h2; exact ⟨gm7 236 rfl rfl, rfl, by decide, by decide, gm1 10 rfl rfl, rfl, ⟨by decide, gm7 234 rfl rfl, gm7 235 rfl rfl⟩, by decide⟩
theorem mk_277 : xMok 277 := fun M y b rt h1 h2 => by cases h1; cases h2; exact ⟨gm8 4 rfl rfl, rfl, by decide, by decide, gm1 10 rfl rfl, rfl, ⟨by decide, gm8 3 rfl rfl, gp7 11 rfl⟩, by decide⟩
theorem mk_278 : xMok 278 := fun M y b rt h1 h2 => by cases h1; cases h2; exact ⟨gm8 0 rfl rfl, rfl, by decide, by decide, gm1 10 rfl rfl, rfl, ⟨by decide, gm7 238 rfl rfl, gm7 239 rfl rfl⟩, by decide⟩
theorem mk_279 : xMok 279 := fun M y b rt h1 h2 => by cases h1; cases h2; exact ⟨gm8 8 rfl rfl, rfl, by decide, by decide, gm1 10 rfl rfl, rfl, ⟨by decide, gm8 6 rfl rfl, gm8 7 rfl rfl⟩, by decide⟩
theorem mk_280 : xMok 280 := fun M y b rt h1 h2 => by cases h1; cases h2; exact ⟨gm8 16 rfl rfl, rfl, by decide, by decide, gm1 10 rfl rfl, rfl, ⟨by decide, gm8 14 rfl rfl, gm8 15 rfl rfl⟩, by decide⟩
theorem mk_281 : xMok 281 := fun M y b rt h1 h2 => by cases h1; cases h2; exact ⟨gm8 23 rfl rfl, rfl, by decide, by decide, gm1 10 rfl rfl, rfl, ⟨by decide, gm8 21 rfl rfl, gm8 22 rfl rfl⟩, by decide⟩
theorem mk_282 : xMok 282 := fun M y b rt h1 h2 => by cases h1; cases h2; exact ⟨gm8 27 rfl rfl, rfl, by decide, by decide, gm1 10 rfl rfl, rfl, ⟨by decide, gm8 25 rfl rfl, gm8 26 rfl rfl⟩, by decide⟩
theorem mk_283 : xMok 283 := fun M y b rt h1 h2 => by cases h1; cases h2; exact ⟨gm8 31 rfl rfl, rfl, by decide, by decide, gm1 10 rfl rfl, rfl, ⟨by decide, gm8 29 rfl rfl, gm8 30 rfl rfl⟩, by decide⟩
theorem mk_284 : xMok 284 := fun M y b rt h1 h2 => by cases h1; cases h2; exact ⟨gm8 39 rfl rfl, rfl, by decide, by decide, gm1 10 rfl rfl, rfl, ⟨by decide, gm8 38 rfl rfl, gp7 13 rfl⟩, by decide⟩
theorem mk_285 : xMok 285 := fun M y b rt h1 h2 => by cases h1; cases h2; exact ⟨gm8 46 rfl rfl, rfl, by decide, by decide, gm1 10 rfl rfl, rfl, gm8 45 rfl rfl, by decide⟩
theorem mk_286 : xMok 286 := fun M y b rt h1 h2 => by cases h1; cases h2; exact ⟨gm8 43 rfl rfl, rfl, by decide, by decide, gm1 10 rfl rfl, rfl, ⟨by decide, gm8 42 rfl rfl, gp7 14 rfl⟩, by decide⟩
theorem mk_287 : xMok 287 := fun M y b rt h1 h2 => by cases h1; cases h2; exact ⟨gm8 35 rfl rfl, rfl, by decide, by decide, gm1 10 rfl rfl, rfl, ⟨by decide, gm8 34 rfl rfl, gp7 12 rfl⟩, by decide⟩
theorem mk_288 : xMok 288 := fun M y b rt h1 h2 => by cases h1; cases h2; exact ⟨gm8 59 rfl rfl, rfl, by decide, by decide, gm1 10 rfl rfl, rfl, ⟨by decide, gm8 58 rfl rfl, gp8 0 rfl⟩, by decide⟩
theorem mk_289 : xMok 289 := fun M y b rt h1 h2 => by cases h1; cases h2; exact ⟨gm8 55 rfl rfl, rfl, by decide, by decide, gm1 10 rfl rfl, rfl, ⟨by decide, gm8 54 rfl rfl, gp7 15 rfl⟩, by decide⟩
theorem mk_290 : xMok 290 := fun M y b rt h1 h2 => by cases h1; cases h2; exact ⟨gm8 51 rfl rfl, rfl, by decide, by decide, gm1 10 rfl rfl, rfl, ⟨by decide, gm8 49 rfl rfl, gm8 50 rfl rfl⟩, by decide⟩
theorem mk_291 : xMok 291 := fun M y b rt h1 h2 => by cases h1; cases h2; exact ⟨gm8 66 rfl rfl, rfl, by decide, by decide, gm1 10 rfl rfl, rfl, ⟨by decide, gm8 64 rfl rfl, gm8 65 rfl rfl⟩, by decide⟩
theorem mk_292 : xMok 292 := fun M y b rt h1 h2 => by cases h1; cases h2; exact ⟨gm8 70 rfl rfl, rfl, by decide, by decide, gm1 10 rfl rfl, rfl, ⟨by decide, gm8 68 rfl rfl, gm8 69 rfl rfl⟩, by decide⟩
theorem mk_293 : xMok 293 := fun M y b rt h1 h2 => by cases h1; cases h2; exact ⟨gm8 74 rfl rfl, rfl, by decide, by decide, gm1 10 rfl rfl, rfl, ⟨by decide, gm8 72 rfl rfl, gm8 73 rfl rfl⟩, by decide⟩
theorem mk_294 : xMok 294 := fun M y b rt h1 h2 => by cases h1; cases h2; exact ⟨gm5 3 rfl rfl, rfl, by decide, by decide, gm1 17 rfl rfl, rfl, gm5 2 rfl rfl, by decide⟩
theorem mk_295 : xMok 295 := fun M y b rt h1 h2 => by cases h1; cases h2; exact ⟨gm3 59 rfl rfl, rfl, by decide, by decide, gm1 9 rfl rfl, rfl, gm3 58 rfl rfl, by decide⟩
theorem mk_296 : xMok 296 := fun M y b rt h1 h2 => by cases h1; cases h2; exact ⟨gm5 15 rfl rfl, rfl, by decide, by decide, gm1 9 rfl rfl, rfl, gm5 14 rfl rfl, by decide⟩
theorem mk_297 : xMok 297 := fun M y b rt h1 h2 => by cases h1; cases h2; exact ⟨gm2 7 rfl rfl, rfl, by decide, by decide, gm1 9 rfl rfl, rfl, gm2 6 rfl rfl, by decide⟩
theorem mk_298 : xMok 298 := fun M y b rt h1 h2 => by cases h1; cases h2; exact ⟨gm3 56 rfl rfl, rfl, by decide, by decide, gm1 9 rfl rfl, rfl, gm3 55 rfl rfl, by decide⟩
theorem mk_299 : xMok 299 := fun M y b rt h1 h2 => by cases h1; cases h2; exact ⟨gm4 10 rfl rfl, rfl, by decide, by decide, gm1 9 rfl rfl, ⟨_, rfl, Or.inr ⟨_, rfl⟩⟩, gm4 9 rfl rfl, by decide⟩
theorem mk_all : ∀ mid, mid < 300 → xMok mid := by
  intro mid h
  match mid, h with
  | 0, _ => exact mk_0
  | 1, _ => exact mk_1
  | 2, _ => exact mk_2
  | 3, _ => exact mk_3
  | 4, _ => exact mk_4
  | 5, _ => exact mk_5
  | 6, _ => exact mk_6
  | 7, _ => exact mk_7
  | 8, _ => exact mk_8
  | 9, _ => exact mk_9
  | 10, _ => exact mk_10
  | 11, _ => exact mk_11
  | 12, _ => exact mk_12
  | 13, _ => exact mk_13
  | 14, _ => exact mk_14
  | 15, _ => exact mk_15
  | 16, _ => exact mk_16
  | 17, _ => exact mk_17
  | 18, _ => exact mk_18
  | 19, _ => exact mk_19
  | 20, _ => exact mk_20
  | 21, _ => exact mk_21
  | 22, _ => exact mk_22
  | 23, _ => exact mk_23
  | 24, _ => exact mk_24
  | 25, _ => exact mk_25
  | 26, _ => exact mk_26
  | 27, _ => exact mk_27
  | 28, _ => exact mk_28
  | 29, _ => exact mk_29
  | 30, _ => exact mk_30
  | 31, _ => exact mk_31
  | 32, _ => exact mk_32
  | 33, _ => exact mk_33
  | 34, _ => exact mk_34
  | 35, _ => exact mk_35
  | 36, _ => exact mk_36
  | 37, _ => exact mk_37
  | 38, _ => exact mk_38
  | 39, _ => exact mk_39
  | 40, _ => exact mk_40
  | 41, _ => exact mk_41
  | 42, _ => exact mk_42
  | 43, _ => exact mk_43
  | 44, _ => exact mk_44
  | 45, _ => exact mk_45
  | 46, _ => exact mk_46
  | 47, _ => exact mk_47
  | 48, _ => exact mk_48
  | 49, _ => exact mk_49
  | 50, _ => exact mk_50
  | 51, _ => exact mk_51
  | 52, _ => exact mk_52
  | 53, _ => exact mk_53
  | 54, _ => exact mk_54
  | 55, _ => exact mk_55
  | 56, _ => exact mk_56
  | 57, _ => exact mk_57
  | 58, _ => exact mk_58
  | 59, _ => exact mk_59
  | 60, _ => exact mk_60
  | 61, _ => exact mk_61
  | 62, _ => exact mk_62
  | 63, _ => exact mk_63
  | 64, _ => exact mk_64
  | 65, _ => exact mk_65
  | 66, _ => exact mk_66
  | 67, _ => exact mk_67
  | 68, _ => exact mk_68
  | 69, _ => exact mk_69
  | 70, _ => exact mk_70
  | 71, _ => exact mk_71
  | 72, _ => exact mk_72
  | 73, _ => exact mk_73
  | 74, _ => exact mk_74
  | 75, _ => exact mk_75
  | 76, _ => exact mk_76
  | 77, _ => exact mk_77
  | 78, _ => exact mk_78
  | 79, _ => exact mk_79
  | 80, _ => exact mk_80
  | 81, _ => exact mk_81
  | 82, _ => exact mk_82
  | 83, _ => exact mk_83
  | 84, _ => exact mk_84
  | 85, _ => exact mk_85
  | 86, _ => exact mk_86
  | 87, _ => exact mk_87
  | 88, _ => exact mk_88
  | 89, _ => exact mk_89
  | 90, _ => exact mk_90
  | 91, _ => exact mk_91
  | 92, _ => exact mk_92
  | 93, _ => exact mk_93
  | 94, _ => exact mk_94
  | 95, _ => exact mk_95
  | 96, _ => exact mk_96
  | 97, _ => exact mk_97
  | 98, _ => exact mk_98
  | 99, _ => exact mk_99
  | 100, _ => exact mk_100
  | 101, _ => exact mk_101
  | 102, _ => exact mk_102
  | 103, _ => exact mk_103
  | 104, _ => exact mk_104
  | 105, _ => exact mk_105
  | 106, _ => exact mk_106
  | 107, _ => exact mk_107
  | 108, _ => exact mk_108
  | 109, _ => exact mk_109
  | 110, _ => exact mk_110
  | 111, _ => exact mk_111
  | 112, _ => exact mk_112
  | 113, _ => exact mk_113
  | 114, _ => exact mk_114
  | 115, _ => exact mk_115
  | 116, _ => exact mk_116
  | 117, _ => exact mk_117
  | 118, _ => exact mk_118
  | 119, _ => exact mk_119
  | 120, _ => exact mk_120
  | 121, _ => exact mk_121
  | 122, _ => exact mk_122
  | 123, _ => exact mk_123
  | 124, _ => exact mk_124
  | 125, _ => exact mk_125
  | 126, _ => exact mk_126
  | 127, _ => exact mk_127
  | 128, _ => exact mk_128
  | 129, _ => exact mk_129
  | 130, _ => exact mk_130
  | 131, _ => exact mk_131
  | 132, _ => exact mk_132
  | 133, _ => exact mk_133
  | 134, _ => exact mk_134
  | 135, _ => exact mk_135
  | 136, _ => exact mk_136
  | 137, _ => exact mk_137
  | 138, _ => exact mk_138
  | 139, _ => exact mk_139
  | 140, _ => exact mk_140
  | 141, _ => exact mk_141
  | 142, _ => exact mk_142
  | 143, _ => exact mk_143
  | 144, _ => exact mk_144
  | 145, _ => exact mk_145
  | 146, _ => exact mk_146
  | 147, _ => exact mk_147
  | 148, _ => exact mk_148
  | 149, _ => exact mk_149
  | 150, _ => exact mk_150
  | 151, _ => exact mk_151
  | 152, _ => exact mk_152
  | 153, _ => exact mk_153
  | 154, _ => exact mk_154
  | 155, _ => exact mk_155
  | 156, _ => exact mk_156
  | 157, _ => exact mk_157
  | 158, _ => exact mk_158
  | 159, _ => exact mk_159
  | 160, _ => exact mk_160
  | 161, _ => exact mk_161
  | 162, _ => exact mk_162
  | 163, _ => exact mk_163
  | 164, _ => exact mk_164
  | 165, _ => exact mk_165
  | 166, _ => exact mk_166
  | 167, _ => exact mk_167
  | 168, _ => exact mk_168
  | 169, _ => exact mk_169
  | 170, _ => exact mk_170
  | 171, _ => exact mk_171
  | 172, _ => exact mk_172
  | 173, _ => exact mk_173
  | 174, _ => exact mk_174
  | 175, _ => exact mk_175
  | 176, _ => exact mk_176
  | 177, _ => exact mk_177
  | 178, _ => exact mk_178
  | 179, _ => exact mk_179
  | 180, _ => exact mk_180
  | 181, _ => exact mk_181
  | 182, _ => exact mk_182
  | 183, _ => exact mk_183
  | 184, _ => exact mk_184
  | 185, _ => exact mk_185
  | 186, _ => exact mk_186
  | 187, _ => exact mk_187
  | 188, _ => exact mk_188
  | 189, _ => exact mk_189
  | 190, _ => exact mk_190
  | 191, _ => exact mk_191
  | 192, _ => exact mk_192
  | 193, _ => exact mk_193
  | 194, _ => exact mk_194
  | 195, _ => exact mk_195
  | 196, _ => exact mk_196
  | 197, _ => exact mk_197
  | 198, _ => exact mk_198
  | 199, _ => exact mk_199
  | 200, _ => exact mk_200
  | 201, _ => exact mk_201
  | 202, _ => exact mk_202
  | 203, _ => exact mk_203
  | 204, _ => exact mk_204
  | 205, _ => exact mk_205
  | 206, _ => exact mk_206
  | 207, _ => exact mk_207
  | 208, _ => exact mk_208
  | 209, _ => exact mk_209
  | 210, _ => exact mk_210
  | 211, _ => exact mk_211
  | 212, _ => exact mk_212
  | 213, _ => exact mk_213
  | 214, _ => exact mk_214
  | 215, _ => exact mk_215
  | 216, _ => exact mk_216
  | 217, _ => exact mk_217
  | 218, _ => exact mk_218
  | 219, _ => exact mk_219
  | 220, _ => exact mk_220
  | 221, _ => exact mk_221
  | 222, _ => exact mk_222
  | 223, _ => exact mk_223
  | 224, _ => exact mk_224
  | 225, _ => exact mk_225
  | 226, _ => exact mk_226
  | 227, _ => exact mk_227
  | 228, _ => exact mk_228
  | 229, _ => exact mk_229
  | 230, _ => exact mk_230
  | 231, _ => exact mk_231
  | 232, _ => exact mk_232
  | 233, _ => exact mk_233
  | 234, _ => exact mk_234
  | 235, _ => exact mk_235
  | 236, _ => exact mk_236
  | 237, _ => exact mk_237
  | 238, _ => exact mk_238
  | 239, _ => exact mk_239
  | 240, _ => exact mk_240
  | 241, _ => exact mk_241
  | 242, _ => exact mk_242
  | 243, _ => exact mk_243
  | 244, _ => exact mk_244
  | 245, _ => exact mk_245
  | 246, _ => exact mk_246
  | 247, _ => exact mk_247
  | 248, _ => exact mk_248
  | 249, _ => exact mk_249
  | 250, _ => exact mk_250
  | 251, _ => exact mk_251
  | 252, _ => exact mk_252
  | 253, _ => exact mk_253
  | 254, _ => exact mk_254
  | 255, _ => exact mk_255
  | 256, _ => exact mk_256
  | 257, _ => exact mk_257
  | 258, _ => exact mk_258
  | 259, _ => exact mk_259
  | 260, _ => exact mk_260
  | 261, _ => exact mk_261
  | 262, _ => exact mk_262
  | 263, _ => exact mk_263
  | 264, _ => exact mk_264
  | 265, _ => exact mk_265
  | 266, _ => exact mk_266
  | 267, _ => exact mk_267
  | 268, _ => exact mk_268
  | 269, _ => exact mk_269
  | 270, _ => exact mk_270
  | 271, _ => exact mk_271
  | 272, _ => exact mk_272
  | 273, _ => exact mk_273
  | 274, _ => exact mk_274
  | 275, _ => exact mk_275
  | 276, _ => exact mk_276
  | 277, _ => exact mk_277
  | 278, _ => exact mk_278
  | 279, _ => exact mk_279
  | 280, _ => exact mk_280
  | 281, _ => exact mk_281
  | 282, _ => exact mk_282
  | 283, _ => exact mk_283
  | 284, _ => exact mk_284
  | 285, _ => exact mk_285
  | 286, _ => exact mk_286
  | 287, _ => exact mk_287
  | 288, _ => exact mk_288
  | 289, _ => exact mk_289
  | 290, _ => exact mk_290
  | 291, _ => exact mk_291
  | 292, _ => exact mk_292
  | 293, _ => exact mk_293
  | 294, _ => exact mk_294
  | 295, _ => exact mk_295
  | 296, _ => exact mk_296
  | 297, _ => exact mk_297
  | 298, _ => exact mk_298
  | 299, _ => exact mk_299
