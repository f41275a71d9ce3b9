/-- what holds of class number ci -/
def xKok (ci : Nat) : Prop := ∃ (C : String) (T : u_T) (N : Nat) (ty : Nat → FieldType), xclasses[ci]? = some (C, T, N) ∧ xtyL[ci]? = some ty ∧ C = xcn ci ∧ (∀ w ∈ u_ws C T N, w ∈ gw) ∧ (∀ k, k < N → parseFieldDescriptor (T k).2.2.1 = some (ty k)) ∧ (∀ a, a < N → ∀ b, b < N → a ≠ b → (T a).2.1 ≠ (T b).2.1) ∧ Cond.instantiable C N ∈ gw ∧ Cond.initialized C ∈ gw ∧ ∀ k, k < N → (T k).1 = C
set_option maxRecDepth 100000 in
theorem xw_0 : ∀ w ∈ u_ws RX0 TX0 4, w ∈ gw := by
  show ∀ w ∈ [Cond.laysFinal "TwinBuckets$History" "TwinBuckets$History" "kept" "[LTwinBuckets$Store;", Cond.laysFinal "TwinBuckets$History" "TwinBuckets$History" "kinds" "[I", Cond.lays "TwinBuckets$History" "TwinBuckets$History" "spare" "LTwinBuckets$Store;", Cond.lays "TwinBuckets$History" "TwinBuckets$History" "many" "I"], w ∈ gw
  exact List.forall_mem_cons.mpr ⟨gm1 148 rfl rfl, List.forall_mem_cons.mpr ⟨gm1 150 rfl rfl, List.forall_mem_cons.mpr ⟨gm1 152 rfl rfl, List.forall_mem_cons.mpr ⟨gm1 154 rfl rfl, fun _ h => absurd h List.not_mem_nil⟩⟩⟩⟩
theorem xk_0 : xKok 0 := ⟨RX0, TX0, 4, tyX0, rfl, rfl, rfl, xw_0, tyX0_ok, nmX0, gm1 136 rfl rfl, gm1 6 rfl rfl, by decide⟩
set_option maxRecDepth 100000 in
theorem xw_1 : ∀ w ∈ u_ws RX1 TX1 3, w ∈ gw := by
  show ∀ w ∈ [Cond.laysFinal "TwinBuckets$Image" "TwinBuckets$Image" "store" "LTwinBuckets$Store;", Cond.laysFinal "TwinBuckets$Image" "TwinBuckets$Image" "rules" "LTwinBuckets$Rules;", Cond.laysFinal "TwinBuckets$Image" "TwinBuckets$Image" "sightings" "LTwinBuckets$Sightings;"], w ∈ gw
  exact List.forall_mem_cons.mpr ⟨gm5 79 rfl rfl, List.forall_mem_cons.mpr ⟨gm5 81 rfl rfl, List.forall_mem_cons.mpr ⟨gm5 83 rfl rfl, fun _ h => absurd h List.not_mem_nil⟩⟩⟩
theorem xk_1 : xKok 1 := ⟨RX1, TX1, 3, tyX1, rfl, rfl, rfl, xw_1, tyX1_ok, nmX1, gm5 62 rfl rfl, gm1 18 rfl rfl, by decide⟩
set_option maxRecDepth 100000 in
theorem xw_2 : ∀ w ∈ u_ws RX2 TX2 1, w ∈ gw := by
  show ∀ w ∈ [Cond.laysFinal "TwinBuckets$Pages" "TwinBuckets$Pages" "cells" "[I"], w ∈ gw
  exact List.forall_mem_cons.mpr ⟨gm1 41 rfl rfl, fun _ h => absurd h List.not_mem_nil⟩
theorem xk_2 : xKok 2 := ⟨RX2, TX2, 1, tyX2, rfl, rfl, rfl, xw_2, tyX2_ok, nmX2, gm1 34 rfl rfl, gm1 3 rfl rfl, by decide⟩
set_option maxRecDepth 100000 in
theorem xw_3 : ∀ w ∈ u_ws RX3 TX3 8, w ∈ gw := by
  show ∀ w ∈ [Cond.laysFinal "TwinBuckets$Rules" "TwinBuckets$Rules" "laws" "[LTwinBuckets$Text;", Cond.laysFinal "TwinBuckets$Rules" "TwinBuckets$Rules" "words" "[I", Cond.laysFinal "TwinBuckets$Rules" "TwinBuckets$Rules" "stack" "[I", Cond.lays "TwinBuckets$Rules" "TwinBuckets$Rules" "lawCount" "I", Cond.lays "TwinBuckets$Rules" "TwinBuckets$Rules" "inForce" "I", Cond.lays "TwinBuckets$Rules" "TwinBuckets$Rules" "fails" "I", Cond.lays "TwinBuckets$Rules" "TwinBuckets$Rules" "mood" "I", Cond.lays "TwinBuckets$Rules" "TwinBuckets$Rules" "salt" "I"], w ∈ gw
  exact List.forall_mem_cons.mpr ⟨gm1 101 rfl rfl, List.forall_mem_cons.mpr ⟨gm1 103 rfl rfl, List.forall_mem_cons.mpr ⟨gm1 105 rfl rfl, List.forall_mem_cons.mpr ⟨gm1 107 rfl rfl, List.forall_mem_cons.mpr ⟨gm1 109 rfl rfl, List.forall_mem_cons.mpr ⟨gm1 111 rfl rfl, List.forall_mem_cons.mpr ⟨gm1 113 rfl rfl, List.forall_mem_cons.mpr ⟨gm1 115 rfl rfl, fun _ h => absurd h List.not_mem_nil⟩⟩⟩⟩⟩⟩⟩⟩
theorem xk_3 : xKok 3 := ⟨RX3, TX3, 8, tyX3, rfl, rfl, rfl, xw_3, tyX3_ok, nmX3, gm1 79 rfl rfl, gm1 4 rfl rfl, by decide⟩
set_option maxRecDepth 100000 in
theorem xw_4 : ∀ w ∈ u_ws RX4 TX4 3, w ∈ gw := by
  show ∀ w ∈ [Cond.laysFinal "TwinBuckets$Sightings" "TwinBuckets$Sightings" "slots" "[I", Cond.laysFinal "TwinBuckets$Sightings" "TwinBuckets$Sightings" "are" "[I", Cond.lays "TwinBuckets$Sightings" "TwinBuckets$Sightings" "many" "I"], w ∈ gw
  exact List.forall_mem_cons.mpr ⟨gm1 128 rfl rfl, List.forall_mem_cons.mpr ⟨gm1 130 rfl rfl, List.forall_mem_cons.mpr ⟨gm1 132 rfl rfl, fun _ h => absurd h List.not_mem_nil⟩⟩⟩
theorem xk_4 : xKok 4 := ⟨RX4, TX4, 3, tyX4, rfl, rfl, rfl, xw_4, tyX4_ok, nmX4, gm1 119 rfl rfl, gm1 5 rfl rfl, by decide⟩
set_option maxRecDepth 100000 in
theorem xw_5 : ∀ w ∈ u_ws RX5 TX5 8, w ∈ gw := by
  show ∀ w ∈ [Cond.laysFinal "TwinBuckets$Store" "TwinBuckets$Store" "buckets" "LTwinBuckets$Pages;", Cond.laysFinal "TwinBuckets$Store" "TwinBuckets$Store" "disk" "LTwinBuckets$Pages;", Cond.laysFinal "TwinBuckets$Store" "TwinBuckets$Store" "owners" "[I", Cond.laysFinal "TwinBuckets$Store" "TwinBuckets$Store" "writes" "[I", Cond.lays "TwinBuckets$Store" "TwinBuckets$Store" "eldest" "I", Cond.lays "TwinBuckets$Store" "TwinBuckets$Store" "waits" "I", Cond.lays "TwinBuckets$Store" "TwinBuckets$Store" "deep" "I", Cond.lays "TwinBuckets$Store" "TwinBuckets$Store" "time" "I"], w ∈ gw
  exact List.forall_mem_cons.mpr ⟨gm1 61 rfl rfl, List.forall_mem_cons.mpr ⟨gm1 63 rfl rfl, List.forall_mem_cons.mpr ⟨gm1 65 rfl rfl, List.forall_mem_cons.mpr ⟨gm1 67 rfl rfl, List.forall_mem_cons.mpr ⟨gm1 69 rfl rfl, List.forall_mem_cons.mpr ⟨gm1 71 rfl rfl, List.forall_mem_cons.mpr ⟨gm1 73 rfl rfl, List.forall_mem_cons.mpr ⟨gm1 75 rfl rfl, fun _ h => absurd h List.not_mem_nil⟩⟩⟩⟩⟩⟩⟩⟩
theorem xk_5 : xKok 5 := ⟨RX5, TX5, 8, tyX5, rfl, rfl, rfl, xw_5, tyX5_ok, nmX5, gm1 28 rfl rfl, gm1 2 rfl rfl, by decide⟩
set_option maxRecDepth 100000 in
theorem xw_6 : ∀ w ∈ u_ws RX6 TX6 10, w ∈ gw := by
  show ∀ w ∈ [Cond.laysFinal "TwinBuckets$Tape" "TwinBuckets$Tape" "text" "LTwinBuckets$Text;", Cond.laysFinal "TwinBuckets$Tape" "TwinBuckets$Tape" "bytes" "[I", Cond.lays "TwinBuckets$Tape" "TwinBuckets$Tape" "fed" "I", Cond.lays "TwinBuckets$Tape" "TwinBuckets$Tape" "length" "I", Cond.lays "TwinBuckets$Tape" "TwinBuckets$Tape" "isOrders" "Z", Cond.lays "TwinBuckets$Tape" "TwinBuckets$Tape" "parts" "I", Cond.lays "TwinBuckets$Tape" "TwinBuckets$Tape" "kind" "I", Cond.lays "TwinBuckets$Tape" "TwinBuckets$Tape" "start" "I", Cond.lays "TwinBuckets$Tape" "TwinBuckets$Tape" "after" "I", Cond.lays "TwinBuckets$Tape" "TwinBuckets$Tape" "number" "I"], w ∈ gw
  exact List.forall_mem_cons.mpr ⟨gm1 214 rfl rfl, List.forall_mem_cons.mpr ⟨gm1 216 rfl rfl, List.forall_mem_cons.mpr ⟨gm1 218 rfl rfl, List.forall_mem_cons.mpr ⟨gm1 220 rfl rfl, List.forall_mem_cons.mpr ⟨gm1 222 rfl rfl, List.forall_mem_cons.mpr ⟨gm1 224 rfl rfl, List.forall_mem_cons.mpr ⟨gm1 226 rfl rfl, List.forall_mem_cons.mpr ⟨gm1 228 rfl rfl, List.forall_mem_cons.mpr ⟨gm1 230 rfl rfl, List.forall_mem_cons.mpr ⟨gm1 232 rfl rfl, fun _ h => absurd h List.not_mem_nil⟩⟩⟩⟩⟩⟩⟩⟩⟩⟩
theorem xk_6 : xKok 6 := ⟨RX6, TX6, 10, tyX6, rfl, rfl, rfl, xw_6, tyX6_ok, nmX6, gm1 160 rfl rfl, gm1 7 rfl rfl, by decide⟩
set_option maxRecDepth 100000 in
theorem xw_7 : ∀ w ∈ u_ws RX7 TX7 7, w ∈ gw := by
  show ∀ w ∈ [Cond.laysFinal "TwinBuckets$Text" "TwinBuckets$Text" "ops" "[I", Cond.laysFinal "TwinBuckets$Text" "TwinBuckets$Text" "args" "[I", Cond.laysFinal "TwinBuckets$Text" "TwinBuckets$Text" "clauses" "[I", Cond.laysFinal "TwinBuckets$Text" "TwinBuckets$Text" "asked" "[I", Cond.lays "TwinBuckets$Text" "TwinBuckets$Text" "size" "I", Cond.lays "TwinBuckets$Text" "TwinBuckets$Text" "clauseCount" "I", Cond.lays "TwinBuckets$Text" "TwinBuckets$Text" "askedCount" "I"], w ∈ gw
  exact List.forall_mem_cons.mpr ⟨gm1 186 rfl rfl, List.forall_mem_cons.mpr ⟨gm1 188 rfl rfl, List.forall_mem_cons.mpr ⟨gm1 190 rfl rfl, List.forall_mem_cons.mpr ⟨gm1 192 rfl rfl, List.forall_mem_cons.mpr ⟨gm1 194 rfl rfl, List.forall_mem_cons.mpr ⟨gm1 196 rfl rfl, List.forall_mem_cons.mpr ⟨gm1 198 rfl rfl, fun _ h => absurd h List.not_mem_nil⟩⟩⟩⟩⟩⟩⟩
theorem xk_7 : xKok 7 := ⟨RX7, TX7, 7, tyX7, rfl, rfl, rfl, xw_7, tyX7_ok, nmX7, gm1 166 rfl rfl, gm1 8 rfl rfl, by decide⟩
set_option maxRecDepth 100000 in
theorem xw_8 : ∀ w ∈ u_ws RX8 TX8 18, w ∈ gw := by
  show ∀ w ∈ [Cond.laysFinal "TwinBuckets" "TwinBuckets" "now" "LTwinBuckets$Store;", Cond.laysFinal "TwinBuckets" "TwinBuckets" "paper" "LTwinBuckets$Store;", Cond.laysFinal "TwinBuckets" "TwinBuckets" "aheadOfOrders" "LTwinBuckets$Store;", Cond.laysFinal "TwinBuckets" "TwinBuckets" "rules" "LTwinBuckets$Rules;", Cond.laysFinal "TwinBuckets" "TwinBuckets" "sightings" "LTwinBuckets$Sightings;", Cond.laysFinal "TwinBuckets" "TwinBuckets" "history" "LTwinBuckets$History;", Cond.laysFinal "TwinBuckets" "TwinBuckets" "orderHistory" "LTwinBuckets$History;", Cond.laysFinal "TwinBuckets" "TwinBuckets" "images" "[LTwinBuckets$Image;", Cond.laysFinal "TwinBuckets" "TwinBuckets" "tape" "LTwinBuckets$Tape;", Cond.laysFinal "TwinBuckets" "TwinBuckets" "orderWords" "[I", Cond.laysFinal "TwinBuckets" "TwinBuckets" "refusals" "[I", Cond.laysFinal "TwinBuckets" "TwinBuckets" "drawnValues" "[I", Cond.laysFinal "TwinBuckets" "TwinBuckets" "slotCounts" "[I", Cond.laysFinal "TwinBuckets" "TwinBuckets" "chances" "[J", Cond.lays "TwinBuckets" "TwinBuckets" "tearsOfRow" "I", Cond.lays "TwinBuckets" "TwinBuckets" "faultPlace" "I", Cond.lays "TwinBuckets" "TwinBuckets" "stoppedClause" "I", Cond.lays "TwinBuckets" "TwinBuckets" "latestRefusal" "I"], w ∈ gw
  exact List.forall_mem_cons.mpr ⟨gm2 28 rfl rfl, List.forall_mem_cons.mpr ⟨gm2 30 rfl rfl, List.forall_mem_cons.mpr ⟨gm2 32 rfl rfl, List.forall_mem_cons.mpr ⟨gm2 34 rfl rfl, List.forall_mem_cons.mpr ⟨gm2 36 rfl rfl, List.forall_mem_cons.mpr ⟨gm2 38 rfl rfl, List.forall_mem_cons.mpr ⟨gm2 40 rfl rfl, List.forall_mem_cons.mpr ⟨gm2 42 rfl rfl, List.forall_mem_cons.mpr ⟨gm2 44 rfl rfl, List.forall_mem_cons.mpr ⟨gm2 46 rfl rfl, List.forall_mem_cons.mpr ⟨gm2 48 rfl rfl, List.forall_mem_cons.mpr ⟨gm2 50 rfl rfl, List.forall_mem_cons.mpr ⟨gm2 52 rfl rfl, List.forall_mem_cons.mpr ⟨gm2 54 rfl rfl, List.forall_mem_cons.mpr ⟨gm2 56 rfl rfl, List.forall_mem_cons.mpr ⟨gm2 58 rfl rfl, List.forall_mem_cons.mpr ⟨gm2 60 rfl rfl, List.forall_mem_cons.mpr ⟨gm2 62 rfl rfl, fun _ h => absurd h List.not_mem_nil⟩⟩⟩⟩⟩⟩⟩⟩⟩⟩⟩⟩⟩⟩⟩⟩⟩⟩
theorem xk_8 : xKok 8 := ⟨RX8, TX8, 18, tyX8, rfl, rfl, rfl, xw_8, tyX8_ok, nmX8, gm1 20 rfl rfl, gm1 1 rfl rfl, by decide⟩
set_option maxRecDepth 100000 in
theorem xw_9 : ∀ w ∈ u_ws RX9 TX9 46, w ∈ gw := by
  show ∀ w ∈ [Cond.lays "TwinBucketsModel" "TwinBucketsModel" "status" "I", Cond.laysFinal "TwinBucketsModel" "TwinBucketsModel" "refused" "[I", Cond.laysFinal "TwinBucketsModel" "TwinBucketsModel" "kept" "[I", Cond.laysFinal "TwinBucketsModel" "TwinBucketsModel" "images" "[I", Cond.laysFinal "TwinBucketsModel" "TwinBucketsModel" "hasImage" "[Z", Cond.laysFinal "TwinBucketsModel" "TwinBucketsModel" "aside" "[I", Cond.lays "TwinBucketsModel" "TwinBucketsModel" "tears0" "I", Cond.laysFinal "TwinBucketsModel" "TwinBucketsModel" "words" "[B", Cond.lays "TwinBucketsModel" "TwinBucketsModel" "firstWord" "I", Cond.lays "TwinBucketsModel" "TwinBucketsModel" "lastWord" "I", Cond.lays "TwinBucketsModel" "TwinBucketsModel" "isOrders" "Z", Cond.laysFinal "TwinBucketsModel" "TwinBucketsModel" "tape" "[B", Cond.laysFinal "TwinBucketsModel" "TwinBucketsModel" "five" "[I", Cond.lays "TwinBucketsModel" "TwinBucketsModel" "taped" "I", Cond.lays "TwinBucketsModel" "TwinBucketsModel" "fault" "I", Cond.laysFinal "TwinBucketsModel" "TwinBucketsModel" "code" "[I", Cond.laysFinal "TwinBucketsModel" "TwinBucketsModel" "value" "[I", Cond.laysFinal "TwinBucketsModel" "TwinBucketsModel" "placed" "[I", Cond.lays "TwinBucketsModel" "TwinBucketsModel" "tokens" "I", Cond.lays "TwinBucketsModel" "TwinBucketsModel" "token" "I", Cond.lays "TwinBucketsModel" "TwinBucketsModel" "leaves" "I", Cond.lays "TwinBucketsModel" "TwinBucketsModel" "bad" "I", Cond.lays "TwinBucketsModel" "TwinBucketsModel" "go" "I", Cond.lays "TwinBucketsModel" "TwinBucketsModel" "goEnd" "I", Cond.lays "TwinBucketsModel" "TwinBucketsModel" "broken" "Z", Cond.lays "TwinBucketsModel" "TwinBucketsModel" "inOrders" "Z", Cond.laysFinal "TwinBucketsModel" "TwinBucketsModel" "asked" "[I", Cond.lays "TwinBucketsModel" "TwinBucketsModel" "orderDone" "I", Cond.lays "TwinBucketsModel" "TwinBucketsModel" "orderLatest" "I", Cond.laysFinal "TwinBucketsModel" "TwinBucketsModel" "pageOf" "[I", Cond.laysFinal "TwinBucketsModel" "TwinBucketsModel" "left0" "[I", Cond.laysFinal "TwinBucketsModel" "TwinBucketsModel" "leftAhead" "[I", Cond.lays "TwinBucketsModel" "TwinBucketsModel" "undoMany" "I", Cond.laysFinal "TwinBucketsModel" "TwinBucketsModel" "values0" "[I", Cond.laysFinal "TwinBucketsModel" "TwinBucketsModel" "ownerNow" "[I", Cond.laysFinal "TwinBucketsModel" "TwinBucketsModel" "shares" "[J", Cond.lays "TwinBucketsModel" "TwinBucketsModel" "stopped0" "I", Cond.lays "TwinBucketsModel" "TwinBucketsModel" "orderAt" "I", Cond.lays "TwinBucketsModel" "TwinBucketsModel" "howOften" "I", Cond.lays "TwinBucketsModel" "TwinBucketsModel" "head" "I", Cond.lays "TwinBucketsModel" "TwinBucketsModel" "sumsAre" "Z", Cond.lays "TwinBucketsModel" "TwinBucketsModel" "testIs" "Z", Cond.laysFinal "TwinBucketsModel" "TwinBucketsModel" "sums" "[J", Cond.laysFinal "TwinBucketsModel" "TwinBucketsModel" "drawnValues" "[I", Cond.lays "TwinBucketsModel" "TwinBucketsModel" "hasDrawn" "Z", Cond.lays "TwinBucketsModel" "TwinBucketsModel" "latest" "I"], w ∈ gw
  exact List.forall_mem_cons.mpr ⟨gm5 159 rfl rfl, List.forall_mem_cons.mpr ⟨gm5 161 rfl rfl, List.forall_mem_cons.mpr ⟨gm5 163 rfl rfl, List.forall_mem_cons.mpr ⟨gm5 165 rfl rfl, List.forall_mem_cons.mpr ⟨gm5 167 rfl rfl, List.forall_mem_cons.mpr ⟨gm5 169 rfl rfl, List.forall_mem_cons.mpr ⟨gm5 171 rfl rfl, List.forall_mem_cons.mpr ⟨gm5 173 rfl rfl, List.forall_mem_cons.mpr ⟨gm5 175 rfl rfl, List.forall_mem_cons.mpr ⟨gm5 177 rfl rfl, List.forall_mem_cons.mpr ⟨gm5 179 rfl rfl, List.forall_mem_cons.mpr ⟨gm5 181 rfl rfl, List.forall_mem_cons.mpr ⟨gm5 183 rfl rfl, List.forall_mem_cons.mpr ⟨gm5 185 rfl rfl, List.forall_mem_cons.mpr ⟨gm5 187 rfl rfl, List.forall_mem_cons.mpr ⟨gm5 189 rfl rfl, List.forall_mem_cons.mpr ⟨gm5 191 rfl rfl, List.forall_mem_cons.mpr ⟨gm5 193 rfl rfl, List.forall_mem_cons.mpr ⟨gm5 195 rfl rfl, List.forall_mem_cons.mpr ⟨gm5 197 rfl rfl, List.forall_mem_cons.mpr ⟨gm5 199 rfl rfl, List.forall_mem_cons.mpr ⟨gm5 201 rfl rfl, List.forall_mem_cons.mpr ⟨gm5 203 rfl rfl, List.forall_mem_cons.mpr ⟨gm5 205 rfl rfl, List.forall_mem_cons.mpr ⟨gm5 207 rfl rfl, List.forall_mem_cons.mpr ⟨gm5 209 rfl rfl, List.forall_mem_cons.mpr ⟨gm5 211 rfl rfl, List.forall_mem_cons.mpr ⟨gm5 213 rfl rfl, List.forall_mem_cons.mpr ⟨gm5 215 rfl rfl, List.forall_mem_cons.mpr ⟨gm5 217 rfl rfl, List.forall_mem_cons.mpr ⟨gm5 219 rfl rfl, List.forall_mem_cons.mpr ⟨gm5 221 rfl rfl, List.forall_mem_cons.mpr ⟨gm5 223 rfl rfl, List.forall_mem_cons.mpr ⟨gm5 225 rfl rfl, List.forall_mem_cons.mpr ⟨gm5 227 rfl rfl, List.forall_mem_cons.mpr ⟨gm5 229 rfl rfl, List.forall_mem_cons.mpr ⟨gm5 231 rfl rfl, List.forall_mem_cons.mpr ⟨gm5 233 rfl rfl, List.forall_mem_cons.mpr ⟨gm5 235 rfl rfl, List.forall_mem_cons.mpr ⟨gm5 237 rfl rfl, List.forall_mem_cons.mpr ⟨gm5 239 rfl rfl, List.forall_mem_cons.mpr ⟨gm6 1 rfl rfl, List.forall_mem_cons.mpr ⟨gm6 3 rfl rfl, List.forall_mem_cons.mpr ⟨gm6 5 rfl rfl, List.forall_mem_cons.mpr ⟨gm6 7 rfl rfl, List.forall_mem_cons.mpr ⟨gm6 9 rfl rfl, fun _ h => absurd h List.not_mem_nil⟩⟩⟩⟩⟩⟩⟩⟩⟩⟩⟩⟩⟩⟩⟩⟩⟩⟩⟩⟩⟩⟩⟩⟩⟩⟩⟩⟩⟩⟩⟩⟩⟩⟩⟩⟩⟩⟩⟩⟩⟩⟩⟩⟩⟩⟩
theorem xk_9 : xKok 9 := ⟨RX9, TX9, 46, tyX9, rfl, rfl, rfl, xw_9, tyX9_ok, nmX9, gm5 108 rfl rfl, gm1 10 rfl rfl, by decide⟩
theorem xk_all : ∀ ci, ci < 10 → xKok ci := by
  intro ci h
  match ci, h with
  | 0, _ => exact xk_0
  | 1, _ => exact xk_1
  | 2, _ => exact xk_2
  | 3, _ => exact xk_3
  | 4, _ => exact xk_4
  | 5, _ => exact xk_5
  | 6, _ => exact xk_6
  | 7, _ => exact xk_7
  | 8, _ => exact xk_8
  | 9, _ => exact xk_9
def xFLok (e : Nat × Nat × Nat × Nat × Nat) : Prop := e.2.2.1 < 10 ∧ ∀ (C : String) (T : u_T) (N : Nat) (ty : Nat → FieldType), xclasses[e.2.2.1]? = some (C, T, N) → xtyL[e.2.2.1]? = some ty → e.2.2.2.1 < N ∧ Cond.fieldLink (xcn e.1) e.2.1 C (T e.2.2.2.1).2.1 (T e.2.2.2.1).2.2.1 ∈ gw ∧ (match e.2.2.2.2 with
  | 0 => ty e.2.2.2.1 = .int ∧ (T e.2.2.2.1).2.2.2 = false
  | 1 => ty e.2.2.2.1 = .boolean ∧ (T e.2.2.2.1).2.2.2 = false
  | 2 => ((∃ n, ty e.2.2.2.1 = .object n) ∨ ∃ t, ty e.2.2.2.1 = .array t) ∧ (T e.2.2.2.1).2.2.2 = true
  | 3 => ((∃ n, ty e.2.2.2.1 = .object n) ∨ ∃ t, ty e.2.2.2.1 = .array t) ∧ (T e.2.2.2.1).2.2.2 = false
  | _ => False)
theorem fl_0 : xFLok (2, 9, 2, 0, 2) := ⟨by decide, fun C T N ty h1 h2 => by cases h1; cases h2; exact ⟨by decide, gm1 39 rfl rfl, ⟨Or.inr ⟨_, rfl⟩, rfl⟩⟩⟩
theorem fl_1 : xFLok (5, 171, 2, 0, 2) := ⟨by decide, fun C T N ty h1 h2 => by cases h1; cases h2; exact ⟨by decide, gm1 40 rfl rfl, ⟨Or.inr ⟨_, rfl⟩, rfl⟩⟩⟩
theorem fl_2 : xFLok (5, 12, 5, 0, 2) := ⟨by decide, fun C T N ty h1 h2 => by cases h1; cases h2; exact ⟨by decide, gm1 45 rfl rfl, ⟨Or.inl ⟨_, rfl⟩, rfl⟩⟩⟩
theorem fl_3 : xFLok (8, 98, 5, 0, 2) := ⟨by decide, fun C T N ty h1 h2 => by cases h1; cases h2; exact ⟨by decide, gm1 46 rfl rfl, ⟨Or.inl ⟨_, rfl⟩, rfl⟩⟩⟩
theorem fl_4 : xFLok (4, 28, 5, 0, 2) := ⟨by decide, fun C T N ty h1 h2 => by cases h1; cases h2; exact ⟨by decide, gm1 47 rfl rfl, ⟨Or.inl ⟨_, rfl⟩, rfl⟩⟩⟩
theorem fl_5 : xFLok (3, 44, 5, 0, 2) := ⟨by decide, fun C T N ty h1 h2 => by cases h1; cases h2; exact ⟨by decide, gm1 48 rfl rfl, ⟨Or.inl ⟨_, rfl⟩, rfl⟩⟩⟩
theorem fl_6 : xFLok (5, 18, 5, 1, 2) := ⟨by decide, fun C T N ty h1 h2 => by cases h1; cases h2; exact ⟨by decide, gm1 49 rfl rfl, ⟨Or.inl ⟨_, rfl⟩, rfl⟩⟩⟩
theorem fl_7 : xFLok (8, 108, 5, 1, 2) := ⟨by decide, fun C T N ty h1 h2 => by cases h1; cases h2; exact ⟨by decide, gm1 50 rfl rfl, ⟨Or.inl ⟨_, rfl⟩, rfl⟩⟩⟩
theorem fl_8 : xFLok (5, 21, 5, 2, 2) := ⟨by decide, fun C T N ty h1 h2 => by cases h1; cases h2; exact ⟨by decide, gm1 51 rfl rfl, ⟨Or.inr ⟨_, rfl⟩, rfl⟩⟩⟩
theorem fl_9 : xFLok (5, 25, 5, 3, 2) := ⟨by decide, fun C T N ty h1 h2 => by cases h1; cases h2; exact ⟨by decide, gm1 52 rfl rfl, ⟨Or.inr ⟨_, rfl⟩, rfl⟩⟩⟩
theorem fl_10 : xFLok (5, 28, 5, 4, 0) := ⟨by decide, fun C T N ty h1 h2 => by cases h1; cases h2; exact ⟨by decide, gm1 53 rfl rfl, ⟨rfl, rfl⟩⟩⟩
theorem fl_11 : xFLok (5, 32, 5, 5, 0) := ⟨by decide, fun C T N ty h1 h2 => by cases h1; cases h2; exact ⟨by decide, gm1 54 rfl rfl, ⟨rfl, rfl⟩⟩⟩
theorem fl_12 : xFLok (8, 313, 5, 5, 0) := ⟨by decide, fun C T N ty h1 h2 => by cases h1; cases h2; exact ⟨by decide, gm1 55 rfl rfl, ⟨rfl, rfl⟩⟩⟩
theorem fl_13 : xFLok (5, 35, 5, 6, 0) := ⟨by decide, fun C T N ty h1 h2 => by cases h1; cases h2; exact ⟨by decide, gm1 56 rfl rfl, ⟨rfl, rfl⟩⟩⟩
theorem fl_14 : xFLok (8, 310, 5, 6, 0) := ⟨by decide, fun C T N ty h1 h2 => by cases h1; cases h2; exact ⟨by decide, gm1 57 rfl rfl, ⟨rfl, rfl⟩⟩⟩
theorem fl_15 : xFLok (5, 38, 5, 7, 0) := ⟨by decide, fun C T N ty h1 h2 => by cases h1; cases h2; exact ⟨by decide, gm1 58 rfl rfl, ⟨rfl, rfl⟩⟩⟩
theorem fl_16 : xFLok (3, 55, 5, 7, 0) := ⟨by decide, fun C T N ty h1 h2 => by cases h1; cases h2; exact ⟨by decide, gm1 59 rfl rfl, ⟨rfl, rfl⟩⟩⟩
theorem fl_17 : xFLok (8, 317, 5, 7, 0) := ⟨by decide, fun C T N ty h1 h2 => by cases h1; cases h2; exact ⟨by decide, gm1 60 rfl rfl, ⟨rfl, rfl⟩⟩⟩
theorem fl_18 : xFLok (3, 11, 3, 0, 2) := ⟨by decide, fun C T N ty h1 h2 => by cases h1; cases h2; exact ⟨by decide, gm1 86 rfl rfl, ⟨Or.inr ⟨_, rfl⟩, rfl⟩⟩⟩
theorem fl_19 : xFLok (3, 17, 3, 1, 2) := ⟨by decide, fun C T N ty h1 h2 => by cases h1; cases h2; exact ⟨by decide, gm1 87 rfl rfl, ⟨Or.inr ⟨_, rfl⟩, rfl⟩⟩⟩
theorem fl_20 : xFLok (3, 21, 3, 2, 2) := ⟨by decide, fun C T N ty h1 h2 => by cases h1; cases h2; exact ⟨by decide, gm1 88 rfl rfl, ⟨Or.inr ⟨_, rfl⟩, rfl⟩⟩⟩
theorem fl_21 : xFLok (8, 350, 3, 2, 2) := ⟨by decide, fun C T N ty h1 h2 => by cases h1; cases h2; exact ⟨by decide, gm1 89 rfl rfl, ⟨Or.inr ⟨_, rfl⟩, rfl⟩⟩⟩
theorem fl_22 : xFLok (3, 24, 3, 3, 0) := ⟨by decide, fun C T N ty h1 h2 => by cases h1; cases h2; exact ⟨by decide, gm1 90 rfl rfl, ⟨rfl, rfl⟩⟩⟩
theorem fl_23 : xFLok (8, 179, 3, 3, 0) := ⟨by decide, fun C T N ty h1 h2 => by cases h1; cases h2; exact ⟨by decide, gm1 91 rfl rfl, ⟨rfl, rfl⟩⟩⟩
theorem fl_24 : xFLok (3, 28, 3, 4, 0) := ⟨by decide, fun C T N ty h1 h2 => by cases h1; cases h2; exact ⟨by decide, gm1 92 rfl rfl, ⟨rfl, rfl⟩⟩⟩
theorem fl_25 : xFLok (8, 214, 3, 4, 0) := ⟨by decide, fun C T N ty h1 h2 => by cases h1; cases h2; exact ⟨by decide, gm1 93 rfl rfl, ⟨rfl, rfl⟩⟩⟩
theorem fl_26 : xFLok (5, 158, 3, 4, 0) := ⟨by decide, fun C T N ty h1 h2 => by cases h1; cases h2; exact ⟨by decide, gm1 94 rfl rfl, ⟨rfl, rfl⟩⟩⟩
theorem fl_27 : xFLok (3, 31, 3, 5, 0) := ⟨by decide, fun C T N ty h1 h2 => by cases h1; cases h2; exact ⟨by decide, gm1 95 rfl rfl, ⟨rfl, rfl⟩⟩⟩
theorem fl_28 : xFLok (8, 320, 3, 5, 0) := ⟨by decide, fun C T N ty h1 h2 => by cases h1; cases h2; exact ⟨by decide, gm1 96 rfl rfl, ⟨rfl, rfl⟩⟩⟩
theorem fl_29 : xFLok (3, 34, 3, 6, 0) := ⟨by decide, fun C T N ty h1 h2 => by cases h1; cases h2; exact ⟨by decide, gm1 97 rfl rfl, ⟨rfl, rfl⟩⟩⟩
theorem fl_30 : xFLok (8, 323, 3, 6, 0) := ⟨by decide, fun C T N ty h1 h2 => by cases h1; cases h2; exact ⟨by decide, gm1 98 rfl rfl, ⟨rfl, rfl⟩⟩⟩
theorem fl_31 : xFLok (3, 37, 3, 7, 0) := ⟨by decide, fun C T N ty h1 h2 => by cases h1; cases h2; exact ⟨by decide, gm1 99 rfl rfl, ⟨rfl, rfl⟩⟩⟩
theorem fl_32 : xFLok (8, 326, 3, 7, 0) := ⟨by decide, fun C T N ty h1 h2 => by cases h1; cases h2; exact ⟨by decide, gm1 100 rfl rfl, ⟨rfl, rfl⟩⟩⟩
theorem fl_33 : xFLok (4, 9, 4, 0, 2) := ⟨by decide, fun C T N ty h1 h2 => by cases h1; cases h2; exact ⟨by decide, gm1 124 rfl rfl, ⟨Or.inr ⟨_, rfl⟩, rfl⟩⟩⟩
theorem fl_34 : xFLok (4, 15, 4, 1, 2) := ⟨by decide, fun C T N ty h1 h2 => by cases h1; cases h2; exact ⟨by decide, gm1 125 rfl rfl, ⟨Or.inr ⟨_, rfl⟩, rfl⟩⟩⟩
theorem fl_35 : xFLok (4, 18, 4, 2, 0) := ⟨by decide, fun C T N ty h1 h2 => by cases h1; cases h2; exact ⟨by decide, gm1 126 rfl rfl, ⟨rfl, rfl⟩⟩⟩
theorem fl_36 : xFLok (8, 257, 4, 2, 0) := ⟨by decide, fun C T N ty h1 h2 => by cases h1; cases h2; exact ⟨by decide, gm1 127 rfl rfl, ⟨rfl, rfl⟩⟩⟩
theorem fl_37 : xFLok (0, 11, 0, 0, 2) := ⟨by decide, fun C T N ty h1 h2 => by cases h1; cases h2; exact ⟨by decide, gm1 143 rfl rfl, ⟨Or.inr ⟨_, rfl⟩, rfl⟩⟩⟩
theorem fl_38 : xFLok (0, 17, 0, 1, 2) := ⟨by decide, fun C T N ty h1 h2 => by cases h1; cases h2; exact ⟨by decide, gm1 144 rfl rfl, ⟨Or.inr ⟨_, rfl⟩, rfl⟩⟩⟩
theorem fl_39 : xFLok (0, 21, 0, 2, 3) := ⟨by decide, fun C T N ty h1 h2 => by cases h1; cases h2; exact ⟨by decide, gm1 145 rfl rfl, ⟨Or.inl ⟨_, rfl⟩, rfl⟩⟩⟩
theorem fl_40 : xFLok (0, 25, 0, 3, 0) := ⟨by decide, fun C T N ty h1 h2 => by cases h1; cases h2; exact ⟨by decide, gm1 146 rfl rfl, ⟨rfl, rfl⟩⟩⟩
theorem fl_41 : xFLok (8, 316, 0, 3, 0) := ⟨by decide, fun C T N ty h1 h2 => by cases h1; cases h2; exact ⟨by decide, gm1 147 rfl rfl, ⟨rfl, rfl⟩⟩⟩
theorem fl_42 : xFLok (7, 21, 7, 0, 2) := ⟨by decide, fun C T N ty h1 h2 => by cases h1; cases h2; exact ⟨by decide, gm1 171 rfl rfl, ⟨Or.inr ⟨_, rfl⟩, rfl⟩⟩⟩
theorem fl_43 : xFLok (7, 25, 7, 1, 2) := ⟨by decide, fun C T N ty h1 h2 => by cases h1; cases h2; exact ⟨by decide, gm1 172 rfl rfl, ⟨Or.inr ⟨_, rfl⟩, rfl⟩⟩⟩
theorem fl_44 : xFLok (7, 28, 7, 2, 2) := ⟨by decide, fun C T N ty h1 h2 => by cases h1; cases h2; exact ⟨by decide, gm1 173 rfl rfl, ⟨Or.inr ⟨_, rfl⟩, rfl⟩⟩⟩
theorem fl_45 : xFLok (7, 31, 7, 3, 2) := ⟨by decide, fun C T N ty h1 h2 => by cases h1; cases h2; exact ⟨by decide, gm1 174 rfl rfl, ⟨Or.inr ⟨_, rfl⟩, rfl⟩⟩⟩
theorem fl_46 : xFLok (6, 170, 7, 3, 2) := ⟨by decide, fun C T N ty h1 h2 => by cases h1; cases h2; exact ⟨by decide, gm1 175 rfl rfl, ⟨Or.inr ⟨_, rfl⟩, rfl⟩⟩⟩
theorem fl_47 : xFLok (8, 361, 7, 3, 2) := ⟨by decide, fun C T N ty h1 h2 => by cases h1; cases h2; exact ⟨by decide, gm1 176 rfl rfl, ⟨Or.inr ⟨_, rfl⟩, rfl⟩⟩⟩
theorem fl_48 : xFLok (7, 9, 7, 4, 0) := ⟨by decide, fun C T N ty h1 h2 => by cases h1; cases h2; exact ⟨by decide, gm1 177 rfl rfl, ⟨rfl, rfl⟩⟩⟩
theorem fl_49 : xFLok (6, 92, 7, 4, 0) := ⟨by decide, fun C T N ty h1 h2 => by cases h1; cases h2; exact ⟨by decide, gm1 178 rfl rfl, ⟨rfl, rfl⟩⟩⟩
theorem fl_50 : xFLok (7, 15, 7, 5, 0) := ⟨by decide, fun C T N ty h1 h2 => by cases h1; cases h2; exact ⟨by decide, gm1 179 rfl rfl, ⟨rfl, rfl⟩⟩⟩
theorem fl_51 : xFLok (3, 66, 7, 5, 0) := ⟨by decide, fun C T N ty h1 h2 => by cases h1; cases h2; exact ⟨by decide, gm1 180 rfl rfl, ⟨rfl, rfl⟩⟩⟩
theorem fl_52 : xFLok (6, 99, 7, 5, 0) := ⟨by decide, fun C T N ty h1 h2 => by cases h1; cases h2; exact ⟨by decide, gm1 181 rfl rfl, ⟨rfl, rfl⟩⟩⟩
theorem fl_53 : xFLok (8, 203, 7, 5, 0) := ⟨by decide, fun C T N ty h1 h2 => by cases h1; cases h2; exact ⟨by decide, gm1 182 rfl rfl, ⟨rfl, rfl⟩⟩⟩
theorem fl_54 : xFLok (7, 18, 7, 6, 0) := ⟨by decide, fun C T N ty h1 h2 => by cases h1; cases h2; exact ⟨by decide, gm1 183 rfl rfl, ⟨rfl, rfl⟩⟩⟩
theorem fl_55 : xFLok (6, 167, 7, 6, 0) := ⟨by decide, fun C T N ty h1 h2 => by cases h1; cases h2; exact ⟨by decide, gm1 184 rfl rfl, ⟨rfl, rfl⟩⟩⟩
theorem fl_56 : xFLok (8, 358, 7, 6, 0) := ⟨by decide, fun C T N ty h1 h2 => by cases h1; cases h2; exact ⟨by decide, gm1 185 rfl rfl, ⟨rfl, rfl⟩⟩⟩
theorem fl_57 : xFLok (6, 12, 6, 0, 2) := ⟨by decide, fun C T N ty h1 h2 => by cases h1; cases h2; exact ⟨by decide, gm1 201 rfl rfl, ⟨Or.inl ⟨_, rfl⟩, rfl⟩⟩⟩
theorem fl_58 : xFLok (8, 188, 6, 0, 2) := ⟨by decide, fun C T N ty h1 h2 => by cases h1; cases h2; exact ⟨by decide, gm1 202 rfl rfl, ⟨Or.inl ⟨_, rfl⟩, rfl⟩⟩⟩
theorem fl_59 : xFLok (6, 18, 6, 1, 2) := ⟨by decide, fun C T N ty h1 h2 => by cases h1; cases h2; exact ⟨by decide, gm1 203 rfl rfl, ⟨Or.inr ⟨_, rfl⟩, rfl⟩⟩⟩
theorem fl_60 : xFLok (8, 172, 6, 1, 2) := ⟨by decide, fun C T N ty h1 h2 => by cases h1; cases h2; exact ⟨by decide, gm1 204 rfl rfl, ⟨Or.inr ⟨_, rfl⟩, rfl⟩⟩⟩
theorem fl_61 : xFLok (6, 22, 6, 2, 0) := ⟨by decide, fun C T N ty h1 h2 => by cases h1; cases h2; exact ⟨by decide, gm1 205 rfl rfl, ⟨rfl, rfl⟩⟩⟩
theorem fl_62 : xFLok (8, 162, 6, 2, 0) := ⟨by decide, fun C T N ty h1 h2 => by cases h1; cases h2; exact ⟨by decide, gm1 206 rfl rfl, ⟨rfl, rfl⟩⟩⟩
theorem fl_63 : xFLok (6, 26, 6, 3, 0) := ⟨by decide, fun C T N ty h1 h2 => by cases h1; cases h2; exact ⟨by decide, gm1 207 rfl rfl, ⟨rfl, rfl⟩⟩⟩
theorem fl_64 : xFLok (6, 29, 6, 4, 1) := ⟨by decide, fun C T N ty h1 h2 => by cases h1; cases h2; exact ⟨by decide, gm1 208 rfl rfl, ⟨rfl, rfl⟩⟩⟩
theorem fl_65 : xFLok (6, 33, 6, 5, 0) := ⟨by decide, fun C T N ty h1 h2 => by cases h1; cases h2; exact ⟨by decide, gm1 209 rfl rfl, ⟨rfl, rfl⟩⟩⟩
theorem fl_66 : xFLok (6, 36, 6, 6, 0) := ⟨by decide, fun C T N ty h1 h2 => by cases h1; cases h2; exact ⟨by decide, gm1 210 rfl rfl, ⟨rfl, rfl⟩⟩⟩
theorem fl_67 : xFLok (6, 39, 6, 7, 0) := ⟨by decide, fun C T N ty h1 h2 => by cases h1; cases h2; exact ⟨by decide, gm1 211 rfl rfl, ⟨rfl, rfl⟩⟩⟩
theorem fl_68 : xFLok (6, 42, 6, 8, 0) := ⟨by decide, fun C T N ty h1 h2 => by cases h1; cases h2; exact ⟨by decide, gm1 212 rfl rfl, ⟨rfl, rfl⟩⟩⟩
theorem fl_69 : xFLok (6, 45, 6, 9, 0) := ⟨by decide, fun C T N ty h1 h2 => by cases h1; cases h2; exact ⟨by decide, gm1 213 rfl rfl, ⟨rfl, rfl⟩⟩⟩
theorem fl_70 : xFLok (8, 12, 8, 0, 2) := ⟨by decide, fun C T N ty h1 h2 => by cases h1; cases h2; exact ⟨by decide, gm2 10 rfl rfl, ⟨Or.inl ⟨_, rfl⟩, rfl⟩⟩⟩
theorem fl_71 : xFLok (8, 16, 8, 1, 2) := ⟨by decide, fun C T N ty h1 h2 => by cases h1; cases h2; exact ⟨by decide, gm2 11 rfl rfl, ⟨Or.inl ⟨_, rfl⟩, rfl⟩⟩⟩
theorem fl_72 : xFLok (8, 19, 8, 2, 2) := ⟨by decide, fun C T N ty h1 h2 => by cases h1; cases h2; exact ⟨by decide, gm2 12 rfl rfl, ⟨Or.inl ⟨_, rfl⟩, rfl⟩⟩⟩
theorem fl_73 : xFLok (8, 25, 8, 3, 2) := ⟨by decide, fun C T N ty h1 h2 => by cases h1; cases h2; exact ⟨by decide, gm2 13 rfl rfl, ⟨Or.inl ⟨_, rfl⟩, rfl⟩⟩⟩
theorem fl_74 : xFLok (8, 32, 8, 4, 2) := ⟨by decide, fun C T N ty h1 h2 => by cases h1; cases h2; exact ⟨by decide, gm2 14 rfl rfl, ⟨Or.inl ⟨_, rfl⟩, rfl⟩⟩⟩
theorem fl_75 : xFLok (8, 39, 8, 5, 2) := ⟨by decide, fun C T N ty h1 h2 => by cases h1; cases h2; exact ⟨by decide, gm2 15 rfl rfl, ⟨Or.inl ⟨_, rfl⟩, rfl⟩⟩⟩
theorem fl_76 : xFLok (8, 43, 8, 6, 2) := ⟨by decide, fun C T N ty h1 h2 => by cases h1; cases h2; exact ⟨by decide, gm2 16 rfl rfl, ⟨Or.inl ⟨_, rfl⟩, rfl⟩⟩⟩
theorem fl_77 : xFLok (8, 48, 8, 7, 2) := ⟨by decide, fun C T N ty h1 h2 => by cases h1; cases h2; exact ⟨by decide, gm2 17 rfl rfl, ⟨Or.inr ⟨_, rfl⟩, rfl⟩⟩⟩
theorem fl_78 : xFLok (8, 55, 8, 8, 2) := ⟨by decide, fun C T N ty h1 h2 => by cases h1; cases h2; exact ⟨by decide, gm2 18 rfl rfl, ⟨Or.inl ⟨_, rfl⟩, rfl⟩⟩⟩
theorem fl_79 : xFLok (8, 59, 8, 9, 2) := ⟨by decide, fun C T N ty h1 h2 => by cases h1; cases h2; exact ⟨by decide, gm2 19 rfl rfl, ⟨Or.inr ⟨_, rfl⟩, rfl⟩⟩⟩
theorem fl_80 : xFLok (8, 63, 8, 10, 2) := ⟨by decide, fun C T N ty h1 h2 => by cases h1; cases h2; exact ⟨by decide, gm2 20 rfl rfl, ⟨Or.inr ⟨_, rfl⟩, rfl⟩⟩⟩
theorem fl_81 : xFLok (8, 66, 8, 11, 2) := ⟨by decide, fun C T N ty h1 h2 => by cases h1; cases h2; exact ⟨by decide, gm2 21 rfl rfl, ⟨Or.inr ⟨_, rfl⟩, rfl⟩⟩⟩
theorem fl_82 : xFLok (8, 69, 8, 12, 2) := ⟨by decide, fun C T N ty h1 h2 => by cases h1; cases h2; exact ⟨by decide, gm2 22 rfl rfl, ⟨Or.inr ⟨_, rfl⟩, rfl⟩⟩⟩
theorem fl_83 : xFLok (8, 72, 8, 13, 2) := ⟨by decide, fun C T N ty h1 h2 => by cases h1; cases h2; exact ⟨by decide, gm2 23 rfl rfl, ⟨Or.inr ⟨_, rfl⟩, rfl⟩⟩⟩
theorem fl_84 : xFLok (8, 76, 8, 14, 0) := ⟨by decide, fun C T N ty h1 h2 => by cases h1; cases h2; exact ⟨by decide, gm2 24 rfl rfl, ⟨rfl, rfl⟩⟩⟩
theorem fl_85 : xFLok (8, 80, 8, 15, 0) := ⟨by decide, fun C T N ty h1 h2 => by cases h1; cases h2; exact ⟨by decide, gm2 25 rfl rfl, ⟨rfl, rfl⟩⟩⟩
theorem fl_86 : xFLok (8, 83, 8, 16, 0) := ⟨by decide, fun C T N ty h1 h2 => by cases h1; cases h2; exact ⟨by decide, gm2 26 rfl rfl, ⟨rfl, rfl⟩⟩⟩
theorem fl_87 : xFLok (8, 86, 8, 17, 0) := ⟨by decide, fun C T N ty h1 h2 => by cases h1; cases h2; exact ⟨by decide, gm2 27 rfl rfl, ⟨rfl, rfl⟩⟩⟩
theorem fl_88 : xFLok (1, 10, 1, 0, 2) := ⟨by decide, fun C T N ty h1 h2 => by cases h1; cases h2; exact ⟨by decide, gm5 73 rfl rfl, ⟨Or.inl ⟨_, rfl⟩, rfl⟩⟩⟩
theorem fl_89 : xFLok (8, 299, 1, 0, 2) := ⟨by decide, fun C T N ty h1 h2 => by cases h1; cases h2; exact ⟨by decide, gm5 74 rfl rfl, ⟨Or.inl ⟨_, rfl⟩, rfl⟩⟩⟩
theorem fl_90 : xFLok (1, 19, 1, 1, 2) := ⟨by decide, fun C T N ty h1 h2 => by cases h1; cases h2; exact ⟨by decide, gm5 75 rfl rfl, ⟨Or.inl ⟨_, rfl⟩, rfl⟩⟩⟩
theorem fl_91 : xFLok (8, 302, 1, 1, 2) := ⟨by decide, fun C T N ty h1 h2 => by cases h1; cases h2; exact ⟨by decide, gm5 76 rfl rfl, ⟨Or.inl ⟨_, rfl⟩, rfl⟩⟩⟩
theorem fl_92 : xFLok (1, 26, 1, 2, 2) := ⟨by decide, fun C T N ty h1 h2 => by cases h1; cases h2; exact ⟨by decide, gm5 77 rfl rfl, ⟨Or.inl ⟨_, rfl⟩, rfl⟩⟩⟩
theorem fl_93 : xFLok (8, 306, 1, 2, 2) := ⟨by decide, fun C T N ty h1 h2 => by cases h1; cases h2; exact ⟨by decide, gm5 78 rfl rfl, ⟨Or.inl ⟨_, rfl⟩, rfl⟩⟩⟩
theorem fl_94 : xFLok (9, 3, 9, 0, 0) := ⟨by decide, fun C T N ty h1 h2 => by cases h1; cases h2; exact ⟨by decide, gm5 113 rfl rfl, ⟨rfl, rfl⟩⟩⟩
theorem fl_95 : xFLok (9, 7, 9, 1, 2) := ⟨by decide, fun C T N ty h1 h2 => by cases h1; cases h2; exact ⟨by decide, gm5 114 rfl rfl, ⟨Or.inr ⟨_, rfl⟩, rfl⟩⟩⟩
theorem fl_96 : xFLok (9, 28, 9, 2, 2) := ⟨by decide, fun C T N ty h1 h2 => by cases h1; cases h2; exact ⟨by decide, gm5 115 rfl rfl, ⟨Or.inr ⟨_, rfl⟩, rfl⟩⟩⟩
theorem fl_97 : xFLok (9, 31, 9, 3, 2) := ⟨by decide, fun C T N ty h1 h2 => by cases h1; cases h2; exact ⟨by decide, gm5 116 rfl rfl, ⟨Or.inr ⟨_, rfl⟩, rfl⟩⟩⟩
theorem fl_98 : xFLok (9, 34, 9, 4, 2) := ⟨by decide, fun C T N ty h1 h2 => by cases h1; cases h2; exact ⟨by decide, gm5 117 rfl rfl, ⟨Or.inr ⟨_, rfl⟩, rfl⟩⟩⟩
theorem fl_99 : xFLok (9, 38, 9, 5, 2) := ⟨by decide, fun C T N ty h1 h2 => by cases h1; cases h2; exact ⟨by decide, gm5 118 rfl rfl, ⟨Or.inr ⟨_, rfl⟩, rfl⟩⟩⟩
theorem fl_100 : xFLok (9, 155, 9, 6, 0) := ⟨by decide, fun C T N ty h1 h2 => by cases h1; cases h2; exact ⟨by decide, gm5 119 rfl rfl, ⟨rfl, rfl⟩⟩⟩
theorem fl_101 : xFLok (9, 41, 9, 7, 2) := ⟨by decide, fun C T N ty h1 h2 => by cases h1; cases h2; exact ⟨by decide, gm5 120 rfl rfl, ⟨Or.inr ⟨_, rfl⟩, rfl⟩⟩⟩
theorem fl_102 : xFLok (9, 233, 9, 8, 0) := ⟨by decide, fun C T N ty h1 h2 => by cases h1; cases h2; exact ⟨by decide, gm5 121 rfl rfl, ⟨rfl, rfl⟩⟩⟩
theorem fl_103 : xFLok (9, 236, 9, 9, 0) := ⟨by decide, fun C T N ty h1 h2 => by cases h1; cases h2; exact ⟨by decide, gm5 122 rfl rfl, ⟨rfl, rfl⟩⟩⟩
theorem fl_104 : xFLok (9, 207, 9, 10, 1) := ⟨by decide, fun C T N ty h1 h2 => by cases h1; cases h2; exact ⟨by decide, gm5 123 rfl rfl, ⟨rfl, rfl⟩⟩⟩
theorem fl_105 : xFLok (9, 45, 9, 11, 2) := ⟨by decide, fun C T N ty h1 h2 => by cases h1; cases h2; exact ⟨by decide, gm5 124 rfl rfl, ⟨Or.inr ⟨_, rfl⟩, rfl⟩⟩⟩
theorem fl_106 : xFLok (9, 48, 9, 12, 2) := ⟨by decide, fun C T N ty h1 h2 => by cases h1; cases h2; exact ⟨by decide, gm5 125 rfl rfl, ⟨Or.inr ⟨_, rfl⟩, rfl⟩⟩⟩
theorem fl_107 : xFLok (9, 152, 9, 13, 0) := ⟨by decide, fun C T N ty h1 h2 => by cases h1; cases h2; exact ⟨by decide, gm5 126 rfl rfl, ⟨rfl, rfl⟩⟩⟩
theorem fl_108 : xFLok (9, 51, 9, 14, 0) := ⟨by decide, fun C T N ty h1 h2 => by cases h1; cases h2; exact ⟨by decide, gm5 127 rfl rfl, ⟨rfl, rfl⟩⟩⟩
theorem fl_109 : xFLok (9, 54, 9, 15, 2) := ⟨by decide, fun C T N ty h1 h2 => by cases h1; cases h2; exact ⟨by decide, gm5 128 rfl rfl, ⟨Or.inr ⟨_, rfl⟩, rfl⟩⟩⟩
theorem fl_110 : xFLok (9, 57, 9, 16, 2) := ⟨by decide, fun C T N ty h1 h2 => by cases h1; cases h2; exact ⟨by decide, gm5 129 rfl rfl, ⟨Or.inr ⟨_, rfl⟩, rfl⟩⟩⟩
theorem fl_111 : xFLok (9, 60, 9, 17, 2) := ⟨by decide, fun C T N ty h1 h2 => by cases h1; cases h2; exact ⟨by decide, gm5 130 rfl rfl, ⟨Or.inr ⟨_, rfl⟩, rfl⟩⟩⟩
theorem fl_112 : xFLok (9, 161, 9, 18, 0) := ⟨by decide, fun C T N ty h1 h2 => by cases h1; cases h2; exact ⟨by decide, gm5 131 rfl rfl, ⟨rfl, rfl⟩⟩⟩
theorem fl_113 : xFLok (9, 181, 9, 19, 0) := ⟨by decide, fun C T N ty h1 h2 => by cases h1; cases h2; exact ⟨by decide, gm5 132 rfl rfl, ⟨rfl, rfl⟩⟩⟩
theorem fl_114 : xFLok (9, 190, 9, 20, 0) := ⟨by decide, fun C T N ty h1 h2 => by cases h1; cases h2; exact ⟨by decide, gm5 133 rfl rfl, ⟨rfl, rfl⟩⟩⟩
theorem fl_115 : xFLok (9, 174, 9, 21, 0) := ⟨by decide, fun C T N ty h1 h2 => by cases h1; cases h2; exact ⟨by decide, gm5 134 rfl rfl, ⟨rfl, rfl⟩⟩⟩
theorem fl_116 : xFLok (9, 264, 9, 22, 0) := ⟨by decide, fun C T N ty h1 h2 => by cases h1; cases h2; exact ⟨by decide, gm5 135 rfl rfl, ⟨rfl, rfl⟩⟩⟩
theorem fl_117 : xFLok (9, 261, 9, 23, 0) := ⟨by decide, fun C T N ty h1 h2 => by cases h1; cases h2; exact ⟨by decide, gm5 136 rfl rfl, ⟨rfl, rfl⟩⟩⟩
theorem fl_118 : xFLok (9, 274, 9, 24, 1) := ⟨by decide, fun C T N ty h1 h2 => by cases h1; cases h2; exact ⟨by decide, gm5 137 rfl rfl, ⟨rfl, rfl⟩⟩⟩
theorem fl_119 : xFLok (9, 294, 9, 25, 1) := ⟨by decide, fun C T N ty h1 h2 => by cases h1; cases h2; exact ⟨by decide, gm5 138 rfl rfl, ⟨rfl, rfl⟩⟩⟩
theorem fl_120 : xFLok (9, 63, 9, 26, 2) := ⟨by decide, fun C T N ty h1 h2 => by cases h1; cases h2; exact ⟨by decide, gm5 139 rfl rfl, ⟨Or.inr ⟨_, rfl⟩, rfl⟩⟩⟩
theorem fl_121 : xFLok (9, 300, 9, 27, 0) := ⟨by decide, fun C T N ty h1 h2 => by cases h1; cases h2; exact ⟨by decide, gm5 140 rfl rfl, ⟨rfl, rfl⟩⟩⟩
theorem fl_122 : xFLok (9, 303, 9, 28, 0) := ⟨by decide, fun C T N ty h1 h2 => by cases h1; cases h2; exact ⟨by decide, gm5 141 rfl rfl, ⟨rfl, rfl⟩⟩⟩
theorem fl_123 : xFLok (9, 66, 9, 29, 2) := ⟨by decide, fun C T N ty h1 h2 => by cases h1; cases h2; exact ⟨by decide, gm5 142 rfl rfl, ⟨Or.inr ⟨_, rfl⟩, rfl⟩⟩⟩
theorem fl_124 : xFLok (9, 69, 9, 30, 2) := ⟨by decide, fun C T N ty h1 h2 => by cases h1; cases h2; exact ⟨by decide, gm5 143 rfl rfl, ⟨Or.inr ⟨_, rfl⟩, rfl⟩⟩⟩
theorem fl_125 : xFLok (9, 72, 9, 31, 2) := ⟨by decide, fun C T N ty h1 h2 => by cases h1; cases h2; exact ⟨by decide, gm5 144 rfl rfl, ⟨Or.inr ⟨_, rfl⟩, rfl⟩⟩⟩
theorem fl_126 : xFLok (9, 11, 9, 32, 0) := ⟨by decide, fun C T N ty h1 h2 => by cases h1; cases h2; exact ⟨by decide, gm5 145 rfl rfl, ⟨rfl, rfl⟩⟩⟩
theorem fl_127 : xFLok (9, 75, 9, 33, 2) := ⟨by decide, fun C T N ty h1 h2 => by cases h1; cases h2; exact ⟨by decide, gm5 146 rfl rfl, ⟨Or.inr ⟨_, rfl⟩, rfl⟩⟩⟩
theorem fl_128 : xFLok (9, 78, 9, 34, 2) := ⟨by decide, fun C T N ty h1 h2 => by cases h1; cases h2; exact ⟨by decide, gm5 147 rfl rfl, ⟨Or.inr ⟨_, rfl⟩, rfl⟩⟩⟩
theorem fl_129 : xFLok (9, 81, 9, 35, 2) := ⟨by decide, fun C T N ty h1 h2 => by cases h1; cases h2; exact ⟨by decide, gm5 148 rfl rfl, ⟨Or.inr ⟨_, rfl⟩, rfl⟩⟩⟩
theorem fl_130 : xFLok (9, 85, 9, 36, 0) := ⟨by decide, fun C T N ty h1 h2 => by cases h1; cases h2; exact ⟨by decide, gm5 149 rfl rfl, ⟨rfl, rfl⟩⟩⟩
theorem fl_131 : xFLok (9, 444, 9, 37, 0) := ⟨by decide, fun C T N ty h1 h2 => by cases h1; cases h2; exact ⟨by decide, gm5 150 rfl rfl, ⟨rfl, rfl⟩⟩⟩
theorem fl_132 : xFLok (9, 456, 9, 38, 0) := ⟨by decide, fun C T N ty h1 h2 => by cases h1; cases h2; exact ⟨by decide, gm5 151 rfl rfl, ⟨rfl, rfl⟩⟩⟩
theorem fl_133 : xFLok (9, 450, 9, 39, 0) := ⟨by decide, fun C T N ty h1 h2 => by cases h1; cases h2; exact ⟨by decide, gm5 152 rfl rfl, ⟨rfl, rfl⟩⟩⟩
theorem fl_134 : xFLok (9, 453, 9, 40, 1) := ⟨by decide, fun C T N ty h1 h2 => by cases h1; cases h2; exact ⟨by decide, gm5 153 rfl rfl, ⟨rfl, rfl⟩⟩⟩
theorem fl_135 : xFLok (9, 459, 9, 41, 1) := ⟨by decide, fun C T N ty h1 h2 => by cases h1; cases h2; exact ⟨by decide, gm5 154 rfl rfl, ⟨rfl, rfl⟩⟩⟩
theorem fl_136 : xFLok (9, 88, 9, 42, 2) := ⟨by decide, fun C T N ty h1 h2 => by cases h1; cases h2; exact ⟨by decide, gm5 155 rfl rfl, ⟨Or.inr ⟨_, rfl⟩, rfl⟩⟩⟩
theorem fl_137 : xFLok (9, 91, 9, 43, 2) := ⟨by decide, fun C T N ty h1 h2 => by cases h1; cases h2; exact ⟨by decide, gm5 156 rfl rfl, ⟨Or.inr ⟨_, rfl⟩, rfl⟩⟩⟩
theorem fl_138 : xFLok (9, 487, 9, 44, 1) := ⟨by decide, fun C T N ty h1 h2 => by cases h1; cases h2; exact ⟨by decide, gm5 157 rfl rfl, ⟨rfl, rfl⟩⟩⟩
theorem fl_139 : xFLok (9, 477, 9, 45, 0) := ⟨by decide, fun C T N ty h1 h2 => by cases h1; cases h2; exact ⟨by decide, gm5 158 rfl rfl, ⟨rfl, rfl⟩⟩⟩
theorem fl_all : ∀ e ∈ xFL, xFLok e := by
  unfold xFL
  exact List.forall_mem_cons.mpr ⟨fl_0, List.forall_mem_cons.mpr ⟨fl_1, List.forall_mem_cons.mpr ⟨fl_2, List.forall_mem_cons.mpr ⟨fl_3, List.forall_mem_cons.mpr ⟨fl_4, List.forall_mem_cons.mpr ⟨fl_5, List.forall_mem_cons.mpr ⟨fl_6, List.forall_mem_cons.mpr ⟨fl_7, List.forall_mem_cons.mpr ⟨fl_8, List.forall_mem_cons.mpr ⟨fl_9, List.forall_mem_cons.mpr ⟨fl_10, List.forall_mem_cons.mpr ⟨fl_11, List.forall_mem_cons.mpr ⟨fl_12, List.forall_mem_cons.mpr ⟨fl_13, List.forall_mem_cons.mpr ⟨fl_14, List.forall_mem_cons.mpr ⟨fl_15, List.forall_mem_cons.mpr ⟨fl_16, List.forall_mem_cons.mpr ⟨fl_17, List.forall_mem_cons.mpr ⟨fl_18, List.forall_mem_cons.mpr ⟨fl_19, List.forall_mem_cons.mpr ⟨fl_20, List.forall_mem_cons.mpr ⟨fl_21, List.forall_mem_cons.mpr ⟨fl_22, List.forall_mem_cons.mpr ⟨fl_23, List.forall_mem_cons.mpr ⟨fl_24, List.forall_mem_cons.mpr ⟨fl_25, List.forall_mem_cons.mpr ⟨fl_26, List.forall_mem_cons.mpr ⟨fl_27, List.forall_mem_cons.mpr ⟨fl_28, List.forall_mem_cons.mpr ⟨fl_29, List.forall_mem_cons.mpr ⟨fl_30, List.forall_mem_cons.mpr ⟨fl_31, List.forall_mem_cons.mpr ⟨fl_32, List.forall_mem_cons.mpr ⟨fl_33, List.forall_mem_cons.mpr ⟨fl_34, List.forall_mem_cons.mpr ⟨fl_35, List.forall_mem_cons.mpr ⟨fl_36, List.forall_mem_cons.mpr ⟨fl_37, List.forall_mem_cons.mpr ⟨fl_38, List.forall_mem_cons.mpr ⟨fl_39, List.forall_mem_cons.mpr ⟨fl_40, List.forall_mem_cons.mpr ⟨fl_41, List.forall_mem_cons.mpr ⟨fl_42, List.forall_mem_cons.mpr ⟨fl_43, List.forall_mem_cons.mpr ⟨fl_44, List.forall_mem_cons.mpr ⟨fl_45, List.forall_mem_cons.mpr ⟨fl_46, List.forall_mem_cons.mpr ⟨fl_47, List.forall_mem_cons.mpr ⟨fl_48, List.forall_mem_cons.mpr ⟨fl_49, List.forall_mem_cons.mpr ⟨fl_50, List.forall_mem_cons.mpr ⟨fl_51, List.forall_mem_cons.mpr ⟨fl_52, List.forall_mem_cons.mpr ⟨fl_53, List.forall_mem_cons.mpr ⟨fl_54, List.forall_mem_cons.mpr ⟨fl_55, List.forall_mem_cons.mpr ⟨fl_56, List.forall_mem_cons.mpr ⟨fl_57, List.forall_mem_cons.mpr ⟨fl_58, List.forall_mem_cons.mpr ⟨fl_59, List.forall_mem_cons.mpr ⟨fl_60, List.forall_mem_cons.mpr ⟨fl_61, List.forall_mem_cons.mpr ⟨fl_62, List.forall_mem_cons.mpr ⟨fl_63, List.forall_mem_cons.mpr ⟨fl_64, List.forall_mem_cons.mpr ⟨fl_65, List.forall_mem_cons.mpr ⟨fl_66, List.forall_mem_cons.mpr ⟨fl_67, List.forall_mem_cons.mpr ⟨fl_68, List.forall_mem_cons.mpr ⟨fl_69, List.forall_mem_cons.mpr ⟨fl_70, List.forall_mem_cons.mpr ⟨fl_71, List.forall_mem_cons.mpr ⟨fl_72, List.forall_mem_cons.mpr ⟨fl_73, List.forall_mem_cons.mpr ⟨fl_74, List.forall_mem_cons.mpr ⟨fl_75, List.forall_mem_cons.mpr ⟨fl_76, List.forall_mem_cons.mpr ⟨fl_77, List.forall_mem_cons.mpr ⟨fl_78, List.forall_mem_cons.mpr ⟨fl_79, List.forall_mem_cons.mpr ⟨fl_80, List.forall_mem_cons.mpr ⟨fl_81, List.forall_mem_cons.mpr ⟨fl_82, List.forall_mem_cons.mpr ⟨fl_83, List.forall_mem_cons.mpr ⟨fl_84, List.forall_mem_cons.mpr ⟨fl_85, List.forall_mem_cons.mpr ⟨fl_86, List.forall_mem_cons.mpr ⟨fl_87, List.forall_mem_cons.mpr ⟨fl_88, List.forall_mem_cons.mpr ⟨fl_89, List.forall_mem_cons.mpr ⟨fl_90, List.forall_mem_cons.mpr ⟨fl_91, List.forall_mem_cons.mpr ⟨fl_92, List.forall_mem_cons.mpr ⟨fl_93, List.forall_mem_cons.mpr ⟨fl_94, List.forall_mem_cons.mpr ⟨fl_95, List.forall_mem_cons.mpr ⟨fl_96, List.forall_mem_cons.mpr ⟨fl_97, List.forall_mem_cons.mpr ⟨fl_98, List.forall_mem_cons.mpr ⟨fl_99, List.forall_mem_cons.mpr ⟨fl_100, List.forall_mem_cons.mpr ⟨fl_101, List.forall_mem_cons.mpr ⟨fl_102, List.forall_mem_cons.mpr ⟨fl_103, List.forall_mem_cons.mpr ⟨fl_104, List.forall_mem_cons.mpr ⟨fl_105, List.forall_mem_cons.mpr ⟨fl_106, List.forall_mem_cons.mpr ⟨fl_107, List.forall_mem_cons.mpr ⟨fl_108, List.forall_mem_cons.mpr ⟨fl_109, List.forall_mem_cons.mpr ⟨fl_110, List.forall_mem_cons.mpr ⟨fl_111, List.forall_mem_cons.mpr ⟨fl_112, List.forall_mem_cons.mpr ⟨fl_113, List.forall_mem_cons.mpr ⟨fl_114, List.forall_mem_cons.mpr ⟨fl_115, List.forall_mem_cons.mpr ⟨fl_116, List.forall_mem_cons.mpr ⟨fl_117, List.forall_mem_cons.mpr ⟨fl_118, List.forall_mem_cons.mpr ⟨fl_119, List.forall_mem_cons.mpr ⟨fl_120, List.forall_mem_cons.mpr ⟨fl_121, List.forall_mem_cons.mpr ⟨fl_122, List.forall_mem_cons.mpr ⟨fl_123, List.forall_mem_cons.mpr ⟨fl_124, List.forall_mem_cons.mpr ⟨fl_125, List.forall_mem_cons.mpr ⟨fl_126, List.forall_mem_cons.mpr ⟨fl_127, List.forall_mem_cons.mpr ⟨fl_128, List.forall_mem_cons.mpr ⟨fl_129, List.forall_mem_cons.mpr ⟨fl_130, List.forall_mem_cons.mpr ⟨fl_131, List.forall_mem_cons.mpr ⟨fl_132, List.forall_mem_cons.mpr ⟨fl_133, List.forall_mem_cons.mpr ⟨fl_134, List.forall_mem_cons.mpr ⟨fl_135, List.forall_mem_cons.mpr ⟨fl_136, List.forall_mem_cons.mpr ⟨fl_137, List.forall_mem_cons.mpr ⟨fl_138, List.forall_mem_cons.mpr ⟨fl_139, fun _ h => absurd h List.not_mem_nil⟩⟩⟩⟩⟩⟩⟩⟩⟩⟩⟩⟩⟩⟩⟩⟩⟩⟩⟩⟩⟩⟩⟩⟩⟩⟩⟩⟩⟩⟩⟩⟩⟩⟩⟩⟩⟩⟩⟩⟩⟩⟩⟩⟩⟩⟩⟩⟩⟩⟩⟩⟩⟩⟩⟩⟩⟩⟩⟩⟩⟩⟩⟩⟩⟩⟩⟩⟩⟩⟩⟩⟩⟩⟩⟩⟩⟩⟩⟩⟩⟩⟩⟩⟩⟩⟩⟩⟩⟩⟩⟩⟩⟩⟩⟩⟩⟩⟩⟩⟩⟩⟩⟩⟩⟩⟩⟩⟩⟩⟩⟩⟩⟩⟩⟩⟩⟩⟩⟩⟩⟩⟩⟩⟩⟩⟩⟩⟩⟩⟩⟩⟩⟩⟩⟩⟩⟩⟩⟩⟩
