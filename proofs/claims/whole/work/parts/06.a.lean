-- ===== PART A: goes FIRST, ahead of the names: the tables' words, and 'selects' of the private methods out of them =====
/-- a private method of a class that the tables say can be made, by its rows of tables_1 -/
def lw_okq (q : MethodName × Nat) : Prop := (q.1.cls ≠ "java/lang/invoke/MethodHandle" ∧ q.1.cls ≠ "java/lang/invoke/VarHandle") ∧ Cond.instantiable q.1.cls q.2 ∈ tables_1 ∧ Cond.privateMethod q.1 ∈ tables_1 ∧ Cond.instanceMethod q.1 ∈ tables_1
theorem lw_p0 : lw_okq (⟨"TwinBuckets", "refuse", "(I)I"⟩, 18) := ⟨⟨by decide +kernel, by decide +kernel⟩, List.mem_of_getElem? (i := 20) (by decide +kernel), List.mem_of_getElem? (i := 442) (by decide +kernel), List.mem_of_getElem? (i := 443) (by decide +kernel)⟩
theorem lw_p1 : lw_okq (⟨"TwinBuckets", "termNow", "(I)I"⟩, 18) := ⟨⟨by decide +kernel, by decide +kernel⟩, List.mem_of_getElem? (i := 20) (by decide +kernel), List.mem_of_getElem? (i := 451) (by decide +kernel), List.mem_of_getElem? (i := 452) (by decide +kernel)⟩
theorem lw_p2 : lw_okq (⟨"TwinBuckets", "setTerm", "(II)V"⟩, 18) := ⟨⟨by decide +kernel, by decide +kernel⟩, List.mem_of_getElem? (i := 20) (by decide +kernel), List.mem_of_getElem? (i := 455) (by decide +kernel), List.mem_of_getElem? (i := 456) (by decide +kernel)⟩
theorem lw_p3 : lw_okq (⟨"TwinBuckets", "grant", "(I)I"⟩, 18) := ⟨⟨by decide +kernel, by decide +kernel⟩, List.mem_of_getElem? (i := 20) (by decide +kernel), List.mem_of_getElem? (i := 463) (by decide +kernel), List.mem_of_getElem? (i := 464) (by decide +kernel)⟩
theorem lw_p4 : lw_okq (⟨"TwinBuckets$Tape", "next", "()V"⟩, 10) := ⟨⟨by decide +kernel, by decide +kernel⟩, List.mem_of_getElem? (i := 160) (by decide +kernel), List.mem_of_getElem? (i := 581) (by decide +kernel), List.mem_of_getElem? (i := 582) (by decide +kernel)⟩
theorem lw_p5 : lw_okq (⟨"TwinBuckets$Tape", "readClause", "()Z"⟩, 10) := ⟨⟨by decide +kernel, by decide +kernel⟩, List.mem_of_getElem? (i := 160) (by decide +kernel), List.mem_of_getElem? (i := 586) (by decide +kernel), List.mem_of_getElem? (i := 587) (by decide +kernel)⟩
theorem lw_p6 : lw_okq (⟨"TwinBuckets$Tape", "readOrder", "()Z"⟩, 10) := ⟨⟨by decide +kernel, by decide +kernel⟩, List.mem_of_getElem? (i := 160) (by decide +kernel), List.mem_of_getElem? (i := 594) (by decide +kernel), List.mem_of_getElem? (i := 595) (by decide +kernel)⟩
theorem lw_p7 : lw_okq (⟨"TwinBuckets$Tape", "passWord", "(Ljava/lang/String;)Z"⟩, 10) := ⟨⟨by decide +kernel, by decide +kernel⟩, List.mem_of_getElem? (i := 160) (by decide +kernel), List.mem_of_getElem? (i := 599) (by decide +kernel), List.mem_of_getElem? (i := 600) (by decide +kernel)⟩
theorem lw_p8 : lw_okq (⟨"TwinBuckets$Tape", "isWord", "(Ljava/lang/String;)Z"⟩, 10) := ⟨⟨by decide +kernel, by decide +kernel⟩, List.mem_of_getElem? (i := 160) (by decide +kernel), List.mem_of_getElem? (i := 603) (by decide +kernel), List.mem_of_getElem? (i := 604) (by decide +kernel)⟩
theorem lw_p9 : lw_okq (⟨"TwinBuckets$Tape", "readSumPart", "(I)Z"⟩, 10) := ⟨⟨by decide +kernel, by decide +kernel⟩, List.mem_of_getElem? (i := 160) (by decide +kernel), List.mem_of_getElem? (i := 655) (by decide +kernel), List.mem_of_getElem? (i := 656) (by decide +kernel)⟩
theorem lw_p10 : lw_okq (⟨"TwinBuckets$Tape", "readSum", "(I)Z"⟩, 10) := ⟨⟨by decide +kernel, by decide +kernel⟩, List.mem_of_getElem? (i := 160) (by decide +kernel), List.mem_of_getElem? (i := 659) (by decide +kernel), List.mem_of_getElem? (i := 660) (by decide +kernel)⟩
theorem lw_p11 : lw_okq (⟨"TwinBuckets$Tape", "readTerm", "(I)Z"⟩, 10) := ⟨⟨by decide +kernel, by decide +kernel⟩, List.mem_of_getElem? (i := 160) (by decide +kernel), List.mem_of_getElem? (i := 663) (by decide +kernel), List.mem_of_getElem? (i := 664) (by decide +kernel)⟩
theorem lw_p12 : lw_okq (⟨"TwinBuckets$Tape", "readPart", "(I)Z"⟩, 10) := ⟨⟨by decide +kernel, by decide +kernel⟩, List.mem_of_getElem? (i := 160) (by decide +kernel), List.mem_of_getElem? (i := 667) (by decide +kernel), List.mem_of_getElem? (i := 668) (by decide +kernel)⟩
theorem lw_p13 : lw_okq (⟨"TwinBuckets$Tape", "passSign", "(C)Z"⟩, 10) := ⟨⟨by decide +kernel, by decide +kernel⟩, List.mem_of_getElem? (i := 160) (by decide +kernel), List.mem_of_getElem? (i := 671) (by decide +kernel), List.mem_of_getElem? (i := 672) (by decide +kernel)⟩
theorem lw_p14 : lw_okq (⟨"TwinBuckets$Tape", "readAsked", "(II)Z"⟩, 10) := ⟨⟨by decide +kernel, by decide +kernel⟩, List.mem_of_getElem? (i := 160) (by decide +kernel), List.mem_of_getElem? (i := 680) (by decide +kernel), List.mem_of_getElem? (i := 681) (by decide +kernel)⟩
theorem lw_p15 : lw_okq (⟨"TwinBuckets$Tape", "orderWord", "()I"⟩, 10) := ⟨⟨by decide +kernel, by decide +kernel⟩, List.mem_of_getElem? (i := 160) (by decide +kernel), List.mem_of_getElem? (i := 685) (by decide +kernel), List.mem_of_getElem? (i := 686) (by decide +kernel)⟩
def lw_privs_1 : List (MethodName × Nat) := [(⟨"TwinBuckets", "refuse", "(I)I"⟩, 18), (⟨"TwinBuckets", "termNow", "(I)I"⟩, 18), (⟨"TwinBuckets", "setTerm", "(II)V"⟩, 18), (⟨"TwinBuckets", "grant", "(I)I"⟩, 18), (⟨"TwinBuckets$Tape", "next", "()V"⟩, 10), (⟨"TwinBuckets$Tape", "readClause", "()Z"⟩, 10), (⟨"TwinBuckets$Tape", "readOrder", "()Z"⟩, 10), (⟨"TwinBuckets$Tape", "passWord", "(Ljava/lang/String;)Z"⟩, 10), (⟨"TwinBuckets$Tape", "isWord", "(Ljava/lang/String;)Z"⟩, 10), (⟨"TwinBuckets$Tape", "readSumPart", "(I)Z"⟩, 10), (⟨"TwinBuckets$Tape", "readSum", "(I)Z"⟩, 10), (⟨"TwinBuckets$Tape", "readTerm", "(I)Z"⟩, 10), (⟨"TwinBuckets$Tape", "readPart", "(I)Z"⟩, 10), (⟨"TwinBuckets$Tape", "passSign", "(C)Z"⟩, 10), (⟨"TwinBuckets$Tape", "readAsked", "(II)Z"⟩, 10), (⟨"TwinBuckets$Tape", "orderWord", "()I"⟩, 10)]
theorem lw_r1 : ∀ q ∈ lw_privs_1, lw_okq q := List.forall_mem_cons.mpr ⟨lw_p0, List.forall_mem_cons.mpr ⟨lw_p1, List.forall_mem_cons.mpr ⟨lw_p2, List.forall_mem_cons.mpr ⟨lw_p3, List.forall_mem_cons.mpr ⟨lw_p4, List.forall_mem_cons.mpr ⟨lw_p5, List.forall_mem_cons.mpr ⟨lw_p6, List.forall_mem_cons.mpr ⟨lw_p7, List.forall_mem_cons.mpr ⟨lw_p8, List.forall_mem_cons.mpr ⟨lw_p9, List.forall_mem_cons.mpr ⟨lw_p10, List.forall_mem_cons.mpr ⟨lw_p11, List.forall_mem_cons.mpr ⟨lw_p12, List.forall_mem_cons.mpr ⟨lw_p13, List.forall_mem_cons.mpr ⟨lw_p14, List.forall_mem_cons.mpr ⟨lw_p15, fun _ h => absurd h List.not_mem_nil⟩⟩⟩⟩⟩⟩⟩⟩⟩⟩⟩⟩⟩⟩⟩⟩
theorem lw_p16 : lw_okq (⟨"TwinBuckets$Tape", "lawWord", "()I"⟩, 10) := ⟨⟨by decide +kernel, by decide +kernel⟩, List.mem_of_getElem? (i := 160) (by decide +kernel), List.mem_of_getElem? (i := 695) (by decide +kernel), List.mem_of_getElem? (i := 696) (by decide +kernel)⟩
theorem lw_p17 : lw_okq (⟨"TwinBuckets$Tape", "readRule", "()Z"⟩, 10) := ⟨⟨by decide +kernel, by decide +kernel⟩, List.mem_of_getElem? (i := 160) (by decide +kernel), List.mem_of_getElem? (i := 709) (by decide +kernel), List.mem_of_getElem? (i := 710) (by decide +kernel)⟩
theorem lw_p18 : lw_okq (⟨"TwinBuckets$Tape", "readTest", "(I)Z"⟩, 10) := ⟨⟨by decide +kernel, by decide +kernel⟩, List.mem_of_getElem? (i := 160) (by decide +kernel), List.mem_of_getElem? (i := 716) (by decide +kernel), List.mem_of_getElem? (i := 717) (by decide +kernel)⟩
theorem lw_p19 : lw_okq (⟨"TwinBuckets$Tape", "readBoth", "(I)Z"⟩, 10) := ⟨⟨by decide +kernel, by decide +kernel⟩, List.mem_of_getElem? (i := 160) (by decide +kernel), List.mem_of_getElem? (i := 720) (by decide +kernel), List.mem_of_getElem? (i := 721) (by decide +kernel)⟩
theorem lw_p20 : lw_okq (⟨"TwinBuckets$Tape", "readPlain", "(I)Z"⟩, 10) := ⟨⟨by decide +kernel, by decide +kernel⟩, List.mem_of_getElem? (i := 160) (by decide +kernel), List.mem_of_getElem? (i := 724) (by decide +kernel), List.mem_of_getElem? (i := 725) (by decide +kernel)⟩
theorem lw_p21 : lw_okq (⟨"TwinBuckets", "runClause", "(LTwinBuckets$Text;I)Z"⟩, 18) := ⟨⟨by decide +kernel, by decide +kernel⟩, List.mem_of_getElem? (i := 20) (by decide +kernel), List.mem_of_getElem? (i := 769) (by decide +kernel), List.mem_of_getElem? (i := 770) (by decide +kernel)⟩
theorem lw_p22 : lw_okq (⟨"TwinBuckets", "fillOrderWords", "(LTwinBuckets$Text;)V"⟩, 18) := ⟨⟨by decide +kernel, by decide +kernel⟩, List.mem_of_getElem? (i := 20) (by decide +kernel), List.mem_of_getElem? (i := 774) (by decide +kernel), List.mem_of_getElem? (i := 775) (by decide +kernel)⟩
theorem lw_p23 : lw_okq (⟨"TwinBuckets", "act", "(IIILTwinBuckets$History;)I"⟩, 18) := ⟨⟨by decide +kernel, by decide +kernel⟩, List.mem_of_getElem? (i := 20) (by decide +kernel), List.mem_of_getElem? (i := 780) (by decide +kernel), List.mem_of_getElem? (i := 781) (by decide +kernel)⟩
theorem lw_p24 : lw_okq (⟨"TwinBuckets$History", "keep", "(LTwinBuckets$Store;I)LTwinBuckets$Store;"⟩, 4) := ⟨⟨by decide +kernel, by decide +kernel⟩, List.mem_of_getElem? (i := 136) (by decide +kernel), List.mem_of_getElem? (i := 832) (by decide +kernel), List.mem_of_getElem? (i := 833) (by decide +kernel)⟩
theorem lw_p25 : lw_okq (⟨"TwinBuckets", "answer", "(I)I"⟩, 18) := ⟨⟨by decide +kernel, by decide +kernel⟩, List.mem_of_getElem? (i := 20) (by decide +kernel), List.mem_of_getElem? (i := 856) (by decide +kernel), List.mem_of_getElem? (i := 857) (by decide +kernel)⟩
theorem lw_p26 : lw_okq (⟨"TwinBuckets", "losePowerOnPaper", "(I)Z"⟩, 18) := ⟨⟨by decide +kernel, by decide +kernel⟩, List.mem_of_getElem? (i := 20) (by decide +kernel), List.mem_of_getElem? (i := 884) (by decide +kernel), List.mem_of_getElem? (i := 885) (by decide +kernel)⟩
theorem lw_p27 : lw_okq (⟨"TwinBuckets$Sightings", "fits", "(LTwinBuckets$Store;I)Z"⟩, 3) := ⟨⟨by decide +kernel, by decide +kernel⟩, List.mem_of_getElem? (i := 119) (by decide +kernel), List.mem_of_getElem? (i := 963) (by decide +kernel), List.mem_of_getElem? (i := 964) (by decide +kernel)⟩
theorem lw_p28 : lw_okq (⟨"TwinBuckets", "oneWriteMore", "(I)V"⟩, 18) := ⟨⟨by decide +kernel, by decide +kernel⟩, List.mem_of_getElem? (i := 20) (by decide +kernel), List.mem_of_getElem? (i := 989) (by decide +kernel), List.mem_of_getElem? (i := 990) (by decide +kernel)⟩
theorem lw_p29 : lw_okq (⟨"TwinBuckets", "actOnPaper", "(III)V"⟩, 18) := ⟨⟨by decide +kernel, by decide +kernel⟩, List.mem_of_getElem? (i := 20) (by decide +kernel), List.mem_of_getElem? (i := 1010) (by decide +kernel), List.mem_of_getElem? (i := 1011) (by decide +kernel)⟩
theorem lw_p30 : lw_okq (⟨"TwinBucketsModel", "refuses", "(I)I"⟩, 46) := ⟨⟨by decide +kernel, by decide +kernel⟩, List.mem_of_getElem? (i := 1068) (by decide +kernel), List.mem_of_getElem? (i := 1221) (by decide +kernel), List.mem_of_getElem? (i := 1222) (by decide +kernel)⟩
theorem lw_p31 : lw_okq (⟨"TwinBucketsModel", "good", "(I)I"⟩, 46) := ⟨⟨by decide +kernel, by decide +kernel⟩, List.mem_of_getElem? (i := 1068) (by decide +kernel), List.mem_of_getElem? (i := 1225) (by decide +kernel), List.mem_of_getElem? (i := 1226) (by decide +kernel)⟩
def lw_privs_2 : List (MethodName × Nat) := [(⟨"TwinBuckets$Tape", "lawWord", "()I"⟩, 10), (⟨"TwinBuckets$Tape", "readRule", "()Z"⟩, 10), (⟨"TwinBuckets$Tape", "readTest", "(I)Z"⟩, 10), (⟨"TwinBuckets$Tape", "readBoth", "(I)Z"⟩, 10), (⟨"TwinBuckets$Tape", "readPlain", "(I)Z"⟩, 10), (⟨"TwinBuckets", "runClause", "(LTwinBuckets$Text;I)Z"⟩, 18), (⟨"TwinBuckets", "fillOrderWords", "(LTwinBuckets$Text;)V"⟩, 18), (⟨"TwinBuckets", "act", "(IIILTwinBuckets$History;)I"⟩, 18), (⟨"TwinBuckets$History", "keep", "(LTwinBuckets$Store;I)LTwinBuckets$Store;"⟩, 4), (⟨"TwinBuckets", "answer", "(I)I"⟩, 18), (⟨"TwinBuckets", "losePowerOnPaper", "(I)Z"⟩, 18), (⟨"TwinBuckets$Sightings", "fits", "(LTwinBuckets$Store;I)Z"⟩, 3), (⟨"TwinBuckets", "oneWriteMore", "(I)V"⟩, 18), (⟨"TwinBuckets", "actOnPaper", "(III)V"⟩, 18), (⟨"TwinBucketsModel", "refuses", "(I)I"⟩, 46), (⟨"TwinBucketsModel", "good", "(I)I"⟩, 46)]
theorem lw_r2 : ∀ q ∈ lw_privs_2, lw_okq q := List.forall_mem_cons.mpr ⟨lw_p16, List.forall_mem_cons.mpr ⟨lw_p17, List.forall_mem_cons.mpr ⟨lw_p18, List.forall_mem_cons.mpr ⟨lw_p19, List.forall_mem_cons.mpr ⟨lw_p20, List.forall_mem_cons.mpr ⟨lw_p21, List.forall_mem_cons.mpr ⟨lw_p22, List.forall_mem_cons.mpr ⟨lw_p23, List.forall_mem_cons.mpr ⟨lw_p24, List.forall_mem_cons.mpr ⟨lw_p25, List.forall_mem_cons.mpr ⟨lw_p26, List.forall_mem_cons.mpr ⟨lw_p27, List.forall_mem_cons.mpr ⟨lw_p28, List.forall_mem_cons.mpr ⟨lw_p29, List.forall_mem_cons.mpr ⟨lw_p30, List.forall_mem_cons.mpr ⟨lw_p31, fun _ h => absurd h List.not_mem_nil⟩⟩⟩⟩⟩⟩⟩⟩⟩⟩⟩⟩⟩⟩⟩⟩
theorem lw_p32 : lw_okq (⟨"TwinBucketsModel", "settled", "(I)I"⟩, 46) := ⟨⟨by decide +kernel, by decide +kernel⟩, List.mem_of_getElem? (i := 1068) (by decide +kernel), List.mem_of_getElem? (i := 1233) (by decide +kernel), List.mem_of_getElem? (i := 1234) (by decide +kernel)⟩
theorem lw_p33 : lw_okq (⟨"TwinBucketsModel", "toldOf", "(II)I"⟩, 46) := ⟨⟨by decide +kernel, by decide +kernel⟩, List.mem_of_getElem? (i := 1068) (by decide +kernel), List.mem_of_getElem? (i := 1247) (by decide +kernel), List.mem_of_getElem? (i := 1248) (by decide +kernel)⟩
theorem lw_p34 : lw_okq (⟨"TwinBucketsModel", "ownerOf", "(I)I"⟩, 46) := ⟨⟨by decide +kernel, by decide +kernel⟩, List.mem_of_getElem? (i := 1068) (by decide +kernel), List.mem_of_getElem? (i := 1266) (by decide +kernel), List.mem_of_getElem? (i := 1267) (by decide +kernel)⟩
theorem lw_p35 : lw_okq (⟨"TwinBucketsModel", "isUsed", "(I)Z"⟩, 46) := ⟨⟨by decide +kernel, by decide +kernel⟩, List.mem_of_getElem? (i := 1068) (by decide +kernel), List.mem_of_getElem? (i := 1270) (by decide +kernel), List.mem_of_getElem? (i := 1271) (by decide +kernel)⟩
theorem lw_p36 : lw_okq (⟨"TwinBucketsModel", "hashOf", "(I)I"⟩, 46) := ⟨⟨by decide +kernel, by decide +kernel⟩, List.mem_of_getElem? (i := 1068) (by decide +kernel), List.mem_of_getElem? (i := 1284) (by decide +kernel), List.mem_of_getElem? (i := 1285) (by decide +kernel)⟩
theorem lw_p37 : lw_okq (⟨"TwinBucketsModel", "valueOrNone", "(I)I"⟩, 46) := ⟨⟨by decide +kernel, by decide +kernel⟩, List.mem_of_getElem? (i := 1068) (by decide +kernel), List.mem_of_getElem? (i := 1288) (by decide +kernel), List.mem_of_getElem? (i := 1289) (by decide +kernel)⟩
theorem lw_p38 : lw_okq (⟨"TwinBucketsModel", "placeOf", "(I)I"⟩, 46) := ⟨⟨by decide +kernel, by decide +kernel⟩, List.mem_of_getElem? (i := 1068) (by decide +kernel), List.mem_of_getElem? (i := 1292) (by decide +kernel), List.mem_of_getElem? (i := 1293) (by decide +kernel)⟩
theorem lw_p39 : lw_okq (⟨"TwinBucketsModel", "soughtIn", "(I)I"⟩, 46) := ⟨⟨by decide +kernel, by decide +kernel⟩, List.mem_of_getElem? (i := 1068) (by decide +kernel), List.mem_of_getElem? (i := 1296) (by decide +kernel), List.mem_of_getElem? (i := 1297) (by decide +kernel)⟩
theorem lw_p40 : lw_okq (⟨"TwinBucketsModel", "isBarred", "(I)Z"⟩, 46) := ⟨⟨by decide +kernel, by decide +kernel⟩, List.mem_of_getElem? (i := 1068) (by decide +kernel), List.mem_of_getElem? (i := 1300) (by decide +kernel), List.mem_of_getElem? (i := 1301) (by decide +kernel)⟩
theorem lw_p41 : lw_okq (⟨"TwinBucketsModel", "setsAsked", "(III)V"⟩, 46) := ⟨⟨by decide +kernel, by decide +kernel⟩, List.mem_of_getElem? (i := 1068) (by decide +kernel), List.mem_of_getElem? (i := 1304) (by decide +kernel), List.mem_of_getElem? (i := 1305) (by decide +kernel)⟩
theorem lw_p42 : lw_okq (⟨"TwinBucketsModel", "tells", "(II)I"⟩, 46) := ⟨⟨by decide +kernel, by decide +kernel⟩, List.mem_of_getElem? (i := 1068) (by decide +kernel), List.mem_of_getElem? (i := 1308) (by decide +kernel), List.mem_of_getElem? (i := 1309) (by decide +kernel)⟩
theorem lw_p43 : lw_okq (⟨"TwinBucketsModel", "codeAt", "(I)I"⟩, 46) := ⟨⟨by decide +kernel, by decide +kernel⟩, List.mem_of_getElem? (i := 1068) (by decide +kernel), List.mem_of_getElem? (i := 1312) (by decide +kernel), List.mem_of_getElem? (i := 1313) (by decide +kernel)⟩
theorem lw_p44 : lw_okq (⟨"TwinBucketsModel", "sumOf", "(Z)J"⟩, 46) := ⟨⟨by decide +kernel, by decide +kernel⟩, List.mem_of_getElem? (i := 1068) (by decide +kernel), List.mem_of_getElem? (i := 1316) (by decide +kernel), List.mem_of_getElem? (i := 1317) (by decide +kernel)⟩
theorem lw_p45 : lw_okq (⟨"TwinBucketsModel", "termOf", "(Z)J"⟩, 46) := ⟨⟨by decide +kernel, by decide +kernel⟩, List.mem_of_getElem? (i := 1068) (by decide +kernel), List.mem_of_getElem? (i := 1320) (by decide +kernel), List.mem_of_getElem? (i := 1321) (by decide +kernel)⟩
theorem lw_p46 : lw_okq (⟨"TwinBucketsModel", "partOf", "(Z)J"⟩, 46) := ⟨⟨by decide +kernel, by decide +kernel⟩, List.mem_of_getElem? (i := 1068) (by decide +kernel), List.mem_of_getElem? (i := 1324) (by decide +kernel), List.mem_of_getElem? (i := 1325) (by decide +kernel)⟩
theorem lw_p47 : lw_okq (⟨"TwinBucketsModel", "passes0", "(I)Z"⟩, 46) := ⟨⟨by decide +kernel, by decide +kernel⟩, List.mem_of_getElem? (i := 1068) (by decide +kernel), List.mem_of_getElem? (i := 1331) (by decide +kernel), List.mem_of_getElem? (i := 1332) (by decide +kernel)⟩
def lw_privs_3 : List (MethodName × Nat) := [(⟨"TwinBucketsModel", "settled", "(I)I"⟩, 46), (⟨"TwinBucketsModel", "toldOf", "(II)I"⟩, 46), (⟨"TwinBucketsModel", "ownerOf", "(I)I"⟩, 46), (⟨"TwinBucketsModel", "isUsed", "(I)Z"⟩, 46), (⟨"TwinBucketsModel", "hashOf", "(I)I"⟩, 46), (⟨"TwinBucketsModel", "valueOrNone", "(I)I"⟩, 46), (⟨"TwinBucketsModel", "placeOf", "(I)I"⟩, 46), (⟨"TwinBucketsModel", "soughtIn", "(I)I"⟩, 46), (⟨"TwinBucketsModel", "isBarred", "(I)Z"⟩, 46), (⟨"TwinBucketsModel", "setsAsked", "(III)V"⟩, 46), (⟨"TwinBucketsModel", "tells", "(II)I"⟩, 46), (⟨"TwinBucketsModel", "codeAt", "(I)I"⟩, 46), (⟨"TwinBucketsModel", "sumOf", "(Z)J"⟩, 46), (⟨"TwinBucketsModel", "termOf", "(Z)J"⟩, 46), (⟨"TwinBucketsModel", "partOf", "(Z)J"⟩, 46), (⟨"TwinBucketsModel", "passes0", "(I)Z"⟩, 46)]
theorem lw_r3 : ∀ q ∈ lw_privs_3, lw_okq q := List.forall_mem_cons.mpr ⟨lw_p32, List.forall_mem_cons.mpr ⟨lw_p33, List.forall_mem_cons.mpr ⟨lw_p34, List.forall_mem_cons.mpr ⟨lw_p35, List.forall_mem_cons.mpr ⟨lw_p36, List.forall_mem_cons.mpr ⟨lw_p37, List.forall_mem_cons.mpr ⟨lw_p38, List.forall_mem_cons.mpr ⟨lw_p39, List.forall_mem_cons.mpr ⟨lw_p40, List.forall_mem_cons.mpr ⟨lw_p41, List.forall_mem_cons.mpr ⟨lw_p42, List.forall_mem_cons.mpr ⟨lw_p43, List.forall_mem_cons.mpr ⟨lw_p44, List.forall_mem_cons.mpr ⟨lw_p45, List.forall_mem_cons.mpr ⟨lw_p46, List.forall_mem_cons.mpr ⟨lw_p47, fun _ h => absurd h List.not_mem_nil⟩⟩⟩⟩⟩⟩⟩⟩⟩⟩⟩⟩⟩⟩⟩⟩
theorem lw_p48 : lw_okq (⟨"TwinBucketsModel", "orderValue", "(II)I"⟩, 46) := ⟨⟨by decide +kernel, by decide +kernel⟩, List.mem_of_getElem? (i := 1068) (by decide +kernel), List.mem_of_getElem? (i := 1335) (by decide +kernel), List.mem_of_getElem? (i := 1336) (by decide +kernel)⟩
theorem lw_p49 : lw_okq (⟨"TwinBucketsModel", "keyMany", "()I"⟩, 46) := ⟨⟨by decide +kernel, by decide +kernel⟩, List.mem_of_getElem? (i := 1068) (by decide +kernel), List.mem_of_getElem? (i := 1339) (by decide +kernel), List.mem_of_getElem? (i := 1340) (by decide +kernel)⟩
theorem lw_p50 : lw_okq (⟨"TwinBucketsModel", "bounded", "(JZ)J"⟩, 46) := ⟨⟨by decide +kernel, by decide +kernel⟩, List.mem_of_getElem? (i := 1068) (by decide +kernel), List.mem_of_getElem? (i := 1343) (by decide +kernel), List.mem_of_getElem? (i := 1344) (by decide +kernel)⟩
theorem lw_p51 : lw_okq (⟨"TwinBucketsModel", "testOf", "(Z)Z"⟩, 46) := ⟨⟨by decide +kernel, by decide +kernel⟩, List.mem_of_getElem? (i := 1068) (by decide +kernel), List.mem_of_getElem? (i := 1349) (by decide +kernel), List.mem_of_getElem? (i := 1350) (by decide +kernel)⟩
theorem lw_p52 : lw_okq (⟨"TwinBucketsModel", "bothOf", "(Z)Z"⟩, 46) := ⟨⟨by decide +kernel, by decide +kernel⟩, List.mem_of_getElem? (i := 1068) (by decide +kernel), List.mem_of_getElem? (i := 1353) (by decide +kernel), List.mem_of_getElem? (i := 1354) (by decide +kernel)⟩
theorem lw_p53 : lw_okq (⟨"TwinBucketsModel", "plainOf", "(Z)Z"⟩, 46) := ⟨⟨by decide +kernel, by decide +kernel⟩, List.mem_of_getElem? (i := 1068) (by decide +kernel), List.mem_of_getElem? (i := 1357) (by decide +kernel), List.mem_of_getElem? (i := 1358) (by decide +kernel)⟩
theorem lw_p54 : lw_okq (⟨"TwinBucketsModel", "positiveOf", "(Z)Z"⟩, 46) := ⟨⟨by decide +kernel, by decide +kernel⟩, List.mem_of_getElem? (i := 1068) (by decide +kernel), List.mem_of_getElem? (i := 1361) (by decide +kernel), List.mem_of_getElem? (i := 1362) (by decide +kernel)⟩
theorem lw_p55 : lw_okq (⟨"TwinBucketsModel", "puts", "(II)I"⟩, 46) := ⟨⟨by decide +kernel, by decide +kernel⟩, List.mem_of_getElem? (i := 1068) (by decide +kernel), List.mem_of_getElem? (i := 1380) (by decide +kernel), List.mem_of_getElem? (i := 1381) (by decide +kernel)⟩
theorem lw_p56 : lw_okq (⟨"TwinBucketsModel", "writes", "(I)V"⟩, 46) := ⟨⟨by decide +kernel, by decide +kernel⟩, List.mem_of_getElem? (i := 1068) (by decide +kernel), List.mem_of_getElem? (i := 1384) (by decide +kernel), List.mem_of_getElem? (i := 1385) (by decide +kernel)⟩
theorem lw_p57 : lw_okq (⟨"TwinBucketsModel", "doesEldest", "()V"⟩, 46) := ⟨⟨by decide +kernel, by decide +kernel⟩, List.mem_of_getElem? (i := 1068) (by decide +kernel), List.mem_of_getElem? (i := 1388) (by decide +kernel), List.mem_of_getElem? (i := 1389) (by decide +kernel)⟩
theorem lw_p58 : lw_okq (⟨"TwinBucketsModel", "copies", "(II)V"⟩, 46) := ⟨⟨by decide +kernel, by decide +kernel⟩, List.mem_of_getElem? (i := 1068) (by decide +kernel), List.mem_of_getElem? (i := 1392) (by decide +kernel), List.mem_of_getElem? (i := 1393) (by decide +kernel)⟩
theorem lw_p59 : lw_okq (⟨"TwinBucketsModel", "costsOf", "(I)I"⟩, 46) := ⟨⟨by decide +kernel, by decide +kernel⟩, List.mem_of_getElem? (i := 1068) (by decide +kernel), List.mem_of_getElem? (i := 1396) (by decide +kernel), List.mem_of_getElem? (i := 1397) (by decide +kernel)⟩
theorem lw_p60 : lw_okq (⟨"TwinBucketsModel", "laysAside", "(I)V"⟩, 46) := ⟨⟨by decide +kernel, by decide +kernel⟩, List.mem_of_getElem? (i := 1068) (by decide +kernel), List.mem_of_getElem? (i := 1403) (by decide +kernel), List.mem_of_getElem? (i := 1404) (by decide +kernel)⟩
theorem lw_p61 : lw_okq (⟨"TwinBucketsModel", "comes", "(II)I"⟩, 46) := ⟨⟨by decide +kernel, by decide +kernel⟩, List.mem_of_getElem? (i := 1068) (by decide +kernel), List.mem_of_getElem? (i := 1407) (by decide +kernel), List.mem_of_getElem? (i := 1408) (by decide +kernel)⟩
theorem lw_p62 : lw_okq (⟨"TwinBucketsModel", "splits0", "(I)Z"⟩, 46) := ⟨⟨by decide +kernel, by decide +kernel⟩, List.mem_of_getElem? (i := 1068) (by decide +kernel), List.mem_of_getElem? (i := 1411) (by decide +kernel), List.mem_of_getElem? (i := 1412) (by decide +kernel)⟩
theorem lw_p63 : lw_okq (⟨"TwinBucketsModel", "lowestFree", "()I"⟩, 46) := ⟨⟨by decide +kernel, by decide +kernel⟩, List.mem_of_getElem? (i := 1068) (by decide +kernel), List.mem_of_getElem? (i := 1415) (by decide +kernel), List.mem_of_getElem? (i := 1416) (by decide +kernel)⟩
def lw_privs_4 : List (MethodName × Nat) := [(⟨"TwinBucketsModel", "orderValue", "(II)I"⟩, 46), (⟨"TwinBucketsModel", "keyMany", "()I"⟩, 46), (⟨"TwinBucketsModel", "bounded", "(JZ)J"⟩, 46), (⟨"TwinBucketsModel", "testOf", "(Z)Z"⟩, 46), (⟨"TwinBucketsModel", "bothOf", "(Z)Z"⟩, 46), (⟨"TwinBucketsModel", "plainOf", "(Z)Z"⟩, 46), (⟨"TwinBucketsModel", "positiveOf", "(Z)Z"⟩, 46), (⟨"TwinBucketsModel", "puts", "(II)I"⟩, 46), (⟨"TwinBucketsModel", "writes", "(I)V"⟩, 46), (⟨"TwinBucketsModel", "doesEldest", "()V"⟩, 46), (⟨"TwinBucketsModel", "copies", "(II)V"⟩, 46), (⟨"TwinBucketsModel", "costsOf", "(I)I"⟩, 46), (⟨"TwinBucketsModel", "laysAside", "(I)V"⟩, 46), (⟨"TwinBucketsModel", "comes", "(II)I"⟩, 46), (⟨"TwinBucketsModel", "splits0", "(I)Z"⟩, 46), (⟨"TwinBucketsModel", "lowestFree", "()I"⟩, 46)]
theorem lw_r4 : ∀ q ∈ lw_privs_4, lw_okq q := List.forall_mem_cons.mpr ⟨lw_p48, List.forall_mem_cons.mpr ⟨lw_p49, List.forall_mem_cons.mpr ⟨lw_p50, List.forall_mem_cons.mpr ⟨lw_p51, List.forall_mem_cons.mpr ⟨lw_p52, List.forall_mem_cons.mpr ⟨lw_p53, List.forall_mem_cons.mpr ⟨lw_p54, List.forall_mem_cons.mpr ⟨lw_p55, List.forall_mem_cons.mpr ⟨lw_p56, List.forall_mem_cons.mpr ⟨lw_p57, List.forall_mem_cons.mpr ⟨lw_p58, List.forall_mem_cons.mpr ⟨lw_p59, List.forall_mem_cons.mpr ⟨lw_p60, List.forall_mem_cons.mpr ⟨lw_p61, List.forall_mem_cons.mpr ⟨lw_p62, List.forall_mem_cons.mpr ⟨lw_p63, fun _ h => absurd h List.not_mem_nil⟩⟩⟩⟩⟩⟩⟩⟩⟩⟩⟩⟩⟩⟩⟩⟩
theorem lw_p64 : lw_okq (⟨"TwinBucketsModel", "comesInto", "(III)V"⟩, 46) := ⟨⟨by decide +kernel, by decide +kernel⟩, List.mem_of_getElem? (i := 1068) (by decide +kernel), List.mem_of_getElem? (i := 1422) (by decide +kernel), List.mem_of_getElem? (i := 1423) (by decide +kernel)⟩
theorem lw_p65 : lw_okq (⟨"TwinBucketsModel", "goesOut", "(II)V"⟩, 46) := ⟨⟨by decide +kernel, by decide +kernel⟩, List.mem_of_getElem? (i := 1068) (by decide +kernel), List.mem_of_getElem? (i := 1426) (by decide +kernel), List.mem_of_getElem? (i := 1427) (by decide +kernel)⟩
theorem lw_p66 : lw_okq (⟨"TwinBucketsModel", "takesBack", "(I)V"⟩, 46) := ⟨⟨by decide +kernel, by decide +kernel⟩, List.mem_of_getElem? (i := 1068) (by decide +kernel), List.mem_of_getElem? (i := 1430) (by decide +kernel), List.mem_of_getElem? (i := 1431) (by decide +kernel)⟩
theorem lw_p67 : lw_okq (⟨"TwinBucketsModel", "readsAs", "(Z)Z"⟩, 46) := ⟨⟨by decide +kernel, by decide +kernel⟩, List.mem_of_getElem? (i := 1068) (by decide +kernel), List.mem_of_getElem? (i := 1450) (by decide +kernel), List.mem_of_getElem? (i := 1451) (by decide +kernel)⟩
theorem lw_p68 : lw_okq (⟨"TwinBucketsModel", "reads", "()Z"⟩, 46) := ⟨⟨by decide +kernel, by decide +kernel⟩, List.mem_of_getElem? (i := 1068) (by decide +kernel), List.mem_of_getElem? (i := 1454) (by decide +kernel), List.mem_of_getElem? (i := 1455) (by decide +kernel)⟩
theorem lw_p69 : lw_okq (⟨"TwinBucketsModel", "cutsUp", "(I)V"⟩, 46) := ⟨⟨by decide +kernel, by decide +kernel⟩, List.mem_of_getElem? (i := 1068) (by decide +kernel), List.mem_of_getElem? (i := 1458) (by decide +kernel), List.mem_of_getElem? (i := 1459) (by decide +kernel)⟩
theorem lw_p70 : lw_okq (⟨"TwinBucketsModel", "wordOf", "(II)I"⟩, 46) := ⟨⟨by decide +kernel, by decide +kernel⟩, List.mem_of_getElem? (i := 1068) (by decide +kernel), List.mem_of_getElem? (i := 1468) (by decide +kernel), List.mem_of_getElem? (i := 1469) (by decide +kernel)⟩
theorem lw_p71 : lw_okq (⟨"TwinBucketsModel", "readOne", "()V"⟩, 46) := ⟨⟨by decide +kernel, by decide +kernel⟩, List.mem_of_getElem? (i := 1068) (by decide +kernel), List.mem_of_getElem? (i := 1473) (by decide +kernel), List.mem_of_getElem? (i := 1474) (by decide +kernel)⟩
theorem lw_p72 : lw_okq (⟨"TwinBucketsModel", "readOrder", "()V"⟩, 46) := ⟨⟨by decide +kernel, by decide +kernel⟩, List.mem_of_getElem? (i := 1068) (by decide +kernel), List.mem_of_getElem? (i := 1477) (by decide +kernel), List.mem_of_getElem? (i := 1478) (by decide +kernel)⟩
theorem lw_p73 : lw_okq (⟨"TwinBucketsModel", "takes0", "(I)Z"⟩, 46) := ⟨⟨by decide +kernel, by decide +kernel⟩, List.mem_of_getElem? (i := 1068) (by decide +kernel), List.mem_of_getElem? (i := 1481) (by decide +kernel), List.mem_of_getElem? (i := 1482) (by decide +kernel)⟩
theorem lw_p74 : lw_okq (⟨"TwinBucketsModel", "fine", "()Z"⟩, 46) := ⟨⟨by decide +kernel, by decide +kernel⟩, List.mem_of_getElem? (i := 1068) (by decide +kernel), List.mem_of_getElem? (i := 1485) (by decide +kernel), List.mem_of_getElem? (i := 1486) (by decide +kernel)⟩
theorem lw_p75 : lw_okq (⟨"TwinBucketsModel", "readSum", "(I)V"⟩, 46) := ⟨⟨by decide +kernel, by decide +kernel⟩, List.mem_of_getElem? (i := 1068) (by decide +kernel), List.mem_of_getElem? (i := 1489) (by decide +kernel), List.mem_of_getElem? (i := 1490) (by decide +kernel)⟩
theorem lw_p76 : lw_okq (⟨"TwinBucketsModel", "readTerm", "(I)V"⟩, 46) := ⟨⟨by decide +kernel, by decide +kernel⟩, List.mem_of_getElem? (i := 1068) (by decide +kernel), List.mem_of_getElem? (i := 1493) (by decide +kernel), List.mem_of_getElem? (i := 1494) (by decide +kernel)⟩
theorem lw_p77 : lw_okq (⟨"TwinBucketsModel", "readPart", "(I)V"⟩, 46) := ⟨⟨by decide +kernel, by decide +kernel⟩, List.mem_of_getElem? (i := 1068) (by decide +kernel), List.mem_of_getElem? (i := 1497) (by decide +kernel), List.mem_of_getElem? (i := 1498) (by decide +kernel)⟩
theorem lw_p78 : lw_okq (⟨"TwinBucketsModel", "faults", "()V"⟩, 46) := ⟨⟨by decide +kernel, by decide +kernel⟩, List.mem_of_getElem? (i := 1068) (by decide +kernel), List.mem_of_getElem? (i := 1501) (by decide +kernel), List.mem_of_getElem? (i := 1502) (by decide +kernel)⟩
theorem lw_p79 : lw_okq (⟨"TwinBucketsModel", "must", "(I)V"⟩, 46) := ⟨⟨by decide +kernel, by decide +kernel⟩, List.mem_of_getElem? (i := 1068) (by decide +kernel), List.mem_of_getElem? (i := 1505) (by decide +kernel), List.mem_of_getElem? (i := 1506) (by decide +kernel)⟩
def lw_privs_5 : List (MethodName × Nat) := [(⟨"TwinBucketsModel", "comesInto", "(III)V"⟩, 46), (⟨"TwinBucketsModel", "goesOut", "(II)V"⟩, 46), (⟨"TwinBucketsModel", "takesBack", "(I)V"⟩, 46), (⟨"TwinBucketsModel", "readsAs", "(Z)Z"⟩, 46), (⟨"TwinBucketsModel", "reads", "()Z"⟩, 46), (⟨"TwinBucketsModel", "cutsUp", "(I)V"⟩, 46), (⟨"TwinBucketsModel", "wordOf", "(II)I"⟩, 46), (⟨"TwinBucketsModel", "readOne", "()V"⟩, 46), (⟨"TwinBucketsModel", "readOrder", "()V"⟩, 46), (⟨"TwinBucketsModel", "takes0", "(I)Z"⟩, 46), (⟨"TwinBucketsModel", "fine", "()Z"⟩, 46), (⟨"TwinBucketsModel", "readSum", "(I)V"⟩, 46), (⟨"TwinBucketsModel", "readTerm", "(I)V"⟩, 46), (⟨"TwinBucketsModel", "readPart", "(I)V"⟩, 46), (⟨"TwinBucketsModel", "faults", "()V"⟩, 46), (⟨"TwinBucketsModel", "must", "(I)V"⟩, 46)]
theorem lw_r5 : ∀ q ∈ lw_privs_5, lw_okq q := List.forall_mem_cons.mpr ⟨lw_p64, List.forall_mem_cons.mpr ⟨lw_p65, List.forall_mem_cons.mpr ⟨lw_p66, List.forall_mem_cons.mpr ⟨lw_p67, List.forall_mem_cons.mpr ⟨lw_p68, List.forall_mem_cons.mpr ⟨lw_p69, List.forall_mem_cons.mpr ⟨lw_p70, List.forall_mem_cons.mpr ⟨lw_p71, List.forall_mem_cons.mpr ⟨lw_p72, List.forall_mem_cons.mpr ⟨lw_p73, List.forall_mem_cons.mpr ⟨lw_p74, List.forall_mem_cons.mpr ⟨lw_p75, List.forall_mem_cons.mpr ⟨lw_p76, List.forall_mem_cons.mpr ⟨lw_p77, List.forall_mem_cons.mpr ⟨lw_p78, List.forall_mem_cons.mpr ⟨lw_p79, fun _ h => absurd h List.not_mem_nil⟩⟩⟩⟩⟩⟩⟩⟩⟩⟩⟩⟩⟩⟩⟩⟩
theorem lw_p80 : lw_okq (⟨"TwinBucketsModel", "leaf", "()V"⟩, 46) := ⟨⟨by decide +kernel, by decide +kernel⟩, List.mem_of_getElem? (i := 1068) (by decide +kernel), List.mem_of_getElem? (i := 1509) (by decide +kernel), List.mem_of_getElem? (i := 1510) (by decide +kernel)⟩
theorem lw_p81 : lw_okq (⟨"TwinBucketsModel", "mustNumber", "(II)V"⟩, 46) := ⟨⟨by decide +kernel, by decide +kernel⟩, List.mem_of_getElem? (i := 1068) (by decide +kernel), List.mem_of_getElem? (i := 1513) (by decide +kernel), List.mem_of_getElem? (i := 1514) (by decide +kernel)⟩
theorem lw_p82 : lw_okq (⟨"TwinBucketsModel", "readTest", "(I)V"⟩, 46) := ⟨⟨by decide +kernel, by decide +kernel⟩, List.mem_of_getElem? (i := 1068) (by decide +kernel), List.mem_of_getElem? (i := 1517) (by decide +kernel), List.mem_of_getElem? (i := 1518) (by decide +kernel)⟩
theorem lw_p83 : lw_okq (⟨"TwinBucketsModel", "readBoth", "(I)V"⟩, 46) := ⟨⟨by decide +kernel, by decide +kernel⟩, List.mem_of_getElem? (i := 1068) (by decide +kernel), List.mem_of_getElem? (i := 1521) (by decide +kernel), List.mem_of_getElem? (i := 1522) (by decide +kernel)⟩
theorem lw_p84 : lw_okq (⟨"TwinBucketsModel", "readPlain", "(I)V"⟩, 46) := ⟨⟨by decide +kernel, by decide +kernel⟩, List.mem_of_getElem? (i := 1068) (by decide +kernel), List.mem_of_getElem? (i := 1525) (by decide +kernel), List.mem_of_getElem? (i := 1526) (by decide +kernel)⟩
theorem lw_p85 : lw_okq (⟨"TwinBucketsModel", "readClause", "()V"⟩, 46) := ⟨⟨by decide +kernel, by decide +kernel⟩, List.mem_of_getElem? (i := 1068) (by decide +kernel), List.mem_of_getElem? (i := 1529) (by decide +kernel), List.mem_of_getElem? (i := 1530) (by decide +kernel)⟩
theorem lw_p86 : lw_okq (⟨"TwinBucketsModel", "lays", "(I)V"⟩, 46) := ⟨⟨by decide +kernel, by decide +kernel⟩, List.mem_of_getElem? (i := 1068) (by decide +kernel), List.mem_of_getElem? (i := 1533) (by decide +kernel), List.mem_of_getElem? (i := 1534) (by decide +kernel)⟩
theorem lw_p87 : lw_okq (⟨"TwinBucketsModel", "isLaw", "(I)Z"⟩, 46) := ⟨⟨by decide +kernel, by decide +kernel⟩, List.mem_of_getElem? (i := 1068) (by decide +kernel), List.mem_of_getElem? (i := 1545) (by decide +kernel), List.mem_of_getElem? (i := 1546) (by decide +kernel)⟩
theorem lw_p88 : lw_okq (⟨"TwinBucketsModel", "putsKept", "(II)I"⟩, 46) := ⟨⟨by decide +kernel, by decide +kernel⟩, List.mem_of_getElem? (i := 1068) (by decide +kernel), List.mem_of_getElem? (i := 1557) (by decide +kernel), List.mem_of_getElem? (i := 1558) (by decide +kernel)⟩
theorem lw_p89 : lw_okq (⟨"TwinBucketsModel", "keptOr", "(II)I"⟩, 46) := ⟨⟨by decide +kernel, by decide +kernel⟩, List.mem_of_getElem? (i := 1068) (by decide +kernel), List.mem_of_getElem? (i := 1561) (by decide +kernel), List.mem_of_getElem? (i := 1562) (by decide +kernel)⟩
theorem lw_p90 : lw_okq (⟨"TwinBucketsModel", "keepsAside", "(I)V"⟩, 46) := ⟨⟨by decide +kernel, by decide +kernel⟩, List.mem_of_getElem? (i := 1068) (by decide +kernel), List.mem_of_getElem? (i := 1565) (by decide +kernel), List.mem_of_getElem? (i := 1566) (by decide +kernel)⟩
theorem lw_p91 : lw_okq (⟨"TwinBucketsModel", "goodOr", "(I)I"⟩, 46) := ⟨⟨by decide +kernel, by decide +kernel⟩, List.mem_of_getElem? (i := 1068) (by decide +kernel), List.mem_of_getElem? (i := 1569) (by decide +kernel), List.mem_of_getElem? (i := 1570) (by decide +kernel)⟩
theorem lw_p92 : lw_okq (⟨"TwinBucketsModel", "dropsKept", "(I)I"⟩, 46) := ⟨⟨by decide +kernel, by decide +kernel⟩, List.mem_of_getElem? (i := 1068) (by decide +kernel), List.mem_of_getElem? (i := 1577) (by decide +kernel), List.mem_of_getElem? (i := 1578) (by decide +kernel)⟩
theorem lw_p93 : lw_okq (⟨"TwinBucketsModel", "drops", "(I)I"⟩, 46) := ⟨⟨by decide +kernel, by decide +kernel⟩, List.mem_of_getElem? (i := 1068) (by decide +kernel), List.mem_of_getElem? (i := 1581) (by decide +kernel), List.mem_of_getElem? (i := 1582) (by decide +kernel)⟩
theorem lw_p94 : lw_okq (⟨"TwinBucketsModel", "canJoin", "(I)Z"⟩, 46) := ⟨⟨by decide +kernel, by decide +kernel⟩, List.mem_of_getElem? (i := 1068) (by decide +kernel), List.mem_of_getElem? (i := 1585) (by decide +kernel), List.mem_of_getElem? (i := 1586) (by decide +kernel)⟩
theorem lw_p95 : lw_okq (⟨"TwinBucketsModel", "twinOf", "(I)I"⟩, 46) := ⟨⟨by decide +kernel, by decide +kernel⟩, List.mem_of_getElem? (i := 1068) (by decide +kernel), List.mem_of_getElem? (i := 1589) (by decide +kernel), List.mem_of_getElem? (i := 1590) (by decide +kernel)⟩
def lw_privs_6 : List (MethodName × Nat) := [(⟨"TwinBucketsModel", "leaf", "()V"⟩, 46), (⟨"TwinBucketsModel", "mustNumber", "(II)V"⟩, 46), (⟨"TwinBucketsModel", "readTest", "(I)V"⟩, 46), (⟨"TwinBucketsModel", "readBoth", "(I)V"⟩, 46), (⟨"TwinBucketsModel", "readPlain", "(I)V"⟩, 46), (⟨"TwinBucketsModel", "readClause", "()V"⟩, 46), (⟨"TwinBucketsModel", "lays", "(I)V"⟩, 46), (⟨"TwinBucketsModel", "isLaw", "(I)Z"⟩, 46), (⟨"TwinBucketsModel", "putsKept", "(II)I"⟩, 46), (⟨"TwinBucketsModel", "keptOr", "(II)I"⟩, 46), (⟨"TwinBucketsModel", "keepsAside", "(I)V"⟩, 46), (⟨"TwinBucketsModel", "goodOr", "(I)I"⟩, 46), (⟨"TwinBucketsModel", "dropsKept", "(I)I"⟩, 46), (⟨"TwinBucketsModel", "drops", "(I)I"⟩, 46), (⟨"TwinBucketsModel", "canJoin", "(I)Z"⟩, 46), (⟨"TwinBucketsModel", "twinOf", "(I)I"⟩, 46)]
theorem lw_r6 : ∀ q ∈ lw_privs_6, lw_okq q := List.forall_mem_cons.mpr ⟨lw_p80, List.forall_mem_cons.mpr ⟨lw_p81, List.forall_mem_cons.mpr ⟨lw_p82, List.forall_mem_cons.mpr ⟨lw_p83, List.forall_mem_cons.mpr ⟨lw_p84, List.forall_mem_cons.mpr ⟨lw_p85, List.forall_mem_cons.mpr ⟨lw_p86, List.forall_mem_cons.mpr ⟨lw_p87, List.forall_mem_cons.mpr ⟨lw_p88, List.forall_mem_cons.mpr ⟨lw_p89, List.forall_mem_cons.mpr ⟨lw_p90, List.forall_mem_cons.mpr ⟨lw_p91, List.forall_mem_cons.mpr ⟨lw_p92, List.forall_mem_cons.mpr ⟨lw_p93, List.forall_mem_cons.mpr ⟨lw_p94, List.forall_mem_cons.mpr ⟨lw_p95, fun _ h => absurd h List.not_mem_nil⟩⟩⟩⟩⟩⟩⟩⟩⟩⟩⟩⟩⟩⟩⟩⟩
theorem lw_p96 : lw_okq (⟨"TwinBucketsModel", "joins", "(I)I"⟩, 46) := ⟨⟨by decide +kernel, by decide +kernel⟩, List.mem_of_getElem? (i := 1068) (by decide +kernel), List.mem_of_getElem? (i := 1593) (by decide +kernel), List.mem_of_getElem? (i := 1594) (by decide +kernel)⟩
theorem lw_p97 : lw_okq (⟨"TwinBucketsModel", "deepestOf", "()I"⟩, 46) := ⟨⟨by decide +kernel, by decide +kernel⟩, List.mem_of_getElem? (i := 1068) (by decide +kernel), List.mem_of_getElem? (i := 1597) (by decide +kernel), List.mem_of_getElem? (i := 1598) (by decide +kernel)⟩
theorem lw_p98 : lw_okq (⟨"TwinBucketsModel", "flushesKept", "(I)I"⟩, 46) := ⟨⟨by decide +kernel, by decide +kernel⟩, List.mem_of_getElem? (i := 1068) (by decide +kernel), List.mem_of_getElem? (i := 1608) (by decide +kernel), List.mem_of_getElem? (i := 1609) (by decide +kernel)⟩
theorem lw_p99 : lw_okq (⟨"TwinBucketsModel", "crashesKept", "(I)I"⟩, 46) := ⟨⟨by decide +kernel, by decide +kernel⟩, List.mem_of_getElem? (i := 1068) (by decide +kernel), List.mem_of_getElem? (i := 1616) (by decide +kernel), List.mem_of_getElem? (i := 1617) (by decide +kernel)⟩
theorem lw_p100 : lw_okq (⟨"TwinBucketsModel", "loses", "(I)V"⟩, 46) := ⟨⟨by decide +kernel, by decide +kernel⟩, List.mem_of_getElem? (i := 1068) (by decide +kernel), List.mem_of_getElem? (i := 1620) (by decide +kernel), List.mem_of_getElem? (i := 1621) (by decide +kernel)⟩
theorem lw_p101 : lw_okq (⟨"TwinBucketsModel", "deepestPage", "(I)I"⟩, 46) := ⟨⟨by decide +kernel, by decide +kernel⟩, List.mem_of_getElem? (i := 1068) (by decide +kernel), List.mem_of_getElem? (i := 1624) (by decide +kernel), List.mem_of_getElem? (i := 1625) (by decide +kernel)⟩
theorem lw_p102 : lw_okq (⟨"TwinBucketsModel", "builds", "(II)V"⟩, 46) := ⟨⟨by decide +kernel, by decide +kernel⟩, List.mem_of_getElem? (i := 1068) (by decide +kernel), List.mem_of_getElem? (i := 1628) (by decide +kernel), List.mem_of_getElem? (i := 1629) (by decide +kernel)⟩
theorem lw_p103 : lw_okq (⟨"TwinBucketsModel", "wouldSplit", "(I)Z"⟩, 46) := ⟨⟨by decide +kernel, by decide +kernel⟩, List.mem_of_getElem? (i := 1068) (by decide +kernel), List.mem_of_getElem? (i := 1649) (by decide +kernel), List.mem_of_getElem? (i := 1650) (by decide +kernel)⟩
theorem lw_p104 : lw_okq (⟨"TwinBucketsModel", "usedMany", "()I"⟩, 46) := ⟨⟨by decide +kernel, by decide +kernel⟩, List.mem_of_getElem? (i := 1068) (by decide +kernel), List.mem_of_getElem? (i := 1657) (by decide +kernel), List.mem_of_getElem? (i := 1658) (by decide +kernel)⟩
theorem lw_p105 : lw_okq (⟨"TwinBucketsModel", "neededBy", "(I)I"⟩, 46) := ⟨⟨by decide +kernel, by decide +kernel⟩, List.mem_of_getElem? (i := 1068) (by decide +kernel), List.mem_of_getElem? (i := 1669) (by decide +kernel), List.mem_of_getElem? (i := 1670) (by decide +kernel)⟩
theorem lw_p106 : lw_okq (⟨"TwinBucketsModel", "empties", "()V"⟩, 46) := ⟨⟨by decide +kernel, by decide +kernel⟩, List.mem_of_getElem? (i := 1068) (by decide +kernel), List.mem_of_getElem? (i := 1673) (by decide +kernel), List.mem_of_getElem? (i := 1674) (by decide +kernel)⟩
theorem lw_p107 : lw_okq (⟨"TwinBucketsModel", "isSo", "(I)Z"⟩, 46) := ⟨⟨by decide +kernel, by decide +kernel⟩, List.mem_of_getElem? (i := 1068) (by decide +kernel), List.mem_of_getElem? (i := 1693) (by decide +kernel), List.mem_of_getElem? (i := 1694) (by decide +kernel)⟩
theorem lw_p108 : lw_okq (⟨"TwinBucketsModel", "runs", "(I)Z"⟩, 46) := ⟨⟨by decide +kernel, by decide +kernel⟩, List.mem_of_getElem? (i := 1068) (by decide +kernel), List.mem_of_getElem? (i := 1724) (by decide +kernel), List.mem_of_getElem? (i := 1725) (by decide +kernel)⟩
theorem lw_p109 : lw_okq (⟨"TwinBucketsModel", "goesAlong", "(IZ)V"⟩, 46) := ⟨⟨by decide +kernel, by decide +kernel⟩, List.mem_of_getElem? (i := 1068) (by decide +kernel), List.mem_of_getElem? (i := 1728) (by decide +kernel), List.mem_of_getElem? (i := 1729) (by decide +kernel)⟩
theorem lw_p110 : lw_okq (⟨"TwinBucketsModel", "obeys", "()I"⟩, 46) := ⟨⟨by decide +kernel, by decide +kernel⟩, List.mem_of_getElem? (i := 1068) (by decide +kernel), List.mem_of_getElem? (i := 1732) (by decide +kernel), List.mem_of_getElem? (i := 1733) (by decide +kernel)⟩
theorem lw_p111 : lw_okq (⟨"TwinBucketsModel", "drawnAct", "()V"⟩, 46) := ⟨⟨by decide +kernel, by decide +kernel⟩, List.mem_of_getElem? (i := 1068) (by decide +kernel), List.mem_of_getElem? (i := 1744) (by decide +kernel), List.mem_of_getElem? (i := 1745) (by decide +kernel)⟩
def lw_privs_7 : List (MethodName × Nat) := [(⟨"TwinBucketsModel", "joins", "(I)I"⟩, 46), (⟨"TwinBucketsModel", "deepestOf", "()I"⟩, 46), (⟨"TwinBucketsModel", "flushesKept", "(I)I"⟩, 46), (⟨"TwinBucketsModel", "crashesKept", "(I)I"⟩, 46), (⟨"TwinBucketsModel", "loses", "(I)V"⟩, 46), (⟨"TwinBucketsModel", "deepestPage", "(I)I"⟩, 46), (⟨"TwinBucketsModel", "builds", "(II)V"⟩, 46), (⟨"TwinBucketsModel", "wouldSplit", "(I)Z"⟩, 46), (⟨"TwinBucketsModel", "usedMany", "()I"⟩, 46), (⟨"TwinBucketsModel", "neededBy", "(I)I"⟩, 46), (⟨"TwinBucketsModel", "empties", "()V"⟩, 46), (⟨"TwinBucketsModel", "isSo", "(I)Z"⟩, 46), (⟨"TwinBucketsModel", "runs", "(I)Z"⟩, 46), (⟨"TwinBucketsModel", "goesAlong", "(IZ)V"⟩, 46), (⟨"TwinBucketsModel", "obeys", "()I"⟩, 46), (⟨"TwinBucketsModel", "drawnAct", "()V"⟩, 46)]
theorem lw_r7 : ∀ q ∈ lw_privs_7, lw_okq q := List.forall_mem_cons.mpr ⟨lw_p96, List.forall_mem_cons.mpr ⟨lw_p97, List.forall_mem_cons.mpr ⟨lw_p98, List.forall_mem_cons.mpr ⟨lw_p99, List.forall_mem_cons.mpr ⟨lw_p100, List.forall_mem_cons.mpr ⟨lw_p101, List.forall_mem_cons.mpr ⟨lw_p102, List.forall_mem_cons.mpr ⟨lw_p103, List.forall_mem_cons.mpr ⟨lw_p104, List.forall_mem_cons.mpr ⟨lw_p105, List.forall_mem_cons.mpr ⟨lw_p106, List.forall_mem_cons.mpr ⟨lw_p107, List.forall_mem_cons.mpr ⟨lw_p108, List.forall_mem_cons.mpr ⟨lw_p109, List.forall_mem_cons.mpr ⟨lw_p110, List.forall_mem_cons.mpr ⟨lw_p111, fun _ h => absurd h List.not_mem_nil⟩⟩⟩⟩⟩⟩⟩⟩⟩⟩⟩⟩⟩⟩⟩⟩
theorem lw_p112 : lw_okq (⟨"TwinBucketsModel", "draws", "(I)I"⟩, 46) := ⟨⟨by decide +kernel, by decide +kernel⟩, List.mem_of_getElem? (i := 1068) (by decide +kernel), List.mem_of_getElem? (i := 1748) (by decide +kernel), List.mem_of_getElem? (i := 1749) (by decide +kernel)⟩
def lw_privs_8 : List (MethodName × Nat) := [(⟨"TwinBucketsModel", "draws", "(I)I"⟩, 46)]
theorem lw_r8 : ∀ q ∈ lw_privs_8, lw_okq q := List.forall_mem_cons.mpr ⟨lw_p112, fun _ h => absurd h List.not_mem_nil⟩
def lw_privs : List (MethodName × Nat) := lw_privs_1 ++ (lw_privs_2 ++ (lw_privs_3 ++ (lw_privs_4 ++ (lw_privs_5 ++ (lw_privs_6 ++ (lw_privs_7 ++ (lw_privs_8)))))))
def lw_tbl : List Cond := k2_sels lw_privs ++ tables_1
theorem lw_privs_ok : ∀ q ∈ lw_privs, lw_okq q := by
  show ∀ q ∈ lw_privs_1 ++ (lw_privs_2 ++ (lw_privs_3 ++ (lw_privs_4 ++ (lw_privs_5 ++ (lw_privs_6 ++ (lw_privs_7 ++ (lw_privs_8))))))), lw_okq q
  exact List.forall_mem_append.mpr ⟨lw_r1, List.forall_mem_append.mpr ⟨lw_r2, List.forall_mem_append.mpr ⟨lw_r3, List.forall_mem_append.mpr ⟨lw_r4, List.forall_mem_append.mpr ⟨lw_r5, List.forall_mem_append.mpr ⟨lw_r6, List.forall_mem_append.mpr ⟨lw_r7, lw_r8⟩⟩⟩⟩⟩⟩⟩
-- ===== end of PART A; then your names; then what follows =====
/-- the words that a call may take along -/
def gw : List Cond := lw_tbl.filter goodWord
theorem gw_of {w : Cond} (h : w ∈ lw_tbl) (g : goodWord w = true) : w ∈ gw := List.mem_filter.mpr ⟨h, g⟩
theorem gw_tbl {w : Cond} (h : w ∈ gw) : w ∈ lw_tbl := (List.mem_filter.mp h).1
theorem gw_good {w : Cond} (h : w ∈ gw) : goodWord w = true := (List.mem_filter.mp h).2
theorem tb1 {w : Cond} (h : w ∈ tables_1_1) : w ∈ lw_tbl := List.mem_append_right _ (show w ∈ tables_1 from List.mem_append_left _ h)
theorem gm1 (i : Nat) {w : Cond} (h : tables_1_1[i]? = some w) (g : goodWord w = true) : w ∈ gw := gw_of (tb1 (List.mem_of_getElem? h)) g
theorem tb2 {w : Cond} (h : w ∈ tables_1_2) : w ∈ lw_tbl := List.mem_append_right _ (show w ∈ tables_1 from List.mem_append_right _ (List.mem_append_left _ h))
theorem gm2 (i : Nat) {w : Cond} (h : tables_1_2[i]? = some w) (g : goodWord w = true) : w ∈ gw := gw_of (tb2 (List.mem_of_getElem? h)) g
theorem tb3 {w : Cond} (h : w ∈ tables_1_3) : w ∈ lw_tbl := List.mem_append_right _ (show w ∈ tables_1 from List.mem_append_right _ (List.mem_append_right _ (List.mem_append_left _ h)))
theorem gm3 (i : Nat) {w : Cond} (h : tables_1_3[i]? = some w) (g : goodWord w = true) : w ∈ gw := gw_of (tb3 (List.mem_of_getElem? h)) g
theorem tb4 {w : Cond} (h : w ∈ tables_1_4) : w ∈ lw_tbl := List.mem_append_right _ (show w ∈ tables_1 from List.mem_append_right _ (List.mem_append_right _ (List.mem_append_right _ (List.mem_append_left _ h))))
theorem gm4 (i : Nat) {w : Cond} (h : tables_1_4[i]? = some w) (g : goodWord w = true) : w ∈ gw := gw_of (tb4 (List.mem_of_getElem? h)) g
theorem tb5 {w : Cond} (h : w ∈ tables_1_5) : w ∈ lw_tbl := List.mem_append_right _ (show w ∈ tables_1 from List.mem_append_right _ (List.mem_append_right _ (List.mem_append_right _ (List.mem_append_right _ (List.mem_append_left _ h)))))
theorem gm5 (i : Nat) {w : Cond} (h : tables_1_5[i]? = some w) (g : goodWord w = true) : w ∈ gw := gw_of (tb5 (List.mem_of_getElem? h)) g
theorem tb6 {w : Cond} (h : w ∈ tables_1_6) : w ∈ lw_tbl := List.mem_append_right _ (show w ∈ tables_1 from List.mem_append_right _ (List.mem_append_right _ (List.mem_append_right _ (List.mem_append_right _ (List.mem_append_right _ (List.mem_append_left _ h))))))
theorem gm6 (i : Nat) {w : Cond} (h : tables_1_6[i]? = some w) (g : goodWord w = true) : w ∈ gw := gw_of (tb6 (List.mem_of_getElem? h)) g
theorem tb7 {w : Cond} (h : w ∈ tables_1_7) : w ∈ lw_tbl := List.mem_append_right _ (show w ∈ tables_1 from List.mem_append_right _ (List.mem_append_right _ (List.mem_append_right _ (List.mem_append_right _ (List.mem_append_right _ (List.mem_append_right _ (List.mem_append_left _ h)))))))
theorem gm7 (i : Nat) {w : Cond} (h : tables_1_7[i]? = some w) (g : goodWord w = true) : w ∈ gw := gw_of (tb7 (List.mem_of_getElem? h)) g
theorem tb8 {w : Cond} (h : w ∈ tables_1_8) : w ∈ lw_tbl := List.mem_append_right _ (show w ∈ tables_1 from List.mem_append_right _ (List.mem_append_right _ (List.mem_append_right _ (List.mem_append_right _ (List.mem_append_right _ (List.mem_append_right _ (List.mem_append_right _ (h))))))))
theorem gm8 (i : Nat) {w : Cond} (h : tables_1_8[i]? = some w) (g : goodWord w = true) : w ∈ gw := gw_of (tb8 (List.mem_of_getElem? h)) g
theorem gp1 (i : Nat) {q : MethodName × Nat} (h : lw_privs_1[i]? = some q) : Cond.selects q.1.cls q.1 q.1 ∈ gw := gw_of (List.mem_append_left _ (List.mem_map.mpr ⟨q, (show q ∈ lw_privs from (have h := List.mem_of_getElem? h; List.mem_append_left _ h)), rfl⟩)) rfl
theorem gp2 (i : Nat) {q : MethodName × Nat} (h : lw_privs_2[i]? = some q) : Cond.selects q.1.cls q.1 q.1 ∈ gw := gw_of (List.mem_append_left _ (List.mem_map.mpr ⟨q, (show q ∈ lw_privs from (have h := List.mem_of_getElem? h; List.mem_append_right _ (List.mem_append_left _ h))), rfl⟩)) rfl
theorem gp3 (i : Nat) {q : MethodName × Nat} (h : lw_privs_3[i]? = some q) : Cond.selects q.1.cls q.1 q.1 ∈ gw := gw_of (List.mem_append_left _ (List.mem_map.mpr ⟨q, (show q ∈ lw_privs from (have h := List.mem_of_getElem? h; List.mem_append_right _ (List.mem_append_right _ (List.mem_append_left _ h)))), rfl⟩)) rfl
theorem gp4 (i : Nat) {q : MethodName × Nat} (h : lw_privs_4[i]? = some q) : Cond.selects q.1.cls q.1 q.1 ∈ gw := gw_of (List.mem_append_left _ (List.mem_map.mpr ⟨q, (show q ∈ lw_privs from (have h := List.mem_of_getElem? h; List.mem_append_right _ (List.mem_append_right _ (List.mem_append_right _ (List.mem_append_left _ h))))), rfl⟩)) rfl
theorem gp5 (i : Nat) {q : MethodName × Nat} (h : lw_privs_5[i]? = some q) : Cond.selects q.1.cls q.1 q.1 ∈ gw := gw_of (List.mem_append_left _ (List.mem_map.mpr ⟨q, (show q ∈ lw_privs from (have h := List.mem_of_getElem? h; List.mem_append_right _ (List.mem_append_right _ (List.mem_append_right _ (List.mem_append_right _ (List.mem_append_left _ h)))))), rfl⟩)) rfl
theorem gp6 (i : Nat) {q : MethodName × Nat} (h : lw_privs_6[i]? = some q) : Cond.selects q.1.cls q.1 q.1 ∈ gw := gw_of (List.mem_append_left _ (List.mem_map.mpr ⟨q, (show q ∈ lw_privs from (have h := List.mem_of_getElem? h; List.mem_append_right _ (List.mem_append_right _ (List.mem_append_right _ (List.mem_append_right _ (List.mem_append_right _ (List.mem_append_left _ h))))))), rfl⟩)) rfl
theorem gp7 (i : Nat) {q : MethodName × Nat} (h : lw_privs_7[i]? = some q) : Cond.selects q.1.cls q.1 q.1 ∈ gw := gw_of (List.mem_append_left _ (List.mem_map.mpr ⟨q, (show q ∈ lw_privs from (have h := List.mem_of_getElem? h; List.mem_append_right _ (List.mem_append_right _ (List.mem_append_right _ (List.mem_append_right _ (List.mem_append_right _ (List.mem_append_right _ (List.mem_append_left _ h)))))))), rfl⟩)) rfl
theorem gp8 (i : Nat) {q : MethodName × Nat} (h : lw_privs_8[i]? = some q) : Cond.selects q.1.cls q.1 q.1 ∈ gw := gw_of (List.mem_append_left _ (List.mem_map.mpr ⟨q, (show q ∈ lw_privs from (have h := List.mem_of_getElem? h; List.mem_append_right _ (List.mem_append_right _ (List.mem_append_right _ (List.mem_append_right _ (List.mem_append_right _ (List.mem_append_right _ (List.mem_append_right _ (h))))))))), rfl⟩)) rfl
def RX0 : String := "TwinBuckets$History"
def TX0 : u_T := fun k => match k with
  | 0 => ("TwinBuckets$History", "kept", "[LTwinBuckets$Store;", true)
  | 1 => ("TwinBuckets$History", "kinds", "[I", true)
  | 2 => ("TwinBuckets$History", "spare", "LTwinBuckets$Store;", false)
  | _ => ("TwinBuckets$History", "many", "I", false)
def tyX0 : Nat → FieldType := fun k => match k with
  | 0 => .array (.object "TwinBuckets$Store")
  | 1 => .array .int
  | 2 => .object "TwinBuckets$Store"
  | _ => .int
theorem nmX0 : ∀ a, a < 4 → ∀ b, b < 4 → a ≠ b → (TX0 a).2.1 ≠ (TX0 b).2.1 := by decide +kernel
theorem tyX0_ok : ∀ k, k < 4 → parseFieldDescriptor (TX0 k).2.2.1 = some (tyX0 k) := by decide +kernel
def RX1 : String := "TwinBuckets$Image"
def TX1 : u_T := fun k => match k with
  | 0 => ("TwinBuckets$Image", "store", "LTwinBuckets$Store;", true)
  | 1 => ("TwinBuckets$Image", "rules", "LTwinBuckets$Rules;", true)
  | _ => ("TwinBuckets$Image", "sightings", "LTwinBuckets$Sightings;", true)
def tyX1 : Nat → FieldType := fun k => match k with
  | 0 => .object "TwinBuckets$Store"
  | 1 => .object "TwinBuckets$Rules"
  | _ => .object "TwinBuckets$Sightings"
theorem nmX1 : ∀ a, a < 3 → ∀ b, b < 3 → a ≠ b → (TX1 a).2.1 ≠ (TX1 b).2.1 := by decide +kernel
theorem tyX1_ok : ∀ k, k < 3 → parseFieldDescriptor (TX1 k).2.2.1 = some (tyX1 k) := by decide +kernel
def RX2 : String := "TwinBuckets$Pages"
def TX2 : u_T := fun k => match k with
  | _ => ("TwinBuckets$Pages", "cells", "[I", true)
def tyX2 : Nat → FieldType := fun k => match k with
  | _ => .array .int
theorem nmX2 : ∀ a, a < 1 → ∀ b, b < 1 → a ≠ b → (TX2 a).2.1 ≠ (TX2 b).2.1 := by decide +kernel
theorem tyX2_ok : ∀ k, k < 1 → parseFieldDescriptor (TX2 k).2.2.1 = some (tyX2 k) := by decide +kernel
def RX3 : String := "TwinBuckets$Rules"
def TX3 : u_T := fun k => match k with
  | 0 => ("TwinBuckets$Rules", "laws", "[LTwinBuckets$Text;", true)
  | 1 => ("TwinBuckets$Rules", "words", "[I", true)
  | 2 => ("TwinBuckets$Rules", "stack", "[I", true)
  | 3 => ("TwinBuckets$Rules", "lawCount", "I", false)
  | 4 => ("TwinBuckets$Rules", "inForce", "I", false)
  | 5 => ("TwinBuckets$Rules", "fails", "I", false)
  | 6 => ("TwinBuckets$Rules", "mood", "I", false)
  | _ => ("TwinBuckets$Rules", "salt", "I", false)
def tyX3 : Nat → FieldType := fun k => match k with
  | 0 => .array (.object "TwinBuckets$Text")
  | 1 => .array .int
  | 2 => .array .int
  | 3 => .int
  | 4 => .int
  | 5 => .int
  | 6 => .int
  | _ => .int
theorem nmX3 : ∀ a, a < 8 → ∀ b, b < 8 → a ≠ b → (TX3 a).2.1 ≠ (TX3 b).2.1 := by decide +kernel
theorem tyX3_ok : ∀ k, k < 8 → parseFieldDescriptor (TX3 k).2.2.1 = some (tyX3 k) := by decide +kernel
def RX4 : String := "TwinBuckets$Sightings"
def TX4 : u_T := fun k => match k with
  | 0 => ("TwinBuckets$Sightings", "slots", "[I", true)
  | 1 => ("TwinBuckets$Sightings", "are", "[I", true)
  | _ => ("TwinBuckets$Sightings", "many", "I", false)
def tyX4 : Nat → FieldType := fun k => match k with
  | 0 => .array .int
  | 1 => .array .int
  | _ => .int
theorem nmX4 : ∀ a, a < 3 → ∀ b, b < 3 → a ≠ b → (TX4 a).2.1 ≠ (TX4 b).2.1 := by decide +kernel
theorem tyX4_ok : ∀ k, k < 3 → parseFieldDescriptor (TX4 k).2.2.1 = some (tyX4 k) := by decide +kernel
def RX5 : String := "TwinBuckets$Store"
def TX5 : u_T := fun k => match k with
  | 0 => ("TwinBuckets$Store", "buckets", "LTwinBuckets$Pages;", true)
  | 1 => ("TwinBuckets$Store", "disk", "LTwinBuckets$Pages;", true)
  | 2 => ("TwinBuckets$Store", "owners", "[I", true)
  | 3 => ("TwinBuckets$Store", "writes", "[I", true)
  | 4 => ("TwinBuckets$Store", "eldest", "I", false)
  | 5 => ("TwinBuckets$Store", "waits", "I", false)
  | 6 => ("TwinBuckets$Store", "deep", "I", false)
  | _ => ("TwinBuckets$Store", "time", "I", false)
def tyX5 : Nat → FieldType := fun k => match k with
  | 0 => .object "TwinBuckets$Pages"
  | 1 => .object "TwinBuckets$Pages"
  | 2 => .array .int
  | 3 => .array .int
  | 4 => .int
  | 5 => .int
  | 6 => .int
  | _ => .int
theorem nmX5 : ∀ a, a < 8 → ∀ b, b < 8 → a ≠ b → (TX5 a).2.1 ≠ (TX5 b).2.1 := by decide +kernel
theorem tyX5_ok : ∀ k, k < 8 → parseFieldDescriptor (TX5 k).2.2.1 = some (tyX5 k) := by decide +kernel
def RX6 : String := "TwinBuckets$Tape"
def TX6 : u_T := fun k => match k with
  | 0 => ("TwinBuckets$Tape", "text", "LTwinBuckets$Text;", true)
  | 1 => ("TwinBuckets$Tape", "bytes", "[I", true)
  | 2 => ("TwinBuckets$Tape", "fed", "I", false)
  | 3 => ("TwinBuckets$Tape", "length", "I", false)
  | 4 => ("TwinBuckets$Tape", "isOrders", "Z", false)
  | 5 => ("TwinBuckets$Tape", "parts", "I", false)
  | 6 => ("TwinBuckets$Tape", "kind", "I", false)
  | 7 => ("TwinBuckets$Tape", "start", "I", false)
  | 8 => ("TwinBuckets$Tape", "after", "I", false)
  | _ => ("TwinBuckets$Tape", "number", "I", false)
def tyX6 : Nat → FieldType := fun k => match k with
  | 0 => .object "TwinBuckets$Text"
  | 1 => .array .int
  | 2 => .int
  | 3 => .int
  | 4 => .boolean
  | 5 => .int
  | 6 => .int
  | 7 => .int
  | 8 => .int
  | _ => .int
theorem nmX6 : ∀ a, a < 10 → ∀ b, b < 10 → a ≠ b → (TX6 a).2.1 ≠ (TX6 b).2.1 := by decide +kernel
theorem tyX6_ok : ∀ k, k < 10 → parseFieldDescriptor (TX6 k).2.2.1 = some (tyX6 k) := by decide +kernel
def RX7 : String := "TwinBuckets$Text"
def TX7 : u_T := fun k => match k with
  | 0 => ("TwinBuckets$Text", "ops", "[I", true)
  | 1 => ("TwinBuckets$Text", "args", "[I", true)
  | 2 => ("TwinBuckets$Text", "clauses", "[I", true)
  | 3 => ("TwinBuckets$Text", "asked", "[I", true)
  | 4 => ("TwinBuckets$Text", "size", "I", false)
  | 5 => ("TwinBuckets$Text", "clauseCount", "I", false)
  | _ => ("TwinBuckets$Text", "askedCount", "I", false)
def tyX7 : Nat → FieldType := fun k => match k with
  | 0 => .array .int
  | 1 => .array .int
  | 2 => .array .int
  | 3 => .array .int
  | 4 => .int
  | 5 => .int
  | _ => .int
theorem nmX7 : ∀ a, a < 7 → ∀ b, b < 7 → a ≠ b → (TX7 a).2.1 ≠ (TX7 b).2.1 := by decide +kernel
theorem tyX7_ok : ∀ k, k < 7 → parseFieldDescriptor (TX7 k).2.2.1 = some (tyX7 k) := by decide +kernel
def RX8 : String := "TwinBuckets"
def TX8 : u_T := fun k => match k with
  | 0 => ("TwinBuckets", "now", "LTwinBuckets$Store;", true)
  | 1 => ("TwinBuckets", "paper", "LTwinBuckets$Store;", true)
  | 2 => ("TwinBuckets", "aheadOfOrders", "LTwinBuckets$Store;", true)
  | 3 => ("TwinBuckets", "rules", "LTwinBuckets$Rules;", true)
  | 4 => ("TwinBuckets", "sightings", "LTwinBuckets$Sightings;", true)
  | 5 => ("TwinBuckets", "history", "LTwinBuckets$History;", true)
  | 6 => ("TwinBuckets", "orderHistory", "LTwinBuckets$History;", true)
  | 7 => ("TwinBuckets", "images", "[LTwinBuckets$Image;", true)
  | 8 => ("TwinBuckets", "tape", "LTwinBuckets$Tape;", true)
  | 9 => ("TwinBuckets", "orderWords", "[I", true)
  | 10 => ("TwinBuckets", "refusals", "[I", true)
  | 11 => ("TwinBuckets", "drawnValues", "[I", true)
  | 12 => ("TwinBuckets", "slotCounts", "[I", true)
  | 13 => ("TwinBuckets", "chances", "[J", true)
  | 14 => ("TwinBuckets", "tearsOfRow", "I", false)
  | 15 => ("TwinBuckets", "faultPlace", "I", false)
  | 16 => ("TwinBuckets", "stoppedClause", "I", false)
  | _ => ("TwinBuckets", "latestRefusal", "I", false)
def tyX8 : Nat → FieldType := fun k => match k with
  | 0 => .object "TwinBuckets$Store"
  | 1 => .object "TwinBuckets$Store"
  | 2 => .object "TwinBuckets$Store"
  | 3 => .object "TwinBuckets$Rules"
  | 4 => .object "TwinBuckets$Sightings"
  | 5 => .object "TwinBuckets$History"
  | 6 => .object "TwinBuckets$History"
  | 7 => .array (.object "TwinBuckets$Image")
  | 8 => .object "TwinBuckets$Tape"
  | 9 => .array .int
  | 10 => .array .int
  | 11 => .array .int
  | 12 => .array .int
  | 13 => .array .long
  | 14 => .int
  | 15 => .int
  | 16 => .int
  | _ => .int
theorem nmX8 : ∀ a, a < 18 → ∀ b, b < 18 → a ≠ b → (TX8 a).2.1 ≠ (TX8 b).2.1 := by decide +kernel
theorem tyX8_ok : ∀ k, k < 18 → parseFieldDescriptor (TX8 k).2.2.1 = some (tyX8 k) := by decide +kernel
def RX9 : String := "TwinBucketsModel"
def TX9 : u_T := fun k => match k with
  | 0 => ("TwinBucketsModel", "status", "I", false)
  | 1 => ("TwinBucketsModel", "refused", "[I", true)
  | 2 => ("TwinBucketsModel", "kept", "[I", true)
  | 3 => ("TwinBucketsModel", "images", "[I", true)
  | 4 => ("TwinBucketsModel", "hasImage", "[Z", true)
  | 5 => ("TwinBucketsModel", "aside", "[I", true)
  | 6 => ("TwinBucketsModel", "tears0", "I", false)
  | 7 => ("TwinBucketsModel", "words", "[B", true)
  | 8 => ("TwinBucketsModel", "firstWord", "I", false)
  | 9 => ("TwinBucketsModel", "lastWord", "I", false)
  | 10 => ("TwinBucketsModel", "isOrders", "Z", false)
  | 11 => ("TwinBucketsModel", "tape", "[B", true)
  | 12 => ("TwinBucketsModel", "five", "[I", true)
  | 13 => ("TwinBucketsModel", "taped", "I", false)
  | 14 => ("TwinBucketsModel", "fault", "I", false)
  | 15 => ("TwinBucketsModel", "code", "[I", true)
  | 16 => ("TwinBucketsModel", "value", "[I", true)
  | 17 => ("TwinBucketsModel", "placed", "[I", true)
  | 18 => ("TwinBucketsModel", "tokens", "I", false)
  | 19 => ("TwinBucketsModel", "token", "I", false)
  | 20 => ("TwinBucketsModel", "leaves", "I", false)
  | 21 => ("TwinBucketsModel", "bad", "I", false)
  | 22 => ("TwinBucketsModel", "go", "I", false)
  | 23 => ("TwinBucketsModel", "goEnd", "I", false)
  | 24 => ("TwinBucketsModel", "broken", "Z", false)
  | 25 => ("TwinBucketsModel", "inOrders", "Z", false)
  | 26 => ("TwinBucketsModel", "asked", "[I", true)
  | 27 => ("TwinBucketsModel", "orderDone", "I", false)
  | 28 => ("TwinBucketsModel", "orderLatest", "I", false)
  | 29 => ("TwinBucketsModel", "pageOf", "[I", true)
  | 30 => ("TwinBucketsModel", "left0", "[I", true)
  | 31 => ("TwinBucketsModel", "leftAhead", "[I", true)
  | 32 => ("TwinBucketsModel", "undoMany", "I", false)
  | 33 => ("TwinBucketsModel", "values0", "[I", true)
  | 34 => ("TwinBucketsModel", "ownerNow", "[I", true)
  | 35 => ("TwinBucketsModel", "shares", "[J", true)
  | 36 => ("TwinBucketsModel", "stopped0", "I", false)
  | 37 => ("TwinBucketsModel", "orderAt", "I", false)
  | 38 => ("TwinBucketsModel", "howOften", "I", false)
  | 39 => ("TwinBucketsModel", "head", "I", false)
  | 40 => ("TwinBucketsModel", "sumsAre", "Z", false)
  | 41 => ("TwinBucketsModel", "testIs", "Z", false)
  | 42 => ("TwinBucketsModel", "sums", "[J", true)
  | 43 => ("TwinBucketsModel", "drawnValues", "[I", true)
  | 44 => ("TwinBucketsModel", "hasDrawn", "Z", false)
  | _ => ("TwinBucketsModel", "latest", "I", false)
def tyX9 : Nat → FieldType := fun k => match k with
  | 0 => .int
  | 1 => .array .int
  | 2 => .array .int
  | 3 => .array .int
  | 4 => .array .boolean
  | 5 => .array .int
  | 6 => .int
  | 7 => .array .byte
  | 8 => .int
  | 9 => .int
  | 10 => .boolean
  | 11 => .array .byte
  | 12 => .array .int
  | 13 => .int
  | 14 => .int
  | 15 => .array .int
  | 16 => .array .int
  | 17 => .array .int
  | 18 => .int
  | 19 => .int
  | 20 => .int
  | 21 => .int
  | 22 => .int
  | 23 => .int
  | 24 => .boolean
  | 25 => .boolean
  | 26 => .array .int
  | 27 => .int
  | 28 => .int
  | 29 => .array .int
  | 30 => .array .int
  | 31 => .array .int
  | 32 => .int
  | 33 => .array .int
  | 34 => .array .int
  | 35 => .array .long
  | 36 => .int
  | 37 => .int
  | 38 => .int
  | 39 => .int
  | 40 => .boolean
  | 41 => .boolean
  | 42 => .array .long
  | 43 => .array .int
  | 44 => .boolean
  | _ => .int
theorem nmX9 : ∀ a, a < 46 → ∀ b, b < 46 → a ≠ b → (TX9 a).2.1 ≠ (TX9 b).2.1 := by decide +kernel
theorem tyX9_ok : ∀ k, k < 46 → parseFieldDescriptor (TX9 k).2.2.1 = some (tyX9 k) := by decide +kernel
abbrev xclasses : List vw_C := [(RX0, TX0, 4), (RX1, TX1, 3), (RX2, TX2, 1), (RX3, TX3, 8), (RX4, TX4, 3), (RX5, TX5, 8), (RX6, TX6, 10), (RX7, TX7, 7), (RX8, TX8, 18), (RX9, TX9, 46)]
def xcnL : List String := ["TwinBuckets$History", "TwinBuckets$Image", "TwinBuckets$Pages", "TwinBuckets$Rules", "TwinBuckets$Sightings", "TwinBuckets$Store", "TwinBuckets$Tape", "TwinBuckets$Text", "TwinBuckets", "TwinBucketsModel", "TwinBucketsLaw", "java/util/Arrays", "java/lang/Integer"]
def xcn (o : Nat) : String := xcnL.getD o ""
def xtyL : List (Nat → FieldType) := [tyX0, tyX1, tyX2, tyX3, tyX4, tyX5, tyX6, tyX7, tyX8, tyX9]
/-- names, bytes, return types of the methods, by their numbers -/
def xm_0 : MethodName × ByteArray × Option FieldType := (⟨"TwinBuckets$History", "<init>", "()V"⟩, prog_2_method_1_code, none)
def xm_1 : MethodName × ByteArray × Option FieldType := (⟨"TwinBuckets$History", "clear", "()V"⟩, prog_2_method_2_code, none)
def xm_2 : MethodName × ByteArray × Option FieldType := (⟨"TwinBuckets$History", "prepare", "(LTwinBuckets$Store;)V"⟩, prog_2_method_3_code, none)
def xm_3 : MethodName × ByteArray × Option FieldType := (⟨"TwinBuckets$History", "commit", "(I)V"⟩, prog_2_method_4_code, none)
def xm_4 : MethodName × ByteArray × Option FieldType := (⟨"TwinBuckets$History", "keep", "(LTwinBuckets$Store;I)LTwinBuckets$Store;"⟩, prog_2_method_5_code, (some (.object "TwinBuckets$Store")))
def xm_5 : MethodName × ByteArray × Option FieldType := (⟨"TwinBuckets$History", "takeOver", "(LTwinBuckets$History;)V"⟩, prog_2_method_6_code, none)
def xm_6 : MethodName × ByteArray × Option FieldType := (⟨"TwinBuckets$History", "takeBack", "(LTwinBuckets$Store;)I"⟩, prog_2_method_7_code, (some (.int)))
def xm_7 : MethodName × ByteArray × Option FieldType := (⟨"TwinBuckets$Image", "<init>", "()V"⟩, prog_3_method_1_code, none)
def xm_8 : MethodName × ByteArray × Option FieldType := (⟨"TwinBuckets$Pages", "<init>", "()V"⟩, prog_4_method_1_code, none)
def xm_9 : MethodName × ByteArray × Option FieldType := (⟨"TwinBuckets$Pages", "copyFrom", "(LTwinBuckets$Pages;)V"⟩, prog_4_method_2_code, none)
def xm_10 : MethodName × ByteArray × Option FieldType := (⟨"TwinBuckets$Pages", "tell", "(II)I"⟩, prog_4_method_3_code, (some (.int)))
def xm_11 : MethodName × ByteArray × Option FieldType := (⟨"TwinBuckets$Pages", "isUsed", "(I)Z"⟩, prog_4_method_6_code, (some (.boolean)))
def xm_12 : MethodName × ByteArray × Option FieldType := (⟨"TwinBuckets$Pages", "depth", "(I)I"⟩, prog_4_method_7_code, (some (.int)))
def xm_13 : MethodName × ByteArray × Option FieldType := (⟨"TwinBuckets$Pages", "prefix", "(I)I"⟩, prog_4_method_8_code, (some (.int)))
def xm_14 : MethodName × ByteArray × Option FieldType := (⟨"TwinBuckets$Pages", "many", "(I)I"⟩, prog_4_method_9_code, (some (.int)))
def xm_15 : MethodName × ByteArray × Option FieldType := (⟨"TwinBuckets$Pages", "keyAt", "(II)I"⟩, prog_4_method_10_code, (some (.int)))
def xm_16 : MethodName × ByteArray × Option FieldType := (⟨"TwinBuckets$Pages", "valueAt", "(II)I"⟩, prog_4_method_11_code, (some (.int)))
def xm_17 : MethodName × ByteArray × Option FieldType := (⟨"TwinBuckets$Pages", "cell", "(II)I"⟩, prog_4_method_4_code, (some (.int)))
def xm_18 : MethodName × ByteArray × Option FieldType := (⟨"TwinBuckets$Pages", "setPlace", "(III)V"⟩, prog_4_method_12_code, none)
def xm_19 : MethodName × ByteArray × Option FieldType := (⟨"TwinBuckets$Pages", "clear", "(I)V"⟩, prog_4_method_14_code, none)
def xm_20 : MethodName × ByteArray × Option FieldType := (⟨"TwinBuckets$Pages", "find", "(II)I"⟩, prog_4_method_15_code, (some (.int)))
def xm_21 : MethodName × ByteArray × Option FieldType := (⟨"TwinBuckets$Pages", "append", "(III)V"⟩, prog_4_method_16_code, none)
def xm_22 : MethodName × ByteArray × Option FieldType := (⟨"TwinBuckets$Pages", "removeAt", "(II)V"⟩, prog_4_method_17_code, none)
def xm_23 : MethodName × ByteArray × Option FieldType := (⟨"TwinBuckets$Pages", "usedCount", "()I"⟩, prog_4_method_18_code, (some (.int)))
def xm_24 : MethodName × ByteArray × Option FieldType := (⟨"TwinBuckets$Pages", "lowestFree", "()I"⟩, prog_4_method_19_code, (some (.int)))
def xm_25 : MethodName × ByteArray × Option FieldType := (⟨"TwinBuckets$Pages", "greatestDepth", "()I"⟩, prog_4_method_20_code, (some (.int)))
def xm_26 : MethodName × ByteArray × Option FieldType := (⟨"TwinBuckets$Rules", "<init>", "()V"⟩, prog_5_method_1_code, none)
def xm_27 : MethodName × ByteArray × Option FieldType := (⟨"TwinBuckets$Rules", "copyFrom", "(LTwinBuckets$Rules;)V"⟩, prog_5_method_2_code, none)
def xm_28 : MethodName × ByteArray × Option FieldType := (⟨"TwinBuckets$Rules", "hashBy", "(II)I"⟩, prog_5_method_3_code, (some (.int)))
def xm_29 : MethodName × ByteArray × Option FieldType := (⟨"TwinBuckets$Rules", "hashOf", "(I)I"⟩, prog_5_method_4_code, (some (.int)))
def xm_30 : MethodName × ByteArray × Option FieldType := (⟨"TwinBuckets$Rules", "addLaw", "(LTwinBuckets$Text;)I"⟩, prog_5_method_5_code, (some (.int)))
def xm_31 : MethodName × ByteArray × Option FieldType := (⟨"TwinBuckets$Rules", "textOf", "(I)LTwinBuckets$Text;"⟩, prog_5_method_6_code, (some (.object "TwinBuckets$Text")))
def xm_32 : MethodName × ByteArray × Option FieldType := (⟨"TwinBuckets$Rules", "fillWords", "(LTwinBuckets$Store;III)V"⟩, prog_5_method_7_code, none)
def xm_33 : MethodName × ByteArray × Option FieldType := (⟨"TwinBuckets$Rules", "costOf", "(ILTwinBuckets$Store;I)I"⟩, prog_5_method_8_code, (some (.int)))
def xm_34 : MethodName × ByteArray × Option FieldType := (⟨"TwinBuckets$Rules", "bars", "(ILTwinBuckets$Store;I)Z"⟩, prog_5_method_9_code, (some (.boolean)))
def xm_35 : MethodName × ByteArray × Option FieldType := (⟨"TwinBuckets$Sightings", "<init>", "()V"⟩, prog_6_method_1_code, none)
def xm_36 : MethodName × ByteArray × Option FieldType := (⟨"TwinBuckets$Sightings", "copyFrom", "(LTwinBuckets$Sightings;)V"⟩, prog_6_method_2_code, none)
def xm_37 : MethodName × ByteArray × Option FieldType := (⟨"TwinBuckets$Sightings", "add", "(II)I"⟩, prog_6_method_3_code, (some (.int)))
def xm_38 : MethodName × ByteArray × Option FieldType := (⟨"TwinBuckets$Sightings", "candidates", "(LTwinBuckets$Store;)I"⟩, prog_6_method_4_code, (some (.int)))
def xm_39 : MethodName × ByteArray × Option FieldType := (⟨"TwinBuckets$Sightings", "fits", "(LTwinBuckets$Store;I)Z"⟩, prog_6_method_5_code, (some (.boolean)))
def xm_40 : MethodName × ByteArray × Option FieldType := (⟨"TwinBuckets$Store", "<init>", "()V"⟩, prog_7_method_1_code, none)
def xm_41 : MethodName × ByteArray × Option FieldType := (⟨"TwinBuckets$Store", "open", "()V"⟩, prog_7_method_2_code, none)
def xm_42 : MethodName × ByteArray × Option FieldType := (⟨"TwinBuckets$Store", "copyFrom", "(LTwinBuckets$Store;)V"⟩, prog_7_method_3_code, none)
def xm_43 : MethodName × ByteArray × Option FieldType := (⟨"TwinBuckets$Store", "slotsThere", "()I"⟩, prog_7_method_4_code, (some (.int)))
def xm_44 : MethodName × ByteArray × Option FieldType := (⟨"TwinBuckets$Store", "keysThere", "()I"⟩, prog_7_method_7_code, (some (.int)))
def xm_45 : MethodName × ByteArray × Option FieldType := (⟨"TwinBuckets$Store", "soughtIn", "(ILTwinBuckets$Rules;)I"⟩, prog_7_method_8_code, (some (.int)))
def xm_46 : MethodName × ByteArray × Option FieldType := (⟨"TwinBuckets$Store", "valueOf", "(ILTwinBuckets$Rules;)I"⟩, prog_7_method_9_code, (some (.int)))
def xm_47 : MethodName × ByteArray × Option FieldType := (⟨"TwinBuckets$Store", "isBarred", "(ILTwinBuckets$Rules;)Z"⟩, prog_7_method_10_code, (some (.boolean)))
def xm_48 : MethodName × ByteArray × Option FieldType := (⟨"TwinBuckets$Store", "placeKey", "(IILTwinBuckets$Rules;)I"⟩, prog_7_method_11_code, (some (.int)))
def xm_49 : MethodName × ByteArray × Option FieldType := (⟨"TwinBuckets$Store", "splitsNeeded", "(IILTwinBuckets$Rules;)I"⟩, prog_7_method_12_code, (some (.int)))
def xm_50 : MethodName × ByteArray × Option FieldType := (⟨"TwinBuckets$Store", "splitBucket", "(ILTwinBuckets$Rules;)I"⟩, prog_7_method_13_code, (some (.int)))
def xm_51 : MethodName × ByteArray × Option FieldType := (⟨"TwinBuckets$Store", "giveSlots", "(II)V"⟩, prog_7_method_14_code, none)
def xm_52 : MethodName × ByteArray × Option FieldType := (⟨"TwinBuckets$Store", "removeKey", "(ILTwinBuckets$Rules;)I"⟩, prog_7_method_15_code, (some (.int)))
def xm_53 : MethodName × ByteArray × Option FieldType := (⟨"TwinBuckets$Store", "twinOf", "(I)I"⟩, prog_7_method_16_code, (some (.int)))
def xm_54 : MethodName × ByteArray × Option FieldType := (⟨"TwinBuckets$Store", "joinTwins", "(II)V"⟩, prog_7_method_17_code, none)
def xm_55 : MethodName × ByteArray × Option FieldType := (⟨"TwinBuckets$Store", "queueWrite", "(ILTwinBuckets$Rules;)V"⟩, prog_7_method_18_code, none)
def xm_56 : MethodName × ByteArray × Option FieldType := (⟨"TwinBuckets$Store", "writeAt", "(I)I"⟩, prog_7_method_19_code, (some (.int)))
def xm_57 : MethodName × ByteArray × Option FieldType := (⟨"TwinBuckets$Store", "doEldest", "()V"⟩, prog_7_method_20_code, none)
def xm_58 : MethodName × ByteArray × Option FieldType := (⟨"TwinBuckets$Store", "tellWrite", "(II)I"⟩, prog_7_method_21_code, (some (.int)))
def xm_59 : MethodName × ByteArray × Option FieldType := (⟨"TwinBuckets$Store", "costOfWaiting", "()I"⟩, prog_7_method_22_code, (some (.int)))
def xm_60 : MethodName × ByteArray × Option FieldType := (⟨"TwinBuckets$Store", "doWrites", "(I)I"⟩, prog_7_method_23_code, (some (.int)))
def xm_61 : MethodName × ByteArray × Option FieldType := (⟨"TwinBuckets$Store", "losePower", "(ILTwinBuckets$Rules;)I"⟩, prog_7_method_24_code, (some (.int)))
def xm_62 : MethodName × ByteArray × Option FieldType := (⟨"TwinBuckets$Store", "findOwners", "()V"⟩, prog_7_method_25_code, none)
def xm_63 : MethodName × ByteArray × Option FieldType := (⟨"TwinBuckets$Store", "rebuildBucket", "(ILTwinBuckets$Rules;)V"⟩, prog_7_method_26_code, none)
def xm_64 : MethodName × ByteArray × Option FieldType := (⟨"TwinBuckets$Store", "keysNotAlike", "(LTwinBuckets$Store;LTwinBuckets$Rules;)I"⟩, prog_7_method_27_code, (some (.int)))
def xm_65 : MethodName × ByteArray × Option FieldType := (⟨"TwinBuckets$Store", "slotsNotAlike", "(LTwinBuckets$Store;)I"⟩, prog_7_method_28_code, (some (.int)))
def xm_66 : MethodName × ByteArray × Option FieldType := (⟨"TwinBuckets$Store", "wouldSplit", "(ILTwinBuckets$Rules;)Z"⟩, prog_7_method_29_code, (some (.boolean)))
def xm_67 : MethodName × ByteArray × Option FieldType := (⟨"TwinBuckets$Store", "bucketsBySalt", "(I[I)I"⟩, prog_7_method_30_code, (some (.int)))
def xm_68 : MethodName × ByteArray × Option FieldType := (⟨"TwinBuckets$Tape", "<init>", "()V"⟩, prog_8_method_1_code, none)
def xm_69 : MethodName × ByteArray × Option FieldType := (⟨"TwinBuckets$Tape", "addBytes", "(I)V"⟩, prog_8_method_2_code, none)
def xm_70 : MethodName × ByteArray × Option FieldType := (⟨"TwinBuckets$Tape", "take", "()I"⟩, prog_8_method_3_code, (some (.int)))
def xm_71 : MethodName × ByteArray × Option FieldType := (⟨"TwinBuckets$Tape", "readText", "(Z)I"⟩, prog_8_method_4_code, (some (.int)))
def xm_72 : MethodName × ByteArray × Option FieldType := (⟨"TwinBuckets$Tape", "next", "()V"⟩, prog_8_method_5_code, none)
def xm_73 : MethodName × ByteArray × Option FieldType := (⟨"TwinBuckets$Tape", "isWord", "(Ljava/lang/String;)Z"⟩, prog_8_method_6_code, (some (.boolean)))
def xm_74 : MethodName × ByteArray × Option FieldType := (⟨"TwinBuckets$Tape", "passWord", "(Ljava/lang/String;)Z"⟩, prog_8_method_7_code, (some (.boolean)))
def xm_75 : MethodName × ByteArray × Option FieldType := (⟨"TwinBuckets$Tape", "passSign", "(C)Z"⟩, prog_8_method_8_code, (some (.boolean)))
def xm_76 : MethodName × ByteArray × Option FieldType := (⟨"TwinBuckets$Tape", "readClause", "()Z"⟩, prog_8_method_9_code, (some (.boolean)))
def xm_77 : MethodName × ByteArray × Option FieldType := (⟨"TwinBuckets$Tape", "readRule", "()Z"⟩, prog_8_method_10_code, (some (.boolean)))
def xm_78 : MethodName × ByteArray × Option FieldType := (⟨"TwinBuckets$Tape", "readOrder", "()Z"⟩, prog_8_method_11_code, (some (.boolean)))
def xm_79 : MethodName × ByteArray × Option FieldType := (⟨"TwinBuckets$Tape", "readSumPart", "(I)Z"⟩, prog_8_method_12_code, (some (.boolean)))
def xm_80 : MethodName × ByteArray × Option FieldType := (⟨"TwinBuckets$Tape", "readTest", "(I)Z"⟩, prog_8_method_13_code, (some (.boolean)))
def xm_81 : MethodName × ByteArray × Option FieldType := (⟨"TwinBuckets$Tape", "readBoth", "(I)Z"⟩, prog_8_method_14_code, (some (.boolean)))
def xm_82 : MethodName × ByteArray × Option FieldType := (⟨"TwinBuckets$Tape", "readPlain", "(I)Z"⟩, prog_8_method_15_code, (some (.boolean)))
def xm_83 : MethodName × ByteArray × Option FieldType := (⟨"TwinBuckets$Tape", "readSum", "(I)Z"⟩, prog_8_method_16_code, (some (.boolean)))
def xm_84 : MethodName × ByteArray × Option FieldType := (⟨"TwinBuckets$Tape", "readTerm", "(I)Z"⟩, prog_8_method_17_code, (some (.boolean)))
def xm_85 : MethodName × ByteArray × Option FieldType := (⟨"TwinBuckets$Tape", "readPart", "(I)Z"⟩, prog_8_method_18_code, (some (.boolean)))
def xm_86 : MethodName × ByteArray × Option FieldType := (⟨"TwinBuckets$Tape", "readAsked", "(II)Z"⟩, prog_8_method_19_code, (some (.boolean)))
def xm_87 : MethodName × ByteArray × Option FieldType := (⟨"TwinBuckets$Tape", "lawWord", "()I"⟩, prog_8_method_20_code, (some (.int)))
def xm_88 : MethodName × ByteArray × Option FieldType := (⟨"TwinBuckets$Tape", "orderWord", "()I"⟩, prog_8_method_21_code, (some (.int)))
def xm_89 : MethodName × ByteArray × Option FieldType := (⟨"TwinBuckets$Text", "<init>", "()V"⟩, prog_9_method_1_code, none)
def xm_90 : MethodName × ByteArray × Option FieldType := (⟨"TwinBuckets$Text", "<init>", "(LTwinBuckets$Text;)V"⟩, prog_9_method_2_code, none)
def xm_91 : MethodName × ByteArray × Option FieldType := (⟨"TwinBuckets$Text", "clear", "()V"⟩, prog_9_method_3_code, none)
def xm_92 : MethodName × ByteArray × Option FieldType := (⟨"TwinBuckets$Text", "cell", "(II)I"⟩, prog_9_method_4_code, (some (.int)))
def xm_93 : MethodName × ByteArray × Option FieldType := (⟨"TwinBuckets$Text", "setCell", "(II)V"⟩, prog_9_method_5_code, none)
def xm_94 : MethodName × ByteArray × Option FieldType := (⟨"TwinBuckets$Text", "emit", "(II)V"⟩, prog_9_method_6_code, none)
def xm_95 : MethodName × ByteArray × Option FieldType := (⟨"TwinBuckets$Text", "aim", "(I)V"⟩, prog_9_method_7_code, none)
def xm_96 : MethodName × ByteArray × Option FieldType := (⟨"TwinBuckets$Text", "worth", "(II[I[I)I"⟩, prog_9_method_8_code, (some (.int)))
def xm_97 : MethodName × ByteArray × Option FieldType := (⟨"TwinBuckets$Text", "combine", "(IJJ)I"⟩, prog_9_method_9_code, (some (.int)))
def xm_98 : MethodName × ByteArray × Option FieldType := (⟨"TwinBuckets", "<init>", "()V"⟩, prog_1_method_1_code, none)
def xm_99 : MethodName × ByteArray × Option FieldType := (⟨"TwinBuckets", "of", "(II)I"⟩, prog_1_method_2_code, (some (.int)))
def xm_100 : MethodName × ByteArray × Option FieldType := (⟨"TwinBuckets", "page", "(II)I"⟩, prog_1_method_3_code, (some (.int)))
def xm_101 : MethodName × ByteArray × Option FieldType := (⟨"TwinBuckets", "write", "(II)I"⟩, prog_1_method_4_code, (some (.int)))
def xm_102 : MethodName × ByteArray × Option FieldType := (⟨"TwinBuckets", "slot", "(I)I"⟩, prog_1_method_5_code, (some (.int)))
def xm_103 : MethodName × ByteArray × Option FieldType := (⟨"TwinBuckets", "key", "(II)I"⟩, prog_1_method_6_code, (some (.int)))
def xm_104 : MethodName × ByteArray × Option FieldType := (⟨"TwinBuckets", "terms", "(II)I"⟩, prog_1_method_7_code, (some (.int)))
def xm_105 : MethodName × ByteArray × Option FieldType := (⟨"TwinBuckets", "feed", "(IIIII)I"⟩, prog_1_method_8_code, (some (.int)))
def xm_106 : MethodName × ByteArray × Option FieldType := (⟨"TwinBuckets", "end", "(I)I"⟩, prog_1_method_9_code, (some (.int)))
def xm_107 : MethodName × ByteArray × Option FieldType := (⟨"TwinBuckets", "row", "()I"⟩, prog_1_method_10_code, (some (.int)))
def xm_108 : MethodName × ByteArray × Option FieldType := (⟨"TwinBuckets", "tears", "()I"⟩, prog_1_method_11_code, (some (.int)))
def xm_109 : MethodName × ByteArray × Option FieldType := (⟨"TwinBuckets", "law", "()I"⟩, prog_1_method_12_code, (some (.int)))
def xm_110 : MethodName × ByteArray × Option FieldType := (⟨"TwinBuckets", "orders", "()I"⟩, prog_1_method_13_code, (some (.int)))
def xm_111 : MethodName × ByteArray × Option FieldType := (⟨"TwinBuckets", "fault", "()I"⟩, prog_1_method_14_code, (some (.int)))
def xm_112 : MethodName × ByteArray × Option FieldType := (⟨"TwinBuckets", "stopped", "()I"⟩, prog_1_method_15_code, (some (.int)))
def xm_113 : MethodName × ByteArray × Option FieldType := (⟨"TwinBuckets", "force", "(I)I"⟩, prog_1_method_16_code, (some (.int)))
def xm_114 : MethodName × ByteArray × Option FieldType := (⟨"TwinBuckets", "put", "(II)I"⟩, prog_1_method_17_code, (some (.int)))
def xm_115 : MethodName × ByteArray × Option FieldType := (⟨"TwinBuckets", "drop", "(I)I"⟩, prog_1_method_18_code, (some (.int)))
def xm_116 : MethodName × ByteArray × Option FieldType := (⟨"TwinBuckets", "flush", "(I)I"⟩, prog_1_method_19_code, (some (.int)))
def xm_117 : MethodName × ByteArray × Option FieldType := (⟨"TwinBuckets", "crash", "(I)I"⟩, prog_1_method_20_code, (some (.int)))
def xm_118 : MethodName × ByteArray × Option FieldType := (⟨"TwinBuckets", "undo", "()I"⟩, prog_1_method_21_code, (some (.int)))
def xm_119 : MethodName × ByteArray × Option FieldType := (⟨"TwinBuckets", "behind", "(II)I"⟩, prog_1_method_22_code, (some (.int)))
def xm_120 : MethodName × ByteArray × Option FieldType := (⟨"TwinBuckets", "lost", "(I)I"⟩, prog_1_method_23_code, (some (.int)))
def xm_121 : MethodName × ByteArray × Option FieldType := (⟨"TwinBuckets", "torn", "(I)I"⟩, prog_1_method_24_code, (some (.int)))
def xm_122 : MethodName × ByteArray × Option FieldType := (⟨"TwinBuckets", "splits", "()I"⟩, prog_1_method_25_code, (some (.int)))
def xm_123 : MethodName × ByteArray × Option FieldType := (⟨"TwinBuckets", "room", "()I"⟩, prog_1_method_26_code, (some (.int)))
def xm_124 : MethodName × ByteArray × Option FieldType := (⟨"TwinBuckets", "twin", "(I)I"⟩, prog_1_method_27_code, (some (.int)))
def xm_125 : MethodName × ByteArray × Option FieldType := (⟨"TwinBuckets", "salts", "(I)I"⟩, prog_1_method_28_code, (some (.int)))
def xm_126 : MethodName × ByteArray × Option FieldType := (⟨"TwinBuckets", "spent", "()I"⟩, prog_1_method_29_code, (some (.int)))
def xm_127 : MethodName × ByteArray × Option FieldType := (⟨"TwinBuckets", "seen", "(II)I"⟩, prog_1_method_30_code, (some (.int)))
def xm_128 : MethodName × ByteArray × Option FieldType := (⟨"TwinBuckets", "forget", "()I"⟩, prog_1_method_31_code, (some (.int)))
def xm_129 : MethodName × ByteArray × Option FieldType := (⟨"TwinBuckets", "canBe", "()I"⟩, prog_1_method_32_code, (some (.int)))
def xm_130 : MethodName × ByteArray × Option FieldType := (⟨"TwinBuckets", "read", "(I)I"⟩, prog_1_method_33_code, (some (.int)))
def xm_131 : MethodName × ByteArray × Option FieldType := (⟨"TwinBuckets", "few", "(II)J"⟩, prog_1_method_34_code, (some (.long)))
def xm_132 : MethodName × ByteArray × Option FieldType := (⟨"TwinBuckets", "compare", "(II)I"⟩, prog_1_method_35_code, (some (.int)))
def xm_133 : MethodName × ByteArray × Option FieldType := (⟨"TwinBuckets", "years", "(II)I"⟩, prog_1_method_36_code, (some (.int)))
def xm_134 : MethodName × ByteArray × Option FieldType := (⟨"TwinBuckets", "drawn", "(I)I"⟩, prog_1_method_37_code, (some (.int)))
def xm_135 : MethodName × ByteArray × Option FieldType := (⟨"TwinBuckets", "image", "(I)I"⟩, prog_1_method_38_code, (some (.int)))
def xm_136 : MethodName × ByteArray × Option FieldType := (⟨"TwinBuckets", "back", "(I)I"⟩, prog_1_method_39_code, (some (.int)))
def xm_137 : MethodName × ByteArray × Option FieldType := (⟨"TwinBuckets", "count", "(I)I"⟩, prog_1_method_40_code, (some (.int)))
def xm_138 : MethodName × ByteArray × Option FieldType := (⟨"TwinBuckets", "status", "()I"⟩, prog_1_method_41_code, (some (.int)))
def xm_139 : MethodName × ByteArray × Option FieldType := (⟨"TwinBuckets", "isKey", "(I)Z"⟩, prog_1_method_42_code, (some (.boolean)))
def xm_140 : MethodName × ByteArray × Option FieldType := (⟨"TwinBuckets", "isBucket", "(I)Z"⟩, prog_1_method_43_code, (some (.boolean)))
def xm_141 : MethodName × ByteArray × Option FieldType := (⟨"TwinBuckets", "refuse", "(I)I"⟩, prog_1_method_44_code, (some (.int)))
def xm_142 : MethodName × ByteArray × Option FieldType := (⟨"TwinBuckets", "grant", "(I)I"⟩, prog_1_method_45_code, (some (.int)))
def xm_143 : MethodName × ByteArray × Option FieldType := (⟨"TwinBuckets", "answer", "(I)I"⟩, prog_1_method_46_code, (some (.int)))
def xm_144 : MethodName × ByteArray × Option FieldType := (⟨"TwinBuckets", "mostOfTerm", "(I)I"⟩, prog_1_method_47_code, (some (.int)))
def xm_145 : MethodName × ByteArray × Option FieldType := (⟨"TwinBuckets", "termNow", "(I)I"⟩, prog_1_method_48_code, (some (.int)))
def xm_146 : MethodName × ByteArray × Option FieldType := (⟨"TwinBuckets", "setTerm", "(II)V"⟩, prog_1_method_49_code, none)
def xm_147 : MethodName × ByteArray × Option FieldType := (⟨"TwinBuckets", "act", "(IIILTwinBuckets$History;)I"⟩, prog_1_method_50_code, (some (.int)))
def xm_148 : MethodName × ByteArray × Option FieldType := (⟨"TwinBuckets", "runClause", "(LTwinBuckets$Text;I)Z"⟩, prog_1_method_51_code, (some (.boolean)))
def xm_149 : MethodName × ByteArray × Option FieldType := (⟨"TwinBuckets", "fillOrderWords", "(LTwinBuckets$Text;)V"⟩, prog_1_method_52_code, none)
def xm_150 : MethodName × ByteArray × Option FieldType := (⟨"TwinBuckets", "losePowerOnPaper", "(I)Z"⟩, prog_1_method_53_code, (some (.boolean)))
def xm_151 : MethodName × ByteArray × Option FieldType := (⟨"TwinBuckets", "oneWriteMore", "(I)V"⟩, prog_1_method_54_code, none)
def xm_152 : MethodName × ByteArray × Option FieldType := (⟨"TwinBuckets", "nextDraw", "(I)I"⟩, prog_1_method_55_code, (some (.int)))
def xm_153 : MethodName × ByteArray × Option FieldType := (⟨"TwinBuckets", "actOnPaper", "(III)V"⟩, prog_1_method_56_code, none)
def xm_154 : MethodName × ByteArray × Option FieldType := (⟨"TwinBucketsModel", "lies", "(III)Z"⟩, prog_11_method_1_code, (some (.boolean)))
def xm_155 : MethodName × ByteArray × Option FieldType := (⟨"TwinBucketsModel", "lesser", "(II)I"⟩, prog_11_method_2_code, (some (.int)))
def xm_156 : MethodName × ByteArray × Option FieldType := (⟨"TwinBucketsModel", "greater", "(II)I"⟩, prog_11_method_3_code, (some (.int)))
def xm_157 : MethodName × ByteArray × Option FieldType := (⟨"TwinBucketsModel", "refuses", "(I)I"⟩, prog_11_method_4_code, (some (.int)))
def xm_158 : MethodName × ByteArray × Option FieldType := (⟨"TwinBucketsModel", "good", "(I)I"⟩, prog_11_method_5_code, (some (.int)))
def xm_159 : MethodName × ByteArray × Option FieldType := (⟨"TwinBucketsModel", "settled", "(I)I"⟩, prog_11_method_6_code, (some (.int)))
def xm_160 : MethodName × ByteArray × Option FieldType := (⟨"TwinBucketsModel", "isIn", "(II)Z"⟩, prog_11_method_7_code, (some (.boolean)))
def xm_161 : MethodName × ByteArray × Option FieldType := (⟨"TwinBucketsModel", "ones", "(I)I"⟩, prog_11_method_8_code, (some (.int)))
def xm_162 : MethodName × ByteArray × Option FieldType := (⟨"TwinBucketsModel", "isBucket", "(I)Z"⟩, prog_11_method_9_code, (some (.boolean)))
def xm_163 : MethodName × ByteArray × Option FieldType := (⟨"TwinBucketsModel", "isKey", "(I)Z"⟩, prog_11_method_10_code, (some (.boolean)))
def xm_164 : MethodName × ByteArray × Option FieldType := (⟨"TwinBucketsModel", "<init>", "()V"⟩, prog_11_method_11_code, none)
def xm_165 : MethodName × ByteArray × Option FieldType := (⟨"TwinBucketsModel", "laysAside", "(I)V"⟩, prog_11_method_12_code, none)
def xm_166 : MethodName × ByteArray × Option FieldType := (⟨"TwinBucketsModel", "takesBack", "(I)V"⟩, prog_11_method_13_code, none)
def xm_167 : MethodName × ByteArray × Option FieldType := (⟨"TwinBucketsModel", "image", "(I)I"⟩, prog_11_method_14_code, (some (.int)))
def xm_168 : MethodName × ByteArray × Option FieldType := (⟨"TwinBucketsModel", "back", "(I)I"⟩, prog_11_method_15_code, (some (.int)))
def xm_169 : MethodName × ByteArray × Option FieldType := (⟨"TwinBucketsModel", "at", "(II)I"⟩, prog_11_method_16_code, (some (.int)))
def xm_170 : MethodName × ByteArray × Option FieldType := (⟨"TwinBucketsModel", "isUsed", "(I)Z"⟩, prog_11_method_17_code, (some (.boolean)))
def xm_171 : MethodName × ByteArray × Option FieldType := (⟨"TwinBucketsModel", "usedMany", "()I"⟩, prog_11_method_18_code, (some (.int)))
def xm_172 : MethodName × ByteArray × Option FieldType := (⟨"TwinBucketsModel", "keyMany", "()I"⟩, prog_11_method_19_code, (some (.int)))
def xm_173 : MethodName × ByteArray × Option FieldType := (⟨"TwinBucketsModel", "lowBits", "(II)I"⟩, prog_11_method_20_code, (some (.int)))
def xm_174 : MethodName × ByteArray × Option FieldType := (⟨"TwinBucketsModel", "hashOf", "(I)I"⟩, prog_11_method_21_code, (some (.int)))
def xm_175 : MethodName × ByteArray × Option FieldType := (⟨"TwinBucketsModel", "ownerOf", "(I)I"⟩, prog_11_method_22_code, (some (.int)))
def xm_176 : MethodName × ByteArray × Option FieldType := (⟨"TwinBucketsModel", "soughtIn", "(I)I"⟩, prog_11_method_23_code, (some (.int)))
def xm_177 : MethodName × ByteArray × Option FieldType := (⟨"TwinBucketsModel", "placeOf", "(I)I"⟩, prog_11_method_24_code, (some (.int)))
def xm_178 : MethodName × ByteArray × Option FieldType := (⟨"TwinBucketsModel", "valueOrNone", "(I)I"⟩, prog_11_method_25_code, (some (.int)))
def xm_179 : MethodName × ByteArray × Option FieldType := (⟨"TwinBucketsModel", "toldOf", "(II)I"⟩, prog_11_method_26_code, (some (.int)))
def xm_180 : MethodName × ByteArray × Option FieldType := (⟨"TwinBucketsModel", "of", "(II)I"⟩, prog_11_method_27_code, (some (.int)))
def xm_181 : MethodName × ByteArray × Option FieldType := (⟨"TwinBucketsModel", "page", "(II)I"⟩, prog_11_method_28_code, (some (.int)))
def xm_182 : MethodName × ByteArray × Option FieldType := (⟨"TwinBucketsModel", "writeAt", "(I)I"⟩, prog_11_method_29_code, (some (.int)))
def xm_183 : MethodName × ByteArray × Option FieldType := (⟨"TwinBucketsModel", "write", "(II)I"⟩, prog_11_method_30_code, (some (.int)))
def xm_184 : MethodName × ByteArray × Option FieldType := (⟨"TwinBucketsModel", "slot", "(I)I"⟩, prog_11_method_31_code, (some (.int)))
def xm_185 : MethodName × ByteArray × Option FieldType := (⟨"TwinBucketsModel", "key", "(II)I"⟩, prog_11_method_32_code, (some (.int)))
def xm_186 : MethodName × ByteArray × Option FieldType := (⟨"TwinBucketsModel", "isTerm", "(II)Z"⟩, prog_11_method_33_code, (some (.boolean)))
def xm_187 : MethodName × ByteArray × Option FieldType := (⟨"TwinBucketsModel", "termAt", "(I)I"⟩, prog_11_method_34_code, (some (.int)))
def xm_188 : MethodName × ByteArray × Option FieldType := (⟨"TwinBucketsModel", "terms", "(II)I"⟩, prog_11_method_35_code, (some (.int)))
def xm_189 : MethodName × ByteArray × Option FieldType := (⟨"TwinBucketsModel", "row", "()I"⟩, prog_11_method_36_code, (some (.int)))
def xm_190 : MethodName × ByteArray × Option FieldType := (⟨"TwinBucketsModel", "tears", "()I"⟩, prog_11_method_37_code, (some (.int)))
def xm_191 : MethodName × ByteArray × Option FieldType := (⟨"TwinBucketsModel", "feed", "(IIIII)I"⟩, prog_11_method_38_code, (some (.int)))
def xm_192 : MethodName × ByteArray × Option FieldType := (⟨"TwinBucketsModel", "end", "(I)I"⟩, prog_11_method_39_code, (some (.int)))
def xm_193 : MethodName × ByteArray × Option FieldType := (⟨"TwinBucketsModel", "isSmall", "(I)Z"⟩, prog_11_method_40_code, (some (.boolean)))
def xm_194 : MethodName × ByteArray × Option FieldType := (⟨"TwinBucketsModel", "isDigit", "(I)Z"⟩, prog_11_method_41_code, (some (.boolean)))
def xm_195 : MethodName × ByteArray × Option FieldType := (⟨"TwinBucketsModel", "wordOf", "(II)I"⟩, prog_11_method_42_code, (some (.int)))
def xm_196 : MethodName × ByteArray × Option FieldType := (⟨"TwinBucketsModel", "cutsUp", "(I)V"⟩, prog_11_method_43_code, none)
def xm_197 : MethodName × ByteArray × Option FieldType := (⟨"TwinBucketsModel", "fine", "()Z"⟩, prog_11_method_44_code, (some (.boolean)))
def xm_198 : MethodName × ByteArray × Option FieldType := (⟨"TwinBucketsModel", "faults", "()V"⟩, prog_11_method_45_code, none)
def xm_199 : MethodName × ByteArray × Option FieldType := (⟨"TwinBucketsModel", "takes0", "(I)Z"⟩, prog_11_method_46_code, (some (.boolean)))
def xm_200 : MethodName × ByteArray × Option FieldType := (⟨"TwinBucketsModel", "must", "(I)V"⟩, prog_11_method_47_code, none)
def xm_201 : MethodName × ByteArray × Option FieldType := (⟨"TwinBucketsModel", "leaf", "()V"⟩, prog_11_method_48_code, none)
def xm_202 : MethodName × ByteArray × Option FieldType := (⟨"TwinBucketsModel", "sign", "(C)I"⟩, prog_11_method_49_code, (some (.int)))
def xm_203 : MethodName × ByteArray × Option FieldType := (⟨"TwinBucketsModel", "mustNumber", "(II)V"⟩, prog_11_method_50_code, none)
def xm_204 : MethodName × ByteArray × Option FieldType := (⟨"TwinBucketsModel", "readClause", "()V"⟩, prog_11_method_51_code, none)
def xm_205 : MethodName × ByteArray × Option FieldType := (⟨"TwinBucketsModel", "readOrder", "()V"⟩, prog_11_method_52_code, none)
def xm_206 : MethodName × ByteArray × Option FieldType := (⟨"TwinBucketsModel", "readOne", "()V"⟩, prog_11_method_53_code, none)
def xm_207 : MethodName × ByteArray × Option FieldType := (⟨"TwinBucketsModel", "readTest", "(I)V"⟩, prog_11_method_54_code, none)
def xm_208 : MethodName × ByteArray × Option FieldType := (⟨"TwinBucketsModel", "readBoth", "(I)V"⟩, prog_11_method_55_code, none)
def xm_209 : MethodName × ByteArray × Option FieldType := (⟨"TwinBucketsModel", "readPlain", "(I)V"⟩, prog_11_method_56_code, none)
def xm_210 : MethodName × ByteArray × Option FieldType := (⟨"TwinBucketsModel", "readSum", "(I)V"⟩, prog_11_method_57_code, none)
def xm_211 : MethodName × ByteArray × Option FieldType := (⟨"TwinBucketsModel", "readTerm", "(I)V"⟩, prog_11_method_58_code, none)
def xm_212 : MethodName × ByteArray × Option FieldType := (⟨"TwinBucketsModel", "readPart", "(I)V"⟩, prog_11_method_59_code, none)
def xm_213 : MethodName × ByteArray × Option FieldType := (⟨"TwinBucketsModel", "reads", "()Z"⟩, prog_11_method_60_code, (some (.boolean)))
def xm_214 : MethodName × ByteArray × Option FieldType := (⟨"TwinBucketsModel", "readsAs", "(Z)Z"⟩, prog_11_method_61_code, (some (.boolean)))
def xm_215 : MethodName × ByteArray × Option FieldType := (⟨"TwinBucketsModel", "lays", "(I)V"⟩, prog_11_method_62_code, none)
def xm_216 : MethodName × ByteArray × Option FieldType := (⟨"TwinBucketsModel", "law", "()I"⟩, prog_11_method_63_code, (some (.int)))
def xm_217 : MethodName × ByteArray × Option FieldType := (⟨"TwinBucketsModel", "fault", "()I"⟩, prog_11_method_64_code, (some (.int)))
def xm_218 : MethodName × ByteArray × Option FieldType := (⟨"TwinBucketsModel", "isLaw", "(I)Z"⟩, prog_11_method_65_code, (some (.boolean)))
def xm_219 : MethodName × ByteArray × Option FieldType := (⟨"TwinBucketsModel", "force", "(I)I"⟩, prog_11_method_66_code, (some (.int)))
def xm_220 : MethodName × ByteArray × Option FieldType := (⟨"TwinBucketsModel", "codeAt", "(I)I"⟩, prog_11_method_67_code, (some (.int)))
def xm_221 : MethodName × ByteArray × Option FieldType := (⟨"TwinBucketsModel", "passes0", "(I)Z"⟩, prog_11_method_68_code, (some (.boolean)))
def xm_222 : MethodName × ByteArray × Option FieldType := (⟨"TwinBucketsModel", "bounded", "(JZ)J"⟩, prog_11_method_69_code, (some (.long)))
def xm_223 : MethodName × ByteArray × Option FieldType := (⟨"TwinBucketsModel", "sumOf", "(Z)J"⟩, prog_11_method_70_code, (some (.long)))
def xm_224 : MethodName × ByteArray × Option FieldType := (⟨"TwinBucketsModel", "termOf", "(Z)J"⟩, prog_11_method_71_code, (some (.long)))
def xm_225 : MethodName × ByteArray × Option FieldType := (⟨"TwinBucketsModel", "partOf", "(Z)J"⟩, prog_11_method_72_code, (some (.long)))
def xm_226 : MethodName × ByteArray × Option FieldType := (⟨"TwinBucketsModel", "orderValue", "(II)I"⟩, prog_11_method_73_code, (some (.int)))
def xm_227 : MethodName × ByteArray × Option FieldType := (⟨"TwinBucketsModel", "testOf", "(Z)Z"⟩, prog_11_method_74_code, (some (.boolean)))
def xm_228 : MethodName × ByteArray × Option FieldType := (⟨"TwinBucketsModel", "bothOf", "(Z)Z"⟩, prog_11_method_75_code, (some (.boolean)))
def xm_229 : MethodName × ByteArray × Option FieldType := (⟨"TwinBucketsModel", "plainOf", "(Z)Z"⟩, prog_11_method_76_code, (some (.boolean)))
def xm_230 : MethodName × ByteArray × Option FieldType := (⟨"TwinBucketsModel", "positiveOf", "(Z)Z"⟩, prog_11_method_77_code, (some (.boolean)))
def xm_231 : MethodName × ByteArray × Option FieldType := (⟨"TwinBucketsModel", "setsAsked", "(III)V"⟩, prog_11_method_78_code, none)
def xm_232 : MethodName × ByteArray × Option FieldType := (⟨"TwinBucketsModel", "tells", "(II)I"⟩, prog_11_method_79_code, (some (.int)))
def xm_233 : MethodName × ByteArray × Option FieldType := (⟨"TwinBucketsModel", "costsOf", "(I)I"⟩, prog_11_method_80_code, (some (.int)))
def xm_234 : MethodName × ByteArray × Option FieldType := (⟨"TwinBucketsModel", "isBarred", "(I)Z"⟩, prog_11_method_81_code, (some (.boolean)))
def xm_235 : MethodName × ByteArray × Option FieldType := (⟨"TwinBucketsModel", "copies", "(II)V"⟩, prog_11_method_82_code, none)
def xm_236 : MethodName × ByteArray × Option FieldType := (⟨"TwinBucketsModel", "doesEldest", "()V"⟩, prog_11_method_83_code, none)
def xm_237 : MethodName × ByteArray × Option FieldType := (⟨"TwinBucketsModel", "writes", "(I)V"⟩, prog_11_method_84_code, none)
def xm_238 : MethodName × ByteArray × Option FieldType := (⟨"TwinBucketsModel", "comesInto", "(III)V"⟩, prog_11_method_85_code, none)
def xm_239 : MethodName × ByteArray × Option FieldType := (⟨"TwinBucketsModel", "goesOut", "(II)V"⟩, prog_11_method_86_code, none)
def xm_240 : MethodName × ByteArray × Option FieldType := (⟨"TwinBucketsModel", "lowestFree", "()I"⟩, prog_11_method_87_code, (some (.int)))
def xm_241 : MethodName × ByteArray × Option FieldType := (⟨"TwinBucketsModel", "splits0", "(I)Z"⟩, prog_11_method_88_code, (some (.boolean)))
def xm_242 : MethodName × ByteArray × Option FieldType := (⟨"TwinBucketsModel", "comes", "(II)I"⟩, prog_11_method_89_code, (some (.int)))
def xm_243 : MethodName × ByteArray × Option FieldType := (⟨"TwinBucketsModel", "puts", "(II)I"⟩, prog_11_method_90_code, (some (.int)))
def xm_244 : MethodName × ByteArray × Option FieldType := (⟨"TwinBucketsModel", "twinOf", "(I)I"⟩, prog_11_method_91_code, (some (.int)))
def xm_245 : MethodName × ByteArray × Option FieldType := (⟨"TwinBucketsModel", "canJoin", "(I)Z"⟩, prog_11_method_92_code, (some (.boolean)))
def xm_246 : MethodName × ByteArray × Option FieldType := (⟨"TwinBucketsModel", "joins", "(I)I"⟩, prog_11_method_93_code, (some (.int)))
def xm_247 : MethodName × ByteArray × Option FieldType := (⟨"TwinBucketsModel", "deepestOf", "()I"⟩, prog_11_method_94_code, (some (.int)))
def xm_248 : MethodName × ByteArray × Option FieldType := (⟨"TwinBucketsModel", "drops", "(I)I"⟩, prog_11_method_95_code, (some (.int)))
def xm_249 : MethodName × ByteArray × Option FieldType := (⟨"TwinBucketsModel", "deepestPage", "(I)I"⟩, prog_11_method_96_code, (some (.int)))
def xm_250 : MethodName × ByteArray × Option FieldType := (⟨"TwinBucketsModel", "builds", "(II)V"⟩, prog_11_method_97_code, none)
def xm_251 : MethodName × ByteArray × Option FieldType := (⟨"TwinBucketsModel", "loses", "(I)V"⟩, prog_11_method_98_code, none)
def xm_252 : MethodName × ByteArray × Option FieldType := (⟨"TwinBucketsModel", "keepsAside", "(I)V"⟩, prog_11_method_99_code, none)
def xm_253 : MethodName × ByteArray × Option FieldType := (⟨"TwinBucketsModel", "undo", "()I"⟩, prog_11_method_100_code, (some (.int)))
def xm_254 : MethodName × ByteArray × Option FieldType := (⟨"TwinBucketsModel", "goodOr", "(I)I"⟩, prog_11_method_101_code, (some (.int)))
def xm_255 : MethodName × ByteArray × Option FieldType := (⟨"TwinBucketsModel", "keptOr", "(II)I"⟩, prog_11_method_102_code, (some (.int)))
def xm_256 : MethodName × ByteArray × Option FieldType := (⟨"TwinBucketsModel", "putsKept", "(II)I"⟩, prog_11_method_103_code, (some (.int)))
def xm_257 : MethodName × ByteArray × Option FieldType := (⟨"TwinBucketsModel", "dropsKept", "(I)I"⟩, prog_11_method_104_code, (some (.int)))
def xm_258 : MethodName × ByteArray × Option FieldType := (⟨"TwinBucketsModel", "flushesKept", "(I)I"⟩, prog_11_method_105_code, (some (.int)))
def xm_259 : MethodName × ByteArray × Option FieldType := (⟨"TwinBucketsModel", "crashesKept", "(I)I"⟩, prog_11_method_106_code, (some (.int)))
def xm_260 : MethodName × ByteArray × Option FieldType := (⟨"TwinBucketsModel", "put", "(II)I"⟩, prog_11_method_107_code, (some (.int)))
def xm_261 : MethodName × ByteArray × Option FieldType := (⟨"TwinBucketsModel", "drop", "(I)I"⟩, prog_11_method_108_code, (some (.int)))
def xm_262 : MethodName × ByteArray × Option FieldType := (⟨"TwinBucketsModel", "flush", "(I)I"⟩, prog_11_method_109_code, (some (.int)))
def xm_263 : MethodName × ByteArray × Option FieldType := (⟨"TwinBucketsModel", "crash", "(I)I"⟩, prog_11_method_110_code, (some (.int)))
def xm_264 : MethodName × ByteArray × Option FieldType := (⟨"TwinBucketsModel", "behind", "(II)I"⟩, prog_11_method_111_code, (some (.int)))
def xm_265 : MethodName × ByteArray × Option FieldType := (⟨"TwinBucketsModel", "lost", "(I)I"⟩, prog_11_method_112_code, (some (.int)))
def xm_266 : MethodName × ByteArray × Option FieldType := (⟨"TwinBucketsModel", "torn", "(I)I"⟩, prog_11_method_113_code, (some (.int)))
def xm_267 : MethodName × ByteArray × Option FieldType := (⟨"TwinBucketsModel", "wouldSplit", "(I)Z"⟩, prog_11_method_114_code, (some (.boolean)))
def xm_268 : MethodName × ByteArray × Option FieldType := (⟨"TwinBucketsModel", "splits", "()I"⟩, prog_11_method_115_code, (some (.int)))
def xm_269 : MethodName × ByteArray × Option FieldType := (⟨"TwinBucketsModel", "room", "()I"⟩, prog_11_method_116_code, (some (.int)))
def xm_270 : MethodName × ByteArray × Option FieldType := (⟨"TwinBucketsModel", "twin", "(I)I"⟩, prog_11_method_117_code, (some (.int)))
def xm_271 : MethodName × ByteArray × Option FieldType := (⟨"TwinBucketsModel", "empties", "()V"⟩, prog_11_method_118_code, none)
def xm_272 : MethodName × ByteArray × Option FieldType := (⟨"TwinBucketsModel", "neededBy", "(I)I"⟩, prog_11_method_119_code, (some (.int)))
def xm_273 : MethodName × ByteArray × Option FieldType := (⟨"TwinBucketsModel", "salts", "(I)I"⟩, prog_11_method_120_code, (some (.int)))
def xm_274 : MethodName × ByteArray × Option FieldType := (⟨"TwinBucketsModel", "spent", "()I"⟩, prog_11_method_121_code, (some (.int)))
def xm_275 : MethodName × ByteArray × Option FieldType := (⟨"TwinBucketsModel", "seen", "(II)I"⟩, prog_11_method_122_code, (some (.int)))
def xm_276 : MethodName × ByteArray × Option FieldType := (⟨"TwinBucketsModel", "forget", "()I"⟩, prog_11_method_123_code, (some (.int)))
def xm_277 : MethodName × ByteArray × Option FieldType := (⟨"TwinBucketsModel", "isSo", "(I)Z"⟩, prog_11_method_124_code, (some (.boolean)))
def xm_278 : MethodName × ByteArray × Option FieldType := (⟨"TwinBucketsModel", "canBe", "()I"⟩, prog_11_method_125_code, (some (.int)))
def xm_279 : MethodName × ByteArray × Option FieldType := (⟨"TwinBucketsModel", "read", "(I)I"⟩, prog_11_method_126_code, (some (.int)))
def xm_280 : MethodName × ByteArray × Option FieldType := (⟨"TwinBucketsModel", "few", "(II)J"⟩, prog_11_method_127_code, (some (.long)))
def xm_281 : MethodName × ByteArray × Option FieldType := (⟨"TwinBucketsModel", "compare", "(II)I"⟩, prog_11_method_128_code, (some (.int)))
def xm_282 : MethodName × ByteArray × Option FieldType := (⟨"TwinBucketsModel", "stopped", "()I"⟩, prog_11_method_129_code, (some (.int)))
def xm_283 : MethodName × ByteArray × Option FieldType := (⟨"TwinBucketsModel", "orders", "()I"⟩, prog_11_method_130_code, (some (.int)))
def xm_284 : MethodName × ByteArray × Option FieldType := (⟨"TwinBucketsModel", "goesAlong", "(IZ)V"⟩, prog_11_method_131_code, none)
def xm_285 : MethodName × ByteArray × Option FieldType := (⟨"TwinBucketsModel", "small", "(J)I"⟩, prog_11_method_132_code, (some (.int)))
def xm_286 : MethodName × ByteArray × Option FieldType := (⟨"TwinBucketsModel", "obeys", "()I"⟩, prog_11_method_133_code, (some (.int)))
def xm_287 : MethodName × ByteArray × Option FieldType := (⟨"TwinBucketsModel", "runs", "(I)Z"⟩, prog_11_method_134_code, (some (.boolean)))
def xm_288 : MethodName × ByteArray × Option FieldType := (⟨"TwinBucketsModel", "draws", "(I)I"⟩, prog_11_method_135_code, (some (.int)))
def xm_289 : MethodName × ByteArray × Option FieldType := (⟨"TwinBucketsModel", "drawnAct", "()V"⟩, prog_11_method_136_code, none)
def xm_290 : MethodName × ByteArray × Option FieldType := (⟨"TwinBucketsModel", "years", "(II)I"⟩, prog_11_method_137_code, (some (.int)))
def xm_291 : MethodName × ByteArray × Option FieldType := (⟨"TwinBucketsModel", "drawn", "(I)I"⟩, prog_11_method_138_code, (some (.int)))
def xm_292 : MethodName × ByteArray × Option FieldType := (⟨"TwinBucketsModel", "count", "(I)I"⟩, prog_11_method_139_code, (some (.int)))
def xm_293 : MethodName × ByteArray × Option FieldType := (⟨"TwinBucketsModel", "status", "()I"⟩, prog_11_method_140_code, (some (.int)))
def xm_294 : MethodName × ByteArray × Option FieldType := (⟨"java/lang/Integer", "bitCount", "(I)I"⟩, prog_13_method_49_code, (some (.int)))
def xm_295 : MethodName × ByteArray × Option FieldType := (⟨"TwinBuckets$Pages", "setCell", "(III)V"⟩, prog_4_method_5_code, none)
def xm_296 : MethodName × ByteArray × Option FieldType := (⟨"java/util/Arrays", "fill", "([JJ)V"⟩, prog_19_method_101_code, none)
def xm_297 : MethodName × ByteArray × Option FieldType := (⟨"java/util/Arrays", "fill", "([II)V"⟩, prog_19_method_103_code, none)
def xm_298 : MethodName × ByteArray × Option FieldType := (⟨"TwinBuckets$Pages", "setKey", "(IIII)V"⟩, prog_4_method_13_code, none)
def xm_299 : MethodName × ByteArray × Option FieldType := (⟨"java/util/Arrays", "copyOf", "([II)[I"⟩, prog_19_method_123_code, (some (.array .int)))
def xm_300 : MethodName × ByteArray × Option FieldType := (⟨"TwinBuckets$Store", "ownerOf", "(I)I"⟩, prog_7_method_5_code, (some (.int)))
def xm_301 : MethodName × ByteArray × Option FieldType := (⟨"TwinBuckets$Store", "setOwner", "(II)V"⟩, prog_7_method_6_code, none)
def xm_302 : MethodName × ByteArray × Option FieldType := (x, code, ret)
def xmeta : List (MethodName × ByteArray × Option FieldType) := [xm_0, xm_1, xm_2, xm_3, xm_4, xm_5, xm_6, xm_7, xm_8, xm_9, xm_10, xm_11, xm_12, xm_13, xm_14, xm_15, xm_16, xm_17, xm_18, xm_19, xm_20, xm_21, xm_22, xm_23, xm_24, xm_25, xm_26, xm_27, xm_28, xm_29, xm_30, xm_31, xm_32, xm_33, xm_34, xm_35, xm_36, xm_37, xm_38, xm_39, xm_40, xm_41, xm_42, xm_43, xm_44, xm_45, xm_46, xm_47, xm_48, xm_49, xm_50, xm_51, xm_52, xm_53, xm_54, xm_55, xm_56, xm_57, xm_58, xm_59, xm_60, xm_61, xm_62, xm_63, xm_64, xm_65, xm_66, xm_67, xm_68, xm_69, xm_70, xm_71, xm_72, xm_73, xm_74, xm_75, xm_76, xm_77, xm_78, xm_79, xm_80, xm_81, xm_82, xm_83, xm_84, xm_85, xm_86, xm_87, xm_88, xm_89, xm_90, xm_91, xm_92, xm_93, xm_94, xm_95, xm_96, xm_97, xm_98, xm_99, xm_100, xm_101, xm_102, xm_103, xm_104, xm_105, xm_106, xm_107, xm_108, xm_109, xm_110, xm_111, xm_112, xm_113, xm_114, xm_115, xm_116, xm_117, xm_118, xm_119, xm_120, xm_121, xm_122, xm_123, xm_124, xm_125, xm_126, xm_127, xm_128, xm_129, xm_130, xm_131, xm_132, xm_133, xm_134, xm_135, xm_136, xm_137, xm_138, xm_139, xm_140, xm_141, xm_142, xm_143, xm_144, xm_145, xm_146, xm_147, xm_148, xm_149, xm_150, xm_151, xm_152, xm_153, xm_154, xm_155, xm_156, xm_157, xm_158, xm_159, xm_160, xm_161, xm_162, xm_163, xm_164, xm_165, xm_166, xm_167, xm_168, xm_169, xm_170, xm_171, xm_172, xm_173, xm_174, xm_175, xm_176, xm_177, xm_178, xm_179, xm_180, xm_181, xm_182, xm_183, xm_184, xm_185, xm_186, xm_187, xm_188, xm_189, xm_190, xm_191, xm_192, xm_193, xm_194, xm_195, xm_196, xm_197, xm_198, xm_199, xm_200, xm_201, xm_202, xm_203, xm_204, xm_205, xm_206, xm_207, xm_208, xm_209, xm_210, xm_211, xm_212, xm_213, xm_214, xm_215, xm_216, xm_217, xm_218, xm_219, xm_220, xm_221, xm_222, xm_223, xm_224, xm_225, xm_226, xm_227, xm_228, xm_229, xm_230, xm_231, xm_232, xm_233, xm_234, xm_235, xm_236, xm_237, xm_238, xm_239, xm_240, xm_241, xm_242, xm_243, xm_244, xm_245, xm_246, xm_247, xm_248, xm_249, xm_250, xm_251, xm_252, xm_253, xm_254, xm_255, xm_256, xm_257, xm_258, xm_259, xm_260, xm_261, xm_262, xm_263, xm_264, xm_265, xm_266, xm_267, xm_268, xm_269, xm_270, xm_271, xm_272, xm_273, xm_274, xm_275, xm_276, xm_277, xm_278, xm_279, xm_280, xm_281, xm_282, xm_283, xm_284, xm_285, xm_286, xm_287, xm_288, xm_289, xm_290, xm_291, xm_292, xm_293, xm_294, xm_295, xm_296, xm_297, xm_298, xm_299, xm_300, xm_301, xm_302]
