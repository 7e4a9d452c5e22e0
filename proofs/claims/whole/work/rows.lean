section
-- ===== PART A: goes FIRST, ahead of the names: the tables' words, and 'selects' of the private methods out of them =====
/-- a private method of a class that the tables say can be made, by its rows of tables_1 -/
def lw_okq (q : MethodName × Nat) : Prop := (q.1.cls ≠ "java/lang/invoke/MethodHandle" ∧ q.1.cls ≠ "java/lang/invoke/VarHandle") ∧ Cond.instantiable q.1.cls q.2 ∈ tables_1 ∧ Cond.privateMethod q.1 ∈ tables_1 ∧ Cond.instanceMethod q.1 ∈ tables_1
theorem lw_p0 : lw_okq (⟨"WheelWeeks", "makeAnew", "(LWheelWeeks$Shelf;III)I"⟩, 11) := ⟨⟨by decide +kernel, by decide +kernel⟩, List.mem_of_getElem? (i := 13) (by decide +kernel), List.mem_of_getElem? (i := 207) (by decide +kernel), List.mem_of_getElem? (i := 208) (by decide +kernel)⟩
theorem lw_p1 : lw_okq (⟨"WheelWeeks", "refuse", "(I)I"⟩, 11) := ⟨⟨by decide +kernel, by decide +kernel⟩, List.mem_of_getElem? (i := 13) (by decide +kernel), List.mem_of_getElem? (i := 215) (by decide +kernel), List.mem_of_getElem? (i := 216) (by decide +kernel)⟩
theorem lw_p2 : lw_okq (⟨"WheelWeeks", "refusePlace", "(LWheelWeeks$Shelf;II)I"⟩, 11) := ⟨⟨by decide +kernel, by decide +kernel⟩, List.mem_of_getElem? (i := 13) (by decide +kernel), List.mem_of_getElem? (i := 227) (by decide +kernel), List.mem_of_getElem? (i := 228) (by decide +kernel)⟩
theorem lw_p3 : lw_okq (⟨"WheelWeeks", "refuseMissing", "(LWheelWeeks$Shelf;I)I"⟩, 11) := ⟨⟨by decide +kernel, by decide +kernel⟩, List.mem_of_getElem? (i := 13) (by decide +kernel), List.mem_of_getElem? (i := 231) (by decide +kernel), List.mem_of_getElem? (i := 232) (by decide +kernel)⟩
theorem lw_p4 : lw_okq (⟨"WheelWeeks", "tell", "(I)I"⟩, 11) := ⟨⟨by decide +kernel, by decide +kernel⟩, List.mem_of_getElem? (i := 13) (by decide +kernel), List.mem_of_getElem? (i := 247) (by decide +kernel), List.mem_of_getElem? (i := 248) (by decide +kernel)⟩
theorem lw_p5 : lw_okq (⟨"WheelWeeks$Reader", "skipBlanks", "()V"⟩, 4) := ⟨⟨by decide +kernel, by decide +kernel⟩, List.mem_of_getElem? (i := 44) (by decide +kernel), List.mem_of_getElem? (i := 315) (by decide +kernel), List.mem_of_getElem? (i := 316) (by decide +kernel)⟩
theorem lw_p6 : lw_okq (⟨"WheelWeeks$Reader", "readRoad", "()Z"⟩, 4) := ⟨⟨by decide +kernel, by decide +kernel⟩, List.mem_of_getElem? (i := 44) (by decide +kernel), List.mem_of_getElem? (i := 319) (by decide +kernel), List.mem_of_getElem? (i := 320) (by decide +kernel)⟩
theorem lw_p7 : lw_okq (⟨"WheelWeeks$Reader", "readFigure", "(I)I"⟩, 4) := ⟨⟨by decide +kernel, by decide +kernel⟩, List.mem_of_getElem? (i := 44) (by decide +kernel), List.mem_of_getElem? (i := 323) (by decide +kernel), List.mem_of_getElem? (i := 324) (by decide +kernel)⟩
theorem lw_p8 : lw_okq (⟨"WheelWeeks$Reader", "readGate", "()Z"⟩, 4) := ⟨⟨by decide +kernel, by decide +kernel⟩, List.mem_of_getElem? (i := 44) (by decide +kernel), List.mem_of_getElem? (i := 327) (by decide +kernel), List.mem_of_getElem? (i := 328) (by decide +kernel)⟩
theorem lw_p9 : lw_okq (⟨"WheelWeeks$Reader", "readSpoke", "()Z"⟩, 4) := ⟨⟨by decide +kernel, by decide +kernel⟩, List.mem_of_getElem? (i := 44) (by decide +kernel), List.mem_of_getElem? (i := 331) (by decide +kernel), List.mem_of_getElem? (i := 332) (by decide +kernel)⟩
theorem lw_p10 : lw_okq (⟨"WheelWeeks", "doDeed", "(II)I"⟩, 11) := ⟨⟨by decide +kernel, by decide +kernel⟩, List.mem_of_getElem? (i := 13) (by decide +kernel), List.mem_of_getElem? (i := 425) (by decide +kernel), List.mem_of_getElem? (i := 426) (by decide +kernel)⟩
theorem lw_p11 : lw_okq (⟨"WheelWeeks$Wheel", "soakAll", "()I"⟩, 11) := ⟨⟨by decide +kernel, by decide +kernel⟩, List.mem_of_getElem? (i := 50) (by decide +kernel), List.mem_of_getElem? (i := 444) (by decide +kernel), List.mem_of_getElem? (i := 445) (by decide +kernel)⟩
theorem lw_p12 : lw_okq (⟨"WheelWeeks$Wheel", "turnWeather", "()I"⟩, 11) := ⟨⟨by decide +kernel, by decide +kernel⟩, List.mem_of_getElem? (i := 50) (by decide +kernel), List.mem_of_getElem? (i := 448) (by decide +kernel), List.mem_of_getElem? (i := 449) (by decide +kernel)⟩
theorem lw_p13 : lw_okq (⟨"WheelWeeks$Wheel", "knockOut", "(I)I"⟩, 11) := ⟨⟨by decide +kernel, by decide +kernel⟩, List.mem_of_getElem? (i := 50) (by decide +kernel), List.mem_of_getElem? (i := 452) (by decide +kernel), List.mem_of_getElem? (i := 453) (by decide +kernel)⟩
theorem lw_p14 : lw_okq (⟨"WheelWeeks$Wheel", "putIn", "(I)I"⟩, 11) := ⟨⟨by decide +kernel, by decide +kernel⟩, List.mem_of_getElem? (i := 50) (by decide +kernel), List.mem_of_getElem? (i := 456) (by decide +kernel), List.mem_of_getElem? (i := 457) (by decide +kernel)⟩
theorem lw_p15 : lw_okq (⟨"WheelWeeks", "tellBeside", "(I)I"⟩, 11) := ⟨⟨by decide +kernel, by decide +kernel⟩, List.mem_of_getElem? (i := 13) (by decide +kernel), List.mem_of_getElem? (i := 512) (by decide +kernel), List.mem_of_getElem? (i := 513) (by decide +kernel)⟩
def lw_privs_1 : List (MethodName × Nat) := [(⟨"WheelWeeks", "makeAnew", "(LWheelWeeks$Shelf;III)I"⟩, 11), (⟨"WheelWeeks", "refuse", "(I)I"⟩, 11), (⟨"WheelWeeks", "refusePlace", "(LWheelWeeks$Shelf;II)I"⟩, 11), (⟨"WheelWeeks", "refuseMissing", "(LWheelWeeks$Shelf;I)I"⟩, 11), (⟨"WheelWeeks", "tell", "(I)I"⟩, 11), (⟨"WheelWeeks$Reader", "skipBlanks", "()V"⟩, 4), (⟨"WheelWeeks$Reader", "readRoad", "()Z"⟩, 4), (⟨"WheelWeeks$Reader", "readFigure", "(I)I"⟩, 4), (⟨"WheelWeeks$Reader", "readGate", "()Z"⟩, 4), (⟨"WheelWeeks$Reader", "readSpoke", "()Z"⟩, 4), (⟨"WheelWeeks", "doDeed", "(II)I"⟩, 11), (⟨"WheelWeeks$Wheel", "soakAll", "()I"⟩, 11), (⟨"WheelWeeks$Wheel", "turnWeather", "()I"⟩, 11), (⟨"WheelWeeks$Wheel", "knockOut", "(I)I"⟩, 11), (⟨"WheelWeeks$Wheel", "putIn", "(I)I"⟩, 11), (⟨"WheelWeeks", "tellBeside", "(I)I"⟩, 11)]
theorem lw_r1 : ∀ q ∈ lw_privs_1, lw_okq q := List.forall_mem_cons.mpr ⟨lw_p0, List.forall_mem_cons.mpr ⟨lw_p1, List.forall_mem_cons.mpr ⟨lw_p2, List.forall_mem_cons.mpr ⟨lw_p3, List.forall_mem_cons.mpr ⟨lw_p4, List.forall_mem_cons.mpr ⟨lw_p5, List.forall_mem_cons.mpr ⟨lw_p6, List.forall_mem_cons.mpr ⟨lw_p7, List.forall_mem_cons.mpr ⟨lw_p8, List.forall_mem_cons.mpr ⟨lw_p9, List.forall_mem_cons.mpr ⟨lw_p10, List.forall_mem_cons.mpr ⟨lw_p11, List.forall_mem_cons.mpr ⟨lw_p12, List.forall_mem_cons.mpr ⟨lw_p13, List.forall_mem_cons.mpr ⟨lw_p14, List.forall_mem_cons.mpr ⟨lw_p15, fun _ h => absurd h List.not_mem_nil⟩⟩⟩⟩⟩⟩⟩⟩⟩⟩⟩⟩⟩⟩⟩⟩
theorem lw_p16 : lw_okq (⟨"WheelWeeks$Aside", "reachesGateWith", "(I)Z"⟩, 3) := ⟨⟨by decide +kernel, by decide +kernel⟩, List.mem_of_getElem? (i := 150) (by decide +kernel), List.mem_of_getElem? (i := 549) (by decide +kernel), List.mem_of_getElem? (i := 550) (by decide +kernel)⟩
theorem lw_p17 : lw_okq (⟨"WheelWeeks", "refuseLimps", "(I)I"⟩, 11) := ⟨⟨by decide +kernel, by decide +kernel⟩, List.mem_of_getElem? (i := 13) (by decide +kernel), List.mem_of_getElem? (i := 592) (by decide +kernel), List.mem_of_getElem? (i := 593) (by decide +kernel)⟩
theorem lw_p18 : lw_okq (⟨"WheelWeeks", "refuseGuess", "(II)I"⟩, 11) := ⟨⟨by decide +kernel, by decide +kernel⟩, List.mem_of_getElem? (i := 13) (by decide +kernel), List.mem_of_getElem? (i := 612) (by decide +kernel), List.mem_of_getElem? (i := 613) (by decide +kernel)⟩
theorem lw_p19 : lw_okq (⟨"WheelWeeks$Aside", "kindsBearing", "(II)I"⟩, 3) := ⟨⟨by decide +kernel, by decide +kernel⟩, List.mem_of_getElem? (i := 150) (by decide +kernel), List.mem_of_getElem? (i := 636) (by decide +kernel), List.mem_of_getElem? (i := 637) (by decide +kernel)⟩
theorem lw_p20 : lw_okq (⟨"WheelWeeks$Aside", "limpsWith", "(II)I"⟩, 3) := ⟨⟨by decide +kernel, by decide +kernel⟩, List.mem_of_getElem? (i := 150) (by decide +kernel), List.mem_of_getElem? (i := 650) (by decide +kernel), List.mem_of_getElem? (i := 651) (by decide +kernel)⟩
theorem lw_p21 : lw_okq (⟨"WheelWeeks$Aside", "waysToLose", "(II)J"⟩, 3) := ⟨⟨by decide +kernel, by decide +kernel⟩, List.mem_of_getElem? (i := 150) (by decide +kernel), List.mem_of_getElem? (i := 664) (by decide +kernel), List.mem_of_getElem? (i := 665) (by decide +kernel)⟩
theorem lw_p22 : lw_okq (⟨"WheelWeeks", "tellShare", "(J)I"⟩, 11) := ⟨⟨by decide +kernel, by decide +kernel⟩, List.mem_of_getElem? (i := 13) (by decide +kernel), List.mem_of_getElem? (i := 671) (by decide +kernel), List.mem_of_getElem? (i := 672) (by decide +kernel)⟩
theorem lw_p23 : lw_okq (⟨"WheelWeeks", "doLot", "(J)V"⟩, 11) := ⟨⟨by decide +kernel, by decide +kernel⟩, List.mem_of_getElem? (i := 13) (by decide +kernel), List.mem_of_getElem? (i := 695) (by decide +kernel), List.mem_of_getElem? (i := 696) (by decide +kernel)⟩
theorem lw_p24 : lw_okq (⟨"WheelWeeks", "counted", "(I)I"⟩, 11) := ⟨⟨by decide +kernel, by decide +kernel⟩, List.mem_of_getElem? (i := 13) (by decide +kernel), List.mem_of_getElem? (i := 717) (by decide +kernel), List.mem_of_getElem? (i := 718) (by decide +kernel)⟩
theorem lw_p25 : lw_okq (⟨"WheelWeeks", "keptOnes", "()I"⟩, 11) := ⟨⟨by decide +kernel, by decide +kernel⟩, List.mem_of_getElem? (i := 13) (by decide +kernel), List.mem_of_getElem? (i := 725) (by decide +kernel), List.mem_of_getElem? (i := 726) (by decide +kernel)⟩
theorem lw_p26 : lw_okq (⟨"WheelWeeksModel", "meets", "(I)I"⟩, 34) := ⟨⟨by decide +kernel, by decide +kernel⟩, List.mem_of_getElem? (i := 763) (by decide +kernel), List.mem_of_getElem? (i := 904) (by decide +kernel), List.mem_of_getElem? (i := 905) (by decide +kernel)⟩
theorem lw_p27 : lw_okq (⟨"WheelWeeksModel", "rowAt", "(II)I"⟩, 34) := ⟨⟨by decide +kernel, by decide +kernel⟩, List.mem_of_getElem? (i := 763) (by decide +kernel), List.mem_of_getElem? (i := 912) (by decide +kernel), List.mem_of_getElem? (i := 913) (by decide +kernel)⟩
theorem lw_p28 : lw_okq (⟨"WheelWeeksModel", "tells", "(II)I"⟩, 34) := ⟨⟨by decide +kernel, by decide +kernel⟩, List.mem_of_getElem? (i := 763) (by decide +kernel), List.mem_of_getElem? (i := 916) (by decide +kernel), List.mem_of_getElem? (i := 917) (by decide +kernel)⟩
theorem lw_p29 : lw_okq (⟨"WheelWeeksModel", "faultOf", "(I)I"⟩, 34) := ⟨⟨by decide +kernel, by decide +kernel⟩, List.mem_of_getElem? (i := 763) (by decide +kernel), List.mem_of_getElem? (i := 951) (by decide +kernel), List.mem_of_getElem? (i := 952) (by decide +kernel)⟩
theorem lw_p30 : lw_okq (⟨"WheelWeeksModel", "letterAt", "(II)I"⟩, 34) := ⟨⟨by decide +kernel, by decide +kernel⟩, List.mem_of_getElem? (i := 763) (by decide +kernel), List.mem_of_getElem? (i := 955) (by decide +kernel), List.mem_of_getElem? (i := 956) (by decide +kernel)⟩
theorem lw_p31 : lw_okq (⟨"WheelWeeksModel", "readsSpoke", "(I)Z"⟩, 34) := ⟨⟨by decide +kernel, by decide +kernel⟩, List.mem_of_getElem? (i := 763) (by decide +kernel), List.mem_of_getElem? (i := 959) (by decide +kernel), List.mem_of_getElem? (i := 960) (by decide +kernel)⟩
def lw_privs_2 : List (MethodName × Nat) := [(⟨"WheelWeeks$Aside", "reachesGateWith", "(I)Z"⟩, 3), (⟨"WheelWeeks", "refuseLimps", "(I)I"⟩, 11), (⟨"WheelWeeks", "refuseGuess", "(II)I"⟩, 11), (⟨"WheelWeeks$Aside", "kindsBearing", "(II)I"⟩, 3), (⟨"WheelWeeks$Aside", "limpsWith", "(II)I"⟩, 3), (⟨"WheelWeeks$Aside", "waysToLose", "(II)J"⟩, 3), (⟨"WheelWeeks", "tellShare", "(J)I"⟩, 11), (⟨"WheelWeeks", "doLot", "(J)V"⟩, 11), (⟨"WheelWeeks", "counted", "(I)I"⟩, 11), (⟨"WheelWeeks", "keptOnes", "()I"⟩, 11), (⟨"WheelWeeksModel", "meets", "(I)I"⟩, 34), (⟨"WheelWeeksModel", "rowAt", "(II)I"⟩, 34), (⟨"WheelWeeksModel", "tells", "(II)I"⟩, 34), (⟨"WheelWeeksModel", "faultOf", "(I)I"⟩, 34), (⟨"WheelWeeksModel", "letterAt", "(II)I"⟩, 34), (⟨"WheelWeeksModel", "readsSpoke", "(I)Z"⟩, 34)]
theorem lw_r2 : ∀ q ∈ lw_privs_2, lw_okq q := List.forall_mem_cons.mpr ⟨lw_p16, List.forall_mem_cons.mpr ⟨lw_p17, List.forall_mem_cons.mpr ⟨lw_p18, List.forall_mem_cons.mpr ⟨lw_p19, List.forall_mem_cons.mpr ⟨lw_p20, List.forall_mem_cons.mpr ⟨lw_p21, List.forall_mem_cons.mpr ⟨lw_p22, List.forall_mem_cons.mpr ⟨lw_p23, List.forall_mem_cons.mpr ⟨lw_p24, List.forall_mem_cons.mpr ⟨lw_p25, List.forall_mem_cons.mpr ⟨lw_p26, List.forall_mem_cons.mpr ⟨lw_p27, List.forall_mem_cons.mpr ⟨lw_p28, List.forall_mem_cons.mpr ⟨lw_p29, List.forall_mem_cons.mpr ⟨lw_p30, List.forall_mem_cons.mpr ⟨lw_p31, fun _ h => absurd h List.not_mem_nil⟩⟩⟩⟩⟩⟩⟩⟩⟩⟩⟩⟩⟩⟩⟩⟩
theorem lw_p32 : lw_okq (⟨"WheelWeeksModel", "reads", "(II)I"⟩, 34) := ⟨⟨by decide +kernel, by decide +kernel⟩, List.mem_of_getElem? (i := 763) (by decide +kernel), List.mem_of_getElem? (i := 966) (by decide +kernel), List.mem_of_getElem? (i := 967) (by decide +kernel)⟩
theorem lw_p33 : lw_okq (⟨"WheelWeeksModel", "readsRoad", "(I)Z"⟩, 34) := ⟨⟨by decide +kernel, by decide +kernel⟩, List.mem_of_getElem? (i := 763) (by decide +kernel), List.mem_of_getElem? (i := 970) (by decide +kernel), List.mem_of_getElem? (i := 971) (by decide +kernel)⟩
theorem lw_p34 : lw_okq (⟨"WheelWeeksModel", "isSpoke", "(I)Z"⟩, 34) := ⟨⟨by decide +kernel, by decide +kernel⟩, List.mem_of_getElem? (i := 763) (by decide +kernel), List.mem_of_getElem? (i := 982) (by decide +kernel), List.mem_of_getElem? (i := 983) (by decide +kernel)⟩
theorem lw_p35 : lw_okq (⟨"WheelWeeksModel", "spokeTells", "(II)I"⟩, 34) := ⟨⟨by decide +kernel, by decide +kernel⟩, List.mem_of_getElem? (i := 763) (by decide +kernel), List.mem_of_getElem? (i := 986) (by decide +kernel), List.mem_of_getElem? (i := 987) (by decide +kernel)⟩
theorem lw_p36 : lw_okq (⟨"WheelWeeksModel", "depth", "(I)I"⟩, 34) := ⟨⟨by decide +kernel, by decide +kernel⟩, List.mem_of_getElem? (i := 763) (by decide +kernel), List.mem_of_getElem? (i := 990) (by decide +kernel), List.mem_of_getElem? (i := 991) (by decide +kernel)⟩
theorem lw_p37 : lw_okq (⟨"WheelWeeksModel", "bearsOn", "([III)I"⟩, 34) := ⟨⟨by decide +kernel, by decide +kernel⟩, List.mem_of_getElem? (i := 763) (by decide +kernel), List.mem_of_getElem? (i := 994) (by decide +kernel), List.mem_of_getElem? (i := 995) (by decide +kernel)⟩
theorem lw_p38 : lw_okq (⟨"WheelWeeksModel", "alike", "(II)I"⟩, 34) := ⟨⟨by decide +kernel, by decide +kernel⟩, List.mem_of_getElem? (i := 763) (by decide +kernel), List.mem_of_getElem? (i := 1011) (by decide +kernel), List.mem_of_getElem? (i := 1012) (by decide +kernel)⟩
theorem lw_p39 : lw_okq (⟨"WheelWeeksModel", "isOver", "([I)Z"⟩, 34) := ⟨⟨by decide +kernel, by decide +kernel⟩, List.mem_of_getElem? (i := 763) (by decide +kernel), List.mem_of_getElem? (i := 1023) (by decide +kernel), List.mem_of_getElem? (i := 1024) (by decide +kernel)⟩
theorem lw_p40 : lw_okq (⟨"WheelWeeksModel", "remember", "()V"⟩, 34) := ⟨⟨by decide +kernel, by decide +kernel⟩, List.mem_of_getElem? (i := 763) (by decide +kernel), List.mem_of_getElem? (i := 1030) (by decide +kernel), List.mem_of_getElem? (i := 1031) (by decide +kernel)⟩
theorem lw_p41 : lw_okq (⟨"WheelWeeksModel", "steps", "([I)Z"⟩, 34) := ⟨⟨by decide +kernel, by decide +kernel⟩, List.mem_of_getElem? (i := 763) (by decide +kernel), List.mem_of_getElem? (i := 1034) (by decide +kernel), List.mem_of_getElem? (i := 1035) (by decide +kernel)⟩
theorem lw_p42 : lw_okq (⟨"WheelWeeksModel", "need", "()I"⟩, 34) := ⟨⟨by decide +kernel, by decide +kernel⟩, List.mem_of_getElem? (i := 763) (by decide +kernel), List.mem_of_getElem? (i := 1042) (by decide +kernel), List.mem_of_getElem? (i := 1043) (by decide +kernel)⟩
theorem lw_p43 : lw_okq (⟨"WheelWeeksModel", "copyNow", "()V"⟩, 34) := ⟨⟨by decide +kernel, by decide +kernel⟩, List.mem_of_getElem? (i := 763) (by decide +kernel), List.mem_of_getElem? (i := 1080) (by decide +kernel), List.mem_of_getElem? (i := 1081) (by decide +kernel)⟩
theorem lw_p44 : lw_okq (⟨"WheelWeeksModel", "limpsIn", "(IZ)I"⟩, 34) := ⟨⟨by decide +kernel, by decide +kernel⟩, List.mem_of_getElem? (i := 763) (by decide +kernel), List.mem_of_getElem? (i := 1084) (by decide +kernel), List.mem_of_getElem? (i := 1085) (by decide +kernel)⟩
theorem lw_p45 : lw_okq (⟨"WheelWeeksModel", "all", "()I"⟩, 34) := ⟨⟨by decide +kernel, by decide +kernel⟩, List.mem_of_getElem? (i := 763) (by decide +kernel), List.mem_of_getElem? (i := 1092) (by decide +kernel), List.mem_of_getElem? (i := 1093) (by decide +kernel)⟩
theorem lw_p46 : lw_okq (⟨"WheelWeeksModel", "comes", "()Z"⟩, 34) := ⟨⟨by decide +kernel, by decide +kernel⟩, List.mem_of_getElem? (i := 763) (by decide +kernel), List.mem_of_getElem? (i := 1108) (by decide +kernel), List.mem_of_getElem? (i := 1109) (by decide +kernel)⟩
theorem lw_p47 : lw_okq (⟨"WheelWeeksModel", "changes", "(II)V"⟩, 34) := ⟨⟨by decide +kernel, by decide +kernel⟩, List.mem_of_getElem? (i := 763) (by decide +kernel), List.mem_of_getElem? (i := 1124) (by decide +kernel), List.mem_of_getElem? (i := 1125) (by decide +kernel)⟩
def lw_privs_3 : List (MethodName × Nat) := [(⟨"WheelWeeksModel", "reads", "(II)I"⟩, 34), (⟨"WheelWeeksModel", "readsRoad", "(I)Z"⟩, 34), (⟨"WheelWeeksModel", "isSpoke", "(I)Z"⟩, 34), (⟨"WheelWeeksModel", "spokeTells", "(II)I"⟩, 34), (⟨"WheelWeeksModel", "depth", "(I)I"⟩, 34), (⟨"WheelWeeksModel", "bearsOn", "([III)I"⟩, 34), (⟨"WheelWeeksModel", "alike", "(II)I"⟩, 34), (⟨"WheelWeeksModel", "isOver", "([I)Z"⟩, 34), (⟨"WheelWeeksModel", "remember", "()V"⟩, 34), (⟨"WheelWeeksModel", "steps", "([I)Z"⟩, 34), (⟨"WheelWeeksModel", "need", "()I"⟩, 34), (⟨"WheelWeeksModel", "copyNow", "()V"⟩, 34), (⟨"WheelWeeksModel", "limpsIn", "(IZ)I"⟩, 34), (⟨"WheelWeeksModel", "all", "()I"⟩, 34), (⟨"WheelWeeksModel", "comes", "()Z"⟩, 34), (⟨"WheelWeeksModel", "changes", "(II)V"⟩, 34)]
theorem lw_r3 : ∀ q ∈ lw_privs_3, lw_okq q := List.forall_mem_cons.mpr ⟨lw_p32, List.forall_mem_cons.mpr ⟨lw_p33, List.forall_mem_cons.mpr ⟨lw_p34, List.forall_mem_cons.mpr ⟨lw_p35, List.forall_mem_cons.mpr ⟨lw_p36, List.forall_mem_cons.mpr ⟨lw_p37, List.forall_mem_cons.mpr ⟨lw_p38, List.forall_mem_cons.mpr ⟨lw_p39, List.forall_mem_cons.mpr ⟨lw_p40, List.forall_mem_cons.mpr ⟨lw_p41, List.forall_mem_cons.mpr ⟨lw_p42, List.forall_mem_cons.mpr ⟨lw_p43, List.forall_mem_cons.mpr ⟨lw_p44, List.forall_mem_cons.mpr ⟨lw_p45, List.forall_mem_cons.mpr ⟨lw_p46, List.forall_mem_cons.mpr ⟨lw_p47, fun _ h => absurd h List.not_mem_nil⟩⟩⟩⟩⟩⟩⟩⟩⟩⟩⟩⟩⟩⟩⟩⟩
theorem lw_p48 : lw_okq (⟨"WheelWeeksModel", "needLimps", "(I)I"⟩, 34) := ⟨⟨by decide +kernel, by decide +kernel⟩, List.mem_of_getElem? (i := 763) (by decide +kernel), List.mem_of_getElem? (i := 1132) (by decide +kernel), List.mem_of_getElem? (i := 1133) (by decide +kernel)⟩
theorem lw_p49 : lw_okq (⟨"WheelWeeksModel", "isSo", "(I)Z"⟩, 34) := ⟨⟨by decide +kernel, by decide +kernel⟩, List.mem_of_getElem? (i := 763) (by decide +kernel), List.mem_of_getElem? (i := 1136) (by decide +kernel), List.mem_of_getElem? (i := 1137) (by decide +kernel)⟩
theorem lw_p50 : lw_okq (⟨"WheelWeeksModel", "isMoved", "(II)Z"⟩, 34) := ⟨⟨by decide +kernel, by decide +kernel⟩, List.mem_of_getElem? (i := 763) (by decide +kernel), List.mem_of_getElem? (i := 1156) (by decide +kernel), List.mem_of_getElem? (i := 1157) (by decide +kernel)⟩
theorem lw_p51 : lw_okq (⟨"WheelWeeksModel", "layParts", "(I)V"⟩, 34) := ⟨⟨by decide +kernel, by decide +kernel⟩, List.mem_of_getElem? (i := 763) (by decide +kernel), List.mem_of_getElem? (i := 1164) (by decide +kernel), List.mem_of_getElem? (i := 1165) (by decide +kernel)⟩
theorem lw_p52 : lw_okq (⟨"WheelWeeksModel", "lowest", "(JJ)I"⟩, 34) := ⟨⟨by decide +kernel, by decide +kernel⟩, List.mem_of_getElem? (i := 763) (by decide +kernel), List.mem_of_getElem? (i := 1169) (by decide +kernel), List.mem_of_getElem? (i := 1170) (by decide +kernel)⟩
theorem lw_p53 : lw_okq (⟨"WheelWeeksModel", "counted", "(I)I"⟩, 34) := ⟨⟨by decide +kernel, by decide +kernel⟩, List.mem_of_getElem? (i := 763) (by decide +kernel), List.mem_of_getElem? (i := 1190) (by decide +kernel), List.mem_of_getElem? (i := 1191) (by decide +kernel)⟩
theorem lw_p54 : lw_okq (⟨"WheelWeeksModel", "adds", "(J)V"⟩, 34) := ⟨⟨by decide +kernel, by decide +kernel⟩, List.mem_of_getElem? (i := 763) (by decide +kernel), List.mem_of_getElem? (i := 1199) (by decide +kernel), List.mem_of_getElem? (i := 1200) (by decide +kernel)⟩
def lw_privs_4 : List (MethodName × Nat) := [(⟨"WheelWeeksModel", "needLimps", "(I)I"⟩, 34), (⟨"WheelWeeksModel", "isSo", "(I)Z"⟩, 34), (⟨"WheelWeeksModel", "isMoved", "(II)Z"⟩, 34), (⟨"WheelWeeksModel", "layParts", "(I)V"⟩, 34), (⟨"WheelWeeksModel", "lowest", "(JJ)I"⟩, 34), (⟨"WheelWeeksModel", "counted", "(I)I"⟩, 34), (⟨"WheelWeeksModel", "adds", "(J)V"⟩, 34)]
theorem lw_r4 : ∀ q ∈ lw_privs_4, lw_okq q := List.forall_mem_cons.mpr ⟨lw_p48, List.forall_mem_cons.mpr ⟨lw_p49, List.forall_mem_cons.mpr ⟨lw_p50, List.forall_mem_cons.mpr ⟨lw_p51, List.forall_mem_cons.mpr ⟨lw_p52, List.forall_mem_cons.mpr ⟨lw_p53, List.forall_mem_cons.mpr ⟨lw_p54, fun _ h => absurd h List.not_mem_nil⟩⟩⟩⟩⟩⟩⟩
def lw_privs : List (MethodName × Nat) := lw_privs_1 ++ (lw_privs_2 ++ (lw_privs_3 ++ (lw_privs_4)))
def lw_tbl : List Cond := k2_sels lw_privs ++ tables_1
theorem lw_privs_ok : ∀ q ∈ lw_privs, lw_okq q := by
  show ∀ q ∈ lw_privs_1 ++ (lw_privs_2 ++ (lw_privs_3 ++ (lw_privs_4))), lw_okq q
  exact List.forall_mem_append.mpr ⟨lw_r1, List.forall_mem_append.mpr ⟨lw_r2, List.forall_mem_append.mpr ⟨lw_r3, lw_r4⟩⟩⟩
end
section
def RX0 : String := "WheelWeeks$Aside"
def TX0 : u_T := fun k => match k with
  | 0 => ("WheelWeeks$Aside", "found", "I", false)
  | 1 => ("WheelWeeks$Aside", "now", "LWheelWeeks$Wheel;", true)
  | _ => ("WheelWeeks$Aside", "trial", "LWheelWeeks$Wheel;", true)
def tyX0 : Nat → FieldType := fun k => match k with
  | 0 => .int
  | 1 => .object "WheelWeeks$Wheel"
  | _ => .object "WheelWeeks$Wheel"
abbrev wsX00 : List Cond := u_ws RX0 TX0 3
theorem nmX0 : ∀ a, a < 3 → ∀ b, b < 3 → a ≠ b → (TX0 a).2.1 ≠ (TX0 b).2.1 := by decide +kernel
theorem tyX0_ok : ∀ k, k < 3 → parseFieldDescriptor (TX0 k).2.2.1 = some (tyX0 k) := by decide +kernel
abbrev cX0_init : ByteArray := prog_2_method_1_code
def yX0_init : MethodName := ⟨RX0, "<init>", "(LWheelWeeks$Wheel;)V"⟩
abbrev cX0_rutBehind : ByteArray := prog_2_method_2_code
def yX0_rutBehind : MethodName := ⟨RX0, "rutBehind", "(I)I"⟩
abbrev cX0_rutOver : ByteArray := prog_2_method_3_code
def yX0_rutOver : MethodName := ⟨RX0, "rutOver", "()I"⟩
abbrev cX0_writeLimps : ByteArray := prog_2_method_4_code
def yX0_writeLimps : MethodName := ⟨RX0, "writeLimps", "([II)I"⟩
abbrev cX0_fewestToGate : ByteArray := prog_2_method_5_code
def yX0_fewestToGate : MethodName := ⟨RX0, "fewestToGate", "()I"⟩
abbrev cX0_reachesGateWith : ByteArray := prog_2_method_6_code
def yX0_reachesGateWith : MethodName := ⟨RX0, "reachesGateWith", "(I)Z"⟩
abbrev cX0_bestStand : ByteArray := prog_2_method_7_code
def yX0_bestStand : MethodName := ⟨RX0, "bestStand", "()I"⟩
abbrev cX0_bestChange : ByteArray := prog_2_method_8_code
def yX0_bestChange : MethodName := ⟨RX0, "bestChange", "()I"⟩
abbrev cX0_goneSets : ByteArray := prog_2_method_9_code
def yX0_goneSets : MethodName := ⟨RX0, "goneSets", "([II)I"⟩
abbrev cX0_likelyStrengths : ByteArray := prog_2_method_10_code
def yX0_likelyStrengths : MethodName := ⟨RX0, "likelyStrengths", "(I[II)I"⟩
abbrev cX0_likelyKinds : ByteArray := prog_2_method_11_code
def yX0_likelyKinds : MethodName := ⟨RX0, "likelyKinds", "(I[II)I"⟩
abbrev cX0_bestDepth : ByteArray := prog_2_method_12_code
def yX0_bestDepth : MethodName := ⟨RX0, "bestDepth", "(I)I"⟩
abbrev cX0_kindsBearing : ByteArray := prog_2_method_13_code
def yX0_kindsBearing : MethodName := ⟨RX0, "kindsBearing", "(II)I"⟩
abbrev cX0_fight : ByteArray := prog_2_method_14_code
def yX0_fight : MethodName := ⟨RX0, "fight", "(IZIIII)I"⟩
abbrev cX0_limpsWith : ByteArray := prog_2_method_15_code
def yX0_limpsWith : MethodName := ⟨RX0, "limpsWith", "(II)I"⟩
abbrev cX0_waysUpTo : ByteArray := prog_2_method_16_code
def yX0_waysUpTo : MethodName := ⟨RX0, "waysUpTo", "(II)J"⟩
abbrev cX0_limpsOverWays : ByteArray := prog_2_method_17_code
def yX0_limpsOverWays : MethodName := ⟨RX0, "limpsOverWays", "(I)J"⟩
abbrev cX0_waysToLose : ByteArray := prog_2_method_18_code
def yX0_waysToLose : MethodName := ⟨RX0, "waysToLose", "(II)J"⟩
def RX1 : String := "WheelWeeks$Cart"
def TX1 : u_T := fun k => match k with
  | 0 => ("WheelWeeks$Cart", "wheel", "LWheelWeeks$Wheel;", true)
  | 1 => ("WheelWeeks$Cart", "deeds", "[I", true)
  | 2 => ("WheelWeeks$Cart", "doneTo", "[I", true)
  | _ => ("WheelWeeks$Cart", "done", "I", false)
def tyX1 : Nat → FieldType := fun k => match k with
  | 0 => .object "WheelWeeks$Wheel"
  | 1 => .array .int
  | 2 => .array .int
  | _ => .int
abbrev wsX10 : List Cond := u_ws RX1 TX1 4
theorem nmX1 : ∀ a, a < 4 → ∀ b, b < 4 → a ≠ b → (TX1 a).2.1 ≠ (TX1 b).2.1 := by decide +kernel
theorem tyX1_ok : ∀ k, k < 4 → parseFieldDescriptor (TX1 k).2.2.1 = some (tyX1 k) := by decide +kernel
abbrev cX1_init : ByteArray := prog_3_method_1_code
def yX1_init : MethodName := ⟨RX1, "<init>", "()V"⟩
abbrev cX1_begin : ByteArray := prog_3_method_2_code
def yX1_begin : MethodName := ⟨RX1, "begin", "(LWheelWeeks$Wheel;)V"⟩
abbrev cX1_take : ByteArray := prog_3_method_3_code
def yX1_take : MethodName := ⟨RX1, "take", "(LWheelWeeks$Cart;)V"⟩
abbrev cX1_add : ByteArray := prog_3_method_4_code
def yX1_add : MethodName := ⟨RX1, "add", "(II)I"⟩
abbrev cX1_goBack : ByteArray := prog_3_method_5_code
def yX1_goBack : MethodName := ⟨RX1, "goBack", "(I)V"⟩
def RX2 : String := "WheelWeeks$Reader"
def TX2 : u_T := fun k => match k with
  | 0 => ("WheelWeeks$Reader", "draft", "LWheelWeeks$Wheel;", true)
  | 1 => ("WheelWeeks$Reader", "signs", "[I", true)
  | 2 => ("WheelWeeks$Reader", "size", "I", false)
  | _ => ("WheelWeeks$Reader", "place", "I", false)
def tyX2 : Nat → FieldType := fun k => match k with
  | 0 => .object "WheelWeeks$Wheel"
  | 1 => .array .int
  | 2 => .int
  | _ => .int
abbrev wsX20 : List Cond := u_ws RX2 TX2 4
theorem nmX2 : ∀ a, a < 4 → ∀ b, b < 4 → a ≠ b → (TX2 a).2.1 ≠ (TX2 b).2.1 := by decide +kernel
theorem tyX2_ok : ∀ k, k < 4 → parseFieldDescriptor (TX2 k).2.2.1 = some (tyX2 k) := by decide +kernel
abbrev cX2_init : ByteArray := prog_4_method_1_code
def yX2_init : MethodName := ⟨RX2, "<init>", "()V"⟩
abbrev cX2_read : ByteArray := prog_4_method_2_code
def yX2_read : MethodName := ⟨RX2, "read", "([II)I"⟩
abbrev cX2_skipBlanks : ByteArray := prog_4_method_3_code
def yX2_skipBlanks : MethodName := ⟨RX2, "skipBlanks", "()V"⟩
abbrev cX2_readRoad : ByteArray := prog_4_method_4_code
def yX2_readRoad : MethodName := ⟨RX2, "readRoad", "()Z"⟩
abbrev cX2_readGate : ByteArray := prog_4_method_5_code
def yX2_readGate : MethodName := ⟨RX2, "readGate", "()Z"⟩
abbrev cX2_readSpoke : ByteArray := prog_4_method_6_code
def yX2_readSpoke : MethodName := ⟨RX2, "readSpoke", "()Z"⟩
abbrev cX2_readFigure : ByteArray := prog_4_method_7_code
def yX2_readFigure : MethodName := ⟨RX2, "readFigure", "(I)I"⟩
abbrev cX2_kindOf : ByteArray := prog_4_method_8_code
def yX2_kindOf : MethodName := ⟨RX2, "kindOf", "(I)I"⟩
def RX3 : String := "WheelWeeks$Shelf"
def TX3 : u_T := fun k => match k with
  | 0 => ("WheelWeeks$Shelf", "most", "I", true)
  | 1 => ("WheelWeeks$Shelf", "places", "[[I", true)
  | _ => ("WheelWeeks$Shelf", "sizes", "[I", true)
def tyX3 : Nat → FieldType := fun k => match k with
  | 0 => .int
  | 1 => .array (.array .int)
  | _ => .array .int
abbrev wsX30 : List Cond := u_ws RX3 TX3 3
theorem nmX3 : ∀ a, a < 3 → ∀ b, b < 3 → a ≠ b → (TX3 a).2.1 ≠ (TX3 b).2.1 := by decide +kernel
theorem tyX3_ok : ∀ k, k < 3 → parseFieldDescriptor (TX3 k).2.2.1 = some (tyX3 k) := by decide +kernel
abbrev cX3_init : ByteArray := prog_5_method_1_code
def yX3_init : MethodName := ⟨RX3, "<init>", "(II)V"⟩
abbrev cX3_isNumber : ByteArray := prog_5_method_2_code
def yX3_isNumber : MethodName := ⟨RX3, "isNumber", "(I)Z"⟩
abbrev cX3_isMissing : ByteArray := prog_5_method_3_code
def yX3_isMissing : MethodName := ⟨RX3, "isMissing", "(I)Z"⟩
abbrev cX3_isPlace : ByteArray := prog_5_method_4_code
def yX3_isPlace : MethodName := ⟨RX3, "isPlace", "(II)Z"⟩
abbrev cX3_hasPart : ByteArray := prog_5_method_5_code
def yX3_hasPart : MethodName := ⟨RX3, "hasPart", "(III)Z"⟩
abbrev cX3_holdsBits : ByteArray := prog_5_method_6_code
def yX3_holdsBits : MethodName := ⟨RX3, "holdsBits", "(I)Z"⟩
abbrev cX3_sizeOf : ByteArray := prog_5_method_7_code
def yX3_sizeOf : MethodName := ⟨RX3, "sizeOf", "(I)I"⟩
abbrev cX3_placesOf : ByteArray := prog_5_method_8_code
def yX3_placesOf : MethodName := ⟨RX3, "placesOf", "(I)[I"⟩
abbrev cX3_get : ByteArray := prog_5_method_9_code
def yX3_get : MethodName := ⟨RX3, "get", "(II)I"⟩
abbrev cX3_set : ByteArray := prog_5_method_10_code
def yX3_set : MethodName := ⟨RX3, "set", "(III)I"⟩
abbrev cX3_makeOne : ByteArray := prog_5_method_11_code
def yX3_makeOne : MethodName := ⟨RX3, "makeOne", "(III)V"⟩
abbrev cX3_drop : ByteArray := prog_5_method_12_code
def yX3_drop : MethodName := ⟨RX3, "drop", "(I)V"⟩
abbrev cX3_move : ByteArray := prog_5_method_13_code
def yX3_move : MethodName := ⟨RX3, "move", "(IIIII)V"⟩
abbrev cX3_sum : ByteArray := prog_5_method_14_code
def yX3_sum : MethodName := ⟨RX3, "sum", "(I)J"⟩
abbrev cX3_howMany : ByteArray := prog_5_method_15_code
def yX3_howMany : MethodName := ⟨RX3, "howMany", "()I"⟩
abbrev cX3_mix : ByteArray := prog_5_method_16_code
def yX3_mix : MethodName := ⟨RX3, "mix", "(J)J"⟩
def RX4 : String := "WheelWeeks$Wheel"
def TX4 : u_T := fun k => match k with
  | 0 => ("WheelWeeks$Wheel", "depths", "[I", true)
  | 1 => ("WheelWeeks$Wheel", "kind", "[I", true)
  | 2 => ("WheelWeeks$Wheel", "length", "[I", true)
  | 3 => ("WheelWeeks$Wheel", "strong", "[I", true)
  | 4 => ("WheelWeeks$Wheel", "wear", "[I", true)
  | 5 => ("WheelWeeks$Wheel", "spokes", "I", false)
  | 6 => ("WheelWeeks$Wheel", "gateRut", "I", false)
  | 7 => ("WheelWeeks$Wheel", "stand", "I", false)
  | 8 => ("WheelWeeks$Wheel", "rut", "I", false)
  | 9 => ("WheelWeeks$Wheel", "there", "I", false)
  | _ => ("WheelWeeks$Wheel", "dry", "Z", false)
def tyX4 : Nat → FieldType := fun k => match k with
  | 0 => .array .int
  | 1 => .array .int
  | 2 => .array .int
  | 3 => .array .int
  | 4 => .array .int
  | 5 => .int
  | 6 => .int
  | 7 => .int
  | 8 => .int
  | 9 => .int
  | _ => .boolean
abbrev wsX40 : List Cond := u_ws RX4 TX4 11
theorem nmX4 : ∀ a, a < 11 → ∀ b, b < 11 → a ≠ b → (TX4 a).2.1 ≠ (TX4 b).2.1 := by decide +kernel
theorem tyX4_ok : ∀ k, k < 11 → parseFieldDescriptor (TX4 k).2.2.1 = some (tyX4 k) := by decide +kernel
abbrev cX4_init : ByteArray := prog_6_method_1_code
def yX4_init : MethodName := ⟨RX4, "<init>", "()V"⟩
abbrev cX4_take : ByteArray := prog_6_method_2_code
def yX4_take : MethodName := ⟨RX4, "take", "(LWheelWeeks$Wheel;)V"⟩
abbrev cX4_start : ByteArray := prog_6_method_3_code
def yX4_start : MethodName := ⟨RX4, "start", "()V"⟩
abbrev cX4_isEmpty : ByteArray := prog_6_method_4_code
def yX4_isEmpty : MethodName := ⟨RX4, "isEmpty", "()Z"⟩
abbrev cX4_isSpoke : ByteArray := prog_6_method_5_code
def yX4_isSpoke : MethodName := ⟨RX4, "isSpoke", "(I)Z"⟩
abbrev cX4_isThere : ByteArray := prog_6_method_6_code
def yX4_isThere : MethodName := ⟨RX4, "isThere", "(I)Z"⟩
abbrev cX4_goneOnes : ByteArray := prog_6_method_7_code
def yX4_goneOnes : MethodName := ⟨RX4, "goneOnes", "()I"⟩
abbrev cX4_isOver : ByteArray := prog_6_method_8_code
def yX4_isOver : MethodName := ⟨RX4, "isOver", "()Z"⟩
abbrev cX4_depth : ByteArray := prog_6_method_9_code
def yX4_depth : MethodName := ⟨RX4, "depth", "()I"⟩
abbrev cX4_bearingAs : ByteArray := prog_6_method_10_code
def yX4_bearingAs : MethodName := ⟨RX4, "bearingAs", "(II)I"⟩
abbrev cX4_facet : ByteArray := prog_6_method_11_code
def yX4_facet : MethodName := ⟨RX4, "facet", "(II)I"⟩
abbrev cX4_differs : ByteArray := prog_6_method_12_code
def yX4_differs : MethodName := ⟨RX4, "differs", "(II)I"⟩
abbrev cX4_lengthThere : ByteArray := prog_6_method_13_code
def yX4_lengthThere : MethodName := ⟨RX4, "lengthThere", "()I"⟩
abbrev cX4_ironOnes : ByteArray := prog_6_method_14_code
def yX4_ironOnes : MethodName := ⟨RX4, "ironOnes", "()I"⟩
abbrev cX4_act : ByteArray := prog_6_method_15_code
def yX4_act : MethodName := ⟨RX4, "act", "(II)I"⟩
abbrev cX4_roll : ByteArray := prog_6_method_16_code
def yX4_roll : MethodName := ⟨RX4, "roll", "()Z"⟩
abbrev cX4_soakAll : ByteArray := prog_6_method_17_code
def yX4_soakAll : MethodName := ⟨RX4, "soakAll", "()I"⟩
abbrev cX4_turnWeather : ByteArray := prog_6_method_18_code
def yX4_turnWeather : MethodName := ⟨RX4, "turnWeather", "()I"⟩
abbrev cX4_knockOut : ByteArray := prog_6_method_19_code
def yX4_knockOut : MethodName := ⟨RX4, "knockOut", "(I)I"⟩
abbrev cX4_putIn : ByteArray := prog_6_method_20_code
def yX4_putIn : MethodName := ⟨RX4, "putIn", "(I)I"⟩
abbrev cX4_putInAll : ByteArray := prog_6_method_21_code
def yX4_putInAll : MethodName := ⟨RX4, "putInAll", "(I)V"⟩
abbrev cX4_changeRound : ByteArray := prog_6_method_22_code
def yX4_changeRound : MethodName := ⟨RX4, "changeRound", "(II)V"⟩
abbrev cX4_swap : ByteArray := prog_6_method_23_code
def yX4_swap : MethodName := ⟨RX4, "swap", "([III)V"⟩
abbrev cX4_rollFar : ByteArray := prog_6_method_24_code
def yX4_rollFar : MethodName := ⟨RX4, "rollFar", "(I)I"⟩
abbrev cX4_limpsIn : ByteArray := prog_6_method_25_code
def yX4_limpsIn : MethodName := ⟨RX4, "limpsIn", "(I)I"⟩
abbrev cX4_limpsAs : ByteArray := prog_6_method_26_code
def yX4_limpsAs : MethodName := ⟨RX4, "limpsAs", "([II)Z"⟩
abbrev cX4_reachesGate : ByteArray := prog_6_method_27_code
def yX4_reachesGate : MethodName := ⟨RX4, "reachesGate", "()Z"⟩
abbrev cX4_mix : ByteArray := prog_6_method_28_code
def yX4_mix : MethodName := ⟨RX4, "mix", "(J)J"⟩
def RX5 : String := "WheelWeeks"
def TX5 : u_T := fun k => match k with
  | 0 => ("WheelWeeks", "rows", "LWheelWeeks$Shelf;", true)
  | 1 => ("WheelWeeks", "texts", "LWheelWeeks$Shelf;", true)
  | 2 => ("WheelWeeks", "reader", "LWheelWeeks$Reader;", true)
  | 3 => ("WheelWeeks", "cart", "LWheelWeeks$Cart;", true)
  | 4 => ("WheelWeeks", "kept", "[LWheelWeeks$Cart;", true)
  | 5 => ("WheelWeeks", "aside", "LWheelWeeks$Aside;", true)
  | 6 => ("WheelWeeks", "tallies", "[I", true)
  | 7 => ("WheelWeeks", "findingLast", "I", false)
  | 8 => ("WheelWeeks", "askedLast", "I", false)
  | 9 => ("WheelWeeks", "upperLast", "J", false)
  | _ => ("WheelWeeks", "lowerLast", "J", false)
def tyX5 : Nat → FieldType := fun k => match k with
  | 0 => .object "WheelWeeks$Shelf"
  | 1 => .object "WheelWeeks$Shelf"
  | 2 => .object "WheelWeeks$Reader"
  | 3 => .object "WheelWeeks$Cart"
  | 4 => .array (.object "WheelWeeks$Cart")
  | 5 => .object "WheelWeeks$Aside"
  | 6 => .array .int
  | 7 => .int
  | 8 => .int
  | 9 => .long
  | _ => .long
abbrev wsX50 : List Cond := u_ws RX5 TX5 11
theorem nmX5 : ∀ a, a < 11 → ∀ b, b < 11 → a ≠ b → (TX5 a).2.1 ≠ (TX5 b).2.1 := by decide +kernel
theorem tyX5_ok : ∀ k, k < 11 → parseFieldDescriptor (TX5 k).2.2.1 = some (tyX5 k) := by decide +kernel
abbrev cX5_init : ByteArray := prog_1_method_1_code
def yX5_init : MethodName := ⟨RX5, "<init>", "()V"⟩
abbrev cX5_row : ByteArray := prog_1_method_2_code
def yX5_row : MethodName := ⟨RX5, "row", "(II)I"⟩
abbrev cX5_lay : ByteArray := prog_1_method_3_code
def yX5_lay : MethodName := ⟨RX5, "lay", "(III)I"⟩
abbrev cX5_at : ByteArray := prog_1_method_4_code
def yX5_at : MethodName := ⟨RX5, "at", "(II)I"⟩
abbrev cX5_tear : ByteArray := prog_1_method_5_code
def yX5_tear : MethodName := ⟨RX5, "tear", "(I)I"⟩
abbrev cX5_copy : ByteArray := prog_1_method_6_code
def yX5_copy : MethodName := ⟨RX5, "copy", "(IIIII)I"⟩
abbrev cX5_mean : ByteArray := prog_1_method_7_code
def yX5_mean : MethodName := ⟨RX5, "mean", "(I)I"⟩
abbrev cX5_text : ByteArray := prog_1_method_8_code
def yX5_text : MethodName := ⟨RX5, "text", "(II)I"⟩
abbrev cX5_put : ByteArray := prog_1_method_9_code
def yX5_put : MethodName := ⟨RX5, "put", "(III)I"⟩
abbrev cX5_fault : ByteArray := prog_1_method_10_code
def yX5_fault : MethodName := ⟨RX5, "fault", "(I)I"⟩
abbrev cX5_wheel : ByteArray := prog_1_method_11_code
def yX5_wheel : MethodName := ⟨RX5, "wheel", "(I)I"⟩
abbrev cX5_spoke : ByteArray := prog_1_method_12_code
def yX5_spoke : MethodName := ⟨RX5, "spoke", "(II)I"⟩
abbrev cX5_mark : ByteArray := prog_1_method_13_code
def yX5_mark : MethodName := ⟨RX5, "mark", "(II)I"⟩
abbrev cX5_bears : ByteArray := prog_1_method_14_code
def yX5_bears : MethodName := ⟨RX5, "bears", "(III)I"⟩
abbrev cX5_step : ByteArray := prog_1_method_15_code
def yX5_step : MethodName := ⟨RX5, "step", "()I"⟩
abbrev cX5_soak : ByteArray := prog_1_method_16_code
def yX5_soak : MethodName := ⟨RX5, "soak", "()I"⟩
abbrev cX5_weather : ByteArray := prog_1_method_17_code
def yX5_weather : MethodName := ⟨RX5, "weather", "()I"⟩
abbrev cX5_knock : ByteArray := prog_1_method_18_code
def yX5_knock : MethodName := ⟨RX5, "knock", "(I)I"⟩
abbrev cX5_mend : ByteArray := prog_1_method_19_code
def yX5_mend : MethodName := ⟨RX5, "mend", "(I)I"⟩
abbrev cX5_undo : ByteArray := prog_1_method_20_code
def yX5_undo : MethodName := ⟨RX5, "undo", "(I)I"⟩
abbrev cX5_keep : ByteArray := prog_1_method_21_code
def yX5_keep : MethodName := ⟨RX5, "keep", "(I)I"⟩
abbrev cX5_on : ByteArray := prog_1_method_22_code
def yX5_on : MethodName := ⟨RX5, "on", "(I)I"⟩
abbrev cX5_goes : ByteArray := prog_1_method_23_code
def yX5_goes : MethodName := ⟨RX5, "goes", "(I)I"⟩
abbrev cX5_over : ByteArray := prog_1_method_24_code
def yX5_over : MethodName := ⟨RX5, "over", "()I"⟩
abbrev cX5_limps : ByteArray := prog_1_method_25_code
def yX5_limps : MethodName := ⟨RX5, "limps", "(II)I"⟩
abbrev cX5_gate : ByteArray := prog_1_method_26_code
def yX5_gate : MethodName := ⟨RX5, "gate", "()I"⟩
abbrev cX5_turned : ByteArray := prog_1_method_27_code
def yX5_turned : MethodName := ⟨RX5, "turned", "()I"⟩
abbrev cX5_change : ByteArray := prog_1_method_28_code
def yX5_change : MethodName := ⟨RX5, "change", "()I"⟩
abbrev cX5_gone : ByteArray := prog_1_method_29_code
def yX5_gone : MethodName := ⟨RX5, "gone", "(I)I"⟩
abbrev cX5_strengths : ByteArray := prog_1_method_30_code
def yX5_strengths : MethodName := ⟨RX5, "strengths", "(II)I"⟩
abbrev cX5_kinds : ByteArray := prog_1_method_31_code
def yX5_kinds : MethodName := ⟨RX5, "kinds", "(II)I"⟩
abbrev cX5_look : ByteArray := prog_1_method_32_code
def yX5_look : MethodName := ⟨RX5, "look", "(I)I"⟩
abbrev cX5_duel : ByteArray := prog_1_method_33_code
def yX5_duel : MethodName := ⟨RX5, "duel", "(I)I"⟩
abbrev cX5_odds : ByteArray := prog_1_method_34_code
def yX5_odds : MethodName := ⟨RX5, "odds", "(II)I"⟩
abbrev cX5_mid : ByteArray := prog_1_method_35_code
def yX5_mid : MethodName := ⟨RX5, "mid", "(I)I"⟩
abbrev cX5_lots : ByteArray := prog_1_method_36_code
def yX5_lots : MethodName := ⟨RX5, "lots", "(II)I"⟩
abbrev cX5_asked : ByteArray := prog_1_method_37_code
def yX5_asked : MethodName := ⟨RX5, "asked", "()I"⟩
abbrev cX5_upper : ByteArray := prog_1_method_38_code
def yX5_upper : MethodName := ⟨RX5, "upper", "()J"⟩
abbrev cX5_lower : ByteArray := prog_1_method_39_code
def yX5_lower : MethodName := ⟨RX5, "lower", "()J"⟩
abbrev cX5_count : ByteArray := prog_1_method_40_code
def yX5_count : MethodName := ⟨RX5, "count", "(I)I"⟩
abbrev cX5_finding : ByteArray := prog_1_method_41_code
def yX5_finding : MethodName := ⟨RX5, "finding", "()I"⟩
abbrev cX5_findings : ByteArray := prog_1_method_42_code
def yX5_findings : MethodName := ⟨RX5, "findings", "(I)I"⟩
abbrev cX5_digest : ByteArray := prog_1_method_43_code
def yX5_digest : MethodName := ⟨RX5, "digest", "()J"⟩
abbrev cX5_refuse : ByteArray := prog_1_method_44_code
def yX5_refuse : MethodName := ⟨RX5, "refuse", "(I)I"⟩
abbrev cX5_refuseMissing : ByteArray := prog_1_method_45_code
def yX5_refuseMissing : MethodName := ⟨RX5, "refuseMissing", "(LWheelWeeks$Shelf;I)I"⟩
abbrev cX5_refusePlace : ByteArray := prog_1_method_46_code
def yX5_refusePlace : MethodName := ⟨RX5, "refusePlace", "(LWheelWeeks$Shelf;II)I"⟩
abbrev cX5_refuseLimps : ByteArray := prog_1_method_47_code
def yX5_refuseLimps : MethodName := ⟨RX5, "refuseLimps", "(I)I"⟩
abbrev cX5_refuseGuess : ByteArray := prog_1_method_48_code
def yX5_refuseGuess : MethodName := ⟨RX5, "refuseGuess", "(II)I"⟩
abbrev cX5_makeAnew : ByteArray := prog_1_method_49_code
def yX5_makeAnew : MethodName := ⟨RX5, "makeAnew", "(LWheelWeeks$Shelf;III)I"⟩
abbrev cX5_tell : ByteArray := prog_1_method_50_code
def yX5_tell : MethodName := ⟨RX5, "tell", "(I)I"⟩
abbrev cX5_tellBeside : ByteArray := prog_1_method_51_code
def yX5_tellBeside : MethodName := ⟨RX5, "tellBeside", "(I)I"⟩
abbrev cX5_tellShare : ByteArray := prog_1_method_52_code
def yX5_tellShare : MethodName := ⟨RX5, "tellShare", "(J)I"⟩
abbrev cX5_doDeed : ByteArray := prog_1_method_53_code
def yX5_doDeed : MethodName := ⟨RX5, "doDeed", "(II)I"⟩
abbrev cX5_doLot : ByteArray := prog_1_method_54_code
def yX5_doLot : MethodName := ⟨RX5, "doLot", "(J)V"⟩
abbrev cX5_counted : ByteArray := prog_1_method_55_code
def yX5_counted : MethodName := ⟨RX5, "counted", "(I)I"⟩
abbrev cX5_keptOnes : ByteArray := prog_1_method_56_code
def yX5_keptOnes : MethodName := ⟨RX5, "keptOnes", "()I"⟩
abbrev cX5_isOfKind : ByteArray := prog_1_method_57_code
def yX5_isOfKind : MethodName := ⟨RX5, "isOfKind", "(II)Z"⟩
abbrev cX5_bearing : ByteArray := prog_1_method_58_code
def yX5_bearing : MethodName := ⟨RX5, "bearing", "(IIIIZ)I"⟩
abbrev cX5_feltWear : ByteArray := prog_1_method_59_code
def yX5_feltWear : MethodName := ⟨RX5, "feltWear", "(IIZ)I"⟩
abbrev cX5_power : ByteArray := prog_1_method_60_code
def yX5_power : MethodName := ⟨RX5, "power", "(JI)J"⟩
abbrev cX5_commonDivisor : ByteArray := prog_1_method_61_code
def yX5_commonDivisor : MethodName := ⟨RX5, "commonDivisor", "(JJ)J"⟩
def RX6 : String := "WheelWeeksModel"
def TX6 : u_T := fun k => match k with
  | 0 => ("WheelWeeksModel", "told", "I", false)
  | 1 => ("WheelWeeksModel", "above", "J", false)
  | 2 => ("WheelWeeksModel", "below", "J", false)
  | 3 => ("WheelWeeksModel", "latest", "I", false)
  | 4 => ("WheelWeeksModel", "came", "[I", true)
  | 5 => ("WheelWeeksModel", "sizes", "[I", true)
  | 6 => ("WheelWeeksModel", "rows", "[I", true)
  | 7 => ("WheelWeeksModel", "copied", "[I", true)
  | 8 => ("WheelWeeksModel", "textSizes", "[I", true)
  | 9 => ("WheelWeeksModel", "bytes", "[B", true)
  | 10 => ("WheelWeeksModel", "readAt", "I", false)
  | 11 => ("WheelWeeksModel", "readMany", "I", false)
  | 12 => ("WheelWeeksModel", "readGate", "I", false)
  | 13 => ("WheelWeeksModel", "isBegun", "Z", false)
  | 14 => ("WheelWeeksModel", "readRut", "[I", true)
  | 15 => ("WheelWeeksModel", "readKind", "[I", true)
  | 16 => ("WheelWeeksModel", "readLong", "[I", true)
  | 17 => ("WheelWeeksModel", "readStrong", "[I", true)
  | 18 => ("WheelWeeksModel", "n", "I", false)
  | 19 => ("WheelWeeksModel", "gateAt", "I", false)
  | 20 => ("WheelWeeksModel", "ruts", "[I", true)
  | 21 => ("WheelWeeksModel", "kinds", "[I", true)
  | 22 => ("WheelWeeksModel", "longs", "[I", true)
  | 23 => ("WheelWeeksModel", "strongs", "[I", true)
  | 24 => ("WheelWeeksModel", "now", "[I", true)
  | 25 => ("WheelWeeksModel", "tried", "[I", true)
  | 26 => ("WheelWeeksModel", "deedMany", "I", false)
  | 27 => ("WheelWeeksModel", "log", "[I", true)
  | 28 => ("WheelWeeksModel", "keptMany", "[I", true)
  | 29 => ("WheelWeeksModel", "kept", "[I", true)
  | 30 => ("WheelWeeksModel", "outcomes", "[I", true)
  | 31 => ("WheelWeeksModel", "parts", "[J", true)
  | 32 => ("WheelWeeksModel", "whole", "J", false)
  | _ => ("WheelWeeksModel", "h", "J", false)
def tyX6 : Nat → FieldType := fun k => match k with
  | 0 => .int
  | 1 => .long
  | 2 => .long
  | 3 => .int
  | 4 => .array .int
  | 5 => .array .int
  | 6 => .array .int
  | 7 => .array .int
  | 8 => .array .int
  | 9 => .array .byte
  | 10 => .int
  | 11 => .int
  | 12 => .int
  | 13 => .boolean
  | 14 => .array .int
  | 15 => .array .int
  | 16 => .array .int
  | 17 => .array .int
  | 18 => .int
  | 19 => .int
  | 20 => .array .int
  | 21 => .array .int
  | 22 => .array .int
  | 23 => .array .int
  | 24 => .array .int
  | 25 => .array .int
  | 26 => .int
  | 27 => .array .int
  | 28 => .array .int
  | 29 => .array .int
  | 30 => .array .int
  | 31 => .array .long
  | 32 => .long
  | _ => .long
abbrev wsX60 : List Cond := u_ws RX6 TX6 34
theorem nmX6 : ∀ a, a < 34 → ∀ b, b < 34 → a ≠ b → (TX6 a).2.1 ≠ (TX6 b).2.1 := by decide +kernel
theorem tyX6_ok : ∀ k, k < 34 → parseFieldDescriptor (TX6 k).2.2.1 = some (tyX6 k) := by decide +kernel
abbrev cX6_init : ByteArray := prog_8_method_1_code
def yX6_init : MethodName := ⟨RX6, "<init>", "()V"⟩
abbrev cX6_in : ByteArray := prog_8_method_2_code
def yX6_in : MethodName := ⟨RX6, "in", "(III)Z"⟩
abbrev cX6_has : ByteArray := prog_8_method_3_code
def yX6_has : MethodName := ⟨RX6, "has", "(II)Z"⟩
abbrev cX6_bits : ByteArray := prog_8_method_4_code
def yX6_bits : MethodName := ⟨RX6, "bits", "(I)I"⟩
abbrev cX6_meets : ByteArray := prog_8_method_5_code
def yX6_meets : MethodName := ⟨RX6, "meets", "(I)I"⟩
abbrev cX6_tells : ByteArray := prog_8_method_6_code
def yX6_tells : MethodName := ⟨RX6, "tells", "(II)I"⟩
abbrev cX6_asked : ByteArray := prog_8_method_7_code
def yX6_asked : MethodName := ⟨RX6, "asked", "()I"⟩
abbrev cX6_upper : ByteArray := prog_8_method_8_code
def yX6_upper : MethodName := ⟨RX6, "upper", "()J"⟩
abbrev cX6_lower : ByteArray := prog_8_method_9_code
def yX6_lower : MethodName := ⟨RX6, "lower", "()J"⟩
abbrev cX6_lowest : ByteArray := prog_8_method_10_code
def yX6_lowest : MethodName := ⟨RX6, "lowest", "(JJ)I"⟩
abbrev cX6_finding : ByteArray := prog_8_method_11_code
def yX6_finding : MethodName := ⟨RX6, "finding", "()I"⟩
abbrev cX6_findings : ByteArray := prog_8_method_12_code
def yX6_findings : MethodName := ⟨RX6, "findings", "(I)I"⟩
abbrev cX6_isRow : ByteArray := prog_8_method_13_code
def yX6_isRow : MethodName := ⟨RX6, "isRow", "(I)Z"⟩
abbrev cX6_rowAt : ByteArray := prog_8_method_14_code
def yX6_rowAt : MethodName := ⟨RX6, "rowAt", "(II)I"⟩
abbrev cX6_row : ByteArray := prog_8_method_15_code
def yX6_row : MethodName := ⟨RX6, "row", "(II)I"⟩
abbrev cX6_lay : ByteArray := prog_8_method_16_code
def yX6_lay : MethodName := ⟨RX6, "lay", "(III)I"⟩
abbrev cX6_at : ByteArray := prog_8_method_17_code
def yX6_at : MethodName := ⟨RX6, "at", "(II)I"⟩
abbrev cX6_tear : ByteArray := prog_8_method_18_code
def yX6_tear : MethodName := ⟨RX6, "tear", "(I)I"⟩
abbrev cX6_copy : ByteArray := prog_8_method_19_code
def yX6_copy : MethodName := ⟨RX6, "copy", "(IIIII)I"⟩
abbrev cX6_mean : ByteArray := prog_8_method_20_code
def yX6_mean : MethodName := ⟨RX6, "mean", "(I)I"⟩
abbrev cX6_isText : ByteArray := prog_8_method_21_code
def yX6_isText : MethodName := ⟨RX6, "isText", "(I)Z"⟩
abbrev cX6_text : ByteArray := prog_8_method_22_code
def yX6_text : MethodName := ⟨RX6, "text", "(II)I"⟩
abbrev cX6_put : ByteArray := prog_8_method_23_code
def yX6_put : MethodName := ⟨RX6, "put", "(III)I"⟩
abbrev cX6_letterAt : ByteArray := prog_8_method_24_code
def yX6_letterAt : MethodName := ⟨RX6, "letterAt", "(II)I"⟩
abbrev cX6_kindOf : ByteArray := prog_8_method_25_code
def yX6_kindOf : MethodName := ⟨RX6, "kindOf", "(I)I"⟩
abbrev cX6_reads : ByteArray := prog_8_method_26_code
def yX6_reads : MethodName := ⟨RX6, "reads", "(II)I"⟩
abbrev cX6_readsRoad : ByteArray := prog_8_method_27_code
def yX6_readsRoad : MethodName := ⟨RX6, "readsRoad", "(I)Z"⟩
abbrev cX6_readsSpoke : ByteArray := prog_8_method_28_code
def yX6_readsSpoke : MethodName := ⟨RX6, "readsSpoke", "(I)Z"⟩
abbrev cX6_faultOf : ByteArray := prog_8_method_29_code
def yX6_faultOf : MethodName := ⟨RX6, "faultOf", "(I)I"⟩
abbrev cX6_fault : ByteArray := prog_8_method_30_code
def yX6_fault : MethodName := ⟨RX6, "fault", "(I)I"⟩
abbrev cX6_wheel : ByteArray := prog_8_method_31_code
def yX6_wheel : MethodName := ⟨RX6, "wheel", "(I)I"⟩
abbrev cX6_isSpoke : ByteArray := prog_8_method_32_code
def yX6_isSpoke : MethodName := ⟨RX6, "isSpoke", "(I)Z"⟩
abbrev cX6_depth : ByteArray := prog_8_method_33_code
def yX6_depth : MethodName := ⟨RX6, "depth", "(I)I"⟩
abbrev cX6_above0 : ByteArray := prog_8_method_34_code
def yX6_above0 : MethodName := ⟨RX6, "above0", "(I)I"⟩
abbrev cX6_bearsAs : ByteArray := prog_8_method_35_code
def yX6_bearsAs : MethodName := ⟨RX6, "bearsAs", "(IIIII)I"⟩
abbrev cX6_bearsOn : ByteArray := prog_8_method_36_code
def yX6_bearsOn : MethodName := ⟨RX6, "bearsOn", "([III)I"⟩
abbrev cX6_isOver : ByteArray := prog_8_method_37_code
def yX6_isOver : MethodName := ⟨RX6, "isOver", "([I)Z"⟩
abbrev cX6_steps : ByteArray := prog_8_method_38_code
def yX6_steps : MethodName := ⟨RX6, "steps", "([I)Z"⟩
abbrev cX6_spokeTells : ByteArray := prog_8_method_39_code
def yX6_spokeTells : MethodName := ⟨RX6, "spokeTells", "(II)I"⟩
abbrev cX6_spoke : ByteArray := prog_8_method_40_code
def yX6_spoke : MethodName := ⟨RX6, "spoke", "(II)I"⟩
abbrev cX6_isOf : ByteArray := prog_8_method_41_code
def yX6_isOf : MethodName := ⟨RX6, "isOf", "(II)Z"⟩
abbrev cX6_alike : ByteArray := prog_8_method_42_code
def yX6_alike : MethodName := ⟨RX6, "alike", "(II)I"⟩
abbrev cX6_mark : ByteArray := prog_8_method_43_code
def yX6_mark : MethodName := ⟨RX6, "mark", "(II)I"⟩
abbrev cX6_bears : ByteArray := prog_8_method_44_code
def yX6_bears : MethodName := ⟨RX6, "bears", "(III)I"⟩
abbrev cX6_remember : ByteArray := prog_8_method_45_code
def yX6_remember : MethodName := ⟨RX6, "remember", "()V"⟩
abbrev cX6_need : ByteArray := prog_8_method_46_code
def yX6_need : MethodName := ⟨RX6, "need", "()I"⟩
abbrev cX6_step : ByteArray := prog_8_method_47_code
def yX6_step : MethodName := ⟨RX6, "step", "()I"⟩
abbrev cX6_soaks : ByteArray := prog_8_method_48_code
def yX6_soaks : MethodName := ⟨RX6, "soaks", "([I)I"⟩
abbrev cX6_soak : ByteArray := prog_8_method_49_code
def yX6_soak : MethodName := ⟨RX6, "soak", "()I"⟩
abbrev cX6_weather : ByteArray := prog_8_method_50_code
def yX6_weather : MethodName := ⟨RX6, "weather", "()I"⟩
abbrev cX6_knock : ByteArray := prog_8_method_51_code
def yX6_knock : MethodName := ⟨RX6, "knock", "(I)I"⟩
abbrev cX6_puts : ByteArray := prog_8_method_52_code
def yX6_puts : MethodName := ⟨RX6, "puts", "([II)V"⟩
abbrev cX6_mend : ByteArray := prog_8_method_53_code
def yX6_mend : MethodName := ⟨RX6, "mend", "(I)I"⟩
abbrev cX6_undo : ByteArray := prog_8_method_54_code
def yX6_undo : MethodName := ⟨RX6, "undo", "(I)I"⟩
abbrev cX6_keep : ByteArray := prog_8_method_55_code
def yX6_keep : MethodName := ⟨RX6, "keep", "(I)I"⟩
abbrev cX6_on : ByteArray := prog_8_method_56_code
def yX6_on : MethodName := ⟨RX6, "on", "(I)I"⟩
abbrev cX6_copyNow : ByteArray := prog_8_method_57_code
def yX6_copyNow : MethodName := ⟨RX6, "copyNow", "()V"⟩
abbrev cX6_limpsIn : ByteArray := prog_8_method_58_code
def yX6_limpsIn : MethodName := ⟨RX6, "limpsIn", "(IZ)I"⟩
abbrev cX6_goes : ByteArray := prog_8_method_59_code
def yX6_goes : MethodName := ⟨RX6, "goes", "(I)I"⟩
abbrev cX6_all : ByteArray := prog_8_method_60_code
def yX6_all : MethodName := ⟨RX6, "all", "()I"⟩
abbrev cX6_over : ByteArray := prog_8_method_61_code
def yX6_over : MethodName := ⟨RX6, "over", "()I"⟩
abbrev cX6_limps : ByteArray := prog_8_method_62_code
def yX6_limps : MethodName := ⟨RX6, "limps", "(II)I"⟩
abbrev cX6_comes : ByteArray := prog_8_method_63_code
def yX6_comes : MethodName := ⟨RX6, "comes", "()Z"⟩
abbrev cX6_gate : ByteArray := prog_8_method_64_code
def yX6_gate : MethodName := ⟨RX6, "gate", "()I"⟩
abbrev cX6_turned : ByteArray := prog_8_method_65_code
def yX6_turned : MethodName := ⟨RX6, "turned", "()I"⟩
abbrev cX6_swap : ByteArray := prog_8_method_66_code
def yX6_swap : MethodName := ⟨RX6, "swap", "([III)V"⟩
abbrev cX6_changes : ByteArray := prog_8_method_67_code
def yX6_changes : MethodName := ⟨RX6, "changes", "(II)V"⟩
abbrev cX6_change : ByteArray := prog_8_method_68_code
def yX6_change : MethodName := ⟨RX6, "change", "()I"⟩
abbrev cX6_needLimps : ByteArray := prog_8_method_69_code
def yX6_needLimps : MethodName := ⟨RX6, "needLimps", "(I)I"⟩
abbrev cX6_isSo : ByteArray := prog_8_method_70_code
def yX6_isSo : MethodName := ⟨RX6, "isSo", "(I)Z"⟩
abbrev cX6_gone : ByteArray := prog_8_method_71_code
def yX6_gone : MethodName := ⟨RX6, "gone", "(I)I"⟩
abbrev cX6_strengths : ByteArray := prog_8_method_72_code
def yX6_strengths : MethodName := ⟨RX6, "strengths", "(II)I"⟩
abbrev cX6_kinds : ByteArray := prog_8_method_73_code
def yX6_kinds : MethodName := ⟨RX6, "kinds", "(II)I"⟩
abbrev cX6_look : ByteArray := prog_8_method_74_code
def yX6_look : MethodName := ⟨RX6, "look", "(I)I"⟩
abbrev cX6_isMoved : ByteArray := prog_8_method_75_code
def yX6_isMoved : MethodName := ⟨RX6, "isMoved", "(II)Z"⟩
abbrev cX6_duel : ByteArray := prog_8_method_76_code
def yX6_duel : MethodName := ⟨RX6, "duel", "(I)I"⟩
abbrev cX6_layParts : ByteArray := prog_8_method_77_code
def yX6_layParts : MethodName := ⟨RX6, "layParts", "(I)V"⟩
abbrev cX6_odds : ByteArray := prog_8_method_78_code
def yX6_odds : MethodName := ⟨RX6, "odds", "(II)I"⟩
abbrev cX6_mid : ByteArray := prog_8_method_79_code
def yX6_mid : MethodName := ⟨RX6, "mid", "(I)I"⟩
abbrev cX6_lots : ByteArray := prog_8_method_80_code
def yX6_lots : MethodName := ⟨RX6, "lots", "(II)I"⟩
abbrev cX6_counted : ByteArray := prog_8_method_81_code
def yX6_counted : MethodName := ⟨RX6, "counted", "(I)I"⟩
abbrev cX6_count : ByteArray := prog_8_method_82_code
def yX6_count : MethodName := ⟨RX6, "count", "(I)I"⟩
abbrev cX6_adds : ByteArray := prog_8_method_83_code
def yX6_adds : MethodName := ⟨RX6, "adds", "(J)V"⟩
abbrev cX6_digest : ByteArray := prog_8_method_84_code
def yX6_digest : MethodName := ⟨RX6, "digest", "()J"⟩
def RJ6 : String := "java/lang/Integer"
def TJ6 : u_T := fun k => match k with
  | _ => ("", "", "", false)
def tyJ6 : Nat → FieldType := fun k => match k with
  | _ => .int
abbrev wsJ60 : List Cond := u_ws RJ6 TJ6 0
theorem nmJ6 : ∀ a, a < 0 → ∀ b, b < 0 → a ≠ b → (TJ6 a).2.1 ≠ (TJ6 b).2.1 := by decide +kernel
theorem tyJ6_ok : ∀ k, k < 0 → parseFieldDescriptor (TJ6 k).2.2.1 = some (tyJ6 k) := by decide +kernel
abbrev cJ6_bitCount_0f7a4 : ByteArray := prog_9_method_49_code
def yJ6_bitCount_0f7a4 : MethodName := ⟨RJ6, "bitCount", "(I)I"⟩
def RJ9 : String := "java/lang/Math"
def TJ9 : u_T := fun k => match k with
  | _ => ("", "", "", false)
def tyJ9 : Nat → FieldType := fun k => match k with
  | _ => .int
abbrev wsJ90 : List Cond := u_ws RJ9 TJ9 0
theorem nmJ9 : ∀ a, a < 0 → ∀ b, b < 0 → a ≠ b → (TJ9 a).2.1 ≠ (TJ9 b).2.1 := by decide +kernel
theorem tyJ9_ok : ∀ k, k < 0 → parseFieldDescriptor (TJ9 k).2.2.1 = some (tyJ9 k) := by decide +kernel
abbrev cJ9_max_7cf53 : ByteArray := prog_10_method_65_code
def yJ9_max_7cf53 : MethodName := ⟨RJ9, "max", "(II)I"⟩
abbrev cJ9_min_7cf53 : ByteArray := prog_10_method_69_code
def yJ9_min_7cf53 : MethodName := ⟨RJ9, "min", "(II)I"⟩
def RJ10 : String := "java/lang/System"
def TJ10 : u_T := fun k => match k with
  | _ => ("", "", "", false)
def tyJ10 : Nat → FieldType := fun k => match k with
  | _ => .int
abbrev wsJ100 : List Cond := u_ws RJ10 TJ10 0
theorem nmJ10 : ∀ a, a < 0 → ∀ b, b < 0 → a ≠ b → (TJ10 a).2.1 ≠ (TJ10 b).2.1 := by decide +kernel
theorem tyJ10_ok : ∀ k, k < 0 → parseFieldDescriptor (TJ10 k).2.2.1 = some (tyJ10 k) := by decide +kernel
def RJ7 : String := "java/util/Arrays"
def TJ7 : u_T := fun k => match k with
  | _ => ("", "", "", false)
def tyJ7 : Nat → FieldType := fun k => match k with
  | _ => .int
abbrev wsJ70 : List Cond := u_ws RJ7 TJ7 0
theorem nmJ7 : ∀ a, a < 0 → ∀ b, b < 0 → a ≠ b → (TJ7 a).2.1 ≠ (TJ7 b).2.1 := by decide +kernel
theorem tyJ7_ok : ∀ k, k < 0 → parseFieldDescriptor (TJ7 k).2.2.1 = some (tyJ7 k) := by decide +kernel
abbrev cJ7_fill_53178 : ByteArray := prog_12_method_103_code
def yJ7_fill_53178 : MethodName := ⟨RJ7, "fill", "([II)V"⟩
def RL : String := "WheelWeeksLaw"
abbrev cL_law : ByteArray := code
def yL_law : MethodName := ⟨RL, "law", "([I)Z"⟩
abbrev vwCl : List vw_C := [(RX0, TX0, 3), (RX1, TX1, 4), (RX2, TX2, 4), (RX3, TX3, 3), (RX4, TX4, 11), (RX5, TX5, 11), (RX6, TX6, 34)]
def gw : List Cond := lw_tbl.filter goodWord
theorem gw_mem {w : Cond} (h : w ∈ lw_tbl) (g : goodWord w = true) : w ∈ gw := List.mem_filter.mpr ⟨h, g⟩
theorem gw_good {w : Cond} (h : w ∈ gw) : goodWord w = true := (List.mem_filter.mp h).2
theorem gw_tbl {w : Cond} (h : w ∈ gw) : w ∈ lw_tbl := (List.mem_filter.mp h).1
end
section
theorem dX0_init_0 : decode cX0_init 0 = .ok (.aload_n 0, 1) := by decide +kernel
theorem dX0_init_1 : decode cX0_init 1 = .ok (.invokespecial 3, 3) := by decide +kernel
theorem dX0_init_4 : decode cX0_init 4 = .ok (.aload_n 0, 1) := by decide +kernel
theorem dX0_init_5 : decode cX0_init 5 = .ok (.aload_n 1, 1) := by decide +kernel
theorem dX0_init_6 : decode cX0_init 6 = .ok (.putfield 9, 3) := by decide +kernel
theorem dX0_init_9 : decode cX0_init 9 = .ok (.aload_n 0, 1) := by decide +kernel
theorem dX0_init_10 : decode cX0_init 10 = .ok (.new 15, 3) := by decide +kernel
theorem dX0_init_13 : decode cX0_init 13 = .ok (.dup, 1) := by decide +kernel
theorem dX0_init_14 : decode cX0_init 14 = .ok (.invokespecial 17, 3) := by decide +kernel
theorem dX0_init_17 : decode cX0_init 17 = .ok (.putfield 18, 3) := by decide +kernel
theorem dX0_init_20 : decode cX0_init 20 = .ok (.return_, 1) := by decide +kernel
theorem dX0_rutBehind_0 : decode cX0_rutBehind 0 = .ok (.aload_n 0, 1) := by decide +kernel
theorem dX0_rutBehind_1 : decode cX0_rutBehind 1 = .ok (.getfield 18, 3) := by decide +kernel
theorem dX0_rutBehind_4 : decode cX0_rutBehind 4 = .ok (.aload_n 0, 1) := by decide +kernel
theorem dX0_rutBehind_5 : decode cX0_rutBehind 5 = .ok (.getfield 9, 3) := by decide +kernel
theorem dX0_rutBehind_8 : decode cX0_rutBehind 8 = .ok (.invokevirtual 21, 3) := by decide +kernel
theorem dX0_rutBehind_11 : decode cX0_rutBehind 11 = .ok (.aload_n 0, 1) := by decide +kernel
theorem dX0_rutBehind_12 : decode cX0_rutBehind 12 = .ok (.aload_n 0, 1) := by decide +kernel
theorem dX0_rutBehind_13 : decode cX0_rutBehind 13 = .ok (.getfield 18, 3) := by decide +kernel
theorem dX0_rutBehind_16 : decode cX0_rutBehind 16 = .ok (.iload_n 1, 1) := by decide +kernel
theorem dX0_rutBehind_17 : decode cX0_rutBehind 17 = .ok (.invokevirtual 25, 3) := by decide +kernel
theorem dX0_rutBehind_20 : decode cX0_rutBehind 20 = .ok (.putfield 29, 3) := by decide +kernel
theorem dX0_rutBehind_23 : decode cX0_rutBehind 23 = .ok (.aload_n 0, 1) := by decide +kernel
theorem dX0_rutBehind_24 : decode cX0_rutBehind 24 = .ok (.getfield 18, 3) := by decide +kernel
theorem dX0_rutBehind_27 : decode cX0_rutBehind 27 = .ok (.getfield 33, 3) := by decide +kernel
theorem dX0_rutBehind_30 : decode cX0_rutBehind 30 = .ok (.ireturn, 1) := by decide +kernel
theorem dX0_rutOver_0 : decode cX0_rutOver 0 = .ok (.aload_n 0, 1) := by decide +kernel
theorem dX0_rutOver_1 : decode cX0_rutOver 1 = .ok (.getfield 18, 3) := by decide +kernel
theorem dX0_rutOver_4 : decode cX0_rutOver 4 = .ok (.aload_n 0, 1) := by decide +kernel
theorem dX0_rutOver_5 : decode cX0_rutOver 5 = .ok (.getfield 9, 3) := by decide +kernel
theorem dX0_rutOver_8 : decode cX0_rutOver 8 = .ok (.invokevirtual 21, 3) := by decide +kernel
theorem dX0_rutOver_11 : decode cX0_rutOver 11 = .ok (.aload_n 0, 1) := by decide +kernel
theorem dX0_rutOver_12 : decode cX0_rutOver 12 = .ok (.getfield 18, 3) := by decide +kernel
theorem dX0_rutOver_15 : decode cX0_rutOver 15 = .ok (.bipush 60, 2) := by decide +kernel
theorem dX0_rutOver_17 : decode cX0_rutOver 17 = .ok (.invokevirtual 25, 3) := by decide +kernel
theorem dX0_rutOver_20 : decode cX0_rutOver 20 = .ok (.pop, 1) := by decide +kernel
theorem dX0_rutOver_21 : decode cX0_rutOver 21 = .ok (.aload_n 0, 1) := by decide +kernel
theorem dX0_rutOver_22 : decode cX0_rutOver 22 = .ok (.getfield 18, 3) := by decide +kernel
theorem dX0_rutOver_25 : decode cX0_rutOver 25 = .ok (.invokevirtual 36, 3) := by decide +kernel
theorem dX0_rutOver_28 : decode cX0_rutOver 28 = .ok (.ifCond .ne 6, 3) := by decide +kernel
theorem dX0_rutOver_31 : decode cX0_rutOver 31 = .ok (.bipush (-9), 2) := by decide +kernel
theorem dX0_rutOver_33 : decode cX0_rutOver 33 = .ok (.ireturn, 1) := by decide +kernel
theorem dX0_rutOver_34 : decode cX0_rutOver 34 = .ok (.aload_n 0, 1) := by decide +kernel
theorem dX0_rutOver_35 : decode cX0_rutOver 35 = .ok (.aload_n 0, 1) := by decide +kernel
theorem dX0_rutOver_36 : decode cX0_rutOver 36 = .ok (.getfield 18, 3) := by decide +kernel
theorem dX0_rutOver_39 : decode cX0_rutOver 39 = .ok (.invokevirtual 40, 3) := by decide +kernel
theorem dX0_rutOver_42 : decode cX0_rutOver 42 = .ok (.putfield 29, 3) := by decide +kernel
theorem dX0_rutOver_45 : decode cX0_rutOver 45 = .ok (.aload_n 0, 1) := by decide +kernel
theorem dX0_rutOver_46 : decode cX0_rutOver 46 = .ok (.getfield 18, 3) := by decide +kernel
theorem dX0_rutOver_49 : decode cX0_rutOver 49 = .ok (.getfield 33, 3) := by decide +kernel
theorem dX0_rutOver_52 : decode cX0_rutOver 52 = .ok (.ireturn, 1) := by decide +kernel
theorem dX0_writeLimps_0 : decode cX0_writeLimps 0 = .ok (.aload_n 0, 1) := by decide +kernel
theorem dX0_writeLimps_1 : decode cX0_writeLimps 1 = .ok (.getfield 18, 3) := by decide +kernel
theorem dX0_writeLimps_4 : decode cX0_writeLimps 4 = .ok (.aload_n 0, 1) := by decide +kernel
theorem dX0_writeLimps_5 : decode cX0_writeLimps 5 = .ok (.getfield 9, 3) := by decide +kernel
theorem dX0_writeLimps_8 : decode cX0_writeLimps 8 = .ok (.invokevirtual 21, 3) := by decide +kernel
theorem dX0_writeLimps_11 : decode cX0_writeLimps 11 = .ok (.iconst 0, 1) := by decide +kernel
theorem dX0_writeLimps_12 : decode cX0_writeLimps 12 = .ok (.istore_n 3, 1) := by decide +kernel
theorem dX0_writeLimps_13 : decode cX0_writeLimps 13 = .ok (.iconst 0, 1) := by decide +kernel
theorem dX0_writeLimps_14 : decode cX0_writeLimps 14 = .ok (.istore 4, 2) := by decide +kernel
theorem dX0_writeLimps_16 : decode cX0_writeLimps 16 = .ok (.iload 4, 2) := by decide +kernel
theorem dX0_writeLimps_18 : decode cX0_writeLimps 18 = .ok (.iload_n 2, 1) := by decide +kernel
theorem dX0_writeLimps_19 : decode cX0_writeLimps 19 = .ok (.if_icmp .ge 45, 3) := by decide +kernel
theorem dX0_writeLimps_22 : decode cX0_writeLimps 22 = .ok (.aload_n 1, 1) := by decide +kernel
theorem dX0_writeLimps_23 : decode cX0_writeLimps 23 = .ok (.iload 4, 2) := by decide +kernel
theorem dX0_writeLimps_25 : decode cX0_writeLimps 25 = .ok (.aload_n 0, 1) := by decide +kernel
theorem dX0_writeLimps_26 : decode cX0_writeLimps 26 = .ok (.getfield 18, 3) := by decide +kernel
theorem dX0_writeLimps_29 : decode cX0_writeLimps 29 = .ok (.invokevirtual 36, 3) := by decide +kernel
theorem dX0_writeLimps_32 : decode cX0_writeLimps 32 = .ok (.ifCond .ne 17, 3) := by decide +kernel
theorem dX0_writeLimps_35 : decode cX0_writeLimps 35 = .ok (.aload_n 0, 1) := by decide +kernel
theorem dX0_writeLimps_36 : decode cX0_writeLimps 36 = .ok (.getfield 18, 3) := by decide +kernel
theorem dX0_writeLimps_39 : decode cX0_writeLimps 39 = .ok (.invokevirtual 44, 3) := by decide +kernel
theorem dX0_writeLimps_42 : decode cX0_writeLimps 42 = .ok (.ifCond .eq 7, 3) := by decide +kernel
theorem dX0_writeLimps_45 : decode cX0_writeLimps 45 = .ok (.iconst 1, 1) := by decide +kernel
theorem dX0_writeLimps_46 : decode cX0_writeLimps 46 = .ok (.goto 4, 3) := by decide +kernel
theorem dX0_writeLimps_49 : decode cX0_writeLimps 49 = .ok (.iconst 0, 1) := by decide +kernel
theorem dX0_writeLimps_50 : decode cX0_writeLimps 50 = .ok (.iastore, 1) := by decide +kernel
theorem dX0_writeLimps_51 : decode cX0_writeLimps 51 = .ok (.iload_n 3, 1) := by decide +kernel
theorem dX0_writeLimps_52 : decode cX0_writeLimps 52 = .ok (.aload_n 1, 1) := by decide +kernel
theorem dX0_writeLimps_53 : decode cX0_writeLimps 53 = .ok (.iload 4, 2) := by decide +kernel
theorem dX0_writeLimps_55 : decode cX0_writeLimps 55 = .ok (.iaload, 1) := by decide +kernel
theorem dX0_writeLimps_56 : decode cX0_writeLimps 56 = .ok (.iadd, 1) := by decide +kernel
theorem dX0_writeLimps_57 : decode cX0_writeLimps 57 = .ok (.istore_n 3, 1) := by decide +kernel
theorem dX0_writeLimps_58 : decode cX0_writeLimps 58 = .ok (.iinc 4 1, 3) := by decide +kernel
theorem dX0_writeLimps_61 : decode cX0_writeLimps 61 = .ok (.goto (-45), 3) := by decide +kernel
theorem dX0_writeLimps_64 : decode cX0_writeLimps 64 = .ok (.iload_n 3, 1) := by decide +kernel
theorem dX0_writeLimps_65 : decode cX0_writeLimps 65 = .ok (.ireturn, 1) := by decide +kernel
theorem dX0_fewestToGate_0 : decode cX0_fewestToGate 0 = .ok (.bipush (-9), 2) := by decide +kernel
theorem dX0_fewestToGate_2 : decode cX0_fewestToGate 2 = .ok (.istore_n 1, 1) := by decide +kernel
theorem dX0_fewestToGate_3 : decode cX0_fewestToGate 3 = .ok (.iconst 0, 1) := by decide +kernel
theorem dX0_fewestToGate_4 : decode cX0_fewestToGate 4 = .ok (.istore_n 2, 1) := by decide +kernel
theorem dX0_fewestToGate_5 : decode cX0_fewestToGate 5 = .ok (.iload_n 2, 1) := by decide +kernel
theorem dX0_fewestToGate_6 : decode cX0_fewestToGate 6 = .ok (.iconst 1, 1) := by decide +kernel
theorem dX0_fewestToGate_7 : decode cX0_fewestToGate 7 = .ok (.aload_n 0, 1) := by decide +kernel
theorem dX0_fewestToGate_8 : decode cX0_fewestToGate 8 = .ok (.getfield 9, 3) := by decide +kernel
theorem dX0_fewestToGate_11 : decode cX0_fewestToGate 11 = .ok (.getfield 47, 3) := by decide +kernel
theorem dX0_fewestToGate_14 : decode cX0_fewestToGate 14 = .ok (.ishl, 1) := by decide +kernel
theorem dX0_fewestToGate_15 : decode cX0_fewestToGate 15 = .ok (.if_icmp .ge 40, 3) := by decide +kernel
theorem dX0_fewestToGate_18 : decode cX0_fewestToGate 18 = .ok (.iload_n 2, 1) := by decide +kernel
theorem dX0_fewestToGate_19 : decode cX0_fewestToGate 19 = .ok (.invokestatic 50, 3) := by decide +kernel
theorem dX0_fewestToGate_22 : decode cX0_fewestToGate 22 = .ok (.istore_n 3, 1) := by decide +kernel
theorem dX0_fewestToGate_23 : decode cX0_fewestToGate 23 = .ok (.iload_n 1, 1) := by decide +kernel
theorem dX0_fewestToGate_24 : decode cX0_fewestToGate 24 = .ok (.bipush (-9), 2) := by decide +kernel
theorem dX0_fewestToGate_26 : decode cX0_fewestToGate 26 = .ok (.if_icmp .eq 8, 3) := by decide +kernel
theorem dX0_fewestToGate_29 : decode cX0_fewestToGate 29 = .ok (.iload_n 3, 1) := by decide +kernel
theorem dX0_fewestToGate_30 : decode cX0_fewestToGate 30 = .ok (.iload_n 1, 1) := by decide +kernel
theorem dX0_fewestToGate_31 : decode cX0_fewestToGate 31 = .ok (.if_icmp .ge 18, 3) := by decide +kernel
theorem dX0_fewestToGate_34 : decode cX0_fewestToGate 34 = .ok (.aload_n 0, 1) := by decide +kernel
theorem dX0_fewestToGate_35 : decode cX0_fewestToGate 35 = .ok (.iload_n 2, 1) := by decide +kernel
theorem dX0_fewestToGate_36 : decode cX0_fewestToGate 36 = .ok (.invokevirtual 55, 3) := by decide +kernel
theorem dX0_fewestToGate_39 : decode cX0_fewestToGate 39 = .ok (.ifCond .eq 10, 3) := by decide +kernel
theorem dX0_fewestToGate_42 : decode cX0_fewestToGate 42 = .ok (.iload_n 3, 1) := by decide +kernel
theorem dX0_fewestToGate_43 : decode cX0_fewestToGate 43 = .ok (.istore_n 1, 1) := by decide +kernel
theorem dX0_fewestToGate_44 : decode cX0_fewestToGate 44 = .ok (.aload_n 0, 1) := by decide +kernel
theorem dX0_fewestToGate_45 : decode cX0_fewestToGate 45 = .ok (.iload_n 2, 1) := by decide +kernel
theorem dX0_fewestToGate_46 : decode cX0_fewestToGate 46 = .ok (.putfield 29, 3) := by decide +kernel
theorem dX0_fewestToGate_49 : decode cX0_fewestToGate 49 = .ok (.iinc 2 1, 3) := by decide +kernel
theorem dX0_fewestToGate_52 : decode cX0_fewestToGate 52 = .ok (.goto (-47), 3) := by decide +kernel
theorem dX0_fewestToGate_55 : decode cX0_fewestToGate 55 = .ok (.iload_n 1, 1) := by decide +kernel
theorem dX0_fewestToGate_56 : decode cX0_fewestToGate 56 = .ok (.ireturn, 1) := by decide +kernel
theorem dX0_reachesGateWith_0 : decode cX0_reachesGateWith 0 = .ok (.aload_n 0, 1) := by decide +kernel
theorem dX0_reachesGateWith_1 : decode cX0_reachesGateWith 1 = .ok (.getfield 18, 3) := by decide +kernel
theorem dX0_reachesGateWith_4 : decode cX0_reachesGateWith 4 = .ok (.aload_n 0, 1) := by decide +kernel
theorem dX0_reachesGateWith_5 : decode cX0_reachesGateWith 5 = .ok (.getfield 9, 3) := by decide +kernel
theorem dX0_reachesGateWith_8 : decode cX0_reachesGateWith 8 = .ok (.invokevirtual 21, 3) := by decide +kernel
theorem dX0_reachesGateWith_11 : decode cX0_reachesGateWith 11 = .ok (.aload_n 0, 1) := by decide +kernel
theorem dX0_reachesGateWith_12 : decode cX0_reachesGateWith 12 = .ok (.getfield 18, 3) := by decide +kernel
theorem dX0_reachesGateWith_15 : decode cX0_reachesGateWith 15 = .ok (.iload_n 1, 1) := by decide +kernel
theorem dX0_reachesGateWith_16 : decode cX0_reachesGateWith 16 = .ok (.invokevirtual 59, 3) := by decide +kernel
theorem dX0_reachesGateWith_19 : decode cX0_reachesGateWith 19 = .ok (.aload_n 0, 1) := by decide +kernel
theorem dX0_reachesGateWith_20 : decode cX0_reachesGateWith 20 = .ok (.getfield 18, 3) := by decide +kernel
theorem dX0_reachesGateWith_23 : decode cX0_reachesGateWith 23 = .ok (.invokevirtual 63, 3) := by decide +kernel
theorem dX0_reachesGateWith_26 : decode cX0_reachesGateWith 26 = .ok (.ireturn, 1) := by decide +kernel
theorem dX0_bestStand_0 : decode cX0_bestStand 0 = .ok (.iconst 0, 1) := by decide +kernel
theorem dX0_bestStand_1 : decode cX0_bestStand 1 = .ok (.istore_n 1, 1) := by decide +kernel
theorem dX0_bestStand_2 : decode cX0_bestStand 2 = .ok (.aload_n 0, 1) := by decide +kernel
theorem dX0_bestStand_3 : decode cX0_bestStand 3 = .ok (.bipush 21, 2) := by decide +kernel
theorem dX0_bestStand_5 : decode cX0_bestStand 5 = .ok (.putfield 29, 3) := by decide +kernel
theorem dX0_bestStand_8 : decode cX0_bestStand 8 = .ok (.iconst 0, 1) := by decide +kernel
theorem dX0_bestStand_9 : decode cX0_bestStand 9 = .ok (.istore_n 2, 1) := by decide +kernel
theorem dX0_bestStand_10 : decode cX0_bestStand 10 = .ok (.iload_n 2, 1) := by decide +kernel
theorem dX0_bestStand_11 : decode cX0_bestStand 11 = .ok (.aload_n 0, 1) := by decide +kernel
theorem dX0_bestStand_12 : decode cX0_bestStand 12 = .ok (.getfield 9, 3) := by decide +kernel
theorem dX0_bestStand_15 : decode cX0_bestStand 15 = .ok (.getfield 47, 3) := by decide +kernel
theorem dX0_bestStand_18 : decode cX0_bestStand 18 = .ok (.if_icmp .ge 53, 3) := by decide +kernel
theorem dX0_bestStand_21 : decode cX0_bestStand 21 = .ok (.aload_n 0, 1) := by decide +kernel
theorem dX0_bestStand_22 : decode cX0_bestStand 22 = .ok (.getfield 18, 3) := by decide +kernel
theorem dX0_bestStand_25 : decode cX0_bestStand 25 = .ok (.aload_n 0, 1) := by decide +kernel
theorem dX0_bestStand_26 : decode cX0_bestStand 26 = .ok (.getfield 9, 3) := by decide +kernel
theorem dX0_bestStand_29 : decode cX0_bestStand 29 = .ok (.invokevirtual 21, 3) := by decide +kernel
theorem dX0_bestStand_32 : decode cX0_bestStand 32 = .ok (.aload_n 0, 1) := by decide +kernel
theorem dX0_bestStand_33 : decode cX0_bestStand 33 = .ok (.getfield 18, 3) := by decide +kernel
theorem dX0_bestStand_36 : decode cX0_bestStand 36 = .ok (.iload_n 2, 1) := by decide +kernel
theorem dX0_bestStand_37 : decode cX0_bestStand 37 = .ok (.putfield 66, 3) := by decide +kernel
theorem dX0_bestStand_40 : decode cX0_bestStand 40 = .ok (.aload_n 0, 1) := by decide +kernel
theorem dX0_bestStand_41 : decode cX0_bestStand 41 = .ok (.getfield 18, 3) := by decide +kernel
theorem dX0_bestStand_44 : decode cX0_bestStand 44 = .ok (.bipush 20, 2) := by decide +kernel
theorem dX0_bestStand_46 : decode cX0_bestStand 46 = .ok (.invokevirtual 69, 3) := by decide +kernel
theorem dX0_bestStand_49 : decode cX0_bestStand 49 = .ok (.istore_n 3, 1) := by decide +kernel
theorem dX0_bestStand_50 : decode cX0_bestStand 50 = .ok (.iload_n 3, 1) := by decide +kernel
theorem dX0_bestStand_51 : decode cX0_bestStand 51 = .ok (.aload_n 0, 1) := by decide +kernel
theorem dX0_bestStand_52 : decode cX0_bestStand 52 = .ok (.getfield 29, 3) := by decide +kernel
theorem dX0_bestStand_55 : decode cX0_bestStand 55 = .ok (.if_icmp .ge 10, 3) := by decide +kernel
theorem dX0_bestStand_58 : decode cX0_bestStand 58 = .ok (.aload_n 0, 1) := by decide +kernel
theorem dX0_bestStand_59 : decode cX0_bestStand 59 = .ok (.iload_n 3, 1) := by decide +kernel
theorem dX0_bestStand_60 : decode cX0_bestStand 60 = .ok (.putfield 29, 3) := by decide +kernel
theorem dX0_bestStand_63 : decode cX0_bestStand 63 = .ok (.iload_n 2, 1) := by decide +kernel
theorem dX0_bestStand_64 : decode cX0_bestStand 64 = .ok (.istore_n 1, 1) := by decide +kernel
theorem dX0_bestStand_65 : decode cX0_bestStand 65 = .ok (.iinc 2 1, 3) := by decide +kernel
theorem dX0_bestStand_68 : decode cX0_bestStand 68 = .ok (.goto (-58), 3) := by decide +kernel
theorem dX0_bestStand_71 : decode cX0_bestStand 71 = .ok (.iload_n 1, 1) := by decide +kernel
theorem dX0_bestStand_72 : decode cX0_bestStand 72 = .ok (.ireturn, 1) := by decide +kernel
theorem dX0_bestChange_0 : decode cX0_bestChange 0 = .ok (.aload_n 0, 1) := by decide +kernel
theorem dX0_bestChange_1 : decode cX0_bestChange 1 = .ok (.getfield 18, 3) := by decide +kernel
theorem dX0_bestChange_4 : decode cX0_bestChange 4 = .ok (.aload_n 0, 1) := by decide +kernel
theorem dX0_bestChange_5 : decode cX0_bestChange 5 = .ok (.getfield 9, 3) := by decide +kernel
theorem dX0_bestChange_8 : decode cX0_bestChange 8 = .ok (.invokevirtual 21, 3) := by decide +kernel
theorem dX0_bestChange_11 : decode cX0_bestChange 11 = .ok (.aload_n 0, 1) := by decide +kernel
theorem dX0_bestChange_12 : decode cX0_bestChange 12 = .ok (.aload_n 0, 1) := by decide +kernel
theorem dX0_bestChange_13 : decode cX0_bestChange 13 = .ok (.getfield 18, 3) := by decide +kernel
theorem dX0_bestChange_16 : decode cX0_bestChange 16 = .ok (.bipush 20, 2) := by decide +kernel
theorem dX0_bestChange_18 : decode cX0_bestChange 18 = .ok (.invokevirtual 69, 3) := by decide +kernel
theorem dX0_bestChange_21 : decode cX0_bestChange 21 = .ok (.putfield 29, 3) := by decide +kernel
theorem dX0_bestChange_24 : decode cX0_bestChange 24 = .ok (.bipush (-9), 2) := by decide +kernel
theorem dX0_bestChange_26 : decode cX0_bestChange 26 = .ok (.istore_n 1, 1) := by decide +kernel
theorem dX0_bestChange_27 : decode cX0_bestChange 27 = .ok (.iconst 0, 1) := by decide +kernel
theorem dX0_bestChange_28 : decode cX0_bestChange 28 = .ok (.istore_n 2, 1) := by decide +kernel
theorem dX0_bestChange_29 : decode cX0_bestChange 29 = .ok (.iload_n 2, 1) := by decide +kernel
theorem dX0_bestChange_30 : decode cX0_bestChange 30 = .ok (.aload_n 0, 1) := by decide +kernel
theorem dX0_bestChange_31 : decode cX0_bestChange 31 = .ok (.getfield 9, 3) := by decide +kernel
theorem dX0_bestChange_34 : decode cX0_bestChange 34 = .ok (.getfield 47, 3) := by decide +kernel
theorem dX0_bestChange_37 : decode cX0_bestChange 37 = .ok (.if_icmp .ge 83, 3) := by decide +kernel
theorem dX0_bestChange_40 : decode cX0_bestChange 40 = .ok (.iload_n 2, 1) := by decide +kernel
theorem dX0_bestChange_41 : decode cX0_bestChange 41 = .ok (.iconst 1, 1) := by decide +kernel
theorem dX0_bestChange_42 : decode cX0_bestChange 42 = .ok (.iadd, 1) := by decide +kernel
theorem dX0_bestChange_43 : decode cX0_bestChange 43 = .ok (.istore_n 3, 1) := by decide +kernel
theorem dX0_bestChange_44 : decode cX0_bestChange 44 = .ok (.iload_n 3, 1) := by decide +kernel
theorem dX0_bestChange_45 : decode cX0_bestChange 45 = .ok (.aload_n 0, 1) := by decide +kernel
theorem dX0_bestChange_46 : decode cX0_bestChange 46 = .ok (.getfield 9, 3) := by decide +kernel
theorem dX0_bestChange_49 : decode cX0_bestChange 49 = .ok (.getfield 47, 3) := by decide +kernel
theorem dX0_bestChange_52 : decode cX0_bestChange 52 = .ok (.if_icmp .ge 62, 3) := by decide +kernel
theorem dX0_bestChange_55 : decode cX0_bestChange 55 = .ok (.aload_n 0, 1) := by decide +kernel
theorem dX0_bestChange_56 : decode cX0_bestChange 56 = .ok (.getfield 18, 3) := by decide +kernel
theorem dX0_bestChange_59 : decode cX0_bestChange 59 = .ok (.aload_n 0, 1) := by decide +kernel
theorem dX0_bestChange_60 : decode cX0_bestChange 60 = .ok (.getfield 9, 3) := by decide +kernel
theorem dX0_bestChange_63 : decode cX0_bestChange 63 = .ok (.invokevirtual 21, 3) := by decide +kernel
theorem dX0_bestChange_66 : decode cX0_bestChange 66 = .ok (.aload_n 0, 1) := by decide +kernel
theorem dX0_bestChange_67 : decode cX0_bestChange 67 = .ok (.getfield 18, 3) := by decide +kernel
theorem dX0_bestChange_70 : decode cX0_bestChange 70 = .ok (.iload_n 2, 1) := by decide +kernel
theorem dX0_bestChange_71 : decode cX0_bestChange 71 = .ok (.iload_n 3, 1) := by decide +kernel
theorem dX0_bestChange_72 : decode cX0_bestChange 72 = .ok (.invokevirtual 72, 3) := by decide +kernel
theorem dX0_bestChange_75 : decode cX0_bestChange 75 = .ok (.aload_n 0, 1) := by decide +kernel
theorem dX0_bestChange_76 : decode cX0_bestChange 76 = .ok (.getfield 18, 3) := by decide +kernel
theorem dX0_bestChange_79 : decode cX0_bestChange 79 = .ok (.bipush 20, 2) := by decide +kernel
theorem dX0_bestChange_81 : decode cX0_bestChange 81 = .ok (.invokevirtual 69, 3) := by decide +kernel
theorem dX0_bestChange_84 : decode cX0_bestChange 84 = .ok (.istore 4, 2) := by decide +kernel
theorem dX0_bestChange_86 : decode cX0_bestChange 86 = .ok (.iload 4, 2) := by decide +kernel
theorem dX0_bestChange_88 : decode cX0_bestChange 88 = .ok (.aload_n 0, 1) := by decide +kernel
theorem dX0_bestChange_89 : decode cX0_bestChange 89 = .ok (.getfield 29, 3) := by decide +kernel
theorem dX0_bestChange_92 : decode cX0_bestChange 92 = .ok (.if_icmp .ge 16, 3) := by decide +kernel
theorem dX0_bestChange_95 : decode cX0_bestChange 95 = .ok (.aload_n 0, 1) := by decide +kernel
theorem dX0_bestChange_96 : decode cX0_bestChange 96 = .ok (.iload 4, 2) := by decide +kernel
theorem dX0_bestChange_98 : decode cX0_bestChange 98 = .ok (.putfield 29, 3) := by decide +kernel
theorem dX0_bestChange_101 : decode cX0_bestChange 101 = .ok (.bipush 10, 2) := by decide +kernel
theorem dX0_bestChange_103 : decode cX0_bestChange 103 = .ok (.iload_n 2, 1) := by decide +kernel
theorem dX0_bestChange_104 : decode cX0_bestChange 104 = .ok (.imul, 1) := by decide +kernel
theorem dX0_bestChange_105 : decode cX0_bestChange 105 = .ok (.iload_n 3, 1) := by decide +kernel
theorem dX0_bestChange_106 : decode cX0_bestChange 106 = .ok (.iadd, 1) := by decide +kernel
theorem dX0_bestChange_107 : decode cX0_bestChange 107 = .ok (.istore_n 1, 1) := by decide +kernel
theorem dX0_bestChange_108 : decode cX0_bestChange 108 = .ok (.iinc 3 1, 3) := by decide +kernel
theorem dX0_bestChange_111 : decode cX0_bestChange 111 = .ok (.goto (-67), 3) := by decide +kernel
theorem dX0_bestChange_114 : decode cX0_bestChange 114 = .ok (.iinc 2 1, 3) := by decide +kernel
theorem dX0_bestChange_117 : decode cX0_bestChange 117 = .ok (.goto (-88), 3) := by decide +kernel
theorem dX0_bestChange_120 : decode cX0_bestChange 120 = .ok (.iload_n 1, 1) := by decide +kernel
theorem dX0_bestChange_121 : decode cX0_bestChange 121 = .ok (.ireturn, 1) := by decide +kernel
theorem dX0_goneSets_0 : decode cX0_goneSets 0 = .ok (.iconst 1, 1) := by decide +kernel
theorem dX0_goneSets_1 : decode cX0_goneSets 1 = .ok (.aload_n 0, 1) := by decide +kernel
theorem dX0_goneSets_2 : decode cX0_goneSets 2 = .ok (.getfield 9, 3) := by decide +kernel
theorem dX0_goneSets_5 : decode cX0_goneSets 5 = .ok (.getfield 47, 3) := by decide +kernel
theorem dX0_goneSets_8 : decode cX0_goneSets 8 = .ok (.ishl, 1) := by decide +kernel
theorem dX0_goneSets_9 : decode cX0_goneSets 9 = .ok (.iconst 1, 1) := by decide +kernel
theorem dX0_goneSets_10 : decode cX0_goneSets 10 = .ok (.isub, 1) := by decide +kernel
theorem dX0_goneSets_11 : decode cX0_goneSets 11 = .ok (.istore_n 3, 1) := by decide +kernel
theorem dX0_goneSets_12 : decode cX0_goneSets 12 = .ok (.iconst 0, 1) := by decide +kernel
theorem dX0_goneSets_13 : decode cX0_goneSets 13 = .ok (.istore 4, 2) := by decide +kernel
theorem dX0_goneSets_15 : decode cX0_goneSets 15 = .ok (.iconst 0, 1) := by decide +kernel
theorem dX0_goneSets_16 : decode cX0_goneSets 16 = .ok (.istore 5, 2) := by decide +kernel
theorem dX0_goneSets_18 : decode cX0_goneSets 18 = .ok (.iload 5, 2) := by decide +kernel
theorem dX0_goneSets_20 : decode cX0_goneSets 20 = .ok (.iload_n 3, 1) := by decide +kernel
theorem dX0_goneSets_21 : decode cX0_goneSets 21 = .ok (.if_icmp .gt 59, 3) := by decide +kernel
theorem dX0_goneSets_24 : decode cX0_goneSets 24 = .ok (.aload_n 0, 1) := by decide +kernel
theorem dX0_goneSets_25 : decode cX0_goneSets 25 = .ok (.getfield 18, 3) := by decide +kernel
theorem dX0_goneSets_28 : decode cX0_goneSets 28 = .ok (.aload_n 0, 1) := by decide +kernel
theorem dX0_goneSets_29 : decode cX0_goneSets 29 = .ok (.getfield 9, 3) := by decide +kernel
theorem dX0_goneSets_32 : decode cX0_goneSets 32 = .ok (.invokevirtual 21, 3) := by decide +kernel
theorem dX0_goneSets_35 : decode cX0_goneSets 35 = .ok (.aload_n 0, 1) := by decide +kernel
theorem dX0_goneSets_36 : decode cX0_goneSets 36 = .ok (.getfield 18, 3) := by decide +kernel
theorem dX0_goneSets_39 : decode cX0_goneSets 39 = .ok (.iload_n 3, 1) := by decide +kernel
theorem dX0_goneSets_40 : decode cX0_goneSets 40 = .ok (.iload 5, 2) := by decide +kernel
theorem dX0_goneSets_42 : decode cX0_goneSets 42 = .ok (.iconst (-1), 1) := by decide +kernel
theorem dX0_goneSets_43 : decode cX0_goneSets 43 = .ok (.ixor, 1) := by decide +kernel
theorem dX0_goneSets_44 : decode cX0_goneSets 44 = .ok (.iand, 1) := by decide +kernel
theorem dX0_goneSets_45 : decode cX0_goneSets 45 = .ok (.putfield 76, 3) := by decide +kernel
theorem dX0_goneSets_48 : decode cX0_goneSets 48 = .ok (.aload_n 0, 1) := by decide +kernel
theorem dX0_goneSets_49 : decode cX0_goneSets 49 = .ok (.getfield 18, 3) := by decide +kernel
theorem dX0_goneSets_52 : decode cX0_goneSets 52 = .ok (.aload_n 1, 1) := by decide +kernel
theorem dX0_goneSets_53 : decode cX0_goneSets 53 = .ok (.iload_n 2, 1) := by decide +kernel
theorem dX0_goneSets_54 : decode cX0_goneSets 54 = .ok (.invokevirtual 79, 3) := by decide +kernel
theorem dX0_goneSets_57 : decode cX0_goneSets 57 = .ok (.ifCond .eq 17, 3) := by decide +kernel
theorem dX0_goneSets_60 : decode cX0_goneSets 60 = .ok (.iload 4, 2) := by decide +kernel
theorem dX0_goneSets_62 : decode cX0_goneSets 62 = .ok (.ifCond .ne 9, 3) := by decide +kernel
theorem dX0_goneSets_65 : decode cX0_goneSets 65 = .ok (.aload_n 0, 1) := by decide +kernel
theorem dX0_goneSets_66 : decode cX0_goneSets 66 = .ok (.iload 5, 2) := by decide +kernel
theorem dX0_goneSets_68 : decode cX0_goneSets 68 = .ok (.putfield 29, 3) := by decide +kernel
theorem dX0_goneSets_71 : decode cX0_goneSets 71 = .ok (.iinc 4 1, 3) := by decide +kernel
theorem dX0_goneSets_74 : decode cX0_goneSets 74 = .ok (.iinc 5 1, 3) := by decide +kernel
theorem dX0_goneSets_77 : decode cX0_goneSets 77 = .ok (.goto (-59), 3) := by decide +kernel
theorem dX0_goneSets_80 : decode cX0_goneSets 80 = .ok (.iload 4, 2) := by decide +kernel
theorem dX0_goneSets_82 : decode cX0_goneSets 82 = .ok (.ifCond .ne 8, 3) := by decide +kernel
theorem dX0_goneSets_85 : decode cX0_goneSets 85 = .ok (.bipush (-9), 2) := by decide +kernel
theorem dX0_goneSets_87 : decode cX0_goneSets 87 = .ok (.goto 5, 3) := by decide +kernel
theorem dX0_goneSets_90 : decode cX0_goneSets 90 = .ok (.iload 4, 2) := by decide +kernel
theorem dX0_goneSets_92 : decode cX0_goneSets 92 = .ok (.ireturn, 1) := by decide +kernel
theorem dX0_likelyStrengths_0 : decode cX0_likelyStrengths 0 = .ok (.iconst 0, 1) := by decide +kernel
theorem dX0_likelyStrengths_1 : decode cX0_likelyStrengths 1 = .ok (.istore 4, 2) := by decide +kernel
theorem dX0_likelyStrengths_3 : decode cX0_likelyStrengths 3 = .ok (.iconst 0, 1) := by decide +kernel
theorem dX0_likelyStrengths_4 : decode cX0_likelyStrengths 4 = .ok (.istore 5, 2) := by decide +kernel
theorem dX0_likelyStrengths_6 : decode cX0_likelyStrengths 6 = .ok (.iload 5, 2) := by decide +kernel
theorem dX0_likelyStrengths_8 : decode cX0_likelyStrengths 8 = .ok (.bipush 9, 2) := by decide +kernel
theorem dX0_likelyStrengths_10 : decode cX0_likelyStrengths 10 = .ok (.if_icmp .gt 52, 3) := by decide +kernel
theorem dX0_likelyStrengths_13 : decode cX0_likelyStrengths 13 = .ok (.aload_n 0, 1) := by decide +kernel
theorem dX0_likelyStrengths_14 : decode cX0_likelyStrengths 14 = .ok (.getfield 18, 3) := by decide +kernel
theorem dX0_likelyStrengths_17 : decode cX0_likelyStrengths 17 = .ok (.aload_n 0, 1) := by decide +kernel
theorem dX0_likelyStrengths_18 : decode cX0_likelyStrengths 18 = .ok (.getfield 9, 3) := by decide +kernel
theorem dX0_likelyStrengths_21 : decode cX0_likelyStrengths 21 = .ok (.invokevirtual 21, 3) := by decide +kernel
theorem dX0_likelyStrengths_24 : decode cX0_likelyStrengths 24 = .ok (.aload_n 0, 1) := by decide +kernel
theorem dX0_likelyStrengths_25 : decode cX0_likelyStrengths 25 = .ok (.getfield 18, 3) := by decide +kernel
theorem dX0_likelyStrengths_28 : decode cX0_likelyStrengths 28 = .ok (.getfield 83, 3) := by decide +kernel
theorem dX0_likelyStrengths_31 : decode cX0_likelyStrengths 31 = .ok (.iload_n 1, 1) := by decide +kernel
theorem dX0_likelyStrengths_32 : decode cX0_likelyStrengths 32 = .ok (.iload 5, 2) := by decide +kernel
theorem dX0_likelyStrengths_34 : decode cX0_likelyStrengths 34 = .ok (.iastore, 1) := by decide +kernel
theorem dX0_likelyStrengths_35 : decode cX0_likelyStrengths 35 = .ok (.aload_n 0, 1) := by decide +kernel
theorem dX0_likelyStrengths_36 : decode cX0_likelyStrengths 36 = .ok (.getfield 18, 3) := by decide +kernel
theorem dX0_likelyStrengths_39 : decode cX0_likelyStrengths 39 = .ok (.aload_n 2, 1) := by decide +kernel
theorem dX0_likelyStrengths_40 : decode cX0_likelyStrengths 40 = .ok (.iload_n 3, 1) := by decide +kernel
theorem dX0_likelyStrengths_41 : decode cX0_likelyStrengths 41 = .ok (.invokevirtual 79, 3) := by decide +kernel
theorem dX0_likelyStrengths_44 : decode cX0_likelyStrengths 44 = .ok (.ifCond .eq 12, 3) := by decide +kernel
theorem dX0_likelyStrengths_47 : decode cX0_likelyStrengths 47 = .ok (.iload 4, 2) := by decide +kernel
theorem dX0_likelyStrengths_49 : decode cX0_likelyStrengths 49 = .ok (.iconst 1, 1) := by decide +kernel
theorem dX0_likelyStrengths_50 : decode cX0_likelyStrengths 50 = .ok (.iload 5, 2) := by decide +kernel
theorem dX0_likelyStrengths_52 : decode cX0_likelyStrengths 52 = .ok (.ishl, 1) := by decide +kernel
theorem dX0_likelyStrengths_53 : decode cX0_likelyStrengths 53 = .ok (.ior, 1) := by decide +kernel
theorem dX0_likelyStrengths_54 : decode cX0_likelyStrengths 54 = .ok (.istore 4, 2) := by decide +kernel
theorem dX0_likelyStrengths_56 : decode cX0_likelyStrengths 56 = .ok (.iinc 5 1, 3) := by decide +kernel
theorem dX0_likelyStrengths_59 : decode cX0_likelyStrengths 59 = .ok (.goto (-53), 3) := by decide +kernel
theorem dX0_likelyStrengths_62 : decode cX0_likelyStrengths 62 = .ok (.iload 4, 2) := by decide +kernel
theorem dX0_likelyStrengths_64 : decode cX0_likelyStrengths 64 = .ok (.ireturn, 1) := by decide +kernel
theorem dX0_likelyKinds_0 : decode cX0_likelyKinds 0 = .ok (.iconst 0, 1) := by decide +kernel
theorem dX0_likelyKinds_1 : decode cX0_likelyKinds 1 = .ok (.istore 4, 2) := by decide +kernel
theorem dX0_likelyKinds_3 : decode cX0_likelyKinds 3 = .ok (.iconst 0, 1) := by decide +kernel
theorem dX0_likelyKinds_4 : decode cX0_likelyKinds 4 = .ok (.istore 5, 2) := by decide +kernel
theorem dX0_likelyKinds_6 : decode cX0_likelyKinds 6 = .ok (.iload 5, 2) := by decide +kernel
theorem dX0_likelyKinds_8 : decode cX0_likelyKinds 8 = .ok (.bipush 6, 2) := by decide +kernel
theorem dX0_likelyKinds_10 : decode cX0_likelyKinds 10 = .ok (.if_icmp .ge 52, 3) := by decide +kernel
theorem dX0_likelyKinds_13 : decode cX0_likelyKinds 13 = .ok (.aload_n 0, 1) := by decide +kernel
theorem dX0_likelyKinds_14 : decode cX0_likelyKinds 14 = .ok (.getfield 18, 3) := by decide +kernel
theorem dX0_likelyKinds_17 : decode cX0_likelyKinds 17 = .ok (.aload_n 0, 1) := by decide +kernel
theorem dX0_likelyKinds_18 : decode cX0_likelyKinds 18 = .ok (.getfield 9, 3) := by decide +kernel
theorem dX0_likelyKinds_21 : decode cX0_likelyKinds 21 = .ok (.invokevirtual 21, 3) := by decide +kernel
theorem dX0_likelyKinds_24 : decode cX0_likelyKinds 24 = .ok (.aload_n 0, 1) := by decide +kernel
theorem dX0_likelyKinds_25 : decode cX0_likelyKinds 25 = .ok (.getfield 18, 3) := by decide +kernel
theorem dX0_likelyKinds_28 : decode cX0_likelyKinds 28 = .ok (.getfield 87, 3) := by decide +kernel
theorem dX0_likelyKinds_31 : decode cX0_likelyKinds 31 = .ok (.iload_n 1, 1) := by decide +kernel
theorem dX0_likelyKinds_32 : decode cX0_likelyKinds 32 = .ok (.iload 5, 2) := by decide +kernel
theorem dX0_likelyKinds_34 : decode cX0_likelyKinds 34 = .ok (.iastore, 1) := by decide +kernel
theorem dX0_likelyKinds_35 : decode cX0_likelyKinds 35 = .ok (.aload_n 0, 1) := by decide +kernel
theorem dX0_likelyKinds_36 : decode cX0_likelyKinds 36 = .ok (.getfield 18, 3) := by decide +kernel
theorem dX0_likelyKinds_39 : decode cX0_likelyKinds 39 = .ok (.aload_n 2, 1) := by decide +kernel
theorem dX0_likelyKinds_40 : decode cX0_likelyKinds 40 = .ok (.iload_n 3, 1) := by decide +kernel
theorem dX0_likelyKinds_41 : decode cX0_likelyKinds 41 = .ok (.invokevirtual 79, 3) := by decide +kernel
theorem dX0_likelyKinds_44 : decode cX0_likelyKinds 44 = .ok (.ifCond .eq 12, 3) := by decide +kernel
theorem dX0_likelyKinds_47 : decode cX0_likelyKinds 47 = .ok (.iload 4, 2) := by decide +kernel
theorem dX0_likelyKinds_49 : decode cX0_likelyKinds 49 = .ok (.iconst 1, 1) := by decide +kernel
theorem dX0_likelyKinds_50 : decode cX0_likelyKinds 50 = .ok (.iload 5, 2) := by decide +kernel
theorem dX0_likelyKinds_52 : decode cX0_likelyKinds 52 = .ok (.ishl, 1) := by decide +kernel
theorem dX0_likelyKinds_53 : decode cX0_likelyKinds 53 = .ok (.ior, 1) := by decide +kernel
theorem dX0_likelyKinds_54 : decode cX0_likelyKinds 54 = .ok (.istore 4, 2) := by decide +kernel
theorem dX0_likelyKinds_56 : decode cX0_likelyKinds 56 = .ok (.iinc 5 1, 3) := by decide +kernel
theorem dX0_likelyKinds_59 : decode cX0_likelyKinds 59 = .ok (.goto (-53), 3) := by decide +kernel
theorem dX0_likelyKinds_62 : decode cX0_likelyKinds 62 = .ok (.iload 4, 2) := by decide +kernel
theorem dX0_likelyKinds_64 : decode cX0_likelyKinds 64 = .ok (.ireturn, 1) := by decide +kernel
theorem dX0_bestDepth_0 : decode cX0_bestDepth 0 = .ok (.iconst 0, 1) := by decide +kernel
theorem dX0_bestDepth_1 : decode cX0_bestDepth 1 = .ok (.istore_n 2, 1) := by decide +kernel
theorem dX0_bestDepth_2 : decode cX0_bestDepth 2 = .ok (.aload_n 0, 1) := by decide +kernel
theorem dX0_bestDepth_3 : decode cX0_bestDepth 3 = .ok (.bipush 7, 2) := by decide +kernel
theorem dX0_bestDepth_5 : decode cX0_bestDepth 5 = .ok (.putfield 29, 3) := by decide +kernel
theorem dX0_bestDepth_8 : decode cX0_bestDepth 8 = .ok (.iconst 0, 1) := by decide +kernel
theorem dX0_bestDepth_9 : decode cX0_bestDepth 9 = .ok (.istore_n 3, 1) := by decide +kernel
theorem dX0_bestDepth_10 : decode cX0_bestDepth 10 = .ok (.iload_n 3, 1) := by decide +kernel
theorem dX0_bestDepth_11 : decode cX0_bestDepth 11 = .ok (.bipush 9, 2) := by decide +kernel
theorem dX0_bestDepth_13 : decode cX0_bestDepth 13 = .ok (.if_icmp .gt 46, 3) := by decide +kernel
theorem dX0_bestDepth_16 : decode cX0_bestDepth 16 = .ok (.aload_n 0, 1) := by decide +kernel
theorem dX0_bestDepth_17 : decode cX0_bestDepth 17 = .ok (.iload_n 1, 1) := by decide +kernel
theorem dX0_bestDepth_18 : decode cX0_bestDepth 18 = .ok (.iload_n 3, 1) := by decide +kernel
theorem dX0_bestDepth_19 : decode cX0_bestDepth 19 = .ok (.invokevirtual 90, 3) := by decide +kernel
theorem dX0_bestDepth_22 : decode cX0_bestDepth 22 = .ok (.istore 4, 2) := by decide +kernel
theorem dX0_bestDepth_24 : decode cX0_bestDepth 24 = .ok (.iload 4, 2) := by decide +kernel
theorem dX0_bestDepth_26 : decode cX0_bestDepth 26 = .ok (.bipush 6, 2) := by decide +kernel
theorem dX0_bestDepth_28 : decode cX0_bestDepth 28 = .ok (.iload 4, 2) := by decide +kernel
theorem dX0_bestDepth_30 : decode cX0_bestDepth 30 = .ok (.isub, 1) := by decide +kernel
theorem dX0_bestDepth_31 : decode cX0_bestDepth 31 = .ok (.invokestatic 94, 3) := by decide +kernel
theorem dX0_bestDepth_34 : decode cX0_bestDepth 34 = .ok (.istore 5, 2) := by decide +kernel
theorem dX0_bestDepth_36 : decode cX0_bestDepth 36 = .ok (.iload 5, 2) := by decide +kernel
theorem dX0_bestDepth_38 : decode cX0_bestDepth 38 = .ok (.aload_n 0, 1) := by decide +kernel
theorem dX0_bestDepth_39 : decode cX0_bestDepth 39 = .ok (.getfield 29, 3) := by decide +kernel
theorem dX0_bestDepth_42 : decode cX0_bestDepth 42 = .ok (.if_icmp .ge 11, 3) := by decide +kernel
theorem dX0_bestDepth_45 : decode cX0_bestDepth 45 = .ok (.aload_n 0, 1) := by decide +kernel
theorem dX0_bestDepth_46 : decode cX0_bestDepth 46 = .ok (.iload 5, 2) := by decide +kernel
theorem dX0_bestDepth_48 : decode cX0_bestDepth 48 = .ok (.putfield 29, 3) := by decide +kernel
theorem dX0_bestDepth_51 : decode cX0_bestDepth 51 = .ok (.iload_n 3, 1) := by decide +kernel
theorem dX0_bestDepth_52 : decode cX0_bestDepth 52 = .ok (.istore_n 2, 1) := by decide +kernel
theorem dX0_bestDepth_53 : decode cX0_bestDepth 53 = .ok (.iinc 3 1, 3) := by decide +kernel
theorem dX0_bestDepth_56 : decode cX0_bestDepth 56 = .ok (.goto (-46), 3) := by decide +kernel
theorem dX0_bestDepth_59 : decode cX0_bestDepth 59 = .ok (.iload_n 2, 1) := by decide +kernel
theorem dX0_bestDepth_60 : decode cX0_bestDepth 60 = .ok (.ireturn, 1) := by decide +kernel
theorem dX0_kindsBearing_0 : decode cX0_kindsBearing 0 = .ok (.iconst 0, 1) := by decide +kernel
theorem dX0_kindsBearing_1 : decode cX0_kindsBearing 1 = .ok (.istore_n 3, 1) := by decide +kernel
theorem dX0_kindsBearing_2 : decode cX0_kindsBearing 2 = .ok (.iconst 0, 1) := by decide +kernel
theorem dX0_kindsBearing_3 : decode cX0_kindsBearing 3 = .ok (.istore 4, 2) := by decide +kernel
theorem dX0_kindsBearing_5 : decode cX0_kindsBearing 5 = .ok (.iload 4, 2) := by decide +kernel
theorem dX0_kindsBearing_7 : decode cX0_kindsBearing 7 = .ok (.bipush 6, 2) := by decide +kernel
theorem dX0_kindsBearing_9 : decode cX0_kindsBearing 9 = .ok (.if_icmp .ge 47, 3) := by decide +kernel
theorem dX0_kindsBearing_12 : decode cX0_kindsBearing 12 = .ok (.iload 4, 2) := by decide +kernel
theorem dX0_kindsBearing_14 : decode cX0_kindsBearing 14 = .ok (.aload_n 0, 1) := by decide +kernel
theorem dX0_kindsBearing_15 : decode cX0_kindsBearing 15 = .ok (.getfield 9, 3) := by decide +kernel
theorem dX0_kindsBearing_18 : decode cX0_kindsBearing 18 = .ok (.getfield 83, 3) := by decide +kernel
theorem dX0_kindsBearing_21 : decode cX0_kindsBearing 21 = .ok (.iload_n 1, 1) := by decide +kernel
theorem dX0_kindsBearing_22 : decode cX0_kindsBearing 22 = .ok (.iaload, 1) := by decide +kernel
theorem dX0_kindsBearing_23 : decode cX0_kindsBearing 23 = .ok (.aload_n 0, 1) := by decide +kernel
theorem dX0_kindsBearing_24 : decode cX0_kindsBearing 24 = .ok (.getfield 9, 3) := by decide +kernel
theorem dX0_kindsBearing_27 : decode cX0_kindsBearing 27 = .ok (.getfield 99, 3) := by decide +kernel
theorem dX0_kindsBearing_30 : decode cX0_kindsBearing 30 = .ok (.iload_n 1, 1) := by decide +kernel
theorem dX0_kindsBearing_31 : decode cX0_kindsBearing 31 = .ok (.iaload, 1) := by decide +kernel
theorem dX0_kindsBearing_32 : decode cX0_kindsBearing 32 = .ok (.iload_n 2, 1) := by decide +kernel
theorem dX0_kindsBearing_33 : decode cX0_kindsBearing 33 = .ok (.aload_n 0, 1) := by decide +kernel
theorem dX0_kindsBearing_34 : decode cX0_kindsBearing 34 = .ok (.getfield 9, 3) := by decide +kernel
theorem dX0_kindsBearing_37 : decode cX0_kindsBearing 37 = .ok (.getfield 102, 3) := by decide +kernel
theorem dX0_kindsBearing_40 : decode cX0_kindsBearing 40 = .ok (.invokestatic 106, 3) := by decide +kernel
theorem dX0_kindsBearing_43 : decode cX0_kindsBearing 43 = .ok (.iload_n 2, 1) := by decide +kernel
theorem dX0_kindsBearing_44 : decode cX0_kindsBearing 44 = .ok (.if_icmp .lt 6, 3) := by decide +kernel
theorem dX0_kindsBearing_47 : decode cX0_kindsBearing 47 = .ok (.iinc 3 1, 3) := by decide +kernel
theorem dX0_kindsBearing_50 : decode cX0_kindsBearing 50 = .ok (.iinc 4 1, 3) := by decide +kernel
theorem dX0_kindsBearing_53 : decode cX0_kindsBearing 53 = .ok (.goto (-48), 3) := by decide +kernel
theorem dX0_kindsBearing_56 : decode cX0_kindsBearing 56 = .ok (.iload_n 3, 1) := by decide +kernel
theorem dX0_kindsBearing_57 : decode cX0_kindsBearing 57 = .ok (.ireturn, 1) := by decide +kernel
theorem dX0_fight_0 : decode cX0_fight 0 = .ok (.iload_n 1, 1) := by decide +kernel
theorem dX0_fight_1 : decode cX0_fight 1 = .ok (.ifCond .gt 11, 3) := by decide +kernel
theorem dX0_fight_4 : decode cX0_fight 4 = .ok (.aload_n 0, 1) := by decide +kernel
theorem dX0_fight_5 : decode cX0_fight 5 = .ok (.iload_n 3, 1) := by decide +kernel
theorem dX0_fight_6 : decode cX0_fight 6 = .ok (.iload 4, 2) := by decide +kernel
theorem dX0_fight_8 : decode cX0_fight 8 = .ok (.invokevirtual 110, 3) := by decide +kernel
theorem dX0_fight_11 : decode cX0_fight 11 = .ok (.ireturn, 1) := by decide +kernel
theorem dX0_fight_12 : decode cX0_fight 12 = .ok (.aload_n 0, 1) := by decide +kernel
theorem dX0_fight_13 : decode cX0_fight 13 = .ok (.iload_n 1, 1) := by decide +kernel
theorem dX0_fight_14 : decode cX0_fight 14 = .ok (.iconst 1, 1) := by decide +kernel
theorem dX0_fight_15 : decode cX0_fight 15 = .ok (.isub, 1) := by decide +kernel
theorem dX0_fight_16 : decode cX0_fight 16 = .ok (.iload_n 2, 1) := by decide +kernel
theorem dX0_fight_17 : decode cX0_fight 17 = .ok (.ifCond .ne 7, 3) := by decide +kernel
theorem dX0_fight_20 : decode cX0_fight 20 = .ok (.iconst 1, 1) := by decide +kernel
theorem dX0_fight_21 : decode cX0_fight 21 = .ok (.goto 4, 3) := by decide +kernel
theorem dX0_fight_24 : decode cX0_fight 24 = .ok (.iconst 0, 1) := by decide +kernel
theorem dX0_fight_25 : decode cX0_fight 25 = .ok (.iload_n 3, 1) := by decide +kernel
theorem dX0_fight_26 : decode cX0_fight 26 = .ok (.iload 4, 2) := by decide +kernel
theorem dX0_fight_28 : decode cX0_fight 28 = .ok (.iload 5, 2) := by decide +kernel
theorem dX0_fight_30 : decode cX0_fight 30 = .ok (.iload 6, 2) := by decide +kernel
theorem dX0_fight_32 : decode cX0_fight 32 = .ok (.invokevirtual 113, 3) := by decide +kernel
theorem dX0_fight_35 : decode cX0_fight 35 = .ok (.istore 7, 2) := by decide +kernel
theorem dX0_fight_37 : decode cX0_fight 37 = .ok (.iload_n 2, 1) := by decide +kernel
theorem dX0_fight_38 : decode cX0_fight 38 = .ok (.ifCond .eq 13, 3) := by decide +kernel
theorem dX0_fight_41 : decode cX0_fight 41 = .ok (.iload 5, 2) := by decide +kernel
theorem dX0_fight_43 : decode cX0_fight 43 = .ok (.iload 7, 2) := by decide +kernel
theorem dX0_fight_45 : decode cX0_fight 45 = .ok (.invokestatic 94, 3) := by decide +kernel
theorem dX0_fight_48 : decode cX0_fight 48 = .ok (.goto 5, 3) := by decide +kernel
theorem dX0_fight_51 : decode cX0_fight 51 = .ok (.iload 5, 2) := by decide +kernel
theorem dX0_fight_53 : decode cX0_fight 53 = .ok (.istore 8, 2) := by decide +kernel
theorem dX0_fight_55 : decode cX0_fight 55 = .ok (.iload_n 2, 1) := by decide +kernel
theorem dX0_fight_56 : decode cX0_fight 56 = .ok (.ifCond .eq 8, 3) := by decide +kernel
theorem dX0_fight_59 : decode cX0_fight 59 = .ok (.iload 6, 2) := by decide +kernel
theorem dX0_fight_61 : decode cX0_fight 61 = .ok (.goto 10, 3) := by decide +kernel
theorem dX0_fight_64 : decode cX0_fight 64 = .ok (.iload 6, 2) := by decide +kernel
theorem dX0_fight_66 : decode cX0_fight 66 = .ok (.iload 7, 2) := by decide +kernel
theorem dX0_fight_68 : decode cX0_fight 68 = .ok (.invokestatic 117, 3) := by decide +kernel
theorem dX0_fight_71 : decode cX0_fight 71 = .ok (.istore 9, 2) := by decide +kernel
theorem dX0_fight_73 : decode cX0_fight 73 = .ok (.iconst 0, 1) := by decide +kernel
theorem dX0_fight_74 : decode cX0_fight 74 = .ok (.istore 10, 2) := by decide +kernel
theorem dX0_fight_76 : decode cX0_fight 76 = .ok (.iload 10, 2) := by decide +kernel
theorem dX0_fight_78 : decode cX0_fight 78 = .ok (.aload_n 0, 1) := by decide +kernel
theorem dX0_fight_79 : decode cX0_fight 79 = .ok (.getfield 9, 3) := by decide +kernel
theorem dX0_fight_82 : decode cX0_fight 82 = .ok (.getfield 47, 3) := by decide +kernel
theorem dX0_fight_85 : decode cX0_fight 85 = .ok (.if_icmp .ge 130, 3) := by decide +kernel
theorem dX0_fight_88 : decode cX0_fight 88 = .ok (.iload 8, 2) := by decide +kernel
theorem dX0_fight_90 : decode cX0_fight 90 = .ok (.iload 9, 2) := by decide +kernel
theorem dX0_fight_92 : decode cX0_fight 92 = .ok (.if_icmp .ge 123, 3) := by decide +kernel
theorem dX0_fight_95 : decode cX0_fight 95 = .ok (.iconst 1, 1) := by decide +kernel
theorem dX0_fight_96 : decode cX0_fight 96 = .ok (.iload 10, 2) := by decide +kernel
theorem dX0_fight_98 : decode cX0_fight 98 = .ok (.ishl, 1) := by decide +kernel
theorem dX0_fight_99 : decode cX0_fight 99 = .ok (.istore 11, 2) := by decide +kernel
theorem dX0_fight_101 : decode cX0_fight 101 = .ok (.iload_n 3, 1) := by decide +kernel
theorem dX0_fight_102 : decode cX0_fight 102 = .ok (.iload 11, 2) := by decide +kernel
theorem dX0_fight_104 : decode cX0_fight 104 = .ok (.iand, 1) := by decide +kernel
theorem dX0_fight_105 : decode cX0_fight 105 = .ok (.ifCond .eq 7, 3) := by decide +kernel
theorem dX0_fight_108 : decode cX0_fight 108 = .ok (.iconst 1, 1) := by decide +kernel
theorem dX0_fight_109 : decode cX0_fight 109 = .ok (.goto 4, 3) := by decide +kernel
theorem dX0_fight_112 : decode cX0_fight 112 = .ok (.iconst 0, 1) := by decide +kernel
theorem dX0_fight_113 : decode cX0_fight 113 = .ok (.istore 12, 2) := by decide +kernel
theorem dX0_fight_115 : decode cX0_fight 115 = .ok (.iload_n 2, 1) := by decide +kernel
theorem dX0_fight_116 : decode cX0_fight 116 = .ok (.ifCond .eq 47, 3) := by decide +kernel
theorem dX0_fight_119 : decode cX0_fight 119 = .ok (.iload 12, 2) := by decide +kernel
theorem dX0_fight_121 : decode cX0_fight 121 = .ok (.ifCond .eq 42, 3) := by decide +kernel
theorem dX0_fight_124 : decode cX0_fight 124 = .ok (.iload 7, 2) := by decide +kernel
theorem dX0_fight_126 : decode cX0_fight 126 = .ok (.aload_n 0, 1) := by decide +kernel
theorem dX0_fight_127 : decode cX0_fight 127 = .ok (.iload_n 1, 1) := by decide +kernel
theorem dX0_fight_128 : decode cX0_fight 128 = .ok (.iconst 1, 1) := by decide +kernel
theorem dX0_fight_129 : decode cX0_fight 129 = .ok (.isub, 1) := by decide +kernel
theorem dX0_fight_130 : decode cX0_fight 130 = .ok (.iconst 0, 1) := by decide +kernel
theorem dX0_fight_131 : decode cX0_fight 131 = .ok (.iload_n 3, 1) := by decide +kernel
theorem dX0_fight_132 : decode cX0_fight 132 = .ok (.iload 11, 2) := by decide +kernel
theorem dX0_fight_134 : decode cX0_fight 134 = .ok (.iconst (-1), 1) := by decide +kernel
theorem dX0_fight_135 : decode cX0_fight 135 = .ok (.ixor, 1) := by decide +kernel
theorem dX0_fight_136 : decode cX0_fight 136 = .ok (.iand, 1) := by decide +kernel
theorem dX0_fight_137 : decode cX0_fight 137 = .ok (.iload 4, 2) := by decide +kernel
theorem dX0_fight_139 : decode cX0_fight 139 = .ok (.iload 8, 2) := by decide +kernel
theorem dX0_fight_141 : decode cX0_fight 141 = .ok (.iload 9, 2) := by decide +kernel
theorem dX0_fight_143 : decode cX0_fight 143 = .ok (.invokevirtual 113, 3) := by decide +kernel
theorem dX0_fight_146 : decode cX0_fight 146 = .ok (.invokestatic 94, 3) := by decide +kernel
theorem dX0_fight_149 : decode cX0_fight 149 = .ok (.istore 7, 2) := by decide +kernel
theorem dX0_fight_151 : decode cX0_fight 151 = .ok (.iload 8, 2) := by decide +kernel
theorem dX0_fight_153 : decode cX0_fight 153 = .ok (.iload 7, 2) := by decide +kernel
theorem dX0_fight_155 : decode cX0_fight 155 = .ok (.invokestatic 94, 3) := by decide +kernel
theorem dX0_fight_158 : decode cX0_fight 158 = .ok (.istore 8, 2) := by decide +kernel
theorem dX0_fight_160 : decode cX0_fight 160 = .ok (.goto 49, 3) := by decide +kernel
theorem dX0_fight_163 : decode cX0_fight 163 = .ok (.iload_n 2, 1) := by decide +kernel
theorem dX0_fight_164 : decode cX0_fight 164 = .ok (.ifCond .ne 45, 3) := by decide +kernel
theorem dX0_fight_167 : decode cX0_fight 167 = .ok (.iload 12, 2) := by decide +kernel
theorem dX0_fight_169 : decode cX0_fight 169 = .ok (.ifCond .ne 40, 3) := by decide +kernel
theorem dX0_fight_172 : decode cX0_fight 172 = .ok (.iload 7, 2) := by decide +kernel
theorem dX0_fight_174 : decode cX0_fight 174 = .ok (.aload_n 0, 1) := by decide +kernel
theorem dX0_fight_175 : decode cX0_fight 175 = .ok (.iload_n 1, 1) := by decide +kernel
theorem dX0_fight_176 : decode cX0_fight 176 = .ok (.iconst 1, 1) := by decide +kernel
theorem dX0_fight_177 : decode cX0_fight 177 = .ok (.isub, 1) := by decide +kernel
theorem dX0_fight_178 : decode cX0_fight 178 = .ok (.iconst 1, 1) := by decide +kernel
theorem dX0_fight_179 : decode cX0_fight 179 = .ok (.iload_n 3, 1) := by decide +kernel
theorem dX0_fight_180 : decode cX0_fight 180 = .ok (.iload 11, 2) := by decide +kernel
theorem dX0_fight_182 : decode cX0_fight 182 = .ok (.ior, 1) := by decide +kernel
theorem dX0_fight_183 : decode cX0_fight 183 = .ok (.iload 4, 2) := by decide +kernel
theorem dX0_fight_185 : decode cX0_fight 185 = .ok (.iload 11, 2) := by decide +kernel
theorem dX0_fight_187 : decode cX0_fight 187 = .ok (.ior, 1) := by decide +kernel
theorem dX0_fight_188 : decode cX0_fight 188 = .ok (.iload 8, 2) := by decide +kernel
theorem dX0_fight_190 : decode cX0_fight 190 = .ok (.iload 9, 2) := by decide +kernel
theorem dX0_fight_192 : decode cX0_fight 192 = .ok (.invokevirtual 113, 3) := by decide +kernel
theorem dX0_fight_195 : decode cX0_fight 195 = .ok (.invokestatic 117, 3) := by decide +kernel
theorem dX0_fight_198 : decode cX0_fight 198 = .ok (.istore 7, 2) := by decide +kernel
theorem dX0_fight_200 : decode cX0_fight 200 = .ok (.iload 9, 2) := by decide +kernel
theorem dX0_fight_202 : decode cX0_fight 202 = .ok (.iload 7, 2) := by decide +kernel
theorem dX0_fight_204 : decode cX0_fight 204 = .ok (.invokestatic 117, 3) := by decide +kernel
theorem dX0_fight_207 : decode cX0_fight 207 = .ok (.istore 9, 2) := by decide +kernel
theorem dX0_fight_209 : decode cX0_fight 209 = .ok (.iinc 10 1, 3) := by decide +kernel
theorem dX0_fight_212 : decode cX0_fight 212 = .ok (.goto (-136), 3) := by decide +kernel
theorem dX0_fight_215 : decode cX0_fight 215 = .ok (.iload 7, 2) := by decide +kernel
theorem dX0_fight_217 : decode cX0_fight 217 = .ok (.ireturn, 1) := by decide +kernel
theorem dX0_limpsWith_0 : decode cX0_limpsWith 0 = .ok (.aload_n 0, 1) := by decide +kernel
theorem dX0_limpsWith_1 : decode cX0_limpsWith 1 = .ok (.getfield 18, 3) := by decide +kernel
theorem dX0_limpsWith_4 : decode cX0_limpsWith 4 = .ok (.aload_n 0, 1) := by decide +kernel
theorem dX0_limpsWith_5 : decode cX0_limpsWith 5 = .ok (.getfield 9, 3) := by decide +kernel
theorem dX0_limpsWith_8 : decode cX0_limpsWith 8 = .ok (.invokevirtual 21, 3) := by decide +kernel
theorem dX0_limpsWith_11 : decode cX0_limpsWith 11 = .ok (.aload_n 0, 1) := by decide +kernel
theorem dX0_limpsWith_12 : decode cX0_limpsWith 12 = .ok (.getfield 18, 3) := by decide +kernel
theorem dX0_limpsWith_15 : decode cX0_limpsWith 15 = .ok (.iload_n 2, 1) := by decide +kernel
theorem dX0_limpsWith_16 : decode cX0_limpsWith 16 = .ok (.invokevirtual 59, 3) := by decide +kernel
theorem dX0_limpsWith_19 : decode cX0_limpsWith 19 = .ok (.aload_n 0, 1) := by decide +kernel
theorem dX0_limpsWith_20 : decode cX0_limpsWith 20 = .ok (.getfield 18, 3) := by decide +kernel
theorem dX0_limpsWith_23 : decode cX0_limpsWith 23 = .ok (.iload_n 1, 1) := by decide +kernel
theorem dX0_limpsWith_24 : decode cX0_limpsWith 24 = .ok (.putfield 76, 3) := by decide +kernel
theorem dX0_limpsWith_27 : decode cX0_limpsWith 27 = .ok (.aload_n 0, 1) := by decide +kernel
theorem dX0_limpsWith_28 : decode cX0_limpsWith 28 = .ok (.getfield 18, 3) := by decide +kernel
theorem dX0_limpsWith_31 : decode cX0_limpsWith 31 = .ok (.bipush 12, 2) := by decide +kernel
theorem dX0_limpsWith_33 : decode cX0_limpsWith 33 = .ok (.invokevirtual 69, 3) := by decide +kernel
theorem dX0_limpsWith_36 : decode cX0_limpsWith 36 = .ok (.ireturn, 1) := by decide +kernel
theorem dX0_waysUpTo_0 : decode cX0_waysUpTo 0 = .ok (.lconst 0, 1) := by decide +kernel
theorem dX0_waysUpTo_1 : decode cX0_waysUpTo 1 = .ok (.lstore_n 3, 1) := by decide +kernel
theorem dX0_waysUpTo_2 : decode cX0_waysUpTo 2 = .ok (.iconst 0, 1) := by decide +kernel
theorem dX0_waysUpTo_3 : decode cX0_waysUpTo 3 = .ok (.istore 5, 2) := by decide +kernel
theorem dX0_waysUpTo_5 : decode cX0_waysUpTo 5 = .ok (.iload 5, 2) := by decide +kernel
theorem dX0_waysUpTo_7 : decode cX0_waysUpTo 7 = .ok (.iconst 1, 1) := by decide +kernel
theorem dX0_waysUpTo_8 : decode cX0_waysUpTo 8 = .ok (.aload_n 0, 1) := by decide +kernel
theorem dX0_waysUpTo_9 : decode cX0_waysUpTo 9 = .ok (.getfield 9, 3) := by decide +kernel
theorem dX0_waysUpTo_12 : decode cX0_waysUpTo 12 = .ok (.getfield 47, 3) := by decide +kernel
theorem dX0_waysUpTo_15 : decode cX0_waysUpTo 15 = .ok (.ishl, 1) := by decide +kernel
theorem dX0_waysUpTo_16 : decode cX0_waysUpTo 16 = .ok (.if_icmp .ge 51, 3) := by decide +kernel
theorem dX0_waysUpTo_19 : decode cX0_waysUpTo 19 = .ok (.aload_n 0, 1) := by decide +kernel
theorem dX0_waysUpTo_20 : decode cX0_waysUpTo 20 = .ok (.iload 5, 2) := by decide +kernel
theorem dX0_waysUpTo_22 : decode cX0_waysUpTo 22 = .ok (.iload_n 2, 1) := by decide +kernel
theorem dX0_waysUpTo_23 : decode cX0_waysUpTo 23 = .ok (.invokevirtual 120, 3) := by decide +kernel
theorem dX0_waysUpTo_26 : decode cX0_waysUpTo 26 = .ok (.lstore 6, 2) := by decide +kernel
theorem dX0_waysUpTo_28 : decode cX0_waysUpTo 28 = .ok (.lload 6, 2) := by decide +kernel
theorem dX0_waysUpTo_30 : decode cX0_waysUpTo 30 = .ok (.lconst 0, 1) := by decide +kernel
theorem dX0_waysUpTo_31 : decode cX0_waysUpTo 31 = .ok (.lcmp, 1) := by decide +kernel
theorem dX0_waysUpTo_32 : decode cX0_waysUpTo 32 = .ok (.ifCond .eq 29, 3) := by decide +kernel
theorem dX0_waysUpTo_35 : decode cX0_waysUpTo 35 = .ok (.aload_n 0, 1) := by decide +kernel
theorem dX0_waysUpTo_36 : decode cX0_waysUpTo 36 = .ok (.aload_n 0, 1) := by decide +kernel
theorem dX0_waysUpTo_37 : decode cX0_waysUpTo 37 = .ok (.getfield 9, 3) := by decide +kernel
theorem dX0_waysUpTo_40 : decode cX0_waysUpTo 40 = .ok (.getfield 76, 3) := by decide +kernel
theorem dX0_waysUpTo_43 : decode cX0_waysUpTo 43 = .ok (.iload 5, 2) := by decide +kernel
theorem dX0_waysUpTo_45 : decode cX0_waysUpTo 45 = .ok (.iconst (-1), 1) := by decide +kernel
theorem dX0_waysUpTo_46 : decode cX0_waysUpTo 46 = .ok (.ixor, 1) := by decide +kernel
theorem dX0_waysUpTo_47 : decode cX0_waysUpTo 47 = .ok (.iand, 1) := by decide +kernel
theorem dX0_waysUpTo_48 : decode cX0_waysUpTo 48 = .ok (.iconst 0, 1) := by decide +kernel
theorem dX0_waysUpTo_49 : decode cX0_waysUpTo 49 = .ok (.invokevirtual 110, 3) := by decide +kernel
theorem dX0_waysUpTo_52 : decode cX0_waysUpTo 52 = .ok (.iload_n 1, 1) := by decide +kernel
theorem dX0_waysUpTo_53 : decode cX0_waysUpTo 53 = .ok (.if_icmp .gt 8, 3) := by decide +kernel
theorem dX0_waysUpTo_56 : decode cX0_waysUpTo 56 = .ok (.lload_n 3, 1) := by decide +kernel
theorem dX0_waysUpTo_57 : decode cX0_waysUpTo 57 = .ok (.lload 6, 2) := by decide +kernel
theorem dX0_waysUpTo_59 : decode cX0_waysUpTo 59 = .ok (.ladd, 1) := by decide +kernel
theorem dX0_waysUpTo_60 : decode cX0_waysUpTo 60 = .ok (.lstore_n 3, 1) := by decide +kernel
theorem dX0_waysUpTo_61 : decode cX0_waysUpTo 61 = .ok (.iinc 5 1, 3) := by decide +kernel
theorem dX0_waysUpTo_64 : decode cX0_waysUpTo 64 = .ok (.goto (-59), 3) := by decide +kernel
theorem dX0_waysUpTo_67 : decode cX0_waysUpTo 67 = .ok (.lload_n 3, 1) := by decide +kernel
theorem dX0_waysUpTo_68 : decode cX0_waysUpTo 68 = .ok (.lreturn, 1) := by decide +kernel
theorem dX0_limpsOverWays_0 : decode cX0_limpsOverWays 0 = .ok (.lconst 0, 1) := by decide +kernel
theorem dX0_limpsOverWays_1 : decode cX0_limpsOverWays 1 = .ok (.lstore_n 2, 1) := by decide +kernel
theorem dX0_limpsOverWays_2 : decode cX0_limpsOverWays 2 = .ok (.iconst 0, 1) := by decide +kernel
theorem dX0_limpsOverWays_3 : decode cX0_limpsOverWays 3 = .ok (.istore 4, 2) := by decide +kernel
theorem dX0_limpsOverWays_5 : decode cX0_limpsOverWays 5 = .ok (.iload 4, 2) := by decide +kernel
theorem dX0_limpsOverWays_7 : decode cX0_limpsOverWays 7 = .ok (.iconst 1, 1) := by decide +kernel
theorem dX0_limpsOverWays_8 : decode cX0_limpsOverWays 8 = .ok (.aload_n 0, 1) := by decide +kernel
theorem dX0_limpsOverWays_9 : decode cX0_limpsOverWays 9 = .ok (.getfield 9, 3) := by decide +kernel
theorem dX0_limpsOverWays_12 : decode cX0_limpsOverWays 12 = .ok (.getfield 47, 3) := by decide +kernel
theorem dX0_limpsOverWays_15 : decode cX0_limpsOverWays 15 = .ok (.ishl, 1) := by decide +kernel
theorem dX0_limpsOverWays_16 : decode cX0_limpsOverWays 16 = .ok (.if_icmp .ge 49, 3) := by decide +kernel
theorem dX0_limpsOverWays_19 : decode cX0_limpsOverWays 19 = .ok (.aload_n 0, 1) := by decide +kernel
theorem dX0_limpsOverWays_20 : decode cX0_limpsOverWays 20 = .ok (.iload 4, 2) := by decide +kernel
theorem dX0_limpsOverWays_22 : decode cX0_limpsOverWays 22 = .ok (.iload_n 1, 1) := by decide +kernel
theorem dX0_limpsOverWays_23 : decode cX0_limpsOverWays 23 = .ok (.invokevirtual 120, 3) := by decide +kernel
theorem dX0_limpsOverWays_26 : decode cX0_limpsOverWays 26 = .ok (.lstore 5, 2) := by decide +kernel
theorem dX0_limpsOverWays_28 : decode cX0_limpsOverWays 28 = .ok (.lload 5, 2) := by decide +kernel
theorem dX0_limpsOverWays_30 : decode cX0_limpsOverWays 30 = .ok (.lconst 0, 1) := by decide +kernel
theorem dX0_limpsOverWays_31 : decode cX0_limpsOverWays 31 = .ok (.lcmp, 1) := by decide +kernel
theorem dX0_limpsOverWays_32 : decode cX0_limpsOverWays 32 = .ok (.ifCond .eq 27, 3) := by decide +kernel
theorem dX0_limpsOverWays_35 : decode cX0_limpsOverWays 35 = .ok (.lload_n 2, 1) := by decide +kernel
theorem dX0_limpsOverWays_36 : decode cX0_limpsOverWays 36 = .ok (.lload 5, 2) := by decide +kernel
theorem dX0_limpsOverWays_38 : decode cX0_limpsOverWays 38 = .ok (.aload_n 0, 1) := by decide +kernel
theorem dX0_limpsOverWays_39 : decode cX0_limpsOverWays 39 = .ok (.aload_n 0, 1) := by decide +kernel
theorem dX0_limpsOverWays_40 : decode cX0_limpsOverWays 40 = .ok (.getfield 9, 3) := by decide +kernel
theorem dX0_limpsOverWays_43 : decode cX0_limpsOverWays 43 = .ok (.getfield 76, 3) := by decide +kernel
theorem dX0_limpsOverWays_46 : decode cX0_limpsOverWays 46 = .ok (.iload 4, 2) := by decide +kernel
theorem dX0_limpsOverWays_48 : decode cX0_limpsOverWays 48 = .ok (.iconst (-1), 1) := by decide +kernel
theorem dX0_limpsOverWays_49 : decode cX0_limpsOverWays 49 = .ok (.ixor, 1) := by decide +kernel
theorem dX0_limpsOverWays_50 : decode cX0_limpsOverWays 50 = .ok (.iand, 1) := by decide +kernel
theorem dX0_limpsOverWays_51 : decode cX0_limpsOverWays 51 = .ok (.iconst 0, 1) := by decide +kernel
theorem dX0_limpsOverWays_52 : decode cX0_limpsOverWays 52 = .ok (.invokevirtual 110, 3) := by decide +kernel
theorem dX0_limpsOverWays_55 : decode cX0_limpsOverWays 55 = .ok (.i2l, 1) := by decide +kernel
theorem dX0_limpsOverWays_56 : decode cX0_limpsOverWays 56 = .ok (.lmul, 1) := by decide +kernel
theorem dX0_limpsOverWays_57 : decode cX0_limpsOverWays 57 = .ok (.ladd, 1) := by decide +kernel
theorem dX0_limpsOverWays_58 : decode cX0_limpsOverWays 58 = .ok (.lstore_n 2, 1) := by decide +kernel
theorem dX0_limpsOverWays_59 : decode cX0_limpsOverWays 59 = .ok (.iinc 4 1, 3) := by decide +kernel
theorem dX0_limpsOverWays_62 : decode cX0_limpsOverWays 62 = .ok (.goto (-57), 3) := by decide +kernel
theorem dX0_limpsOverWays_65 : decode cX0_limpsOverWays 65 = .ok (.lload_n 2, 1) := by decide +kernel
theorem dX0_limpsOverWays_66 : decode cX0_limpsOverWays 66 = .ok (.lreturn, 1) := by decide +kernel
theorem dX0_waysToLose_0 : decode cX0_waysToLose 0 = .ok (.iload_n 1, 1) := by decide +kernel
theorem dX0_waysToLose_1 : decode cX0_waysToLose 1 = .ok (.aload_n 0, 1) := by decide +kernel
theorem dX0_waysToLose_2 : decode cX0_waysToLose 2 = .ok (.getfield 9, 3) := by decide +kernel
theorem dX0_waysToLose_5 : decode cX0_waysToLose 5 = .ok (.getfield 76, 3) := by decide +kernel
theorem dX0_waysToLose_8 : decode cX0_waysToLose 8 = .ok (.iconst (-1), 1) := by decide +kernel
theorem dX0_waysToLose_9 : decode cX0_waysToLose 9 = .ok (.ixor, 1) := by decide +kernel
theorem dX0_waysToLose_10 : decode cX0_waysToLose 10 = .ok (.iand, 1) := by decide +kernel
theorem dX0_waysToLose_11 : decode cX0_waysToLose 11 = .ok (.ifCond .eq 5, 3) := by decide +kernel
theorem dX0_waysToLose_14 : decode cX0_waysToLose 14 = .ok (.lconst 0, 1) := by decide +kernel
theorem dX0_waysToLose_15 : decode cX0_waysToLose 15 = .ok (.lreturn, 1) := by decide +kernel
theorem dX0_waysToLose_16 : decode cX0_waysToLose 16 = .ok (.iload_n 1, 1) := by decide +kernel
theorem dX0_waysToLose_17 : decode cX0_waysToLose 17 = .ok (.invokestatic 50, 3) := by decide +kernel
theorem dX0_waysToLose_20 : decode cX0_waysToLose 20 = .ok (.istore_n 3, 1) := by decide +kernel
theorem dX0_waysToLose_21 : decode cX0_waysToLose 21 = .ok (.aload_n 0, 1) := by decide +kernel
theorem dX0_waysToLose_22 : decode cX0_waysToLose 22 = .ok (.getfield 9, 3) := by decide +kernel
theorem dX0_waysToLose_25 : decode cX0_waysToLose 25 = .ok (.getfield 76, 3) := by decide +kernel
theorem dX0_waysToLose_28 : decode cX0_waysToLose 28 = .ok (.invokestatic 50, 3) := by decide +kernel
theorem dX0_waysToLose_31 : decode cX0_waysToLose 31 = .ok (.iload_n 3, 1) := by decide +kernel
theorem dX0_waysToLose_32 : decode cX0_waysToLose 32 = .ok (.isub, 1) := by decide +kernel
theorem dX0_waysToLose_33 : decode cX0_waysToLose 33 = .ok (.istore 4, 2) := by decide +kernel
theorem dX0_waysToLose_35 : decode cX0_waysToLose 35 = .ok (.iload_n 2, 1) := by decide +kernel
theorem dX0_waysToLose_36 : decode cX0_waysToLose 36 = .ok (.i2l, 1) := by decide +kernel
theorem dX0_waysToLose_37 : decode cX0_waysToLose 37 = .ok (.iload_n 3, 1) := by decide +kernel
theorem dX0_waysToLose_38 : decode cX0_waysToLose 38 = .ok (.invokestatic 124, 3) := by decide +kernel
theorem dX0_waysToLose_41 : decode cX0_waysToLose 41 = .ok (.bipush 12, 2) := by decide +kernel
theorem dX0_waysToLose_43 : decode cX0_waysToLose 43 = .ok (.iload_n 2, 1) := by decide +kernel
theorem dX0_waysToLose_44 : decode cX0_waysToLose 44 = .ok (.isub, 1) := by decide +kernel
theorem dX0_waysToLose_45 : decode cX0_waysToLose 45 = .ok (.i2l, 1) := by decide +kernel
theorem dX0_waysToLose_46 : decode cX0_waysToLose 46 = .ok (.iload 4, 2) := by decide +kernel
theorem dX0_waysToLose_48 : decode cX0_waysToLose 48 = .ok (.invokestatic 124, 3) := by decide +kernel
theorem dX0_waysToLose_51 : decode cX0_waysToLose 51 = .ok (.lmul, 1) := by decide +kernel
theorem dX0_waysToLose_52 : decode cX0_waysToLose 52 = .ok (.lreturn, 1) := by decide +kernel
theorem dX1_init_0 : decode cX1_init 0 = .ok (.aload_n 0, 1) := by decide +kernel
theorem dX1_init_1 : decode cX1_init 1 = .ok (.invokespecial 3, 3) := by decide +kernel
theorem dX1_init_4 : decode cX1_init 4 = .ok (.aload_n 0, 1) := by decide +kernel
theorem dX1_init_5 : decode cX1_init 5 = .ok (.new 9, 3) := by decide +kernel
theorem dX1_init_8 : decode cX1_init 8 = .ok (.dup, 1) := by decide +kernel
theorem dX1_init_9 : decode cX1_init 9 = .ok (.invokespecial 11, 3) := by decide +kernel
theorem dX1_init_12 : decode cX1_init 12 = .ok (.putfield 12, 3) := by decide +kernel
theorem dX1_init_15 : decode cX1_init 15 = .ok (.aload_n 0, 1) := by decide +kernel
theorem dX1_init_16 : decode cX1_init 16 = .ok (.bipush 40, 2) := by decide +kernel
theorem dX1_init_18 : decode cX1_init 18 = .ok (.newarray .int, 2) := by decide +kernel
theorem dX1_init_20 : decode cX1_init 20 = .ok (.putfield 18, 3) := by decide +kernel
theorem dX1_init_23 : decode cX1_init 23 = .ok (.aload_n 0, 1) := by decide +kernel
theorem dX1_init_24 : decode cX1_init 24 = .ok (.bipush 40, 2) := by decide +kernel
theorem dX1_init_26 : decode cX1_init 26 = .ok (.newarray .int, 2) := by decide +kernel
theorem dX1_init_28 : decode cX1_init 28 = .ok (.putfield 22, 3) := by decide +kernel
theorem dX1_init_31 : decode cX1_init 31 = .ok (.return_, 1) := by decide +kernel
theorem dX1_begin_0 : decode cX1_begin 0 = .ok (.aload_n 0, 1) := by decide +kernel
theorem dX1_begin_1 : decode cX1_begin 1 = .ok (.getfield 12, 3) := by decide +kernel
theorem dX1_begin_4 : decode cX1_begin 4 = .ok (.aload_n 1, 1) := by decide +kernel
theorem dX1_begin_5 : decode cX1_begin 5 = .ok (.invokevirtual 25, 3) := by decide +kernel
theorem dX1_begin_8 : decode cX1_begin 8 = .ok (.aload_n 0, 1) := by decide +kernel
theorem dX1_begin_9 : decode cX1_begin 9 = .ok (.getfield 12, 3) := by decide +kernel
theorem dX1_begin_12 : decode cX1_begin 12 = .ok (.invokevirtual 29, 3) := by decide +kernel
theorem dX1_begin_15 : decode cX1_begin 15 = .ok (.aload_n 0, 1) := by decide +kernel
theorem dX1_begin_16 : decode cX1_begin 16 = .ok (.iconst 0, 1) := by decide +kernel
theorem dX1_begin_17 : decode cX1_begin 17 = .ok (.putfield 32, 3) := by decide +kernel
theorem dX1_begin_20 : decode cX1_begin 20 = .ok (.return_, 1) := by decide +kernel
theorem dX1_take_0 : decode cX1_take 0 = .ok (.aload_n 0, 1) := by decide +kernel
theorem dX1_take_1 : decode cX1_take 1 = .ok (.getfield 12, 3) := by decide +kernel
theorem dX1_take_4 : decode cX1_take 4 = .ok (.aload_n 1, 1) := by decide +kernel
theorem dX1_take_5 : decode cX1_take 5 = .ok (.getfield 12, 3) := by decide +kernel
theorem dX1_take_8 : decode cX1_take 8 = .ok (.invokevirtual 25, 3) := by decide +kernel
theorem dX1_take_11 : decode cX1_take 11 = .ok (.aload_n 1, 1) := by decide +kernel
theorem dX1_take_12 : decode cX1_take 12 = .ok (.getfield 18, 3) := by decide +kernel
theorem dX1_take_15 : decode cX1_take 15 = .ok (.iconst 0, 1) := by decide +kernel
theorem dX1_take_16 : decode cX1_take 16 = .ok (.aload_n 0, 1) := by decide +kernel
theorem dX1_take_17 : decode cX1_take 17 = .ok (.getfield 18, 3) := by decide +kernel
theorem dX1_take_20 : decode cX1_take 20 = .ok (.iconst 0, 1) := by decide +kernel
theorem dX1_take_21 : decode cX1_take 21 = .ok (.bipush 40, 2) := by decide +kernel
theorem dX1_take_23 : decode cX1_take 23 = .ok (.invokestatic 36, 3) := by decide +kernel
theorem dX1_take_26 : decode cX1_take 26 = .ok (.aload_n 1, 1) := by decide +kernel
theorem dX1_take_27 : decode cX1_take 27 = .ok (.getfield 22, 3) := by decide +kernel
theorem dX1_take_30 : decode cX1_take 30 = .ok (.iconst 0, 1) := by decide +kernel
theorem dX1_take_31 : decode cX1_take 31 = .ok (.aload_n 0, 1) := by decide +kernel
theorem dX1_take_32 : decode cX1_take 32 = .ok (.getfield 22, 3) := by decide +kernel
theorem dX1_take_35 : decode cX1_take 35 = .ok (.iconst 0, 1) := by decide +kernel
theorem dX1_take_36 : decode cX1_take 36 = .ok (.bipush 40, 2) := by decide +kernel
theorem dX1_take_38 : decode cX1_take 38 = .ok (.invokestatic 36, 3) := by decide +kernel
theorem dX1_take_41 : decode cX1_take 41 = .ok (.aload_n 0, 1) := by decide +kernel
theorem dX1_take_42 : decode cX1_take 42 = .ok (.aload_n 1, 1) := by decide +kernel
theorem dX1_take_43 : decode cX1_take 43 = .ok (.getfield 32, 3) := by decide +kernel
theorem dX1_take_46 : decode cX1_take 46 = .ok (.putfield 32, 3) := by decide +kernel
theorem dX1_take_49 : decode cX1_take 49 = .ok (.return_, 1) := by decide +kernel
theorem dX1_add_0 : decode cX1_add 0 = .ok (.aload_n 0, 1) := by decide +kernel
theorem dX1_add_1 : decode cX1_add 1 = .ok (.getfield 32, 3) := by decide +kernel
theorem dX1_add_4 : decode cX1_add 4 = .ok (.ifCond .lt 12, 3) := by decide +kernel
theorem dX1_add_7 : decode cX1_add 7 = .ok (.aload_n 0, 1) := by decide +kernel
theorem dX1_add_8 : decode cX1_add 8 = .ok (.getfield 32, 3) := by decide +kernel
theorem dX1_add_11 : decode cX1_add 11 = .ok (.bipush 40, 2) := by decide +kernel
theorem dX1_add_13 : decode cX1_add 13 = .ok (.if_icmp .lt 6, 3) := by decide +kernel
theorem dX1_add_16 : decode cX1_add 16 = .ok (.bipush (-2), 2) := by decide +kernel
theorem dX1_add_18 : decode cX1_add 18 = .ok (.ireturn, 1) := by decide +kernel
theorem dX1_add_19 : decode cX1_add 19 = .ok (.aload_n 0, 1) := by decide +kernel
theorem dX1_add_20 : decode cX1_add 20 = .ok (.getfield 18, 3) := by decide +kernel
theorem dX1_add_23 : decode cX1_add 23 = .ok (.aload_n 0, 1) := by decide +kernel
theorem dX1_add_24 : decode cX1_add 24 = .ok (.getfield 32, 3) := by decide +kernel
theorem dX1_add_27 : decode cX1_add 27 = .ok (.iload_n 1, 1) := by decide +kernel
theorem dX1_add_28 : decode cX1_add 28 = .ok (.iastore, 1) := by decide +kernel
theorem dX1_add_29 : decode cX1_add 29 = .ok (.aload_n 0, 1) := by decide +kernel
theorem dX1_add_30 : decode cX1_add 30 = .ok (.getfield 22, 3) := by decide +kernel
theorem dX1_add_33 : decode cX1_add 33 = .ok (.aload_n 0, 1) := by decide +kernel
theorem dX1_add_34 : decode cX1_add 34 = .ok (.getfield 32, 3) := by decide +kernel
theorem dX1_add_37 : decode cX1_add 37 = .ok (.iload_n 2, 1) := by decide +kernel
theorem dX1_add_38 : decode cX1_add 38 = .ok (.iastore, 1) := by decide +kernel
theorem dX1_add_39 : decode cX1_add 39 = .ok (.aload_n 0, 1) := by decide +kernel
theorem dX1_add_40 : decode cX1_add 40 = .ok (.dup, 1) := by decide +kernel
theorem dX1_add_41 : decode cX1_add 41 = .ok (.getfield 32, 3) := by decide +kernel
theorem dX1_add_44 : decode cX1_add 44 = .ok (.iconst 1, 1) := by decide +kernel
theorem dX1_add_45 : decode cX1_add 45 = .ok (.iadd, 1) := by decide +kernel
theorem dX1_add_46 : decode cX1_add 46 = .ok (.putfield 32, 3) := by decide +kernel
theorem dX1_add_49 : decode cX1_add 49 = .ok (.aload_n 0, 1) := by decide +kernel
theorem dX1_add_50 : decode cX1_add 50 = .ok (.getfield 12, 3) := by decide +kernel
theorem dX1_add_53 : decode cX1_add 53 = .ok (.iload_n 1, 1) := by decide +kernel
theorem dX1_add_54 : decode cX1_add 54 = .ok (.iload_n 2, 1) := by decide +kernel
theorem dX1_add_55 : decode cX1_add 55 = .ok (.invokevirtual 42, 3) := by decide +kernel
theorem dX1_add_58 : decode cX1_add 58 = .ok (.ireturn, 1) := by decide +kernel
theorem dX1_goBack_0 : decode cX1_goBack 0 = .ok (.aload_n 0, 1) := by decide +kernel
theorem dX1_goBack_1 : decode cX1_goBack 1 = .ok (.getfield 12, 3) := by decide +kernel
theorem dX1_goBack_4 : decode cX1_goBack 4 = .ok (.invokevirtual 29, 3) := by decide +kernel
theorem dX1_goBack_7 : decode cX1_goBack 7 = .ok (.iconst 0, 1) := by decide +kernel
theorem dX1_goBack_8 : decode cX1_goBack 8 = .ok (.istore_n 2, 1) := by decide +kernel
theorem dX1_goBack_9 : decode cX1_goBack 9 = .ok (.iload_n 2, 1) := by decide +kernel
theorem dX1_goBack_10 : decode cX1_goBack 10 = .ok (.iload_n 1, 1) := by decide +kernel
theorem dX1_goBack_11 : decode cX1_goBack 11 = .ok (.if_icmp .ge 35, 3) := by decide +kernel
theorem dX1_goBack_14 : decode cX1_goBack 14 = .ok (.iload_n 2, 1) := by decide +kernel
theorem dX1_goBack_15 : decode cX1_goBack 15 = .ok (.bipush 40, 2) := by decide +kernel
theorem dX1_goBack_17 : decode cX1_goBack 17 = .ok (.if_icmp .ge 29, 3) := by decide +kernel
theorem dX1_goBack_20 : decode cX1_goBack 20 = .ok (.aload_n 0, 1) := by decide +kernel
theorem dX1_goBack_21 : decode cX1_goBack 21 = .ok (.getfield 12, 3) := by decide +kernel
theorem dX1_goBack_24 : decode cX1_goBack 24 = .ok (.aload_n 0, 1) := by decide +kernel
theorem dX1_goBack_25 : decode cX1_goBack 25 = .ok (.getfield 18, 3) := by decide +kernel
theorem dX1_goBack_28 : decode cX1_goBack 28 = .ok (.iload_n 2, 1) := by decide +kernel
theorem dX1_goBack_29 : decode cX1_goBack 29 = .ok (.iaload, 1) := by decide +kernel
theorem dX1_goBack_30 : decode cX1_goBack 30 = .ok (.aload_n 0, 1) := by decide +kernel
theorem dX1_goBack_31 : decode cX1_goBack 31 = .ok (.getfield 22, 3) := by decide +kernel
theorem dX1_goBack_34 : decode cX1_goBack 34 = .ok (.iload_n 2, 1) := by decide +kernel
theorem dX1_goBack_35 : decode cX1_goBack 35 = .ok (.iaload, 1) := by decide +kernel
theorem dX1_goBack_36 : decode cX1_goBack 36 = .ok (.invokevirtual 42, 3) := by decide +kernel
theorem dX1_goBack_39 : decode cX1_goBack 39 = .ok (.pop, 1) := by decide +kernel
theorem dX1_goBack_40 : decode cX1_goBack 40 = .ok (.iinc 2 1, 3) := by decide +kernel
theorem dX1_goBack_43 : decode cX1_goBack 43 = .ok (.goto (-34), 3) := by decide +kernel
theorem dX1_goBack_46 : decode cX1_goBack 46 = .ok (.aload_n 0, 1) := by decide +kernel
theorem dX1_goBack_47 : decode cX1_goBack 47 = .ok (.iload_n 1, 1) := by decide +kernel
theorem dX1_goBack_48 : decode cX1_goBack 48 = .ok (.putfield 32, 3) := by decide +kernel
theorem dX1_goBack_51 : decode cX1_goBack 51 = .ok (.return_, 1) := by decide +kernel
theorem dX2_init_0 : decode cX2_init 0 = .ok (.aload_n 0, 1) := by decide +kernel
theorem dX2_init_1 : decode cX2_init 1 = .ok (.invokespecial 3, 3) := by decide +kernel
theorem dX2_init_4 : decode cX2_init 4 = .ok (.aload_n 0, 1) := by decide +kernel
theorem dX2_init_5 : decode cX2_init 5 = .ok (.new 9, 3) := by decide +kernel
theorem dX2_init_8 : decode cX2_init 8 = .ok (.dup, 1) := by decide +kernel
theorem dX2_init_9 : decode cX2_init 9 = .ok (.invokespecial 11, 3) := by decide +kernel
theorem dX2_init_12 : decode cX2_init 12 = .ok (.putfield 12, 3) := by decide +kernel
theorem dX2_init_15 : decode cX2_init 15 = .ok (.aload_n 0, 1) := by decide +kernel
theorem dX2_init_16 : decode cX2_init 16 = .ok (.bipush 60, 2) := by decide +kernel
theorem dX2_init_18 : decode cX2_init 18 = .ok (.newarray .int, 2) := by decide +kernel
theorem dX2_init_20 : decode cX2_init 20 = .ok (.putfield 18, 3) := by decide +kernel
theorem dX2_init_23 : decode cX2_init 23 = .ok (.return_, 1) := by decide +kernel
theorem dX2_read_0 : decode cX2_read 0 = .ok (.aload_n 1, 1) := by decide +kernel
theorem dX2_read_1 : decode cX2_read 1 = .ok (.iconst 0, 1) := by decide +kernel
theorem dX2_read_2 : decode cX2_read 2 = .ok (.aload_n 0, 1) := by decide +kernel
theorem dX2_read_3 : decode cX2_read 3 = .ok (.getfield 18, 3) := by decide +kernel
theorem dX2_read_6 : decode cX2_read 6 = .ok (.iconst 0, 1) := by decide +kernel
theorem dX2_read_7 : decode cX2_read 7 = .ok (.bipush 60, 2) := by decide +kernel
theorem dX2_read_9 : decode cX2_read 9 = .ok (.invokestatic 22, 3) := by decide +kernel
theorem dX2_read_12 : decode cX2_read 12 = .ok (.aload_n 0, 1) := by decide +kernel
theorem dX2_read_13 : decode cX2_read 13 = .ok (.iload_n 2, 1) := by decide +kernel
theorem dX2_read_14 : decode cX2_read 14 = .ok (.putfield 28, 3) := by decide +kernel
theorem dX2_read_17 : decode cX2_read 17 = .ok (.aload_n 0, 1) := by decide +kernel
theorem dX2_read_18 : decode cX2_read 18 = .ok (.iconst 0, 1) := by decide +kernel
theorem dX2_read_19 : decode cX2_read 19 = .ok (.putfield 32, 3) := by decide +kernel
theorem dX2_read_22 : decode cX2_read 22 = .ok (.aload_n 0, 1) := by decide +kernel
theorem dX2_read_23 : decode cX2_read 23 = .ok (.getfield 12, 3) := by decide +kernel
theorem dX2_read_26 : decode cX2_read 26 = .ok (.iconst 0, 1) := by decide +kernel
theorem dX2_read_27 : decode cX2_read 27 = .ok (.putfield 35, 3) := by decide +kernel
theorem dX2_read_30 : decode cX2_read 30 = .ok (.aload_n 0, 1) := by decide +kernel
theorem dX2_read_31 : decode cX2_read 31 = .ok (.invokevirtual 38, 3) := by decide +kernel
theorem dX2_read_34 : decode cX2_read 34 = .ok (.aload_n 0, 1) := by decide +kernel
theorem dX2_read_35 : decode cX2_read 35 = .ok (.invokevirtual 41, 3) := by decide +kernel
theorem dX2_read_38 : decode cX2_read 38 = .ok (.ifCond .ne 8, 3) := by decide +kernel
theorem dX2_read_41 : decode cX2_read 41 = .ok (.aload_n 0, 1) := by decide +kernel
theorem dX2_read_42 : decode cX2_read 42 = .ok (.getfield 32, 3) := by decide +kernel
theorem dX2_read_45 : decode cX2_read 45 = .ok (.ireturn, 1) := by decide +kernel
theorem dX2_read_46 : decode cX2_read 46 = .ok (.aload_n 0, 1) := by decide +kernel
theorem dX2_read_47 : decode cX2_read 47 = .ok (.invokevirtual 38, 3) := by decide +kernel
theorem dX2_read_50 : decode cX2_read 50 = .ok (.iconst 0, 1) := by decide +kernel
theorem dX2_read_51 : decode cX2_read 51 = .ok (.istore_n 3, 1) := by decide +kernel
theorem dX2_read_52 : decode cX2_read 52 = .ok (.iload_n 3, 1) := by decide +kernel
theorem dX2_read_53 : decode cX2_read 53 = .ok (.bipush 60, 2) := by decide +kernel
theorem dX2_read_55 : decode cX2_read 55 = .ok (.if_icmp .ge 36, 3) := by decide +kernel
theorem dX2_read_58 : decode cX2_read 58 = .ok (.aload_n 0, 1) := by decide +kernel
theorem dX2_read_59 : decode cX2_read 59 = .ok (.getfield 32, 3) := by decide +kernel
theorem dX2_read_62 : decode cX2_read 62 = .ok (.aload_n 0, 1) := by decide +kernel
theorem dX2_read_63 : decode cX2_read 63 = .ok (.getfield 28, 3) := by decide +kernel
theorem dX2_read_66 : decode cX2_read 66 = .ok (.if_icmp .ge 25, 3) := by decide +kernel
theorem dX2_read_69 : decode cX2_read 69 = .ok (.aload_n 0, 1) := by decide +kernel
theorem dX2_read_70 : decode cX2_read 70 = .ok (.invokevirtual 45, 3) := by decide +kernel
theorem dX2_read_73 : decode cX2_read 73 = .ok (.ifCond .ne 8, 3) := by decide +kernel
theorem dX2_read_76 : decode cX2_read 76 = .ok (.aload_n 0, 1) := by decide +kernel
theorem dX2_read_77 : decode cX2_read 77 = .ok (.getfield 32, 3) := by decide +kernel
theorem dX2_read_80 : decode cX2_read 80 = .ok (.ireturn, 1) := by decide +kernel
theorem dX2_read_81 : decode cX2_read 81 = .ok (.aload_n 0, 1) := by decide +kernel
theorem dX2_read_82 : decode cX2_read 82 = .ok (.invokevirtual 38, 3) := by decide +kernel
theorem dX2_read_85 : decode cX2_read 85 = .ok (.iinc 3 1, 3) := by decide +kernel
theorem dX2_read_88 : decode cX2_read 88 = .ok (.goto (-36), 3) := by decide +kernel
theorem dX2_read_91 : decode cX2_read 91 = .ok (.aload_n 0, 1) := by decide +kernel
theorem dX2_read_92 : decode cX2_read 92 = .ok (.getfield 12, 3) := by decide +kernel
theorem dX2_read_95 : decode cX2_read 95 = .ok (.getfield 35, 3) := by decide +kernel
theorem dX2_read_98 : decode cX2_read 98 = .ok (.iconst 3, 1) := by decide +kernel
theorem dX2_read_99 : decode cX2_read 99 = .ok (.if_icmp .ge 10, 3) := by decide +kernel
theorem dX2_read_102 : decode cX2_read 102 = .ok (.aload_n 0, 1) := by decide +kernel
theorem dX2_read_103 : decode cX2_read 103 = .ok (.getfield 28, 3) := by decide +kernel
theorem dX2_read_106 : decode cX2_read 106 = .ok (.goto 5, 3) := by decide +kernel
theorem dX2_read_109 : decode cX2_read 109 = .ok (.bipush (-9), 2) := by decide +kernel
theorem dX2_read_111 : decode cX2_read 111 = .ok (.ireturn, 1) := by decide +kernel
theorem dX2_skipBlanks_0 : decode cX2_skipBlanks 0 = .ok (.aload_n 0, 1) := by decide +kernel
theorem dX2_skipBlanks_1 : decode cX2_skipBlanks 1 = .ok (.getfield 32, 3) := by decide +kernel
theorem dX2_skipBlanks_4 : decode cX2_skipBlanks 4 = .ok (.aload_n 0, 1) := by decide +kernel
theorem dX2_skipBlanks_5 : decode cX2_skipBlanks 5 = .ok (.getfield 28, 3) := by decide +kernel
theorem dX2_skipBlanks_8 : decode cX2_skipBlanks 8 = .ok (.if_icmp .ge 30, 3) := by decide +kernel
theorem dX2_skipBlanks_11 : decode cX2_skipBlanks 11 = .ok (.aload_n 0, 1) := by decide +kernel
theorem dX2_skipBlanks_12 : decode cX2_skipBlanks 12 = .ok (.getfield 18, 3) := by decide +kernel
theorem dX2_skipBlanks_15 : decode cX2_skipBlanks 15 = .ok (.aload_n 0, 1) := by decide +kernel
theorem dX2_skipBlanks_16 : decode cX2_skipBlanks 16 = .ok (.getfield 32, 3) := by decide +kernel
theorem dX2_skipBlanks_19 : decode cX2_skipBlanks 19 = .ok (.iaload, 1) := by decide +kernel
theorem dX2_skipBlanks_20 : decode cX2_skipBlanks 20 = .ok (.bipush 32, 2) := by decide +kernel
theorem dX2_skipBlanks_22 : decode cX2_skipBlanks 22 = .ok (.if_icmp .ne 16, 3) := by decide +kernel
theorem dX2_skipBlanks_25 : decode cX2_skipBlanks 25 = .ok (.aload_n 0, 1) := by decide +kernel
theorem dX2_skipBlanks_26 : decode cX2_skipBlanks 26 = .ok (.dup, 1) := by decide +kernel
theorem dX2_skipBlanks_27 : decode cX2_skipBlanks 27 = .ok (.getfield 32, 3) := by decide +kernel
theorem dX2_skipBlanks_30 : decode cX2_skipBlanks 30 = .ok (.iconst 1, 1) := by decide +kernel
theorem dX2_skipBlanks_31 : decode cX2_skipBlanks 31 = .ok (.iadd, 1) := by decide +kernel
theorem dX2_skipBlanks_32 : decode cX2_skipBlanks 32 = .ok (.putfield 32, 3) := by decide +kernel
theorem dX2_skipBlanks_35 : decode cX2_skipBlanks 35 = .ok (.goto (-35), 3) := by decide +kernel
theorem dX2_skipBlanks_38 : decode cX2_skipBlanks 38 = .ok (.return_, 1) := by decide +kernel
theorem dX2_readRoad_0 : decode cX2_readRoad 0 = .ok (.aload_n 0, 1) := by decide +kernel
theorem dX2_readRoad_1 : decode cX2_readRoad 1 = .ok (.getfield 32, 3) := by decide +kernel
theorem dX2_readRoad_4 : decode cX2_readRoad 4 = .ok (.aload_n 0, 1) := by decide +kernel
theorem dX2_readRoad_5 : decode cX2_readRoad 5 = .ok (.getfield 28, 3) := by decide +kernel
theorem dX2_readRoad_8 : decode cX2_readRoad 8 = .ok (.if_icmp .ge 17, 3) := by decide +kernel
theorem dX2_readRoad_11 : decode cX2_readRoad 11 = .ok (.aload_n 0, 1) := by decide +kernel
theorem dX2_readRoad_12 : decode cX2_readRoad 12 = .ok (.getfield 18, 3) := by decide +kernel
theorem dX2_readRoad_15 : decode cX2_readRoad 15 = .ok (.aload_n 0, 1) := by decide +kernel
theorem dX2_readRoad_16 : decode cX2_readRoad 16 = .ok (.getfield 32, 3) := by decide +kernel
theorem dX2_readRoad_19 : decode cX2_readRoad 19 = .ok (.iaload, 1) := by decide +kernel
theorem dX2_readRoad_20 : decode cX2_readRoad 20 = .ok (.bipush 114, 2) := by decide +kernel
theorem dX2_readRoad_22 : decode cX2_readRoad 22 = .ok (.if_icmp .eq 5, 3) := by decide +kernel
theorem dX2_readRoad_25 : decode cX2_readRoad 25 = .ok (.iconst 0, 1) := by decide +kernel
theorem dX2_readRoad_26 : decode cX2_readRoad 26 = .ok (.ireturn, 1) := by decide +kernel
theorem dX2_readRoad_27 : decode cX2_readRoad 27 = .ok (.aload_n 0, 1) := by decide +kernel
theorem dX2_readRoad_28 : decode cX2_readRoad 28 = .ok (.dup, 1) := by decide +kernel
theorem dX2_readRoad_29 : decode cX2_readRoad 29 = .ok (.getfield 32, 3) := by decide +kernel
theorem dX2_readRoad_32 : decode cX2_readRoad 32 = .ok (.iconst 1, 1) := by decide +kernel
theorem dX2_readRoad_33 : decode cX2_readRoad 33 = .ok (.iadd, 1) := by decide +kernel
theorem dX2_readRoad_34 : decode cX2_readRoad 34 = .ok (.putfield 32, 3) := by decide +kernel
theorem dX2_readRoad_37 : decode cX2_readRoad 37 = .ok (.iconst 0, 1) := by decide +kernel
theorem dX2_readRoad_38 : decode cX2_readRoad 38 = .ok (.istore_n 1, 1) := by decide +kernel
theorem dX2_readRoad_39 : decode cX2_readRoad 39 = .ok (.iload_n 1, 1) := by decide +kernel
theorem dX2_readRoad_40 : decode cX2_readRoad 40 = .ok (.bipush 8, 2) := by decide +kernel
theorem dX2_readRoad_42 : decode cX2_readRoad 42 = .ok (.if_icmp .ge 31, 3) := by decide +kernel
theorem dX2_readRoad_45 : decode cX2_readRoad 45 = .ok (.aload_n 0, 1) := by decide +kernel
theorem dX2_readRoad_46 : decode cX2_readRoad 46 = .ok (.iconst 0, 1) := by decide +kernel
theorem dX2_readRoad_47 : decode cX2_readRoad 47 = .ok (.invokevirtual 48, 3) := by decide +kernel
theorem dX2_readRoad_50 : decode cX2_readRoad 50 = .ok (.istore_n 2, 1) := by decide +kernel
theorem dX2_readRoad_51 : decode cX2_readRoad 51 = .ok (.iload_n 2, 1) := by decide +kernel
theorem dX2_readRoad_52 : decode cX2_readRoad 52 = .ok (.ifCond .ge 5, 3) := by decide +kernel
theorem dX2_readRoad_55 : decode cX2_readRoad 55 = .ok (.iconst 0, 1) := by decide +kernel
theorem dX2_readRoad_56 : decode cX2_readRoad 56 = .ok (.ireturn, 1) := by decide +kernel
theorem dX2_readRoad_57 : decode cX2_readRoad 57 = .ok (.aload_n 0, 1) := by decide +kernel
theorem dX2_readRoad_58 : decode cX2_readRoad 58 = .ok (.getfield 12, 3) := by decide +kernel
theorem dX2_readRoad_61 : decode cX2_readRoad 61 = .ok (.getfield 52, 3) := by decide +kernel
theorem dX2_readRoad_64 : decode cX2_readRoad 64 = .ok (.iload_n 1, 1) := by decide +kernel
theorem dX2_readRoad_65 : decode cX2_readRoad 65 = .ok (.iload_n 2, 1) := by decide +kernel
theorem dX2_readRoad_66 : decode cX2_readRoad 66 = .ok (.iastore, 1) := by decide +kernel
theorem dX2_readRoad_67 : decode cX2_readRoad 67 = .ok (.iinc 1 1, 3) := by decide +kernel
theorem dX2_readRoad_70 : decode cX2_readRoad 70 = .ok (.goto (-31), 3) := by decide +kernel
theorem dX2_readRoad_73 : decode cX2_readRoad 73 = .ok (.aload_n 0, 1) := by decide +kernel
theorem dX2_readRoad_74 : decode cX2_readRoad 74 = .ok (.invokevirtual 55, 3) := by decide +kernel
theorem dX2_readRoad_77 : decode cX2_readRoad 77 = .ok (.ireturn, 1) := by decide +kernel
theorem dX2_readGate_0 : decode cX2_readGate 0 = .ok (.aload_n 0, 1) := by decide +kernel
theorem dX2_readGate_1 : decode cX2_readGate 1 = .ok (.getfield 32, 3) := by decide +kernel
theorem dX2_readGate_4 : decode cX2_readGate 4 = .ok (.istore_n 1, 1) := by decide +kernel
theorem dX2_readGate_5 : decode cX2_readGate 5 = .ok (.aload_n 0, 1) := by decide +kernel
theorem dX2_readGate_6 : decode cX2_readGate 6 = .ok (.iconst 0, 1) := by decide +kernel
theorem dX2_readGate_7 : decode cX2_readGate 7 = .ok (.invokevirtual 48, 3) := by decide +kernel
theorem dX2_readGate_10 : decode cX2_readGate 10 = .ok (.istore_n 2, 1) := by decide +kernel
theorem dX2_readGate_11 : decode cX2_readGate 11 = .ok (.iload_n 2, 1) := by decide +kernel
theorem dX2_readGate_12 : decode cX2_readGate 12 = .ok (.ifCond .ge 7, 3) := by decide +kernel
theorem dX2_readGate_15 : decode cX2_readGate 15 = .ok (.iload_n 2, 1) := by decide +kernel
theorem dX2_readGate_16 : decode cX2_readGate 16 = .ok (.goto 8, 3) := by decide +kernel
theorem dX2_readGate_19 : decode cX2_readGate 19 = .ok (.aload_n 0, 1) := by decide +kernel
theorem dX2_readGate_20 : decode cX2_readGate 20 = .ok (.iconst 0, 1) := by decide +kernel
theorem dX2_readGate_21 : decode cX2_readGate 21 = .ok (.invokevirtual 48, 3) := by decide +kernel
theorem dX2_readGate_24 : decode cX2_readGate 24 = .ok (.istore_n 3, 1) := by decide +kernel
theorem dX2_readGate_25 : decode cX2_readGate 25 = .ok (.iload_n 3, 1) := by decide +kernel
theorem dX2_readGate_26 : decode cX2_readGate 26 = .ok (.ifCond .ge 5, 3) := by decide +kernel
theorem dX2_readGate_29 : decode cX2_readGate 29 = .ok (.iconst 0, 1) := by decide +kernel
theorem dX2_readGate_30 : decode cX2_readGate 30 = .ok (.ireturn, 1) := by decide +kernel
theorem dX2_readGate_31 : decode cX2_readGate 31 = .ok (.aload_n 0, 1) := by decide +kernel
theorem dX2_readGate_32 : decode cX2_readGate 32 = .ok (.getfield 12, 3) := by decide +kernel
theorem dX2_readGate_35 : decode cX2_readGate 35 = .ok (.bipush 10, 2) := by decide +kernel
theorem dX2_readGate_37 : decode cX2_readGate 37 = .ok (.iload_n 2, 1) := by decide +kernel
theorem dX2_readGate_38 : decode cX2_readGate 38 = .ok (.imul, 1) := by decide +kernel
theorem dX2_readGate_39 : decode cX2_readGate 39 = .ok (.iload_n 3, 1) := by decide +kernel
theorem dX2_readGate_40 : decode cX2_readGate 40 = .ok (.iadd, 1) := by decide +kernel
theorem dX2_readGate_41 : decode cX2_readGate 41 = .ok (.putfield 58, 3) := by decide +kernel
theorem dX2_readGate_44 : decode cX2_readGate 44 = .ok (.aload_n 0, 1) := by decide +kernel
theorem dX2_readGate_45 : decode cX2_readGate 45 = .ok (.getfield 12, 3) := by decide +kernel
theorem dX2_readGate_48 : decode cX2_readGate 48 = .ok (.getfield 58, 3) := by decide +kernel
theorem dX2_readGate_51 : decode cX2_readGate 51 = .ok (.bipush 60, 2) := by decide +kernel
theorem dX2_readGate_53 : decode cX2_readGate 53 = .ok (.if_icmp .le 10, 3) := by decide +kernel
theorem dX2_readGate_56 : decode cX2_readGate 56 = .ok (.aload_n 0, 1) := by decide +kernel
theorem dX2_readGate_57 : decode cX2_readGate 57 = .ok (.iload_n 1, 1) := by decide +kernel
theorem dX2_readGate_58 : decode cX2_readGate 58 = .ok (.putfield 32, 3) := by decide +kernel
theorem dX2_readGate_61 : decode cX2_readGate 61 = .ok (.iconst 0, 1) := by decide +kernel
theorem dX2_readGate_62 : decode cX2_readGate 62 = .ok (.ireturn, 1) := by decide +kernel
theorem dX2_readGate_63 : decode cX2_readGate 63 = .ok (.iconst 1, 1) := by decide +kernel
theorem dX2_readGate_64 : decode cX2_readGate 64 = .ok (.ireturn, 1) := by decide +kernel
theorem dX2_readSpoke_0 : decode cX2_readSpoke 0 = .ok (.aload_n 0, 1) := by decide +kernel
theorem dX2_readSpoke_1 : decode cX2_readSpoke 1 = .ok (.getfield 12, 3) := by decide +kernel
theorem dX2_readSpoke_4 : decode cX2_readSpoke 4 = .ok (.getfield 35, 3) := by decide +kernel
theorem dX2_readSpoke_7 : decode cX2_readSpoke 7 = .ok (.istore_n 1, 1) := by decide +kernel
theorem dX2_readSpoke_8 : decode cX2_readSpoke 8 = .ok (.aload_n 0, 1) := by decide +kernel
theorem dX2_readSpoke_9 : decode cX2_readSpoke 9 = .ok (.getfield 18, 3) := by decide +kernel
theorem dX2_readSpoke_12 : decode cX2_readSpoke 12 = .ok (.aload_n 0, 1) := by decide +kernel
theorem dX2_readSpoke_13 : decode cX2_readSpoke 13 = .ok (.getfield 32, 3) := by decide +kernel
theorem dX2_readSpoke_16 : decode cX2_readSpoke 16 = .ok (.iaload, 1) := by decide +kernel
theorem dX2_readSpoke_17 : decode cX2_readSpoke 17 = .ok (.invokestatic 61, 3) := by decide +kernel
theorem dX2_readSpoke_20 : decode cX2_readSpoke 20 = .ok (.istore_n 2, 1) := by decide +kernel
theorem dX2_readSpoke_21 : decode cX2_readSpoke 21 = .ok (.iload_n 1, 1) := by decide +kernel
theorem dX2_readSpoke_22 : decode cX2_readSpoke 22 = .ok (.bipush 8, 2) := by decide +kernel
theorem dX2_readSpoke_24 : decode cX2_readSpoke 24 = .ok (.if_icmp .ge 7, 3) := by decide +kernel
theorem dX2_readSpoke_27 : decode cX2_readSpoke 27 = .ok (.iload_n 2, 1) := by decide +kernel
theorem dX2_readSpoke_28 : decode cX2_readSpoke 28 = .ok (.ifCond .ge 5, 3) := by decide +kernel
theorem dX2_readSpoke_31 : decode cX2_readSpoke 31 = .ok (.iconst 0, 1) := by decide +kernel
theorem dX2_readSpoke_32 : decode cX2_readSpoke 32 = .ok (.ireturn, 1) := by decide +kernel
theorem dX2_readSpoke_33 : decode cX2_readSpoke 33 = .ok (.aload_n 0, 1) := by decide +kernel
theorem dX2_readSpoke_34 : decode cX2_readSpoke 34 = .ok (.dup, 1) := by decide +kernel
theorem dX2_readSpoke_35 : decode cX2_readSpoke 35 = .ok (.getfield 32, 3) := by decide +kernel
theorem dX2_readSpoke_38 : decode cX2_readSpoke 38 = .ok (.iconst 1, 1) := by decide +kernel
theorem dX2_readSpoke_39 : decode cX2_readSpoke 39 = .ok (.iadd, 1) := by decide +kernel
theorem dX2_readSpoke_40 : decode cX2_readSpoke 40 = .ok (.putfield 32, 3) := by decide +kernel
theorem dX2_readSpoke_43 : decode cX2_readSpoke 43 = .ok (.aload_n 0, 1) := by decide +kernel
theorem dX2_readSpoke_44 : decode cX2_readSpoke 44 = .ok (.iconst 1, 1) := by decide +kernel
theorem dX2_readSpoke_45 : decode cX2_readSpoke 45 = .ok (.invokevirtual 48, 3) := by decide +kernel
theorem dX2_readSpoke_48 : decode cX2_readSpoke 48 = .ok (.istore_n 3, 1) := by decide +kernel
theorem dX2_readSpoke_49 : decode cX2_readSpoke 49 = .ok (.iload_n 3, 1) := by decide +kernel
theorem dX2_readSpoke_50 : decode cX2_readSpoke 50 = .ok (.ifCond .ge 7, 3) := by decide +kernel
theorem dX2_readSpoke_53 : decode cX2_readSpoke 53 = .ok (.iload_n 3, 1) := by decide +kernel
theorem dX2_readSpoke_54 : decode cX2_readSpoke 54 = .ok (.goto 8, 3) := by decide +kernel
theorem dX2_readSpoke_57 : decode cX2_readSpoke 57 = .ok (.aload_n 0, 1) := by decide +kernel
theorem dX2_readSpoke_58 : decode cX2_readSpoke 58 = .ok (.iconst 0, 1) := by decide +kernel
theorem dX2_readSpoke_59 : decode cX2_readSpoke 59 = .ok (.invokevirtual 48, 3) := by decide +kernel
theorem dX2_readSpoke_62 : decode cX2_readSpoke 62 = .ok (.istore 4, 2) := by decide +kernel
theorem dX2_readSpoke_64 : decode cX2_readSpoke 64 = .ok (.iload 4, 2) := by decide +kernel
theorem dX2_readSpoke_66 : decode cX2_readSpoke 66 = .ok (.ifCond .ge 5, 3) := by decide +kernel
theorem dX2_readSpoke_69 : decode cX2_readSpoke 69 = .ok (.iconst 0, 1) := by decide +kernel
theorem dX2_readSpoke_70 : decode cX2_readSpoke 70 = .ok (.ireturn, 1) := by decide +kernel
theorem dX2_readSpoke_71 : decode cX2_readSpoke 71 = .ok (.aload_n 0, 1) := by decide +kernel
theorem dX2_readSpoke_72 : decode cX2_readSpoke 72 = .ok (.getfield 12, 3) := by decide +kernel
theorem dX2_readSpoke_75 : decode cX2_readSpoke 75 = .ok (.getfield 64, 3) := by decide +kernel
theorem dX2_readSpoke_78 : decode cX2_readSpoke 78 = .ok (.iload_n 1, 1) := by decide +kernel
theorem dX2_readSpoke_79 : decode cX2_readSpoke 79 = .ok (.iload_n 2, 1) := by decide +kernel
theorem dX2_readSpoke_80 : decode cX2_readSpoke 80 = .ok (.iastore, 1) := by decide +kernel
theorem dX2_readSpoke_81 : decode cX2_readSpoke 81 = .ok (.aload_n 0, 1) := by decide +kernel
theorem dX2_readSpoke_82 : decode cX2_readSpoke 82 = .ok (.getfield 12, 3) := by decide +kernel
theorem dX2_readSpoke_85 : decode cX2_readSpoke 85 = .ok (.getfield 67, 3) := by decide +kernel
theorem dX2_readSpoke_88 : decode cX2_readSpoke 88 = .ok (.iload_n 1, 1) := by decide +kernel
theorem dX2_readSpoke_89 : decode cX2_readSpoke 89 = .ok (.iload_n 3, 1) := by decide +kernel
theorem dX2_readSpoke_90 : decode cX2_readSpoke 90 = .ok (.iastore, 1) := by decide +kernel
theorem dX2_readSpoke_91 : decode cX2_readSpoke 91 = .ok (.aload_n 0, 1) := by decide +kernel
theorem dX2_readSpoke_92 : decode cX2_readSpoke 92 = .ok (.getfield 12, 3) := by decide +kernel
theorem dX2_readSpoke_95 : decode cX2_readSpoke 95 = .ok (.getfield 70, 3) := by decide +kernel
theorem dX2_readSpoke_98 : decode cX2_readSpoke 98 = .ok (.iload_n 1, 1) := by decide +kernel
theorem dX2_readSpoke_99 : decode cX2_readSpoke 99 = .ok (.iload 4, 2) := by decide +kernel
theorem dX2_readSpoke_101 : decode cX2_readSpoke 101 = .ok (.iastore, 1) := by decide +kernel
theorem dX2_readSpoke_102 : decode cX2_readSpoke 102 = .ok (.aload_n 0, 1) := by decide +kernel
theorem dX2_readSpoke_103 : decode cX2_readSpoke 103 = .ok (.getfield 12, 3) := by decide +kernel
theorem dX2_readSpoke_106 : decode cX2_readSpoke 106 = .ok (.iload_n 1, 1) := by decide +kernel
theorem dX2_readSpoke_107 : decode cX2_readSpoke 107 = .ok (.iconst 1, 1) := by decide +kernel
theorem dX2_readSpoke_108 : decode cX2_readSpoke 108 = .ok (.iadd, 1) := by decide +kernel
theorem dX2_readSpoke_109 : decode cX2_readSpoke 109 = .ok (.putfield 35, 3) := by decide +kernel
theorem dX2_readSpoke_112 : decode cX2_readSpoke 112 = .ok (.iconst 1, 1) := by decide +kernel
theorem dX2_readSpoke_113 : decode cX2_readSpoke 113 = .ok (.ireturn, 1) := by decide +kernel
theorem dX2_readFigure_0 : decode cX2_readFigure 0 = .ok (.aload_n 0, 1) := by decide +kernel
theorem dX2_readFigure_1 : decode cX2_readFigure 1 = .ok (.getfield 32, 3) := by decide +kernel
theorem dX2_readFigure_4 : decode cX2_readFigure 4 = .ok (.aload_n 0, 1) := by decide +kernel
theorem dX2_readFigure_5 : decode cX2_readFigure 5 = .ok (.getfield 28, 3) := by decide +kernel
theorem dX2_readFigure_8 : decode cX2_readFigure 8 = .ok (.if_icmp .lt 5, 3) := by decide +kernel
theorem dX2_readFigure_11 : decode cX2_readFigure 11 = .ok (.iconst (-1), 1) := by decide +kernel
theorem dX2_readFigure_12 : decode cX2_readFigure 12 = .ok (.ireturn, 1) := by decide +kernel
theorem dX2_readFigure_13 : decode cX2_readFigure 13 = .ok (.aload_n 0, 1) := by decide +kernel
theorem dX2_readFigure_14 : decode cX2_readFigure 14 = .ok (.getfield 18, 3) := by decide +kernel
theorem dX2_readFigure_17 : decode cX2_readFigure 17 = .ok (.aload_n 0, 1) := by decide +kernel
theorem dX2_readFigure_18 : decode cX2_readFigure 18 = .ok (.getfield 32, 3) := by decide +kernel
theorem dX2_readFigure_21 : decode cX2_readFigure 21 = .ok (.iaload, 1) := by decide +kernel
theorem dX2_readFigure_22 : decode cX2_readFigure 22 = .ok (.bipush 48, 2) := by decide +kernel
theorem dX2_readFigure_24 : decode cX2_readFigure 24 = .ok (.isub, 1) := by decide +kernel
theorem dX2_readFigure_25 : decode cX2_readFigure 25 = .ok (.istore_n 2, 1) := by decide +kernel
theorem dX2_readFigure_26 : decode cX2_readFigure 26 = .ok (.iload_n 2, 1) := by decide +kernel
theorem dX2_readFigure_27 : decode cX2_readFigure 27 = .ok (.iload_n 1, 1) := by decide +kernel
theorem dX2_readFigure_28 : decode cX2_readFigure 28 = .ok (.if_icmp .lt 9, 3) := by decide +kernel
theorem dX2_readFigure_31 : decode cX2_readFigure 31 = .ok (.iload_n 2, 1) := by decide +kernel
theorem dX2_readFigure_32 : decode cX2_readFigure 32 = .ok (.bipush 9, 2) := by decide +kernel
theorem dX2_readFigure_34 : decode cX2_readFigure 34 = .ok (.if_icmp .le 5, 3) := by decide +kernel
theorem dX2_readFigure_37 : decode cX2_readFigure 37 = .ok (.iconst (-1), 1) := by decide +kernel
theorem dX2_readFigure_38 : decode cX2_readFigure 38 = .ok (.ireturn, 1) := by decide +kernel
theorem dX2_readFigure_39 : decode cX2_readFigure 39 = .ok (.aload_n 0, 1) := by decide +kernel
theorem dX2_readFigure_40 : decode cX2_readFigure 40 = .ok (.dup, 1) := by decide +kernel
theorem dX2_readFigure_41 : decode cX2_readFigure 41 = .ok (.getfield 32, 3) := by decide +kernel
theorem dX2_readFigure_44 : decode cX2_readFigure 44 = .ok (.iconst 1, 1) := by decide +kernel
theorem dX2_readFigure_45 : decode cX2_readFigure 45 = .ok (.iadd, 1) := by decide +kernel
theorem dX2_readFigure_46 : decode cX2_readFigure 46 = .ok (.putfield 32, 3) := by decide +kernel
theorem dX2_readFigure_49 : decode cX2_readFigure 49 = .ok (.iload_n 2, 1) := by decide +kernel
theorem dX2_readFigure_50 : decode cX2_readFigure 50 = .ok (.ireturn, 1) := by decide +kernel
theorem dX2_kindOf_0 : decode cX2_kindOf 0 = .ok (.iconst 0, 1) := by decide +kernel
theorem dX2_kindOf_1 : decode cX2_kindOf 1 = .ok (.istore_n 1, 1) := by decide +kernel
theorem dX2_kindOf_2 : decode cX2_kindOf 2 = .ok (.iload_n 1, 1) := by decide +kernel
theorem dX2_kindOf_3 : decode cX2_kindOf 3 = .ok (.bipush 6, 2) := by decide +kernel
theorem dX2_kindOf_5 : decode cX2_kindOf 5 = .ok (.if_icmp .ge 20, 3) := by decide +kernel
theorem dX2_kindOf_8 : decode cX2_kindOf 8 = .ok (.getstatic 73, 3) := by decide +kernel
theorem dX2_kindOf_11 : decode cX2_kindOf 11 = .ok (.iload_n 1, 1) := by decide +kernel
theorem dX2_kindOf_12 : decode cX2_kindOf 12 = .ok (.iaload, 1) := by decide +kernel
theorem dX2_kindOf_13 : decode cX2_kindOf 13 = .ok (.iload_n 0, 1) := by decide +kernel
theorem dX2_kindOf_14 : decode cX2_kindOf 14 = .ok (.if_icmp .ne 5, 3) := by decide +kernel
theorem dX2_kindOf_17 : decode cX2_kindOf 17 = .ok (.iload_n 1, 1) := by decide +kernel
theorem dX2_kindOf_18 : decode cX2_kindOf 18 = .ok (.ireturn, 1) := by decide +kernel
theorem dX2_kindOf_19 : decode cX2_kindOf 19 = .ok (.iinc 1 1, 3) := by decide +kernel
theorem dX2_kindOf_22 : decode cX2_kindOf 22 = .ok (.goto (-20), 3) := by decide +kernel
theorem dX2_kindOf_25 : decode cX2_kindOf 25 = .ok (.iconst (-1), 1) := by decide +kernel
theorem dX2_kindOf_26 : decode cX2_kindOf 26 = .ok (.ireturn, 1) := by decide +kernel
theorem dX3_init_0 : decode cX3_init 0 = .ok (.aload_n 0, 1) := by decide +kernel
theorem dX3_init_1 : decode cX3_init 1 = .ok (.invokespecial 3, 3) := by decide +kernel
theorem dX3_init_4 : decode cX3_init 4 = .ok (.aload_n 0, 1) := by decide +kernel
theorem dX3_init_5 : decode cX3_init 5 = .ok (.iload_n 2, 1) := by decide +kernel
theorem dX3_init_6 : decode cX3_init 6 = .ok (.putfield 9, 3) := by decide +kernel
theorem dX3_init_9 : decode cX3_init 9 = .ok (.aload_n 0, 1) := by decide +kernel
theorem dX3_init_10 : decode cX3_init 10 = .ok (.iload_n 1, 1) := by decide +kernel
theorem dX3_init_11 : decode cX3_init 11 = .ok (.iload_n 2, 1) := by decide +kernel
theorem dX3_init_12 : decode cX3_init 12 = .ok (.multianewarray 15 2, 4) := by decide +kernel
theorem dX3_init_16 : decode cX3_init 16 = .ok (.putfield 17, 3) := by decide +kernel
theorem dX3_init_19 : decode cX3_init 19 = .ok (.aload_n 0, 1) := by decide +kernel
theorem dX3_init_20 : decode cX3_init 20 = .ok (.iload_n 1, 1) := by decide +kernel
theorem dX3_init_21 : decode cX3_init 21 = .ok (.newarray .int, 2) := by decide +kernel
theorem dX3_init_23 : decode cX3_init 23 = .ok (.putfield 20, 3) := by decide +kernel
theorem dX3_init_26 : decode cX3_init 26 = .ok (.aload_n 0, 1) := by decide +kernel
theorem dX3_init_27 : decode cX3_init 27 = .ok (.getfield 20, 3) := by decide +kernel
theorem dX3_init_30 : decode cX3_init 30 = .ok (.iconst (-1), 1) := by decide +kernel
theorem dX3_init_31 : decode cX3_init 31 = .ok (.invokestatic 24, 3) := by decide +kernel
theorem dX3_init_34 : decode cX3_init 34 = .ok (.return_, 1) := by decide +kernel
theorem dX3_isNumber_0 : decode cX3_isNumber 0 = .ok (.iload_n 1, 1) := by decide +kernel
theorem dX3_isNumber_1 : decode cX3_isNumber 1 = .ok (.ifCond .lt 16, 3) := by decide +kernel
theorem dX3_isNumber_4 : decode cX3_isNumber 4 = .ok (.iload_n 1, 1) := by decide +kernel
theorem dX3_isNumber_5 : decode cX3_isNumber 5 = .ok (.aload_n 0, 1) := by decide +kernel
theorem dX3_isNumber_6 : decode cX3_isNumber 6 = .ok (.getfield 20, 3) := by decide +kernel
theorem dX3_isNumber_9 : decode cX3_isNumber 9 = .ok (.arraylength, 1) := by decide +kernel
theorem dX3_isNumber_10 : decode cX3_isNumber 10 = .ok (.if_icmp .ge 7, 3) := by decide +kernel
theorem dX3_isNumber_13 : decode cX3_isNumber 13 = .ok (.iconst 1, 1) := by decide +kernel
theorem dX3_isNumber_14 : decode cX3_isNumber 14 = .ok (.goto 4, 3) := by decide +kernel
theorem dX3_isNumber_17 : decode cX3_isNumber 17 = .ok (.iconst 0, 1) := by decide +kernel
theorem dX3_isNumber_18 : decode cX3_isNumber 18 = .ok (.ireturn, 1) := by decide +kernel
theorem dX3_isMissing_0 : decode cX3_isMissing 0 = .ok (.aload_n 0, 1) := by decide +kernel
theorem dX3_isMissing_1 : decode cX3_isMissing 1 = .ok (.getfield 20, 3) := by decide +kernel
theorem dX3_isMissing_4 : decode cX3_isMissing 4 = .ok (.iload_n 1, 1) := by decide +kernel
theorem dX3_isMissing_5 : decode cX3_isMissing 5 = .ok (.iaload, 1) := by decide +kernel
theorem dX3_isMissing_6 : decode cX3_isMissing 6 = .ok (.iconst (-1), 1) := by decide +kernel
theorem dX3_isMissing_7 : decode cX3_isMissing 7 = .ok (.if_icmp .ne 7, 3) := by decide +kernel
theorem dX3_isMissing_10 : decode cX3_isMissing 10 = .ok (.iconst 1, 1) := by decide +kernel
theorem dX3_isMissing_11 : decode cX3_isMissing 11 = .ok (.goto 4, 3) := by decide +kernel
theorem dX3_isMissing_14 : decode cX3_isMissing 14 = .ok (.iconst 0, 1) := by decide +kernel
theorem dX3_isMissing_15 : decode cX3_isMissing 15 = .ok (.ireturn, 1) := by decide +kernel
theorem dX3_isPlace_0 : decode cX3_isPlace 0 = .ok (.iload_n 2, 1) := by decide +kernel
theorem dX3_isPlace_1 : decode cX3_isPlace 1 = .ok (.ifCond .lt 17, 3) := by decide +kernel
theorem dX3_isPlace_4 : decode cX3_isPlace 4 = .ok (.iload_n 2, 1) := by decide +kernel
theorem dX3_isPlace_5 : decode cX3_isPlace 5 = .ok (.aload_n 0, 1) := by decide +kernel
theorem dX3_isPlace_6 : decode cX3_isPlace 6 = .ok (.getfield 20, 3) := by decide +kernel
theorem dX3_isPlace_9 : decode cX3_isPlace 9 = .ok (.iload_n 1, 1) := by decide +kernel
theorem dX3_isPlace_10 : decode cX3_isPlace 10 = .ok (.iaload, 1) := by decide +kernel
theorem dX3_isPlace_11 : decode cX3_isPlace 11 = .ok (.if_icmp .ge 7, 3) := by decide +kernel
theorem dX3_isPlace_14 : decode cX3_isPlace 14 = .ok (.iconst 1, 1) := by decide +kernel
theorem dX3_isPlace_15 : decode cX3_isPlace 15 = .ok (.goto 4, 3) := by decide +kernel
theorem dX3_isPlace_18 : decode cX3_isPlace 18 = .ok (.iconst 0, 1) := by decide +kernel
theorem dX3_isPlace_19 : decode cX3_isPlace 19 = .ok (.ireturn, 1) := by decide +kernel
theorem dX3_hasPart_0 : decode cX3_hasPart 0 = .ok (.iload_n 2, 1) := by decide +kernel
theorem dX3_hasPart_1 : decode cX3_hasPart 1 = .ok (.ifCond .lt 19, 3) := by decide +kernel
theorem dX3_hasPart_4 : decode cX3_hasPart 4 = .ok (.iload_n 2, 1) := by decide +kernel
theorem dX3_hasPart_5 : decode cX3_hasPart 5 = .ok (.aload_n 0, 1) := by decide +kernel
theorem dX3_hasPart_6 : decode cX3_hasPart 6 = .ok (.getfield 20, 3) := by decide +kernel
theorem dX3_hasPart_9 : decode cX3_hasPart 9 = .ok (.iload_n 1, 1) := by decide +kernel
theorem dX3_hasPart_10 : decode cX3_hasPart 10 = .ok (.iaload, 1) := by decide +kernel
theorem dX3_hasPart_11 : decode cX3_hasPart 11 = .ok (.iload_n 3, 1) := by decide +kernel
theorem dX3_hasPart_12 : decode cX3_hasPart 12 = .ok (.isub, 1) := by decide +kernel
theorem dX3_hasPart_13 : decode cX3_hasPart 13 = .ok (.if_icmp .gt 7, 3) := by decide +kernel
theorem dX3_hasPart_16 : decode cX3_hasPart 16 = .ok (.iconst 1, 1) := by decide +kernel
theorem dX3_hasPart_17 : decode cX3_hasPart 17 = .ok (.goto 4, 3) := by decide +kernel
theorem dX3_hasPart_20 : decode cX3_hasPart 20 = .ok (.iconst 0, 1) := by decide +kernel
theorem dX3_hasPart_21 : decode cX3_hasPart 21 = .ok (.ireturn, 1) := by decide +kernel
theorem dX3_holdsBits_0 : decode cX3_holdsBits 0 = .ok (.iconst 0, 1) := by decide +kernel
theorem dX3_holdsBits_1 : decode cX3_holdsBits 1 = .ok (.istore_n 2, 1) := by decide +kernel
theorem dX3_holdsBits_2 : decode cX3_holdsBits 2 = .ok (.iload_n 2, 1) := by decide +kernel
theorem dX3_holdsBits_3 : decode cX3_holdsBits 3 = .ok (.aload_n 0, 1) := by decide +kernel
theorem dX3_holdsBits_4 : decode cX3_holdsBits 4 = .ok (.getfield 20, 3) := by decide +kernel
theorem dX3_holdsBits_7 : decode cX3_holdsBits 7 = .ok (.iload_n 1, 1) := by decide +kernel
theorem dX3_holdsBits_8 : decode cX3_holdsBits 8 = .ok (.iaload, 1) := by decide +kernel
theorem dX3_holdsBits_9 : decode cX3_holdsBits 9 = .ok (.if_icmp .ge 34, 3) := by decide +kernel
theorem dX3_holdsBits_12 : decode cX3_holdsBits 12 = .ok (.aload_n 0, 1) := by decide +kernel
theorem dX3_holdsBits_13 : decode cX3_holdsBits 13 = .ok (.getfield 17, 3) := by decide +kernel
theorem dX3_holdsBits_16 : decode cX3_holdsBits 16 = .ok (.iload_n 1, 1) := by decide +kernel
theorem dX3_holdsBits_17 : decode cX3_holdsBits 17 = .ok (.aaload, 1) := by decide +kernel
theorem dX3_holdsBits_18 : decode cX3_holdsBits 18 = .ok (.iload_n 2, 1) := by decide +kernel
theorem dX3_holdsBits_19 : decode cX3_holdsBits 19 = .ok (.iaload, 1) := by decide +kernel
theorem dX3_holdsBits_20 : decode cX3_holdsBits 20 = .ok (.ifCond .eq 17, 3) := by decide +kernel
theorem dX3_holdsBits_23 : decode cX3_holdsBits 23 = .ok (.aload_n 0, 1) := by decide +kernel
theorem dX3_holdsBits_24 : decode cX3_holdsBits 24 = .ok (.getfield 17, 3) := by decide +kernel
theorem dX3_holdsBits_27 : decode cX3_holdsBits 27 = .ok (.iload_n 1, 1) := by decide +kernel
theorem dX3_holdsBits_28 : decode cX3_holdsBits 28 = .ok (.aaload, 1) := by decide +kernel
theorem dX3_holdsBits_29 : decode cX3_holdsBits 29 = .ok (.iload_n 2, 1) := by decide +kernel
theorem dX3_holdsBits_30 : decode cX3_holdsBits 30 = .ok (.iaload, 1) := by decide +kernel
theorem dX3_holdsBits_31 : decode cX3_holdsBits 31 = .ok (.iconst 1, 1) := by decide +kernel
theorem dX3_holdsBits_32 : decode cX3_holdsBits 32 = .ok (.if_icmp .eq 5, 3) := by decide +kernel
theorem dX3_holdsBits_35 : decode cX3_holdsBits 35 = .ok (.iconst 0, 1) := by decide +kernel
theorem dX3_holdsBits_36 : decode cX3_holdsBits 36 = .ok (.ireturn, 1) := by decide +kernel
theorem dX3_holdsBits_37 : decode cX3_holdsBits 37 = .ok (.iinc 2 1, 3) := by decide +kernel
theorem dX3_holdsBits_40 : decode cX3_holdsBits 40 = .ok (.goto (-38), 3) := by decide +kernel
theorem dX3_holdsBits_43 : decode cX3_holdsBits 43 = .ok (.iconst 1, 1) := by decide +kernel
theorem dX3_holdsBits_44 : decode cX3_holdsBits 44 = .ok (.ireturn, 1) := by decide +kernel
theorem dX3_sizeOf_0 : decode cX3_sizeOf 0 = .ok (.aload_n 0, 1) := by decide +kernel
theorem dX3_sizeOf_1 : decode cX3_sizeOf 1 = .ok (.getfield 20, 3) := by decide +kernel
theorem dX3_sizeOf_4 : decode cX3_sizeOf 4 = .ok (.iload_n 1, 1) := by decide +kernel
theorem dX3_sizeOf_5 : decode cX3_sizeOf 5 = .ok (.iaload, 1) := by decide +kernel
theorem dX3_sizeOf_6 : decode cX3_sizeOf 6 = .ok (.ireturn, 1) := by decide +kernel
theorem dX3_placesOf_0 : decode cX3_placesOf 0 = .ok (.aload_n 0, 1) := by decide +kernel
theorem dX3_placesOf_1 : decode cX3_placesOf 1 = .ok (.getfield 17, 3) := by decide +kernel
theorem dX3_placesOf_4 : decode cX3_placesOf 4 = .ok (.iload_n 1, 1) := by decide +kernel
theorem dX3_placesOf_5 : decode cX3_placesOf 5 = .ok (.aaload, 1) := by decide +kernel
theorem dX3_placesOf_6 : decode cX3_placesOf 6 = .ok (.areturn, 1) := by decide +kernel
theorem dX3_get_0 : decode cX3_get 0 = .ok (.aload_n 0, 1) := by decide +kernel
theorem dX3_get_1 : decode cX3_get 1 = .ok (.getfield 17, 3) := by decide +kernel
theorem dX3_get_4 : decode cX3_get 4 = .ok (.iload_n 1, 1) := by decide +kernel
theorem dX3_get_5 : decode cX3_get 5 = .ok (.aaload, 1) := by decide +kernel
theorem dX3_get_6 : decode cX3_get 6 = .ok (.iload_n 2, 1) := by decide +kernel
theorem dX3_get_7 : decode cX3_get 7 = .ok (.iaload, 1) := by decide +kernel
theorem dX3_get_8 : decode cX3_get 8 = .ok (.ireturn, 1) := by decide +kernel
theorem dX3_set_0 : decode cX3_set 0 = .ok (.aload_n 0, 1) := by decide +kernel
theorem dX3_set_1 : decode cX3_set 1 = .ok (.getfield 17, 3) := by decide +kernel
theorem dX3_set_4 : decode cX3_set 4 = .ok (.iload_n 1, 1) := by decide +kernel
theorem dX3_set_5 : decode cX3_set 5 = .ok (.aaload, 1) := by decide +kernel
theorem dX3_set_6 : decode cX3_set 6 = .ok (.iload_n 2, 1) := by decide +kernel
theorem dX3_set_7 : decode cX3_set 7 = .ok (.iaload, 1) := by decide +kernel
theorem dX3_set_8 : decode cX3_set 8 = .ok (.istore 4, 2) := by decide +kernel
theorem dX3_set_10 : decode cX3_set 10 = .ok (.aload_n 0, 1) := by decide +kernel
theorem dX3_set_11 : decode cX3_set 11 = .ok (.getfield 17, 3) := by decide +kernel
theorem dX3_set_14 : decode cX3_set 14 = .ok (.iload_n 1, 1) := by decide +kernel
theorem dX3_set_15 : decode cX3_set 15 = .ok (.aaload, 1) := by decide +kernel
theorem dX3_set_16 : decode cX3_set 16 = .ok (.iload_n 2, 1) := by decide +kernel
theorem dX3_set_17 : decode cX3_set 17 = .ok (.iload_n 3, 1) := by decide +kernel
theorem dX3_set_18 : decode cX3_set 18 = .ok (.iastore, 1) := by decide +kernel
theorem dX3_set_19 : decode cX3_set 19 = .ok (.iload 4, 2) := by decide +kernel
theorem dX3_set_21 : decode cX3_set 21 = .ok (.ireturn, 1) := by decide +kernel
theorem dX3_makeOne_0 : decode cX3_makeOne 0 = .ok (.aload_n 0, 1) := by decide +kernel
theorem dX3_makeOne_1 : decode cX3_makeOne 1 = .ok (.getfield 20, 3) := by decide +kernel
theorem dX3_makeOne_4 : decode cX3_makeOne 4 = .ok (.iload_n 1, 1) := by decide +kernel
theorem dX3_makeOne_5 : decode cX3_makeOne 5 = .ok (.iload_n 2, 1) := by decide +kernel
theorem dX3_makeOne_6 : decode cX3_makeOne 6 = .ok (.iastore, 1) := by decide +kernel
theorem dX3_makeOne_7 : decode cX3_makeOne 7 = .ok (.aload_n 0, 1) := by decide +kernel
theorem dX3_makeOne_8 : decode cX3_makeOne 8 = .ok (.getfield 17, 3) := by decide +kernel
theorem dX3_makeOne_11 : decode cX3_makeOne 11 = .ok (.iload_n 1, 1) := by decide +kernel
theorem dX3_makeOne_12 : decode cX3_makeOne 12 = .ok (.aaload, 1) := by decide +kernel
theorem dX3_makeOne_13 : decode cX3_makeOne 13 = .ok (.iload_n 3, 1) := by decide +kernel
theorem dX3_makeOne_14 : decode cX3_makeOne 14 = .ok (.invokestatic 24, 3) := by decide +kernel
theorem dX3_makeOne_17 : decode cX3_makeOne 17 = .ok (.return_, 1) := by decide +kernel
theorem dX3_drop_0 : decode cX3_drop 0 = .ok (.aload_n 0, 1) := by decide +kernel
theorem dX3_drop_1 : decode cX3_drop 1 = .ok (.getfield 20, 3) := by decide +kernel
theorem dX3_drop_4 : decode cX3_drop 4 = .ok (.iload_n 1, 1) := by decide +kernel
theorem dX3_drop_5 : decode cX3_drop 5 = .ok (.iconst (-1), 1) := by decide +kernel
theorem dX3_drop_6 : decode cX3_drop 6 = .ok (.iastore, 1) := by decide +kernel
theorem dX3_drop_7 : decode cX3_drop 7 = .ok (.return_, 1) := by decide +kernel
theorem dX3_move_0 : decode cX3_move 0 = .ok (.aload_n 0, 1) := by decide +kernel
theorem dX3_move_1 : decode cX3_move 1 = .ok (.getfield 17, 3) := by decide +kernel
theorem dX3_move_4 : decode cX3_move 4 = .ok (.iload_n 1, 1) := by decide +kernel
theorem dX3_move_5 : decode cX3_move 5 = .ok (.aaload, 1) := by decide +kernel
theorem dX3_move_6 : decode cX3_move 6 = .ok (.iload_n 2, 1) := by decide +kernel
theorem dX3_move_7 : decode cX3_move 7 = .ok (.aload_n 0, 1) := by decide +kernel
theorem dX3_move_8 : decode cX3_move 8 = .ok (.getfield 17, 3) := by decide +kernel
theorem dX3_move_11 : decode cX3_move 11 = .ok (.iload_n 3, 1) := by decide +kernel
theorem dX3_move_12 : decode cX3_move 12 = .ok (.aaload, 1) := by decide +kernel
theorem dX3_move_13 : decode cX3_move 13 = .ok (.iload 4, 2) := by decide +kernel
theorem dX3_move_15 : decode cX3_move 15 = .ok (.iload 5, 2) := by decide +kernel
theorem dX3_move_17 : decode cX3_move 17 = .ok (.invokestatic 30, 3) := by decide +kernel
theorem dX3_move_20 : decode cX3_move 20 = .ok (.return_, 1) := by decide +kernel
theorem dX3_sum_0 : decode cX3_sum 0 = .ok (.lconst 0, 1) := by decide +kernel
theorem dX3_sum_1 : decode cX3_sum 1 = .ok (.lstore_n 2, 1) := by decide +kernel
theorem dX3_sum_2 : decode cX3_sum 2 = .ok (.iconst 0, 1) := by decide +kernel
theorem dX3_sum_3 : decode cX3_sum 3 = .ok (.istore 4, 2) := by decide +kernel
theorem dX3_sum_5 : decode cX3_sum 5 = .ok (.iload 4, 2) := by decide +kernel
theorem dX3_sum_7 : decode cX3_sum 7 = .ok (.aload_n 0, 1) := by decide +kernel
theorem dX3_sum_8 : decode cX3_sum 8 = .ok (.getfield 20, 3) := by decide +kernel
theorem dX3_sum_11 : decode cX3_sum 11 = .ok (.iload_n 1, 1) := by decide +kernel
theorem dX3_sum_12 : decode cX3_sum 12 = .ok (.iaload, 1) := by decide +kernel
theorem dX3_sum_13 : decode cX3_sum 13 = .ok (.if_icmp .ge 22, 3) := by decide +kernel
theorem dX3_sum_16 : decode cX3_sum 16 = .ok (.lload_n 2, 1) := by decide +kernel
theorem dX3_sum_17 : decode cX3_sum 17 = .ok (.aload_n 0, 1) := by decide +kernel
theorem dX3_sum_18 : decode cX3_sum 18 = .ok (.getfield 17, 3) := by decide +kernel
theorem dX3_sum_21 : decode cX3_sum 21 = .ok (.iload_n 1, 1) := by decide +kernel
theorem dX3_sum_22 : decode cX3_sum 22 = .ok (.aaload, 1) := by decide +kernel
theorem dX3_sum_23 : decode cX3_sum 23 = .ok (.iload 4, 2) := by decide +kernel
theorem dX3_sum_25 : decode cX3_sum 25 = .ok (.iaload, 1) := by decide +kernel
theorem dX3_sum_26 : decode cX3_sum 26 = .ok (.i2l, 1) := by decide +kernel
theorem dX3_sum_27 : decode cX3_sum 27 = .ok (.ladd, 1) := by decide +kernel
theorem dX3_sum_28 : decode cX3_sum 28 = .ok (.lstore_n 2, 1) := by decide +kernel
theorem dX3_sum_29 : decode cX3_sum 29 = .ok (.iinc 4 1, 3) := by decide +kernel
theorem dX3_sum_32 : decode cX3_sum 32 = .ok (.goto (-27), 3) := by decide +kernel
theorem dX3_sum_35 : decode cX3_sum 35 = .ok (.lload_n 2, 1) := by decide +kernel
theorem dX3_sum_36 : decode cX3_sum 36 = .ok (.lreturn, 1) := by decide +kernel
theorem dX3_howMany_0 : decode cX3_howMany 0 = .ok (.iconst 0, 1) := by decide +kernel
theorem dX3_howMany_1 : decode cX3_howMany 1 = .ok (.istore_n 1, 1) := by decide +kernel
theorem dX3_howMany_2 : decode cX3_howMany 2 = .ok (.iconst 0, 1) := by decide +kernel
theorem dX3_howMany_3 : decode cX3_howMany 3 = .ok (.istore_n 2, 1) := by decide +kernel
theorem dX3_howMany_4 : decode cX3_howMany 4 = .ok (.iload_n 2, 1) := by decide +kernel
theorem dX3_howMany_5 : decode cX3_howMany 5 = .ok (.aload_n 0, 1) := by decide +kernel
theorem dX3_howMany_6 : decode cX3_howMany 6 = .ok (.getfield 20, 3) := by decide +kernel
theorem dX3_howMany_9 : decode cX3_howMany 9 = .ok (.arraylength, 1) := by decide +kernel
theorem dX3_howMany_10 : decode cX3_howMany 10 = .ok (.if_icmp .ge 22, 3) := by decide +kernel
theorem dX3_howMany_13 : decode cX3_howMany 13 = .ok (.aload_n 0, 1) := by decide +kernel
theorem dX3_howMany_14 : decode cX3_howMany 14 = .ok (.getfield 20, 3) := by decide +kernel
theorem dX3_howMany_17 : decode cX3_howMany 17 = .ok (.iload_n 2, 1) := by decide +kernel
theorem dX3_howMany_18 : decode cX3_howMany 18 = .ok (.iaload, 1) := by decide +kernel
theorem dX3_howMany_19 : decode cX3_howMany 19 = .ok (.iconst (-1), 1) := by decide +kernel
theorem dX3_howMany_20 : decode cX3_howMany 20 = .ok (.if_icmp .eq 6, 3) := by decide +kernel
theorem dX3_howMany_23 : decode cX3_howMany 23 = .ok (.iinc 1 1, 3) := by decide +kernel
theorem dX3_howMany_26 : decode cX3_howMany 26 = .ok (.iinc 2 1, 3) := by decide +kernel
theorem dX3_howMany_29 : decode cX3_howMany 29 = .ok (.goto (-25), 3) := by decide +kernel
theorem dX3_howMany_32 : decode cX3_howMany 32 = .ok (.iload_n 1, 1) := by decide +kernel
theorem dX3_howMany_33 : decode cX3_howMany 33 = .ok (.ireturn, 1) := by decide +kernel
theorem dX3_mix_0 : decode cX3_mix 0 = .ok (.lload_n 1, 1) := by decide +kernel
theorem dX3_mix_1 : decode cX3_mix 1 = .ok (.lstore_n 3, 1) := by decide +kernel
theorem dX3_mix_2 : decode cX3_mix 2 = .ok (.iconst 0, 1) := by decide +kernel
theorem dX3_mix_3 : decode cX3_mix 3 = .ok (.istore 5, 2) := by decide +kernel
theorem dX3_mix_5 : decode cX3_mix 5 = .ok (.iload 5, 2) := by decide +kernel
theorem dX3_mix_7 : decode cX3_mix 7 = .ok (.aload_n 0, 1) := by decide +kernel
theorem dX3_mix_8 : decode cX3_mix 8 = .ok (.getfield 20, 3) := by decide +kernel
theorem dX3_mix_11 : decode cX3_mix 11 = .ok (.arraylength, 1) := by decide +kernel
theorem dX3_mix_12 : decode cX3_mix 12 = .ok (.if_icmp .ge 63, 3) := by decide +kernel
theorem dX3_mix_15 : decode cX3_mix 15 = .ok (.ldc2_w 36, 3) := by decide +kernel
theorem dX3_mix_18 : decode cX3_mix 18 = .ok (.lload_n 3, 1) := by decide +kernel
theorem dX3_mix_19 : decode cX3_mix 19 = .ok (.lmul, 1) := by decide +kernel
theorem dX3_mix_20 : decode cX3_mix 20 = .ok (.aload_n 0, 1) := by decide +kernel
theorem dX3_mix_21 : decode cX3_mix 21 = .ok (.getfield 20, 3) := by decide +kernel
theorem dX3_mix_24 : decode cX3_mix 24 = .ok (.iload 5, 2) := by decide +kernel
theorem dX3_mix_26 : decode cX3_mix 26 = .ok (.iaload, 1) := by decide +kernel
theorem dX3_mix_27 : decode cX3_mix 27 = .ok (.i2l, 1) := by decide +kernel
theorem dX3_mix_28 : decode cX3_mix 28 = .ok (.ladd, 1) := by decide +kernel
theorem dX3_mix_29 : decode cX3_mix 29 = .ok (.lstore_n 3, 1) := by decide +kernel
theorem dX3_mix_30 : decode cX3_mix 30 = .ok (.iconst 0, 1) := by decide +kernel
theorem dX3_mix_31 : decode cX3_mix 31 = .ok (.istore 6, 2) := by decide +kernel
theorem dX3_mix_33 : decode cX3_mix 33 = .ok (.iload 6, 2) := by decide +kernel
theorem dX3_mix_35 : decode cX3_mix 35 = .ok (.aload_n 0, 1) := by decide +kernel
theorem dX3_mix_36 : decode cX3_mix 36 = .ok (.getfield 20, 3) := by decide +kernel
theorem dX3_mix_39 : decode cX3_mix 39 = .ok (.iload 5, 2) := by decide +kernel
theorem dX3_mix_41 : decode cX3_mix 41 = .ok (.iaload, 1) := by decide +kernel
theorem dX3_mix_42 : decode cX3_mix 42 = .ok (.if_icmp .ge 27, 3) := by decide +kernel
theorem dX3_mix_45 : decode cX3_mix 45 = .ok (.ldc2_w 36, 3) := by decide +kernel
theorem dX3_mix_48 : decode cX3_mix 48 = .ok (.lload_n 3, 1) := by decide +kernel
theorem dX3_mix_49 : decode cX3_mix 49 = .ok (.lmul, 1) := by decide +kernel
theorem dX3_mix_50 : decode cX3_mix 50 = .ok (.aload_n 0, 1) := by decide +kernel
theorem dX3_mix_51 : decode cX3_mix 51 = .ok (.getfield 17, 3) := by decide +kernel
theorem dX3_mix_54 : decode cX3_mix 54 = .ok (.iload 5, 2) := by decide +kernel
theorem dX3_mix_56 : decode cX3_mix 56 = .ok (.aaload, 1) := by decide +kernel
theorem dX3_mix_57 : decode cX3_mix 57 = .ok (.iload 6, 2) := by decide +kernel
theorem dX3_mix_59 : decode cX3_mix 59 = .ok (.iaload, 1) := by decide +kernel
theorem dX3_mix_60 : decode cX3_mix 60 = .ok (.i2l, 1) := by decide +kernel
theorem dX3_mix_61 : decode cX3_mix 61 = .ok (.ladd, 1) := by decide +kernel
theorem dX3_mix_62 : decode cX3_mix 62 = .ok (.lstore_n 3, 1) := by decide +kernel
theorem dX3_mix_63 : decode cX3_mix 63 = .ok (.iinc 6 1, 3) := by decide +kernel
theorem dX3_mix_66 : decode cX3_mix 66 = .ok (.goto (-33), 3) := by decide +kernel
theorem dX3_mix_69 : decode cX3_mix 69 = .ok (.iinc 5 1, 3) := by decide +kernel
theorem dX3_mix_72 : decode cX3_mix 72 = .ok (.goto (-67), 3) := by decide +kernel
theorem dX3_mix_75 : decode cX3_mix 75 = .ok (.lload_n 3, 1) := by decide +kernel
theorem dX3_mix_76 : decode cX3_mix 76 = .ok (.lreturn, 1) := by decide +kernel
theorem dX4_init_0 : decode cX4_init 0 = .ok (.aload_n 0, 1) := by decide +kernel
theorem dX4_init_1 : decode cX4_init 1 = .ok (.invokespecial 3, 3) := by decide +kernel
theorem dX4_init_4 : decode cX4_init 4 = .ok (.aload_n 0, 1) := by decide +kernel
theorem dX4_init_5 : decode cX4_init 5 = .ok (.bipush 8, 2) := by decide +kernel
theorem dX4_init_7 : decode cX4_init 7 = .ok (.newarray .int, 2) := by decide +kernel
theorem dX4_init_9 : decode cX4_init 9 = .ok (.putfield 9, 3) := by decide +kernel
theorem dX4_init_12 : decode cX4_init 12 = .ok (.aload_n 0, 1) := by decide +kernel
theorem dX4_init_13 : decode cX4_init 13 = .ok (.bipush 8, 2) := by decide +kernel
theorem dX4_init_15 : decode cX4_init 15 = .ok (.newarray .int, 2) := by decide +kernel
theorem dX4_init_17 : decode cX4_init 17 = .ok (.putfield 15, 3) := by decide +kernel
theorem dX4_init_20 : decode cX4_init 20 = .ok (.aload_n 0, 1) := by decide +kernel
theorem dX4_init_21 : decode cX4_init 21 = .ok (.bipush 8, 2) := by decide +kernel
theorem dX4_init_23 : decode cX4_init 23 = .ok (.newarray .int, 2) := by decide +kernel
theorem dX4_init_25 : decode cX4_init 25 = .ok (.putfield 18, 3) := by decide +kernel
theorem dX4_init_28 : decode cX4_init 28 = .ok (.aload_n 0, 1) := by decide +kernel
theorem dX4_init_29 : decode cX4_init 29 = .ok (.bipush 8, 2) := by decide +kernel
theorem dX4_init_31 : decode cX4_init 31 = .ok (.newarray .int, 2) := by decide +kernel
theorem dX4_init_33 : decode cX4_init 33 = .ok (.putfield 21, 3) := by decide +kernel
theorem dX4_init_36 : decode cX4_init 36 = .ok (.aload_n 0, 1) := by decide +kernel
theorem dX4_init_37 : decode cX4_init 37 = .ok (.bipush 8, 2) := by decide +kernel
theorem dX4_init_39 : decode cX4_init 39 = .ok (.newarray .int, 2) := by decide +kernel
theorem dX4_init_41 : decode cX4_init 41 = .ok (.putfield 24, 3) := by decide +kernel
theorem dX4_init_44 : decode cX4_init 44 = .ok (.return_, 1) := by decide +kernel
theorem dX4_take_0 : decode cX4_take 0 = .ok (.aload_n 1, 1) := by decide +kernel
theorem dX4_take_1 : decode cX4_take 1 = .ok (.getfield 9, 3) := by decide +kernel
theorem dX4_take_4 : decode cX4_take 4 = .ok (.iconst 0, 1) := by decide +kernel
theorem dX4_take_5 : decode cX4_take 5 = .ok (.aload_n 0, 1) := by decide +kernel
theorem dX4_take_6 : decode cX4_take 6 = .ok (.getfield 9, 3) := by decide +kernel
theorem dX4_take_9 : decode cX4_take 9 = .ok (.iconst 0, 1) := by decide +kernel
theorem dX4_take_10 : decode cX4_take 10 = .ok (.bipush 8, 2) := by decide +kernel
theorem dX4_take_12 : decode cX4_take 12 = .ok (.invokestatic 27, 3) := by decide +kernel
theorem dX4_take_15 : decode cX4_take 15 = .ok (.aload_n 1, 1) := by decide +kernel
theorem dX4_take_16 : decode cX4_take 16 = .ok (.getfield 15, 3) := by decide +kernel
theorem dX4_take_19 : decode cX4_take 19 = .ok (.iconst 0, 1) := by decide +kernel
theorem dX4_take_20 : decode cX4_take 20 = .ok (.aload_n 0, 1) := by decide +kernel
theorem dX4_take_21 : decode cX4_take 21 = .ok (.getfield 15, 3) := by decide +kernel
theorem dX4_take_24 : decode cX4_take 24 = .ok (.iconst 0, 1) := by decide +kernel
theorem dX4_take_25 : decode cX4_take 25 = .ok (.bipush 8, 2) := by decide +kernel
theorem dX4_take_27 : decode cX4_take 27 = .ok (.invokestatic 27, 3) := by decide +kernel
theorem dX4_take_30 : decode cX4_take 30 = .ok (.aload_n 1, 1) := by decide +kernel
theorem dX4_take_31 : decode cX4_take 31 = .ok (.getfield 18, 3) := by decide +kernel
theorem dX4_take_34 : decode cX4_take 34 = .ok (.iconst 0, 1) := by decide +kernel
theorem dX4_take_35 : decode cX4_take 35 = .ok (.aload_n 0, 1) := by decide +kernel
theorem dX4_take_36 : decode cX4_take 36 = .ok (.getfield 18, 3) := by decide +kernel
theorem dX4_take_39 : decode cX4_take 39 = .ok (.iconst 0, 1) := by decide +kernel
theorem dX4_take_40 : decode cX4_take 40 = .ok (.bipush 8, 2) := by decide +kernel
theorem dX4_take_42 : decode cX4_take 42 = .ok (.invokestatic 27, 3) := by decide +kernel
theorem dX4_take_45 : decode cX4_take 45 = .ok (.aload_n 1, 1) := by decide +kernel
theorem dX4_take_46 : decode cX4_take 46 = .ok (.getfield 21, 3) := by decide +kernel
theorem dX4_take_49 : decode cX4_take 49 = .ok (.iconst 0, 1) := by decide +kernel
theorem dX4_take_50 : decode cX4_take 50 = .ok (.aload_n 0, 1) := by decide +kernel
theorem dX4_take_51 : decode cX4_take 51 = .ok (.getfield 21, 3) := by decide +kernel
theorem dX4_take_54 : decode cX4_take 54 = .ok (.iconst 0, 1) := by decide +kernel
theorem dX4_take_55 : decode cX4_take 55 = .ok (.bipush 8, 2) := by decide +kernel
theorem dX4_take_57 : decode cX4_take 57 = .ok (.invokestatic 27, 3) := by decide +kernel
theorem dX4_take_60 : decode cX4_take 60 = .ok (.aload_n 1, 1) := by decide +kernel
theorem dX4_take_61 : decode cX4_take 61 = .ok (.getfield 24, 3) := by decide +kernel
theorem dX4_take_64 : decode cX4_take 64 = .ok (.iconst 0, 1) := by decide +kernel
theorem dX4_take_65 : decode cX4_take 65 = .ok (.aload_n 0, 1) := by decide +kernel
theorem dX4_take_66 : decode cX4_take 66 = .ok (.getfield 24, 3) := by decide +kernel
theorem dX4_take_69 : decode cX4_take 69 = .ok (.iconst 0, 1) := by decide +kernel
theorem dX4_take_70 : decode cX4_take 70 = .ok (.bipush 8, 2) := by decide +kernel
theorem dX4_take_72 : decode cX4_take 72 = .ok (.invokestatic 27, 3) := by decide +kernel
theorem dX4_take_75 : decode cX4_take 75 = .ok (.aload_n 0, 1) := by decide +kernel
theorem dX4_take_76 : decode cX4_take 76 = .ok (.aload_n 1, 1) := by decide +kernel
theorem dX4_take_77 : decode cX4_take 77 = .ok (.getfield 33, 3) := by decide +kernel
theorem dX4_take_80 : decode cX4_take 80 = .ok (.putfield 33, 3) := by decide +kernel
theorem dX4_take_83 : decode cX4_take 83 = .ok (.aload_n 0, 1) := by decide +kernel
theorem dX4_take_84 : decode cX4_take 84 = .ok (.aload_n 1, 1) := by decide +kernel
theorem dX4_take_85 : decode cX4_take 85 = .ok (.getfield 37, 3) := by decide +kernel
theorem dX4_take_88 : decode cX4_take 88 = .ok (.putfield 37, 3) := by decide +kernel
theorem dX4_take_91 : decode cX4_take 91 = .ok (.aload_n 0, 1) := by decide +kernel
theorem dX4_take_92 : decode cX4_take 92 = .ok (.aload_n 1, 1) := by decide +kernel
theorem dX4_take_93 : decode cX4_take 93 = .ok (.getfield 40, 3) := by decide +kernel
theorem dX4_take_96 : decode cX4_take 96 = .ok (.putfield 40, 3) := by decide +kernel
theorem dX4_take_99 : decode cX4_take 99 = .ok (.aload_n 0, 1) := by decide +kernel
theorem dX4_take_100 : decode cX4_take 100 = .ok (.aload_n 1, 1) := by decide +kernel
theorem dX4_take_101 : decode cX4_take 101 = .ok (.getfield 43, 3) := by decide +kernel
theorem dX4_take_104 : decode cX4_take 104 = .ok (.putfield 43, 3) := by decide +kernel
theorem dX4_take_107 : decode cX4_take 107 = .ok (.aload_n 0, 1) := by decide +kernel
theorem dX4_take_108 : decode cX4_take 108 = .ok (.aload_n 1, 1) := by decide +kernel
theorem dX4_take_109 : decode cX4_take 109 = .ok (.getfield 46, 3) := by decide +kernel
theorem dX4_take_112 : decode cX4_take 112 = .ok (.putfield 46, 3) := by decide +kernel
theorem dX4_take_115 : decode cX4_take 115 = .ok (.aload_n 0, 1) := by decide +kernel
theorem dX4_take_116 : decode cX4_take 116 = .ok (.aload_n 1, 1) := by decide +kernel
theorem dX4_take_117 : decode cX4_take 117 = .ok (.getfield 49, 3) := by decide +kernel
theorem dX4_take_120 : decode cX4_take 120 = .ok (.putfield 49, 3) := by decide +kernel
theorem dX4_take_123 : decode cX4_take 123 = .ok (.return_, 1) := by decide +kernel
theorem dX4_start_0 : decode cX4_start 0 = .ok (.aload_n 0, 1) := by decide +kernel
theorem dX4_start_1 : decode cX4_start 1 = .ok (.getfield 24, 3) := by decide +kernel
theorem dX4_start_4 : decode cX4_start 4 = .ok (.iconst 0, 1) := by decide +kernel
theorem dX4_start_5 : decode cX4_start 5 = .ok (.invokestatic 53, 3) := by decide +kernel
theorem dX4_start_8 : decode cX4_start 8 = .ok (.aload_n 0, 1) := by decide +kernel
theorem dX4_start_9 : decode cX4_start 9 = .ok (.iconst 0, 1) := by decide +kernel
theorem dX4_start_10 : decode cX4_start 10 = .ok (.putfield 40, 3) := by decide +kernel
theorem dX4_start_13 : decode cX4_start 13 = .ok (.aload_n 0, 1) := by decide +kernel
theorem dX4_start_14 : decode cX4_start 14 = .ok (.iconst 0, 1) := by decide +kernel
theorem dX4_start_15 : decode cX4_start 15 = .ok (.putfield 43, 3) := by decide +kernel
theorem dX4_start_18 : decode cX4_start 18 = .ok (.aload_n 0, 1) := by decide +kernel
theorem dX4_start_19 : decode cX4_start 19 = .ok (.iconst 1, 1) := by decide +kernel
theorem dX4_start_20 : decode cX4_start 20 = .ok (.aload_n 0, 1) := by decide +kernel
theorem dX4_start_21 : decode cX4_start 21 = .ok (.getfield 33, 3) := by decide +kernel
theorem dX4_start_24 : decode cX4_start 24 = .ok (.ishl, 1) := by decide +kernel
theorem dX4_start_25 : decode cX4_start 25 = .ok (.iconst 1, 1) := by decide +kernel
theorem dX4_start_26 : decode cX4_start 26 = .ok (.isub, 1) := by decide +kernel
theorem dX4_start_27 : decode cX4_start 27 = .ok (.putfield 46, 3) := by decide +kernel
theorem dX4_start_30 : decode cX4_start 30 = .ok (.aload_n 0, 1) := by decide +kernel
theorem dX4_start_31 : decode cX4_start 31 = .ok (.iconst 0, 1) := by decide +kernel
theorem dX4_start_32 : decode cX4_start 32 = .ok (.putfield 49, 3) := by decide +kernel
theorem dX4_start_35 : decode cX4_start 35 = .ok (.return_, 1) := by decide +kernel
theorem dX4_isEmpty_0 : decode cX4_isEmpty 0 = .ok (.aload_n 0, 1) := by decide +kernel
theorem dX4_isEmpty_1 : decode cX4_isEmpty 1 = .ok (.getfield 33, 3) := by decide +kernel
theorem dX4_isEmpty_4 : decode cX4_isEmpty 4 = .ok (.ifCond .ne 7, 3) := by decide +kernel
theorem dX4_isEmpty_7 : decode cX4_isEmpty 7 = .ok (.iconst 1, 1) := by decide +kernel
theorem dX4_isEmpty_8 : decode cX4_isEmpty 8 = .ok (.goto 4, 3) := by decide +kernel
theorem dX4_isEmpty_11 : decode cX4_isEmpty 11 = .ok (.iconst 0, 1) := by decide +kernel
theorem dX4_isEmpty_12 : decode cX4_isEmpty 12 = .ok (.ireturn, 1) := by decide +kernel
theorem dX4_isSpoke_0 : decode cX4_isSpoke 0 = .ok (.iload_n 1, 1) := by decide +kernel
theorem dX4_isSpoke_1 : decode cX4_isSpoke 1 = .ok (.ifCond .lt 15, 3) := by decide +kernel
theorem dX4_isSpoke_4 : decode cX4_isSpoke 4 = .ok (.iload_n 1, 1) := by decide +kernel
theorem dX4_isSpoke_5 : decode cX4_isSpoke 5 = .ok (.aload_n 0, 1) := by decide +kernel
theorem dX4_isSpoke_6 : decode cX4_isSpoke 6 = .ok (.getfield 33, 3) := by decide +kernel
theorem dX4_isSpoke_9 : decode cX4_isSpoke 9 = .ok (.if_icmp .ge 7, 3) := by decide +kernel
theorem dX4_isSpoke_12 : decode cX4_isSpoke 12 = .ok (.iconst 1, 1) := by decide +kernel
theorem dX4_isSpoke_13 : decode cX4_isSpoke 13 = .ok (.goto 4, 3) := by decide +kernel
theorem dX4_isSpoke_16 : decode cX4_isSpoke 16 = .ok (.iconst 0, 1) := by decide +kernel
theorem dX4_isSpoke_17 : decode cX4_isSpoke 17 = .ok (.ireturn, 1) := by decide +kernel
theorem dX4_isThere_0 : decode cX4_isThere 0 = .ok (.aload_n 0, 1) := by decide +kernel
theorem dX4_isThere_1 : decode cX4_isThere 1 = .ok (.getfield 46, 3) := by decide +kernel
theorem dX4_isThere_4 : decode cX4_isThere 4 = .ok (.iload_n 1, 1) := by decide +kernel
theorem dX4_isThere_5 : decode cX4_isThere 5 = .ok (.ishr, 1) := by decide +kernel
theorem dX4_isThere_6 : decode cX4_isThere 6 = .ok (.iconst 1, 1) := by decide +kernel
theorem dX4_isThere_7 : decode cX4_isThere 7 = .ok (.iand, 1) := by decide +kernel
theorem dX4_isThere_8 : decode cX4_isThere 8 = .ok (.iconst 1, 1) := by decide +kernel
theorem dX4_isThere_9 : decode cX4_isThere 9 = .ok (.if_icmp .ne 7, 3) := by decide +kernel
theorem dX4_isThere_12 : decode cX4_isThere 12 = .ok (.iconst 1, 1) := by decide +kernel
theorem dX4_isThere_13 : decode cX4_isThere 13 = .ok (.goto 4, 3) := by decide +kernel
theorem dX4_isThere_16 : decode cX4_isThere 16 = .ok (.iconst 0, 1) := by decide +kernel
theorem dX4_isThere_17 : decode cX4_isThere 17 = .ok (.ireturn, 1) := by decide +kernel
theorem dX4_goneOnes_0 : decode cX4_goneOnes 0 = .ok (.iconst 1, 1) := by decide +kernel
theorem dX4_goneOnes_1 : decode cX4_goneOnes 1 = .ok (.aload_n 0, 1) := by decide +kernel
theorem dX4_goneOnes_2 : decode cX4_goneOnes 2 = .ok (.getfield 33, 3) := by decide +kernel
theorem dX4_goneOnes_5 : decode cX4_goneOnes 5 = .ok (.ishl, 1) := by decide +kernel
theorem dX4_goneOnes_6 : decode cX4_goneOnes 6 = .ok (.iconst 1, 1) := by decide +kernel
theorem dX4_goneOnes_7 : decode cX4_goneOnes 7 = .ok (.isub, 1) := by decide +kernel
theorem dX4_goneOnes_8 : decode cX4_goneOnes 8 = .ok (.aload_n 0, 1) := by decide +kernel
theorem dX4_goneOnes_9 : decode cX4_goneOnes 9 = .ok (.getfield 46, 3) := by decide +kernel
theorem dX4_goneOnes_12 : decode cX4_goneOnes 12 = .ok (.iconst (-1), 1) := by decide +kernel
theorem dX4_goneOnes_13 : decode cX4_goneOnes 13 = .ok (.ixor, 1) := by decide +kernel
theorem dX4_goneOnes_14 : decode cX4_goneOnes 14 = .ok (.iand, 1) := by decide +kernel
theorem dX4_goneOnes_15 : decode cX4_goneOnes 15 = .ok (.ireturn, 1) := by decide +kernel
theorem dX4_isOver_0 : decode cX4_isOver 0 = .ok (.aload_n 0, 1) := by decide +kernel
theorem dX4_isOver_1 : decode cX4_isOver 1 = .ok (.invokevirtual 59, 3) := by decide +kernel
theorem dX4_isOver_4 : decode cX4_isOver 4 = .ok (.istore_n 1, 1) := by decide +kernel
theorem dX4_isOver_5 : decode cX4_isOver 5 = .ok (.iload_n 1, 1) := by decide +kernel
theorem dX4_isOver_6 : decode cX4_isOver 6 = .ok (.ifCond .ne 5, 3) := by decide +kernel
theorem dX4_isOver_9 : decode cX4_isOver 9 = .ok (.iconst 0, 1) := by decide +kernel
theorem dX4_isOver_10 : decode cX4_isOver 10 = .ok (.ireturn, 1) := by decide +kernel
theorem dX4_isOver_11 : decode cX4_isOver 11 = .ok (.iload_n 1, 1) := by decide +kernel
theorem dX4_isOver_12 : decode cX4_isOver 12 = .ok (.iconst 1, 1) := by decide +kernel
theorem dX4_isOver_13 : decode cX4_isOver 13 = .ok (.ishl, 1) := by decide +kernel
theorem dX4_isOver_14 : decode cX4_isOver 14 = .ok (.iload_n 1, 1) := by decide +kernel
theorem dX4_isOver_15 : decode cX4_isOver 15 = .ok (.aload_n 0, 1) := by decide +kernel
theorem dX4_isOver_16 : decode cX4_isOver 16 = .ok (.getfield 33, 3) := by decide +kernel
theorem dX4_isOver_19 : decode cX4_isOver 19 = .ok (.iconst 1, 1) := by decide +kernel
theorem dX4_isOver_20 : decode cX4_isOver 20 = .ok (.isub, 1) := by decide +kernel
theorem dX4_isOver_21 : decode cX4_isOver 21 = .ok (.ishr, 1) := by decide +kernel
theorem dX4_isOver_22 : decode cX4_isOver 22 = .ok (.ior, 1) := by decide +kernel
theorem dX4_isOver_23 : decode cX4_isOver 23 = .ok (.istore_n 2, 1) := by decide +kernel
theorem dX4_isOver_24 : decode cX4_isOver 24 = .ok (.iload_n 1, 1) := by decide +kernel
theorem dX4_isOver_25 : decode cX4_isOver 25 = .ok (.iload_n 2, 1) := by decide +kernel
theorem dX4_isOver_26 : decode cX4_isOver 26 = .ok (.iand, 1) := by decide +kernel
theorem dX4_isOver_27 : decode cX4_isOver 27 = .ok (.ifCond .eq 7, 3) := by decide +kernel
theorem dX4_isOver_30 : decode cX4_isOver 30 = .ok (.iconst 1, 1) := by decide +kernel
theorem dX4_isOver_31 : decode cX4_isOver 31 = .ok (.goto 4, 3) := by decide +kernel
theorem dX4_isOver_34 : decode cX4_isOver 34 = .ok (.iconst 0, 1) := by decide +kernel
theorem dX4_isOver_35 : decode cX4_isOver 35 = .ok (.ireturn, 1) := by decide +kernel
theorem dX4_depth_0 : decode cX4_depth 0 = .ok (.aload_n 0, 1) := by decide +kernel
theorem dX4_depth_1 : decode cX4_depth 1 = .ok (.getfield 9, 3) := by decide +kernel
theorem dX4_depth_4 : decode cX4_depth 4 = .ok (.aload_n 0, 1) := by decide +kernel
theorem dX4_depth_5 : decode cX4_depth 5 = .ok (.getfield 43, 3) := by decide +kernel
theorem dX4_depth_8 : decode cX4_depth 8 = .ok (.bipush 7, 2) := by decide +kernel
theorem dX4_depth_10 : decode cX4_depth 10 = .ok (.iand, 1) := by decide +kernel
theorem dX4_depth_11 : decode cX4_depth 11 = .ok (.iaload, 1) := by decide +kernel
theorem dX4_depth_12 : decode cX4_depth 12 = .ok (.ireturn, 1) := by decide +kernel
theorem dX4_bearingAs_0 : decode cX4_bearingAs 0 = .ok (.iload_n 1, 1) := by decide +kernel
theorem dX4_bearingAs_1 : decode cX4_bearingAs 1 = .ok (.aload_n 0, 1) := by decide +kernel
theorem dX4_bearingAs_2 : decode cX4_bearingAs 2 = .ok (.getfield 21, 3) := by decide +kernel
theorem dX4_bearingAs_5 : decode cX4_bearingAs 5 = .ok (.iload_n 2, 1) := by decide +kernel
theorem dX4_bearingAs_6 : decode cX4_bearingAs 6 = .ok (.iaload, 1) := by decide +kernel
theorem dX4_bearingAs_7 : decode cX4_bearingAs 7 = .ok (.aload_n 0, 1) := by decide +kernel
theorem dX4_bearingAs_8 : decode cX4_bearingAs 8 = .ok (.getfield 24, 3) := by decide +kernel
theorem dX4_bearingAs_11 : decode cX4_bearingAs 11 = .ok (.iload_n 2, 1) := by decide +kernel
theorem dX4_bearingAs_12 : decode cX4_bearingAs 12 = .ok (.iaload, 1) := by decide +kernel
theorem dX4_bearingAs_13 : decode cX4_bearingAs 13 = .ok (.aload_n 0, 1) := by decide +kernel
theorem dX4_bearingAs_14 : decode cX4_bearingAs 14 = .ok (.invokevirtual 63, 3) := by decide +kernel
theorem dX4_bearingAs_17 : decode cX4_bearingAs 17 = .ok (.aload_n 0, 1) := by decide +kernel
theorem dX4_bearingAs_18 : decode cX4_bearingAs 18 = .ok (.getfield 49, 3) := by decide +kernel
theorem dX4_bearingAs_21 : decode cX4_bearingAs 21 = .ok (.invokestatic 66, 3) := by decide +kernel
theorem dX4_bearingAs_24 : decode cX4_bearingAs 24 = .ok (.ireturn, 1) := by decide +kernel
theorem dX4_facet_0 : decode cX4_facet 0 = .ok (.iload_n 2, 1) := by decide +kernel
theorem dX4_facet_1 : decode cX4_facet 1 = .ok (.tableswitch 77 0 4 #[35, 42, 49, 56, 63], 35) := by decide +kernel
theorem dX4_facet_36 : decode cX4_facet 36 = .ok (.aload_n 0, 1) := by decide +kernel
theorem dX4_facet_37 : decode cX4_facet 37 = .ok (.getfield 15, 3) := by decide +kernel
theorem dX4_facet_40 : decode cX4_facet 40 = .ok (.iload_n 1, 1) := by decide +kernel
theorem dX4_facet_41 : decode cX4_facet 41 = .ok (.iaload, 1) := by decide +kernel
theorem dX4_facet_42 : decode cX4_facet 42 = .ok (.ireturn, 1) := by decide +kernel
theorem dX4_facet_43 : decode cX4_facet 43 = .ok (.aload_n 0, 1) := by decide +kernel
theorem dX4_facet_44 : decode cX4_facet 44 = .ok (.getfield 18, 3) := by decide +kernel
theorem dX4_facet_47 : decode cX4_facet 47 = .ok (.iload_n 1, 1) := by decide +kernel
theorem dX4_facet_48 : decode cX4_facet 48 = .ok (.iaload, 1) := by decide +kernel
theorem dX4_facet_49 : decode cX4_facet 49 = .ok (.ireturn, 1) := by decide +kernel
theorem dX4_facet_50 : decode cX4_facet 50 = .ok (.aload_n 0, 1) := by decide +kernel
theorem dX4_facet_51 : decode cX4_facet 51 = .ok (.getfield 21, 3) := by decide +kernel
theorem dX4_facet_54 : decode cX4_facet 54 = .ok (.iload_n 1, 1) := by decide +kernel
theorem dX4_facet_55 : decode cX4_facet 55 = .ok (.iaload, 1) := by decide +kernel
theorem dX4_facet_56 : decode cX4_facet 56 = .ok (.ireturn, 1) := by decide +kernel
theorem dX4_facet_57 : decode cX4_facet 57 = .ok (.aload_n 0, 1) := by decide +kernel
theorem dX4_facet_58 : decode cX4_facet 58 = .ok (.getfield 24, 3) := by decide +kernel
theorem dX4_facet_61 : decode cX4_facet 61 = .ok (.iload_n 1, 1) := by decide +kernel
theorem dX4_facet_62 : decode cX4_facet 62 = .ok (.iaload, 1) := by decide +kernel
theorem dX4_facet_63 : decode cX4_facet 63 = .ok (.ireturn, 1) := by decide +kernel
theorem dX4_facet_64 : decode cX4_facet 64 = .ok (.aload_n 0, 1) := by decide +kernel
theorem dX4_facet_65 : decode cX4_facet 65 = .ok (.iload_n 1, 1) := by decide +kernel
theorem dX4_facet_66 : decode cX4_facet 66 = .ok (.invokevirtual 70, 3) := by decide +kernel
theorem dX4_facet_69 : decode cX4_facet 69 = .ok (.ifCond .eq 7, 3) := by decide +kernel
theorem dX4_facet_72 : decode cX4_facet 72 = .ok (.iconst 1, 1) := by decide +kernel
theorem dX4_facet_73 : decode cX4_facet 73 = .ok (.goto 4, 3) := by decide +kernel
theorem dX4_facet_76 : decode cX4_facet 76 = .ok (.iconst 0, 1) := by decide +kernel
theorem dX4_facet_77 : decode cX4_facet 77 = .ok (.ireturn, 1) := by decide +kernel
theorem dX4_facet_78 : decode cX4_facet 78 = .ok (.aload_n 0, 1) := by decide +kernel
theorem dX4_facet_79 : decode cX4_facet 79 = .ok (.aload_n 0, 1) := by decide +kernel
theorem dX4_facet_80 : decode cX4_facet 80 = .ok (.getfield 15, 3) := by decide +kernel
theorem dX4_facet_83 : decode cX4_facet 83 = .ok (.iload_n 1, 1) := by decide +kernel
theorem dX4_facet_84 : decode cX4_facet 84 = .ok (.iaload, 1) := by decide +kernel
theorem dX4_facet_85 : decode cX4_facet 85 = .ok (.iload_n 1, 1) := by decide +kernel
theorem dX4_facet_86 : decode cX4_facet 86 = .ok (.invokevirtual 74, 3) := by decide +kernel
theorem dX4_facet_89 : decode cX4_facet 89 = .ok (.ireturn, 1) := by decide +kernel
theorem dX4_differs_0 : decode cX4_differs 0 = .ok (.aload_n 0, 1) := by decide +kernel
theorem dX4_differs_1 : decode cX4_differs 1 = .ok (.aload_n 0, 1) := by decide +kernel
theorem dX4_differs_2 : decode cX4_differs 2 = .ok (.getfield 15, 3) := by decide +kernel
theorem dX4_differs_5 : decode cX4_differs 5 = .ok (.iload_n 1, 1) := by decide +kernel
theorem dX4_differs_6 : decode cX4_differs 6 = .ok (.iaload, 1) := by decide +kernel
theorem dX4_differs_7 : decode cX4_differs 7 = .ok (.iload_n 1, 1) := by decide +kernel
theorem dX4_differs_8 : decode cX4_differs 8 = .ok (.invokevirtual 74, 3) := by decide +kernel
theorem dX4_differs_11 : decode cX4_differs 11 = .ok (.istore_n 3, 1) := by decide +kernel
theorem dX4_differs_12 : decode cX4_differs 12 = .ok (.iload_n 2, 1) := by decide +kernel
theorem dX4_differs_13 : decode cX4_differs 13 = .ok (.tableswitch 62 1 5 #[35, 62, 44, 62, 53], 35) := by decide +kernel
theorem dX4_differs_48 : decode cX4_differs 48 = .ok (.aload_n 0, 1) := by decide +kernel
theorem dX4_differs_49 : decode cX4_differs 49 = .ok (.iconst 0, 1) := by decide +kernel
theorem dX4_differs_50 : decode cX4_differs 50 = .ok (.iload_n 1, 1) := by decide +kernel
theorem dX4_differs_51 : decode cX4_differs 51 = .ok (.invokevirtual 74, 3) := by decide +kernel
theorem dX4_differs_54 : decode cX4_differs 54 = .ok (.iload_n 3, 1) := by decide +kernel
theorem dX4_differs_55 : decode cX4_differs 55 = .ok (.isub, 1) := by decide +kernel
theorem dX4_differs_56 : decode cX4_differs 56 = .ok (.ireturn, 1) := by decide +kernel
theorem dX4_differs_57 : decode cX4_differs 57 = .ok (.iload_n 3, 1) := by decide +kernel
theorem dX4_differs_58 : decode cX4_differs 58 = .ok (.aload_n 0, 1) := by decide +kernel
theorem dX4_differs_59 : decode cX4_differs 59 = .ok (.iconst 2, 1) := by decide +kernel
theorem dX4_differs_60 : decode cX4_differs 60 = .ok (.iload_n 1, 1) := by decide +kernel
theorem dX4_differs_61 : decode cX4_differs 61 = .ok (.invokevirtual 74, 3) := by decide +kernel
theorem dX4_differs_64 : decode cX4_differs 64 = .ok (.isub, 1) := by decide +kernel
theorem dX4_differs_65 : decode cX4_differs 65 = .ok (.ireturn, 1) := by decide +kernel
theorem dX4_differs_66 : decode cX4_differs 66 = .ok (.aload_n 0, 1) := by decide +kernel
theorem dX4_differs_67 : decode cX4_differs 67 = .ok (.iconst 4, 1) := by decide +kernel
theorem dX4_differs_68 : decode cX4_differs 68 = .ok (.iload_n 1, 1) := by decide +kernel
theorem dX4_differs_69 : decode cX4_differs 69 = .ok (.invokevirtual 74, 3) := by decide +kernel
theorem dX4_differs_72 : decode cX4_differs 72 = .ok (.iload_n 3, 1) := by decide +kernel
theorem dX4_differs_73 : decode cX4_differs 73 = .ok (.isub, 1) := by decide +kernel
theorem dX4_differs_74 : decode cX4_differs 74 = .ok (.ireturn, 1) := by decide +kernel
theorem dX4_differs_75 : decode cX4_differs 75 = .ok (.iload_n 3, 1) := by decide +kernel
theorem dX4_differs_76 : decode cX4_differs 76 = .ok (.aload_n 0, 1) := by decide +kernel
theorem dX4_differs_77 : decode cX4_differs 77 = .ok (.iconst 0, 1) := by decide +kernel
theorem dX4_differs_78 : decode cX4_differs 78 = .ok (.iload_n 1, 1) := by decide +kernel
theorem dX4_differs_79 : decode cX4_differs 79 = .ok (.invokevirtual 74, 3) := by decide +kernel
theorem dX4_differs_82 : decode cX4_differs 82 = .ok (.isub, 1) := by decide +kernel
theorem dX4_differs_83 : decode cX4_differs 83 = .ok (.bipush 100, 2) := by decide +kernel
theorem dX4_differs_85 : decode cX4_differs 85 = .ok (.iadd, 1) := by decide +kernel
theorem dX4_differs_86 : decode cX4_differs 86 = .ok (.ireturn, 1) := by decide +kernel
theorem dX4_lengthThere_0 : decode cX4_lengthThere 0 = .ok (.iconst 0, 1) := by decide +kernel
theorem dX4_lengthThere_1 : decode cX4_lengthThere 1 = .ok (.istore_n 1, 1) := by decide +kernel
theorem dX4_lengthThere_2 : decode cX4_lengthThere 2 = .ok (.iconst 0, 1) := by decide +kernel
theorem dX4_lengthThere_3 : decode cX4_lengthThere 3 = .ok (.istore_n 2, 1) := by decide +kernel
theorem dX4_lengthThere_4 : decode cX4_lengthThere 4 = .ok (.iload_n 2, 1) := by decide +kernel
theorem dX4_lengthThere_5 : decode cX4_lengthThere 5 = .ok (.aload_n 0, 1) := by decide +kernel
theorem dX4_lengthThere_6 : decode cX4_lengthThere 6 = .ok (.getfield 33, 3) := by decide +kernel
theorem dX4_lengthThere_9 : decode cX4_lengthThere 9 = .ok (.if_icmp .ge 26, 3) := by decide +kernel
theorem dX4_lengthThere_12 : decode cX4_lengthThere 12 = .ok (.aload_n 0, 1) := by decide +kernel
theorem dX4_lengthThere_13 : decode cX4_lengthThere 13 = .ok (.iload_n 2, 1) := by decide +kernel
theorem dX4_lengthThere_14 : decode cX4_lengthThere 14 = .ok (.invokevirtual 70, 3) := by decide +kernel
theorem dX4_lengthThere_17 : decode cX4_lengthThere 17 = .ok (.ifCond .eq 12, 3) := by decide +kernel
theorem dX4_lengthThere_20 : decode cX4_lengthThere 20 = .ok (.iload_n 1, 1) := by decide +kernel
theorem dX4_lengthThere_21 : decode cX4_lengthThere 21 = .ok (.aload_n 0, 1) := by decide +kernel
theorem dX4_lengthThere_22 : decode cX4_lengthThere 22 = .ok (.getfield 18, 3) := by decide +kernel
theorem dX4_lengthThere_25 : decode cX4_lengthThere 25 = .ok (.iload_n 2, 1) := by decide +kernel
theorem dX4_lengthThere_26 : decode cX4_lengthThere 26 = .ok (.iaload, 1) := by decide +kernel
theorem dX4_lengthThere_27 : decode cX4_lengthThere 27 = .ok (.iadd, 1) := by decide +kernel
theorem dX4_lengthThere_28 : decode cX4_lengthThere 28 = .ok (.istore_n 1, 1) := by decide +kernel
theorem dX4_lengthThere_29 : decode cX4_lengthThere 29 = .ok (.iinc 2 1, 3) := by decide +kernel
theorem dX4_lengthThere_32 : decode cX4_lengthThere 32 = .ok (.goto (-28), 3) := by decide +kernel
theorem dX4_lengthThere_35 : decode cX4_lengthThere 35 = .ok (.iload_n 1, 1) := by decide +kernel
theorem dX4_lengthThere_36 : decode cX4_lengthThere 36 = .ok (.ireturn, 1) := by decide +kernel
theorem dX4_ironOnes_0 : decode cX4_ironOnes 0 = .ok (.iconst 0, 1) := by decide +kernel
theorem dX4_ironOnes_1 : decode cX4_ironOnes 1 = .ok (.istore_n 1, 1) := by decide +kernel
theorem dX4_ironOnes_2 : decode cX4_ironOnes 2 = .ok (.iconst 0, 1) := by decide +kernel
theorem dX4_ironOnes_3 : decode cX4_ironOnes 3 = .ok (.istore_n 2, 1) := by decide +kernel
theorem dX4_ironOnes_4 : decode cX4_ironOnes 4 = .ok (.iload_n 2, 1) := by decide +kernel
theorem dX4_ironOnes_5 : decode cX4_ironOnes 5 = .ok (.aload_n 0, 1) := by decide +kernel
theorem dX4_ironOnes_6 : decode cX4_ironOnes 6 = .ok (.getfield 33, 3) := by decide +kernel
theorem dX4_ironOnes_9 : decode cX4_ironOnes 9 = .ok (.if_icmp .ge 25, 3) := by decide +kernel
theorem dX4_ironOnes_12 : decode cX4_ironOnes 12 = .ok (.aload_n 0, 1) := by decide +kernel
theorem dX4_ironOnes_13 : decode cX4_ironOnes 13 = .ok (.getfield 15, 3) := by decide +kernel
theorem dX4_ironOnes_16 : decode cX4_ironOnes 16 = .ok (.iload_n 2, 1) := by decide +kernel
theorem dX4_ironOnes_17 : decode cX4_ironOnes 17 = .ok (.iaload, 1) := by decide +kernel
theorem dX4_ironOnes_18 : decode cX4_ironOnes 18 = .ok (.iconst 4, 1) := by decide +kernel
theorem dX4_ironOnes_19 : decode cX4_ironOnes 19 = .ok (.invokestatic 78, 3) := by decide +kernel
theorem dX4_ironOnes_22 : decode cX4_ironOnes 22 = .ok (.ifCond .eq 6, 3) := by decide +kernel
theorem dX4_ironOnes_25 : decode cX4_ironOnes 25 = .ok (.iinc 1 1, 3) := by decide +kernel
theorem dX4_ironOnes_28 : decode cX4_ironOnes 28 = .ok (.iinc 2 1, 3) := by decide +kernel
theorem dX4_ironOnes_31 : decode cX4_ironOnes 31 = .ok (.goto (-27), 3) := by decide +kernel
theorem dX4_ironOnes_34 : decode cX4_ironOnes 34 = .ok (.iload_n 1, 1) := by decide +kernel
theorem dX4_ironOnes_35 : decode cX4_ironOnes 35 = .ok (.ireturn, 1) := by decide +kernel
theorem dX4_act_0 : decode cX4_act 0 = .ok (.iload_n 1, 1) := by decide +kernel
theorem dX4_act_1 : decode cX4_act 1 = .ok (.tableswitch 60 0 3 #[31, 44, 49, 54], 31) := by decide +kernel
theorem dX4_act_32 : decode cX4_act 32 = .ok (.aload_n 0, 1) := by decide +kernel
theorem dX4_act_33 : decode cX4_act 33 = .ok (.invokevirtual 82, 3) := by decide +kernel
theorem dX4_act_36 : decode cX4_act 36 = .ok (.ifCond .eq 7, 3) := by decide +kernel
theorem dX4_act_39 : decode cX4_act 39 = .ok (.iconst 1, 1) := by decide +kernel
theorem dX4_act_40 : decode cX4_act 40 = .ok (.goto 4, 3) := by decide +kernel
theorem dX4_act_43 : decode cX4_act 43 = .ok (.iconst 0, 1) := by decide +kernel
theorem dX4_act_44 : decode cX4_act 44 = .ok (.ireturn, 1) := by decide +kernel
theorem dX4_act_45 : decode cX4_act 45 = .ok (.aload_n 0, 1) := by decide +kernel
theorem dX4_act_46 : decode cX4_act 46 = .ok (.invokevirtual 86, 3) := by decide +kernel
theorem dX4_act_49 : decode cX4_act 49 = .ok (.ireturn, 1) := by decide +kernel
theorem dX4_act_50 : decode cX4_act 50 = .ok (.aload_n 0, 1) := by decide +kernel
theorem dX4_act_51 : decode cX4_act 51 = .ok (.invokevirtual 89, 3) := by decide +kernel
theorem dX4_act_54 : decode cX4_act 54 = .ok (.ireturn, 1) := by decide +kernel
theorem dX4_act_55 : decode cX4_act 55 = .ok (.aload_n 0, 1) := by decide +kernel
theorem dX4_act_56 : decode cX4_act 56 = .ok (.iload_n 2, 1) := by decide +kernel
theorem dX4_act_57 : decode cX4_act 57 = .ok (.invokevirtual 92, 3) := by decide +kernel
theorem dX4_act_60 : decode cX4_act 60 = .ok (.ireturn, 1) := by decide +kernel
theorem dX4_act_61 : decode cX4_act 61 = .ok (.aload_n 0, 1) := by decide +kernel
theorem dX4_act_62 : decode cX4_act 62 = .ok (.iload_n 2, 1) := by decide +kernel
theorem dX4_act_63 : decode cX4_act 63 = .ok (.invokevirtual 96, 3) := by decide +kernel
theorem dX4_act_66 : decode cX4_act 66 = .ok (.ireturn, 1) := by decide +kernel
theorem dX4_roll_0 : decode cX4_roll 0 = .ok (.aload_n 0, 1) := by decide +kernel
theorem dX4_roll_1 : decode cX4_roll 1 = .ok (.getfield 40, 3) := by decide +kernel
theorem dX4_roll_4 : decode cX4_roll 4 = .ok (.istore_n 1, 1) := by decide +kernel
theorem dX4_roll_5 : decode cX4_roll 5 = .ok (.aload_n 0, 1) := by decide +kernel
theorem dX4_roll_6 : decode cX4_roll 6 = .ok (.invokevirtual 63, 3) := by decide +kernel
theorem dX4_roll_9 : decode cX4_roll 9 = .ok (.istore_n 2, 1) := by decide +kernel
theorem dX4_roll_10 : decode cX4_roll 10 = .ok (.aload_n 0, 1) := by decide +kernel
theorem dX4_roll_11 : decode cX4_roll 11 = .ok (.iload_n 1, 1) := by decide +kernel
theorem dX4_roll_12 : decode cX4_roll 12 = .ok (.invokevirtual 70, 3) := by decide +kernel
theorem dX4_roll_15 : decode cX4_roll 15 = .ok (.ifCond .eq 17, 3) := by decide +kernel
theorem dX4_roll_18 : decode cX4_roll 18 = .ok (.aload_n 0, 1) := by decide +kernel
theorem dX4_roll_19 : decode cX4_roll 19 = .ok (.getfield 18, 3) := by decide +kernel
theorem dX4_roll_22 : decode cX4_roll 22 = .ok (.iload_n 1, 1) := by decide +kernel
theorem dX4_roll_23 : decode cX4_roll 23 = .ok (.iaload, 1) := by decide +kernel
theorem dX4_roll_24 : decode cX4_roll 24 = .ok (.iload_n 2, 1) := by decide +kernel
theorem dX4_roll_25 : decode cX4_roll 25 = .ok (.if_icmp .lt 7, 3) := by decide +kernel
theorem dX4_roll_28 : decode cX4_roll 28 = .ok (.iconst 1, 1) := by decide +kernel
theorem dX4_roll_29 : decode cX4_roll 29 = .ok (.goto 4, 3) := by decide +kernel
theorem dX4_roll_32 : decode cX4_roll 32 = .ok (.iconst 0, 1) := by decide +kernel
theorem dX4_roll_33 : decode cX4_roll 33 = .ok (.istore_n 3, 1) := by decide +kernel
theorem dX4_roll_34 : decode cX4_roll 34 = .ok (.iload_n 3, 1) := by decide +kernel
theorem dX4_roll_35 : decode cX4_roll 35 = .ok (.ifCond .eq 49, 3) := by decide +kernel
theorem dX4_roll_38 : decode cX4_roll 38 = .ok (.aload_n 0, 1) := by decide +kernel
theorem dX4_roll_39 : decode cX4_roll 39 = .ok (.getfield 15, 3) := by decide +kernel
theorem dX4_roll_42 : decode cX4_roll 42 = .ok (.iload_n 1, 1) := by decide +kernel
theorem dX4_roll_43 : decode cX4_roll 43 = .ok (.iaload, 1) := by decide +kernel
theorem dX4_roll_44 : decode cX4_roll 44 = .ok (.aload_n 0, 1) := by decide +kernel
theorem dX4_roll_45 : decode cX4_roll 45 = .ok (.getfield 21, 3) := by decide +kernel
theorem dX4_roll_48 : decode cX4_roll 48 = .ok (.iload_n 1, 1) := by decide +kernel
theorem dX4_roll_49 : decode cX4_roll 49 = .ok (.iaload, 1) := by decide +kernel
theorem dX4_roll_50 : decode cX4_roll 50 = .ok (.aload_n 0, 1) := by decide +kernel
theorem dX4_roll_51 : decode cX4_roll 51 = .ok (.getfield 24, 3) := by decide +kernel
theorem dX4_roll_54 : decode cX4_roll 54 = .ok (.iload_n 1, 1) := by decide +kernel
theorem dX4_roll_55 : decode cX4_roll 55 = .ok (.iaload, 1) := by decide +kernel
theorem dX4_roll_56 : decode cX4_roll 56 = .ok (.iload_n 2, 1) := by decide +kernel
theorem dX4_roll_57 : decode cX4_roll 57 = .ok (.aload_n 0, 1) := by decide +kernel
theorem dX4_roll_58 : decode cX4_roll 58 = .ok (.getfield 49, 3) := by decide +kernel
theorem dX4_roll_61 : decode cX4_roll 61 = .ok (.invokestatic 66, 3) := by decide +kernel
theorem dX4_roll_64 : decode cX4_roll 64 = .ok (.iload_n 2, 1) := by decide +kernel
theorem dX4_roll_65 : decode cX4_roll 65 = .ok (.if_icmp .ge 19, 3) := by decide +kernel
theorem dX4_roll_68 : decode cX4_roll 68 = .ok (.aload_n 0, 1) := by decide +kernel
theorem dX4_roll_69 : decode cX4_roll 69 = .ok (.dup, 1) := by decide +kernel
theorem dX4_roll_70 : decode cX4_roll 70 = .ok (.getfield 46, 3) := by decide +kernel
theorem dX4_roll_73 : decode cX4_roll 73 = .ok (.iconst 1, 1) := by decide +kernel
theorem dX4_roll_74 : decode cX4_roll 74 = .ok (.iload_n 1, 1) := by decide +kernel
theorem dX4_roll_75 : decode cX4_roll 75 = .ok (.ishl, 1) := by decide +kernel
theorem dX4_roll_76 : decode cX4_roll 76 = .ok (.iconst (-1), 1) := by decide +kernel
theorem dX4_roll_77 : decode cX4_roll 77 = .ok (.ixor, 1) := by decide +kernel
theorem dX4_roll_78 : decode cX4_roll 78 = .ok (.iand, 1) := by decide +kernel
theorem dX4_roll_79 : decode cX4_roll 79 = .ok (.putfield 46, 3) := by decide +kernel
theorem dX4_roll_82 : decode cX4_roll 82 = .ok (.iconst 0, 1) := by decide +kernel
theorem dX4_roll_83 : decode cX4_roll 83 = .ok (.istore_n 3, 1) := by decide +kernel
theorem dX4_roll_84 : decode cX4_roll 84 = .ok (.iload_n 3, 1) := by decide +kernel
theorem dX4_roll_85 : decode cX4_roll 85 = .ok (.ifCond .eq 39, 3) := by decide +kernel
theorem dX4_roll_88 : decode cX4_roll 88 = .ok (.aload_n 0, 1) := by decide +kernel
theorem dX4_roll_89 : decode cX4_roll 89 = .ok (.getfield 49, 3) := by decide +kernel
theorem dX4_roll_92 : decode cX4_roll 92 = .ok (.ifCond .ne 13, 3) := by decide +kernel
theorem dX4_roll_95 : decode cX4_roll 95 = .ok (.aload_n 0, 1) := by decide +kernel
theorem dX4_roll_96 : decode cX4_roll 96 = .ok (.getfield 43, 3) := by decide +kernel
theorem dX4_roll_99 : decode cX4_roll 99 = .ok (.iconst 1, 1) := by decide +kernel
theorem dX4_roll_100 : decode cX4_roll 100 = .ok (.iand, 1) := by decide +kernel
theorem dX4_roll_101 : decode cX4_roll 101 = .ok (.iconst 1, 1) := by decide +kernel
theorem dX4_roll_102 : decode cX4_roll 102 = .ok (.if_icmp .ne 22, 3) := by decide +kernel
theorem dX4_roll_105 : decode cX4_roll 105 = .ok (.aload_n 0, 1) := by decide +kernel
theorem dX4_roll_106 : decode cX4_roll 106 = .ok (.getfield 24, 3) := by decide +kernel
theorem dX4_roll_109 : decode cX4_roll 109 = .ok (.iload_n 1, 1) := by decide +kernel
theorem dX4_roll_110 : decode cX4_roll 110 = .ok (.bipush 30, 2) := by decide +kernel
theorem dX4_roll_112 : decode cX4_roll 112 = .ok (.aload_n 0, 1) := by decide +kernel
theorem dX4_roll_113 : decode cX4_roll 113 = .ok (.getfield 24, 3) := by decide +kernel
theorem dX4_roll_116 : decode cX4_roll 116 = .ok (.iload_n 1, 1) := by decide +kernel
theorem dX4_roll_117 : decode cX4_roll 117 = .ok (.iaload, 1) := by decide +kernel
theorem dX4_roll_118 : decode cX4_roll 118 = .ok (.iconst 1, 1) := by decide +kernel
theorem dX4_roll_119 : decode cX4_roll 119 = .ok (.iadd, 1) := by decide +kernel
theorem dX4_roll_120 : decode cX4_roll 120 = .ok (.invokestatic 99, 3) := by decide +kernel
theorem dX4_roll_123 : decode cX4_roll 123 = .ok (.iastore, 1) := by decide +kernel
theorem dX4_roll_124 : decode cX4_roll 124 = .ok (.aload_n 0, 1) := by decide +kernel
theorem dX4_roll_125 : decode cX4_roll 125 = .ok (.dup, 1) := by decide +kernel
theorem dX4_roll_126 : decode cX4_roll 126 = .ok (.getfield 43, 3) := by decide +kernel
theorem dX4_roll_129 : decode cX4_roll 129 = .ok (.iconst 1, 1) := by decide +kernel
theorem dX4_roll_130 : decode cX4_roll 130 = .ok (.iadd, 1) := by decide +kernel
theorem dX4_roll_131 : decode cX4_roll 131 = .ok (.putfield 43, 3) := by decide +kernel
theorem dX4_roll_134 : decode cX4_roll 134 = .ok (.aload_n 0, 1) := by decide +kernel
theorem dX4_roll_135 : decode cX4_roll 135 = .ok (.iload_n 1, 1) := by decide +kernel
theorem dX4_roll_136 : decode cX4_roll 136 = .ok (.iconst 1, 1) := by decide +kernel
theorem dX4_roll_137 : decode cX4_roll 137 = .ok (.iadd, 1) := by decide +kernel
theorem dX4_roll_138 : decode cX4_roll 138 = .ok (.aload_n 0, 1) := by decide +kernel
theorem dX4_roll_139 : decode cX4_roll 139 = .ok (.getfield 33, 3) := by decide +kernel
theorem dX4_roll_142 : decode cX4_roll 142 = .ok (.if_icmp .ge 9, 3) := by decide +kernel
theorem dX4_roll_145 : decode cX4_roll 145 = .ok (.iload_n 1, 1) := by decide +kernel
theorem dX4_roll_146 : decode cX4_roll 146 = .ok (.iconst 1, 1) := by decide +kernel
theorem dX4_roll_147 : decode cX4_roll 147 = .ok (.iadd, 1) := by decide +kernel
theorem dX4_roll_148 : decode cX4_roll 148 = .ok (.goto 4, 3) := by decide +kernel
theorem dX4_roll_151 : decode cX4_roll 151 = .ok (.iconst 0, 1) := by decide +kernel
theorem dX4_roll_152 : decode cX4_roll 152 = .ok (.putfield 40, 3) := by decide +kernel
theorem dX4_roll_155 : decode cX4_roll 155 = .ok (.iload_n 3, 1) := by decide +kernel
theorem dX4_roll_156 : decode cX4_roll 156 = .ok (.ifCond .ne 7, 3) := by decide +kernel
theorem dX4_roll_159 : decode cX4_roll 159 = .ok (.iconst 1, 1) := by decide +kernel
theorem dX4_roll_160 : decode cX4_roll 160 = .ok (.goto 4, 3) := by decide +kernel
theorem dX4_roll_163 : decode cX4_roll 163 = .ok (.iconst 0, 1) := by decide +kernel
theorem dX4_roll_164 : decode cX4_roll 164 = .ok (.ireturn, 1) := by decide +kernel
theorem dX4_soakAll_0 : decode cX4_soakAll 0 = .ok (.iconst 0, 1) := by decide +kernel
theorem dX4_soakAll_1 : decode cX4_soakAll 1 = .ok (.istore_n 1, 1) := by decide +kernel
theorem dX4_soakAll_2 : decode cX4_soakAll 2 = .ok (.iconst 0, 1) := by decide +kernel
theorem dX4_soakAll_3 : decode cX4_soakAll 3 = .ok (.istore_n 2, 1) := by decide +kernel
theorem dX4_soakAll_4 : decode cX4_soakAll 4 = .ok (.iload_n 2, 1) := by decide +kernel
theorem dX4_soakAll_5 : decode cX4_soakAll 5 = .ok (.aload_n 0, 1) := by decide +kernel
theorem dX4_soakAll_6 : decode cX4_soakAll 6 = .ok (.getfield 33, 3) := by decide +kernel
theorem dX4_soakAll_9 : decode cX4_soakAll 9 = .ok (.if_icmp .ge 28, 3) := by decide +kernel
theorem dX4_soakAll_12 : decode cX4_soakAll 12 = .ok (.aload_n 0, 1) := by decide +kernel
theorem dX4_soakAll_13 : decode cX4_soakAll 13 = .ok (.getfield 24, 3) := by decide +kernel
theorem dX4_soakAll_16 : decode cX4_soakAll 16 = .ok (.iload_n 2, 1) := by decide +kernel
theorem dX4_soakAll_17 : decode cX4_soakAll 17 = .ok (.dup2, 1) := by decide +kernel
theorem dX4_soakAll_18 : decode cX4_soakAll 18 = .ok (.iaload, 1) := by decide +kernel
theorem dX4_soakAll_19 : decode cX4_soakAll 19 = .ok (.iconst 2, 1) := by decide +kernel
theorem dX4_soakAll_20 : decode cX4_soakAll 20 = .ok (.idiv, 1) := by decide +kernel
theorem dX4_soakAll_21 : decode cX4_soakAll 21 = .ok (.iastore, 1) := by decide +kernel
theorem dX4_soakAll_22 : decode cX4_soakAll 22 = .ok (.iload_n 1, 1) := by decide +kernel
theorem dX4_soakAll_23 : decode cX4_soakAll 23 = .ok (.aload_n 0, 1) := by decide +kernel
theorem dX4_soakAll_24 : decode cX4_soakAll 24 = .ok (.getfield 24, 3) := by decide +kernel
theorem dX4_soakAll_27 : decode cX4_soakAll 27 = .ok (.iload_n 2, 1) := by decide +kernel
theorem dX4_soakAll_28 : decode cX4_soakAll 28 = .ok (.iaload, 1) := by decide +kernel
theorem dX4_soakAll_29 : decode cX4_soakAll 29 = .ok (.iadd, 1) := by decide +kernel
theorem dX4_soakAll_30 : decode cX4_soakAll 30 = .ok (.istore_n 1, 1) := by decide +kernel
theorem dX4_soakAll_31 : decode cX4_soakAll 31 = .ok (.iinc 2 1, 3) := by decide +kernel
theorem dX4_soakAll_34 : decode cX4_soakAll 34 = .ok (.goto (-30), 3) := by decide +kernel
theorem dX4_soakAll_37 : decode cX4_soakAll 37 = .ok (.iload_n 1, 1) := by decide +kernel
theorem dX4_soakAll_38 : decode cX4_soakAll 38 = .ok (.ireturn, 1) := by decide +kernel
theorem dX4_turnWeather_0 : decode cX4_turnWeather 0 = .ok (.aload_n 0, 1) := by decide +kernel
theorem dX4_turnWeather_1 : decode cX4_turnWeather 1 = .ok (.aload_n 0, 1) := by decide +kernel
theorem dX4_turnWeather_2 : decode cX4_turnWeather 2 = .ok (.getfield 49, 3) := by decide +kernel
theorem dX4_turnWeather_5 : decode cX4_turnWeather 5 = .ok (.ifCond .ne 7, 3) := by decide +kernel
theorem dX4_turnWeather_8 : decode cX4_turnWeather 8 = .ok (.iconst 1, 1) := by decide +kernel
theorem dX4_turnWeather_9 : decode cX4_turnWeather 9 = .ok (.goto 4, 3) := by decide +kernel
theorem dX4_turnWeather_12 : decode cX4_turnWeather 12 = .ok (.iconst 0, 1) := by decide +kernel
theorem dX4_turnWeather_13 : decode cX4_turnWeather 13 = .ok (.putfield 49, 3) := by decide +kernel
theorem dX4_turnWeather_16 : decode cX4_turnWeather 16 = .ok (.aload_n 0, 1) := by decide +kernel
theorem dX4_turnWeather_17 : decode cX4_turnWeather 17 = .ok (.getfield 49, 3) := by decide +kernel
theorem dX4_turnWeather_20 : decode cX4_turnWeather 20 = .ok (.ifCond .eq 7, 3) := by decide +kernel
theorem dX4_turnWeather_23 : decode cX4_turnWeather 23 = .ok (.iconst 1, 1) := by decide +kernel
theorem dX4_turnWeather_24 : decode cX4_turnWeather 24 = .ok (.goto 4, 3) := by decide +kernel
theorem dX4_turnWeather_27 : decode cX4_turnWeather 27 = .ok (.iconst 0, 1) := by decide +kernel
theorem dX4_turnWeather_28 : decode cX4_turnWeather 28 = .ok (.ireturn, 1) := by decide +kernel
theorem dX4_knockOut_0 : decode cX4_knockOut 0 = .ok (.aload_n 0, 1) := by decide +kernel
theorem dX4_knockOut_1 : decode cX4_knockOut 1 = .ok (.dup, 1) := by decide +kernel
theorem dX4_knockOut_2 : decode cX4_knockOut 2 = .ok (.getfield 46, 3) := by decide +kernel
theorem dX4_knockOut_5 : decode cX4_knockOut 5 = .ok (.iconst 1, 1) := by decide +kernel
theorem dX4_knockOut_6 : decode cX4_knockOut 6 = .ok (.iload_n 1, 1) := by decide +kernel
theorem dX4_knockOut_7 : decode cX4_knockOut 7 = .ok (.ishl, 1) := by decide +kernel
theorem dX4_knockOut_8 : decode cX4_knockOut 8 = .ok (.iconst (-1), 1) := by decide +kernel
theorem dX4_knockOut_9 : decode cX4_knockOut 9 = .ok (.ixor, 1) := by decide +kernel
theorem dX4_knockOut_10 : decode cX4_knockOut 10 = .ok (.iand, 1) := by decide +kernel
theorem dX4_knockOut_11 : decode cX4_knockOut 11 = .ok (.putfield 46, 3) := by decide +kernel
theorem dX4_knockOut_14 : decode cX4_knockOut 14 = .ok (.aload_n 0, 1) := by decide +kernel
theorem dX4_knockOut_15 : decode cX4_knockOut 15 = .ok (.getfield 24, 3) := by decide +kernel
theorem dX4_knockOut_18 : decode cX4_knockOut 18 = .ok (.iload_n 1, 1) := by decide +kernel
theorem dX4_knockOut_19 : decode cX4_knockOut 19 = .ok (.iaload, 1) := by decide +kernel
theorem dX4_knockOut_20 : decode cX4_knockOut 20 = .ok (.ireturn, 1) := by decide +kernel
theorem dX4_putIn_0 : decode cX4_putIn 0 = .ok (.aload_n 0, 1) := by decide +kernel
theorem dX4_putIn_1 : decode cX4_putIn 1 = .ok (.iload_n 1, 1) := by decide +kernel
theorem dX4_putIn_2 : decode cX4_putIn 2 = .ok (.invokevirtual 70, 3) := by decide +kernel
theorem dX4_putIn_5 : decode cX4_putIn 5 = .ok (.ifCond .eq 7, 3) := by decide +kernel
theorem dX4_putIn_8 : decode cX4_putIn 8 = .ok (.iconst 0, 1) := by decide +kernel
theorem dX4_putIn_9 : decode cX4_putIn 9 = .ok (.goto 4, 3) := by decide +kernel
theorem dX4_putIn_12 : decode cX4_putIn 12 = .ok (.iconst 1, 1) := by decide +kernel
theorem dX4_putIn_13 : decode cX4_putIn 13 = .ok (.istore_n 2, 1) := by decide +kernel
theorem dX4_putIn_14 : decode cX4_putIn 14 = .ok (.aload_n 0, 1) := by decide +kernel
theorem dX4_putIn_15 : decode cX4_putIn 15 = .ok (.dup, 1) := by decide +kernel
theorem dX4_putIn_16 : decode cX4_putIn 16 = .ok (.getfield 46, 3) := by decide +kernel
theorem dX4_putIn_19 : decode cX4_putIn 19 = .ok (.iconst 1, 1) := by decide +kernel
theorem dX4_putIn_20 : decode cX4_putIn 20 = .ok (.iload_n 1, 1) := by decide +kernel
theorem dX4_putIn_21 : decode cX4_putIn 21 = .ok (.ishl, 1) := by decide +kernel
theorem dX4_putIn_22 : decode cX4_putIn 22 = .ok (.ior, 1) := by decide +kernel
theorem dX4_putIn_23 : decode cX4_putIn 23 = .ok (.putfield 46, 3) := by decide +kernel
theorem dX4_putIn_26 : decode cX4_putIn 26 = .ok (.aload_n 0, 1) := by decide +kernel
theorem dX4_putIn_27 : decode cX4_putIn 27 = .ok (.getfield 24, 3) := by decide +kernel
theorem dX4_putIn_30 : decode cX4_putIn 30 = .ok (.iload_n 1, 1) := by decide +kernel
theorem dX4_putIn_31 : decode cX4_putIn 31 = .ok (.iconst 0, 1) := by decide +kernel
theorem dX4_putIn_32 : decode cX4_putIn 32 = .ok (.iastore, 1) := by decide +kernel
theorem dX4_putIn_33 : decode cX4_putIn 33 = .ok (.iload_n 2, 1) := by decide +kernel
theorem dX4_putIn_34 : decode cX4_putIn 34 = .ok (.ireturn, 1) := by decide +kernel
theorem dX4_putInAll_0 : decode cX4_putInAll 0 = .ok (.iconst 0, 1) := by decide +kernel
theorem dX4_putInAll_1 : decode cX4_putInAll 1 = .ok (.istore_n 2, 1) := by decide +kernel
theorem dX4_putInAll_2 : decode cX4_putInAll 2 = .ok (.iload_n 2, 1) := by decide +kernel
theorem dX4_putInAll_3 : decode cX4_putInAll 3 = .ok (.aload_n 0, 1) := by decide +kernel
theorem dX4_putInAll_4 : decode cX4_putInAll 4 = .ok (.getfield 33, 3) := by decide +kernel
theorem dX4_putInAll_7 : decode cX4_putInAll 7 = .ok (.if_icmp .ge 24, 3) := by decide +kernel
theorem dX4_putInAll_10 : decode cX4_putInAll 10 = .ok (.iload_n 1, 1) := by decide +kernel
theorem dX4_putInAll_11 : decode cX4_putInAll 11 = .ok (.iload_n 2, 1) := by decide +kernel
theorem dX4_putInAll_12 : decode cX4_putInAll 12 = .ok (.ishr, 1) := by decide +kernel
theorem dX4_putInAll_13 : decode cX4_putInAll 13 = .ok (.iconst 1, 1) := by decide +kernel
theorem dX4_putInAll_14 : decode cX4_putInAll 14 = .ok (.iand, 1) := by decide +kernel
theorem dX4_putInAll_15 : decode cX4_putInAll 15 = .ok (.iconst 1, 1) := by decide +kernel
theorem dX4_putInAll_16 : decode cX4_putInAll 16 = .ok (.if_icmp .ne 9, 3) := by decide +kernel
theorem dX4_putInAll_19 : decode cX4_putInAll 19 = .ok (.aload_n 0, 1) := by decide +kernel
theorem dX4_putInAll_20 : decode cX4_putInAll 20 = .ok (.iload_n 2, 1) := by decide +kernel
theorem dX4_putInAll_21 : decode cX4_putInAll 21 = .ok (.invokevirtual 96, 3) := by decide +kernel
theorem dX4_putInAll_24 : decode cX4_putInAll 24 = .ok (.pop, 1) := by decide +kernel
theorem dX4_putInAll_25 : decode cX4_putInAll 25 = .ok (.iinc 2 1, 3) := by decide +kernel
theorem dX4_putInAll_28 : decode cX4_putInAll 28 = .ok (.goto (-26), 3) := by decide +kernel
theorem dX4_putInAll_31 : decode cX4_putInAll 31 = .ok (.return_, 1) := by decide +kernel
theorem dX4_changeRound_0 : decode cX4_changeRound 0 = .ok (.aload_n 0, 1) := by decide +kernel
theorem dX4_changeRound_1 : decode cX4_changeRound 1 = .ok (.getfield 15, 3) := by decide +kernel
theorem dX4_changeRound_4 : decode cX4_changeRound 4 = .ok (.iload_n 1, 1) := by decide +kernel
theorem dX4_changeRound_5 : decode cX4_changeRound 5 = .ok (.iload_n 2, 1) := by decide +kernel
theorem dX4_changeRound_6 : decode cX4_changeRound 6 = .ok (.invokestatic 104, 3) := by decide +kernel
theorem dX4_changeRound_9 : decode cX4_changeRound 9 = .ok (.aload_n 0, 1) := by decide +kernel
theorem dX4_changeRound_10 : decode cX4_changeRound 10 = .ok (.getfield 18, 3) := by decide +kernel
theorem dX4_changeRound_13 : decode cX4_changeRound 13 = .ok (.iload_n 1, 1) := by decide +kernel
theorem dX4_changeRound_14 : decode cX4_changeRound 14 = .ok (.iload_n 2, 1) := by decide +kernel
theorem dX4_changeRound_15 : decode cX4_changeRound 15 = .ok (.invokestatic 104, 3) := by decide +kernel
theorem dX4_changeRound_18 : decode cX4_changeRound 18 = .ok (.aload_n 0, 1) := by decide +kernel
theorem dX4_changeRound_19 : decode cX4_changeRound 19 = .ok (.getfield 21, 3) := by decide +kernel
theorem dX4_changeRound_22 : decode cX4_changeRound 22 = .ok (.iload_n 1, 1) := by decide +kernel
theorem dX4_changeRound_23 : decode cX4_changeRound 23 = .ok (.iload_n 2, 1) := by decide +kernel
theorem dX4_changeRound_24 : decode cX4_changeRound 24 = .ok (.invokestatic 104, 3) := by decide +kernel
theorem dX4_changeRound_27 : decode cX4_changeRound 27 = .ok (.aload_n 0, 1) := by decide +kernel
theorem dX4_changeRound_28 : decode cX4_changeRound 28 = .ok (.getfield 24, 3) := by decide +kernel
theorem dX4_changeRound_31 : decode cX4_changeRound 31 = .ok (.iload_n 1, 1) := by decide +kernel
theorem dX4_changeRound_32 : decode cX4_changeRound 32 = .ok (.iload_n 2, 1) := by decide +kernel
theorem dX4_changeRound_33 : decode cX4_changeRound 33 = .ok (.invokestatic 104, 3) := by decide +kernel
theorem dX4_changeRound_36 : decode cX4_changeRound 36 = .ok (.aload_n 0, 1) := by decide +kernel
theorem dX4_changeRound_37 : decode cX4_changeRound 37 = .ok (.iload_n 1, 1) := by decide +kernel
theorem dX4_changeRound_38 : decode cX4_changeRound 38 = .ok (.invokevirtual 70, 3) := by decide +kernel
theorem dX4_changeRound_41 : decode cX4_changeRound 41 = .ok (.aload_n 0, 1) := by decide +kernel
theorem dX4_changeRound_42 : decode cX4_changeRound 42 = .ok (.iload_n 2, 1) := by decide +kernel
theorem dX4_changeRound_43 : decode cX4_changeRound 43 = .ok (.invokevirtual 70, 3) := by decide +kernel
theorem dX4_changeRound_46 : decode cX4_changeRound 46 = .ok (.if_icmp .eq 19, 3) := by decide +kernel
theorem dX4_changeRound_49 : decode cX4_changeRound 49 = .ok (.aload_n 0, 1) := by decide +kernel
theorem dX4_changeRound_50 : decode cX4_changeRound 50 = .ok (.dup, 1) := by decide +kernel
theorem dX4_changeRound_51 : decode cX4_changeRound 51 = .ok (.getfield 46, 3) := by decide +kernel
theorem dX4_changeRound_54 : decode cX4_changeRound 54 = .ok (.iconst 1, 1) := by decide +kernel
theorem dX4_changeRound_55 : decode cX4_changeRound 55 = .ok (.iload_n 1, 1) := by decide +kernel
theorem dX4_changeRound_56 : decode cX4_changeRound 56 = .ok (.ishl, 1) := by decide +kernel
theorem dX4_changeRound_57 : decode cX4_changeRound 57 = .ok (.iconst 1, 1) := by decide +kernel
theorem dX4_changeRound_58 : decode cX4_changeRound 58 = .ok (.iload_n 2, 1) := by decide +kernel
theorem dX4_changeRound_59 : decode cX4_changeRound 59 = .ok (.ishl, 1) := by decide +kernel
theorem dX4_changeRound_60 : decode cX4_changeRound 60 = .ok (.ior, 1) := by decide +kernel
theorem dX4_changeRound_61 : decode cX4_changeRound 61 = .ok (.ixor, 1) := by decide +kernel
theorem dX4_changeRound_62 : decode cX4_changeRound 62 = .ok (.putfield 46, 3) := by decide +kernel
theorem dX4_changeRound_65 : decode cX4_changeRound 65 = .ok (.return_, 1) := by decide +kernel
theorem dX4_swap_0 : decode cX4_swap 0 = .ok (.aload_n 0, 1) := by decide +kernel
theorem dX4_swap_1 : decode cX4_swap 1 = .ok (.iload_n 1, 1) := by decide +kernel
theorem dX4_swap_2 : decode cX4_swap 2 = .ok (.iaload, 1) := by decide +kernel
theorem dX4_swap_3 : decode cX4_swap 3 = .ok (.istore_n 3, 1) := by decide +kernel
theorem dX4_swap_4 : decode cX4_swap 4 = .ok (.aload_n 0, 1) := by decide +kernel
theorem dX4_swap_5 : decode cX4_swap 5 = .ok (.iload_n 1, 1) := by decide +kernel
theorem dX4_swap_6 : decode cX4_swap 6 = .ok (.aload_n 0, 1) := by decide +kernel
theorem dX4_swap_7 : decode cX4_swap 7 = .ok (.iload_n 2, 1) := by decide +kernel
theorem dX4_swap_8 : decode cX4_swap 8 = .ok (.iaload, 1) := by decide +kernel
theorem dX4_swap_9 : decode cX4_swap 9 = .ok (.iastore, 1) := by decide +kernel
theorem dX4_swap_10 : decode cX4_swap 10 = .ok (.aload_n 0, 1) := by decide +kernel
theorem dX4_swap_11 : decode cX4_swap 11 = .ok (.iload_n 2, 1) := by decide +kernel
theorem dX4_swap_12 : decode cX4_swap 12 = .ok (.iload_n 3, 1) := by decide +kernel
theorem dX4_swap_13 : decode cX4_swap 13 = .ok (.iastore, 1) := by decide +kernel
theorem dX4_swap_14 : decode cX4_swap 14 = .ok (.return_, 1) := by decide +kernel
theorem dX4_rollFar_0 : decode cX4_rollFar 0 = .ok (.iconst 0, 1) := by decide +kernel
theorem dX4_rollFar_1 : decode cX4_rollFar 1 = .ok (.istore_n 2, 1) := by decide +kernel
theorem dX4_rollFar_2 : decode cX4_rollFar 2 = .ok (.iconst 0, 1) := by decide +kernel
theorem dX4_rollFar_3 : decode cX4_rollFar 3 = .ok (.istore_n 3, 1) := by decide +kernel
theorem dX4_rollFar_4 : decode cX4_rollFar 4 = .ok (.iload_n 3, 1) := by decide +kernel
theorem dX4_rollFar_5 : decode cX4_rollFar 5 = .ok (.iload_n 1, 1) := by decide +kernel
theorem dX4_rollFar_6 : decode cX4_rollFar 6 = .ok (.if_icmp .ge 26, 3) := by decide +kernel
theorem dX4_rollFar_9 : decode cX4_rollFar 9 = .ok (.aload_n 0, 1) := by decide +kernel
theorem dX4_rollFar_10 : decode cX4_rollFar 10 = .ok (.invokevirtual 108, 3) := by decide +kernel
theorem dX4_rollFar_13 : decode cX4_rollFar 13 = .ok (.ifCond .ne 19, 3) := by decide +kernel
theorem dX4_rollFar_16 : decode cX4_rollFar 16 = .ok (.aload_n 0, 1) := by decide +kernel
theorem dX4_rollFar_17 : decode cX4_rollFar 17 = .ok (.invokevirtual 82, 3) := by decide +kernel
theorem dX4_rollFar_20 : decode cX4_rollFar 20 = .ok (.ifCond .eq 6, 3) := by decide +kernel
theorem dX4_rollFar_23 : decode cX4_rollFar 23 = .ok (.iinc 2 1, 3) := by decide +kernel
theorem dX4_rollFar_26 : decode cX4_rollFar 26 = .ok (.iinc 3 1, 3) := by decide +kernel
theorem dX4_rollFar_29 : decode cX4_rollFar 29 = .ok (.goto (-25), 3) := by decide +kernel
theorem dX4_rollFar_32 : decode cX4_rollFar 32 = .ok (.iload_n 2, 1) := by decide +kernel
theorem dX4_rollFar_33 : decode cX4_rollFar 33 = .ok (.ireturn, 1) := by decide +kernel
theorem dX4_limpsIn_0 : decode cX4_limpsIn 0 = .ok (.iconst 0, 1) := by decide +kernel
theorem dX4_limpsIn_1 : decode cX4_limpsIn 1 = .ok (.istore_n 2, 1) := by decide +kernel
theorem dX4_limpsIn_2 : decode cX4_limpsIn 2 = .ok (.iconst 0, 1) := by decide +kernel
theorem dX4_limpsIn_3 : decode cX4_limpsIn 3 = .ok (.istore_n 3, 1) := by decide +kernel
theorem dX4_limpsIn_4 : decode cX4_limpsIn 4 = .ok (.iload_n 3, 1) := by decide +kernel
theorem dX4_limpsIn_5 : decode cX4_limpsIn 5 = .ok (.iload_n 1, 1) := by decide +kernel
theorem dX4_limpsIn_6 : decode cX4_limpsIn 6 = .ok (.if_icmp .ge 26, 3) := by decide +kernel
theorem dX4_limpsIn_9 : decode cX4_limpsIn 9 = .ok (.aload_n 0, 1) := by decide +kernel
theorem dX4_limpsIn_10 : decode cX4_limpsIn 10 = .ok (.invokevirtual 108, 3) := by decide +kernel
theorem dX4_limpsIn_13 : decode cX4_limpsIn 13 = .ok (.ifCond .ne 10, 3) := by decide +kernel
theorem dX4_limpsIn_16 : decode cX4_limpsIn 16 = .ok (.aload_n 0, 1) := by decide +kernel
theorem dX4_limpsIn_17 : decode cX4_limpsIn 17 = .ok (.invokevirtual 82, 3) := by decide +kernel
theorem dX4_limpsIn_20 : decode cX4_limpsIn 20 = .ok (.ifCond .eq 6, 3) := by decide +kernel
theorem dX4_limpsIn_23 : decode cX4_limpsIn 23 = .ok (.iinc 2 1, 3) := by decide +kernel
theorem dX4_limpsIn_26 : decode cX4_limpsIn 26 = .ok (.iinc 3 1, 3) := by decide +kernel
theorem dX4_limpsIn_29 : decode cX4_limpsIn 29 = .ok (.goto (-25), 3) := by decide +kernel
theorem dX4_limpsIn_32 : decode cX4_limpsIn 32 = .ok (.iload_n 2, 1) := by decide +kernel
theorem dX4_limpsIn_33 : decode cX4_limpsIn 33 = .ok (.ireturn, 1) := by decide +kernel
theorem dX4_limpsAs_0 : decode cX4_limpsAs 0 = .ok (.iconst 0, 1) := by decide +kernel
theorem dX4_limpsAs_1 : decode cX4_limpsAs 1 = .ok (.istore_n 3, 1) := by decide +kernel
theorem dX4_limpsAs_2 : decode cX4_limpsAs 2 = .ok (.iload_n 3, 1) := by decide +kernel
theorem dX4_limpsAs_3 : decode cX4_limpsAs 3 = .ok (.iload_n 2, 1) := by decide +kernel
theorem dX4_limpsAs_4 : decode cX4_limpsAs 4 = .ok (.if_icmp .ge 49, 3) := by decide +kernel
theorem dX4_limpsAs_7 : decode cX4_limpsAs 7 = .ok (.aload_n 0, 1) := by decide +kernel
theorem dX4_limpsAs_8 : decode cX4_limpsAs 8 = .ok (.invokevirtual 108, 3) := by decide +kernel
theorem dX4_limpsAs_11 : decode cX4_limpsAs 11 = .ok (.ifCond .ne 14, 3) := by decide +kernel
theorem dX4_limpsAs_14 : decode cX4_limpsAs 14 = .ok (.aload_n 0, 1) := by decide +kernel
theorem dX4_limpsAs_15 : decode cX4_limpsAs 15 = .ok (.invokevirtual 82, 3) := by decide +kernel
theorem dX4_limpsAs_18 : decode cX4_limpsAs 18 = .ok (.ifCond .eq 7, 3) := by decide +kernel
theorem dX4_limpsAs_21 : decode cX4_limpsAs 21 = .ok (.iconst 1, 1) := by decide +kernel
theorem dX4_limpsAs_22 : decode cX4_limpsAs 22 = .ok (.goto 4, 3) := by decide +kernel
theorem dX4_limpsAs_25 : decode cX4_limpsAs 25 = .ok (.iconst 0, 1) := by decide +kernel
theorem dX4_limpsAs_26 : decode cX4_limpsAs 26 = .ok (.istore 4, 2) := by decide +kernel
theorem dX4_limpsAs_28 : decode cX4_limpsAs 28 = .ok (.iload 4, 2) := by decide +kernel
theorem dX4_limpsAs_30 : decode cX4_limpsAs 30 = .ok (.aload_n 1, 1) := by decide +kernel
theorem dX4_limpsAs_31 : decode cX4_limpsAs 31 = .ok (.iload_n 3, 1) := by decide +kernel
theorem dX4_limpsAs_32 : decode cX4_limpsAs 32 = .ok (.iaload, 1) := by decide +kernel
theorem dX4_limpsAs_33 : decode cX4_limpsAs 33 = .ok (.iconst 1, 1) := by decide +kernel
theorem dX4_limpsAs_34 : decode cX4_limpsAs 34 = .ok (.if_icmp .ne 7, 3) := by decide +kernel
theorem dX4_limpsAs_37 : decode cX4_limpsAs 37 = .ok (.iconst 1, 1) := by decide +kernel
theorem dX4_limpsAs_38 : decode cX4_limpsAs 38 = .ok (.goto 4, 3) := by decide +kernel
theorem dX4_limpsAs_41 : decode cX4_limpsAs 41 = .ok (.iconst 0, 1) := by decide +kernel
theorem dX4_limpsAs_42 : decode cX4_limpsAs 42 = .ok (.if_icmp .eq 5, 3) := by decide +kernel
theorem dX4_limpsAs_45 : decode cX4_limpsAs 45 = .ok (.iconst 0, 1) := by decide +kernel
theorem dX4_limpsAs_46 : decode cX4_limpsAs 46 = .ok (.ireturn, 1) := by decide +kernel
theorem dX4_limpsAs_47 : decode cX4_limpsAs 47 = .ok (.iinc 3 1, 3) := by decide +kernel
theorem dX4_limpsAs_50 : decode cX4_limpsAs 50 = .ok (.goto (-48), 3) := by decide +kernel
theorem dX4_limpsAs_53 : decode cX4_limpsAs 53 = .ok (.iconst 1, 1) := by decide +kernel
theorem dX4_limpsAs_54 : decode cX4_limpsAs 54 = .ok (.ireturn, 1) := by decide +kernel
theorem dX4_reachesGate_0 : decode cX4_reachesGate 0 = .ok (.iconst 0, 1) := by decide +kernel
theorem dX4_reachesGate_1 : decode cX4_reachesGate 1 = .ok (.istore_n 1, 1) := by decide +kernel
theorem dX4_reachesGate_2 : decode cX4_reachesGate 2 = .ok (.iload_n 1, 1) := by decide +kernel
theorem dX4_reachesGate_3 : decode cX4_reachesGate 3 = .ok (.bipush 60, 2) := by decide +kernel
theorem dX4_reachesGate_5 : decode cX4_reachesGate 5 = .ok (.if_icmp .ge 32, 3) := by decide +kernel
theorem dX4_reachesGate_8 : decode cX4_reachesGate 8 = .ok (.aload_n 0, 1) := by decide +kernel
theorem dX4_reachesGate_9 : decode cX4_reachesGate 9 = .ok (.getfield 43, 3) := by decide +kernel
theorem dX4_reachesGate_12 : decode cX4_reachesGate 12 = .ok (.aload_n 0, 1) := by decide +kernel
theorem dX4_reachesGate_13 : decode cX4_reachesGate 13 = .ok (.getfield 37, 3) := by decide +kernel
theorem dX4_reachesGate_16 : decode cX4_reachesGate 16 = .ok (.if_icmp .ge 21, 3) := by decide +kernel
theorem dX4_reachesGate_19 : decode cX4_reachesGate 19 = .ok (.aload_n 0, 1) := by decide +kernel
theorem dX4_reachesGate_20 : decode cX4_reachesGate 20 = .ok (.invokevirtual 108, 3) := by decide +kernel
theorem dX4_reachesGate_23 : decode cX4_reachesGate 23 = .ok (.ifCond .ne 14, 3) := by decide +kernel
theorem dX4_reachesGate_26 : decode cX4_reachesGate 26 = .ok (.aload_n 0, 1) := by decide +kernel
theorem dX4_reachesGate_27 : decode cX4_reachesGate 27 = .ok (.invokevirtual 82, 3) := by decide +kernel
theorem dX4_reachesGate_30 : decode cX4_reachesGate 30 = .ok (.pop, 1) := by decide +kernel
theorem dX4_reachesGate_31 : decode cX4_reachesGate 31 = .ok (.iinc 1 1, 3) := by decide +kernel
theorem dX4_reachesGate_34 : decode cX4_reachesGate 34 = .ok (.goto (-32), 3) := by decide +kernel
theorem dX4_reachesGate_37 : decode cX4_reachesGate 37 = .ok (.aload_n 0, 1) := by decide +kernel
theorem dX4_reachesGate_38 : decode cX4_reachesGate 38 = .ok (.getfield 43, 3) := by decide +kernel
theorem dX4_reachesGate_41 : decode cX4_reachesGate 41 = .ok (.aload_n 0, 1) := by decide +kernel
theorem dX4_reachesGate_42 : decode cX4_reachesGate 42 = .ok (.getfield 37, 3) := by decide +kernel
theorem dX4_reachesGate_45 : decode cX4_reachesGate 45 = .ok (.if_icmp .lt 7, 3) := by decide +kernel
theorem dX4_reachesGate_48 : decode cX4_reachesGate 48 = .ok (.iconst 1, 1) := by decide +kernel
theorem dX4_reachesGate_49 : decode cX4_reachesGate 49 = .ok (.goto 4, 3) := by decide +kernel
theorem dX4_reachesGate_52 : decode cX4_reachesGate 52 = .ok (.iconst 0, 1) := by decide +kernel
theorem dX4_reachesGate_53 : decode cX4_reachesGate 53 = .ok (.ireturn, 1) := by decide +kernel
theorem dX4_mix_0 : decode cX4_mix 0 = .ok (.lload_n 1, 1) := by decide +kernel
theorem dX4_mix_1 : decode cX4_mix 1 = .ok (.lstore_n 3, 1) := by decide +kernel
theorem dX4_mix_2 : decode cX4_mix 2 = .ok (.iconst 0, 1) := by decide +kernel
theorem dX4_mix_3 : decode cX4_mix 3 = .ok (.istore 5, 2) := by decide +kernel
theorem dX4_mix_5 : decode cX4_mix 5 = .ok (.iload 5, 2) := by decide +kernel
theorem dX4_mix_7 : decode cX4_mix 7 = .ok (.bipush 8, 2) := by decide +kernel
theorem dX4_mix_9 : decode cX4_mix 9 = .ok (.if_icmp .ge 24, 3) := by decide +kernel
theorem dX4_mix_12 : decode cX4_mix 12 = .ok (.ldc2_w 111, 3) := by decide +kernel
theorem dX4_mix_15 : decode cX4_mix 15 = .ok (.lload_n 3, 1) := by decide +kernel
theorem dX4_mix_16 : decode cX4_mix 16 = .ok (.lmul, 1) := by decide +kernel
theorem dX4_mix_17 : decode cX4_mix 17 = .ok (.aload_n 0, 1) := by decide +kernel
theorem dX4_mix_18 : decode cX4_mix 18 = .ok (.getfield 9, 3) := by decide +kernel
theorem dX4_mix_21 : decode cX4_mix 21 = .ok (.iload 5, 2) := by decide +kernel
theorem dX4_mix_23 : decode cX4_mix 23 = .ok (.iaload, 1) := by decide +kernel
theorem dX4_mix_24 : decode cX4_mix 24 = .ok (.i2l, 1) := by decide +kernel
theorem dX4_mix_25 : decode cX4_mix 25 = .ok (.ladd, 1) := by decide +kernel
theorem dX4_mix_26 : decode cX4_mix 26 = .ok (.lstore_n 3, 1) := by decide +kernel
theorem dX4_mix_27 : decode cX4_mix 27 = .ok (.iinc 5 1, 3) := by decide +kernel
theorem dX4_mix_30 : decode cX4_mix 30 = .ok (.goto (-25), 3) := by decide +kernel
theorem dX4_mix_33 : decode cX4_mix 33 = .ok (.iconst 0, 1) := by decide +kernel
theorem dX4_mix_34 : decode cX4_mix 34 = .ok (.istore 5, 2) := by decide +kernel
theorem dX4_mix_36 : decode cX4_mix 36 = .ok (.iload 5, 2) := by decide +kernel
theorem dX4_mix_38 : decode cX4_mix 38 = .ok (.aload_n 0, 1) := by decide +kernel
theorem dX4_mix_39 : decode cX4_mix 39 = .ok (.getfield 33, 3) := by decide +kernel
theorem dX4_mix_42 : decode cX4_mix 42 = .ok (.if_icmp .ge 40, 3) := by decide +kernel
theorem dX4_mix_45 : decode cX4_mix 45 = .ok (.iconst 0, 1) := by decide +kernel
theorem dX4_mix_46 : decode cX4_mix 46 = .ok (.istore 6, 2) := by decide +kernel
theorem dX4_mix_48 : decode cX4_mix 48 = .ok (.iload 6, 2) := by decide +kernel
theorem dX4_mix_50 : decode cX4_mix 50 = .ok (.iconst 5, 1) := by decide +kernel
theorem dX4_mix_51 : decode cX4_mix 51 = .ok (.if_icmp .gt 25, 3) := by decide +kernel
theorem dX4_mix_54 : decode cX4_mix 54 = .ok (.ldc2_w 111, 3) := by decide +kernel
theorem dX4_mix_57 : decode cX4_mix 57 = .ok (.lload_n 3, 1) := by decide +kernel
theorem dX4_mix_58 : decode cX4_mix 58 = .ok (.lmul, 1) := by decide +kernel
theorem dX4_mix_59 : decode cX4_mix 59 = .ok (.aload_n 0, 1) := by decide +kernel
theorem dX4_mix_60 : decode cX4_mix 60 = .ok (.iload 5, 2) := by decide +kernel
theorem dX4_mix_62 : decode cX4_mix 62 = .ok (.iload 6, 2) := by decide +kernel
theorem dX4_mix_64 : decode cX4_mix 64 = .ok (.invokevirtual 113, 3) := by decide +kernel
theorem dX4_mix_67 : decode cX4_mix 67 = .ok (.i2l, 1) := by decide +kernel
theorem dX4_mix_68 : decode cX4_mix 68 = .ok (.ladd, 1) := by decide +kernel
theorem dX4_mix_69 : decode cX4_mix 69 = .ok (.lstore_n 3, 1) := by decide +kernel
theorem dX4_mix_70 : decode cX4_mix 70 = .ok (.iinc 6 1, 3) := by decide +kernel
theorem dX4_mix_73 : decode cX4_mix 73 = .ok (.goto (-25), 3) := by decide +kernel
theorem dX4_mix_76 : decode cX4_mix 76 = .ok (.iinc 5 1, 3) := by decide +kernel
theorem dX4_mix_79 : decode cX4_mix 79 = .ok (.goto (-43), 3) := by decide +kernel
theorem dX4_mix_82 : decode cX4_mix 82 = .ok (.lload_n 3, 1) := by decide +kernel
theorem dX4_mix_83 : decode cX4_mix 83 = .ok (.lreturn, 1) := by decide +kernel
theorem dJ6_bitCount_0f7a4_0 : decode cJ6_bitCount_0f7a4 0 = .ok (.iload_n 0, 1) := by decide +kernel
theorem dJ6_bitCount_0f7a4_1 : decode cJ6_bitCount_0f7a4 1 = .ok (.iload_n 0, 1) := by decide +kernel
theorem dJ6_bitCount_0f7a4_2 : decode cJ6_bitCount_0f7a4 2 = .ok (.iconst 1, 1) := by decide +kernel
theorem dJ6_bitCount_0f7a4_3 : decode cJ6_bitCount_0f7a4 3 = .ok (.iushr, 1) := by decide +kernel
theorem dJ6_bitCount_0f7a4_4 : decode cJ6_bitCount_0f7a4 4 = .ok (.ldc_w 265, 3) := by decide +kernel
theorem dJ6_bitCount_0f7a4_7 : decode cJ6_bitCount_0f7a4 7 = .ok (.iand, 1) := by decide +kernel
theorem dJ6_bitCount_0f7a4_8 : decode cJ6_bitCount_0f7a4 8 = .ok (.isub, 1) := by decide +kernel
theorem dJ6_bitCount_0f7a4_9 : decode cJ6_bitCount_0f7a4 9 = .ok (.istore_n 0, 1) := by decide +kernel
theorem dJ6_bitCount_0f7a4_10 : decode cJ6_bitCount_0f7a4 10 = .ok (.iload_n 0, 1) := by decide +kernel
theorem dJ6_bitCount_0f7a4_11 : decode cJ6_bitCount_0f7a4 11 = .ok (.ldc_w 266, 3) := by decide +kernel
theorem dJ6_bitCount_0f7a4_14 : decode cJ6_bitCount_0f7a4 14 = .ok (.iand, 1) := by decide +kernel
theorem dJ6_bitCount_0f7a4_15 : decode cJ6_bitCount_0f7a4 15 = .ok (.iload_n 0, 1) := by decide +kernel
theorem dJ6_bitCount_0f7a4_16 : decode cJ6_bitCount_0f7a4 16 = .ok (.iconst 2, 1) := by decide +kernel
theorem dJ6_bitCount_0f7a4_17 : decode cJ6_bitCount_0f7a4 17 = .ok (.iushr, 1) := by decide +kernel
theorem dJ6_bitCount_0f7a4_18 : decode cJ6_bitCount_0f7a4 18 = .ok (.ldc_w 266, 3) := by decide +kernel
theorem dJ6_bitCount_0f7a4_21 : decode cJ6_bitCount_0f7a4 21 = .ok (.iand, 1) := by decide +kernel
theorem dJ6_bitCount_0f7a4_22 : decode cJ6_bitCount_0f7a4 22 = .ok (.iadd, 1) := by decide +kernel
theorem dJ6_bitCount_0f7a4_23 : decode cJ6_bitCount_0f7a4 23 = .ok (.istore_n 0, 1) := by decide +kernel
theorem dJ6_bitCount_0f7a4_24 : decode cJ6_bitCount_0f7a4 24 = .ok (.iload_n 0, 1) := by decide +kernel
theorem dJ6_bitCount_0f7a4_25 : decode cJ6_bitCount_0f7a4 25 = .ok (.iload_n 0, 1) := by decide +kernel
theorem dJ6_bitCount_0f7a4_26 : decode cJ6_bitCount_0f7a4 26 = .ok (.iconst 4, 1) := by decide +kernel
theorem dJ6_bitCount_0f7a4_27 : decode cJ6_bitCount_0f7a4 27 = .ok (.iushr, 1) := by decide +kernel
theorem dJ6_bitCount_0f7a4_28 : decode cJ6_bitCount_0f7a4 28 = .ok (.iadd, 1) := by decide +kernel
theorem dJ6_bitCount_0f7a4_29 : decode cJ6_bitCount_0f7a4 29 = .ok (.ldc_w 267, 3) := by decide +kernel
theorem dJ6_bitCount_0f7a4_32 : decode cJ6_bitCount_0f7a4 32 = .ok (.iand, 1) := by decide +kernel
theorem dJ6_bitCount_0f7a4_33 : decode cJ6_bitCount_0f7a4 33 = .ok (.istore_n 0, 1) := by decide +kernel
theorem dJ6_bitCount_0f7a4_34 : decode cJ6_bitCount_0f7a4 34 = .ok (.iload_n 0, 1) := by decide +kernel
theorem dJ6_bitCount_0f7a4_35 : decode cJ6_bitCount_0f7a4 35 = .ok (.iload_n 0, 1) := by decide +kernel
theorem dJ6_bitCount_0f7a4_36 : decode cJ6_bitCount_0f7a4 36 = .ok (.bipush 8, 2) := by decide +kernel
theorem dJ6_bitCount_0f7a4_38 : decode cJ6_bitCount_0f7a4 38 = .ok (.iushr, 1) := by decide +kernel
theorem dJ6_bitCount_0f7a4_39 : decode cJ6_bitCount_0f7a4 39 = .ok (.iadd, 1) := by decide +kernel
theorem dJ6_bitCount_0f7a4_40 : decode cJ6_bitCount_0f7a4 40 = .ok (.istore_n 0, 1) := by decide +kernel
theorem dJ6_bitCount_0f7a4_41 : decode cJ6_bitCount_0f7a4 41 = .ok (.iload_n 0, 1) := by decide +kernel
theorem dJ6_bitCount_0f7a4_42 : decode cJ6_bitCount_0f7a4 42 = .ok (.iload_n 0, 1) := by decide +kernel
theorem dJ6_bitCount_0f7a4_43 : decode cJ6_bitCount_0f7a4 43 = .ok (.bipush 16, 2) := by decide +kernel
theorem dJ6_bitCount_0f7a4_45 : decode cJ6_bitCount_0f7a4 45 = .ok (.iushr, 1) := by decide +kernel
theorem dJ6_bitCount_0f7a4_46 : decode cJ6_bitCount_0f7a4 46 = .ok (.iadd, 1) := by decide +kernel
theorem dJ6_bitCount_0f7a4_47 : decode cJ6_bitCount_0f7a4 47 = .ok (.istore_n 0, 1) := by decide +kernel
theorem dJ6_bitCount_0f7a4_48 : decode cJ6_bitCount_0f7a4 48 = .ok (.iload_n 0, 1) := by decide +kernel
theorem dJ6_bitCount_0f7a4_49 : decode cJ6_bitCount_0f7a4 49 = .ok (.bipush 63, 2) := by decide +kernel
theorem dJ6_bitCount_0f7a4_51 : decode cJ6_bitCount_0f7a4 51 = .ok (.iand, 1) := by decide +kernel
theorem dJ6_bitCount_0f7a4_52 : decode cJ6_bitCount_0f7a4 52 = .ok (.ireturn, 1) := by decide +kernel
theorem dJ7_fill_53178_0 : decode cJ7_fill_53178 0 = .ok (.iconst 0, 1) := by decide +kernel
theorem dJ7_fill_53178_1 : decode cJ7_fill_53178 1 = .ok (.istore_n 2, 1) := by decide +kernel
theorem dJ7_fill_53178_2 : decode cJ7_fill_53178 2 = .ok (.aload_n 0, 1) := by decide +kernel
theorem dJ7_fill_53178_3 : decode cJ7_fill_53178 3 = .ok (.arraylength, 1) := by decide +kernel
theorem dJ7_fill_53178_4 : decode cJ7_fill_53178 4 = .ok (.istore_n 3, 1) := by decide +kernel
theorem dJ7_fill_53178_5 : decode cJ7_fill_53178 5 = .ok (.iload_n 2, 1) := by decide +kernel
theorem dJ7_fill_53178_6 : decode cJ7_fill_53178 6 = .ok (.iload_n 3, 1) := by decide +kernel
theorem dJ7_fill_53178_7 : decode cJ7_fill_53178 7 = .ok (.if_icmp .ge 13, 3) := by decide +kernel
theorem dJ7_fill_53178_10 : decode cJ7_fill_53178 10 = .ok (.aload_n 0, 1) := by decide +kernel
theorem dJ7_fill_53178_11 : decode cJ7_fill_53178 11 = .ok (.iload_n 2, 1) := by decide +kernel
theorem dJ7_fill_53178_12 : decode cJ7_fill_53178 12 = .ok (.iload_n 1, 1) := by decide +kernel
theorem dJ7_fill_53178_13 : decode cJ7_fill_53178 13 = .ok (.iastore, 1) := by decide +kernel
theorem dJ7_fill_53178_14 : decode cJ7_fill_53178 14 = .ok (.iinc 2 1, 3) := by decide +kernel
theorem dJ7_fill_53178_17 : decode cJ7_fill_53178 17 = .ok (.goto (-12), 3) := by decide +kernel
theorem dJ7_fill_53178_20 : decode cJ7_fill_53178 20 = .ok (.return_, 1) := by decide +kernel
theorem dJ9_max_7cf53_0 : decode cJ9_max_7cf53 0 = .ok (.iload_n 0, 1) := by decide +kernel
theorem dJ9_max_7cf53_1 : decode cJ9_max_7cf53 1 = .ok (.iload_n 1, 1) := by decide +kernel
theorem dJ9_max_7cf53_2 : decode cJ9_max_7cf53 2 = .ok (.if_icmp .lt 7, 3) := by decide +kernel
theorem dJ9_max_7cf53_5 : decode cJ9_max_7cf53 5 = .ok (.iload_n 0, 1) := by decide +kernel
theorem dJ9_max_7cf53_6 : decode cJ9_max_7cf53 6 = .ok (.goto 4, 3) := by decide +kernel
theorem dJ9_max_7cf53_9 : decode cJ9_max_7cf53 9 = .ok (.iload_n 1, 1) := by decide +kernel
theorem dJ9_max_7cf53_10 : decode cJ9_max_7cf53 10 = .ok (.ireturn, 1) := by decide +kernel
theorem dJ9_min_7cf53_0 : decode cJ9_min_7cf53 0 = .ok (.iload_n 0, 1) := by decide +kernel
theorem dJ9_min_7cf53_1 : decode cJ9_min_7cf53 1 = .ok (.iload_n 1, 1) := by decide +kernel
theorem dJ9_min_7cf53_2 : decode cJ9_min_7cf53 2 = .ok (.if_icmp .gt 7, 3) := by decide +kernel
theorem dJ9_min_7cf53_5 : decode cJ9_min_7cf53 5 = .ok (.iload_n 0, 1) := by decide +kernel
theorem dJ9_min_7cf53_6 : decode cJ9_min_7cf53 6 = .ok (.goto 4, 3) := by decide +kernel
theorem dJ9_min_7cf53_9 : decode cJ9_min_7cf53 9 = .ok (.iload_n 1, 1) := by decide +kernel
theorem dJ9_min_7cf53_10 : decode cJ9_min_7cf53 10 = .ok (.ireturn, 1) := by decide +kernel
end
section
theorem dX5_init_0 : decode cX5_init 0 = .ok (.aload_n 0, 1) := by decide +kernel
theorem dX5_init_1 : decode cX5_init 1 = .ok (.invokespecial 1, 3) := by decide +kernel
theorem dX5_init_4 : decode cX5_init 4 = .ok (.aload_n 0, 1) := by decide +kernel
theorem dX5_init_5 : decode cX5_init 5 = .ok (.new 7, 3) := by decide +kernel
theorem dX5_init_8 : decode cX5_init 8 = .ok (.dup, 1) := by decide +kernel
theorem dX5_init_9 : decode cX5_init 9 = .ok (.bipush 6, 2) := by decide +kernel
theorem dX5_init_11 : decode cX5_init 11 = .ok (.bipush 40, 2) := by decide +kernel
theorem dX5_init_13 : decode cX5_init 13 = .ok (.invokespecial 11, 3) := by decide +kernel
theorem dX5_init_16 : decode cX5_init 16 = .ok (.putfield 14, 3) := by decide +kernel
theorem dX5_init_19 : decode cX5_init 19 = .ok (.aload_n 0, 1) := by decide +kernel
theorem dX5_init_20 : decode cX5_init 20 = .ok (.new 7, 3) := by decide +kernel
theorem dX5_init_23 : decode cX5_init 23 = .ok (.dup, 1) := by decide +kernel
theorem dX5_init_24 : decode cX5_init 24 = .ok (.iconst 4, 1) := by decide +kernel
theorem dX5_init_25 : decode cX5_init 25 = .ok (.bipush 60, 2) := by decide +kernel
theorem dX5_init_27 : decode cX5_init 27 = .ok (.invokespecial 11, 3) := by decide +kernel
theorem dX5_init_30 : decode cX5_init 30 = .ok (.putfield 18, 3) := by decide +kernel
theorem dX5_init_33 : decode cX5_init 33 = .ok (.aload_n 0, 1) := by decide +kernel
theorem dX5_init_34 : decode cX5_init 34 = .ok (.new 21, 3) := by decide +kernel
theorem dX5_init_37 : decode cX5_init 37 = .ok (.dup, 1) := by decide +kernel
theorem dX5_init_38 : decode cX5_init 38 = .ok (.invokespecial 23, 3) := by decide +kernel
theorem dX5_init_41 : decode cX5_init 41 = .ok (.putfield 24, 3) := by decide +kernel
theorem dX5_init_44 : decode cX5_init 44 = .ok (.aload_n 0, 1) := by decide +kernel
theorem dX5_init_45 : decode cX5_init 45 = .ok (.new 28, 3) := by decide +kernel
theorem dX5_init_48 : decode cX5_init 48 = .ok (.dup, 1) := by decide +kernel
theorem dX5_init_49 : decode cX5_init 49 = .ok (.invokespecial 30, 3) := by decide +kernel
theorem dX5_init_52 : decode cX5_init 52 = .ok (.putfield 31, 3) := by decide +kernel
theorem dX5_init_55 : decode cX5_init 55 = .ok (.aload_n 0, 1) := by decide +kernel
theorem dX5_init_56 : decode cX5_init 56 = .ok (.iconst 3, 1) := by decide +kernel
theorem dX5_init_57 : decode cX5_init 57 = .ok (.anewarray 28, 3) := by decide +kernel
theorem dX5_init_60 : decode cX5_init 60 = .ok (.putfield 35, 3) := by decide +kernel
theorem dX5_init_63 : decode cX5_init 63 = .ok (.iconst 0, 1) := by decide +kernel
theorem dX5_init_64 : decode cX5_init 64 = .ok (.istore_n 1, 1) := by decide +kernel
theorem dX5_init_65 : decode cX5_init 65 = .ok (.iload_n 1, 1) := by decide +kernel
theorem dX5_init_66 : decode cX5_init 66 = .ok (.iconst 3, 1) := by decide +kernel
theorem dX5_init_67 : decode cX5_init 67 = .ok (.if_icmp .ge 32, 3) := by decide +kernel
theorem dX5_init_70 : decode cX5_init 70 = .ok (.aload_n 0, 1) := by decide +kernel
theorem dX5_init_71 : decode cX5_init 71 = .ok (.getfield 35, 3) := by decide +kernel
theorem dX5_init_74 : decode cX5_init 74 = .ok (.iload_n 1, 1) := by decide +kernel
theorem dX5_init_75 : decode cX5_init 75 = .ok (.new 28, 3) := by decide +kernel
theorem dX5_init_78 : decode cX5_init 78 = .ok (.dup, 1) := by decide +kernel
theorem dX5_init_79 : decode cX5_init 79 = .ok (.invokespecial 30, 3) := by decide +kernel
theorem dX5_init_82 : decode cX5_init 82 = .ok (.aastore, 1) := by decide +kernel
theorem dX5_init_83 : decode cX5_init 83 = .ok (.aload_n 0, 1) := by decide +kernel
theorem dX5_init_84 : decode cX5_init 84 = .ok (.getfield 35, 3) := by decide +kernel
theorem dX5_init_87 : decode cX5_init 87 = .ok (.iload_n 1, 1) := by decide +kernel
theorem dX5_init_88 : decode cX5_init 88 = .ok (.aaload, 1) := by decide +kernel
theorem dX5_init_89 : decode cX5_init 89 = .ok (.iconst (-1), 1) := by decide +kernel
theorem dX5_init_90 : decode cX5_init 90 = .ok (.putfield 39, 3) := by decide +kernel
theorem dX5_init_93 : decode cX5_init 93 = .ok (.iinc 1 1, 3) := by decide +kernel
theorem dX5_init_96 : decode cX5_init 96 = .ok (.goto (-31), 3) := by decide +kernel
theorem dX5_init_99 : decode cX5_init 99 = .ok (.aload_n 0, 1) := by decide +kernel
theorem dX5_init_100 : decode cX5_init 100 = .ok (.new 43, 3) := by decide +kernel
theorem dX5_init_103 : decode cX5_init 103 = .ok (.dup, 1) := by decide +kernel
theorem dX5_init_104 : decode cX5_init 104 = .ok (.aload_n 0, 1) := by decide +kernel
theorem dX5_init_105 : decode cX5_init 105 = .ok (.getfield 31, 3) := by decide +kernel
theorem dX5_init_108 : decode cX5_init 108 = .ok (.getfield 45, 3) := by decide +kernel
theorem dX5_init_111 : decode cX5_init 111 = .ok (.invokespecial 49, 3) := by decide +kernel
theorem dX5_init_114 : decode cX5_init 114 = .ok (.putfield 52, 3) := by decide +kernel
theorem dX5_init_117 : decode cX5_init 117 = .ok (.aload_n 0, 1) := by decide +kernel
theorem dX5_init_118 : decode cX5_init 118 = .ok (.bipush 6, 2) := by decide +kernel
theorem dX5_init_120 : decode cX5_init 120 = .ok (.newarray .int, 2) := by decide +kernel
theorem dX5_init_122 : decode cX5_init 122 = .ok (.putfield 56, 3) := by decide +kernel
theorem dX5_init_125 : decode cX5_init 125 = .ok (.aload_n 0, 1) := by decide +kernel
theorem dX5_init_126 : decode cX5_init 126 = .ok (.lconst 1, 1) := by decide +kernel
theorem dX5_init_127 : decode cX5_init 127 = .ok (.putfield 60, 3) := by decide +kernel
theorem dX5_init_130 : decode cX5_init 130 = .ok (.return_, 1) := by decide +kernel
theorem dX5_row_0 : decode cX5_row 0 = .ok (.aload_n 0, 1) := by decide +kernel
theorem dX5_row_1 : decode cX5_row 1 = .ok (.aload_n 0, 1) := by decide +kernel
theorem dX5_row_2 : decode cX5_row 2 = .ok (.getfield 14, 3) := by decide +kernel
theorem dX5_row_5 : decode cX5_row 5 = .ok (.iload_n 1, 1) := by decide +kernel
theorem dX5_row_6 : decode cX5_row 6 = .ok (.iload_n 2, 1) := by decide +kernel
theorem dX5_row_7 : decode cX5_row 7 = .ok (.iconst 0, 1) := by decide +kernel
theorem dX5_row_8 : decode cX5_row 8 = .ok (.invokevirtual 64, 3) := by decide +kernel
theorem dX5_row_11 : decode cX5_row 11 = .ok (.ireturn, 1) := by decide +kernel
theorem dX5_lay_0 : decode cX5_lay 0 = .ok (.aload_n 0, 1) := by decide +kernel
theorem dX5_lay_1 : decode cX5_lay 1 = .ok (.aload_n 0, 1) := by decide +kernel
theorem dX5_lay_2 : decode cX5_lay 2 = .ok (.getfield 14, 3) := by decide +kernel
theorem dX5_lay_5 : decode cX5_lay 5 = .ok (.iload_n 1, 1) := by decide +kernel
theorem dX5_lay_6 : decode cX5_lay 6 = .ok (.iload_n 2, 1) := by decide +kernel
theorem dX5_lay_7 : decode cX5_lay 7 = .ok (.invokevirtual 68, 3) := by decide +kernel
theorem dX5_lay_10 : decode cX5_lay 10 = .ok (.istore 4, 2) := by decide +kernel
theorem dX5_lay_12 : decode cX5_lay 12 = .ok (.iload 4, 2) := by decide +kernel
theorem dX5_lay_14 : decode cX5_lay 14 = .ok (.ifCond .eq 6, 3) := by decide +kernel
theorem dX5_lay_17 : decode cX5_lay 17 = .ok (.iload 4, 2) := by decide +kernel
theorem dX5_lay_19 : decode cX5_lay 19 = .ok (.ireturn, 1) := by decide +kernel
theorem dX5_lay_20 : decode cX5_lay 20 = .ok (.aload_n 0, 1) := by decide +kernel
theorem dX5_lay_21 : decode cX5_lay 21 = .ok (.aload_n 0, 1) := by decide +kernel
theorem dX5_lay_22 : decode cX5_lay 22 = .ok (.getfield 14, 3) := by decide +kernel
theorem dX5_lay_25 : decode cX5_lay 25 = .ok (.iload_n 1, 1) := by decide +kernel
theorem dX5_lay_26 : decode cX5_lay 26 = .ok (.iload_n 2, 1) := by decide +kernel
theorem dX5_lay_27 : decode cX5_lay 27 = .ok (.iload_n 3, 1) := by decide +kernel
theorem dX5_lay_28 : decode cX5_lay 28 = .ok (.invokevirtual 72, 3) := by decide +kernel
theorem dX5_lay_31 : decode cX5_lay 31 = .ok (.invokevirtual 76, 3) := by decide +kernel
theorem dX5_lay_34 : decode cX5_lay 34 = .ok (.ireturn, 1) := by decide +kernel
theorem dX5_at_0 : decode cX5_at 0 = .ok (.aload_n 0, 1) := by decide +kernel
theorem dX5_at_1 : decode cX5_at 1 = .ok (.aload_n 0, 1) := by decide +kernel
theorem dX5_at_2 : decode cX5_at 2 = .ok (.getfield 14, 3) := by decide +kernel
theorem dX5_at_5 : decode cX5_at 5 = .ok (.iload_n 1, 1) := by decide +kernel
theorem dX5_at_6 : decode cX5_at 6 = .ok (.iload_n 2, 1) := by decide +kernel
theorem dX5_at_7 : decode cX5_at 7 = .ok (.invokevirtual 68, 3) := by decide +kernel
theorem dX5_at_10 : decode cX5_at 10 = .ok (.istore_n 3, 1) := by decide +kernel
theorem dX5_at_11 : decode cX5_at 11 = .ok (.iload_n 3, 1) := by decide +kernel
theorem dX5_at_12 : decode cX5_at 12 = .ok (.ifCond .eq 5, 3) := by decide +kernel
theorem dX5_at_15 : decode cX5_at 15 = .ok (.iload_n 3, 1) := by decide +kernel
theorem dX5_at_16 : decode cX5_at 16 = .ok (.ireturn, 1) := by decide +kernel
theorem dX5_at_17 : decode cX5_at 17 = .ok (.aload_n 0, 1) := by decide +kernel
theorem dX5_at_18 : decode cX5_at 18 = .ok (.aload_n 0, 1) := by decide +kernel
theorem dX5_at_19 : decode cX5_at 19 = .ok (.getfield 14, 3) := by decide +kernel
theorem dX5_at_22 : decode cX5_at 22 = .ok (.iload_n 1, 1) := by decide +kernel
theorem dX5_at_23 : decode cX5_at 23 = .ok (.iload_n 2, 1) := by decide +kernel
theorem dX5_at_24 : decode cX5_at 24 = .ok (.invokevirtual 80, 3) := by decide +kernel
theorem dX5_at_27 : decode cX5_at 27 = .ok (.invokevirtual 76, 3) := by decide +kernel
theorem dX5_at_30 : decode cX5_at 30 = .ok (.ireturn, 1) := by decide +kernel
theorem dX5_tear_0 : decode cX5_tear 0 = .ok (.aload_n 0, 1) := by decide +kernel
theorem dX5_tear_1 : decode cX5_tear 1 = .ok (.aload_n 0, 1) := by decide +kernel
theorem dX5_tear_2 : decode cX5_tear 2 = .ok (.getfield 14, 3) := by decide +kernel
theorem dX5_tear_5 : decode cX5_tear 5 = .ok (.iload_n 1, 1) := by decide +kernel
theorem dX5_tear_6 : decode cX5_tear 6 = .ok (.invokevirtual 84, 3) := by decide +kernel
theorem dX5_tear_9 : decode cX5_tear 9 = .ok (.istore_n 2, 1) := by decide +kernel
theorem dX5_tear_10 : decode cX5_tear 10 = .ok (.iload_n 2, 1) := by decide +kernel
theorem dX5_tear_11 : decode cX5_tear 11 = .ok (.ifCond .eq 5, 3) := by decide +kernel
theorem dX5_tear_14 : decode cX5_tear 14 = .ok (.iload_n 2, 1) := by decide +kernel
theorem dX5_tear_15 : decode cX5_tear 15 = .ok (.ireturn, 1) := by decide +kernel
theorem dX5_tear_16 : decode cX5_tear 16 = .ok (.aload_n 0, 1) := by decide +kernel
theorem dX5_tear_17 : decode cX5_tear 17 = .ok (.getfield 14, 3) := by decide +kernel
theorem dX5_tear_20 : decode cX5_tear 20 = .ok (.iload_n 1, 1) := by decide +kernel
theorem dX5_tear_21 : decode cX5_tear 21 = .ok (.invokevirtual 88, 3) := by decide +kernel
theorem dX5_tear_24 : decode cX5_tear 24 = .ok (.iconst 1, 1) := by decide +kernel
theorem dX5_tear_25 : decode cX5_tear 25 = .ok (.ireturn, 1) := by decide +kernel
theorem dX5_copy_0 : decode cX5_copy 0 = .ok (.aload_n 0, 1) := by decide +kernel
theorem dX5_copy_1 : decode cX5_copy 1 = .ok (.getfield 14, 3) := by decide +kernel
theorem dX5_copy_4 : decode cX5_copy 4 = .ok (.iload_n 1, 1) := by decide +kernel
theorem dX5_copy_5 : decode cX5_copy 5 = .ok (.invokevirtual 92, 3) := by decide +kernel
theorem dX5_copy_8 : decode cX5_copy 8 = .ok (.ifCond .eq 14, 3) := by decide +kernel
theorem dX5_copy_11 : decode cX5_copy 11 = .ok (.aload_n 0, 1) := by decide +kernel
theorem dX5_copy_12 : decode cX5_copy 12 = .ok (.getfield 14, 3) := by decide +kernel
theorem dX5_copy_15 : decode cX5_copy 15 = .ok (.iload_n 3, 1) := by decide +kernel
theorem dX5_copy_16 : decode cX5_copy 16 = .ok (.invokevirtual 92, 3) := by decide +kernel
theorem dX5_copy_19 : decode cX5_copy 19 = .ok (.ifCond .ne 5, 3) := by decide +kernel
theorem dX5_copy_22 : decode cX5_copy 22 = .ok (.iconst (-1), 1) := by decide +kernel
theorem dX5_copy_23 : decode cX5_copy 23 = .ok (.ireturn, 1) := by decide +kernel
theorem dX5_copy_24 : decode cX5_copy 24 = .ok (.iload 5, 2) := by decide +kernel
theorem dX5_copy_26 : decode cX5_copy 26 = .ok (.ifCond .ge 9, 3) := by decide +kernel
theorem dX5_copy_29 : decode cX5_copy 29 = .ok (.aload_n 0, 1) := by decide +kernel
theorem dX5_copy_30 : decode cX5_copy 30 = .ok (.iconst 5, 1) := by decide +kernel
theorem dX5_copy_31 : decode cX5_copy 31 = .ok (.invokevirtual 96, 3) := by decide +kernel
theorem dX5_copy_34 : decode cX5_copy 34 = .ok (.ireturn, 1) := by decide +kernel
theorem dX5_copy_35 : decode cX5_copy 35 = .ok (.aload_n 0, 1) := by decide +kernel
theorem dX5_copy_36 : decode cX5_copy 36 = .ok (.getfield 14, 3) := by decide +kernel
theorem dX5_copy_39 : decode cX5_copy 39 = .ok (.iload_n 1, 1) := by decide +kernel
theorem dX5_copy_40 : decode cX5_copy 40 = .ok (.invokevirtual 99, 3) := by decide +kernel
theorem dX5_copy_43 : decode cX5_copy 43 = .ok (.ifCond .ne 14, 3) := by decide +kernel
theorem dX5_copy_46 : decode cX5_copy 46 = .ok (.aload_n 0, 1) := by decide +kernel
theorem dX5_copy_47 : decode cX5_copy 47 = .ok (.getfield 14, 3) := by decide +kernel
theorem dX5_copy_50 : decode cX5_copy 50 = .ok (.iload_n 3, 1) := by decide +kernel
theorem dX5_copy_51 : decode cX5_copy 51 = .ok (.invokevirtual 99, 3) := by decide +kernel
theorem dX5_copy_54 : decode cX5_copy 54 = .ok (.ifCond .eq 9, 3) := by decide +kernel
theorem dX5_copy_57 : decode cX5_copy 57 = .ok (.aload_n 0, 1) := by decide +kernel
theorem dX5_copy_58 : decode cX5_copy 58 = .ok (.iconst 1, 1) := by decide +kernel
theorem dX5_copy_59 : decode cX5_copy 59 = .ok (.invokevirtual 96, 3) := by decide +kernel
theorem dX5_copy_62 : decode cX5_copy 62 = .ok (.ireturn, 1) := by decide +kernel
theorem dX5_copy_63 : decode cX5_copy 63 = .ok (.aload_n 0, 1) := by decide +kernel
theorem dX5_copy_64 : decode cX5_copy 64 = .ok (.getfield 14, 3) := by decide +kernel
theorem dX5_copy_67 : decode cX5_copy 67 = .ok (.iload_n 1, 1) := by decide +kernel
theorem dX5_copy_68 : decode cX5_copy 68 = .ok (.iload_n 2, 1) := by decide +kernel
theorem dX5_copy_69 : decode cX5_copy 69 = .ok (.iload 5, 2) := by decide +kernel
theorem dX5_copy_71 : decode cX5_copy 71 = .ok (.invokevirtual 102, 3) := by decide +kernel
theorem dX5_copy_74 : decode cX5_copy 74 = .ok (.ifCond .eq 18, 3) := by decide +kernel
theorem dX5_copy_77 : decode cX5_copy 77 = .ok (.aload_n 0, 1) := by decide +kernel
theorem dX5_copy_78 : decode cX5_copy 78 = .ok (.getfield 14, 3) := by decide +kernel
theorem dX5_copy_81 : decode cX5_copy 81 = .ok (.iload_n 3, 1) := by decide +kernel
theorem dX5_copy_82 : decode cX5_copy 82 = .ok (.iload 4, 2) := by decide +kernel
theorem dX5_copy_84 : decode cX5_copy 84 = .ok (.iload 5, 2) := by decide +kernel
theorem dX5_copy_86 : decode cX5_copy 86 = .ok (.invokevirtual 102, 3) := by decide +kernel
theorem dX5_copy_89 : decode cX5_copy 89 = .ok (.ifCond .ne 9, 3) := by decide +kernel
theorem dX5_copy_92 : decode cX5_copy 92 = .ok (.aload_n 0, 1) := by decide +kernel
theorem dX5_copy_93 : decode cX5_copy 93 = .ok (.iconst 2, 1) := by decide +kernel
theorem dX5_copy_94 : decode cX5_copy 94 = .ok (.invokevirtual 96, 3) := by decide +kernel
theorem dX5_copy_97 : decode cX5_copy 97 = .ok (.ireturn, 1) := by decide +kernel
theorem dX5_copy_98 : decode cX5_copy 98 = .ok (.aload_n 0, 1) := by decide +kernel
theorem dX5_copy_99 : decode cX5_copy 99 = .ok (.getfield 14, 3) := by decide +kernel
theorem dX5_copy_102 : decode cX5_copy 102 = .ok (.iload_n 1, 1) := by decide +kernel
theorem dX5_copy_103 : decode cX5_copy 103 = .ok (.iload_n 2, 1) := by decide +kernel
theorem dX5_copy_104 : decode cX5_copy 104 = .ok (.iload_n 3, 1) := by decide +kernel
theorem dX5_copy_105 : decode cX5_copy 105 = .ok (.iload 4, 2) := by decide +kernel
theorem dX5_copy_107 : decode cX5_copy 107 = .ok (.iload 5, 2) := by decide +kernel
theorem dX5_copy_109 : decode cX5_copy 109 = .ok (.invokevirtual 106, 3) := by decide +kernel
theorem dX5_copy_112 : decode cX5_copy 112 = .ok (.iconst 1, 1) := by decide +kernel
theorem dX5_copy_113 : decode cX5_copy 113 = .ok (.ireturn, 1) := by decide +kernel
theorem dX5_mean_0 : decode cX5_mean 0 = .ok (.aload_n 0, 1) := by decide +kernel
theorem dX5_mean_1 : decode cX5_mean 1 = .ok (.aload_n 0, 1) := by decide +kernel
theorem dX5_mean_2 : decode cX5_mean 2 = .ok (.getfield 14, 3) := by decide +kernel
theorem dX5_mean_5 : decode cX5_mean 5 = .ok (.iload_n 1, 1) := by decide +kernel
theorem dX5_mean_6 : decode cX5_mean 6 = .ok (.invokevirtual 84, 3) := by decide +kernel
theorem dX5_mean_9 : decode cX5_mean 9 = .ok (.istore_n 2, 1) := by decide +kernel
theorem dX5_mean_10 : decode cX5_mean 10 = .ok (.iload_n 2, 1) := by decide +kernel
theorem dX5_mean_11 : decode cX5_mean 11 = .ok (.ifCond .eq 5, 3) := by decide +kernel
theorem dX5_mean_14 : decode cX5_mean 14 = .ok (.iload_n 2, 1) := by decide +kernel
theorem dX5_mean_15 : decode cX5_mean 15 = .ok (.ireturn, 1) := by decide +kernel
theorem dX5_mean_16 : decode cX5_mean 16 = .ok (.aload_n 0, 1) := by decide +kernel
theorem dX5_mean_17 : decode cX5_mean 17 = .ok (.getfield 14, 3) := by decide +kernel
theorem dX5_mean_20 : decode cX5_mean 20 = .ok (.iload_n 1, 1) := by decide +kernel
theorem dX5_mean_21 : decode cX5_mean 21 = .ok (.invokevirtual 110, 3) := by decide +kernel
theorem dX5_mean_24 : decode cX5_mean 24 = .ok (.istore_n 3, 1) := by decide +kernel
theorem dX5_mean_25 : decode cX5_mean 25 = .ok (.iload_n 3, 1) := by decide +kernel
theorem dX5_mean_26 : decode cX5_mean 26 = .ok (.ifCond .gt 9, 3) := by decide +kernel
theorem dX5_mean_29 : decode cX5_mean 29 = .ok (.aload_n 0, 1) := by decide +kernel
theorem dX5_mean_30 : decode cX5_mean 30 = .ok (.iconst 4, 1) := by decide +kernel
theorem dX5_mean_31 : decode cX5_mean 31 = .ok (.invokevirtual 96, 3) := by decide +kernel
theorem dX5_mean_34 : decode cX5_mean 34 = .ok (.ireturn, 1) := by decide +kernel
theorem dX5_mean_35 : decode cX5_mean 35 = .ok (.aload_n 0, 1) := by decide +kernel
theorem dX5_mean_36 : decode cX5_mean 36 = .ok (.aload_n 0, 1) := by decide +kernel
theorem dX5_mean_37 : decode cX5_mean 37 = .ok (.getfield 14, 3) := by decide +kernel
theorem dX5_mean_40 : decode cX5_mean 40 = .ok (.iload_n 1, 1) := by decide +kernel
theorem dX5_mean_41 : decode cX5_mean 41 = .ok (.invokevirtual 113, 3) := by decide +kernel
theorem dX5_mean_44 : decode cX5_mean 44 = .ok (.iload_n 3, 1) := by decide +kernel
theorem dX5_mean_45 : decode cX5_mean 45 = .ok (.i2l, 1) := by decide +kernel
theorem dX5_mean_46 : decode cX5_mean 46 = .ok (.ldiv, 1) := by decide +kernel
theorem dX5_mean_47 : decode cX5_mean 47 = .ok (.l2i, 1) := by decide +kernel
theorem dX5_mean_48 : decode cX5_mean 48 = .ok (.invokevirtual 76, 3) := by decide +kernel
theorem dX5_mean_51 : decode cX5_mean 51 = .ok (.ireturn, 1) := by decide +kernel
theorem dX5_text_0 : decode cX5_text 0 = .ok (.aload_n 0, 1) := by decide +kernel
theorem dX5_text_1 : decode cX5_text 1 = .ok (.aload_n 0, 1) := by decide +kernel
theorem dX5_text_2 : decode cX5_text 2 = .ok (.getfield 18, 3) := by decide +kernel
theorem dX5_text_5 : decode cX5_text 5 = .ok (.iload_n 1, 1) := by decide +kernel
theorem dX5_text_6 : decode cX5_text 6 = .ok (.iload_n 2, 1) := by decide +kernel
theorem dX5_text_7 : decode cX5_text 7 = .ok (.bipush 32, 2) := by decide +kernel
theorem dX5_text_9 : decode cX5_text 9 = .ok (.invokevirtual 64, 3) := by decide +kernel
theorem dX5_text_12 : decode cX5_text 12 = .ok (.ireturn, 1) := by decide +kernel
theorem dX5_put_0 : decode cX5_put 0 = .ok (.aload_n 0, 1) := by decide +kernel
theorem dX5_put_1 : decode cX5_put 1 = .ok (.aload_n 0, 1) := by decide +kernel
theorem dX5_put_2 : decode cX5_put 2 = .ok (.getfield 18, 3) := by decide +kernel
theorem dX5_put_5 : decode cX5_put 5 = .ok (.iload_n 1, 1) := by decide +kernel
theorem dX5_put_6 : decode cX5_put 6 = .ok (.iload_n 2, 1) := by decide +kernel
theorem dX5_put_7 : decode cX5_put 7 = .ok (.invokevirtual 68, 3) := by decide +kernel
theorem dX5_put_10 : decode cX5_put 10 = .ok (.istore 4, 2) := by decide +kernel
theorem dX5_put_12 : decode cX5_put 12 = .ok (.iload 4, 2) := by decide +kernel
theorem dX5_put_14 : decode cX5_put 14 = .ok (.ifCond .eq 6, 3) := by decide +kernel
theorem dX5_put_17 : decode cX5_put 17 = .ok (.iload 4, 2) := by decide +kernel
theorem dX5_put_19 : decode cX5_put 19 = .ok (.ireturn, 1) := by decide +kernel
theorem dX5_put_20 : decode cX5_put 20 = .ok (.aload_n 0, 1) := by decide +kernel
theorem dX5_put_21 : decode cX5_put 21 = .ok (.getfield 18, 3) := by decide +kernel
theorem dX5_put_24 : decode cX5_put 24 = .ok (.iload_n 1, 1) := by decide +kernel
theorem dX5_put_25 : decode cX5_put 25 = .ok (.iload_n 2, 1) := by decide +kernel
theorem dX5_put_26 : decode cX5_put 26 = .ok (.iload_n 3, 1) := by decide +kernel
theorem dX5_put_27 : decode cX5_put 27 = .ok (.i2b, 1) := by decide +kernel
theorem dX5_put_28 : decode cX5_put 28 = .ok (.invokevirtual 72, 3) := by decide +kernel
theorem dX5_put_31 : decode cX5_put 31 = .ok (.sipush 1000, 3) := by decide +kernel
theorem dX5_put_34 : decode cX5_put 34 = .ok (.iadd, 1) := by decide +kernel
theorem dX5_put_35 : decode cX5_put 35 = .ok (.ireturn, 1) := by decide +kernel
theorem dX5_fault_0 : decode cX5_fault 0 = .ok (.aload_n 0, 1) := by decide +kernel
theorem dX5_fault_1 : decode cX5_fault 1 = .ok (.aload_n 0, 1) := by decide +kernel
theorem dX5_fault_2 : decode cX5_fault 2 = .ok (.getfield 18, 3) := by decide +kernel
theorem dX5_fault_5 : decode cX5_fault 5 = .ok (.iload_n 1, 1) := by decide +kernel
theorem dX5_fault_6 : decode cX5_fault 6 = .ok (.invokevirtual 84, 3) := by decide +kernel
theorem dX5_fault_9 : decode cX5_fault 9 = .ok (.istore_n 2, 1) := by decide +kernel
theorem dX5_fault_10 : decode cX5_fault 10 = .ok (.iload_n 2, 1) := by decide +kernel
theorem dX5_fault_11 : decode cX5_fault 11 = .ok (.ifCond .eq 5, 3) := by decide +kernel
theorem dX5_fault_14 : decode cX5_fault 14 = .ok (.iload_n 2, 1) := by decide +kernel
theorem dX5_fault_15 : decode cX5_fault 15 = .ok (.ireturn, 1) := by decide +kernel
theorem dX5_fault_16 : decode cX5_fault 16 = .ok (.aload_n 0, 1) := by decide +kernel
theorem dX5_fault_17 : decode cX5_fault 17 = .ok (.getfield 24, 3) := by decide +kernel
theorem dX5_fault_20 : decode cX5_fault 20 = .ok (.aload_n 0, 1) := by decide +kernel
theorem dX5_fault_21 : decode cX5_fault 21 = .ok (.getfield 18, 3) := by decide +kernel
theorem dX5_fault_24 : decode cX5_fault 24 = .ok (.iload_n 1, 1) := by decide +kernel
theorem dX5_fault_25 : decode cX5_fault 25 = .ok (.invokevirtual 117, 3) := by decide +kernel
theorem dX5_fault_28 : decode cX5_fault 28 = .ok (.aload_n 0, 1) := by decide +kernel
theorem dX5_fault_29 : decode cX5_fault 29 = .ok (.getfield 18, 3) := by decide +kernel
theorem dX5_fault_32 : decode cX5_fault 32 = .ok (.iload_n 1, 1) := by decide +kernel
theorem dX5_fault_33 : decode cX5_fault 33 = .ok (.invokevirtual 110, 3) := by decide +kernel
theorem dX5_fault_36 : decode cX5_fault 36 = .ok (.invokevirtual 121, 3) := by decide +kernel
theorem dX5_fault_39 : decode cX5_fault 39 = .ok (.ireturn, 1) := by decide +kernel
theorem dX5_wheel_0 : decode cX5_wheel 0 = .ok (.aload_n 0, 1) := by decide +kernel
theorem dX5_wheel_1 : decode cX5_wheel 1 = .ok (.aload_n 0, 1) := by decide +kernel
theorem dX5_wheel_2 : decode cX5_wheel 2 = .ok (.getfield 18, 3) := by decide +kernel
theorem dX5_wheel_5 : decode cX5_wheel 5 = .ok (.iload_n 1, 1) := by decide +kernel
theorem dX5_wheel_6 : decode cX5_wheel 6 = .ok (.invokevirtual 84, 3) := by decide +kernel
theorem dX5_wheel_9 : decode cX5_wheel 9 = .ok (.istore_n 2, 1) := by decide +kernel
theorem dX5_wheel_10 : decode cX5_wheel 10 = .ok (.iload_n 2, 1) := by decide +kernel
theorem dX5_wheel_11 : decode cX5_wheel 11 = .ok (.ifCond .eq 5, 3) := by decide +kernel
theorem dX5_wheel_14 : decode cX5_wheel 14 = .ok (.iload_n 2, 1) := by decide +kernel
theorem dX5_wheel_15 : decode cX5_wheel 15 = .ok (.ireturn, 1) := by decide +kernel
theorem dX5_wheel_16 : decode cX5_wheel 16 = .ok (.aload_n 0, 1) := by decide +kernel
theorem dX5_wheel_17 : decode cX5_wheel 17 = .ok (.getfield 24, 3) := by decide +kernel
theorem dX5_wheel_20 : decode cX5_wheel 20 = .ok (.aload_n 0, 1) := by decide +kernel
theorem dX5_wheel_21 : decode cX5_wheel 21 = .ok (.getfield 18, 3) := by decide +kernel
theorem dX5_wheel_24 : decode cX5_wheel 24 = .ok (.iload_n 1, 1) := by decide +kernel
theorem dX5_wheel_25 : decode cX5_wheel 25 = .ok (.invokevirtual 117, 3) := by decide +kernel
theorem dX5_wheel_28 : decode cX5_wheel 28 = .ok (.aload_n 0, 1) := by decide +kernel
theorem dX5_wheel_29 : decode cX5_wheel 29 = .ok (.getfield 18, 3) := by decide +kernel
theorem dX5_wheel_32 : decode cX5_wheel 32 = .ok (.iload_n 1, 1) := by decide +kernel
theorem dX5_wheel_33 : decode cX5_wheel 33 = .ok (.invokevirtual 110, 3) := by decide +kernel
theorem dX5_wheel_36 : decode cX5_wheel 36 = .ok (.invokevirtual 121, 3) := by decide +kernel
theorem dX5_wheel_39 : decode cX5_wheel 39 = .ok (.bipush (-9), 2) := by decide +kernel
theorem dX5_wheel_41 : decode cX5_wheel 41 = .ok (.if_icmp .eq 6, 3) := by decide +kernel
theorem dX5_wheel_44 : decode cX5_wheel 44 = .ok (.bipush (-4), 2) := by decide +kernel
theorem dX5_wheel_46 : decode cX5_wheel 46 = .ok (.ireturn, 1) := by decide +kernel
theorem dX5_wheel_47 : decode cX5_wheel 47 = .ok (.aload_n 0, 1) := by decide +kernel
theorem dX5_wheel_48 : decode cX5_wheel 48 = .ok (.getfield 31, 3) := by decide +kernel
theorem dX5_wheel_51 : decode cX5_wheel 51 = .ok (.aload_n 0, 1) := by decide +kernel
theorem dX5_wheel_52 : decode cX5_wheel 52 = .ok (.getfield 24, 3) := by decide +kernel
theorem dX5_wheel_55 : decode cX5_wheel 55 = .ok (.getfield 125, 3) := by decide +kernel
theorem dX5_wheel_58 : decode cX5_wheel 58 = .ok (.invokevirtual 128, 3) := by decide +kernel
theorem dX5_wheel_61 : decode cX5_wheel 61 = .ok (.iconst 0, 1) := by decide +kernel
theorem dX5_wheel_62 : decode cX5_wheel 62 = .ok (.istore_n 3, 1) := by decide +kernel
theorem dX5_wheel_63 : decode cX5_wheel 63 = .ok (.iload_n 3, 1) := by decide +kernel
theorem dX5_wheel_64 : decode cX5_wheel 64 = .ok (.iconst 3, 1) := by decide +kernel
theorem dX5_wheel_65 : decode cX5_wheel 65 = .ok (.if_icmp .ge 19, 3) := by decide +kernel
theorem dX5_wheel_68 : decode cX5_wheel 68 = .ok (.aload_n 0, 1) := by decide +kernel
theorem dX5_wheel_69 : decode cX5_wheel 69 = .ok (.getfield 35, 3) := by decide +kernel
theorem dX5_wheel_72 : decode cX5_wheel 72 = .ok (.iload_n 3, 1) := by decide +kernel
theorem dX5_wheel_73 : decode cX5_wheel 73 = .ok (.aaload, 1) := by decide +kernel
theorem dX5_wheel_74 : decode cX5_wheel 74 = .ok (.iconst (-1), 1) := by decide +kernel
theorem dX5_wheel_75 : decode cX5_wheel 75 = .ok (.putfield 39, 3) := by decide +kernel
theorem dX5_wheel_78 : decode cX5_wheel 78 = .ok (.iinc 3 1, 3) := by decide +kernel
theorem dX5_wheel_81 : decode cX5_wheel 81 = .ok (.goto (-18), 3) := by decide +kernel
theorem dX5_wheel_84 : decode cX5_wheel 84 = .ok (.aload_n 0, 1) := by decide +kernel
theorem dX5_wheel_85 : decode cX5_wheel 85 = .ok (.getfield 31, 3) := by decide +kernel
theorem dX5_wheel_88 : decode cX5_wheel 88 = .ok (.getfield 45, 3) := by decide +kernel
theorem dX5_wheel_91 : decode cX5_wheel 91 = .ok (.getfield 131, 3) := by decide +kernel
theorem dX5_wheel_94 : decode cX5_wheel 94 = .ok (.ireturn, 1) := by decide +kernel
theorem dX5_spoke_0 : decode cX5_spoke 0 = .ok (.aload_n 0, 1) := by decide +kernel
theorem dX5_spoke_1 : decode cX5_spoke 1 = .ok (.getfield 31, 3) := by decide +kernel
theorem dX5_spoke_4 : decode cX5_spoke 4 = .ok (.getfield 45, 3) := by decide +kernel
theorem dX5_spoke_7 : decode cX5_spoke 7 = .ok (.iload_n 1, 1) := by decide +kernel
theorem dX5_spoke_8 : decode cX5_spoke 8 = .ok (.invokevirtual 136, 3) := by decide +kernel
theorem dX5_spoke_11 : decode cX5_spoke 11 = .ok (.ifCond .eq 12, 3) := by decide +kernel
theorem dX5_spoke_14 : decode cX5_spoke 14 = .ok (.iload_n 2, 1) := by decide +kernel
theorem dX5_spoke_15 : decode cX5_spoke 15 = .ok (.ifCond .lt 8, 3) := by decide +kernel
theorem dX5_spoke_18 : decode cX5_spoke 18 = .ok (.iload_n 2, 1) := by decide +kernel
theorem dX5_spoke_19 : decode cX5_spoke 19 = .ok (.iconst 5, 1) := by decide +kernel
theorem dX5_spoke_20 : decode cX5_spoke 20 = .ok (.if_icmp .le 5, 3) := by decide +kernel
theorem dX5_spoke_23 : decode cX5_spoke 23 = .ok (.iconst (-1), 1) := by decide +kernel
theorem dX5_spoke_24 : decode cX5_spoke 24 = .ok (.ireturn, 1) := by decide +kernel
theorem dX5_spoke_25 : decode cX5_spoke 25 = .ok (.aload_n 0, 1) := by decide +kernel
theorem dX5_spoke_26 : decode cX5_spoke 26 = .ok (.aload_n 0, 1) := by decide +kernel
theorem dX5_spoke_27 : decode cX5_spoke 27 = .ok (.getfield 31, 3) := by decide +kernel
theorem dX5_spoke_30 : decode cX5_spoke 30 = .ok (.getfield 45, 3) := by decide +kernel
theorem dX5_spoke_33 : decode cX5_spoke 33 = .ok (.iload_n 1, 1) := by decide +kernel
theorem dX5_spoke_34 : decode cX5_spoke 34 = .ok (.iload_n 2, 1) := by decide +kernel
theorem dX5_spoke_35 : decode cX5_spoke 35 = .ok (.invokevirtual 139, 3) := by decide +kernel
theorem dX5_spoke_38 : decode cX5_spoke 38 = .ok (.invokevirtual 76, 3) := by decide +kernel
theorem dX5_spoke_41 : decode cX5_spoke 41 = .ok (.ireturn, 1) := by decide +kernel
theorem dX5_mark_0 : decode cX5_mark 0 = .ok (.aload_n 0, 1) := by decide +kernel
theorem dX5_mark_1 : decode cX5_mark 1 = .ok (.getfield 31, 3) := by decide +kernel
theorem dX5_mark_4 : decode cX5_mark 4 = .ok (.getfield 45, 3) := by decide +kernel
theorem dX5_mark_7 : decode cX5_mark 7 = .ok (.iload_n 1, 1) := by decide +kernel
theorem dX5_mark_8 : decode cX5_mark 8 = .ok (.invokevirtual 136, 3) := by decide +kernel
theorem dX5_mark_11 : decode cX5_mark 11 = .ok (.ifCond .eq 13, 3) := by decide +kernel
theorem dX5_mark_14 : decode cX5_mark 14 = .ok (.iload_n 2, 1) := by decide +kernel
theorem dX5_mark_15 : decode cX5_mark 15 = .ok (.ifCond .le 9, 3) := by decide +kernel
theorem dX5_mark_18 : decode cX5_mark 18 = .ok (.iload_n 2, 1) := by decide +kernel
theorem dX5_mark_19 : decode cX5_mark 19 = .ok (.bipush 6, 2) := by decide +kernel
theorem dX5_mark_21 : decode cX5_mark 21 = .ok (.if_icmp .lt 5, 3) := by decide +kernel
theorem dX5_mark_24 : decode cX5_mark 24 = .ok (.iconst (-1), 1) := by decide +kernel
theorem dX5_mark_25 : decode cX5_mark 25 = .ok (.ireturn, 1) := by decide +kernel
theorem dX5_mark_26 : decode cX5_mark 26 = .ok (.aload_n 0, 1) := by decide +kernel
theorem dX5_mark_27 : decode cX5_mark 27 = .ok (.getfield 31, 3) := by decide +kernel
theorem dX5_mark_30 : decode cX5_mark 30 = .ok (.getfield 45, 3) := by decide +kernel
theorem dX5_mark_33 : decode cX5_mark 33 = .ok (.getfield 142, 3) := by decide +kernel
theorem dX5_mark_36 : decode cX5_mark 36 = .ok (.iload_n 1, 1) := by decide +kernel
theorem dX5_mark_37 : decode cX5_mark 37 = .ok (.iaload, 1) := by decide +kernel
theorem dX5_mark_38 : decode cX5_mark 38 = .ok (.iload_n 2, 1) := by decide +kernel
theorem dX5_mark_39 : decode cX5_mark 39 = .ok (.invokestatic 145, 3) := by decide +kernel
theorem dX5_mark_42 : decode cX5_mark 42 = .ok (.ifCond .ne 9, 3) := by decide +kernel
theorem dX5_mark_45 : decode cX5_mark 45 = .ok (.aload_n 0, 1) := by decide +kernel
theorem dX5_mark_46 : decode cX5_mark 46 = .ok (.iconst 3, 1) := by decide +kernel
theorem dX5_mark_47 : decode cX5_mark 47 = .ok (.invokevirtual 96, 3) := by decide +kernel
theorem dX5_mark_50 : decode cX5_mark 50 = .ok (.ireturn, 1) := by decide +kernel
theorem dX5_mark_51 : decode cX5_mark 51 = .ok (.aload_n 0, 1) := by decide +kernel
theorem dX5_mark_52 : decode cX5_mark 52 = .ok (.getfield 31, 3) := by decide +kernel
theorem dX5_mark_55 : decode cX5_mark 55 = .ok (.getfield 45, 3) := by decide +kernel
theorem dX5_mark_58 : decode cX5_mark 58 = .ok (.iload_n 1, 1) := by decide +kernel
theorem dX5_mark_59 : decode cX5_mark 59 = .ok (.iload_n 2, 1) := by decide +kernel
theorem dX5_mark_60 : decode cX5_mark 60 = .ok (.invokevirtual 149, 3) := by decide +kernel
theorem dX5_mark_63 : decode cX5_mark 63 = .ok (.ireturn, 1) := by decide +kernel
theorem dX5_bears_0 : decode cX5_bears 0 = .ok (.aload_n 0, 1) := by decide +kernel
theorem dX5_bears_1 : decode cX5_bears 1 = .ok (.getfield 31, 3) := by decide +kernel
theorem dX5_bears_4 : decode cX5_bears 4 = .ok (.getfield 45, 3) := by decide +kernel
theorem dX5_bears_7 : decode cX5_bears 7 = .ok (.iload_n 1, 1) := by decide +kernel
theorem dX5_bears_8 : decode cX5_bears 8 = .ok (.invokevirtual 136, 3) := by decide +kernel
theorem dX5_bears_11 : decode cX5_bears 11 = .ok (.ifCond .eq 23, 3) := by decide +kernel
theorem dX5_bears_14 : decode cX5_bears 14 = .ok (.iload_n 2, 1) := by decide +kernel
theorem dX5_bears_15 : decode cX5_bears 15 = .ok (.ifCond .lt 19, 3) := by decide +kernel
theorem dX5_bears_18 : decode cX5_bears 18 = .ok (.iload_n 2, 1) := by decide +kernel
theorem dX5_bears_19 : decode cX5_bears 19 = .ok (.bipush 9, 2) := by decide +kernel
theorem dX5_bears_21 : decode cX5_bears 21 = .ok (.if_icmp .gt 13, 3) := by decide +kernel
theorem dX5_bears_24 : decode cX5_bears 24 = .ok (.iload_n 3, 1) := by decide +kernel
theorem dX5_bears_25 : decode cX5_bears 25 = .ok (.ifCond .lt 9, 3) := by decide +kernel
theorem dX5_bears_28 : decode cX5_bears 28 = .ok (.iload_n 3, 1) := by decide +kernel
theorem dX5_bears_29 : decode cX5_bears 29 = .ok (.bipush 30, 2) := by decide +kernel
theorem dX5_bears_31 : decode cX5_bears 31 = .ok (.if_icmp .le 5, 3) := by decide +kernel
theorem dX5_bears_34 : decode cX5_bears 34 = .ok (.iconst (-1), 1) := by decide +kernel
theorem dX5_bears_35 : decode cX5_bears 35 = .ok (.ireturn, 1) := by decide +kernel
theorem dX5_bears_36 : decode cX5_bears 36 = .ok (.aload_n 0, 1) := by decide +kernel
theorem dX5_bears_37 : decode cX5_bears 37 = .ok (.getfield 31, 3) := by decide +kernel
theorem dX5_bears_40 : decode cX5_bears 40 = .ok (.getfield 45, 3) := by decide +kernel
theorem dX5_bears_43 : decode cX5_bears 43 = .ok (.getfield 142, 3) := by decide +kernel
theorem dX5_bears_46 : decode cX5_bears 46 = .ok (.iload_n 1, 1) := by decide +kernel
theorem dX5_bears_47 : decode cX5_bears 47 = .ok (.iaload, 1) := by decide +kernel
theorem dX5_bears_48 : decode cX5_bears 48 = .ok (.aload_n 0, 1) := by decide +kernel
theorem dX5_bears_49 : decode cX5_bears 49 = .ok (.getfield 31, 3) := by decide +kernel
theorem dX5_bears_52 : decode cX5_bears 52 = .ok (.getfield 45, 3) := by decide +kernel
theorem dX5_bears_55 : decode cX5_bears 55 = .ok (.getfield 152, 3) := by decide +kernel
theorem dX5_bears_58 : decode cX5_bears 58 = .ok (.iload_n 1, 1) := by decide +kernel
theorem dX5_bears_59 : decode cX5_bears 59 = .ok (.iaload, 1) := by decide +kernel
theorem dX5_bears_60 : decode cX5_bears 60 = .ok (.iload_n 3, 1) := by decide +kernel
theorem dX5_bears_61 : decode cX5_bears 61 = .ok (.iload_n 2, 1) := by decide +kernel
theorem dX5_bears_62 : decode cX5_bears 62 = .ok (.aload_n 0, 1) := by decide +kernel
theorem dX5_bears_63 : decode cX5_bears 63 = .ok (.getfield 31, 3) := by decide +kernel
theorem dX5_bears_66 : decode cX5_bears 66 = .ok (.getfield 45, 3) := by decide +kernel
theorem dX5_bears_69 : decode cX5_bears 69 = .ok (.getfield 155, 3) := by decide +kernel
theorem dX5_bears_72 : decode cX5_bears 72 = .ok (.invokestatic 159, 3) := by decide +kernel
theorem dX5_bears_75 : decode cX5_bears 75 = .ok (.ireturn, 1) := by decide +kernel
theorem dX5_step_0 : decode cX5_step 0 = .ok (.aload_n 0, 1) := by decide +kernel
theorem dX5_step_1 : decode cX5_step 1 = .ok (.getfield 31, 3) := by decide +kernel
theorem dX5_step_4 : decode cX5_step 4 = .ok (.getfield 45, 3) := by decide +kernel
theorem dX5_step_7 : decode cX5_step 7 = .ok (.invokevirtual 163, 3) := by decide +kernel
theorem dX5_step_10 : decode cX5_step 10 = .ok (.ifCond .ne 16, 3) := by decide +kernel
theorem dX5_step_13 : decode cX5_step 13 = .ok (.aload_n 0, 1) := by decide +kernel
theorem dX5_step_14 : decode cX5_step 14 = .ok (.getfield 31, 3) := by decide +kernel
theorem dX5_step_17 : decode cX5_step 17 = .ok (.getfield 45, 3) := by decide +kernel
theorem dX5_step_20 : decode cX5_step 20 = .ok (.invokevirtual 167, 3) := by decide +kernel
theorem dX5_step_23 : decode cX5_step 23 = .ok (.ifCond .eq 6, 3) := by decide +kernel
theorem dX5_step_26 : decode cX5_step 26 = .ok (.bipush (-4), 2) := by decide +kernel
theorem dX5_step_28 : decode cX5_step 28 = .ok (.ireturn, 1) := by decide +kernel
theorem dX5_step_29 : decode cX5_step 29 = .ok (.aload_n 0, 1) := by decide +kernel
theorem dX5_step_30 : decode cX5_step 30 = .ok (.iconst 0, 1) := by decide +kernel
theorem dX5_step_31 : decode cX5_step 31 = .ok (.iconst 0, 1) := by decide +kernel
theorem dX5_step_32 : decode cX5_step 32 = .ok (.invokevirtual 170, 3) := by decide +kernel
theorem dX5_step_35 : decode cX5_step 35 = .ok (.ireturn, 1) := by decide +kernel
theorem dX5_soak_0 : decode cX5_soak 0 = .ok (.aload_n 0, 1) := by decide +kernel
theorem dX5_soak_1 : decode cX5_soak 1 = .ok (.getfield 31, 3) := by decide +kernel
theorem dX5_soak_4 : decode cX5_soak 4 = .ok (.getfield 45, 3) := by decide +kernel
theorem dX5_soak_7 : decode cX5_soak 7 = .ok (.invokevirtual 163, 3) := by decide +kernel
theorem dX5_soak_10 : decode cX5_soak 10 = .ok (.ifCond .eq 8, 3) := by decide +kernel
theorem dX5_soak_13 : decode cX5_soak 13 = .ok (.bipush (-4), 2) := by decide +kernel
theorem dX5_soak_15 : decode cX5_soak 15 = .ok (.goto 9, 3) := by decide +kernel
theorem dX5_soak_18 : decode cX5_soak 18 = .ok (.aload_n 0, 1) := by decide +kernel
theorem dX5_soak_19 : decode cX5_soak 19 = .ok (.iconst 1, 1) := by decide +kernel
theorem dX5_soak_20 : decode cX5_soak 20 = .ok (.iconst 0, 1) := by decide +kernel
theorem dX5_soak_21 : decode cX5_soak 21 = .ok (.invokevirtual 170, 3) := by decide +kernel
theorem dX5_soak_24 : decode cX5_soak 24 = .ok (.ireturn, 1) := by decide +kernel
theorem dX5_weather_0 : decode cX5_weather 0 = .ok (.aload_n 0, 1) := by decide +kernel
theorem dX5_weather_1 : decode cX5_weather 1 = .ok (.getfield 31, 3) := by decide +kernel
theorem dX5_weather_4 : decode cX5_weather 4 = .ok (.getfield 45, 3) := by decide +kernel
theorem dX5_weather_7 : decode cX5_weather 7 = .ok (.invokevirtual 163, 3) := by decide +kernel
theorem dX5_weather_10 : decode cX5_weather 10 = .ok (.ifCond .eq 8, 3) := by decide +kernel
theorem dX5_weather_13 : decode cX5_weather 13 = .ok (.bipush (-4), 2) := by decide +kernel
theorem dX5_weather_15 : decode cX5_weather 15 = .ok (.goto 9, 3) := by decide +kernel
theorem dX5_weather_18 : decode cX5_weather 18 = .ok (.aload_n 0, 1) := by decide +kernel
theorem dX5_weather_19 : decode cX5_weather 19 = .ok (.iconst 2, 1) := by decide +kernel
theorem dX5_weather_20 : decode cX5_weather 20 = .ok (.iconst 0, 1) := by decide +kernel
theorem dX5_weather_21 : decode cX5_weather 21 = .ok (.invokevirtual 170, 3) := by decide +kernel
theorem dX5_weather_24 : decode cX5_weather 24 = .ok (.ireturn, 1) := by decide +kernel
theorem dX5_knock_0 : decode cX5_knock 0 = .ok (.aload_n 0, 1) := by decide +kernel
theorem dX5_knock_1 : decode cX5_knock 1 = .ok (.getfield 31, 3) := by decide +kernel
theorem dX5_knock_4 : decode cX5_knock 4 = .ok (.getfield 45, 3) := by decide +kernel
theorem dX5_knock_7 : decode cX5_knock 7 = .ok (.iload_n 1, 1) := by decide +kernel
theorem dX5_knock_8 : decode cX5_knock 8 = .ok (.invokevirtual 136, 3) := by decide +kernel
theorem dX5_knock_11 : decode cX5_knock 11 = .ok (.ifCond .ne 5, 3) := by decide +kernel
theorem dX5_knock_14 : decode cX5_knock 14 = .ok (.iconst (-1), 1) := by decide +kernel
theorem dX5_knock_15 : decode cX5_knock 15 = .ok (.ireturn, 1) := by decide +kernel
theorem dX5_knock_16 : decode cX5_knock 16 = .ok (.aload_n 0, 1) := by decide +kernel
theorem dX5_knock_17 : decode cX5_knock 17 = .ok (.getfield 31, 3) := by decide +kernel
theorem dX5_knock_20 : decode cX5_knock 20 = .ok (.getfield 45, 3) := by decide +kernel
theorem dX5_knock_23 : decode cX5_knock 23 = .ok (.iload_n 1, 1) := by decide +kernel
theorem dX5_knock_24 : decode cX5_knock 24 = .ok (.invokevirtual 173, 3) := by decide +kernel
theorem dX5_knock_27 : decode cX5_knock 27 = .ok (.ifCond .eq 12, 3) := by decide +kernel
theorem dX5_knock_30 : decode cX5_knock 30 = .ok (.aload_n 0, 1) := by decide +kernel
theorem dX5_knock_31 : decode cX5_knock 31 = .ok (.iconst 3, 1) := by decide +kernel
theorem dX5_knock_32 : decode cX5_knock 32 = .ok (.iload_n 1, 1) := by decide +kernel
theorem dX5_knock_33 : decode cX5_knock 33 = .ok (.invokevirtual 170, 3) := by decide +kernel
theorem dX5_knock_36 : decode cX5_knock 36 = .ok (.goto 5, 3) := by decide +kernel
theorem dX5_knock_39 : decode cX5_knock 39 = .ok (.bipush (-4), 2) := by decide +kernel
theorem dX5_knock_41 : decode cX5_knock 41 = .ok (.ireturn, 1) := by decide +kernel
theorem dX5_mend_0 : decode cX5_mend 0 = .ok (.aload_n 0, 1) := by decide +kernel
theorem dX5_mend_1 : decode cX5_mend 1 = .ok (.getfield 31, 3) := by decide +kernel
theorem dX5_mend_4 : decode cX5_mend 4 = .ok (.getfield 45, 3) := by decide +kernel
theorem dX5_mend_7 : decode cX5_mend 7 = .ok (.iload_n 1, 1) := by decide +kernel
theorem dX5_mend_8 : decode cX5_mend 8 = .ok (.invokevirtual 136, 3) := by decide +kernel
theorem dX5_mend_11 : decode cX5_mend 11 = .ok (.ifCond .eq 12, 3) := by decide +kernel
theorem dX5_mend_14 : decode cX5_mend 14 = .ok (.aload_n 0, 1) := by decide +kernel
theorem dX5_mend_15 : decode cX5_mend 15 = .ok (.iconst 4, 1) := by decide +kernel
theorem dX5_mend_16 : decode cX5_mend 16 = .ok (.iload_n 1, 1) := by decide +kernel
theorem dX5_mend_17 : decode cX5_mend 17 = .ok (.invokevirtual 170, 3) := by decide +kernel
theorem dX5_mend_20 : decode cX5_mend 20 = .ok (.goto 4, 3) := by decide +kernel
theorem dX5_mend_23 : decode cX5_mend 23 = .ok (.iconst (-1), 1) := by decide +kernel
theorem dX5_mend_24 : decode cX5_mend 24 = .ok (.ireturn, 1) := by decide +kernel
theorem dX5_undo_0 : decode cX5_undo 0 = .ok (.iload_n 1, 1) := by decide +kernel
theorem dX5_undo_1 : decode cX5_undo 1 = .ok (.ifCond .lt 14, 3) := by decide +kernel
theorem dX5_undo_4 : decode cX5_undo 4 = .ok (.iload_n 1, 1) := by decide +kernel
theorem dX5_undo_5 : decode cX5_undo 5 = .ok (.aload_n 0, 1) := by decide +kernel
theorem dX5_undo_6 : decode cX5_undo 6 = .ok (.getfield 31, 3) := by decide +kernel
theorem dX5_undo_9 : decode cX5_undo 9 = .ok (.getfield 39, 3) := by decide +kernel
theorem dX5_undo_12 : decode cX5_undo 12 = .ok (.if_icmp .le 5, 3) := by decide +kernel
theorem dX5_undo_15 : decode cX5_undo 15 = .ok (.iconst (-1), 1) := by decide +kernel
theorem dX5_undo_16 : decode cX5_undo 16 = .ok (.ireturn, 1) := by decide +kernel
theorem dX5_undo_17 : decode cX5_undo 17 = .ok (.aload_n 0, 1) := by decide +kernel
theorem dX5_undo_18 : decode cX5_undo 18 = .ok (.getfield 31, 3) := by decide +kernel
theorem dX5_undo_21 : decode cX5_undo 21 = .ok (.getfield 39, 3) := by decide +kernel
theorem dX5_undo_24 : decode cX5_undo 24 = .ok (.iload_n 1, 1) := by decide +kernel
theorem dX5_undo_25 : decode cX5_undo 25 = .ok (.isub, 1) := by decide +kernel
theorem dX5_undo_26 : decode cX5_undo 26 = .ok (.istore_n 2, 1) := by decide +kernel
theorem dX5_undo_27 : decode cX5_undo 27 = .ok (.aload_n 0, 1) := by decide +kernel
theorem dX5_undo_28 : decode cX5_undo 28 = .ok (.getfield 31, 3) := by decide +kernel
theorem dX5_undo_31 : decode cX5_undo 31 = .ok (.iload_n 1, 1) := by decide +kernel
theorem dX5_undo_32 : decode cX5_undo 32 = .ok (.invokevirtual 176, 3) := by decide +kernel
theorem dX5_undo_35 : decode cX5_undo 35 = .ok (.iload_n 2, 1) := by decide +kernel
theorem dX5_undo_36 : decode cX5_undo 36 = .ok (.ireturn, 1) := by decide +kernel
theorem dX5_keep_0 : decode cX5_keep 0 = .ok (.iload_n 1, 1) := by decide +kernel
theorem dX5_keep_1 : decode cX5_keep 1 = .ok (.ifCond .lt 8, 3) := by decide +kernel
theorem dX5_keep_4 : decode cX5_keep 4 = .ok (.iload_n 1, 1) := by decide +kernel
theorem dX5_keep_5 : decode cX5_keep 5 = .ok (.iconst 3, 1) := by decide +kernel
theorem dX5_keep_6 : decode cX5_keep 6 = .ok (.if_icmp .lt 5, 3) := by decide +kernel
theorem dX5_keep_9 : decode cX5_keep 9 = .ok (.iconst (-1), 1) := by decide +kernel
theorem dX5_keep_10 : decode cX5_keep 10 = .ok (.ireturn, 1) := by decide +kernel
theorem dX5_keep_11 : decode cX5_keep 11 = .ok (.aload_n 0, 1) := by decide +kernel
theorem dX5_keep_12 : decode cX5_keep 12 = .ok (.getfield 31, 3) := by decide +kernel
theorem dX5_keep_15 : decode cX5_keep 15 = .ok (.getfield 45, 3) := by decide +kernel
theorem dX5_keep_18 : decode cX5_keep 18 = .ok (.invokevirtual 163, 3) := by decide +kernel
theorem dX5_keep_21 : decode cX5_keep 21 = .ok (.ifCond .eq 6, 3) := by decide +kernel
theorem dX5_keep_24 : decode cX5_keep 24 = .ok (.bipush (-4), 2) := by decide +kernel
theorem dX5_keep_26 : decode cX5_keep 26 = .ok (.ireturn, 1) := by decide +kernel
theorem dX5_keep_27 : decode cX5_keep 27 = .ok (.aload_n 0, 1) := by decide +kernel
theorem dX5_keep_28 : decode cX5_keep 28 = .ok (.getfield 35, 3) := by decide +kernel
theorem dX5_keep_31 : decode cX5_keep 31 = .ok (.iload_n 1, 1) := by decide +kernel
theorem dX5_keep_32 : decode cX5_keep 32 = .ok (.aaload, 1) := by decide +kernel
theorem dX5_keep_33 : decode cX5_keep 33 = .ok (.aload_n 0, 1) := by decide +kernel
theorem dX5_keep_34 : decode cX5_keep 34 = .ok (.getfield 31, 3) := by decide +kernel
theorem dX5_keep_37 : decode cX5_keep 37 = .ok (.invokevirtual 179, 3) := by decide +kernel
theorem dX5_keep_40 : decode cX5_keep 40 = .ok (.aload_n 0, 1) := by decide +kernel
theorem dX5_keep_41 : decode cX5_keep 41 = .ok (.getfield 31, 3) := by decide +kernel
theorem dX5_keep_44 : decode cX5_keep 44 = .ok (.getfield 39, 3) := by decide +kernel
theorem dX5_keep_47 : decode cX5_keep 47 = .ok (.ireturn, 1) := by decide +kernel
theorem dX5_on_0 : decode cX5_on 0 = .ok (.iload_n 1, 1) := by decide +kernel
theorem dX5_on_1 : decode cX5_on 1 = .ok (.ifCond .lt 8, 3) := by decide +kernel
theorem dX5_on_4 : decode cX5_on 4 = .ok (.iload_n 1, 1) := by decide +kernel
theorem dX5_on_5 : decode cX5_on 5 = .ok (.iconst 3, 1) := by decide +kernel
theorem dX5_on_6 : decode cX5_on 6 = .ok (.if_icmp .lt 5, 3) := by decide +kernel
theorem dX5_on_9 : decode cX5_on 9 = .ok (.iconst (-1), 1) := by decide +kernel
theorem dX5_on_10 : decode cX5_on 10 = .ok (.ireturn, 1) := by decide +kernel
theorem dX5_on_11 : decode cX5_on 11 = .ok (.aload_n 0, 1) := by decide +kernel
theorem dX5_on_12 : decode cX5_on 12 = .ok (.getfield 35, 3) := by decide +kernel
theorem dX5_on_15 : decode cX5_on 15 = .ok (.iload_n 1, 1) := by decide +kernel
theorem dX5_on_16 : decode cX5_on 16 = .ok (.aaload, 1) := by decide +kernel
theorem dX5_on_17 : decode cX5_on 17 = .ok (.getfield 39, 3) := by decide +kernel
theorem dX5_on_20 : decode cX5_on 20 = .ok (.iconst (-1), 1) := by decide +kernel
theorem dX5_on_21 : decode cX5_on 21 = .ok (.if_icmp .ne 9, 3) := by decide +kernel
theorem dX5_on_24 : decode cX5_on 24 = .ok (.aload_n 0, 1) := by decide +kernel
theorem dX5_on_25 : decode cX5_on 25 = .ok (.iconst 1, 1) := by decide +kernel
theorem dX5_on_26 : decode cX5_on 26 = .ok (.invokevirtual 96, 3) := by decide +kernel
theorem dX5_on_29 : decode cX5_on 29 = .ok (.ireturn, 1) := by decide +kernel
theorem dX5_on_30 : decode cX5_on 30 = .ok (.aload_n 0, 1) := by decide +kernel
theorem dX5_on_31 : decode cX5_on 31 = .ok (.getfield 31, 3) := by decide +kernel
theorem dX5_on_34 : decode cX5_on 34 = .ok (.aload_n 0, 1) := by decide +kernel
theorem dX5_on_35 : decode cX5_on 35 = .ok (.getfield 35, 3) := by decide +kernel
theorem dX5_on_38 : decode cX5_on 38 = .ok (.iload_n 1, 1) := by decide +kernel
theorem dX5_on_39 : decode cX5_on 39 = .ok (.aaload, 1) := by decide +kernel
theorem dX5_on_40 : decode cX5_on 40 = .ok (.invokevirtual 179, 3) := by decide +kernel
theorem dX5_on_43 : decode cX5_on 43 = .ok (.aload_n 0, 1) := by decide +kernel
theorem dX5_on_44 : decode cX5_on 44 = .ok (.getfield 31, 3) := by decide +kernel
theorem dX5_on_47 : decode cX5_on 47 = .ok (.getfield 39, 3) := by decide +kernel
theorem dX5_on_50 : decode cX5_on 50 = .ok (.ireturn, 1) := by decide +kernel
theorem dX5_goes_0 : decode cX5_goes 0 = .ok (.iload_n 1, 1) := by decide +kernel
theorem dX5_goes_1 : decode cX5_goes 1 = .ok (.ifCond .lt 9, 3) := by decide +kernel
theorem dX5_goes_4 : decode cX5_goes 4 = .ok (.iload_n 1, 1) := by decide +kernel
theorem dX5_goes_5 : decode cX5_goes 5 = .ok (.bipush 60, 2) := by decide +kernel
theorem dX5_goes_7 : decode cX5_goes 7 = .ok (.if_icmp .le 5, 3) := by decide +kernel
theorem dX5_goes_10 : decode cX5_goes 10 = .ok (.iconst (-1), 1) := by decide +kernel
theorem dX5_goes_11 : decode cX5_goes 11 = .ok (.ireturn, 1) := by decide +kernel
theorem dX5_goes_12 : decode cX5_goes 12 = .ok (.aload_n 0, 1) := by decide +kernel
theorem dX5_goes_13 : decode cX5_goes 13 = .ok (.getfield 31, 3) := by decide +kernel
theorem dX5_goes_16 : decode cX5_goes 16 = .ok (.getfield 45, 3) := by decide +kernel
theorem dX5_goes_19 : decode cX5_goes 19 = .ok (.invokevirtual 163, 3) := by decide +kernel
theorem dX5_goes_22 : decode cX5_goes 22 = .ok (.ifCond .eq 6, 3) := by decide +kernel
theorem dX5_goes_25 : decode cX5_goes 25 = .ok (.bipush (-4), 2) := by decide +kernel
theorem dX5_goes_27 : decode cX5_goes 27 = .ok (.ireturn, 1) := by decide +kernel
theorem dX5_goes_28 : decode cX5_goes 28 = .ok (.aload_n 0, 1) := by decide +kernel
theorem dX5_goes_29 : decode cX5_goes 29 = .ok (.aload_n 0, 1) := by decide +kernel
theorem dX5_goes_30 : decode cX5_goes 30 = .ok (.getfield 52, 3) := by decide +kernel
theorem dX5_goes_33 : decode cX5_goes 33 = .ok (.iload_n 1, 1) := by decide +kernel
theorem dX5_goes_34 : decode cX5_goes 34 = .ok (.invokevirtual 183, 3) := by decide +kernel
theorem dX5_goes_37 : decode cX5_goes 37 = .ok (.invokevirtual 186, 3) := by decide +kernel
theorem dX5_goes_40 : decode cX5_goes 40 = .ok (.ireturn, 1) := by decide +kernel
theorem dX5_over_0 : decode cX5_over 0 = .ok (.aload_n 0, 1) := by decide +kernel
theorem dX5_over_1 : decode cX5_over 1 = .ok (.getfield 31, 3) := by decide +kernel
theorem dX5_over_4 : decode cX5_over 4 = .ok (.getfield 45, 3) := by decide +kernel
theorem dX5_over_7 : decode cX5_over 7 = .ok (.invokevirtual 163, 3) := by decide +kernel
theorem dX5_over_10 : decode cX5_over 10 = .ok (.ifCond .eq 8, 3) := by decide +kernel
theorem dX5_over_13 : decode cX5_over 13 = .ok (.bipush (-4), 2) := by decide +kernel
theorem dX5_over_15 : decode cX5_over 15 = .ok (.goto 14, 3) := by decide +kernel
theorem dX5_over_18 : decode cX5_over 18 = .ok (.aload_n 0, 1) := by decide +kernel
theorem dX5_over_19 : decode cX5_over 19 = .ok (.aload_n 0, 1) := by decide +kernel
theorem dX5_over_20 : decode cX5_over 20 = .ok (.getfield 52, 3) := by decide +kernel
theorem dX5_over_23 : decode cX5_over 23 = .ok (.invokevirtual 189, 3) := by decide +kernel
theorem dX5_over_26 : decode cX5_over 26 = .ok (.invokevirtual 186, 3) := by decide +kernel
theorem dX5_over_29 : decode cX5_over 29 = .ok (.ireturn, 1) := by decide +kernel
theorem dX5_limps_0 : decode cX5_limps 0 = .ok (.iload_n 1, 1) := by decide +kernel
theorem dX5_limps_1 : decode cX5_limps 1 = .ok (.iconst 1, 1) := by decide +kernel
theorem dX5_limps_2 : decode cX5_limps 2 = .ok (.if_icmp .lt 20, 3) := by decide +kernel
theorem dX5_limps_5 : decode cX5_limps 5 = .ok (.iload_n 1, 1) := by decide +kernel
theorem dX5_limps_6 : decode cX5_limps 6 = .ok (.bipush 20, 2) := by decide +kernel
theorem dX5_limps_8 : decode cX5_limps 8 = .ok (.if_icmp .gt 14, 3) := by decide +kernel
theorem dX5_limps_11 : decode cX5_limps 11 = .ok (.aload_n 0, 1) := by decide +kernel
theorem dX5_limps_12 : decode cX5_limps 12 = .ok (.getfield 14, 3) := by decide +kernel
theorem dX5_limps_15 : decode cX5_limps 15 = .ok (.iload_n 2, 1) := by decide +kernel
theorem dX5_limps_16 : decode cX5_limps 16 = .ok (.invokevirtual 92, 3) := by decide +kernel
theorem dX5_limps_19 : decode cX5_limps 19 = .ok (.ifCond .ne 5, 3) := by decide +kernel
theorem dX5_limps_22 : decode cX5_limps 22 = .ok (.iconst (-1), 1) := by decide +kernel
theorem dX5_limps_23 : decode cX5_limps 23 = .ok (.ireturn, 1) := by decide +kernel
theorem dX5_limps_24 : decode cX5_limps 24 = .ok (.aload_n 0, 1) := by decide +kernel
theorem dX5_limps_25 : decode cX5_limps 25 = .ok (.getfield 31, 3) := by decide +kernel
theorem dX5_limps_28 : decode cX5_limps 28 = .ok (.getfield 45, 3) := by decide +kernel
theorem dX5_limps_31 : decode cX5_limps 31 = .ok (.invokevirtual 163, 3) := by decide +kernel
theorem dX5_limps_34 : decode cX5_limps 34 = .ok (.ifCond .eq 6, 3) := by decide +kernel
theorem dX5_limps_37 : decode cX5_limps 37 = .ok (.bipush (-4), 2) := by decide +kernel
theorem dX5_limps_39 : decode cX5_limps 39 = .ok (.ireturn, 1) := by decide +kernel
theorem dX5_limps_40 : decode cX5_limps 40 = .ok (.aload_n 0, 1) := by decide +kernel
theorem dX5_limps_41 : decode cX5_limps 41 = .ok (.getfield 14, 3) := by decide +kernel
theorem dX5_limps_44 : decode cX5_limps 44 = .ok (.iload_n 2, 1) := by decide +kernel
theorem dX5_limps_45 : decode cX5_limps 45 = .ok (.iload_n 1, 1) := by decide +kernel
theorem dX5_limps_46 : decode cX5_limps 46 = .ok (.iconst 0, 1) := by decide +kernel
theorem dX5_limps_47 : decode cX5_limps 47 = .ok (.invokevirtual 193, 3) := by decide +kernel
theorem dX5_limps_50 : decode cX5_limps 50 = .ok (.aload_n 0, 1) := by decide +kernel
theorem dX5_limps_51 : decode cX5_limps 51 = .ok (.getfield 52, 3) := by decide +kernel
theorem dX5_limps_54 : decode cX5_limps 54 = .ok (.aload_n 0, 1) := by decide +kernel
theorem dX5_limps_55 : decode cX5_limps 55 = .ok (.getfield 14, 3) := by decide +kernel
theorem dX5_limps_58 : decode cX5_limps 58 = .ok (.iload_n 2, 1) := by decide +kernel
theorem dX5_limps_59 : decode cX5_limps 59 = .ok (.invokevirtual 117, 3) := by decide +kernel
theorem dX5_limps_62 : decode cX5_limps 62 = .ok (.iload_n 1, 1) := by decide +kernel
theorem dX5_limps_63 : decode cX5_limps 63 = .ok (.invokevirtual 197, 3) := by decide +kernel
theorem dX5_limps_66 : decode cX5_limps 66 = .ok (.ireturn, 1) := by decide +kernel
theorem dX5_gate_0 : decode cX5_gate 0 = .ok (.aload_n 0, 1) := by decide +kernel
theorem dX5_gate_1 : decode cX5_gate 1 = .ok (.getfield 31, 3) := by decide +kernel
theorem dX5_gate_4 : decode cX5_gate 4 = .ok (.getfield 45, 3) := by decide +kernel
theorem dX5_gate_7 : decode cX5_gate 7 = .ok (.invokevirtual 163, 3) := by decide +kernel
theorem dX5_gate_10 : decode cX5_gate 10 = .ok (.ifCond .eq 8, 3) := by decide +kernel
theorem dX5_gate_13 : decode cX5_gate 13 = .ok (.bipush (-4), 2) := by decide +kernel
theorem dX5_gate_15 : decode cX5_gate 15 = .ok (.goto 14, 3) := by decide +kernel
theorem dX5_gate_18 : decode cX5_gate 18 = .ok (.aload_n 0, 1) := by decide +kernel
theorem dX5_gate_19 : decode cX5_gate 19 = .ok (.aload_n 0, 1) := by decide +kernel
theorem dX5_gate_20 : decode cX5_gate 20 = .ok (.getfield 52, 3) := by decide +kernel
theorem dX5_gate_23 : decode cX5_gate 23 = .ok (.invokevirtual 200, 3) := by decide +kernel
theorem dX5_gate_26 : decode cX5_gate 26 = .ok (.invokevirtual 186, 3) := by decide +kernel
theorem dX5_gate_29 : decode cX5_gate 29 = .ok (.ireturn, 1) := by decide +kernel
theorem dX5_turned_0 : decode cX5_turned 0 = .ok (.aload_n 0, 1) := by decide +kernel
theorem dX5_turned_1 : decode cX5_turned 1 = .ok (.getfield 31, 3) := by decide +kernel
theorem dX5_turned_4 : decode cX5_turned 4 = .ok (.getfield 45, 3) := by decide +kernel
theorem dX5_turned_7 : decode cX5_turned 7 = .ok (.invokevirtual 163, 3) := by decide +kernel
theorem dX5_turned_10 : decode cX5_turned 10 = .ok (.ifCond .eq 8, 3) := by decide +kernel
theorem dX5_turned_13 : decode cX5_turned 13 = .ok (.bipush (-4), 2) := by decide +kernel
theorem dX5_turned_15 : decode cX5_turned 15 = .ok (.goto 14, 3) := by decide +kernel
theorem dX5_turned_18 : decode cX5_turned 18 = .ok (.aload_n 0, 1) := by decide +kernel
theorem dX5_turned_19 : decode cX5_turned 19 = .ok (.aload_n 0, 1) := by decide +kernel
theorem dX5_turned_20 : decode cX5_turned 20 = .ok (.getfield 52, 3) := by decide +kernel
theorem dX5_turned_23 : decode cX5_turned 23 = .ok (.invokevirtual 203, 3) := by decide +kernel
theorem dX5_turned_26 : decode cX5_turned 26 = .ok (.invokevirtual 186, 3) := by decide +kernel
theorem dX5_turned_29 : decode cX5_turned 29 = .ok (.ireturn, 1) := by decide +kernel
theorem dX5_change_0 : decode cX5_change 0 = .ok (.aload_n 0, 1) := by decide +kernel
theorem dX5_change_1 : decode cX5_change 1 = .ok (.getfield 31, 3) := by decide +kernel
theorem dX5_change_4 : decode cX5_change 4 = .ok (.getfield 45, 3) := by decide +kernel
theorem dX5_change_7 : decode cX5_change 7 = .ok (.invokevirtual 163, 3) := by decide +kernel
theorem dX5_change_10 : decode cX5_change 10 = .ok (.ifCond .eq 8, 3) := by decide +kernel
theorem dX5_change_13 : decode cX5_change 13 = .ok (.bipush (-4), 2) := by decide +kernel
theorem dX5_change_15 : decode cX5_change 15 = .ok (.goto 14, 3) := by decide +kernel
theorem dX5_change_18 : decode cX5_change 18 = .ok (.aload_n 0, 1) := by decide +kernel
theorem dX5_change_19 : decode cX5_change 19 = .ok (.aload_n 0, 1) := by decide +kernel
theorem dX5_change_20 : decode cX5_change 20 = .ok (.getfield 52, 3) := by decide +kernel
theorem dX5_change_23 : decode cX5_change 23 = .ok (.invokevirtual 206, 3) := by decide +kernel
theorem dX5_change_26 : decode cX5_change 26 = .ok (.invokevirtual 186, 3) := by decide +kernel
theorem dX5_change_29 : decode cX5_change 29 = .ok (.ireturn, 1) := by decide +kernel
theorem dX5_gone_0 : decode cX5_gone 0 = .ok (.aload_n 0, 1) := by decide +kernel
theorem dX5_gone_1 : decode cX5_gone 1 = .ok (.getfield 14, 3) := by decide +kernel
theorem dX5_gone_4 : decode cX5_gone 4 = .ok (.iload_n 1, 1) := by decide +kernel
theorem dX5_gone_5 : decode cX5_gone 5 = .ok (.invokevirtual 92, 3) := by decide +kernel
theorem dX5_gone_8 : decode cX5_gone 8 = .ok (.ifCond .ne 5, 3) := by decide +kernel
theorem dX5_gone_11 : decode cX5_gone 11 = .ok (.iconst (-1), 1) := by decide +kernel
theorem dX5_gone_12 : decode cX5_gone 12 = .ok (.ireturn, 1) := by decide +kernel
theorem dX5_gone_13 : decode cX5_gone 13 = .ok (.aload_n 0, 1) := by decide +kernel
theorem dX5_gone_14 : decode cX5_gone 14 = .ok (.getfield 31, 3) := by decide +kernel
theorem dX5_gone_17 : decode cX5_gone 17 = .ok (.getfield 45, 3) := by decide +kernel
theorem dX5_gone_20 : decode cX5_gone 20 = .ok (.invokevirtual 163, 3) := by decide +kernel
theorem dX5_gone_23 : decode cX5_gone 23 = .ok (.ifCond .eq 6, 3) := by decide +kernel
theorem dX5_gone_26 : decode cX5_gone 26 = .ok (.bipush (-4), 2) := by decide +kernel
theorem dX5_gone_28 : decode cX5_gone 28 = .ok (.ireturn, 1) := by decide +kernel
theorem dX5_gone_29 : decode cX5_gone 29 = .ok (.aload_n 0, 1) := by decide +kernel
theorem dX5_gone_30 : decode cX5_gone 30 = .ok (.iload_n 1, 1) := by decide +kernel
theorem dX5_gone_31 : decode cX5_gone 31 = .ok (.invokevirtual 209, 3) := by decide +kernel
theorem dX5_gone_34 : decode cX5_gone 34 = .ok (.istore_n 2, 1) := by decide +kernel
theorem dX5_gone_35 : decode cX5_gone 35 = .ok (.iload_n 2, 1) := by decide +kernel
theorem dX5_gone_36 : decode cX5_gone 36 = .ok (.ifCond .eq 5, 3) := by decide +kernel
theorem dX5_gone_39 : decode cX5_gone 39 = .ok (.iload_n 2, 1) := by decide +kernel
theorem dX5_gone_40 : decode cX5_gone 40 = .ok (.ireturn, 1) := by decide +kernel
theorem dX5_gone_41 : decode cX5_gone 41 = .ok (.aload_n 0, 1) := by decide +kernel
theorem dX5_gone_42 : decode cX5_gone 42 = .ok (.aload_n 0, 1) := by decide +kernel
theorem dX5_gone_43 : decode cX5_gone 43 = .ok (.getfield 52, 3) := by decide +kernel
theorem dX5_gone_46 : decode cX5_gone 46 = .ok (.aload_n 0, 1) := by decide +kernel
theorem dX5_gone_47 : decode cX5_gone 47 = .ok (.getfield 14, 3) := by decide +kernel
theorem dX5_gone_50 : decode cX5_gone 50 = .ok (.iload_n 1, 1) := by decide +kernel
theorem dX5_gone_51 : decode cX5_gone 51 = .ok (.invokevirtual 117, 3) := by decide +kernel
theorem dX5_gone_54 : decode cX5_gone 54 = .ok (.aload_n 0, 1) := by decide +kernel
theorem dX5_gone_55 : decode cX5_gone 55 = .ok (.getfield 14, 3) := by decide +kernel
theorem dX5_gone_58 : decode cX5_gone 58 = .ok (.iload_n 1, 1) := by decide +kernel
theorem dX5_gone_59 : decode cX5_gone 59 = .ok (.invokevirtual 110, 3) := by decide +kernel
theorem dX5_gone_62 : decode cX5_gone 62 = .ok (.invokevirtual 212, 3) := by decide +kernel
theorem dX5_gone_65 : decode cX5_gone 65 = .ok (.invokevirtual 186, 3) := by decide +kernel
theorem dX5_gone_68 : decode cX5_gone 68 = .ok (.ireturn, 1) := by decide +kernel
theorem dX5_strengths_0 : decode cX5_strengths 0 = .ok (.aload_n 0, 1) := by decide +kernel
theorem dX5_strengths_1 : decode cX5_strengths 1 = .ok (.iload_n 1, 1) := by decide +kernel
theorem dX5_strengths_2 : decode cX5_strengths 2 = .ok (.iload_n 2, 1) := by decide +kernel
theorem dX5_strengths_3 : decode cX5_strengths 3 = .ok (.invokevirtual 215, 3) := by decide +kernel
theorem dX5_strengths_6 : decode cX5_strengths 6 = .ok (.istore_n 3, 1) := by decide +kernel
theorem dX5_strengths_7 : decode cX5_strengths 7 = .ok (.iload_n 3, 1) := by decide +kernel
theorem dX5_strengths_8 : decode cX5_strengths 8 = .ok (.ifCond .eq 5, 3) := by decide +kernel
theorem dX5_strengths_11 : decode cX5_strengths 11 = .ok (.iload_n 3, 1) := by decide +kernel
theorem dX5_strengths_12 : decode cX5_strengths 12 = .ok (.ireturn, 1) := by decide +kernel
theorem dX5_strengths_13 : decode cX5_strengths 13 = .ok (.aload_n 0, 1) := by decide +kernel
theorem dX5_strengths_14 : decode cX5_strengths 14 = .ok (.getfield 52, 3) := by decide +kernel
theorem dX5_strengths_17 : decode cX5_strengths 17 = .ok (.iload_n 1, 1) := by decide +kernel
theorem dX5_strengths_18 : decode cX5_strengths 18 = .ok (.aload_n 0, 1) := by decide +kernel
theorem dX5_strengths_19 : decode cX5_strengths 19 = .ok (.getfield 14, 3) := by decide +kernel
theorem dX5_strengths_22 : decode cX5_strengths 22 = .ok (.iload_n 2, 1) := by decide +kernel
theorem dX5_strengths_23 : decode cX5_strengths 23 = .ok (.invokevirtual 117, 3) := by decide +kernel
theorem dX5_strengths_26 : decode cX5_strengths 26 = .ok (.aload_n 0, 1) := by decide +kernel
theorem dX5_strengths_27 : decode cX5_strengths 27 = .ok (.getfield 14, 3) := by decide +kernel
theorem dX5_strengths_30 : decode cX5_strengths 30 = .ok (.iload_n 2, 1) := by decide +kernel
theorem dX5_strengths_31 : decode cX5_strengths 31 = .ok (.invokevirtual 110, 3) := by decide +kernel
theorem dX5_strengths_34 : decode cX5_strengths 34 = .ok (.invokevirtual 218, 3) := by decide +kernel
theorem dX5_strengths_37 : decode cX5_strengths 37 = .ok (.ireturn, 1) := by decide +kernel
theorem dX5_kinds_0 : decode cX5_kinds 0 = .ok (.aload_n 0, 1) := by decide +kernel
theorem dX5_kinds_1 : decode cX5_kinds 1 = .ok (.iload_n 1, 1) := by decide +kernel
theorem dX5_kinds_2 : decode cX5_kinds 2 = .ok (.iload_n 2, 1) := by decide +kernel
theorem dX5_kinds_3 : decode cX5_kinds 3 = .ok (.invokevirtual 215, 3) := by decide +kernel
theorem dX5_kinds_6 : decode cX5_kinds 6 = .ok (.istore_n 3, 1) := by decide +kernel
theorem dX5_kinds_7 : decode cX5_kinds 7 = .ok (.iload_n 3, 1) := by decide +kernel
theorem dX5_kinds_8 : decode cX5_kinds 8 = .ok (.ifCond .eq 5, 3) := by decide +kernel
theorem dX5_kinds_11 : decode cX5_kinds 11 = .ok (.iload_n 3, 1) := by decide +kernel
theorem dX5_kinds_12 : decode cX5_kinds 12 = .ok (.ireturn, 1) := by decide +kernel
theorem dX5_kinds_13 : decode cX5_kinds 13 = .ok (.aload_n 0, 1) := by decide +kernel
theorem dX5_kinds_14 : decode cX5_kinds 14 = .ok (.getfield 52, 3) := by decide +kernel
theorem dX5_kinds_17 : decode cX5_kinds 17 = .ok (.iload_n 1, 1) := by decide +kernel
theorem dX5_kinds_18 : decode cX5_kinds 18 = .ok (.aload_n 0, 1) := by decide +kernel
theorem dX5_kinds_19 : decode cX5_kinds 19 = .ok (.getfield 14, 3) := by decide +kernel
theorem dX5_kinds_22 : decode cX5_kinds 22 = .ok (.iload_n 2, 1) := by decide +kernel
theorem dX5_kinds_23 : decode cX5_kinds 23 = .ok (.invokevirtual 117, 3) := by decide +kernel
theorem dX5_kinds_26 : decode cX5_kinds 26 = .ok (.aload_n 0, 1) := by decide +kernel
theorem dX5_kinds_27 : decode cX5_kinds 27 = .ok (.getfield 14, 3) := by decide +kernel
theorem dX5_kinds_30 : decode cX5_kinds 30 = .ok (.iload_n 2, 1) := by decide +kernel
theorem dX5_kinds_31 : decode cX5_kinds 31 = .ok (.invokevirtual 110, 3) := by decide +kernel
theorem dX5_kinds_34 : decode cX5_kinds 34 = .ok (.invokevirtual 222, 3) := by decide +kernel
theorem dX5_kinds_37 : decode cX5_kinds 37 = .ok (.ireturn, 1) := by decide +kernel
theorem dX5_look_0 : decode cX5_look 0 = .ok (.aload_n 0, 1) := by decide +kernel
theorem dX5_look_1 : decode cX5_look 1 = .ok (.getfield 31, 3) := by decide +kernel
theorem dX5_look_4 : decode cX5_look 4 = .ok (.getfield 45, 3) := by decide +kernel
theorem dX5_look_7 : decode cX5_look 7 = .ok (.iload_n 1, 1) := by decide +kernel
theorem dX5_look_8 : decode cX5_look 8 = .ok (.invokevirtual 136, 3) := by decide +kernel
theorem dX5_look_11 : decode cX5_look 11 = .ok (.ifCond .eq 18, 3) := by decide +kernel
theorem dX5_look_14 : decode cX5_look 14 = .ok (.aload_n 0, 1) := by decide +kernel
theorem dX5_look_15 : decode cX5_look 15 = .ok (.aload_n 0, 1) := by decide +kernel
theorem dX5_look_16 : decode cX5_look 16 = .ok (.getfield 52, 3) := by decide +kernel
theorem dX5_look_19 : decode cX5_look 19 = .ok (.iload_n 1, 1) := by decide +kernel
theorem dX5_look_20 : decode cX5_look 20 = .ok (.invokevirtual 225, 3) := by decide +kernel
theorem dX5_look_23 : decode cX5_look 23 = .ok (.invokevirtual 186, 3) := by decide +kernel
theorem dX5_look_26 : decode cX5_look 26 = .ok (.goto 4, 3) := by decide +kernel
theorem dX5_look_29 : decode cX5_look 29 = .ok (.iconst (-1), 1) := by decide +kernel
theorem dX5_look_30 : decode cX5_look 30 = .ok (.ireturn, 1) := by decide +kernel
theorem dX5_duel_0 : decode cX5_duel 0 = .ok (.iload_n 1, 1) := by decide +kernel
theorem dX5_duel_1 : decode cX5_duel 1 = .ok (.ifCond .lt 8, 3) := by decide +kernel
theorem dX5_duel_4 : decode cX5_duel 4 = .ok (.iload_n 1, 1) := by decide +kernel
theorem dX5_duel_5 : decode cX5_duel 5 = .ok (.iconst 4, 1) := by decide +kernel
theorem dX5_duel_6 : decode cX5_duel 6 = .ok (.if_icmp .le 5, 3) := by decide +kernel
theorem dX5_duel_9 : decode cX5_duel 9 = .ok (.iconst (-1), 1) := by decide +kernel
theorem dX5_duel_10 : decode cX5_duel 10 = .ok (.ireturn, 1) := by decide +kernel
theorem dX5_duel_11 : decode cX5_duel 11 = .ok (.aload_n 0, 1) := by decide +kernel
theorem dX5_duel_12 : decode cX5_duel 12 = .ok (.getfield 31, 3) := by decide +kernel
theorem dX5_duel_15 : decode cX5_duel 15 = .ok (.getfield 45, 3) := by decide +kernel
theorem dX5_duel_18 : decode cX5_duel 18 = .ok (.invokevirtual 163, 3) := by decide +kernel
theorem dX5_duel_21 : decode cX5_duel 21 = .ok (.ifCond .eq 6, 3) := by decide +kernel
theorem dX5_duel_24 : decode cX5_duel 24 = .ok (.bipush (-4), 2) := by decide +kernel
theorem dX5_duel_26 : decode cX5_duel 26 = .ok (.ireturn, 1) := by decide +kernel
theorem dX5_duel_27 : decode cX5_duel 27 = .ok (.aload_n 0, 1) := by decide +kernel
theorem dX5_duel_28 : decode cX5_duel 28 = .ok (.getfield 52, 3) := by decide +kernel
theorem dX5_duel_31 : decode cX5_duel 31 = .ok (.iload_n 1, 1) := by decide +kernel
theorem dX5_duel_32 : decode cX5_duel 32 = .ok (.iconst 1, 1) := by decide +kernel
theorem dX5_duel_33 : decode cX5_duel 33 = .ok (.aload_n 0, 1) := by decide +kernel
theorem dX5_duel_34 : decode cX5_duel 34 = .ok (.getfield 31, 3) := by decide +kernel
theorem dX5_duel_37 : decode cX5_duel 37 = .ok (.getfield 45, 3) := by decide +kernel
theorem dX5_duel_40 : decode cX5_duel 40 = .ok (.getfield 228, 3) := by decide +kernel
theorem dX5_duel_43 : decode cX5_duel 43 = .ok (.iconst 0, 1) := by decide +kernel
theorem dX5_duel_44 : decode cX5_duel 44 = .ok (.iconst (-1), 1) := by decide +kernel
theorem dX5_duel_45 : decode cX5_duel 45 = .ok (.bipush 13, 2) := by decide +kernel
theorem dX5_duel_47 : decode cX5_duel 47 = .ok (.invokevirtual 231, 3) := by decide +kernel
theorem dX5_duel_50 : decode cX5_duel 50 = .ok (.ireturn, 1) := by decide +kernel
theorem dX5_odds_0 : decode cX5_odds 0 = .ok (.iload_n 1, 1) := by decide +kernel
theorem dX5_odds_1 : decode cX5_odds 1 = .ok (.ifCond .lt 19, 3) := by decide +kernel
theorem dX5_odds_4 : decode cX5_odds 4 = .ok (.iload_n 1, 1) := by decide +kernel
theorem dX5_odds_5 : decode cX5_odds 5 = .ok (.bipush 20, 2) := by decide +kernel
theorem dX5_odds_7 : decode cX5_odds 7 = .ok (.if_icmp .gt 13, 3) := by decide +kernel
theorem dX5_odds_10 : decode cX5_odds 10 = .ok (.iload_n 2, 1) := by decide +kernel
theorem dX5_odds_11 : decode cX5_odds 11 = .ok (.ifCond .lt 9, 3) := by decide +kernel
theorem dX5_odds_14 : decode cX5_odds 14 = .ok (.iload_n 2, 1) := by decide +kernel
theorem dX5_odds_15 : decode cX5_odds 15 = .ok (.bipush 12, 2) := by decide +kernel
theorem dX5_odds_17 : decode cX5_odds 17 = .ok (.if_icmp .le 5, 3) := by decide +kernel
theorem dX5_odds_20 : decode cX5_odds 20 = .ok (.iconst (-1), 1) := by decide +kernel
theorem dX5_odds_21 : decode cX5_odds 21 = .ok (.ireturn, 1) := by decide +kernel
theorem dX5_odds_22 : decode cX5_odds 22 = .ok (.aload_n 0, 1) := by decide +kernel
theorem dX5_odds_23 : decode cX5_odds 23 = .ok (.getfield 31, 3) := by decide +kernel
theorem dX5_odds_26 : decode cX5_odds 26 = .ok (.getfield 45, 3) := by decide +kernel
theorem dX5_odds_29 : decode cX5_odds 29 = .ok (.invokevirtual 163, 3) := by decide +kernel
theorem dX5_odds_32 : decode cX5_odds 32 = .ok (.ifCond .eq 6, 3) := by decide +kernel
theorem dX5_odds_35 : decode cX5_odds 35 = .ok (.bipush (-4), 2) := by decide +kernel
theorem dX5_odds_37 : decode cX5_odds 37 = .ok (.ireturn, 1) := by decide +kernel
theorem dX5_odds_38 : decode cX5_odds 38 = .ok (.aload_n 0, 1) := by decide +kernel
theorem dX5_odds_39 : decode cX5_odds 39 = .ok (.aload_n 0, 1) := by decide +kernel
theorem dX5_odds_40 : decode cX5_odds 40 = .ok (.getfield 52, 3) := by decide +kernel
theorem dX5_odds_43 : decode cX5_odds 43 = .ok (.iload_n 1, 1) := by decide +kernel
theorem dX5_odds_44 : decode cX5_odds 44 = .ok (.iload_n 2, 1) := by decide +kernel
theorem dX5_odds_45 : decode cX5_odds 45 = .ok (.invokevirtual 235, 3) := by decide +kernel
theorem dX5_odds_48 : decode cX5_odds 48 = .ok (.invokevirtual 239, 3) := by decide +kernel
theorem dX5_odds_51 : decode cX5_odds 51 = .ok (.ireturn, 1) := by decide +kernel
theorem dX5_mid_0 : decode cX5_mid 0 = .ok (.iload_n 1, 1) := by decide +kernel
theorem dX5_mid_1 : decode cX5_mid 1 = .ok (.ifCond .lt 9, 3) := by decide +kernel
theorem dX5_mid_4 : decode cX5_mid 4 = .ok (.iload_n 1, 1) := by decide +kernel
theorem dX5_mid_5 : decode cX5_mid 5 = .ok (.bipush 12, 2) := by decide +kernel
theorem dX5_mid_7 : decode cX5_mid 7 = .ok (.if_icmp .le 5, 3) := by decide +kernel
theorem dX5_mid_10 : decode cX5_mid 10 = .ok (.iconst (-1), 1) := by decide +kernel
theorem dX5_mid_11 : decode cX5_mid 11 = .ok (.ireturn, 1) := by decide +kernel
theorem dX5_mid_12 : decode cX5_mid 12 = .ok (.aload_n 0, 1) := by decide +kernel
theorem dX5_mid_13 : decode cX5_mid 13 = .ok (.getfield 31, 3) := by decide +kernel
theorem dX5_mid_16 : decode cX5_mid 16 = .ok (.getfield 45, 3) := by decide +kernel
theorem dX5_mid_19 : decode cX5_mid 19 = .ok (.invokevirtual 163, 3) := by decide +kernel
theorem dX5_mid_22 : decode cX5_mid 22 = .ok (.ifCond .eq 6, 3) := by decide +kernel
theorem dX5_mid_25 : decode cX5_mid 25 = .ok (.bipush (-4), 2) := by decide +kernel
theorem dX5_mid_27 : decode cX5_mid 27 = .ok (.ireturn, 1) := by decide +kernel
theorem dX5_mid_28 : decode cX5_mid 28 = .ok (.aload_n 0, 1) := by decide +kernel
theorem dX5_mid_29 : decode cX5_mid 29 = .ok (.aload_n 0, 1) := by decide +kernel
theorem dX5_mid_30 : decode cX5_mid 30 = .ok (.getfield 52, 3) := by decide +kernel
theorem dX5_mid_33 : decode cX5_mid 33 = .ok (.iload_n 1, 1) := by decide +kernel
theorem dX5_mid_34 : decode cX5_mid 34 = .ok (.invokevirtual 243, 3) := by decide +kernel
theorem dX5_mid_37 : decode cX5_mid 37 = .ok (.invokevirtual 239, 3) := by decide +kernel
theorem dX5_mid_40 : decode cX5_mid 40 = .ok (.ireturn, 1) := by decide +kernel
theorem dX5_lots_0 : decode cX5_lots 0 = .ok (.iload_n 1, 1) := by decide +kernel
theorem dX5_lots_1 : decode cX5_lots 1 = .ok (.iconst 1, 1) := by decide +kernel
theorem dX5_lots_2 : decode cX5_lots 2 = .ok (.if_icmp .lt 23, 3) := by decide +kernel
theorem dX5_lots_5 : decode cX5_lots 5 = .ok (.iload_n 1, 1) := by decide +kernel
theorem dX5_lots_6 : decode cX5_lots 6 = .ok (.bipush 20, 2) := by decide +kernel
theorem dX5_lots_8 : decode cX5_lots 8 = .ok (.if_icmp .gt 17, 3) := by decide +kernel
theorem dX5_lots_11 : decode cX5_lots 11 = .ok (.iload_n 2, 1) := by decide +kernel
theorem dX5_lots_12 : decode cX5_lots 12 = .ok (.iconst 1, 1) := by decide +kernel
theorem dX5_lots_13 : decode cX5_lots 13 = .ok (.if_icmp .lt 12, 3) := by decide +kernel
theorem dX5_lots_16 : decode cX5_lots 16 = .ok (.iload_n 2, 1) := by decide +kernel
theorem dX5_lots_17 : decode cX5_lots 17 = .ok (.i2l, 1) := by decide +kernel
theorem dX5_lots_18 : decode cX5_lots 18 = .ok (.ldc2_w 246, 3) := by decide +kernel
theorem dX5_lots_21 : decode cX5_lots 21 = .ok (.lcmp, 1) := by decide +kernel
theorem dX5_lots_22 : decode cX5_lots 22 = .ok (.ifCond .lt 5, 3) := by decide +kernel
theorem dX5_lots_25 : decode cX5_lots 25 = .ok (.iconst (-1), 1) := by decide +kernel
theorem dX5_lots_26 : decode cX5_lots 26 = .ok (.ireturn, 1) := by decide +kernel
theorem dX5_lots_27 : decode cX5_lots 27 = .ok (.aload_n 0, 1) := by decide +kernel
theorem dX5_lots_28 : decode cX5_lots 28 = .ok (.getfield 31, 3) := by decide +kernel
theorem dX5_lots_31 : decode cX5_lots 31 = .ok (.getfield 45, 3) := by decide +kernel
theorem dX5_lots_34 : decode cX5_lots 34 = .ok (.invokevirtual 163, 3) := by decide +kernel
theorem dX5_lots_37 : decode cX5_lots 37 = .ok (.ifCond .eq 6, 3) := by decide +kernel
theorem dX5_lots_40 : decode cX5_lots 40 = .ok (.bipush (-4), 2) := by decide +kernel
theorem dX5_lots_42 : decode cX5_lots 42 = .ok (.ireturn, 1) := by decide +kernel
theorem dX5_lots_43 : decode cX5_lots 43 = .ok (.aload_n 0, 1) := by decide +kernel
theorem dX5_lots_44 : decode cX5_lots 44 = .ok (.getfield 31, 3) := by decide +kernel
theorem dX5_lots_47 : decode cX5_lots 47 = .ok (.getfield 39, 3) := by decide +kernel
theorem dX5_lots_50 : decode cX5_lots 50 = .ok (.iload_n 1, 1) := by decide +kernel
theorem dX5_lots_51 : decode cX5_lots 51 = .ok (.iadd, 1) := by decide +kernel
theorem dX5_lots_52 : decode cX5_lots 52 = .ok (.bipush 40, 2) := by decide +kernel
theorem dX5_lots_54 : decode cX5_lots 54 = .ok (.if_icmp .le 6, 3) := by decide +kernel
theorem dX5_lots_57 : decode cX5_lots 57 = .ok (.bipush (-2), 2) := by decide +kernel
theorem dX5_lots_59 : decode cX5_lots 59 = .ok (.ireturn, 1) := by decide +kernel
theorem dX5_lots_60 : decode cX5_lots 60 = .ok (.iload_n 2, 1) := by decide +kernel
theorem dX5_lots_61 : decode cX5_lots 61 = .ok (.i2l, 1) := by decide +kernel
theorem dX5_lots_62 : decode cX5_lots 62 = .ok (.lstore_n 3, 1) := by decide +kernel
theorem dX5_lots_63 : decode cX5_lots 63 = .ok (.iconst 0, 1) := by decide +kernel
theorem dX5_lots_64 : decode cX5_lots 64 = .ok (.istore 5, 2) := by decide +kernel
theorem dX5_lots_66 : decode cX5_lots 66 = .ok (.iload 5, 2) := by decide +kernel
theorem dX5_lots_68 : decode cX5_lots 68 = .ok (.iload_n 1, 1) := by decide +kernel
theorem dX5_lots_69 : decode cX5_lots 69 = .ok (.if_icmp .ge 24, 3) := by decide +kernel
theorem dX5_lots_72 : decode cX5_lots 72 = .ok (.lload_n 3, 1) := by decide +kernel
theorem dX5_lots_73 : decode cX5_lots 73 = .ok (.ldc2_w 248, 3) := by decide +kernel
theorem dX5_lots_76 : decode cX5_lots 76 = .ok (.lmul, 1) := by decide +kernel
theorem dX5_lots_77 : decode cX5_lots 77 = .ok (.ldc2_w 246, 3) := by decide +kernel
theorem dX5_lots_80 : decode cX5_lots 80 = .ok (.lrem, 1) := by decide +kernel
theorem dX5_lots_81 : decode cX5_lots 81 = .ok (.lstore_n 3, 1) := by decide +kernel
theorem dX5_lots_82 : decode cX5_lots 82 = .ok (.aload_n 0, 1) := by decide +kernel
theorem dX5_lots_83 : decode cX5_lots 83 = .ok (.lload_n 3, 1) := by decide +kernel
theorem dX5_lots_84 : decode cX5_lots 84 = .ok (.invokevirtual 250, 3) := by decide +kernel
theorem dX5_lots_87 : decode cX5_lots 87 = .ok (.iinc 5 1, 3) := by decide +kernel
theorem dX5_lots_90 : decode cX5_lots 90 = .ok (.goto (-24), 3) := by decide +kernel
theorem dX5_lots_93 : decode cX5_lots 93 = .ok (.aload_n 0, 1) := by decide +kernel
theorem dX5_lots_94 : decode cX5_lots 94 = .ok (.getfield 31, 3) := by decide +kernel
theorem dX5_lots_97 : decode cX5_lots 97 = .ok (.getfield 45, 3) := by decide +kernel
theorem dX5_lots_100 : decode cX5_lots 100 = .ok (.getfield 254, 3) := by decide +kernel
theorem dX5_lots_103 : decode cX5_lots 103 = .ok (.ireturn, 1) := by decide +kernel
theorem dX5_asked_0 : decode cX5_asked 0 = .ok (.aload_n 0, 1) := by decide +kernel
theorem dX5_asked_1 : decode cX5_asked 1 = .ok (.getfield 257, 3) := by decide +kernel
theorem dX5_asked_4 : decode cX5_asked 4 = .ok (.ireturn, 1) := by decide +kernel
theorem dX5_upper_0 : decode cX5_upper 0 = .ok (.aload_n 0, 1) := by decide +kernel
theorem dX5_upper_1 : decode cX5_upper 1 = .ok (.getfield 260, 3) := by decide +kernel
theorem dX5_upper_4 : decode cX5_upper 4 = .ok (.lreturn, 1) := by decide +kernel
theorem dX5_lower_0 : decode cX5_lower 0 = .ok (.aload_n 0, 1) := by decide +kernel
theorem dX5_lower_1 : decode cX5_lower 1 = .ok (.getfield 60, 3) := by decide +kernel
theorem dX5_lower_4 : decode cX5_lower 4 = .ok (.lreturn, 1) := by decide +kernel
theorem dX5_count_0 : decode cX5_count 0 = .ok (.iload_n 1, 1) := by decide +kernel
theorem dX5_count_1 : decode cX5_count 1 = .ok (.ifCond .lt 9, 3) := by decide +kernel
theorem dX5_count_4 : decode cX5_count 4 = .ok (.iload_n 1, 1) := by decide +kernel
theorem dX5_count_5 : decode cX5_count 5 = .ok (.bipush 12, 2) := by decide +kernel
theorem dX5_count_7 : decode cX5_count 7 = .ok (.if_icmp .le 7, 3) := by decide +kernel
theorem dX5_count_10 : decode cX5_count 10 = .ok (.iconst (-1), 1) := by decide +kernel
theorem dX5_count_11 : decode cX5_count 11 = .ok (.goto 8, 3) := by decide +kernel
theorem dX5_count_14 : decode cX5_count 14 = .ok (.aload_n 0, 1) := by decide +kernel
theorem dX5_count_15 : decode cX5_count 15 = .ok (.iload_n 1, 1) := by decide +kernel
theorem dX5_count_16 : decode cX5_count 16 = .ok (.invokevirtual 263, 3) := by decide +kernel
theorem dX5_count_19 : decode cX5_count 19 = .ok (.ireturn, 1) := by decide +kernel
theorem dX5_finding_0 : decode cX5_finding 0 = .ok (.aload_n 0, 1) := by decide +kernel
theorem dX5_finding_1 : decode cX5_finding 1 = .ok (.getfield 266, 3) := by decide +kernel
theorem dX5_finding_4 : decode cX5_finding 4 = .ok (.ireturn, 1) := by decide +kernel
theorem dX5_findings_0 : decode cX5_findings 0 = .ok (.iload_n 1, 1) := by decide +kernel
theorem dX5_findings_1 : decode cX5_findings 1 = .ok (.iconst 1, 1) := by decide +kernel
theorem dX5_findings_2 : decode cX5_findings 2 = .ok (.if_icmp .lt 8, 3) := by decide +kernel
theorem dX5_findings_5 : decode cX5_findings 5 = .ok (.iload_n 1, 1) := by decide +kernel
theorem dX5_findings_6 : decode cX5_findings 6 = .ok (.iconst 5, 1) := by decide +kernel
theorem dX5_findings_7 : decode cX5_findings 7 = .ok (.if_icmp .le 7, 3) := by decide +kernel
theorem dX5_findings_10 : decode cX5_findings 10 = .ok (.iconst (-1), 1) := by decide +kernel
theorem dX5_findings_11 : decode cX5_findings 11 = .ok (.goto 9, 3) := by decide +kernel
theorem dX5_findings_14 : decode cX5_findings 14 = .ok (.aload_n 0, 1) := by decide +kernel
theorem dX5_findings_15 : decode cX5_findings 15 = .ok (.getfield 56, 3) := by decide +kernel
theorem dX5_findings_18 : decode cX5_findings 18 = .ok (.iload_n 1, 1) := by decide +kernel
theorem dX5_findings_19 : decode cX5_findings 19 = .ok (.iaload, 1) := by decide +kernel
theorem dX5_findings_20 : decode cX5_findings 20 = .ok (.ireturn, 1) := by decide +kernel
theorem dX5_digest_0 : decode cX5_digest 0 = .ok (.ldc2_w 269, 3) := by decide +kernel
theorem dX5_digest_3 : decode cX5_digest 3 = .ok (.lstore_n 1, 1) := by decide +kernel
theorem dX5_digest_4 : decode cX5_digest 4 = .ok (.iconst 0, 1) := by decide +kernel
theorem dX5_digest_5 : decode cX5_digest 5 = .ok (.istore_n 3, 1) := by decide +kernel
theorem dX5_digest_6 : decode cX5_digest 6 = .ok (.iload_n 3, 1) := by decide +kernel
theorem dX5_digest_7 : decode cX5_digest 7 = .ok (.bipush 12, 2) := by decide +kernel
theorem dX5_digest_9 : decode cX5_digest 9 = .ok (.if_icmp .gt 22, 3) := by decide +kernel
theorem dX5_digest_12 : decode cX5_digest 12 = .ok (.ldc2_w 271, 3) := by decide +kernel
theorem dX5_digest_15 : decode cX5_digest 15 = .ok (.lload_n 1, 1) := by decide +kernel
theorem dX5_digest_16 : decode cX5_digest 16 = .ok (.lmul, 1) := by decide +kernel
theorem dX5_digest_17 : decode cX5_digest 17 = .ok (.aload_n 0, 1) := by decide +kernel
theorem dX5_digest_18 : decode cX5_digest 18 = .ok (.iload_n 3, 1) := by decide +kernel
theorem dX5_digest_19 : decode cX5_digest 19 = .ok (.invokevirtual 263, 3) := by decide +kernel
theorem dX5_digest_22 : decode cX5_digest 22 = .ok (.i2l, 1) := by decide +kernel
theorem dX5_digest_23 : decode cX5_digest 23 = .ok (.ladd, 1) := by decide +kernel
theorem dX5_digest_24 : decode cX5_digest 24 = .ok (.lstore_n 1, 1) := by decide +kernel
theorem dX5_digest_25 : decode cX5_digest 25 = .ok (.iinc 3 1, 3) := by decide +kernel
theorem dX5_digest_28 : decode cX5_digest 28 = .ok (.goto (-22), 3) := by decide +kernel
theorem dX5_digest_31 : decode cX5_digest 31 = .ok (.aload_n 0, 1) := by decide +kernel
theorem dX5_digest_32 : decode cX5_digest 32 = .ok (.getfield 31, 3) := by decide +kernel
theorem dX5_digest_35 : decode cX5_digest 35 = .ok (.getfield 45, 3) := by decide +kernel
theorem dX5_digest_38 : decode cX5_digest 38 = .ok (.lload_n 1, 1) := by decide +kernel
theorem dX5_digest_39 : decode cX5_digest 39 = .ok (.invokevirtual 273, 3) := by decide +kernel
theorem dX5_digest_42 : decode cX5_digest 42 = .ok (.lstore_n 1, 1) := by decide +kernel
theorem dX5_digest_43 : decode cX5_digest 43 = .ok (.iconst 0, 1) := by decide +kernel
theorem dX5_digest_44 : decode cX5_digest 44 = .ok (.istore_n 3, 1) := by decide +kernel
theorem dX5_digest_45 : decode cX5_digest 45 = .ok (.iload_n 3, 1) := by decide +kernel
theorem dX5_digest_46 : decode cX5_digest 46 = .ok (.iconst 3, 1) := by decide +kernel
theorem dX5_digest_47 : decode cX5_digest 47 = .ok (.if_icmp .ge 26, 3) := by decide +kernel
theorem dX5_digest_50 : decode cX5_digest 50 = .ok (.ldc2_w 271, 3) := by decide +kernel
theorem dX5_digest_53 : decode cX5_digest 53 = .ok (.lload_n 1, 1) := by decide +kernel
theorem dX5_digest_54 : decode cX5_digest 54 = .ok (.lmul, 1) := by decide +kernel
theorem dX5_digest_55 : decode cX5_digest 55 = .ok (.aload_n 0, 1) := by decide +kernel
theorem dX5_digest_56 : decode cX5_digest 56 = .ok (.getfield 35, 3) := by decide +kernel
theorem dX5_digest_59 : decode cX5_digest 59 = .ok (.iload_n 3, 1) := by decide +kernel
theorem dX5_digest_60 : decode cX5_digest 60 = .ok (.aaload, 1) := by decide +kernel
theorem dX5_digest_61 : decode cX5_digest 61 = .ok (.getfield 39, 3) := by decide +kernel
theorem dX5_digest_64 : decode cX5_digest 64 = .ok (.i2l, 1) := by decide +kernel
theorem dX5_digest_65 : decode cX5_digest 65 = .ok (.ladd, 1) := by decide +kernel
theorem dX5_digest_66 : decode cX5_digest 66 = .ok (.lstore_n 1, 1) := by decide +kernel
theorem dX5_digest_67 : decode cX5_digest 67 = .ok (.iinc 3 1, 3) := by decide +kernel
theorem dX5_digest_70 : decode cX5_digest 70 = .ok (.goto (-25), 3) := by decide +kernel
theorem dX5_digest_73 : decode cX5_digest 73 = .ok (.aload_n 0, 1) := by decide +kernel
theorem dX5_digest_74 : decode cX5_digest 74 = .ok (.getfield 18, 3) := by decide +kernel
theorem dX5_digest_77 : decode cX5_digest 77 = .ok (.aload_n 0, 1) := by decide +kernel
theorem dX5_digest_78 : decode cX5_digest 78 = .ok (.getfield 14, 3) := by decide +kernel
theorem dX5_digest_81 : decode cX5_digest 81 = .ok (.lload_n 1, 1) := by decide +kernel
theorem dX5_digest_82 : decode cX5_digest 82 = .ok (.invokevirtual 277, 3) := by decide +kernel
theorem dX5_digest_85 : decode cX5_digest 85 = .ok (.invokevirtual 277, 3) := by decide +kernel
theorem dX5_digest_88 : decode cX5_digest 88 = .ok (.lreturn, 1) := by decide +kernel
theorem dX5_refuse_0 : decode cX5_refuse 0 = .ok (.aload_n 0, 1) := by decide +kernel
theorem dX5_refuse_1 : decode cX5_refuse 1 = .ok (.iload_n 1, 1) := by decide +kernel
theorem dX5_refuse_2 : decode cX5_refuse 2 = .ok (.putfield 266, 3) := by decide +kernel
theorem dX5_refuse_5 : decode cX5_refuse 5 = .ok (.aload_n 0, 1) := by decide +kernel
theorem dX5_refuse_6 : decode cX5_refuse 6 = .ok (.getfield 56, 3) := by decide +kernel
theorem dX5_refuse_9 : decode cX5_refuse 9 = .ok (.iload_n 1, 1) := by decide +kernel
theorem dX5_refuse_10 : decode cX5_refuse 10 = .ok (.dup2, 1) := by decide +kernel
theorem dX5_refuse_11 : decode cX5_refuse 11 = .ok (.iaload, 1) := by decide +kernel
theorem dX5_refuse_12 : decode cX5_refuse 12 = .ok (.iconst 1, 1) := by decide +kernel
theorem dX5_refuse_13 : decode cX5_refuse 13 = .ok (.iadd, 1) := by decide +kernel
theorem dX5_refuse_14 : decode cX5_refuse 14 = .ok (.iastore, 1) := by decide +kernel
theorem dX5_refuse_15 : decode cX5_refuse 15 = .ok (.bipush (-3), 2) := by decide +kernel
theorem dX5_refuse_17 : decode cX5_refuse 17 = .ok (.ireturn, 1) := by decide +kernel
theorem dX5_refuseMissing_0 : decode cX5_refuseMissing 0 = .ok (.aload_n 1, 1) := by decide +kernel
theorem dX5_refuseMissing_1 : decode cX5_refuseMissing 1 = .ok (.iload_n 2, 1) := by decide +kernel
theorem dX5_refuseMissing_2 : decode cX5_refuseMissing 2 = .ok (.invokevirtual 92, 3) := by decide +kernel
theorem dX5_refuseMissing_5 : decode cX5_refuseMissing 5 = .ok (.ifCond .ne 5, 3) := by decide +kernel
theorem dX5_refuseMissing_8 : decode cX5_refuseMissing 8 = .ok (.iconst (-1), 1) := by decide +kernel
theorem dX5_refuseMissing_9 : decode cX5_refuseMissing 9 = .ok (.ireturn, 1) := by decide +kernel
theorem dX5_refuseMissing_10 : decode cX5_refuseMissing 10 = .ok (.aload_n 1, 1) := by decide +kernel
theorem dX5_refuseMissing_11 : decode cX5_refuseMissing 11 = .ok (.iload_n 2, 1) := by decide +kernel
theorem dX5_refuseMissing_12 : decode cX5_refuseMissing 12 = .ok (.invokevirtual 99, 3) := by decide +kernel
theorem dX5_refuseMissing_15 : decode cX5_refuseMissing 15 = .ok (.ifCond .eq 11, 3) := by decide +kernel
theorem dX5_refuseMissing_18 : decode cX5_refuseMissing 18 = .ok (.aload_n 0, 1) := by decide +kernel
theorem dX5_refuseMissing_19 : decode cX5_refuseMissing 19 = .ok (.iconst 1, 1) := by decide +kernel
theorem dX5_refuseMissing_20 : decode cX5_refuseMissing 20 = .ok (.invokevirtual 96, 3) := by decide +kernel
theorem dX5_refuseMissing_23 : decode cX5_refuseMissing 23 = .ok (.goto 4, 3) := by decide +kernel
theorem dX5_refuseMissing_26 : decode cX5_refuseMissing 26 = .ok (.iconst 0, 1) := by decide +kernel
theorem dX5_refuseMissing_27 : decode cX5_refuseMissing 27 = .ok (.ireturn, 1) := by decide +kernel
theorem dX5_refusePlace_0 : decode cX5_refusePlace 0 = .ok (.aload_n 0, 1) := by decide +kernel
theorem dX5_refusePlace_1 : decode cX5_refusePlace 1 = .ok (.aload_n 1, 1) := by decide +kernel
theorem dX5_refusePlace_2 : decode cX5_refusePlace 2 = .ok (.iload_n 2, 1) := by decide +kernel
theorem dX5_refusePlace_3 : decode cX5_refusePlace 3 = .ok (.invokevirtual 84, 3) := by decide +kernel
theorem dX5_refusePlace_6 : decode cX5_refusePlace 6 = .ok (.istore 4, 2) := by decide +kernel
theorem dX5_refusePlace_8 : decode cX5_refusePlace 8 = .ok (.iload 4, 2) := by decide +kernel
theorem dX5_refusePlace_10 : decode cX5_refusePlace 10 = .ok (.ifCond .eq 6, 3) := by decide +kernel
theorem dX5_refusePlace_13 : decode cX5_refusePlace 13 = .ok (.iload 4, 2) := by decide +kernel
theorem dX5_refusePlace_15 : decode cX5_refusePlace 15 = .ok (.ireturn, 1) := by decide +kernel
theorem dX5_refusePlace_16 : decode cX5_refusePlace 16 = .ok (.aload_n 1, 1) := by decide +kernel
theorem dX5_refusePlace_17 : decode cX5_refusePlace 17 = .ok (.iload_n 2, 1) := by decide +kernel
theorem dX5_refusePlace_18 : decode cX5_refusePlace 18 = .ok (.iload_n 3, 1) := by decide +kernel
theorem dX5_refusePlace_19 : decode cX5_refusePlace 19 = .ok (.invokevirtual 278, 3) := by decide +kernel
theorem dX5_refusePlace_22 : decode cX5_refusePlace 22 = .ok (.ifCond .eq 7, 3) := by decide +kernel
theorem dX5_refusePlace_25 : decode cX5_refusePlace 25 = .ok (.iconst 0, 1) := by decide +kernel
theorem dX5_refusePlace_26 : decode cX5_refusePlace 26 = .ok (.goto 8, 3) := by decide +kernel
theorem dX5_refusePlace_29 : decode cX5_refusePlace 29 = .ok (.aload_n 0, 1) := by decide +kernel
theorem dX5_refusePlace_30 : decode cX5_refusePlace 30 = .ok (.iconst 2, 1) := by decide +kernel
theorem dX5_refusePlace_31 : decode cX5_refusePlace 31 = .ok (.invokevirtual 96, 3) := by decide +kernel
theorem dX5_refusePlace_34 : decode cX5_refusePlace 34 = .ok (.ireturn, 1) := by decide +kernel
theorem dX5_refuseLimps_0 : decode cX5_refuseLimps 0 = .ok (.aload_n 0, 1) := by decide +kernel
theorem dX5_refuseLimps_1 : decode cX5_refuseLimps 1 = .ok (.getfield 14, 3) := by decide +kernel
theorem dX5_refuseLimps_4 : decode cX5_refuseLimps 4 = .ok (.iload_n 1, 1) := by decide +kernel
theorem dX5_refuseLimps_5 : decode cX5_refuseLimps 5 = .ok (.invokevirtual 99, 3) := by decide +kernel
theorem dX5_refuseLimps_8 : decode cX5_refuseLimps 8 = .ok (.ifCond .eq 9, 3) := by decide +kernel
theorem dX5_refuseLimps_11 : decode cX5_refuseLimps 11 = .ok (.aload_n 0, 1) := by decide +kernel
theorem dX5_refuseLimps_12 : decode cX5_refuseLimps 12 = .ok (.iconst 1, 1) := by decide +kernel
theorem dX5_refuseLimps_13 : decode cX5_refuseLimps 13 = .ok (.invokevirtual 96, 3) := by decide +kernel
theorem dX5_refuseLimps_16 : decode cX5_refuseLimps 16 = .ok (.ireturn, 1) := by decide +kernel
theorem dX5_refuseLimps_17 : decode cX5_refuseLimps 17 = .ok (.aload_n 0, 1) := by decide +kernel
theorem dX5_refuseLimps_18 : decode cX5_refuseLimps 18 = .ok (.getfield 14, 3) := by decide +kernel
theorem dX5_refuseLimps_21 : decode cX5_refuseLimps 21 = .ok (.iload_n 1, 1) := by decide +kernel
theorem dX5_refuseLimps_22 : decode cX5_refuseLimps 22 = .ok (.invokevirtual 110, 3) := by decide +kernel
theorem dX5_refuseLimps_25 : decode cX5_refuseLimps 25 = .ok (.iconst 1, 1) := by decide +kernel
theorem dX5_refuseLimps_26 : decode cX5_refuseLimps 26 = .ok (.if_icmp .lt 16, 3) := by decide +kernel
theorem dX5_refuseLimps_29 : decode cX5_refuseLimps 29 = .ok (.aload_n 0, 1) := by decide +kernel
theorem dX5_refuseLimps_30 : decode cX5_refuseLimps 30 = .ok (.getfield 14, 3) := by decide +kernel
theorem dX5_refuseLimps_33 : decode cX5_refuseLimps 33 = .ok (.iload_n 1, 1) := by decide +kernel
theorem dX5_refuseLimps_34 : decode cX5_refuseLimps 34 = .ok (.invokevirtual 110, 3) := by decide +kernel
theorem dX5_refuseLimps_37 : decode cX5_refuseLimps 37 = .ok (.bipush 20, 2) := by decide +kernel
theorem dX5_refuseLimps_39 : decode cX5_refuseLimps 39 = .ok (.if_icmp .le 9, 3) := by decide +kernel
theorem dX5_refuseLimps_42 : decode cX5_refuseLimps 42 = .ok (.aload_n 0, 1) := by decide +kernel
theorem dX5_refuseLimps_43 : decode cX5_refuseLimps 43 = .ok (.iconst 5, 1) := by decide +kernel
theorem dX5_refuseLimps_44 : decode cX5_refuseLimps 44 = .ok (.invokevirtual 96, 3) := by decide +kernel
theorem dX5_refuseLimps_47 : decode cX5_refuseLimps 47 = .ok (.ireturn, 1) := by decide +kernel
theorem dX5_refuseLimps_48 : decode cX5_refuseLimps 48 = .ok (.aload_n 0, 1) := by decide +kernel
theorem dX5_refuseLimps_49 : decode cX5_refuseLimps 49 = .ok (.getfield 14, 3) := by decide +kernel
theorem dX5_refuseLimps_52 : decode cX5_refuseLimps 52 = .ok (.iload_n 1, 1) := by decide +kernel
theorem dX5_refuseLimps_53 : decode cX5_refuseLimps 53 = .ok (.invokevirtual 281, 3) := by decide +kernel
theorem dX5_refuseLimps_56 : decode cX5_refuseLimps 56 = .ok (.ifCond .eq 7, 3) := by decide +kernel
theorem dX5_refuseLimps_59 : decode cX5_refuseLimps 59 = .ok (.iconst 0, 1) := by decide +kernel
theorem dX5_refuseLimps_60 : decode cX5_refuseLimps 60 = .ok (.goto 8, 3) := by decide +kernel
theorem dX5_refuseLimps_63 : decode cX5_refuseLimps 63 = .ok (.aload_n 0, 1) := by decide +kernel
theorem dX5_refuseLimps_64 : decode cX5_refuseLimps 64 = .ok (.iconst 3, 1) := by decide +kernel
theorem dX5_refuseLimps_65 : decode cX5_refuseLimps 65 = .ok (.invokevirtual 96, 3) := by decide +kernel
theorem dX5_refuseLimps_68 : decode cX5_refuseLimps 68 = .ok (.ireturn, 1) := by decide +kernel
theorem dX5_refuseGuess_0 : decode cX5_refuseGuess 0 = .ok (.aload_n 0, 1) := by decide +kernel
theorem dX5_refuseGuess_1 : decode cX5_refuseGuess 1 = .ok (.getfield 31, 3) := by decide +kernel
theorem dX5_refuseGuess_4 : decode cX5_refuseGuess 4 = .ok (.getfield 45, 3) := by decide +kernel
theorem dX5_refuseGuess_7 : decode cX5_refuseGuess 7 = .ok (.iload_n 1, 1) := by decide +kernel
theorem dX5_refuseGuess_8 : decode cX5_refuseGuess 8 = .ok (.invokevirtual 136, 3) := by decide +kernel
theorem dX5_refuseGuess_11 : decode cX5_refuseGuess 11 = .ok (.ifCond .eq 22, 3) := by decide +kernel
theorem dX5_refuseGuess_14 : decode cX5_refuseGuess 14 = .ok (.aload_n 0, 1) := by decide +kernel
theorem dX5_refuseGuess_15 : decode cX5_refuseGuess 15 = .ok (.getfield 14, 3) := by decide +kernel
theorem dX5_refuseGuess_18 : decode cX5_refuseGuess 18 = .ok (.iload_n 2, 1) := by decide +kernel
theorem dX5_refuseGuess_19 : decode cX5_refuseGuess 19 = .ok (.invokevirtual 92, 3) := by decide +kernel
theorem dX5_refuseGuess_22 : decode cX5_refuseGuess 22 = .ok (.ifCond .eq 11, 3) := by decide +kernel
theorem dX5_refuseGuess_25 : decode cX5_refuseGuess 25 = .ok (.aload_n 0, 1) := by decide +kernel
theorem dX5_refuseGuess_26 : decode cX5_refuseGuess 26 = .ok (.iload_n 2, 1) := by decide +kernel
theorem dX5_refuseGuess_27 : decode cX5_refuseGuess 27 = .ok (.invokevirtual 209, 3) := by decide +kernel
theorem dX5_refuseGuess_30 : decode cX5_refuseGuess 30 = .ok (.goto 4, 3) := by decide +kernel
theorem dX5_refuseGuess_33 : decode cX5_refuseGuess 33 = .ok (.iconst (-1), 1) := by decide +kernel
theorem dX5_refuseGuess_34 : decode cX5_refuseGuess 34 = .ok (.ireturn, 1) := by decide +kernel
theorem dX5_makeAnew_0 : decode cX5_makeAnew 0 = .ok (.aload_n 1, 1) := by decide +kernel
theorem dX5_makeAnew_1 : decode cX5_makeAnew 1 = .ok (.iload_n 2, 1) := by decide +kernel
theorem dX5_makeAnew_2 : decode cX5_makeAnew 2 = .ok (.invokevirtual 92, 3) := by decide +kernel
theorem dX5_makeAnew_5 : decode cX5_makeAnew 5 = .ok (.ifCond .eq 11, 3) := by decide +kernel
theorem dX5_makeAnew_8 : decode cX5_makeAnew 8 = .ok (.iload_n 3, 1) := by decide +kernel
theorem dX5_makeAnew_9 : decode cX5_makeAnew 9 = .ok (.aload_n 1, 1) := by decide +kernel
theorem dX5_makeAnew_10 : decode cX5_makeAnew 10 = .ok (.getfield 284, 3) := by decide +kernel
theorem dX5_makeAnew_13 : decode cX5_makeAnew 13 = .ok (.if_icmp .le 5, 3) := by decide +kernel
theorem dX5_makeAnew_16 : decode cX5_makeAnew 16 = .ok (.iconst (-1), 1) := by decide +kernel
theorem dX5_makeAnew_17 : decode cX5_makeAnew 17 = .ok (.ireturn, 1) := by decide +kernel
theorem dX5_makeAnew_18 : decode cX5_makeAnew 18 = .ok (.iload_n 3, 1) := by decide +kernel
theorem dX5_makeAnew_19 : decode cX5_makeAnew 19 = .ok (.ifCond .ge 9, 3) := by decide +kernel
theorem dX5_makeAnew_22 : decode cX5_makeAnew 22 = .ok (.aload_n 0, 1) := by decide +kernel
theorem dX5_makeAnew_23 : decode cX5_makeAnew 23 = .ok (.iconst 5, 1) := by decide +kernel
theorem dX5_makeAnew_24 : decode cX5_makeAnew 24 = .ok (.invokevirtual 96, 3) := by decide +kernel
theorem dX5_makeAnew_27 : decode cX5_makeAnew 27 = .ok (.ireturn, 1) := by decide +kernel
theorem dX5_makeAnew_28 : decode cX5_makeAnew 28 = .ok (.aload_n 1, 1) := by decide +kernel
theorem dX5_makeAnew_29 : decode cX5_makeAnew 29 = .ok (.iload_n 2, 1) := by decide +kernel
theorem dX5_makeAnew_30 : decode cX5_makeAnew 30 = .ok (.iload_n 3, 1) := by decide +kernel
theorem dX5_makeAnew_31 : decode cX5_makeAnew 31 = .ok (.iload 4, 2) := by decide +kernel
theorem dX5_makeAnew_33 : decode cX5_makeAnew 33 = .ok (.invokevirtual 193, 3) := by decide +kernel
theorem dX5_makeAnew_36 : decode cX5_makeAnew 36 = .ok (.iload_n 3, 1) := by decide +kernel
theorem dX5_makeAnew_37 : decode cX5_makeAnew 37 = .ok (.ireturn, 1) := by decide +kernel
theorem dX5_tell_0 : decode cX5_tell 0 = .ok (.aload_n 0, 1) := by decide +kernel
theorem dX5_tell_1 : decode cX5_tell 1 = .ok (.iload_n 1, 1) := by decide +kernel
theorem dX5_tell_2 : decode cX5_tell 2 = .ok (.putfield 257, 3) := by decide +kernel
theorem dX5_tell_5 : decode cX5_tell 5 = .ok (.iconst 1, 1) := by decide +kernel
theorem dX5_tell_6 : decode cX5_tell 6 = .ok (.ireturn, 1) := by decide +kernel
theorem dX5_tellBeside_0 : decode cX5_tellBeside 0 = .ok (.iload_n 1, 1) := by decide +kernel
theorem dX5_tellBeside_1 : decode cX5_tellBeside 1 = .ok (.bipush (-9), 2) := by decide +kernel
theorem dX5_tellBeside_3 : decode cX5_tellBeside 3 = .ok (.if_icmp .eq 14, 3) := by decide +kernel
theorem dX5_tellBeside_6 : decode cX5_tellBeside 6 = .ok (.aload_n 0, 1) := by decide +kernel
theorem dX5_tellBeside_7 : decode cX5_tellBeside 7 = .ok (.aload_n 0, 1) := by decide +kernel
theorem dX5_tellBeside_8 : decode cX5_tellBeside 8 = .ok (.getfield 52, 3) := by decide +kernel
theorem dX5_tellBeside_11 : decode cX5_tellBeside 11 = .ok (.getfield 287, 3) := by decide +kernel
theorem dX5_tellBeside_14 : decode cX5_tellBeside 14 = .ok (.putfield 257, 3) := by decide +kernel
theorem dX5_tellBeside_17 : decode cX5_tellBeside 17 = .ok (.iload_n 1, 1) := by decide +kernel
theorem dX5_tellBeside_18 : decode cX5_tellBeside 18 = .ok (.ireturn, 1) := by decide +kernel
theorem dX5_tellShare_0 : decode cX5_tellShare 0 = .ok (.ldc2_w 290, 3) := by decide +kernel
theorem dX5_tellShare_3 : decode cX5_tellShare 3 = .ok (.aload_n 0, 1) := by decide +kernel
theorem dX5_tellShare_4 : decode cX5_tellShare 4 = .ok (.getfield 31, 3) := by decide +kernel
theorem dX5_tellShare_7 : decode cX5_tellShare 7 = .ok (.getfield 45, 3) := by decide +kernel
theorem dX5_tellShare_10 : decode cX5_tellShare 10 = .ok (.getfield 228, 3) := by decide +kernel
theorem dX5_tellShare_13 : decode cX5_tellShare 13 = .ok (.invokestatic 292, 3) := by decide +kernel
theorem dX5_tellShare_16 : decode cX5_tellShare 16 = .ok (.invokestatic 297, 3) := by decide +kernel
theorem dX5_tellShare_19 : decode cX5_tellShare 19 = .ok (.lstore_n 3, 1) := by decide +kernel
theorem dX5_tellShare_20 : decode cX5_tellShare 20 = .ok (.lload_n 1, 1) := by decide +kernel
theorem dX5_tellShare_21 : decode cX5_tellShare 21 = .ok (.lload_n 3, 1) := by decide +kernel
theorem dX5_tellShare_22 : decode cX5_tellShare 22 = .ok (.invokestatic 301, 3) := by decide +kernel
theorem dX5_tellShare_25 : decode cX5_tellShare 25 = .ok (.lstore 5, 2) := by decide +kernel
theorem dX5_tellShare_27 : decode cX5_tellShare 27 = .ok (.lload 5, 2) := by decide +kernel
theorem dX5_tellShare_29 : decode cX5_tellShare 29 = .ok (.lconst 0, 1) := by decide +kernel
theorem dX5_tellShare_30 : decode cX5_tellShare 30 = .ok (.lcmp, 1) := by decide +kernel
theorem dX5_tellShare_31 : decode cX5_tellShare 31 = .ok (.ifCond .le 19, 3) := by decide +kernel
theorem dX5_tellShare_34 : decode cX5_tellShare 34 = .ok (.aload_n 0, 1) := by decide +kernel
theorem dX5_tellShare_35 : decode cX5_tellShare 35 = .ok (.lload_n 1, 1) := by decide +kernel
theorem dX5_tellShare_36 : decode cX5_tellShare 36 = .ok (.lload 5, 2) := by decide +kernel
theorem dX5_tellShare_38 : decode cX5_tellShare 38 = .ok (.ldiv, 1) := by decide +kernel
theorem dX5_tellShare_39 : decode cX5_tellShare 39 = .ok (.putfield 260, 3) := by decide +kernel
theorem dX5_tellShare_42 : decode cX5_tellShare 42 = .ok (.aload_n 0, 1) := by decide +kernel
theorem dX5_tellShare_43 : decode cX5_tellShare 43 = .ok (.lload_n 3, 1) := by decide +kernel
theorem dX5_tellShare_44 : decode cX5_tellShare 44 = .ok (.lload 5, 2) := by decide +kernel
theorem dX5_tellShare_46 : decode cX5_tellShare 46 = .ok (.ldiv, 1) := by decide +kernel
theorem dX5_tellShare_47 : decode cX5_tellShare 47 = .ok (.putfield 60, 3) := by decide +kernel
theorem dX5_tellShare_50 : decode cX5_tellShare 50 = .ok (.iconst 1, 1) := by decide +kernel
theorem dX5_tellShare_51 : decode cX5_tellShare 51 = .ok (.ireturn, 1) := by decide +kernel
theorem dX5_doDeed_0 : decode cX5_doDeed 0 = .ok (.aload_n 0, 1) := by decide +kernel
theorem dX5_doDeed_1 : decode cX5_doDeed 1 = .ok (.getfield 31, 3) := by decide +kernel
theorem dX5_doDeed_4 : decode cX5_doDeed 4 = .ok (.getfield 39, 3) := by decide +kernel
theorem dX5_doDeed_7 : decode cX5_doDeed 7 = .ok (.bipush 40, 2) := by decide +kernel
theorem dX5_doDeed_9 : decode cX5_doDeed 9 = .ok (.if_icmp .lt 8, 3) := by decide +kernel
theorem dX5_doDeed_12 : decode cX5_doDeed 12 = .ok (.bipush (-2), 2) := by decide +kernel
theorem dX5_doDeed_14 : decode cX5_doDeed 14 = .ok (.goto 12, 3) := by decide +kernel
theorem dX5_doDeed_17 : decode cX5_doDeed 17 = .ok (.aload_n 0, 1) := by decide +kernel
theorem dX5_doDeed_18 : decode cX5_doDeed 18 = .ok (.getfield 31, 3) := by decide +kernel
theorem dX5_doDeed_21 : decode cX5_doDeed 21 = .ok (.iload_n 1, 1) := by decide +kernel
theorem dX5_doDeed_22 : decode cX5_doDeed 22 = .ok (.iload_n 2, 1) := by decide +kernel
theorem dX5_doDeed_23 : decode cX5_doDeed 23 = .ok (.invokevirtual 305, 3) := by decide +kernel
theorem dX5_doDeed_26 : decode cX5_doDeed 26 = .ok (.ireturn, 1) := by decide +kernel
theorem dX5_doLot_0 : decode cX5_doLot 0 = .ok (.lload_n 1, 1) := by decide +kernel
theorem dX5_doLot_1 : decode cX5_doLot 1 = .ok (.ldc2_w 308, 3) := by decide +kernel
theorem dX5_doLot_4 : decode cX5_doLot 4 = .ok (.lrem, 1) := by decide +kernel
theorem dX5_doLot_5 : decode cX5_doLot 5 = .ok (.l2i, 1) := by decide +kernel
theorem dX5_doLot_6 : decode cX5_doLot 6 = .ok (.istore_n 3, 1) := by decide +kernel
theorem dX5_doLot_7 : decode cX5_doLot 7 = .ok (.iload_n 3, 1) := by decide +kernel
theorem dX5_doLot_8 : decode cX5_doLot 8 = .ok (.ifCond .ne 16, 3) := by decide +kernel
theorem dX5_doLot_11 : decode cX5_doLot 11 = .ok (.aload_n 0, 1) := by decide +kernel
theorem dX5_doLot_12 : decode cX5_doLot 12 = .ok (.getfield 31, 3) := by decide +kernel
theorem dX5_doLot_15 : decode cX5_doLot 15 = .ok (.iconst 2, 1) := by decide +kernel
theorem dX5_doLot_16 : decode cX5_doLot 16 = .ok (.iconst 0, 1) := by decide +kernel
theorem dX5_doLot_17 : decode cX5_doLot 17 = .ok (.invokevirtual 305, 3) := by decide +kernel
theorem dX5_doLot_20 : decode cX5_doLot 20 = .ok (.pop, 1) := by decide +kernel
theorem dX5_doLot_21 : decode cX5_doLot 21 = .ok (.goto 73, 3) := by decide +kernel
theorem dX5_doLot_24 : decode cX5_doLot 24 = .ok (.iload_n 3, 1) := by decide +kernel
theorem dX5_doLot_25 : decode cX5_doLot 25 = .ok (.iconst 1, 1) := by decide +kernel
theorem dX5_doLot_26 : decode cX5_doLot 26 = .ok (.if_icmp .ne 41, 3) := by decide +kernel
theorem dX5_doLot_29 : decode cX5_doLot 29 = .ok (.iconst 1, 1) := by decide +kernel
theorem dX5_doLot_30 : decode cX5_doLot 30 = .ok (.aload_n 0, 1) := by decide +kernel
theorem dX5_doLot_31 : decode cX5_doLot 31 = .ok (.getfield 31, 3) := by decide +kernel
theorem dX5_doLot_34 : decode cX5_doLot 34 = .ok (.getfield 45, 3) := by decide +kernel
theorem dX5_doLot_37 : decode cX5_doLot 37 = .ok (.getfield 131, 3) := by decide +kernel
theorem dX5_doLot_40 : decode cX5_doLot 40 = .ok (.invokestatic 310, 3) := by decide +kernel
theorem dX5_doLot_43 : decode cX5_doLot 43 = .ok (.istore 4, 2) := by decide +kernel
theorem dX5_doLot_45 : decode cX5_doLot 45 = .ok (.aload_n 0, 1) := by decide +kernel
theorem dX5_doLot_46 : decode cX5_doLot 46 = .ok (.getfield 31, 3) := by decide +kernel
theorem dX5_doLot_49 : decode cX5_doLot 49 = .ok (.iconst 4, 1) := by decide +kernel
theorem dX5_doLot_50 : decode cX5_doLot 50 = .ok (.lload_n 1, 1) := by decide +kernel
theorem dX5_doLot_51 : decode cX5_doLot 51 = .ok (.ldc2_w 315, 3) := by decide +kernel
theorem dX5_doLot_54 : decode cX5_doLot 54 = .ok (.ldiv, 1) := by decide +kernel
theorem dX5_doLot_55 : decode cX5_doLot 55 = .ok (.iload 4, 2) := by decide +kernel
theorem dX5_doLot_57 : decode cX5_doLot 57 = .ok (.i2l, 1) := by decide +kernel
theorem dX5_doLot_58 : decode cX5_doLot 58 = .ok (.lrem, 1) := by decide +kernel
theorem dX5_doLot_59 : decode cX5_doLot 59 = .ok (.l2i, 1) := by decide +kernel
theorem dX5_doLot_60 : decode cX5_doLot 60 = .ok (.invokevirtual 305, 3) := by decide +kernel
theorem dX5_doLot_63 : decode cX5_doLot 63 = .ok (.pop, 1) := by decide +kernel
theorem dX5_doLot_64 : decode cX5_doLot 64 = .ok (.goto 30, 3) := by decide +kernel
theorem dX5_doLot_67 : decode cX5_doLot 67 = .ok (.aload_n 0, 1) := by decide +kernel
theorem dX5_doLot_68 : decode cX5_doLot 68 = .ok (.getfield 31, 3) := by decide +kernel
theorem dX5_doLot_71 : decode cX5_doLot 71 = .ok (.aload_n 0, 1) := by decide +kernel
theorem dX5_doLot_72 : decode cX5_doLot 72 = .ok (.getfield 31, 3) := by decide +kernel
theorem dX5_doLot_75 : decode cX5_doLot 75 = .ok (.getfield 45, 3) := by decide +kernel
theorem dX5_doLot_78 : decode cX5_doLot 78 = .ok (.invokevirtual 167, 3) := by decide +kernel
theorem dX5_doLot_81 : decode cX5_doLot 81 = .ok (.ifCond .eq 7, 3) := by decide +kernel
theorem dX5_doLot_84 : decode cX5_doLot 84 = .ok (.iconst 1, 1) := by decide +kernel
theorem dX5_doLot_85 : decode cX5_doLot 85 = .ok (.goto 4, 3) := by decide +kernel
theorem dX5_doLot_88 : decode cX5_doLot 88 = .ok (.iconst 0, 1) := by decide +kernel
theorem dX5_doLot_89 : decode cX5_doLot 89 = .ok (.iconst 0, 1) := by decide +kernel
theorem dX5_doLot_90 : decode cX5_doLot 90 = .ok (.invokevirtual 305, 3) := by decide +kernel
theorem dX5_doLot_93 : decode cX5_doLot 93 = .ok (.pop, 1) := by decide +kernel
theorem dX5_doLot_94 : decode cX5_doLot 94 = .ok (.return_, 1) := by decide +kernel
theorem dX5_counted_0 : decode cX5_counted 0 = .ok (.aload_n 0, 1) := by decide +kernel
theorem dX5_counted_1 : decode cX5_counted 1 = .ok (.getfield 31, 3) := by decide +kernel
theorem dX5_counted_4 : decode cX5_counted 4 = .ok (.getfield 45, 3) := by decide +kernel
theorem dX5_counted_7 : decode cX5_counted 7 = .ok (.astore_n 2, 1) := by decide +kernel
theorem dX5_counted_8 : decode cX5_counted 8 = .ok (.iload_n 1, 1) := by decide +kernel
theorem dX5_counted_9 : decode cX5_counted 9 = .ok (.tableswitch 148 0 11 #[63, 68, 73, 81, 86, 91, 104, 117, 122, 130, 138, 143], 63) := by decide +kernel
theorem dX5_counted_72 : decode cX5_counted 72 = .ok (.aload_n 2, 1) := by decide +kernel
theorem dX5_counted_73 : decode cX5_counted 73 = .ok (.getfield 131, 3) := by decide +kernel
theorem dX5_counted_76 : decode cX5_counted 76 = .ok (.ireturn, 1) := by decide +kernel
theorem dX5_counted_77 : decode cX5_counted 77 = .ok (.aload_n 2, 1) := by decide +kernel
theorem dX5_counted_78 : decode cX5_counted 78 = .ok (.getfield 254, 3) := by decide +kernel
theorem dX5_counted_81 : decode cX5_counted 81 = .ok (.ireturn, 1) := by decide +kernel
theorem dX5_counted_82 : decode cX5_counted 82 = .ok (.aload_n 0, 1) := by decide +kernel
theorem dX5_counted_83 : decode cX5_counted 83 = .ok (.getfield 31, 3) := by decide +kernel
theorem dX5_counted_86 : decode cX5_counted 86 = .ok (.getfield 39, 3) := by decide +kernel
theorem dX5_counted_89 : decode cX5_counted 89 = .ok (.ireturn, 1) := by decide +kernel
theorem dX5_counted_90 : decode cX5_counted 90 = .ok (.aload_n 2, 1) := by decide +kernel
theorem dX5_counted_91 : decode cX5_counted 91 = .ok (.getfield 317, 3) := by decide +kernel
theorem dX5_counted_94 : decode cX5_counted 94 = .ok (.ireturn, 1) := by decide +kernel
theorem dX5_counted_95 : decode cX5_counted 95 = .ok (.aload_n 2, 1) := by decide +kernel
theorem dX5_counted_96 : decode cX5_counted 96 = .ok (.getfield 228, 3) := by decide +kernel
theorem dX5_counted_99 : decode cX5_counted 99 = .ok (.ireturn, 1) := by decide +kernel
theorem dX5_counted_100 : decode cX5_counted 100 = .ok (.aload_n 2, 1) := by decide +kernel
theorem dX5_counted_101 : decode cX5_counted 101 = .ok (.getfield 155, 3) := by decide +kernel
theorem dX5_counted_104 : decode cX5_counted 104 = .ok (.ifCond .eq 7, 3) := by decide +kernel
theorem dX5_counted_107 : decode cX5_counted 107 = .ok (.iconst 1, 1) := by decide +kernel
theorem dX5_counted_108 : decode cX5_counted 108 = .ok (.goto 4, 3) := by decide +kernel
theorem dX5_counted_111 : decode cX5_counted 111 = .ok (.iconst 0, 1) := by decide +kernel
theorem dX5_counted_112 : decode cX5_counted 112 = .ok (.ireturn, 1) := by decide +kernel
theorem dX5_counted_113 : decode cX5_counted 113 = .ok (.aload_n 2, 1) := by decide +kernel
theorem dX5_counted_114 : decode cX5_counted 114 = .ok (.invokevirtual 167, 3) := by decide +kernel
theorem dX5_counted_117 : decode cX5_counted 117 = .ok (.ifCond .eq 7, 3) := by decide +kernel
theorem dX5_counted_120 : decode cX5_counted 120 = .ok (.iconst 1, 1) := by decide +kernel
theorem dX5_counted_121 : decode cX5_counted 121 = .ok (.goto 4, 3) := by decide +kernel
theorem dX5_counted_124 : decode cX5_counted 124 = .ok (.iconst 0, 1) := by decide +kernel
theorem dX5_counted_125 : decode cX5_counted 125 = .ok (.ireturn, 1) := by decide +kernel
theorem dX5_counted_126 : decode cX5_counted 126 = .ok (.aload_n 2, 1) := by decide +kernel
theorem dX5_counted_127 : decode cX5_counted 127 = .ok (.getfield 320, 3) := by decide +kernel
theorem dX5_counted_130 : decode cX5_counted 130 = .ok (.ireturn, 1) := by decide +kernel
theorem dX5_counted_131 : decode cX5_counted 131 = .ok (.aload_n 0, 1) := by decide +kernel
theorem dX5_counted_132 : decode cX5_counted 132 = .ok (.getfield 14, 3) := by decide +kernel
theorem dX5_counted_135 : decode cX5_counted 135 = .ok (.invokevirtual 323, 3) := by decide +kernel
theorem dX5_counted_138 : decode cX5_counted 138 = .ok (.ireturn, 1) := by decide +kernel
theorem dX5_counted_139 : decode cX5_counted 139 = .ok (.aload_n 0, 1) := by decide +kernel
theorem dX5_counted_140 : decode cX5_counted 140 = .ok (.getfield 18, 3) := by decide +kernel
theorem dX5_counted_143 : decode cX5_counted 143 = .ok (.invokevirtual 323, 3) := by decide +kernel
theorem dX5_counted_146 : decode cX5_counted 146 = .ok (.ireturn, 1) := by decide +kernel
theorem dX5_counted_147 : decode cX5_counted 147 = .ok (.aload_n 0, 1) := by decide +kernel
theorem dX5_counted_148 : decode cX5_counted 148 = .ok (.invokevirtual 326, 3) := by decide +kernel
theorem dX5_counted_151 : decode cX5_counted 151 = .ok (.ireturn, 1) := by decide +kernel
theorem dX5_counted_152 : decode cX5_counted 152 = .ok (.aload_n 2, 1) := by decide +kernel
theorem dX5_counted_153 : decode cX5_counted 153 = .ok (.invokevirtual 329, 3) := by decide +kernel
theorem dX5_counted_156 : decode cX5_counted 156 = .ok (.ireturn, 1) := by decide +kernel
theorem dX5_counted_157 : decode cX5_counted 157 = .ok (.aload_n 2, 1) := by decide +kernel
theorem dX5_counted_158 : decode cX5_counted 158 = .ok (.invokevirtual 332, 3) := by decide +kernel
theorem dX5_counted_161 : decode cX5_counted 161 = .ok (.ireturn, 1) := by decide +kernel
theorem dX5_keptOnes_0 : decode cX5_keptOnes 0 = .ok (.iconst 0, 1) := by decide +kernel
theorem dX5_keptOnes_1 : decode cX5_keptOnes 1 = .ok (.istore_n 1, 1) := by decide +kernel
theorem dX5_keptOnes_2 : decode cX5_keptOnes 2 = .ok (.iconst 0, 1) := by decide +kernel
theorem dX5_keptOnes_3 : decode cX5_keptOnes 3 = .ok (.istore_n 2, 1) := by decide +kernel
theorem dX5_keptOnes_4 : decode cX5_keptOnes 4 = .ok (.iload_n 2, 1) := by decide +kernel
theorem dX5_keptOnes_5 : decode cX5_keptOnes 5 = .ok (.iconst 3, 1) := by decide +kernel
theorem dX5_keptOnes_6 : decode cX5_keptOnes 6 = .ok (.if_icmp .ge 25, 3) := by decide +kernel
theorem dX5_keptOnes_9 : decode cX5_keptOnes 9 = .ok (.aload_n 0, 1) := by decide +kernel
theorem dX5_keptOnes_10 : decode cX5_keptOnes 10 = .ok (.getfield 35, 3) := by decide +kernel
theorem dX5_keptOnes_13 : decode cX5_keptOnes 13 = .ok (.iload_n 2, 1) := by decide +kernel
theorem dX5_keptOnes_14 : decode cX5_keptOnes 14 = .ok (.aaload, 1) := by decide +kernel
theorem dX5_keptOnes_15 : decode cX5_keptOnes 15 = .ok (.getfield 39, 3) := by decide +kernel
theorem dX5_keptOnes_18 : decode cX5_keptOnes 18 = .ok (.iconst (-1), 1) := by decide +kernel
theorem dX5_keptOnes_19 : decode cX5_keptOnes 19 = .ok (.if_icmp .eq 6, 3) := by decide +kernel
theorem dX5_keptOnes_22 : decode cX5_keptOnes 22 = .ok (.iinc 1 1, 3) := by decide +kernel
theorem dX5_keptOnes_25 : decode cX5_keptOnes 25 = .ok (.iinc 2 1, 3) := by decide +kernel
theorem dX5_keptOnes_28 : decode cX5_keptOnes 28 = .ok (.goto (-24), 3) := by decide +kernel
theorem dX5_keptOnes_31 : decode cX5_keptOnes 31 = .ok (.iload_n 1, 1) := by decide +kernel
theorem dX5_keptOnes_32 : decode cX5_keptOnes 32 = .ok (.ireturn, 1) := by decide +kernel
theorem dX5_isOfKind_0 : decode cX5_isOfKind 0 = .ok (.iload_n 0, 1) := by decide +kernel
theorem dX5_isOfKind_1 : decode cX5_isOfKind 1 = .ok (.iload_n 1, 1) := by decide +kernel
theorem dX5_isOfKind_2 : decode cX5_isOfKind 2 = .ok (.if_icmp .eq 12, 3) := by decide +kernel
theorem dX5_isOfKind_5 : decode cX5_isOfKind 5 = .ok (.getstatic 335, 3) := by decide +kernel
theorem dX5_isOfKind_8 : decode cX5_isOfKind 8 = .ok (.iload_n 0, 1) := by decide +kernel
theorem dX5_isOfKind_9 : decode cX5_isOfKind 9 = .ok (.iaload, 1) := by decide +kernel
theorem dX5_isOfKind_10 : decode cX5_isOfKind 10 = .ok (.iload_n 1, 1) := by decide +kernel
theorem dX5_isOfKind_11 : decode cX5_isOfKind 11 = .ok (.if_icmp .ne 7, 3) := by decide +kernel
theorem dX5_isOfKind_14 : decode cX5_isOfKind 14 = .ok (.iconst 1, 1) := by decide +kernel
theorem dX5_isOfKind_15 : decode cX5_isOfKind 15 = .ok (.goto 4, 3) := by decide +kernel
theorem dX5_isOfKind_18 : decode cX5_isOfKind 18 = .ok (.iconst 0, 1) := by decide +kernel
theorem dX5_isOfKind_19 : decode cX5_isOfKind 19 = .ok (.ireturn, 1) := by decide +kernel
theorem dX5_bearing_0 : decode cX5_bearing 0 = .ok (.iconst 0, 1) := by decide +kernel
theorem dX5_bearing_1 : decode cX5_bearing 1 = .ok (.iconst 2, 1) := by decide +kernel
theorem dX5_bearing_2 : decode cX5_bearing 2 = .ok (.iload_n 1, 1) := by decide +kernel
theorem dX5_bearing_3 : decode cX5_bearing 3 = .ok (.imul, 1) := by decide +kernel
theorem dX5_bearing_4 : decode cX5_bearing 4 = .ok (.iload_n 0, 1) := by decide +kernel
theorem dX5_bearing_5 : decode cX5_bearing 5 = .ok (.iload_n 2, 1) := by decide +kernel
theorem dX5_bearing_6 : decode cX5_bearing 6 = .ok (.iload 4, 2) := by decide +kernel
theorem dX5_bearing_8 : decode cX5_bearing 8 = .ok (.invokestatic 338, 3) := by decide +kernel
theorem dX5_bearing_11 : decode cX5_bearing 11 = .ok (.isub, 1) := by decide +kernel
theorem dX5_bearing_12 : decode cX5_bearing 12 = .ok (.invokestatic 310, 3) := by decide +kernel
theorem dX5_bearing_15 : decode cX5_bearing 15 = .ok (.istore 5, 2) := by decide +kernel
theorem dX5_bearing_17 : decode cX5_bearing 17 = .ok (.iload_n 0, 1) := by decide +kernel
theorem dX5_bearing_18 : decode cX5_bearing 18 = .ok (.tableswitch 46 1 3 #[26, 31, 31], 26) := by decide +kernel
theorem dX5_bearing_44 : decode cX5_bearing 44 = .ok (.iload 5, 2) := by decide +kernel
theorem dX5_bearing_46 : decode cX5_bearing 46 = .ok (.iconst 2, 1) := by decide +kernel
theorem dX5_bearing_47 : decode cX5_bearing 47 = .ok (.idiv, 1) := by decide +kernel
theorem dX5_bearing_48 : decode cX5_bearing 48 = .ok (.ireturn, 1) := by decide +kernel
theorem dX5_bearing_49 : decode cX5_bearing 49 = .ok (.iload_n 3, 1) := by decide +kernel
theorem dX5_bearing_50 : decode cX5_bearing 50 = .ok (.iconst 5, 1) := by decide +kernel
theorem dX5_bearing_51 : decode cX5_bearing 51 = .ok (.if_icmp .lt 10, 3) := by decide +kernel
theorem dX5_bearing_54 : decode cX5_bearing 54 = .ok (.iload 5, 2) := by decide +kernel
theorem dX5_bearing_56 : decode cX5_bearing 56 = .ok (.iconst 3, 1) := by decide +kernel
theorem dX5_bearing_57 : decode cX5_bearing 57 = .ok (.iadd, 1) := by decide +kernel
theorem dX5_bearing_58 : decode cX5_bearing 58 = .ok (.goto 5, 3) := by decide +kernel
theorem dX5_bearing_61 : decode cX5_bearing 61 = .ok (.iload 5, 2) := by decide +kernel
theorem dX5_bearing_63 : decode cX5_bearing 63 = .ok (.ireturn, 1) := by decide +kernel
theorem dX5_bearing_64 : decode cX5_bearing 64 = .ok (.iload 5, 2) := by decide +kernel
theorem dX5_bearing_66 : decode cX5_bearing 66 = .ok (.ireturn, 1) := by decide +kernel
theorem dX5_feltWear_0 : decode cX5_feltWear 0 = .ok (.iload_n 0, 1) := by decide +kernel
theorem dX5_feltWear_1 : decode cX5_feltWear 1 = .ok (.tableswitch 43 3 5 #[27, 31, 33], 27) := by decide +kernel
theorem dX5_feltWear_28 : decode cX5_feltWear 28 = .ok (.iload_n 1, 1) := by decide +kernel
theorem dX5_feltWear_29 : decode cX5_feltWear 29 = .ok (.iconst 2, 1) := by decide +kernel
theorem dX5_feltWear_30 : decode cX5_feltWear 30 = .ok (.idiv, 1) := by decide +kernel
theorem dX5_feltWear_31 : decode cX5_feltWear 31 = .ok (.ireturn, 1) := by decide +kernel
theorem dX5_feltWear_32 : decode cX5_feltWear 32 = .ok (.iconst 0, 1) := by decide +kernel
theorem dX5_feltWear_33 : decode cX5_feltWear 33 = .ok (.ireturn, 1) := by decide +kernel
theorem dX5_feltWear_34 : decode cX5_feltWear 34 = .ok (.iload_n 2, 1) := by decide +kernel
theorem dX5_feltWear_35 : decode cX5_feltWear 35 = .ok (.ifCond .eq 7, 3) := by decide +kernel
theorem dX5_feltWear_38 : decode cX5_feltWear 38 = .ok (.iload_n 1, 1) := by decide +kernel
theorem dX5_feltWear_39 : decode cX5_feltWear 39 = .ok (.goto 4, 3) := by decide +kernel
theorem dX5_feltWear_42 : decode cX5_feltWear 42 = .ok (.iconst 0, 1) := by decide +kernel
theorem dX5_feltWear_43 : decode cX5_feltWear 43 = .ok (.ireturn, 1) := by decide +kernel
theorem dX5_feltWear_44 : decode cX5_feltWear 44 = .ok (.iload_n 1, 1) := by decide +kernel
theorem dX5_feltWear_45 : decode cX5_feltWear 45 = .ok (.ireturn, 1) := by decide +kernel
theorem dX5_power_0 : decode cX5_power 0 = .ok (.lconst 1, 1) := by decide +kernel
theorem dX5_power_1 : decode cX5_power 1 = .ok (.lstore_n 3, 1) := by decide +kernel
theorem dX5_power_2 : decode cX5_power 2 = .ok (.iconst 0, 1) := by decide +kernel
theorem dX5_power_3 : decode cX5_power 3 = .ok (.istore 5, 2) := by decide +kernel
theorem dX5_power_5 : decode cX5_power 5 = .ok (.iload 5, 2) := by decide +kernel
theorem dX5_power_7 : decode cX5_power 7 = .ok (.iload_n 2, 1) := by decide +kernel
theorem dX5_power_8 : decode cX5_power 8 = .ok (.if_icmp .ge 13, 3) := by decide +kernel
theorem dX5_power_11 : decode cX5_power 11 = .ok (.lload_n 3, 1) := by decide +kernel
theorem dX5_power_12 : decode cX5_power 12 = .ok (.lload_n 0, 1) := by decide +kernel
theorem dX5_power_13 : decode cX5_power 13 = .ok (.lmul, 1) := by decide +kernel
theorem dX5_power_14 : decode cX5_power 14 = .ok (.lstore_n 3, 1) := by decide +kernel
theorem dX5_power_15 : decode cX5_power 15 = .ok (.iinc 5 1, 3) := by decide +kernel
theorem dX5_power_18 : decode cX5_power 18 = .ok (.goto (-13), 3) := by decide +kernel
theorem dX5_power_21 : decode cX5_power 21 = .ok (.lload_n 3, 1) := by decide +kernel
theorem dX5_power_22 : decode cX5_power 22 = .ok (.lreturn, 1) := by decide +kernel
theorem dX5_commonDivisor_0 : decode cX5_commonDivisor 0 = .ok (.lload_n 0, 1) := by decide +kernel
theorem dX5_commonDivisor_1 : decode cX5_commonDivisor 1 = .ok (.lstore 4, 2) := by decide +kernel
theorem dX5_commonDivisor_3 : decode cX5_commonDivisor 3 = .ok (.lload_n 2, 1) := by decide +kernel
theorem dX5_commonDivisor_4 : decode cX5_commonDivisor 4 = .ok (.lstore 6, 2) := by decide +kernel
theorem dX5_commonDivisor_6 : decode cX5_commonDivisor 6 = .ok (.iconst 0, 1) := by decide +kernel
theorem dX5_commonDivisor_7 : decode cX5_commonDivisor 7 = .ok (.istore 8, 2) := by decide +kernel
theorem dX5_commonDivisor_9 : decode cX5_commonDivisor 9 = .ok (.iload 8, 2) := by decide +kernel
theorem dX5_commonDivisor_11 : decode cX5_commonDivisor 11 = .ok (.bipush 100, 2) := by decide +kernel
theorem dX5_commonDivisor_13 : decode cX5_commonDivisor 13 = .ok (.if_icmp .ge 31, 3) := by decide +kernel
theorem dX5_commonDivisor_16 : decode cX5_commonDivisor 16 = .ok (.lload 6, 2) := by decide +kernel
theorem dX5_commonDivisor_18 : decode cX5_commonDivisor 18 = .ok (.lconst 0, 1) := by decide +kernel
theorem dX5_commonDivisor_19 : decode cX5_commonDivisor 19 = .ok (.lcmp, 1) := by decide +kernel
theorem dX5_commonDivisor_20 : decode cX5_commonDivisor 20 = .ok (.ifCond .eq 24, 3) := by decide +kernel
theorem dX5_commonDivisor_23 : decode cX5_commonDivisor 23 = .ok (.lload 4, 2) := by decide +kernel
theorem dX5_commonDivisor_25 : decode cX5_commonDivisor 25 = .ok (.lload 6, 2) := by decide +kernel
theorem dX5_commonDivisor_27 : decode cX5_commonDivisor 27 = .ok (.lrem, 1) := by decide +kernel
theorem dX5_commonDivisor_28 : decode cX5_commonDivisor 28 = .ok (.lstore 9, 2) := by decide +kernel
theorem dX5_commonDivisor_30 : decode cX5_commonDivisor 30 = .ok (.lload 6, 2) := by decide +kernel
theorem dX5_commonDivisor_32 : decode cX5_commonDivisor 32 = .ok (.lstore 4, 2) := by decide +kernel
theorem dX5_commonDivisor_34 : decode cX5_commonDivisor 34 = .ok (.lload 9, 2) := by decide +kernel
theorem dX5_commonDivisor_36 : decode cX5_commonDivisor 36 = .ok (.lstore 6, 2) := by decide +kernel
theorem dX5_commonDivisor_38 : decode cX5_commonDivisor 38 = .ok (.iinc 8 1, 3) := by decide +kernel
theorem dX5_commonDivisor_41 : decode cX5_commonDivisor 41 = .ok (.goto (-32), 3) := by decide +kernel
theorem dX5_commonDivisor_44 : decode cX5_commonDivisor 44 = .ok (.lload 4, 2) := by decide +kernel
theorem dX5_commonDivisor_46 : decode cX5_commonDivisor 46 = .ok (.lreturn, 1) := by decide +kernel
end
section
theorem dX6_init_0 : decode cX6_init 0 = .ok (.aload_n 0, 1) := by decide +kernel
theorem dX6_init_1 : decode cX6_init 1 = .ok (.invokespecial 1, 3) := by decide +kernel
theorem dX6_init_4 : decode cX6_init 4 = .ok (.aload_n 0, 1) := by decide +kernel
theorem dX6_init_5 : decode cX6_init 5 = .ok (.lconst 1, 1) := by decide +kernel
theorem dX6_init_6 : decode cX6_init 6 = .ok (.putfield 7, 3) := by decide +kernel
theorem dX6_init_9 : decode cX6_init 9 = .ok (.aload_n 0, 1) := by decide +kernel
theorem dX6_init_10 : decode cX6_init 10 = .ok (.bipush 6, 2) := by decide +kernel
theorem dX6_init_12 : decode cX6_init 12 = .ok (.newarray .int, 2) := by decide +kernel
theorem dX6_init_14 : decode cX6_init 14 = .ok (.putfield 13, 3) := by decide +kernel
theorem dX6_init_17 : decode cX6_init 17 = .ok (.aload_n 0, 1) := by decide +kernel
theorem dX6_init_18 : decode cX6_init 18 = .ok (.bipush 6, 2) := by decide +kernel
theorem dX6_init_20 : decode cX6_init 20 = .ok (.newarray .int, 2) := by decide +kernel
theorem dX6_init_22 : decode cX6_init 22 = .ok (.putfield 17, 3) := by decide +kernel
theorem dX6_init_25 : decode cX6_init 25 = .ok (.aload_n 0, 1) := by decide +kernel
theorem dX6_init_26 : decode cX6_init 26 = .ok (.sipush 240, 3) := by decide +kernel
theorem dX6_init_29 : decode cX6_init 29 = .ok (.newarray .int, 2) := by decide +kernel
theorem dX6_init_31 : decode cX6_init 31 = .ok (.putfield 20, 3) := by decide +kernel
theorem dX6_init_34 : decode cX6_init 34 = .ok (.aload_n 0, 1) := by decide +kernel
theorem dX6_init_35 : decode cX6_init 35 = .ok (.bipush 40, 2) := by decide +kernel
theorem dX6_init_37 : decode cX6_init 37 = .ok (.newarray .int, 2) := by decide +kernel
theorem dX6_init_39 : decode cX6_init 39 = .ok (.putfield 23, 3) := by decide +kernel
theorem dX6_init_42 : decode cX6_init 42 = .ok (.aload_n 0, 1) := by decide +kernel
theorem dX6_init_43 : decode cX6_init 43 = .ok (.iconst 4, 1) := by decide +kernel
theorem dX6_init_44 : decode cX6_init 44 = .ok (.newarray .int, 2) := by decide +kernel
theorem dX6_init_46 : decode cX6_init 46 = .ok (.putfield 26, 3) := by decide +kernel
theorem dX6_init_49 : decode cX6_init 49 = .ok (.aload_n 0, 1) := by decide +kernel
theorem dX6_init_50 : decode cX6_init 50 = .ok (.sipush 480, 3) := by decide +kernel
theorem dX6_init_53 : decode cX6_init 53 = .ok (.newarray .byte, 2) := by decide +kernel
theorem dX6_init_55 : decode cX6_init 55 = .ok (.putfield 29, 3) := by decide +kernel
theorem dX6_init_58 : decode cX6_init 58 = .ok (.aload_n 0, 1) := by decide +kernel
theorem dX6_init_59 : decode cX6_init 59 = .ok (.bipush 8, 2) := by decide +kernel
theorem dX6_init_61 : decode cX6_init 61 = .ok (.newarray .int, 2) := by decide +kernel
theorem dX6_init_63 : decode cX6_init 63 = .ok (.putfield 33, 3) := by decide +kernel
theorem dX6_init_66 : decode cX6_init 66 = .ok (.aload_n 0, 1) := by decide +kernel
theorem dX6_init_67 : decode cX6_init 67 = .ok (.bipush 8, 2) := by decide +kernel
theorem dX6_init_69 : decode cX6_init 69 = .ok (.newarray .int, 2) := by decide +kernel
theorem dX6_init_71 : decode cX6_init 71 = .ok (.putfield 36, 3) := by decide +kernel
theorem dX6_init_74 : decode cX6_init 74 = .ok (.aload_n 0, 1) := by decide +kernel
theorem dX6_init_75 : decode cX6_init 75 = .ok (.bipush 8, 2) := by decide +kernel
theorem dX6_init_77 : decode cX6_init 77 = .ok (.newarray .int, 2) := by decide +kernel
theorem dX6_init_79 : decode cX6_init 79 = .ok (.putfield 39, 3) := by decide +kernel
theorem dX6_init_82 : decode cX6_init 82 = .ok (.aload_n 0, 1) := by decide +kernel
theorem dX6_init_83 : decode cX6_init 83 = .ok (.bipush 8, 2) := by decide +kernel
theorem dX6_init_85 : decode cX6_init 85 = .ok (.newarray .int, 2) := by decide +kernel
theorem dX6_init_87 : decode cX6_init 87 = .ok (.putfield 42, 3) := by decide +kernel
theorem dX6_init_90 : decode cX6_init 90 = .ok (.aload_n 0, 1) := by decide +kernel
theorem dX6_init_91 : decode cX6_init 91 = .ok (.bipush 8, 2) := by decide +kernel
theorem dX6_init_93 : decode cX6_init 93 = .ok (.newarray .int, 2) := by decide +kernel
theorem dX6_init_95 : decode cX6_init 95 = .ok (.putfield 45, 3) := by decide +kernel
theorem dX6_init_98 : decode cX6_init 98 = .ok (.aload_n 0, 1) := by decide +kernel
theorem dX6_init_99 : decode cX6_init 99 = .ok (.bipush 8, 2) := by decide +kernel
theorem dX6_init_101 : decode cX6_init 101 = .ok (.newarray .int, 2) := by decide +kernel
theorem dX6_init_103 : decode cX6_init 103 = .ok (.putfield 48, 3) := by decide +kernel
theorem dX6_init_106 : decode cX6_init 106 = .ok (.aload_n 0, 1) := by decide +kernel
theorem dX6_init_107 : decode cX6_init 107 = .ok (.bipush 8, 2) := by decide +kernel
theorem dX6_init_109 : decode cX6_init 109 = .ok (.newarray .int, 2) := by decide +kernel
theorem dX6_init_111 : decode cX6_init 111 = .ok (.putfield 51, 3) := by decide +kernel
theorem dX6_init_114 : decode cX6_init 114 = .ok (.aload_n 0, 1) := by decide +kernel
theorem dX6_init_115 : decode cX6_init 115 = .ok (.bipush 8, 2) := by decide +kernel
theorem dX6_init_117 : decode cX6_init 117 = .ok (.newarray .int, 2) := by decide +kernel
theorem dX6_init_119 : decode cX6_init 119 = .ok (.putfield 54, 3) := by decide +kernel
theorem dX6_init_122 : decode cX6_init 122 = .ok (.aload_n 0, 1) := by decide +kernel
theorem dX6_init_123 : decode cX6_init 123 = .ok (.bipush 12, 2) := by decide +kernel
theorem dX6_init_125 : decode cX6_init 125 = .ok (.newarray .int, 2) := by decide +kernel
theorem dX6_init_127 : decode cX6_init 127 = .ok (.putfield 57, 3) := by decide +kernel
theorem dX6_init_130 : decode cX6_init 130 = .ok (.aload_n 0, 1) := by decide +kernel
theorem dX6_init_131 : decode cX6_init 131 = .ok (.bipush 12, 2) := by decide +kernel
theorem dX6_init_133 : decode cX6_init 133 = .ok (.newarray .int, 2) := by decide +kernel
theorem dX6_init_135 : decode cX6_init 135 = .ok (.putfield 60, 3) := by decide +kernel
theorem dX6_init_138 : decode cX6_init 138 = .ok (.aload_n 0, 1) := by decide +kernel
theorem dX6_init_139 : decode cX6_init 139 = .ok (.sipush 480, 3) := by decide +kernel
theorem dX6_init_142 : decode cX6_init 142 = .ok (.newarray .int, 2) := by decide +kernel
theorem dX6_init_144 : decode cX6_init 144 = .ok (.putfield 63, 3) := by decide +kernel
theorem dX6_init_147 : decode cX6_init 147 = .ok (.aload_n 0, 1) := by decide +kernel
theorem dX6_init_148 : decode cX6_init 148 = .ok (.iconst 3, 1) := by decide +kernel
theorem dX6_init_149 : decode cX6_init 149 = .ok (.newarray .int, 2) := by decide +kernel
theorem dX6_init_151 : decode cX6_init 151 = .ok (.putfield 66, 3) := by decide +kernel
theorem dX6_init_154 : decode cX6_init 154 = .ok (.aload_n 0, 1) := by decide +kernel
theorem dX6_init_155 : decode cX6_init 155 = .ok (.sipush 1476, 3) := by decide +kernel
theorem dX6_init_158 : decode cX6_init 158 = .ok (.newarray .int, 2) := by decide +kernel
theorem dX6_init_160 : decode cX6_init 160 = .ok (.putfield 69, 3) := by decide +kernel
theorem dX6_init_163 : decode cX6_init 163 = .ok (.aload_n 0, 1) := by decide +kernel
theorem dX6_init_164 : decode cX6_init 164 = .ok (.sipush 6561, 3) := by decide +kernel
theorem dX6_init_167 : decode cX6_init 167 = .ok (.newarray .int, 2) := by decide +kernel
theorem dX6_init_169 : decode cX6_init 169 = .ok (.putfield 72, 3) := by decide +kernel
theorem dX6_init_172 : decode cX6_init 172 = .ok (.aload_n 0, 1) := by decide +kernel
theorem dX6_init_173 : decode cX6_init 173 = .ok (.bipush 13, 2) := by decide +kernel
theorem dX6_init_175 : decode cX6_init 175 = .ok (.newarray .long, 2) := by decide +kernel
theorem dX6_init_177 : decode cX6_init 177 = .ok (.putfield 75, 3) := by decide +kernel
theorem dX6_init_180 : decode cX6_init 180 = .ok (.iconst 0, 1) := by decide +kernel
theorem dX6_init_181 : decode cX6_init 181 = .ok (.istore_n 1, 1) := by decide +kernel
theorem dX6_init_182 : decode cX6_init 182 = .ok (.iload_n 1, 1) := by decide +kernel
theorem dX6_init_183 : decode cX6_init 183 = .ok (.bipush 6, 2) := by decide +kernel
theorem dX6_init_185 : decode cX6_init 185 = .ok (.if_icmp .ge 16, 3) := by decide +kernel
theorem dX6_init_188 : decode cX6_init 188 = .ok (.aload_n 0, 1) := by decide +kernel
theorem dX6_init_189 : decode cX6_init 189 = .ok (.getfield 17, 3) := by decide +kernel
theorem dX6_init_192 : decode cX6_init 192 = .ok (.iload_n 1, 1) := by decide +kernel
theorem dX6_init_193 : decode cX6_init 193 = .ok (.iconst (-1), 1) := by decide +kernel
theorem dX6_init_194 : decode cX6_init 194 = .ok (.iastore, 1) := by decide +kernel
theorem dX6_init_195 : decode cX6_init 195 = .ok (.iinc 1 1, 3) := by decide +kernel
theorem dX6_init_198 : decode cX6_init 198 = .ok (.goto (-16), 3) := by decide +kernel
theorem dX6_init_201 : decode cX6_init 201 = .ok (.iconst 0, 1) := by decide +kernel
theorem dX6_init_202 : decode cX6_init 202 = .ok (.istore_n 1, 1) := by decide +kernel
theorem dX6_init_203 : decode cX6_init 203 = .ok (.iload_n 1, 1) := by decide +kernel
theorem dX6_init_204 : decode cX6_init 204 = .ok (.iconst 4, 1) := by decide +kernel
theorem dX6_init_205 : decode cX6_init 205 = .ok (.if_icmp .ge 16, 3) := by decide +kernel
theorem dX6_init_208 : decode cX6_init 208 = .ok (.aload_n 0, 1) := by decide +kernel
theorem dX6_init_209 : decode cX6_init 209 = .ok (.getfield 26, 3) := by decide +kernel
theorem dX6_init_212 : decode cX6_init 212 = .ok (.iload_n 1, 1) := by decide +kernel
theorem dX6_init_213 : decode cX6_init 213 = .ok (.iconst (-1), 1) := by decide +kernel
theorem dX6_init_214 : decode cX6_init 214 = .ok (.iastore, 1) := by decide +kernel
theorem dX6_init_215 : decode cX6_init 215 = .ok (.iinc 1 1, 3) := by decide +kernel
theorem dX6_init_218 : decode cX6_init 218 = .ok (.goto (-15), 3) := by decide +kernel
theorem dX6_init_221 : decode cX6_init 221 = .ok (.iconst 0, 1) := by decide +kernel
theorem dX6_init_222 : decode cX6_init 222 = .ok (.istore_n 1, 1) := by decide +kernel
theorem dX6_init_223 : decode cX6_init 223 = .ok (.iload_n 1, 1) := by decide +kernel
theorem dX6_init_224 : decode cX6_init 224 = .ok (.iconst 3, 1) := by decide +kernel
theorem dX6_init_225 : decode cX6_init 225 = .ok (.if_icmp .ge 16, 3) := by decide +kernel
theorem dX6_init_228 : decode cX6_init 228 = .ok (.aload_n 0, 1) := by decide +kernel
theorem dX6_init_229 : decode cX6_init 229 = .ok (.getfield 66, 3) := by decide +kernel
theorem dX6_init_232 : decode cX6_init 232 = .ok (.iload_n 1, 1) := by decide +kernel
theorem dX6_init_233 : decode cX6_init 233 = .ok (.iconst (-1), 1) := by decide +kernel
theorem dX6_init_234 : decode cX6_init 234 = .ok (.iastore, 1) := by decide +kernel
theorem dX6_init_235 : decode cX6_init 235 = .ok (.iinc 1 1, 3) := by decide +kernel
theorem dX6_init_238 : decode cX6_init 238 = .ok (.goto (-15), 3) := by decide +kernel
theorem dX6_init_241 : decode cX6_init 241 = .ok (.return_, 1) := by decide +kernel
theorem dX6_in_0 : decode cX6_in 0 = .ok (.iload_n 0, 1) := by decide +kernel
theorem dX6_in_1 : decode cX6_in 1 = .ok (.iload_n 1, 1) := by decide +kernel
theorem dX6_in_2 : decode cX6_in 2 = .ok (.if_icmp .lt 12, 3) := by decide +kernel
theorem dX6_in_5 : decode cX6_in 5 = .ok (.iload_n 0, 1) := by decide +kernel
theorem dX6_in_6 : decode cX6_in 6 = .ok (.iload_n 2, 1) := by decide +kernel
theorem dX6_in_7 : decode cX6_in 7 = .ok (.if_icmp .gt 7, 3) := by decide +kernel
theorem dX6_in_10 : decode cX6_in 10 = .ok (.iconst 1, 1) := by decide +kernel
theorem dX6_in_11 : decode cX6_in 11 = .ok (.goto 4, 3) := by decide +kernel
theorem dX6_in_14 : decode cX6_in 14 = .ok (.iconst 0, 1) := by decide +kernel
theorem dX6_in_15 : decode cX6_in 15 = .ok (.ireturn, 1) := by decide +kernel
theorem dX6_has_0 : decode cX6_has 0 = .ok (.iload_n 0, 1) := by decide +kernel
theorem dX6_has_1 : decode cX6_has 1 = .ok (.iload_n 1, 1) := by decide +kernel
theorem dX6_has_2 : decode cX6_has 2 = .ok (.ishr, 1) := by decide +kernel
theorem dX6_has_3 : decode cX6_has 3 = .ok (.iconst 1, 1) := by decide +kernel
theorem dX6_has_4 : decode cX6_has 4 = .ok (.iand, 1) := by decide +kernel
theorem dX6_has_5 : decode cX6_has 5 = .ok (.iconst 1, 1) := by decide +kernel
theorem dX6_has_6 : decode cX6_has 6 = .ok (.if_icmp .ne 7, 3) := by decide +kernel
theorem dX6_has_9 : decode cX6_has 9 = .ok (.iconst 1, 1) := by decide +kernel
theorem dX6_has_10 : decode cX6_has 10 = .ok (.goto 4, 3) := by decide +kernel
theorem dX6_has_13 : decode cX6_has 13 = .ok (.iconst 0, 1) := by decide +kernel
theorem dX6_has_14 : decode cX6_has 14 = .ok (.ireturn, 1) := by decide +kernel
theorem dX6_bits_0 : decode cX6_bits 0 = .ok (.iconst 0, 1) := by decide +kernel
theorem dX6_bits_1 : decode cX6_bits 1 = .ok (.istore_n 1, 1) := by decide +kernel
theorem dX6_bits_2 : decode cX6_bits 2 = .ok (.iload_n 0, 1) := by decide +kernel
theorem dX6_bits_3 : decode cX6_bits 3 = .ok (.istore_n 2, 1) := by decide +kernel
theorem dX6_bits_4 : decode cX6_bits 4 = .ok (.iload_n 2, 1) := by decide +kernel
theorem dX6_bits_5 : decode cX6_bits 5 = .ok (.ifCond .eq 15, 3) := by decide +kernel
theorem dX6_bits_8 : decode cX6_bits 8 = .ok (.iinc 1 1, 3) := by decide +kernel
theorem dX6_bits_11 : decode cX6_bits 11 = .ok (.iload_n 2, 1) := by decide +kernel
theorem dX6_bits_12 : decode cX6_bits 12 = .ok (.iload_n 2, 1) := by decide +kernel
theorem dX6_bits_13 : decode cX6_bits 13 = .ok (.iconst 1, 1) := by decide +kernel
theorem dX6_bits_14 : decode cX6_bits 14 = .ok (.isub, 1) := by decide +kernel
theorem dX6_bits_15 : decode cX6_bits 15 = .ok (.iand, 1) := by decide +kernel
theorem dX6_bits_16 : decode cX6_bits 16 = .ok (.istore_n 2, 1) := by decide +kernel
theorem dX6_bits_17 : decode cX6_bits 17 = .ok (.goto (-13), 3) := by decide +kernel
theorem dX6_bits_20 : decode cX6_bits 20 = .ok (.iload_n 1, 1) := by decide +kernel
theorem dX6_bits_21 : decode cX6_bits 21 = .ok (.ireturn, 1) := by decide +kernel
theorem dX6_meets_0 : decode cX6_meets 0 = .ok (.aload_n 0, 1) := by decide +kernel
theorem dX6_meets_1 : decode cX6_meets 1 = .ok (.iload_n 1, 1) := by decide +kernel
theorem dX6_meets_2 : decode cX6_meets 2 = .ok (.putfield 79, 3) := by decide +kernel
theorem dX6_meets_5 : decode cX6_meets 5 = .ok (.aload_n 0, 1) := by decide +kernel
theorem dX6_meets_6 : decode cX6_meets 6 = .ok (.getfield 13, 3) := by decide +kernel
theorem dX6_meets_9 : decode cX6_meets 9 = .ok (.iload_n 1, 1) := by decide +kernel
theorem dX6_meets_10 : decode cX6_meets 10 = .ok (.dup2, 1) := by decide +kernel
theorem dX6_meets_11 : decode cX6_meets 11 = .ok (.iaload, 1) := by decide +kernel
theorem dX6_meets_12 : decode cX6_meets 12 = .ok (.iconst 1, 1) := by decide +kernel
theorem dX6_meets_13 : decode cX6_meets 13 = .ok (.iadd, 1) := by decide +kernel
theorem dX6_meets_14 : decode cX6_meets 14 = .ok (.iastore, 1) := by decide +kernel
theorem dX6_meets_15 : decode cX6_meets 15 = .ok (.bipush (-3), 2) := by decide +kernel
theorem dX6_meets_17 : decode cX6_meets 17 = .ok (.ireturn, 1) := by decide +kernel
theorem dX6_tells_0 : decode cX6_tells 0 = .ok (.aload_n 0, 1) := by decide +kernel
theorem dX6_tells_1 : decode cX6_tells 1 = .ok (.iload_n 1, 1) := by decide +kernel
theorem dX6_tells_2 : decode cX6_tells 2 = .ok (.putfield 83, 3) := by decide +kernel
theorem dX6_tells_5 : decode cX6_tells 5 = .ok (.iload_n 2, 1) := by decide +kernel
theorem dX6_tells_6 : decode cX6_tells 6 = .ok (.ireturn, 1) := by decide +kernel
theorem dX6_asked_0 : decode cX6_asked 0 = .ok (.aload_n 0, 1) := by decide +kernel
theorem dX6_asked_1 : decode cX6_asked 1 = .ok (.getfield 83, 3) := by decide +kernel
theorem dX6_asked_4 : decode cX6_asked 4 = .ok (.ireturn, 1) := by decide +kernel
theorem dX6_upper_0 : decode cX6_upper 0 = .ok (.aload_n 0, 1) := by decide +kernel
theorem dX6_upper_1 : decode cX6_upper 1 = .ok (.getfield 86, 3) := by decide +kernel
theorem dX6_upper_4 : decode cX6_upper 4 = .ok (.lreturn, 1) := by decide +kernel
theorem dX6_lower_0 : decode cX6_lower 0 = .ok (.aload_n 0, 1) := by decide +kernel
theorem dX6_lower_1 : decode cX6_lower 1 = .ok (.getfield 7, 3) := by decide +kernel
theorem dX6_lower_4 : decode cX6_lower 4 = .ok (.lreturn, 1) := by decide +kernel
theorem dX6_lowest_0 : decode cX6_lowest 0 = .ok (.lload_n 1, 1) := by decide +kernel
theorem dX6_lowest_1 : decode cX6_lowest 1 = .ok (.lstore 5, 2) := by decide +kernel
theorem dX6_lowest_3 : decode cX6_lowest 3 = .ok (.lload_n 3, 1) := by decide +kernel
theorem dX6_lowest_4 : decode cX6_lowest 4 = .ok (.lstore 7, 2) := by decide +kernel
theorem dX6_lowest_6 : decode cX6_lowest 6 = .ok (.lload 7, 2) := by decide +kernel
theorem dX6_lowest_8 : decode cX6_lowest 8 = .ok (.lconst 0, 1) := by decide +kernel
theorem dX6_lowest_9 : decode cX6_lowest 9 = .ok (.lcmp, 1) := by decide +kernel
theorem dX6_lowest_10 : decode cX6_lowest 10 = .ok (.ifCond .eq 21, 3) := by decide +kernel
theorem dX6_lowest_13 : decode cX6_lowest 13 = .ok (.lload 5, 2) := by decide +kernel
theorem dX6_lowest_15 : decode cX6_lowest 15 = .ok (.lload 7, 2) := by decide +kernel
theorem dX6_lowest_17 : decode cX6_lowest 17 = .ok (.lrem, 1) := by decide +kernel
theorem dX6_lowest_18 : decode cX6_lowest 18 = .ok (.lstore 9, 2) := by decide +kernel
theorem dX6_lowest_20 : decode cX6_lowest 20 = .ok (.lload 7, 2) := by decide +kernel
theorem dX6_lowest_22 : decode cX6_lowest 22 = .ok (.lstore 5, 2) := by decide +kernel
theorem dX6_lowest_24 : decode cX6_lowest 24 = .ok (.lload 9, 2) := by decide +kernel
theorem dX6_lowest_26 : decode cX6_lowest 26 = .ok (.lstore 7, 2) := by decide +kernel
theorem dX6_lowest_28 : decode cX6_lowest 28 = .ok (.goto (-22), 3) := by decide +kernel
theorem dX6_lowest_31 : decode cX6_lowest 31 = .ok (.aload_n 0, 1) := by decide +kernel
theorem dX6_lowest_32 : decode cX6_lowest 32 = .ok (.lload_n 1, 1) := by decide +kernel
theorem dX6_lowest_33 : decode cX6_lowest 33 = .ok (.lload 5, 2) := by decide +kernel
theorem dX6_lowest_35 : decode cX6_lowest 35 = .ok (.ldiv, 1) := by decide +kernel
theorem dX6_lowest_36 : decode cX6_lowest 36 = .ok (.putfield 86, 3) := by decide +kernel
theorem dX6_lowest_39 : decode cX6_lowest 39 = .ok (.aload_n 0, 1) := by decide +kernel
theorem dX6_lowest_40 : decode cX6_lowest 40 = .ok (.lload_n 3, 1) := by decide +kernel
theorem dX6_lowest_41 : decode cX6_lowest 41 = .ok (.lload 5, 2) := by decide +kernel
theorem dX6_lowest_43 : decode cX6_lowest 43 = .ok (.ldiv, 1) := by decide +kernel
theorem dX6_lowest_44 : decode cX6_lowest 44 = .ok (.putfield 7, 3) := by decide +kernel
theorem dX6_lowest_47 : decode cX6_lowest 47 = .ok (.iconst 1, 1) := by decide +kernel
theorem dX6_lowest_48 : decode cX6_lowest 48 = .ok (.ireturn, 1) := by decide +kernel
theorem dX6_finding_0 : decode cX6_finding 0 = .ok (.aload_n 0, 1) := by decide +kernel
theorem dX6_finding_1 : decode cX6_finding 1 = .ok (.getfield 79, 3) := by decide +kernel
theorem dX6_finding_4 : decode cX6_finding 4 = .ok (.ireturn, 1) := by decide +kernel
theorem dX6_findings_0 : decode cX6_findings 0 = .ok (.iload_n 1, 1) := by decide +kernel
theorem dX6_findings_1 : decode cX6_findings 1 = .ok (.iconst 1, 1) := by decide +kernel
theorem dX6_findings_2 : decode cX6_findings 2 = .ok (.iconst 5, 1) := by decide +kernel
theorem dX6_findings_3 : decode cX6_findings 3 = .ok (.invokestatic 89, 3) := by decide +kernel
theorem dX6_findings_6 : decode cX6_findings 6 = .ok (.ifCond .eq 12, 3) := by decide +kernel
theorem dX6_findings_9 : decode cX6_findings 9 = .ok (.aload_n 0, 1) := by decide +kernel
theorem dX6_findings_10 : decode cX6_findings 10 = .ok (.getfield 13, 3) := by decide +kernel
theorem dX6_findings_13 : decode cX6_findings 13 = .ok (.iload_n 1, 1) := by decide +kernel
theorem dX6_findings_14 : decode cX6_findings 14 = .ok (.iaload, 1) := by decide +kernel
theorem dX6_findings_15 : decode cX6_findings 15 = .ok (.goto 4, 3) := by decide +kernel
theorem dX6_findings_18 : decode cX6_findings 18 = .ok (.iconst (-1), 1) := by decide +kernel
theorem dX6_findings_19 : decode cX6_findings 19 = .ok (.ireturn, 1) := by decide +kernel
theorem dX6_isRow_0 : decode cX6_isRow 0 = .ok (.iload_n 0, 1) := by decide +kernel
theorem dX6_isRow_1 : decode cX6_isRow 1 = .ok (.iconst 0, 1) := by decide +kernel
theorem dX6_isRow_2 : decode cX6_isRow 2 = .ok (.iconst 5, 1) := by decide +kernel
theorem dX6_isRow_3 : decode cX6_isRow 3 = .ok (.invokestatic 89, 3) := by decide +kernel
theorem dX6_isRow_6 : decode cX6_isRow 6 = .ok (.ireturn, 1) := by decide +kernel
theorem dX6_rowAt_0 : decode cX6_rowAt 0 = .ok (.aload_n 0, 1) := by decide +kernel
theorem dX6_rowAt_1 : decode cX6_rowAt 1 = .ok (.getfield 20, 3) := by decide +kernel
theorem dX6_rowAt_4 : decode cX6_rowAt 4 = .ok (.bipush 40, 2) := by decide +kernel
theorem dX6_rowAt_6 : decode cX6_rowAt 6 = .ok (.iload_n 1, 1) := by decide +kernel
theorem dX6_rowAt_7 : decode cX6_rowAt 7 = .ok (.imul, 1) := by decide +kernel
theorem dX6_rowAt_8 : decode cX6_rowAt 8 = .ok (.iload_n 2, 1) := by decide +kernel
theorem dX6_rowAt_9 : decode cX6_rowAt 9 = .ok (.iadd, 1) := by decide +kernel
theorem dX6_rowAt_10 : decode cX6_rowAt 10 = .ok (.iaload, 1) := by decide +kernel
theorem dX6_rowAt_11 : decode cX6_rowAt 11 = .ok (.ireturn, 1) := by decide +kernel
theorem dX6_row_0 : decode cX6_row 0 = .ok (.iload_n 1, 1) := by decide +kernel
theorem dX6_row_1 : decode cX6_row 1 = .ok (.invokestatic 93, 3) := by decide +kernel
theorem dX6_row_4 : decode cX6_row 4 = .ok (.ifCond .eq 9, 3) := by decide +kernel
theorem dX6_row_7 : decode cX6_row 7 = .ok (.iload_n 2, 1) := by decide +kernel
theorem dX6_row_8 : decode cX6_row 8 = .ok (.bipush 40, 2) := by decide +kernel
theorem dX6_row_10 : decode cX6_row 10 = .ok (.if_icmp .le 5, 3) := by decide +kernel
theorem dX6_row_13 : decode cX6_row 13 = .ok (.iconst (-1), 1) := by decide +kernel
theorem dX6_row_14 : decode cX6_row 14 = .ok (.ireturn, 1) := by decide +kernel
theorem dX6_row_15 : decode cX6_row 15 = .ok (.iload_n 2, 1) := by decide +kernel
theorem dX6_row_16 : decode cX6_row 16 = .ok (.ifCond .ge 9, 3) := by decide +kernel
theorem dX6_row_19 : decode cX6_row 19 = .ok (.aload_n 0, 1) := by decide +kernel
theorem dX6_row_20 : decode cX6_row 20 = .ok (.iconst 5, 1) := by decide +kernel
theorem dX6_row_21 : decode cX6_row 21 = .ok (.invokevirtual 97, 3) := by decide +kernel
theorem dX6_row_24 : decode cX6_row 24 = .ok (.ireturn, 1) := by decide +kernel
theorem dX6_row_25 : decode cX6_row 25 = .ok (.aload_n 0, 1) := by decide +kernel
theorem dX6_row_26 : decode cX6_row 26 = .ok (.getfield 17, 3) := by decide +kernel
theorem dX6_row_29 : decode cX6_row 29 = .ok (.iload_n 1, 1) := by decide +kernel
theorem dX6_row_30 : decode cX6_row 30 = .ok (.iload_n 2, 1) := by decide +kernel
theorem dX6_row_31 : decode cX6_row 31 = .ok (.iastore, 1) := by decide +kernel
theorem dX6_row_32 : decode cX6_row 32 = .ok (.iconst 0, 1) := by decide +kernel
theorem dX6_row_33 : decode cX6_row 33 = .ok (.istore_n 3, 1) := by decide +kernel
theorem dX6_row_34 : decode cX6_row 34 = .ok (.iload_n 3, 1) := by decide +kernel
theorem dX6_row_35 : decode cX6_row 35 = .ok (.bipush 40, 2) := by decide +kernel
theorem dX6_row_37 : decode cX6_row 37 = .ok (.if_icmp .ge 21, 3) := by decide +kernel
theorem dX6_row_40 : decode cX6_row 40 = .ok (.aload_n 0, 1) := by decide +kernel
theorem dX6_row_41 : decode cX6_row 41 = .ok (.getfield 20, 3) := by decide +kernel
theorem dX6_row_44 : decode cX6_row 44 = .ok (.bipush 40, 2) := by decide +kernel
theorem dX6_row_46 : decode cX6_row 46 = .ok (.iload_n 1, 1) := by decide +kernel
theorem dX6_row_47 : decode cX6_row 47 = .ok (.imul, 1) := by decide +kernel
theorem dX6_row_48 : decode cX6_row 48 = .ok (.iload_n 3, 1) := by decide +kernel
theorem dX6_row_49 : decode cX6_row 49 = .ok (.iadd, 1) := by decide +kernel
theorem dX6_row_50 : decode cX6_row 50 = .ok (.iconst 0, 1) := by decide +kernel
theorem dX6_row_51 : decode cX6_row 51 = .ok (.iastore, 1) := by decide +kernel
theorem dX6_row_52 : decode cX6_row 52 = .ok (.iinc 3 1, 3) := by decide +kernel
theorem dX6_row_55 : decode cX6_row 55 = .ok (.goto (-21), 3) := by decide +kernel
theorem dX6_row_58 : decode cX6_row 58 = .ok (.iload_n 2, 1) := by decide +kernel
theorem dX6_row_59 : decode cX6_row 59 = .ok (.ireturn, 1) := by decide +kernel
theorem dX6_lay_0 : decode cX6_lay 0 = .ok (.iload_n 1, 1) := by decide +kernel
theorem dX6_lay_1 : decode cX6_lay 1 = .ok (.invokestatic 93, 3) := by decide +kernel
theorem dX6_lay_4 : decode cX6_lay 4 = .ok (.ifCond .ne 5, 3) := by decide +kernel
theorem dX6_lay_7 : decode cX6_lay 7 = .ok (.iconst (-1), 1) := by decide +kernel
theorem dX6_lay_8 : decode cX6_lay 8 = .ok (.ireturn, 1) := by decide +kernel
theorem dX6_lay_9 : decode cX6_lay 9 = .ok (.aload_n 0, 1) := by decide +kernel
theorem dX6_lay_10 : decode cX6_lay 10 = .ok (.getfield 17, 3) := by decide +kernel
theorem dX6_lay_13 : decode cX6_lay 13 = .ok (.iload_n 1, 1) := by decide +kernel
theorem dX6_lay_14 : decode cX6_lay 14 = .ok (.iaload, 1) := by decide +kernel
theorem dX6_lay_15 : decode cX6_lay 15 = .ok (.ifCond .ge 9, 3) := by decide +kernel
theorem dX6_lay_18 : decode cX6_lay 18 = .ok (.aload_n 0, 1) := by decide +kernel
theorem dX6_lay_19 : decode cX6_lay 19 = .ok (.iconst 1, 1) := by decide +kernel
theorem dX6_lay_20 : decode cX6_lay 20 = .ok (.invokevirtual 97, 3) := by decide +kernel
theorem dX6_lay_23 : decode cX6_lay 23 = .ok (.ireturn, 1) := by decide +kernel
theorem dX6_lay_24 : decode cX6_lay 24 = .ok (.iload_n 2, 1) := by decide +kernel
theorem dX6_lay_25 : decode cX6_lay 25 = .ok (.iconst 0, 1) := by decide +kernel
theorem dX6_lay_26 : decode cX6_lay 26 = .ok (.aload_n 0, 1) := by decide +kernel
theorem dX6_lay_27 : decode cX6_lay 27 = .ok (.getfield 17, 3) := by decide +kernel
theorem dX6_lay_30 : decode cX6_lay 30 = .ok (.iload_n 1, 1) := by decide +kernel
theorem dX6_lay_31 : decode cX6_lay 31 = .ok (.iaload, 1) := by decide +kernel
theorem dX6_lay_32 : decode cX6_lay 32 = .ok (.iconst 1, 1) := by decide +kernel
theorem dX6_lay_33 : decode cX6_lay 33 = .ok (.isub, 1) := by decide +kernel
theorem dX6_lay_34 : decode cX6_lay 34 = .ok (.invokestatic 89, 3) := by decide +kernel
theorem dX6_lay_37 : decode cX6_lay 37 = .ok (.ifCond .ne 9, 3) := by decide +kernel
theorem dX6_lay_40 : decode cX6_lay 40 = .ok (.aload_n 0, 1) := by decide +kernel
theorem dX6_lay_41 : decode cX6_lay 41 = .ok (.iconst 2, 1) := by decide +kernel
theorem dX6_lay_42 : decode cX6_lay 42 = .ok (.invokevirtual 97, 3) := by decide +kernel
theorem dX6_lay_45 : decode cX6_lay 45 = .ok (.ireturn, 1) := by decide +kernel
theorem dX6_lay_46 : decode cX6_lay 46 = .ok (.aload_n 0, 1) := by decide +kernel
theorem dX6_lay_47 : decode cX6_lay 47 = .ok (.iload_n 1, 1) := by decide +kernel
theorem dX6_lay_48 : decode cX6_lay 48 = .ok (.iload_n 2, 1) := by decide +kernel
theorem dX6_lay_49 : decode cX6_lay 49 = .ok (.invokevirtual 101, 3) := by decide +kernel
theorem dX6_lay_52 : decode cX6_lay 52 = .ok (.istore 4, 2) := by decide +kernel
theorem dX6_lay_54 : decode cX6_lay 54 = .ok (.aload_n 0, 1) := by decide +kernel
theorem dX6_lay_55 : decode cX6_lay 55 = .ok (.getfield 20, 3) := by decide +kernel
theorem dX6_lay_58 : decode cX6_lay 58 = .ok (.bipush 40, 2) := by decide +kernel
theorem dX6_lay_60 : decode cX6_lay 60 = .ok (.iload_n 1, 1) := by decide +kernel
theorem dX6_lay_61 : decode cX6_lay 61 = .ok (.imul, 1) := by decide +kernel
theorem dX6_lay_62 : decode cX6_lay 62 = .ok (.iload_n 2, 1) := by decide +kernel
theorem dX6_lay_63 : decode cX6_lay 63 = .ok (.iadd, 1) := by decide +kernel
theorem dX6_lay_64 : decode cX6_lay 64 = .ok (.iload_n 3, 1) := by decide +kernel
theorem dX6_lay_65 : decode cX6_lay 65 = .ok (.iastore, 1) := by decide +kernel
theorem dX6_lay_66 : decode cX6_lay 66 = .ok (.aload_n 0, 1) := by decide +kernel
theorem dX6_lay_67 : decode cX6_lay 67 = .ok (.iload 4, 2) := by decide +kernel
theorem dX6_lay_69 : decode cX6_lay 69 = .ok (.iconst 1, 1) := by decide +kernel
theorem dX6_lay_70 : decode cX6_lay 70 = .ok (.invokevirtual 105, 3) := by decide +kernel
theorem dX6_lay_73 : decode cX6_lay 73 = .ok (.ireturn, 1) := by decide +kernel
theorem dX6_at_0 : decode cX6_at 0 = .ok (.iload_n 1, 1) := by decide +kernel
theorem dX6_at_1 : decode cX6_at 1 = .ok (.invokestatic 93, 3) := by decide +kernel
theorem dX6_at_4 : decode cX6_at 4 = .ok (.ifCond .ne 5, 3) := by decide +kernel
theorem dX6_at_7 : decode cX6_at 7 = .ok (.iconst (-1), 1) := by decide +kernel
theorem dX6_at_8 : decode cX6_at 8 = .ok (.ireturn, 1) := by decide +kernel
theorem dX6_at_9 : decode cX6_at 9 = .ok (.aload_n 0, 1) := by decide +kernel
theorem dX6_at_10 : decode cX6_at 10 = .ok (.getfield 17, 3) := by decide +kernel
theorem dX6_at_13 : decode cX6_at 13 = .ok (.iload_n 1, 1) := by decide +kernel
theorem dX6_at_14 : decode cX6_at 14 = .ok (.iaload, 1) := by decide +kernel
theorem dX6_at_15 : decode cX6_at 15 = .ok (.ifCond .ge 9, 3) := by decide +kernel
theorem dX6_at_18 : decode cX6_at 18 = .ok (.aload_n 0, 1) := by decide +kernel
theorem dX6_at_19 : decode cX6_at 19 = .ok (.iconst 1, 1) := by decide +kernel
theorem dX6_at_20 : decode cX6_at 20 = .ok (.invokevirtual 97, 3) := by decide +kernel
theorem dX6_at_23 : decode cX6_at 23 = .ok (.ireturn, 1) := by decide +kernel
theorem dX6_at_24 : decode cX6_at 24 = .ok (.iload_n 2, 1) := by decide +kernel
theorem dX6_at_25 : decode cX6_at 25 = .ok (.iconst 0, 1) := by decide +kernel
theorem dX6_at_26 : decode cX6_at 26 = .ok (.aload_n 0, 1) := by decide +kernel
theorem dX6_at_27 : decode cX6_at 27 = .ok (.getfield 17, 3) := by decide +kernel
theorem dX6_at_30 : decode cX6_at 30 = .ok (.iload_n 1, 1) := by decide +kernel
theorem dX6_at_31 : decode cX6_at 31 = .ok (.iaload, 1) := by decide +kernel
theorem dX6_at_32 : decode cX6_at 32 = .ok (.iconst 1, 1) := by decide +kernel
theorem dX6_at_33 : decode cX6_at 33 = .ok (.isub, 1) := by decide +kernel
theorem dX6_at_34 : decode cX6_at 34 = .ok (.invokestatic 89, 3) := by decide +kernel
theorem dX6_at_37 : decode cX6_at 37 = .ok (.ifCond .eq 17, 3) := by decide +kernel
theorem dX6_at_40 : decode cX6_at 40 = .ok (.aload_n 0, 1) := by decide +kernel
theorem dX6_at_41 : decode cX6_at 41 = .ok (.aload_n 0, 1) := by decide +kernel
theorem dX6_at_42 : decode cX6_at 42 = .ok (.iload_n 1, 1) := by decide +kernel
theorem dX6_at_43 : decode cX6_at 43 = .ok (.iload_n 2, 1) := by decide +kernel
theorem dX6_at_44 : decode cX6_at 44 = .ok (.invokevirtual 101, 3) := by decide +kernel
theorem dX6_at_47 : decode cX6_at 47 = .ok (.iconst 1, 1) := by decide +kernel
theorem dX6_at_48 : decode cX6_at 48 = .ok (.invokevirtual 105, 3) := by decide +kernel
theorem dX6_at_51 : decode cX6_at 51 = .ok (.goto 8, 3) := by decide +kernel
theorem dX6_at_54 : decode cX6_at 54 = .ok (.aload_n 0, 1) := by decide +kernel
theorem dX6_at_55 : decode cX6_at 55 = .ok (.iconst 2, 1) := by decide +kernel
theorem dX6_at_56 : decode cX6_at 56 = .ok (.invokevirtual 97, 3) := by decide +kernel
theorem dX6_at_59 : decode cX6_at 59 = .ok (.ireturn, 1) := by decide +kernel
theorem dX6_tear_0 : decode cX6_tear 0 = .ok (.iload_n 1, 1) := by decide +kernel
theorem dX6_tear_1 : decode cX6_tear 1 = .ok (.invokestatic 93, 3) := by decide +kernel
theorem dX6_tear_4 : decode cX6_tear 4 = .ok (.ifCond .ne 5, 3) := by decide +kernel
theorem dX6_tear_7 : decode cX6_tear 7 = .ok (.iconst (-1), 1) := by decide +kernel
theorem dX6_tear_8 : decode cX6_tear 8 = .ok (.ireturn, 1) := by decide +kernel
theorem dX6_tear_9 : decode cX6_tear 9 = .ok (.aload_n 0, 1) := by decide +kernel
theorem dX6_tear_10 : decode cX6_tear 10 = .ok (.getfield 17, 3) := by decide +kernel
theorem dX6_tear_13 : decode cX6_tear 13 = .ok (.iload_n 1, 1) := by decide +kernel
theorem dX6_tear_14 : decode cX6_tear 14 = .ok (.iaload, 1) := by decide +kernel
theorem dX6_tear_15 : decode cX6_tear 15 = .ok (.ifCond .ge 9, 3) := by decide +kernel
theorem dX6_tear_18 : decode cX6_tear 18 = .ok (.aload_n 0, 1) := by decide +kernel
theorem dX6_tear_19 : decode cX6_tear 19 = .ok (.iconst 1, 1) := by decide +kernel
theorem dX6_tear_20 : decode cX6_tear 20 = .ok (.invokevirtual 97, 3) := by decide +kernel
theorem dX6_tear_23 : decode cX6_tear 23 = .ok (.ireturn, 1) := by decide +kernel
theorem dX6_tear_24 : decode cX6_tear 24 = .ok (.aload_n 0, 1) := by decide +kernel
theorem dX6_tear_25 : decode cX6_tear 25 = .ok (.getfield 17, 3) := by decide +kernel
theorem dX6_tear_28 : decode cX6_tear 28 = .ok (.iload_n 1, 1) := by decide +kernel
theorem dX6_tear_29 : decode cX6_tear 29 = .ok (.iconst (-1), 1) := by decide +kernel
theorem dX6_tear_30 : decode cX6_tear 30 = .ok (.iastore, 1) := by decide +kernel
theorem dX6_tear_31 : decode cX6_tear 31 = .ok (.iconst 1, 1) := by decide +kernel
theorem dX6_tear_32 : decode cX6_tear 32 = .ok (.ireturn, 1) := by decide +kernel
theorem dX6_copy_0 : decode cX6_copy 0 = .ok (.iload_n 1, 1) := by decide +kernel
theorem dX6_copy_1 : decode cX6_copy 1 = .ok (.invokestatic 93, 3) := by decide +kernel
theorem dX6_copy_4 : decode cX6_copy 4 = .ok (.ifCond .eq 10, 3) := by decide +kernel
theorem dX6_copy_7 : decode cX6_copy 7 = .ok (.iload_n 3, 1) := by decide +kernel
theorem dX6_copy_8 : decode cX6_copy 8 = .ok (.invokestatic 93, 3) := by decide +kernel
theorem dX6_copy_11 : decode cX6_copy 11 = .ok (.ifCond .ne 5, 3) := by decide +kernel
theorem dX6_copy_14 : decode cX6_copy 14 = .ok (.iconst (-1), 1) := by decide +kernel
theorem dX6_copy_15 : decode cX6_copy 15 = .ok (.ireturn, 1) := by decide +kernel
theorem dX6_copy_16 : decode cX6_copy 16 = .ok (.iload 5, 2) := by decide +kernel
theorem dX6_copy_18 : decode cX6_copy 18 = .ok (.ifCond .ge 9, 3) := by decide +kernel
theorem dX6_copy_21 : decode cX6_copy 21 = .ok (.aload_n 0, 1) := by decide +kernel
theorem dX6_copy_22 : decode cX6_copy 22 = .ok (.iconst 5, 1) := by decide +kernel
theorem dX6_copy_23 : decode cX6_copy 23 = .ok (.invokevirtual 97, 3) := by decide +kernel
theorem dX6_copy_26 : decode cX6_copy 26 = .ok (.ireturn, 1) := by decide +kernel
theorem dX6_copy_27 : decode cX6_copy 27 = .ok (.aload_n 0, 1) := by decide +kernel
theorem dX6_copy_28 : decode cX6_copy 28 = .ok (.getfield 17, 3) := by decide +kernel
theorem dX6_copy_31 : decode cX6_copy 31 = .ok (.iload_n 1, 1) := by decide +kernel
theorem dX6_copy_32 : decode cX6_copy 32 = .ok (.iaload, 1) := by decide +kernel
theorem dX6_copy_33 : decode cX6_copy 33 = .ok (.ifCond .lt 12, 3) := by decide +kernel
theorem dX6_copy_36 : decode cX6_copy 36 = .ok (.aload_n 0, 1) := by decide +kernel
theorem dX6_copy_37 : decode cX6_copy 37 = .ok (.getfield 17, 3) := by decide +kernel
theorem dX6_copy_40 : decode cX6_copy 40 = .ok (.iload_n 3, 1) := by decide +kernel
theorem dX6_copy_41 : decode cX6_copy 41 = .ok (.iaload, 1) := by decide +kernel
theorem dX6_copy_42 : decode cX6_copy 42 = .ok (.ifCond .ge 9, 3) := by decide +kernel
theorem dX6_copy_45 : decode cX6_copy 45 = .ok (.aload_n 0, 1) := by decide +kernel
theorem dX6_copy_46 : decode cX6_copy 46 = .ok (.iconst 1, 1) := by decide +kernel
theorem dX6_copy_47 : decode cX6_copy 47 = .ok (.invokevirtual 97, 3) := by decide +kernel
theorem dX6_copy_50 : decode cX6_copy 50 = .ok (.ireturn, 1) := by decide +kernel
theorem dX6_copy_51 : decode cX6_copy 51 = .ok (.iload_n 2, 1) := by decide +kernel
theorem dX6_copy_52 : decode cX6_copy 52 = .ok (.ifCond .lt 43, 3) := by decide +kernel
theorem dX6_copy_55 : decode cX6_copy 55 = .ok (.iload 4, 2) := by decide +kernel
theorem dX6_copy_57 : decode cX6_copy 57 = .ok (.ifCond .lt 38, 3) := by decide +kernel
theorem dX6_copy_60 : decode cX6_copy 60 = .ok (.iload_n 2, 1) := by decide +kernel
theorem dX6_copy_61 : decode cX6_copy 61 = .ok (.i2l, 1) := by decide +kernel
theorem dX6_copy_62 : decode cX6_copy 62 = .ok (.iload 5, 2) := by decide +kernel
theorem dX6_copy_64 : decode cX6_copy 64 = .ok (.i2l, 1) := by decide +kernel
theorem dX6_copy_65 : decode cX6_copy 65 = .ok (.ladd, 1) := by decide +kernel
theorem dX6_copy_66 : decode cX6_copy 66 = .ok (.aload_n 0, 1) := by decide +kernel
theorem dX6_copy_67 : decode cX6_copy 67 = .ok (.getfield 17, 3) := by decide +kernel
theorem dX6_copy_70 : decode cX6_copy 70 = .ok (.iload_n 1, 1) := by decide +kernel
theorem dX6_copy_71 : decode cX6_copy 71 = .ok (.iaload, 1) := by decide +kernel
theorem dX6_copy_72 : decode cX6_copy 72 = .ok (.i2l, 1) := by decide +kernel
theorem dX6_copy_73 : decode cX6_copy 73 = .ok (.lcmp, 1) := by decide +kernel
theorem dX6_copy_74 : decode cX6_copy 74 = .ok (.ifCond .gt 21, 3) := by decide +kernel
theorem dX6_copy_77 : decode cX6_copy 77 = .ok (.iload 4, 2) := by decide +kernel
theorem dX6_copy_79 : decode cX6_copy 79 = .ok (.i2l, 1) := by decide +kernel
theorem dX6_copy_80 : decode cX6_copy 80 = .ok (.iload 5, 2) := by decide +kernel
theorem dX6_copy_82 : decode cX6_copy 82 = .ok (.i2l, 1) := by decide +kernel
theorem dX6_copy_83 : decode cX6_copy 83 = .ok (.ladd, 1) := by decide +kernel
theorem dX6_copy_84 : decode cX6_copy 84 = .ok (.aload_n 0, 1) := by decide +kernel
theorem dX6_copy_85 : decode cX6_copy 85 = .ok (.getfield 17, 3) := by decide +kernel
theorem dX6_copy_88 : decode cX6_copy 88 = .ok (.iload_n 3, 1) := by decide +kernel
theorem dX6_copy_89 : decode cX6_copy 89 = .ok (.iaload, 1) := by decide +kernel
theorem dX6_copy_90 : decode cX6_copy 90 = .ok (.i2l, 1) := by decide +kernel
theorem dX6_copy_91 : decode cX6_copy 91 = .ok (.lcmp, 1) := by decide +kernel
theorem dX6_copy_92 : decode cX6_copy 92 = .ok (.ifCond .le 9, 3) := by decide +kernel
theorem dX6_copy_95 : decode cX6_copy 95 = .ok (.aload_n 0, 1) := by decide +kernel
theorem dX6_copy_96 : decode cX6_copy 96 = .ok (.iconst 2, 1) := by decide +kernel
theorem dX6_copy_97 : decode cX6_copy 97 = .ok (.invokevirtual 97, 3) := by decide +kernel
theorem dX6_copy_100 : decode cX6_copy 100 = .ok (.ireturn, 1) := by decide +kernel
theorem dX6_copy_101 : decode cX6_copy 101 = .ok (.iconst 0, 1) := by decide +kernel
theorem dX6_copy_102 : decode cX6_copy 102 = .ok (.istore 6, 2) := by decide +kernel
theorem dX6_copy_104 : decode cX6_copy 104 = .ok (.iload 6, 2) := by decide +kernel
theorem dX6_copy_106 : decode cX6_copy 106 = .ok (.iload 5, 2) := by decide +kernel
theorem dX6_copy_108 : decode cX6_copy 108 = .ok (.if_icmp .ge 25, 3) := by decide +kernel
theorem dX6_copy_111 : decode cX6_copy 111 = .ok (.aload_n 0, 1) := by decide +kernel
theorem dX6_copy_112 : decode cX6_copy 112 = .ok (.getfield 23, 3) := by decide +kernel
theorem dX6_copy_115 : decode cX6_copy 115 = .ok (.iload 6, 2) := by decide +kernel
theorem dX6_copy_117 : decode cX6_copy 117 = .ok (.aload_n 0, 1) := by decide +kernel
theorem dX6_copy_118 : decode cX6_copy 118 = .ok (.iload_n 1, 1) := by decide +kernel
theorem dX6_copy_119 : decode cX6_copy 119 = .ok (.iload_n 2, 1) := by decide +kernel
theorem dX6_copy_120 : decode cX6_copy 120 = .ok (.iload 6, 2) := by decide +kernel
theorem dX6_copy_122 : decode cX6_copy 122 = .ok (.iadd, 1) := by decide +kernel
theorem dX6_copy_123 : decode cX6_copy 123 = .ok (.invokevirtual 101, 3) := by decide +kernel
theorem dX6_copy_126 : decode cX6_copy 126 = .ok (.iastore, 1) := by decide +kernel
theorem dX6_copy_127 : decode cX6_copy 127 = .ok (.iinc 6 1, 3) := by decide +kernel
theorem dX6_copy_130 : decode cX6_copy 130 = .ok (.goto (-26), 3) := by decide +kernel
theorem dX6_copy_133 : decode cX6_copy 133 = .ok (.iconst 0, 1) := by decide +kernel
theorem dX6_copy_134 : decode cX6_copy 134 = .ok (.istore 6, 2) := by decide +kernel
theorem dX6_copy_136 : decode cX6_copy 136 = .ok (.iload 6, 2) := by decide +kernel
theorem dX6_copy_138 : decode cX6_copy 138 = .ok (.iload 5, 2) := by decide +kernel
theorem dX6_copy_140 : decode cX6_copy 140 = .ok (.if_icmp .ge 31, 3) := by decide +kernel
theorem dX6_copy_143 : decode cX6_copy 143 = .ok (.aload_n 0, 1) := by decide +kernel
theorem dX6_copy_144 : decode cX6_copy 144 = .ok (.getfield 20, 3) := by decide +kernel
theorem dX6_copy_147 : decode cX6_copy 147 = .ok (.bipush 40, 2) := by decide +kernel
theorem dX6_copy_149 : decode cX6_copy 149 = .ok (.iload_n 3, 1) := by decide +kernel
theorem dX6_copy_150 : decode cX6_copy 150 = .ok (.imul, 1) := by decide +kernel
theorem dX6_copy_151 : decode cX6_copy 151 = .ok (.iload 4, 2) := by decide +kernel
theorem dX6_copy_153 : decode cX6_copy 153 = .ok (.iadd, 1) := by decide +kernel
theorem dX6_copy_154 : decode cX6_copy 154 = .ok (.iload 6, 2) := by decide +kernel
theorem dX6_copy_156 : decode cX6_copy 156 = .ok (.iadd, 1) := by decide +kernel
theorem dX6_copy_157 : decode cX6_copy 157 = .ok (.aload_n 0, 1) := by decide +kernel
theorem dX6_copy_158 : decode cX6_copy 158 = .ok (.getfield 23, 3) := by decide +kernel
theorem dX6_copy_161 : decode cX6_copy 161 = .ok (.iload 6, 2) := by decide +kernel
theorem dX6_copy_163 : decode cX6_copy 163 = .ok (.iaload, 1) := by decide +kernel
theorem dX6_copy_164 : decode cX6_copy 164 = .ok (.iastore, 1) := by decide +kernel
theorem dX6_copy_165 : decode cX6_copy 165 = .ok (.iinc 6 1, 3) := by decide +kernel
theorem dX6_copy_168 : decode cX6_copy 168 = .ok (.goto (-32), 3) := by decide +kernel
theorem dX6_copy_171 : decode cX6_copy 171 = .ok (.iconst 1, 1) := by decide +kernel
theorem dX6_copy_172 : decode cX6_copy 172 = .ok (.ireturn, 1) := by decide +kernel
theorem dX6_mean_0 : decode cX6_mean 0 = .ok (.iload_n 1, 1) := by decide +kernel
theorem dX6_mean_1 : decode cX6_mean 1 = .ok (.invokestatic 93, 3) := by decide +kernel
theorem dX6_mean_4 : decode cX6_mean 4 = .ok (.ifCond .ne 5, 3) := by decide +kernel
theorem dX6_mean_7 : decode cX6_mean 7 = .ok (.iconst (-1), 1) := by decide +kernel
theorem dX6_mean_8 : decode cX6_mean 8 = .ok (.ireturn, 1) := by decide +kernel
theorem dX6_mean_9 : decode cX6_mean 9 = .ok (.aload_n 0, 1) := by decide +kernel
theorem dX6_mean_10 : decode cX6_mean 10 = .ok (.getfield 17, 3) := by decide +kernel
theorem dX6_mean_13 : decode cX6_mean 13 = .ok (.iload_n 1, 1) := by decide +kernel
theorem dX6_mean_14 : decode cX6_mean 14 = .ok (.iaload, 1) := by decide +kernel
theorem dX6_mean_15 : decode cX6_mean 15 = .ok (.ifCond .ge 9, 3) := by decide +kernel
theorem dX6_mean_18 : decode cX6_mean 18 = .ok (.aload_n 0, 1) := by decide +kernel
theorem dX6_mean_19 : decode cX6_mean 19 = .ok (.iconst 1, 1) := by decide +kernel
theorem dX6_mean_20 : decode cX6_mean 20 = .ok (.invokevirtual 97, 3) := by decide +kernel
theorem dX6_mean_23 : decode cX6_mean 23 = .ok (.ireturn, 1) := by decide +kernel
theorem dX6_mean_24 : decode cX6_mean 24 = .ok (.aload_n 0, 1) := by decide +kernel
theorem dX6_mean_25 : decode cX6_mean 25 = .ok (.getfield 17, 3) := by decide +kernel
theorem dX6_mean_28 : decode cX6_mean 28 = .ok (.iload_n 1, 1) := by decide +kernel
theorem dX6_mean_29 : decode cX6_mean 29 = .ok (.iaload, 1) := by decide +kernel
theorem dX6_mean_30 : decode cX6_mean 30 = .ok (.ifCond .ne 9, 3) := by decide +kernel
theorem dX6_mean_33 : decode cX6_mean 33 = .ok (.aload_n 0, 1) := by decide +kernel
theorem dX6_mean_34 : decode cX6_mean 34 = .ok (.iconst 4, 1) := by decide +kernel
theorem dX6_mean_35 : decode cX6_mean 35 = .ok (.invokevirtual 97, 3) := by decide +kernel
theorem dX6_mean_38 : decode cX6_mean 38 = .ok (.ireturn, 1) := by decide +kernel
theorem dX6_mean_39 : decode cX6_mean 39 = .ok (.lconst 0, 1) := by decide +kernel
theorem dX6_mean_40 : decode cX6_mean 40 = .ok (.lstore_n 2, 1) := by decide +kernel
theorem dX6_mean_41 : decode cX6_mean 41 = .ok (.iconst 0, 1) := by decide +kernel
theorem dX6_mean_42 : decode cX6_mean 42 = .ok (.istore 4, 2) := by decide +kernel
theorem dX6_mean_44 : decode cX6_mean 44 = .ok (.iload 4, 2) := by decide +kernel
theorem dX6_mean_46 : decode cX6_mean 46 = .ok (.aload_n 0, 1) := by decide +kernel
theorem dX6_mean_47 : decode cX6_mean 47 = .ok (.getfield 17, 3) := by decide +kernel
theorem dX6_mean_50 : decode cX6_mean 50 = .ok (.iload_n 1, 1) := by decide +kernel
theorem dX6_mean_51 : decode cX6_mean 51 = .ok (.iaload, 1) := by decide +kernel
theorem dX6_mean_52 : decode cX6_mean 52 = .ok (.if_icmp .ge 20, 3) := by decide +kernel
theorem dX6_mean_55 : decode cX6_mean 55 = .ok (.lload_n 2, 1) := by decide +kernel
theorem dX6_mean_56 : decode cX6_mean 56 = .ok (.aload_n 0, 1) := by decide +kernel
theorem dX6_mean_57 : decode cX6_mean 57 = .ok (.iload_n 1, 1) := by decide +kernel
theorem dX6_mean_58 : decode cX6_mean 58 = .ok (.iload 4, 2) := by decide +kernel
theorem dX6_mean_60 : decode cX6_mean 60 = .ok (.invokevirtual 101, 3) := by decide +kernel
theorem dX6_mean_63 : decode cX6_mean 63 = .ok (.i2l, 1) := by decide +kernel
theorem dX6_mean_64 : decode cX6_mean 64 = .ok (.ladd, 1) := by decide +kernel
theorem dX6_mean_65 : decode cX6_mean 65 = .ok (.lstore_n 2, 1) := by decide +kernel
theorem dX6_mean_66 : decode cX6_mean 66 = .ok (.iinc 4 1, 3) := by decide +kernel
theorem dX6_mean_69 : decode cX6_mean 69 = .ok (.goto (-25), 3) := by decide +kernel
theorem dX6_mean_72 : decode cX6_mean 72 = .ok (.aload_n 0, 1) := by decide +kernel
theorem dX6_mean_73 : decode cX6_mean 73 = .ok (.lload_n 2, 1) := by decide +kernel
theorem dX6_mean_74 : decode cX6_mean 74 = .ok (.aload_n 0, 1) := by decide +kernel
theorem dX6_mean_75 : decode cX6_mean 75 = .ok (.getfield 17, 3) := by decide +kernel
theorem dX6_mean_78 : decode cX6_mean 78 = .ok (.iload_n 1, 1) := by decide +kernel
theorem dX6_mean_79 : decode cX6_mean 79 = .ok (.iaload, 1) := by decide +kernel
theorem dX6_mean_80 : decode cX6_mean 80 = .ok (.i2l, 1) := by decide +kernel
theorem dX6_mean_81 : decode cX6_mean 81 = .ok (.ldiv, 1) := by decide +kernel
theorem dX6_mean_82 : decode cX6_mean 82 = .ok (.l2i, 1) := by decide +kernel
theorem dX6_mean_83 : decode cX6_mean 83 = .ok (.iconst 1, 1) := by decide +kernel
theorem dX6_mean_84 : decode cX6_mean 84 = .ok (.invokevirtual 105, 3) := by decide +kernel
theorem dX6_mean_87 : decode cX6_mean 87 = .ok (.ireturn, 1) := by decide +kernel
theorem dX6_isText_0 : decode cX6_isText 0 = .ok (.iload_n 0, 1) := by decide +kernel
theorem dX6_isText_1 : decode cX6_isText 1 = .ok (.iconst 0, 1) := by decide +kernel
theorem dX6_isText_2 : decode cX6_isText 2 = .ok (.iconst 3, 1) := by decide +kernel
theorem dX6_isText_3 : decode cX6_isText 3 = .ok (.invokestatic 89, 3) := by decide +kernel
theorem dX6_isText_6 : decode cX6_isText 6 = .ok (.ireturn, 1) := by decide +kernel
theorem dX6_text_0 : decode cX6_text 0 = .ok (.iload_n 1, 1) := by decide +kernel
theorem dX6_text_1 : decode cX6_text 1 = .ok (.invokestatic 108, 3) := by decide +kernel
theorem dX6_text_4 : decode cX6_text 4 = .ok (.ifCond .eq 9, 3) := by decide +kernel
theorem dX6_text_7 : decode cX6_text 7 = .ok (.iload_n 2, 1) := by decide +kernel
theorem dX6_text_8 : decode cX6_text 8 = .ok (.bipush 60, 2) := by decide +kernel
theorem dX6_text_10 : decode cX6_text 10 = .ok (.if_icmp .le 5, 3) := by decide +kernel
theorem dX6_text_13 : decode cX6_text 13 = .ok (.iconst (-1), 1) := by decide +kernel
theorem dX6_text_14 : decode cX6_text 14 = .ok (.ireturn, 1) := by decide +kernel
theorem dX6_text_15 : decode cX6_text 15 = .ok (.iload_n 2, 1) := by decide +kernel
theorem dX6_text_16 : decode cX6_text 16 = .ok (.ifCond .ge 9, 3) := by decide +kernel
theorem dX6_text_19 : decode cX6_text 19 = .ok (.aload_n 0, 1) := by decide +kernel
theorem dX6_text_20 : decode cX6_text 20 = .ok (.iconst 5, 1) := by decide +kernel
theorem dX6_text_21 : decode cX6_text 21 = .ok (.invokevirtual 97, 3) := by decide +kernel
theorem dX6_text_24 : decode cX6_text 24 = .ok (.ireturn, 1) := by decide +kernel
theorem dX6_text_25 : decode cX6_text 25 = .ok (.aload_n 0, 1) := by decide +kernel
theorem dX6_text_26 : decode cX6_text 26 = .ok (.getfield 26, 3) := by decide +kernel
theorem dX6_text_29 : decode cX6_text 29 = .ok (.iload_n 1, 1) := by decide +kernel
theorem dX6_text_30 : decode cX6_text 30 = .ok (.iload_n 2, 1) := by decide +kernel
theorem dX6_text_31 : decode cX6_text 31 = .ok (.iastore, 1) := by decide +kernel
theorem dX6_text_32 : decode cX6_text 32 = .ok (.iconst 0, 1) := by decide +kernel
theorem dX6_text_33 : decode cX6_text 33 = .ok (.istore_n 3, 1) := by decide +kernel
theorem dX6_text_34 : decode cX6_text 34 = .ok (.iload_n 3, 1) := by decide +kernel
theorem dX6_text_35 : decode cX6_text 35 = .ok (.bipush 60, 2) := by decide +kernel
theorem dX6_text_37 : decode cX6_text 37 = .ok (.if_icmp .ge 22, 3) := by decide +kernel
theorem dX6_text_40 : decode cX6_text 40 = .ok (.aload_n 0, 1) := by decide +kernel
theorem dX6_text_41 : decode cX6_text 41 = .ok (.getfield 29, 3) := by decide +kernel
theorem dX6_text_44 : decode cX6_text 44 = .ok (.bipush 60, 2) := by decide +kernel
theorem dX6_text_46 : decode cX6_text 46 = .ok (.iload_n 1, 1) := by decide +kernel
theorem dX6_text_47 : decode cX6_text 47 = .ok (.imul, 1) := by decide +kernel
theorem dX6_text_48 : decode cX6_text 48 = .ok (.iload_n 3, 1) := by decide +kernel
theorem dX6_text_49 : decode cX6_text 49 = .ok (.iadd, 1) := by decide +kernel
theorem dX6_text_50 : decode cX6_text 50 = .ok (.bipush 32, 2) := by decide +kernel
theorem dX6_text_52 : decode cX6_text 52 = .ok (.bastore, 1) := by decide +kernel
theorem dX6_text_53 : decode cX6_text 53 = .ok (.iinc 3 1, 3) := by decide +kernel
theorem dX6_text_56 : decode cX6_text 56 = .ok (.goto (-22), 3) := by decide +kernel
theorem dX6_text_59 : decode cX6_text 59 = .ok (.iload_n 2, 1) := by decide +kernel
theorem dX6_text_60 : decode cX6_text 60 = .ok (.ireturn, 1) := by decide +kernel
theorem dX6_put_0 : decode cX6_put 0 = .ok (.iload_n 1, 1) := by decide +kernel
theorem dX6_put_1 : decode cX6_put 1 = .ok (.invokestatic 108, 3) := by decide +kernel
theorem dX6_put_4 : decode cX6_put 4 = .ok (.ifCond .ne 5, 3) := by decide +kernel
theorem dX6_put_7 : decode cX6_put 7 = .ok (.iconst (-1), 1) := by decide +kernel
theorem dX6_put_8 : decode cX6_put 8 = .ok (.ireturn, 1) := by decide +kernel
theorem dX6_put_9 : decode cX6_put 9 = .ok (.aload_n 0, 1) := by decide +kernel
theorem dX6_put_10 : decode cX6_put 10 = .ok (.getfield 26, 3) := by decide +kernel
theorem dX6_put_13 : decode cX6_put 13 = .ok (.iload_n 1, 1) := by decide +kernel
theorem dX6_put_14 : decode cX6_put 14 = .ok (.iaload, 1) := by decide +kernel
theorem dX6_put_15 : decode cX6_put 15 = .ok (.ifCond .ge 9, 3) := by decide +kernel
theorem dX6_put_18 : decode cX6_put 18 = .ok (.aload_n 0, 1) := by decide +kernel
theorem dX6_put_19 : decode cX6_put 19 = .ok (.iconst 1, 1) := by decide +kernel
theorem dX6_put_20 : decode cX6_put 20 = .ok (.invokevirtual 97, 3) := by decide +kernel
theorem dX6_put_23 : decode cX6_put 23 = .ok (.ireturn, 1) := by decide +kernel
theorem dX6_put_24 : decode cX6_put 24 = .ok (.iload_n 2, 1) := by decide +kernel
theorem dX6_put_25 : decode cX6_put 25 = .ok (.iconst 0, 1) := by decide +kernel
theorem dX6_put_26 : decode cX6_put 26 = .ok (.aload_n 0, 1) := by decide +kernel
theorem dX6_put_27 : decode cX6_put 27 = .ok (.getfield 26, 3) := by decide +kernel
theorem dX6_put_30 : decode cX6_put 30 = .ok (.iload_n 1, 1) := by decide +kernel
theorem dX6_put_31 : decode cX6_put 31 = .ok (.iaload, 1) := by decide +kernel
theorem dX6_put_32 : decode cX6_put 32 = .ok (.iconst 1, 1) := by decide +kernel
theorem dX6_put_33 : decode cX6_put 33 = .ok (.isub, 1) := by decide +kernel
theorem dX6_put_34 : decode cX6_put 34 = .ok (.invokestatic 89, 3) := by decide +kernel
theorem dX6_put_37 : decode cX6_put 37 = .ok (.ifCond .ne 9, 3) := by decide +kernel
theorem dX6_put_40 : decode cX6_put 40 = .ok (.aload_n 0, 1) := by decide +kernel
theorem dX6_put_41 : decode cX6_put 41 = .ok (.iconst 2, 1) := by decide +kernel
theorem dX6_put_42 : decode cX6_put 42 = .ok (.invokevirtual 97, 3) := by decide +kernel
theorem dX6_put_45 : decode cX6_put 45 = .ok (.ireturn, 1) := by decide +kernel
theorem dX6_put_46 : decode cX6_put 46 = .ok (.aload_n 0, 1) := by decide +kernel
theorem dX6_put_47 : decode cX6_put 47 = .ok (.getfield 29, 3) := by decide +kernel
theorem dX6_put_50 : decode cX6_put 50 = .ok (.bipush 60, 2) := by decide +kernel
theorem dX6_put_52 : decode cX6_put 52 = .ok (.iload_n 1, 1) := by decide +kernel
theorem dX6_put_53 : decode cX6_put 53 = .ok (.imul, 1) := by decide +kernel
theorem dX6_put_54 : decode cX6_put 54 = .ok (.iload_n 2, 1) := by decide +kernel
theorem dX6_put_55 : decode cX6_put 55 = .ok (.iadd, 1) := by decide +kernel
theorem dX6_put_56 : decode cX6_put 56 = .ok (.baload, 1) := by decide +kernel
theorem dX6_put_57 : decode cX6_put 57 = .ok (.istore 4, 2) := by decide +kernel
theorem dX6_put_59 : decode cX6_put 59 = .ok (.aload_n 0, 1) := by decide +kernel
theorem dX6_put_60 : decode cX6_put 60 = .ok (.getfield 29, 3) := by decide +kernel
theorem dX6_put_63 : decode cX6_put 63 = .ok (.bipush 60, 2) := by decide +kernel
theorem dX6_put_65 : decode cX6_put 65 = .ok (.iload_n 1, 1) := by decide +kernel
theorem dX6_put_66 : decode cX6_put 66 = .ok (.imul, 1) := by decide +kernel
theorem dX6_put_67 : decode cX6_put 67 = .ok (.iload_n 2, 1) := by decide +kernel
theorem dX6_put_68 : decode cX6_put 68 = .ok (.iadd, 1) := by decide +kernel
theorem dX6_put_69 : decode cX6_put 69 = .ok (.iload_n 3, 1) := by decide +kernel
theorem dX6_put_70 : decode cX6_put 70 = .ok (.i2b, 1) := by decide +kernel
theorem dX6_put_71 : decode cX6_put 71 = .ok (.bastore, 1) := by decide +kernel
theorem dX6_put_72 : decode cX6_put 72 = .ok (.sipush 1000, 3) := by decide +kernel
theorem dX6_put_75 : decode cX6_put 75 = .ok (.iload 4, 2) := by decide +kernel
theorem dX6_put_77 : decode cX6_put 77 = .ok (.iadd, 1) := by decide +kernel
theorem dX6_put_78 : decode cX6_put 78 = .ok (.ireturn, 1) := by decide +kernel
theorem dX6_letterAt_0 : decode cX6_letterAt 0 = .ok (.iload_n 2, 1) := by decide +kernel
theorem dX6_letterAt_1 : decode cX6_letterAt 1 = .ok (.aload_n 0, 1) := by decide +kernel
theorem dX6_letterAt_2 : decode cX6_letterAt 2 = .ok (.getfield 26, 3) := by decide +kernel
theorem dX6_letterAt_5 : decode cX6_letterAt 5 = .ok (.iload_n 1, 1) := by decide +kernel
theorem dX6_letterAt_6 : decode cX6_letterAt 6 = .ok (.iaload, 1) := by decide +kernel
theorem dX6_letterAt_7 : decode cX6_letterAt 7 = .ok (.if_icmp .ge 17, 3) := by decide +kernel
theorem dX6_letterAt_10 : decode cX6_letterAt 10 = .ok (.aload_n 0, 1) := by decide +kernel
theorem dX6_letterAt_11 : decode cX6_letterAt 11 = .ok (.getfield 29, 3) := by decide +kernel
theorem dX6_letterAt_14 : decode cX6_letterAt 14 = .ok (.bipush 60, 2) := by decide +kernel
theorem dX6_letterAt_16 : decode cX6_letterAt 16 = .ok (.iload_n 1, 1) := by decide +kernel
theorem dX6_letterAt_17 : decode cX6_letterAt 17 = .ok (.imul, 1) := by decide +kernel
theorem dX6_letterAt_18 : decode cX6_letterAt 18 = .ok (.iload_n 2, 1) := by decide +kernel
theorem dX6_letterAt_19 : decode cX6_letterAt 19 = .ok (.iadd, 1) := by decide +kernel
theorem dX6_letterAt_20 : decode cX6_letterAt 20 = .ok (.baload, 1) := by decide +kernel
theorem dX6_letterAt_21 : decode cX6_letterAt 21 = .ok (.goto 4, 3) := by decide +kernel
theorem dX6_letterAt_24 : decode cX6_letterAt 24 = .ok (.iconst 0, 1) := by decide +kernel
theorem dX6_letterAt_25 : decode cX6_letterAt 25 = .ok (.ireturn, 1) := by decide +kernel
theorem dX6_kindOf_0 : decode cX6_kindOf 0 = .ok (.iload_n 0, 1) := by decide +kernel
theorem dX6_kindOf_1 : decode cX6_kindOf 1 = .ok (.tableswitch 103 99 117 #[91, 103, 95, 103, 97, 103, 99, 103, 103, 103, 103, 103, 103, 103, 103, 103, 93, 103, 101], 91) := by decide +kernel
theorem dX6_kindOf_92 : decode cX6_kindOf 92 = .ok (.iconst 0, 1) := by decide +kernel
theorem dX6_kindOf_93 : decode cX6_kindOf 93 = .ok (.ireturn, 1) := by decide +kernel
theorem dX6_kindOf_94 : decode cX6_kindOf 94 = .ok (.iconst 1, 1) := by decide +kernel
theorem dX6_kindOf_95 : decode cX6_kindOf 95 = .ok (.ireturn, 1) := by decide +kernel
theorem dX6_kindOf_96 : decode cX6_kindOf 96 = .ok (.iconst 2, 1) := by decide +kernel
theorem dX6_kindOf_97 : decode cX6_kindOf 97 = .ok (.ireturn, 1) := by decide +kernel
theorem dX6_kindOf_98 : decode cX6_kindOf 98 = .ok (.iconst 3, 1) := by decide +kernel
theorem dX6_kindOf_99 : decode cX6_kindOf 99 = .ok (.ireturn, 1) := by decide +kernel
theorem dX6_kindOf_100 : decode cX6_kindOf 100 = .ok (.iconst 4, 1) := by decide +kernel
theorem dX6_kindOf_101 : decode cX6_kindOf 101 = .ok (.ireturn, 1) := by decide +kernel
theorem dX6_kindOf_102 : decode cX6_kindOf 102 = .ok (.iconst 5, 1) := by decide +kernel
theorem dX6_kindOf_103 : decode cX6_kindOf 103 = .ok (.ireturn, 1) := by decide +kernel
theorem dX6_kindOf_104 : decode cX6_kindOf 104 = .ok (.bipush (-9), 2) := by decide +kernel
theorem dX6_kindOf_106 : decode cX6_kindOf 106 = .ok (.ireturn, 1) := by decide +kernel
theorem dX6_reads_0 : decode cX6_reads 0 = .ok (.aload_n 0, 1) := by decide +kernel
theorem dX6_reads_1 : decode cX6_reads 1 = .ok (.iload_n 1, 1) := by decide +kernel
theorem dX6_reads_2 : decode cX6_reads 2 = .ok (.aload_n 0, 1) := by decide +kernel
theorem dX6_reads_3 : decode cX6_reads 3 = .ok (.getfield 111, 3) := by decide +kernel
theorem dX6_reads_6 : decode cX6_reads 6 = .ok (.invokevirtual 114, 3) := by decide +kernel
theorem dX6_reads_9 : decode cX6_reads 9 = .ok (.bipush 48, 2) := by decide +kernel
theorem dX6_reads_11 : decode cX6_reads 11 = .ok (.isub, 1) := by decide +kernel
theorem dX6_reads_12 : decode cX6_reads 12 = .ok (.istore_n 3, 1) := by decide +kernel
theorem dX6_reads_13 : decode cX6_reads 13 = .ok (.iload_n 3, 1) := by decide +kernel
theorem dX6_reads_14 : decode cX6_reads 14 = .ok (.iload_n 2, 1) := by decide +kernel
theorem dX6_reads_15 : decode cX6_reads 15 = .ok (.bipush 9, 2) := by decide +kernel
theorem dX6_reads_17 : decode cX6_reads 17 = .ok (.invokestatic 89, 3) := by decide +kernel
theorem dX6_reads_20 : decode cX6_reads 20 = .ok (.ifCond .ne 6, 3) := by decide +kernel
theorem dX6_reads_23 : decode cX6_reads 23 = .ok (.bipush (-9), 2) := by decide +kernel
theorem dX6_reads_25 : decode cX6_reads 25 = .ok (.ireturn, 1) := by decide +kernel
theorem dX6_reads_26 : decode cX6_reads 26 = .ok (.aload_n 0, 1) := by decide +kernel
theorem dX6_reads_27 : decode cX6_reads 27 = .ok (.dup, 1) := by decide +kernel
theorem dX6_reads_28 : decode cX6_reads 28 = .ok (.getfield 111, 3) := by decide +kernel
theorem dX6_reads_31 : decode cX6_reads 31 = .ok (.iconst 1, 1) := by decide +kernel
theorem dX6_reads_32 : decode cX6_reads 32 = .ok (.iadd, 1) := by decide +kernel
theorem dX6_reads_33 : decode cX6_reads 33 = .ok (.putfield 111, 3) := by decide +kernel
theorem dX6_reads_36 : decode cX6_reads 36 = .ok (.iload_n 3, 1) := by decide +kernel
theorem dX6_reads_37 : decode cX6_reads 37 = .ok (.ireturn, 1) := by decide +kernel
theorem dX6_readsRoad_0 : decode cX6_readsRoad 0 = .ok (.aload_n 0, 1) := by decide +kernel
theorem dX6_readsRoad_1 : decode cX6_readsRoad 1 = .ok (.iload_n 1, 1) := by decide +kernel
theorem dX6_readsRoad_2 : decode cX6_readsRoad 2 = .ok (.aload_n 0, 1) := by decide +kernel
theorem dX6_readsRoad_3 : decode cX6_readsRoad 3 = .ok (.getfield 111, 3) := by decide +kernel
theorem dX6_readsRoad_6 : decode cX6_readsRoad 6 = .ok (.invokevirtual 114, 3) := by decide +kernel
theorem dX6_readsRoad_9 : decode cX6_readsRoad 9 = .ok (.bipush 114, 2) := by decide +kernel
theorem dX6_readsRoad_11 : decode cX6_readsRoad 11 = .ok (.if_icmp .eq 5, 3) := by decide +kernel
theorem dX6_readsRoad_14 : decode cX6_readsRoad 14 = .ok (.iconst 0, 1) := by decide +kernel
theorem dX6_readsRoad_15 : decode cX6_readsRoad 15 = .ok (.ireturn, 1) := by decide +kernel
theorem dX6_readsRoad_16 : decode cX6_readsRoad 16 = .ok (.aload_n 0, 1) := by decide +kernel
theorem dX6_readsRoad_17 : decode cX6_readsRoad 17 = .ok (.dup, 1) := by decide +kernel
theorem dX6_readsRoad_18 : decode cX6_readsRoad 18 = .ok (.getfield 111, 3) := by decide +kernel
theorem dX6_readsRoad_21 : decode cX6_readsRoad 21 = .ok (.iconst 1, 1) := by decide +kernel
theorem dX6_readsRoad_22 : decode cX6_readsRoad 22 = .ok (.iadd, 1) := by decide +kernel
theorem dX6_readsRoad_23 : decode cX6_readsRoad 23 = .ok (.putfield 111, 3) := by decide +kernel
theorem dX6_readsRoad_26 : decode cX6_readsRoad 26 = .ok (.iconst 0, 1) := by decide +kernel
theorem dX6_readsRoad_27 : decode cX6_readsRoad 27 = .ok (.istore_n 2, 1) := by decide +kernel
theorem dX6_readsRoad_28 : decode cX6_readsRoad 28 = .ok (.iload_n 2, 1) := by decide +kernel
theorem dX6_readsRoad_29 : decode cX6_readsRoad 29 = .ok (.bipush 8, 2) := by decide +kernel
theorem dX6_readsRoad_31 : decode cX6_readsRoad 31 = .ok (.if_icmp .ge 34, 3) := by decide +kernel
theorem dX6_readsRoad_34 : decode cX6_readsRoad 34 = .ok (.aload_n 0, 1) := by decide +kernel
theorem dX6_readsRoad_35 : decode cX6_readsRoad 35 = .ok (.getfield 33, 3) := by decide +kernel
theorem dX6_readsRoad_38 : decode cX6_readsRoad 38 = .ok (.iload_n 2, 1) := by decide +kernel
theorem dX6_readsRoad_39 : decode cX6_readsRoad 39 = .ok (.aload_n 0, 1) := by decide +kernel
theorem dX6_readsRoad_40 : decode cX6_readsRoad 40 = .ok (.iload_n 1, 1) := by decide +kernel
theorem dX6_readsRoad_41 : decode cX6_readsRoad 41 = .ok (.iconst 0, 1) := by decide +kernel
theorem dX6_readsRoad_42 : decode cX6_readsRoad 42 = .ok (.invokevirtual 117, 3) := by decide +kernel
theorem dX6_readsRoad_45 : decode cX6_readsRoad 45 = .ok (.iastore, 1) := by decide +kernel
theorem dX6_readsRoad_46 : decode cX6_readsRoad 46 = .ok (.aload_n 0, 1) := by decide +kernel
theorem dX6_readsRoad_47 : decode cX6_readsRoad 47 = .ok (.getfield 33, 3) := by decide +kernel
theorem dX6_readsRoad_50 : decode cX6_readsRoad 50 = .ok (.iload_n 2, 1) := by decide +kernel
theorem dX6_readsRoad_51 : decode cX6_readsRoad 51 = .ok (.iaload, 1) := by decide +kernel
theorem dX6_readsRoad_52 : decode cX6_readsRoad 52 = .ok (.bipush (-9), 2) := by decide +kernel
theorem dX6_readsRoad_54 : decode cX6_readsRoad 54 = .ok (.if_icmp .ne 5, 3) := by decide +kernel
theorem dX6_readsRoad_57 : decode cX6_readsRoad 57 = .ok (.iconst 0, 1) := by decide +kernel
theorem dX6_readsRoad_58 : decode cX6_readsRoad 58 = .ok (.ireturn, 1) := by decide +kernel
theorem dX6_readsRoad_59 : decode cX6_readsRoad 59 = .ok (.iinc 2 1, 3) := by decide +kernel
theorem dX6_readsRoad_62 : decode cX6_readsRoad 62 = .ok (.goto (-34), 3) := by decide +kernel
theorem dX6_readsRoad_65 : decode cX6_readsRoad 65 = .ok (.aload_n 0, 1) := by decide +kernel
theorem dX6_readsRoad_66 : decode cX6_readsRoad 66 = .ok (.getfield 111, 3) := by decide +kernel
theorem dX6_readsRoad_69 : decode cX6_readsRoad 69 = .ok (.istore_n 2, 1) := by decide +kernel
theorem dX6_readsRoad_70 : decode cX6_readsRoad 70 = .ok (.aload_n 0, 1) := by decide +kernel
theorem dX6_readsRoad_71 : decode cX6_readsRoad 71 = .ok (.iload_n 1, 1) := by decide +kernel
theorem dX6_readsRoad_72 : decode cX6_readsRoad 72 = .ok (.iconst 0, 1) := by decide +kernel
theorem dX6_readsRoad_73 : decode cX6_readsRoad 73 = .ok (.invokevirtual 117, 3) := by decide +kernel
theorem dX6_readsRoad_76 : decode cX6_readsRoad 76 = .ok (.istore_n 3, 1) := by decide +kernel
theorem dX6_readsRoad_77 : decode cX6_readsRoad 77 = .ok (.iload_n 3, 1) := by decide +kernel
theorem dX6_readsRoad_78 : decode cX6_readsRoad 78 = .ok (.bipush (-9), 2) := by decide +kernel
theorem dX6_readsRoad_80 : decode cX6_readsRoad 80 = .ok (.if_icmp .ne 8, 3) := by decide +kernel
theorem dX6_readsRoad_83 : decode cX6_readsRoad 83 = .ok (.bipush (-9), 2) := by decide +kernel
theorem dX6_readsRoad_85 : decode cX6_readsRoad 85 = .ok (.goto 9, 3) := by decide +kernel
theorem dX6_readsRoad_88 : decode cX6_readsRoad 88 = .ok (.aload_n 0, 1) := by decide +kernel
theorem dX6_readsRoad_89 : decode cX6_readsRoad 89 = .ok (.iload_n 1, 1) := by decide +kernel
theorem dX6_readsRoad_90 : decode cX6_readsRoad 90 = .ok (.iconst 0, 1) := by decide +kernel
theorem dX6_readsRoad_91 : decode cX6_readsRoad 91 = .ok (.invokevirtual 117, 3) := by decide +kernel
theorem dX6_readsRoad_94 : decode cX6_readsRoad 94 = .ok (.istore 4, 2) := by decide +kernel
theorem dX6_readsRoad_96 : decode cX6_readsRoad 96 = .ok (.iload 4, 2) := by decide +kernel
theorem dX6_readsRoad_98 : decode cX6_readsRoad 98 = .ok (.bipush (-9), 2) := by decide +kernel
theorem dX6_readsRoad_100 : decode cX6_readsRoad 100 = .ok (.if_icmp .ne 5, 3) := by decide +kernel
theorem dX6_readsRoad_103 : decode cX6_readsRoad 103 = .ok (.iconst 0, 1) := by decide +kernel
theorem dX6_readsRoad_104 : decode cX6_readsRoad 104 = .ok (.ireturn, 1) := by decide +kernel
theorem dX6_readsRoad_105 : decode cX6_readsRoad 105 = .ok (.aload_n 0, 1) := by decide +kernel
theorem dX6_readsRoad_106 : decode cX6_readsRoad 106 = .ok (.bipush 10, 2) := by decide +kernel
theorem dX6_readsRoad_108 : decode cX6_readsRoad 108 = .ok (.iload_n 3, 1) := by decide +kernel
theorem dX6_readsRoad_109 : decode cX6_readsRoad 109 = .ok (.imul, 1) := by decide +kernel
theorem dX6_readsRoad_110 : decode cX6_readsRoad 110 = .ok (.iload 4, 2) := by decide +kernel
theorem dX6_readsRoad_112 : decode cX6_readsRoad 112 = .ok (.iadd, 1) := by decide +kernel
theorem dX6_readsRoad_113 : decode cX6_readsRoad 113 = .ok (.putfield 120, 3) := by decide +kernel
theorem dX6_readsRoad_116 : decode cX6_readsRoad 116 = .ok (.aload_n 0, 1) := by decide +kernel
theorem dX6_readsRoad_117 : decode cX6_readsRoad 117 = .ok (.aload_n 0, 1) := by decide +kernel
theorem dX6_readsRoad_118 : decode cX6_readsRoad 118 = .ok (.getfield 120, 3) := by decide +kernel
theorem dX6_readsRoad_121 : decode cX6_readsRoad 121 = .ok (.bipush 60, 2) := by decide +kernel
theorem dX6_readsRoad_123 : decode cX6_readsRoad 123 = .ok (.if_icmp .le 7, 3) := by decide +kernel
theorem dX6_readsRoad_126 : decode cX6_readsRoad 126 = .ok (.iload_n 2, 1) := by decide +kernel
theorem dX6_readsRoad_127 : decode cX6_readsRoad 127 = .ok (.goto 7, 3) := by decide +kernel
theorem dX6_readsRoad_130 : decode cX6_readsRoad 130 = .ok (.aload_n 0, 1) := by decide +kernel
theorem dX6_readsRoad_131 : decode cX6_readsRoad 131 = .ok (.getfield 111, 3) := by decide +kernel
theorem dX6_readsRoad_134 : decode cX6_readsRoad 134 = .ok (.putfield 111, 3) := by decide +kernel
theorem dX6_readsRoad_137 : decode cX6_readsRoad 137 = .ok (.aload_n 0, 1) := by decide +kernel
theorem dX6_readsRoad_138 : decode cX6_readsRoad 138 = .ok (.iconst 1, 1) := by decide +kernel
theorem dX6_readsRoad_139 : decode cX6_readsRoad 139 = .ok (.putfield 123, 3) := by decide +kernel
theorem dX6_readsRoad_142 : decode cX6_readsRoad 142 = .ok (.aload_n 0, 1) := by decide +kernel
theorem dX6_readsRoad_143 : decode cX6_readsRoad 143 = .ok (.getfield 120, 3) := by decide +kernel
theorem dX6_readsRoad_146 : decode cX6_readsRoad 146 = .ok (.bipush 60, 2) := by decide +kernel
theorem dX6_readsRoad_148 : decode cX6_readsRoad 148 = .ok (.if_icmp .gt 7, 3) := by decide +kernel
theorem dX6_readsRoad_151 : decode cX6_readsRoad 151 = .ok (.iconst 1, 1) := by decide +kernel
theorem dX6_readsRoad_152 : decode cX6_readsRoad 152 = .ok (.goto 4, 3) := by decide +kernel
theorem dX6_readsRoad_155 : decode cX6_readsRoad 155 = .ok (.iconst 0, 1) := by decide +kernel
theorem dX6_readsRoad_156 : decode cX6_readsRoad 156 = .ok (.ireturn, 1) := by decide +kernel
theorem dX6_readsSpoke_0 : decode cX6_readsSpoke 0 = .ok (.aload_n 0, 1) := by decide +kernel
theorem dX6_readsSpoke_1 : decode cX6_readsSpoke 1 = .ok (.iload_n 1, 1) := by decide +kernel
theorem dX6_readsSpoke_2 : decode cX6_readsSpoke 2 = .ok (.aload_n 0, 1) := by decide +kernel
theorem dX6_readsSpoke_3 : decode cX6_readsSpoke 3 = .ok (.getfield 111, 3) := by decide +kernel
theorem dX6_readsSpoke_6 : decode cX6_readsSpoke 6 = .ok (.invokevirtual 114, 3) := by decide +kernel
theorem dX6_readsSpoke_9 : decode cX6_readsSpoke 9 = .ok (.invokestatic 127, 3) := by decide +kernel
theorem dX6_readsSpoke_12 : decode cX6_readsSpoke 12 = .ok (.istore_n 2, 1) := by decide +kernel
theorem dX6_readsSpoke_13 : decode cX6_readsSpoke 13 = .ok (.iload_n 2, 1) := by decide +kernel
theorem dX6_readsSpoke_14 : decode cX6_readsSpoke 14 = .ok (.bipush (-9), 2) := by decide +kernel
theorem dX6_readsSpoke_16 : decode cX6_readsSpoke 16 = .ok (.if_icmp .eq 12, 3) := by decide +kernel
theorem dX6_readsSpoke_19 : decode cX6_readsSpoke 19 = .ok (.aload_n 0, 1) := by decide +kernel
theorem dX6_readsSpoke_20 : decode cX6_readsSpoke 20 = .ok (.getfield 130, 3) := by decide +kernel
theorem dX6_readsSpoke_23 : decode cX6_readsSpoke 23 = .ok (.bipush 8, 2) := by decide +kernel
theorem dX6_readsSpoke_25 : decode cX6_readsSpoke 25 = .ok (.if_icmp .ne 5, 3) := by decide +kernel
theorem dX6_readsSpoke_28 : decode cX6_readsSpoke 28 = .ok (.iconst 0, 1) := by decide +kernel
theorem dX6_readsSpoke_29 : decode cX6_readsSpoke 29 = .ok (.ireturn, 1) := by decide +kernel
theorem dX6_readsSpoke_30 : decode cX6_readsSpoke 30 = .ok (.aload_n 0, 1) := by decide +kernel
theorem dX6_readsSpoke_31 : decode cX6_readsSpoke 31 = .ok (.dup, 1) := by decide +kernel
theorem dX6_readsSpoke_32 : decode cX6_readsSpoke 32 = .ok (.getfield 111, 3) := by decide +kernel
theorem dX6_readsSpoke_35 : decode cX6_readsSpoke 35 = .ok (.iconst 1, 1) := by decide +kernel
theorem dX6_readsSpoke_36 : decode cX6_readsSpoke 36 = .ok (.iadd, 1) := by decide +kernel
theorem dX6_readsSpoke_37 : decode cX6_readsSpoke 37 = .ok (.putfield 111, 3) := by decide +kernel
theorem dX6_readsSpoke_40 : decode cX6_readsSpoke 40 = .ok (.aload_n 0, 1) := by decide +kernel
theorem dX6_readsSpoke_41 : decode cX6_readsSpoke 41 = .ok (.iload_n 1, 1) := by decide +kernel
theorem dX6_readsSpoke_42 : decode cX6_readsSpoke 42 = .ok (.iconst 1, 1) := by decide +kernel
theorem dX6_readsSpoke_43 : decode cX6_readsSpoke 43 = .ok (.invokevirtual 117, 3) := by decide +kernel
theorem dX6_readsSpoke_46 : decode cX6_readsSpoke 46 = .ok (.istore_n 3, 1) := by decide +kernel
theorem dX6_readsSpoke_47 : decode cX6_readsSpoke 47 = .ok (.iload_n 3, 1) := by decide +kernel
theorem dX6_readsSpoke_48 : decode cX6_readsSpoke 48 = .ok (.bipush (-9), 2) := by decide +kernel
theorem dX6_readsSpoke_50 : decode cX6_readsSpoke 50 = .ok (.if_icmp .ne 8, 3) := by decide +kernel
theorem dX6_readsSpoke_53 : decode cX6_readsSpoke 53 = .ok (.bipush (-9), 2) := by decide +kernel
theorem dX6_readsSpoke_55 : decode cX6_readsSpoke 55 = .ok (.goto 9, 3) := by decide +kernel
theorem dX6_readsSpoke_58 : decode cX6_readsSpoke 58 = .ok (.aload_n 0, 1) := by decide +kernel
theorem dX6_readsSpoke_59 : decode cX6_readsSpoke 59 = .ok (.iload_n 1, 1) := by decide +kernel
theorem dX6_readsSpoke_60 : decode cX6_readsSpoke 60 = .ok (.iconst 0, 1) := by decide +kernel
theorem dX6_readsSpoke_61 : decode cX6_readsSpoke 61 = .ok (.invokevirtual 117, 3) := by decide +kernel
theorem dX6_readsSpoke_64 : decode cX6_readsSpoke 64 = .ok (.istore 4, 2) := by decide +kernel
theorem dX6_readsSpoke_66 : decode cX6_readsSpoke 66 = .ok (.iload 4, 2) := by decide +kernel
theorem dX6_readsSpoke_68 : decode cX6_readsSpoke 68 = .ok (.bipush (-9), 2) := by decide +kernel
theorem dX6_readsSpoke_70 : decode cX6_readsSpoke 70 = .ok (.if_icmp .ne 5, 3) := by decide +kernel
theorem dX6_readsSpoke_73 : decode cX6_readsSpoke 73 = .ok (.iconst 0, 1) := by decide +kernel
theorem dX6_readsSpoke_74 : decode cX6_readsSpoke 74 = .ok (.ireturn, 1) := by decide +kernel
theorem dX6_readsSpoke_75 : decode cX6_readsSpoke 75 = .ok (.aload_n 0, 1) := by decide +kernel
theorem dX6_readsSpoke_76 : decode cX6_readsSpoke 76 = .ok (.getfield 36, 3) := by decide +kernel
theorem dX6_readsSpoke_79 : decode cX6_readsSpoke 79 = .ok (.aload_n 0, 1) := by decide +kernel
theorem dX6_readsSpoke_80 : decode cX6_readsSpoke 80 = .ok (.getfield 130, 3) := by decide +kernel
theorem dX6_readsSpoke_83 : decode cX6_readsSpoke 83 = .ok (.iload_n 2, 1) := by decide +kernel
theorem dX6_readsSpoke_84 : decode cX6_readsSpoke 84 = .ok (.iastore, 1) := by decide +kernel
theorem dX6_readsSpoke_85 : decode cX6_readsSpoke 85 = .ok (.aload_n 0, 1) := by decide +kernel
theorem dX6_readsSpoke_86 : decode cX6_readsSpoke 86 = .ok (.getfield 39, 3) := by decide +kernel
theorem dX6_readsSpoke_89 : decode cX6_readsSpoke 89 = .ok (.aload_n 0, 1) := by decide +kernel
theorem dX6_readsSpoke_90 : decode cX6_readsSpoke 90 = .ok (.getfield 130, 3) := by decide +kernel
theorem dX6_readsSpoke_93 : decode cX6_readsSpoke 93 = .ok (.iload_n 3, 1) := by decide +kernel
theorem dX6_readsSpoke_94 : decode cX6_readsSpoke 94 = .ok (.iastore, 1) := by decide +kernel
theorem dX6_readsSpoke_95 : decode cX6_readsSpoke 95 = .ok (.aload_n 0, 1) := by decide +kernel
theorem dX6_readsSpoke_96 : decode cX6_readsSpoke 96 = .ok (.getfield 42, 3) := by decide +kernel
theorem dX6_readsSpoke_99 : decode cX6_readsSpoke 99 = .ok (.aload_n 0, 1) := by decide +kernel
theorem dX6_readsSpoke_100 : decode cX6_readsSpoke 100 = .ok (.getfield 130, 3) := by decide +kernel
theorem dX6_readsSpoke_103 : decode cX6_readsSpoke 103 = .ok (.iload 4, 2) := by decide +kernel
theorem dX6_readsSpoke_105 : decode cX6_readsSpoke 105 = .ok (.iastore, 1) := by decide +kernel
theorem dX6_readsSpoke_106 : decode cX6_readsSpoke 106 = .ok (.aload_n 0, 1) := by decide +kernel
theorem dX6_readsSpoke_107 : decode cX6_readsSpoke 107 = .ok (.dup, 1) := by decide +kernel
theorem dX6_readsSpoke_108 : decode cX6_readsSpoke 108 = .ok (.getfield 130, 3) := by decide +kernel
theorem dX6_readsSpoke_111 : decode cX6_readsSpoke 111 = .ok (.iconst 1, 1) := by decide +kernel
theorem dX6_readsSpoke_112 : decode cX6_readsSpoke 112 = .ok (.iadd, 1) := by decide +kernel
theorem dX6_readsSpoke_113 : decode cX6_readsSpoke 113 = .ok (.putfield 130, 3) := by decide +kernel
theorem dX6_readsSpoke_116 : decode cX6_readsSpoke 116 = .ok (.iconst 1, 1) := by decide +kernel
theorem dX6_readsSpoke_117 : decode cX6_readsSpoke 117 = .ok (.ireturn, 1) := by decide +kernel
theorem dX6_faultOf_0 : decode cX6_faultOf 0 = .ok (.aload_n 0, 1) := by decide +kernel
theorem dX6_faultOf_1 : decode cX6_faultOf 1 = .ok (.iconst 0, 1) := by decide +kernel
theorem dX6_faultOf_2 : decode cX6_faultOf 2 = .ok (.putfield 111, 3) := by decide +kernel
theorem dX6_faultOf_5 : decode cX6_faultOf 5 = .ok (.aload_n 0, 1) := by decide +kernel
theorem dX6_faultOf_6 : decode cX6_faultOf 6 = .ok (.iconst 0, 1) := by decide +kernel
theorem dX6_faultOf_7 : decode cX6_faultOf 7 = .ok (.putfield 130, 3) := by decide +kernel
theorem dX6_faultOf_10 : decode cX6_faultOf 10 = .ok (.aload_n 0, 1) := by decide +kernel
theorem dX6_faultOf_11 : decode cX6_faultOf 11 = .ok (.iconst 0, 1) := by decide +kernel
theorem dX6_faultOf_12 : decode cX6_faultOf 12 = .ok (.putfield 123, 3) := by decide +kernel
theorem dX6_faultOf_15 : decode cX6_faultOf 15 = .ok (.aload_n 0, 1) := by decide +kernel
theorem dX6_faultOf_16 : decode cX6_faultOf 16 = .ok (.getfield 111, 3) := by decide +kernel
theorem dX6_faultOf_19 : decode cX6_faultOf 19 = .ok (.aload_n 0, 1) := by decide +kernel
theorem dX6_faultOf_20 : decode cX6_faultOf 20 = .ok (.getfield 26, 3) := by decide +kernel
theorem dX6_faultOf_23 : decode cX6_faultOf 23 = .ok (.iload_n 1, 1) := by decide +kernel
theorem dX6_faultOf_24 : decode cX6_faultOf 24 = .ok (.iaload, 1) := by decide +kernel
theorem dX6_faultOf_25 : decode cX6_faultOf 25 = .ok (.if_icmp .ge 61, 3) := by decide +kernel
theorem dX6_faultOf_28 : decode cX6_faultOf 28 = .ok (.aload_n 0, 1) := by decide +kernel
theorem dX6_faultOf_29 : decode cX6_faultOf 29 = .ok (.iload_n 1, 1) := by decide +kernel
theorem dX6_faultOf_30 : decode cX6_faultOf 30 = .ok (.aload_n 0, 1) := by decide +kernel
theorem dX6_faultOf_31 : decode cX6_faultOf 31 = .ok (.getfield 111, 3) := by decide +kernel
theorem dX6_faultOf_34 : decode cX6_faultOf 34 = .ok (.invokevirtual 114, 3) := by decide +kernel
theorem dX6_faultOf_37 : decode cX6_faultOf 37 = .ok (.bipush 32, 2) := by decide +kernel
theorem dX6_faultOf_39 : decode cX6_faultOf 39 = .ok (.if_icmp .ne 16, 3) := by decide +kernel
theorem dX6_faultOf_42 : decode cX6_faultOf 42 = .ok (.aload_n 0, 1) := by decide +kernel
theorem dX6_faultOf_43 : decode cX6_faultOf 43 = .ok (.dup, 1) := by decide +kernel
theorem dX6_faultOf_44 : decode cX6_faultOf 44 = .ok (.getfield 111, 3) := by decide +kernel
theorem dX6_faultOf_47 : decode cX6_faultOf 47 = .ok (.iconst 1, 1) := by decide +kernel
theorem dX6_faultOf_48 : decode cX6_faultOf 48 = .ok (.iadd, 1) := by decide +kernel
theorem dX6_faultOf_49 : decode cX6_faultOf 49 = .ok (.putfield 111, 3) := by decide +kernel
theorem dX6_faultOf_52 : decode cX6_faultOf 52 = .ok (.goto (-37), 3) := by decide +kernel
theorem dX6_faultOf_55 : decode cX6_faultOf 55 = .ok (.aload_n 0, 1) := by decide +kernel
theorem dX6_faultOf_56 : decode cX6_faultOf 56 = .ok (.getfield 123, 3) := by decide +kernel
theorem dX6_faultOf_59 : decode cX6_faultOf 59 = .ok (.ifCond .eq 14, 3) := by decide +kernel
theorem dX6_faultOf_62 : decode cX6_faultOf 62 = .ok (.aload_n 0, 1) := by decide +kernel
theorem dX6_faultOf_63 : decode cX6_faultOf 63 = .ok (.iload_n 1, 1) := by decide +kernel
theorem dX6_faultOf_64 : decode cX6_faultOf 64 = .ok (.invokevirtual 133, 3) := by decide +kernel
theorem dX6_faultOf_67 : decode cX6_faultOf 67 = .ok (.ifCond .eq 14, 3) := by decide +kernel
theorem dX6_faultOf_70 : decode cX6_faultOf 70 = .ok (.goto (-55), 3) := by decide +kernel
theorem dX6_faultOf_73 : decode cX6_faultOf 73 = .ok (.aload_n 0, 1) := by decide +kernel
theorem dX6_faultOf_74 : decode cX6_faultOf 74 = .ok (.iload_n 1, 1) := by decide +kernel
theorem dX6_faultOf_75 : decode cX6_faultOf 75 = .ok (.invokevirtual 136, 3) := by decide +kernel
theorem dX6_faultOf_78 : decode cX6_faultOf 78 = .ok (.ifCond .ne (-63), 3) := by decide +kernel
theorem dX6_faultOf_81 : decode cX6_faultOf 81 = .ok (.aload_n 0, 1) := by decide +kernel
theorem dX6_faultOf_82 : decode cX6_faultOf 82 = .ok (.getfield 111, 3) := by decide +kernel
theorem dX6_faultOf_85 : decode cX6_faultOf 85 = .ok (.ireturn, 1) := by decide +kernel
theorem dX6_faultOf_86 : decode cX6_faultOf 86 = .ok (.aload_n 0, 1) := by decide +kernel
theorem dX6_faultOf_87 : decode cX6_faultOf 87 = .ok (.getfield 130, 3) := by decide +kernel
theorem dX6_faultOf_90 : decode cX6_faultOf 90 = .ok (.iconst 3, 1) := by decide +kernel
theorem dX6_faultOf_91 : decode cX6_faultOf 91 = .ok (.if_icmp .ge 12, 3) := by decide +kernel
theorem dX6_faultOf_94 : decode cX6_faultOf 94 = .ok (.aload_n 0, 1) := by decide +kernel
theorem dX6_faultOf_95 : decode cX6_faultOf 95 = .ok (.getfield 26, 3) := by decide +kernel
theorem dX6_faultOf_98 : decode cX6_faultOf 98 = .ok (.iload_n 1, 1) := by decide +kernel
theorem dX6_faultOf_99 : decode cX6_faultOf 99 = .ok (.iaload, 1) := by decide +kernel
theorem dX6_faultOf_100 : decode cX6_faultOf 100 = .ok (.goto 5, 3) := by decide +kernel
theorem dX6_faultOf_103 : decode cX6_faultOf 103 = .ok (.bipush (-9), 2) := by decide +kernel
theorem dX6_faultOf_105 : decode cX6_faultOf 105 = .ok (.ireturn, 1) := by decide +kernel
theorem dX6_fault_0 : decode cX6_fault 0 = .ok (.iload_n 1, 1) := by decide +kernel
theorem dX6_fault_1 : decode cX6_fault 1 = .ok (.invokestatic 108, 3) := by decide +kernel
theorem dX6_fault_4 : decode cX6_fault 4 = .ok (.ifCond .ne 7, 3) := by decide +kernel
theorem dX6_fault_7 : decode cX6_fault 7 = .ok (.iconst (-1), 1) := by decide +kernel
theorem dX6_fault_8 : decode cX6_fault 8 = .ok (.goto 25, 3) := by decide +kernel
theorem dX6_fault_11 : decode cX6_fault 11 = .ok (.aload_n 0, 1) := by decide +kernel
theorem dX6_fault_12 : decode cX6_fault 12 = .ok (.getfield 26, 3) := by decide +kernel
theorem dX6_fault_15 : decode cX6_fault 15 = .ok (.iload_n 1, 1) := by decide +kernel
theorem dX6_fault_16 : decode cX6_fault 16 = .ok (.iaload, 1) := by decide +kernel
theorem dX6_fault_17 : decode cX6_fault 17 = .ok (.ifCond .ge 11, 3) := by decide +kernel
theorem dX6_fault_20 : decode cX6_fault 20 = .ok (.aload_n 0, 1) := by decide +kernel
theorem dX6_fault_21 : decode cX6_fault 21 = .ok (.iconst 1, 1) := by decide +kernel
theorem dX6_fault_22 : decode cX6_fault 22 = .ok (.invokevirtual 97, 3) := by decide +kernel
theorem dX6_fault_25 : decode cX6_fault 25 = .ok (.goto 8, 3) := by decide +kernel
theorem dX6_fault_28 : decode cX6_fault 28 = .ok (.aload_n 0, 1) := by decide +kernel
theorem dX6_fault_29 : decode cX6_fault 29 = .ok (.iload_n 1, 1) := by decide +kernel
theorem dX6_fault_30 : decode cX6_fault 30 = .ok (.invokevirtual 139, 3) := by decide +kernel
theorem dX6_fault_33 : decode cX6_fault 33 = .ok (.ireturn, 1) := by decide +kernel
theorem dX6_wheel_0 : decode cX6_wheel 0 = .ok (.iload_n 1, 1) := by decide +kernel
theorem dX6_wheel_1 : decode cX6_wheel 1 = .ok (.invokestatic 108, 3) := by decide +kernel
theorem dX6_wheel_4 : decode cX6_wheel 4 = .ok (.ifCond .ne 5, 3) := by decide +kernel
theorem dX6_wheel_7 : decode cX6_wheel 7 = .ok (.iconst (-1), 1) := by decide +kernel
theorem dX6_wheel_8 : decode cX6_wheel 8 = .ok (.ireturn, 1) := by decide +kernel
theorem dX6_wheel_9 : decode cX6_wheel 9 = .ok (.aload_n 0, 1) := by decide +kernel
theorem dX6_wheel_10 : decode cX6_wheel 10 = .ok (.getfield 26, 3) := by decide +kernel
theorem dX6_wheel_13 : decode cX6_wheel 13 = .ok (.iload_n 1, 1) := by decide +kernel
theorem dX6_wheel_14 : decode cX6_wheel 14 = .ok (.iaload, 1) := by decide +kernel
theorem dX6_wheel_15 : decode cX6_wheel 15 = .ok (.ifCond .ge 9, 3) := by decide +kernel
theorem dX6_wheel_18 : decode cX6_wheel 18 = .ok (.aload_n 0, 1) := by decide +kernel
theorem dX6_wheel_19 : decode cX6_wheel 19 = .ok (.iconst 1, 1) := by decide +kernel
theorem dX6_wheel_20 : decode cX6_wheel 20 = .ok (.invokevirtual 97, 3) := by decide +kernel
theorem dX6_wheel_23 : decode cX6_wheel 23 = .ok (.ireturn, 1) := by decide +kernel
theorem dX6_wheel_24 : decode cX6_wheel 24 = .ok (.aload_n 0, 1) := by decide +kernel
theorem dX6_wheel_25 : decode cX6_wheel 25 = .ok (.iload_n 1, 1) := by decide +kernel
theorem dX6_wheel_26 : decode cX6_wheel 26 = .ok (.invokevirtual 139, 3) := by decide +kernel
theorem dX6_wheel_29 : decode cX6_wheel 29 = .ok (.bipush (-9), 2) := by decide +kernel
theorem dX6_wheel_31 : decode cX6_wheel 31 = .ok (.if_icmp .eq 6, 3) := by decide +kernel
theorem dX6_wheel_34 : decode cX6_wheel 34 = .ok (.bipush (-4), 2) := by decide +kernel
theorem dX6_wheel_36 : decode cX6_wheel 36 = .ok (.ireturn, 1) := by decide +kernel
theorem dX6_wheel_37 : decode cX6_wheel 37 = .ok (.aload_n 0, 1) := by decide +kernel
theorem dX6_wheel_38 : decode cX6_wheel 38 = .ok (.aload_n 0, 1) := by decide +kernel
theorem dX6_wheel_39 : decode cX6_wheel 39 = .ok (.getfield 130, 3) := by decide +kernel
theorem dX6_wheel_42 : decode cX6_wheel 42 = .ok (.putfield 142, 3) := by decide +kernel
theorem dX6_wheel_45 : decode cX6_wheel 45 = .ok (.aload_n 0, 1) := by decide +kernel
theorem dX6_wheel_46 : decode cX6_wheel 46 = .ok (.aload_n 0, 1) := by decide +kernel
theorem dX6_wheel_47 : decode cX6_wheel 47 = .ok (.getfield 120, 3) := by decide +kernel
theorem dX6_wheel_50 : decode cX6_wheel 50 = .ok (.putfield 145, 3) := by decide +kernel
theorem dX6_wheel_53 : decode cX6_wheel 53 = .ok (.iconst 0, 1) := by decide +kernel
theorem dX6_wheel_54 : decode cX6_wheel 54 = .ok (.istore_n 2, 1) := by decide +kernel
theorem dX6_wheel_55 : decode cX6_wheel 55 = .ok (.iload_n 2, 1) := by decide +kernel
theorem dX6_wheel_56 : decode cX6_wheel 56 = .ok (.bipush 8, 2) := by decide +kernel
theorem dX6_wheel_58 : decode cX6_wheel 58 = .ok (.if_icmp .ge 21, 3) := by decide +kernel
theorem dX6_wheel_61 : decode cX6_wheel 61 = .ok (.aload_n 0, 1) := by decide +kernel
theorem dX6_wheel_62 : decode cX6_wheel 62 = .ok (.getfield 45, 3) := by decide +kernel
theorem dX6_wheel_65 : decode cX6_wheel 65 = .ok (.iload_n 2, 1) := by decide +kernel
theorem dX6_wheel_66 : decode cX6_wheel 66 = .ok (.aload_n 0, 1) := by decide +kernel
theorem dX6_wheel_67 : decode cX6_wheel 67 = .ok (.getfield 33, 3) := by decide +kernel
theorem dX6_wheel_70 : decode cX6_wheel 70 = .ok (.iload_n 2, 1) := by decide +kernel
theorem dX6_wheel_71 : decode cX6_wheel 71 = .ok (.iaload, 1) := by decide +kernel
theorem dX6_wheel_72 : decode cX6_wheel 72 = .ok (.iastore, 1) := by decide +kernel
theorem dX6_wheel_73 : decode cX6_wheel 73 = .ok (.iinc 2 1, 3) := by decide +kernel
theorem dX6_wheel_76 : decode cX6_wheel 76 = .ok (.goto (-21), 3) := by decide +kernel
theorem dX6_wheel_79 : decode cX6_wheel 79 = .ok (.iconst 0, 1) := by decide +kernel
theorem dX6_wheel_80 : decode cX6_wheel 80 = .ok (.istore_n 2, 1) := by decide +kernel
theorem dX6_wheel_81 : decode cX6_wheel 81 = .ok (.iload_n 2, 1) := by decide +kernel
theorem dX6_wheel_82 : decode cX6_wheel 82 = .ok (.aload_n 0, 1) := by decide +kernel
theorem dX6_wheel_83 : decode cX6_wheel 83 = .ok (.getfield 142, 3) := by decide +kernel
theorem dX6_wheel_86 : decode cX6_wheel 86 = .ok (.if_icmp .ge 45, 3) := by decide +kernel
theorem dX6_wheel_89 : decode cX6_wheel 89 = .ok (.aload_n 0, 1) := by decide +kernel
theorem dX6_wheel_90 : decode cX6_wheel 90 = .ok (.getfield 48, 3) := by decide +kernel
theorem dX6_wheel_93 : decode cX6_wheel 93 = .ok (.iload_n 2, 1) := by decide +kernel
theorem dX6_wheel_94 : decode cX6_wheel 94 = .ok (.aload_n 0, 1) := by decide +kernel
theorem dX6_wheel_95 : decode cX6_wheel 95 = .ok (.getfield 36, 3) := by decide +kernel
theorem dX6_wheel_98 : decode cX6_wheel 98 = .ok (.iload_n 2, 1) := by decide +kernel
theorem dX6_wheel_99 : decode cX6_wheel 99 = .ok (.iaload, 1) := by decide +kernel
theorem dX6_wheel_100 : decode cX6_wheel 100 = .ok (.iastore, 1) := by decide +kernel
theorem dX6_wheel_101 : decode cX6_wheel 101 = .ok (.aload_n 0, 1) := by decide +kernel
theorem dX6_wheel_102 : decode cX6_wheel 102 = .ok (.getfield 51, 3) := by decide +kernel
theorem dX6_wheel_105 : decode cX6_wheel 105 = .ok (.iload_n 2, 1) := by decide +kernel
theorem dX6_wheel_106 : decode cX6_wheel 106 = .ok (.aload_n 0, 1) := by decide +kernel
theorem dX6_wheel_107 : decode cX6_wheel 107 = .ok (.getfield 39, 3) := by decide +kernel
theorem dX6_wheel_110 : decode cX6_wheel 110 = .ok (.iload_n 2, 1) := by decide +kernel
theorem dX6_wheel_111 : decode cX6_wheel 111 = .ok (.iaload, 1) := by decide +kernel
theorem dX6_wheel_112 : decode cX6_wheel 112 = .ok (.iastore, 1) := by decide +kernel
theorem dX6_wheel_113 : decode cX6_wheel 113 = .ok (.aload_n 0, 1) := by decide +kernel
theorem dX6_wheel_114 : decode cX6_wheel 114 = .ok (.getfield 54, 3) := by decide +kernel
theorem dX6_wheel_117 : decode cX6_wheel 117 = .ok (.iload_n 2, 1) := by decide +kernel
theorem dX6_wheel_118 : decode cX6_wheel 118 = .ok (.aload_n 0, 1) := by decide +kernel
theorem dX6_wheel_119 : decode cX6_wheel 119 = .ok (.getfield 42, 3) := by decide +kernel
theorem dX6_wheel_122 : decode cX6_wheel 122 = .ok (.iload_n 2, 1) := by decide +kernel
theorem dX6_wheel_123 : decode cX6_wheel 123 = .ok (.iaload, 1) := by decide +kernel
theorem dX6_wheel_124 : decode cX6_wheel 124 = .ok (.iastore, 1) := by decide +kernel
theorem dX6_wheel_125 : decode cX6_wheel 125 = .ok (.iinc 2 1, 3) := by decide +kernel
theorem dX6_wheel_128 : decode cX6_wheel 128 = .ok (.goto (-47), 3) := by decide +kernel
theorem dX6_wheel_131 : decode cX6_wheel 131 = .ok (.iconst 0, 1) := by decide +kernel
theorem dX6_wheel_132 : decode cX6_wheel 132 = .ok (.istore_n 2, 1) := by decide +kernel
theorem dX6_wheel_133 : decode cX6_wheel 133 = .ok (.iload_n 2, 1) := by decide +kernel
theorem dX6_wheel_134 : decode cX6_wheel 134 = .ok (.bipush 12, 2) := by decide +kernel
theorem dX6_wheel_136 : decode cX6_wheel 136 = .ok (.if_icmp .ge 16, 3) := by decide +kernel
theorem dX6_wheel_139 : decode cX6_wheel 139 = .ok (.aload_n 0, 1) := by decide +kernel
theorem dX6_wheel_140 : decode cX6_wheel 140 = .ok (.getfield 57, 3) := by decide +kernel
theorem dX6_wheel_143 : decode cX6_wheel 143 = .ok (.iload_n 2, 1) := by decide +kernel
theorem dX6_wheel_144 : decode cX6_wheel 144 = .ok (.iconst 0, 1) := by decide +kernel
theorem dX6_wheel_145 : decode cX6_wheel 145 = .ok (.iastore, 1) := by decide +kernel
theorem dX6_wheel_146 : decode cX6_wheel 146 = .ok (.iinc 2 1, 3) := by decide +kernel
theorem dX6_wheel_149 : decode cX6_wheel 149 = .ok (.goto (-16), 3) := by decide +kernel
theorem dX6_wheel_152 : decode cX6_wheel 152 = .ok (.aload_n 0, 1) := by decide +kernel
theorem dX6_wheel_153 : decode cX6_wheel 153 = .ok (.getfield 57, 3) := by decide +kernel
theorem dX6_wheel_156 : decode cX6_wheel 156 = .ok (.iconst 3, 1) := by decide +kernel
theorem dX6_wheel_157 : decode cX6_wheel 157 = .ok (.iconst 1, 1) := by decide +kernel
theorem dX6_wheel_158 : decode cX6_wheel 158 = .ok (.aload_n 0, 1) := by decide +kernel
theorem dX6_wheel_159 : decode cX6_wheel 159 = .ok (.getfield 142, 3) := by decide +kernel
theorem dX6_wheel_162 : decode cX6_wheel 162 = .ok (.ishl, 1) := by decide +kernel
theorem dX6_wheel_163 : decode cX6_wheel 163 = .ok (.iconst 1, 1) := by decide +kernel
theorem dX6_wheel_164 : decode cX6_wheel 164 = .ok (.isub, 1) := by decide +kernel
theorem dX6_wheel_165 : decode cX6_wheel 165 = .ok (.iastore, 1) := by decide +kernel
theorem dX6_wheel_166 : decode cX6_wheel 166 = .ok (.aload_n 0, 1) := by decide +kernel
theorem dX6_wheel_167 : decode cX6_wheel 167 = .ok (.iconst 0, 1) := by decide +kernel
theorem dX6_wheel_168 : decode cX6_wheel 168 = .ok (.putfield 148, 3) := by decide +kernel
theorem dX6_wheel_171 : decode cX6_wheel 171 = .ok (.iconst 0, 1) := by decide +kernel
theorem dX6_wheel_172 : decode cX6_wheel 172 = .ok (.istore_n 2, 1) := by decide +kernel
theorem dX6_wheel_173 : decode cX6_wheel 173 = .ok (.iload_n 2, 1) := by decide +kernel
theorem dX6_wheel_174 : decode cX6_wheel 174 = .ok (.iconst 3, 1) := by decide +kernel
theorem dX6_wheel_175 : decode cX6_wheel 175 = .ok (.if_icmp .ge 16, 3) := by decide +kernel
theorem dX6_wheel_178 : decode cX6_wheel 178 = .ok (.aload_n 0, 1) := by decide +kernel
theorem dX6_wheel_179 : decode cX6_wheel 179 = .ok (.getfield 66, 3) := by decide +kernel
theorem dX6_wheel_182 : decode cX6_wheel 182 = .ok (.iload_n 2, 1) := by decide +kernel
theorem dX6_wheel_183 : decode cX6_wheel 183 = .ok (.iconst (-1), 1) := by decide +kernel
theorem dX6_wheel_184 : decode cX6_wheel 184 = .ok (.iastore, 1) := by decide +kernel
theorem dX6_wheel_185 : decode cX6_wheel 185 = .ok (.iinc 2 1, 3) := by decide +kernel
theorem dX6_wheel_188 : decode cX6_wheel 188 = .ok (.goto (-15), 3) := by decide +kernel
theorem dX6_wheel_191 : decode cX6_wheel 191 = .ok (.aload_n 0, 1) := by decide +kernel
theorem dX6_wheel_192 : decode cX6_wheel 192 = .ok (.getfield 142, 3) := by decide +kernel
theorem dX6_wheel_195 : decode cX6_wheel 195 = .ok (.ireturn, 1) := by decide +kernel
theorem dX6_isSpoke_0 : decode cX6_isSpoke 0 = .ok (.iload_n 1, 1) := by decide +kernel
theorem dX6_isSpoke_1 : decode cX6_isSpoke 1 = .ok (.iconst 0, 1) := by decide +kernel
theorem dX6_isSpoke_2 : decode cX6_isSpoke 2 = .ok (.aload_n 0, 1) := by decide +kernel
theorem dX6_isSpoke_3 : decode cX6_isSpoke 3 = .ok (.getfield 142, 3) := by decide +kernel
theorem dX6_isSpoke_6 : decode cX6_isSpoke 6 = .ok (.iconst 1, 1) := by decide +kernel
theorem dX6_isSpoke_7 : decode cX6_isSpoke 7 = .ok (.isub, 1) := by decide +kernel
theorem dX6_isSpoke_8 : decode cX6_isSpoke 8 = .ok (.invokestatic 89, 3) := by decide +kernel
theorem dX6_isSpoke_11 : decode cX6_isSpoke 11 = .ok (.ireturn, 1) := by decide +kernel
theorem dX6_depth_0 : decode cX6_depth 0 = .ok (.aload_n 0, 1) := by decide +kernel
theorem dX6_depth_1 : decode cX6_depth 1 = .ok (.getfield 45, 3) := by decide +kernel
theorem dX6_depth_4 : decode cX6_depth 4 = .ok (.iload_n 1, 1) := by decide +kernel
theorem dX6_depth_5 : decode cX6_depth 5 = .ok (.bipush 8, 2) := by decide +kernel
theorem dX6_depth_7 : decode cX6_depth 7 = .ok (.irem, 1) := by decide +kernel
theorem dX6_depth_8 : decode cX6_depth 8 = .ok (.iaload, 1) := by decide +kernel
theorem dX6_depth_9 : decode cX6_depth 9 = .ok (.ireturn, 1) := by decide +kernel
theorem dX6_above0_0 : decode cX6_above0 0 = .ok (.iload_n 0, 1) := by decide +kernel
theorem dX6_above0_1 : decode cX6_above0 1 = .ok (.ifCond .le 7, 3) := by decide +kernel
theorem dX6_above0_4 : decode cX6_above0 4 = .ok (.iload_n 0, 1) := by decide +kernel
theorem dX6_above0_5 : decode cX6_above0 5 = .ok (.goto 4, 3) := by decide +kernel
theorem dX6_above0_8 : decode cX6_above0 8 = .ok (.iconst 0, 1) := by decide +kernel
theorem dX6_above0_9 : decode cX6_above0 9 = .ok (.ireturn, 1) := by decide +kernel
theorem dX6_bearsAs_0 : decode cX6_bearsAs 0 = .ok (.iconst 2, 1) := by decide +kernel
theorem dX6_bearsAs_1 : decode cX6_bearsAs 1 = .ok (.iload_n 1, 1) := by decide +kernel
theorem dX6_bearsAs_2 : decode cX6_bearsAs 2 = .ok (.imul, 1) := by decide +kernel
theorem dX6_bearsAs_3 : decode cX6_bearsAs 3 = .ok (.iload_n 3, 1) := by decide +kernel
theorem dX6_bearsAs_4 : decode cX6_bearsAs 4 = .ok (.isub, 1) := by decide +kernel
theorem dX6_bearsAs_5 : decode cX6_bearsAs 5 = .ok (.invokestatic 151, 3) := by decide +kernel
theorem dX6_bearsAs_8 : decode cX6_bearsAs 8 = .ok (.istore 5, 2) := by decide +kernel
theorem dX6_bearsAs_10 : decode cX6_bearsAs 10 = .ok (.iload_n 2, 1) := by decide +kernel
theorem dX6_bearsAs_11 : decode cX6_bearsAs 11 = .ok (.iconst 5, 1) := by decide +kernel
theorem dX6_bearsAs_12 : decode cX6_bearsAs 12 = .ok (.if_icmp .lt 7, 3) := by decide +kernel
theorem dX6_bearsAs_15 : decode cX6_bearsAs 15 = .ok (.iconst 3, 1) := by decide +kernel
theorem dX6_bearsAs_16 : decode cX6_bearsAs 16 = .ok (.goto 4, 3) := by decide +kernel
theorem dX6_bearsAs_19 : decode cX6_bearsAs 19 = .ok (.iconst 0, 1) := by decide +kernel
theorem dX6_bearsAs_20 : decode cX6_bearsAs 20 = .ok (.istore 6, 2) := by decide +kernel
theorem dX6_bearsAs_22 : decode cX6_bearsAs 22 = .ok (.iload_n 0, 1) := by decide +kernel
theorem dX6_bearsAs_23 : decode cX6_bearsAs 23 = .ok (.tableswitch 74 1 5 #[33, 38, 44, 58, 62], 33) := by decide +kernel
theorem dX6_bearsAs_56 : decode cX6_bearsAs 56 = .ok (.iload 5, 2) := by decide +kernel
theorem dX6_bearsAs_58 : decode cX6_bearsAs 58 = .ok (.iconst 2, 1) := by decide +kernel
theorem dX6_bearsAs_59 : decode cX6_bearsAs 59 = .ok (.idiv, 1) := by decide +kernel
theorem dX6_bearsAs_60 : decode cX6_bearsAs 60 = .ok (.ireturn, 1) := by decide +kernel
theorem dX6_bearsAs_61 : decode cX6_bearsAs 61 = .ok (.iload 5, 2) := by decide +kernel
theorem dX6_bearsAs_63 : decode cX6_bearsAs 63 = .ok (.iload 6, 2) := by decide +kernel
theorem dX6_bearsAs_65 : decode cX6_bearsAs 65 = .ok (.iadd, 1) := by decide +kernel
theorem dX6_bearsAs_66 : decode cX6_bearsAs 66 = .ok (.ireturn, 1) := by decide +kernel
theorem dX6_bearsAs_67 : decode cX6_bearsAs 67 = .ok (.iconst 2, 1) := by decide +kernel
theorem dX6_bearsAs_68 : decode cX6_bearsAs 68 = .ok (.iload_n 1, 1) := by decide +kernel
theorem dX6_bearsAs_69 : decode cX6_bearsAs 69 = .ok (.imul, 1) := by decide +kernel
theorem dX6_bearsAs_70 : decode cX6_bearsAs 70 = .ok (.iload_n 3, 1) := by decide +kernel
theorem dX6_bearsAs_71 : decode cX6_bearsAs 71 = .ok (.iconst 2, 1) := by decide +kernel
theorem dX6_bearsAs_72 : decode cX6_bearsAs 72 = .ok (.idiv, 1) := by decide +kernel
theorem dX6_bearsAs_73 : decode cX6_bearsAs 73 = .ok (.isub, 1) := by decide +kernel
theorem dX6_bearsAs_74 : decode cX6_bearsAs 74 = .ok (.invokestatic 151, 3) := by decide +kernel
theorem dX6_bearsAs_77 : decode cX6_bearsAs 77 = .ok (.iload 6, 2) := by decide +kernel
theorem dX6_bearsAs_79 : decode cX6_bearsAs 79 = .ok (.iadd, 1) := by decide +kernel
theorem dX6_bearsAs_80 : decode cX6_bearsAs 80 = .ok (.ireturn, 1) := by decide +kernel
theorem dX6_bearsAs_81 : decode cX6_bearsAs 81 = .ok (.iconst 2, 1) := by decide +kernel
theorem dX6_bearsAs_82 : decode cX6_bearsAs 82 = .ok (.iload_n 1, 1) := by decide +kernel
theorem dX6_bearsAs_83 : decode cX6_bearsAs 83 = .ok (.imul, 1) := by decide +kernel
theorem dX6_bearsAs_84 : decode cX6_bearsAs 84 = .ok (.ireturn, 1) := by decide +kernel
theorem dX6_bearsAs_85 : decode cX6_bearsAs 85 = .ok (.iconst 2, 1) := by decide +kernel
theorem dX6_bearsAs_86 : decode cX6_bearsAs 86 = .ok (.iload_n 1, 1) := by decide +kernel
theorem dX6_bearsAs_87 : decode cX6_bearsAs 87 = .ok (.imul, 1) := by decide +kernel
theorem dX6_bearsAs_88 : decode cX6_bearsAs 88 = .ok (.iload_n 3, 1) := by decide +kernel
theorem dX6_bearsAs_89 : decode cX6_bearsAs 89 = .ok (.iload 4, 2) := by decide +kernel
theorem dX6_bearsAs_91 : decode cX6_bearsAs 91 = .ok (.imul, 1) := by decide +kernel
theorem dX6_bearsAs_92 : decode cX6_bearsAs 92 = .ok (.isub, 1) := by decide +kernel
theorem dX6_bearsAs_93 : decode cX6_bearsAs 93 = .ok (.invokestatic 151, 3) := by decide +kernel
theorem dX6_bearsAs_96 : decode cX6_bearsAs 96 = .ok (.ireturn, 1) := by decide +kernel
theorem dX6_bearsAs_97 : decode cX6_bearsAs 97 = .ok (.iload 5, 2) := by decide +kernel
theorem dX6_bearsAs_99 : decode cX6_bearsAs 99 = .ok (.ireturn, 1) := by decide +kernel
theorem dX6_bearsOn_0 : decode cX6_bearsOn 0 = .ok (.aload_n 0, 1) := by decide +kernel
theorem dX6_bearsOn_1 : decode cX6_bearsOn 1 = .ok (.getfield 48, 3) := by decide +kernel
theorem dX6_bearsOn_4 : decode cX6_bearsOn 4 = .ok (.iload_n 2, 1) := by decide +kernel
theorem dX6_bearsOn_5 : decode cX6_bearsOn 5 = .ok (.iaload, 1) := by decide +kernel
theorem dX6_bearsOn_6 : decode cX6_bearsOn 6 = .ok (.aload_n 0, 1) := by decide +kernel
theorem dX6_bearsOn_7 : decode cX6_bearsOn 7 = .ok (.getfield 54, 3) := by decide +kernel
theorem dX6_bearsOn_10 : decode cX6_bearsOn 10 = .ok (.iload_n 2, 1) := by decide +kernel
theorem dX6_bearsOn_11 : decode cX6_bearsOn 11 = .ok (.iaload, 1) := by decide +kernel
theorem dX6_bearsOn_12 : decode cX6_bearsOn 12 = .ok (.iload_n 3, 1) := by decide +kernel
theorem dX6_bearsOn_13 : decode cX6_bearsOn 13 = .ok (.aload_n 1, 1) := by decide +kernel
theorem dX6_bearsOn_14 : decode cX6_bearsOn 14 = .ok (.iconst 4, 1) := by decide +kernel
theorem dX6_bearsOn_15 : decode cX6_bearsOn 15 = .ok (.iload_n 2, 1) := by decide +kernel
theorem dX6_bearsOn_16 : decode cX6_bearsOn 16 = .ok (.iadd, 1) := by decide +kernel
theorem dX6_bearsOn_17 : decode cX6_bearsOn 17 = .ok (.iaload, 1) := by decide +kernel
theorem dX6_bearsOn_18 : decode cX6_bearsOn 18 = .ok (.aload_n 1, 1) := by decide +kernel
theorem dX6_bearsOn_19 : decode cX6_bearsOn 19 = .ok (.iconst 2, 1) := by decide +kernel
theorem dX6_bearsOn_20 : decode cX6_bearsOn 20 = .ok (.iaload, 1) := by decide +kernel
theorem dX6_bearsOn_21 : decode cX6_bearsOn 21 = .ok (.invokestatic 154, 3) := by decide +kernel
theorem dX6_bearsOn_24 : decode cX6_bearsOn 24 = .ok (.ireturn, 1) := by decide +kernel
theorem dX6_isOver_0 : decode cX6_isOver 0 = .ok (.iconst 0, 1) := by decide +kernel
theorem dX6_isOver_1 : decode cX6_isOver 1 = .ok (.istore_n 2, 1) := by decide +kernel
theorem dX6_isOver_2 : decode cX6_isOver 2 = .ok (.iconst 0, 1) := by decide +kernel
theorem dX6_isOver_3 : decode cX6_isOver 3 = .ok (.istore_n 3, 1) := by decide +kernel
theorem dX6_isOver_4 : decode cX6_isOver 4 = .ok (.iload_n 3, 1) := by decide +kernel
theorem dX6_isOver_5 : decode cX6_isOver 5 = .ok (.aload_n 0, 1) := by decide +kernel
theorem dX6_isOver_6 : decode cX6_isOver 6 = .ok (.getfield 142, 3) := by decide +kernel
theorem dX6_isOver_9 : decode cX6_isOver 9 = .ok (.if_icmp .ge 46, 3) := by decide +kernel
theorem dX6_isOver_12 : decode cX6_isOver 12 = .ok (.iload_n 2, 1) := by decide +kernel
theorem dX6_isOver_13 : decode cX6_isOver 13 = .ok (.ifCond .ne 30, 3) := by decide +kernel
theorem dX6_isOver_16 : decode cX6_isOver 16 = .ok (.aload_n 1, 1) := by decide +kernel
theorem dX6_isOver_17 : decode cX6_isOver 17 = .ok (.iconst 3, 1) := by decide +kernel
theorem dX6_isOver_18 : decode cX6_isOver 18 = .ok (.iaload, 1) := by decide +kernel
theorem dX6_isOver_19 : decode cX6_isOver 19 = .ok (.iload_n 3, 1) := by decide +kernel
theorem dX6_isOver_20 : decode cX6_isOver 20 = .ok (.invokestatic 158, 3) := by decide +kernel
theorem dX6_isOver_23 : decode cX6_isOver 23 = .ok (.ifCond .ne 24, 3) := by decide +kernel
theorem dX6_isOver_26 : decode cX6_isOver 26 = .ok (.aload_n 1, 1) := by decide +kernel
theorem dX6_isOver_27 : decode cX6_isOver 27 = .ok (.iconst 3, 1) := by decide +kernel
theorem dX6_isOver_28 : decode cX6_isOver 28 = .ok (.iaload, 1) := by decide +kernel
theorem dX6_isOver_29 : decode cX6_isOver 29 = .ok (.iload_n 3, 1) := by decide +kernel
theorem dX6_isOver_30 : decode cX6_isOver 30 = .ok (.iconst 1, 1) := by decide +kernel
theorem dX6_isOver_31 : decode cX6_isOver 31 = .ok (.iadd, 1) := by decide +kernel
theorem dX6_isOver_32 : decode cX6_isOver 32 = .ok (.aload_n 0, 1) := by decide +kernel
theorem dX6_isOver_33 : decode cX6_isOver 33 = .ok (.getfield 142, 3) := by decide +kernel
theorem dX6_isOver_36 : decode cX6_isOver 36 = .ok (.irem, 1) := by decide +kernel
theorem dX6_isOver_37 : decode cX6_isOver 37 = .ok (.invokestatic 158, 3) := by decide +kernel
theorem dX6_isOver_40 : decode cX6_isOver 40 = .ok (.ifCond .ne 7, 3) := by decide +kernel
theorem dX6_isOver_43 : decode cX6_isOver 43 = .ok (.iconst 1, 1) := by decide +kernel
theorem dX6_isOver_44 : decode cX6_isOver 44 = .ok (.goto 4, 3) := by decide +kernel
theorem dX6_isOver_47 : decode cX6_isOver 47 = .ok (.iconst 0, 1) := by decide +kernel
theorem dX6_isOver_48 : decode cX6_isOver 48 = .ok (.istore_n 2, 1) := by decide +kernel
theorem dX6_isOver_49 : decode cX6_isOver 49 = .ok (.iinc 3 1, 3) := by decide +kernel
theorem dX6_isOver_52 : decode cX6_isOver 52 = .ok (.goto (-48), 3) := by decide +kernel
theorem dX6_isOver_55 : decode cX6_isOver 55 = .ok (.iload_n 2, 1) := by decide +kernel
theorem dX6_isOver_56 : decode cX6_isOver 56 = .ok (.ireturn, 1) := by decide +kernel
theorem dX6_steps_0 : decode cX6_steps 0 = .ok (.aload_n 1, 1) := by decide +kernel
theorem dX6_steps_1 : decode cX6_steps 1 = .ok (.iconst 1, 1) := by decide +kernel
theorem dX6_steps_2 : decode cX6_steps 2 = .ok (.iaload, 1) := by decide +kernel
theorem dX6_steps_3 : decode cX6_steps 3 = .ok (.istore_n 2, 1) := by decide +kernel
theorem dX6_steps_4 : decode cX6_steps 4 = .ok (.aload_n 1, 1) := by decide +kernel
theorem dX6_steps_5 : decode cX6_steps 5 = .ok (.iconst 0, 1) := by decide +kernel
theorem dX6_steps_6 : decode cX6_steps 6 = .ok (.iaload, 1) := by decide +kernel
theorem dX6_steps_7 : decode cX6_steps 7 = .ok (.istore_n 3, 1) := by decide +kernel
theorem dX6_steps_8 : decode cX6_steps 8 = .ok (.aload_n 0, 1) := by decide +kernel
theorem dX6_steps_9 : decode cX6_steps 9 = .ok (.iload_n 3, 1) := by decide +kernel
theorem dX6_steps_10 : decode cX6_steps 10 = .ok (.invokevirtual 162, 3) := by decide +kernel
theorem dX6_steps_13 : decode cX6_steps 13 = .ok (.istore 4, 2) := by decide +kernel
theorem dX6_steps_15 : decode cX6_steps 15 = .ok (.aload_n 1, 1) := by decide +kernel
theorem dX6_steps_16 : decode cX6_steps 16 = .ok (.iconst 3, 1) := by decide +kernel
theorem dX6_steps_17 : decode cX6_steps 17 = .ok (.iaload, 1) := by decide +kernel
theorem dX6_steps_18 : decode cX6_steps 18 = .ok (.iload_n 2, 1) := by decide +kernel
theorem dX6_steps_19 : decode cX6_steps 19 = .ok (.invokestatic 158, 3) := by decide +kernel
theorem dX6_steps_22 : decode cX6_steps 22 = .ok (.ifCond .eq 14, 3) := by decide +kernel
theorem dX6_steps_25 : decode cX6_steps 25 = .ok (.aload_n 0, 1) := by decide +kernel
theorem dX6_steps_26 : decode cX6_steps 26 = .ok (.getfield 51, 3) := by decide +kernel
theorem dX6_steps_29 : decode cX6_steps 29 = .ok (.iload_n 2, 1) := by decide +kernel
theorem dX6_steps_30 : decode cX6_steps 30 = .ok (.iaload, 1) := by decide +kernel
theorem dX6_steps_31 : decode cX6_steps 31 = .ok (.iload 4, 2) := by decide +kernel
theorem dX6_steps_33 : decode cX6_steps 33 = .ok (.if_icmp .ge 7, 3) := by decide +kernel
theorem dX6_steps_36 : decode cX6_steps 36 = .ok (.iconst 1, 1) := by decide +kernel
theorem dX6_steps_37 : decode cX6_steps 37 = .ok (.goto 4, 3) := by decide +kernel
theorem dX6_steps_40 : decode cX6_steps 40 = .ok (.iconst 0, 1) := by decide +kernel
theorem dX6_steps_41 : decode cX6_steps 41 = .ok (.istore 5, 2) := by decide +kernel
theorem dX6_steps_43 : decode cX6_steps 43 = .ok (.iload 5, 2) := by decide +kernel
theorem dX6_steps_45 : decode cX6_steps 45 = .ok (.ifCond .ne 33, 3) := by decide +kernel
theorem dX6_steps_48 : decode cX6_steps 48 = .ok (.aload_n 0, 1) := by decide +kernel
theorem dX6_steps_49 : decode cX6_steps 49 = .ok (.aload_n 1, 1) := by decide +kernel
theorem dX6_steps_50 : decode cX6_steps 50 = .ok (.iload_n 2, 1) := by decide +kernel
theorem dX6_steps_51 : decode cX6_steps 51 = .ok (.iload 4, 2) := by decide +kernel
theorem dX6_steps_53 : decode cX6_steps 53 = .ok (.invokevirtual 165, 3) := by decide +kernel
theorem dX6_steps_56 : decode cX6_steps 56 = .ok (.iload 4, 2) := by decide +kernel
theorem dX6_steps_58 : decode cX6_steps 58 = .ok (.if_icmp .ge 20, 3) := by decide +kernel
theorem dX6_steps_61 : decode cX6_steps 61 = .ok (.iconst 1, 1) := by decide +kernel
theorem dX6_steps_62 : decode cX6_steps 62 = .ok (.istore 5, 2) := by decide +kernel
theorem dX6_steps_64 : decode cX6_steps 64 = .ok (.aload_n 1, 1) := by decide +kernel
theorem dX6_steps_65 : decode cX6_steps 65 = .ok (.iconst 3, 1) := by decide +kernel
theorem dX6_steps_66 : decode cX6_steps 66 = .ok (.dup2, 1) := by decide +kernel
theorem dX6_steps_67 : decode cX6_steps 67 = .ok (.iaload, 1) := by decide +kernel
theorem dX6_steps_68 : decode cX6_steps 68 = .ok (.iconst 1, 1) := by decide +kernel
theorem dX6_steps_69 : decode cX6_steps 69 = .ok (.iload_n 2, 1) := by decide +kernel
theorem dX6_steps_70 : decode cX6_steps 70 = .ok (.ishl, 1) := by decide +kernel
theorem dX6_steps_71 : decode cX6_steps 71 = .ok (.iconst (-1), 1) := by decide +kernel
theorem dX6_steps_72 : decode cX6_steps 72 = .ok (.ixor, 1) := by decide +kernel
theorem dX6_steps_73 : decode cX6_steps 73 = .ok (.iand, 1) := by decide +kernel
theorem dX6_steps_74 : decode cX6_steps 74 = .ok (.iastore, 1) := by decide +kernel
theorem dX6_steps_75 : decode cX6_steps 75 = .ok (.goto 45, 3) := by decide +kernel
theorem dX6_steps_78 : decode cX6_steps 78 = .ok (.iload 5, 2) := by decide +kernel
theorem dX6_steps_80 : decode cX6_steps 80 = .ok (.ifCond .ne 40, 3) := by decide +kernel
theorem dX6_steps_83 : decode cX6_steps 83 = .ok (.aload_n 1, 1) := by decide +kernel
theorem dX6_steps_84 : decode cX6_steps 84 = .ok (.iconst 2, 1) := by decide +kernel
theorem dX6_steps_85 : decode cX6_steps 85 = .ok (.iaload, 1) := by decide +kernel
theorem dX6_steps_86 : decode cX6_steps 86 = .ok (.iconst 1, 1) := by decide +kernel
theorem dX6_steps_87 : decode cX6_steps 87 = .ok (.if_icmp .eq 10, 3) := by decide +kernel
theorem dX6_steps_90 : decode cX6_steps 90 = .ok (.iload_n 3, 1) := by decide +kernel
theorem dX6_steps_91 : decode cX6_steps 91 = .ok (.iconst 2, 1) := by decide +kernel
theorem dX6_steps_92 : decode cX6_steps 92 = .ok (.irem, 1) := by decide +kernel
theorem dX6_steps_93 : decode cX6_steps 93 = .ok (.iconst 1, 1) := by decide +kernel
theorem dX6_steps_94 : decode cX6_steps 94 = .ok (.if_icmp .ne 26, 3) := by decide +kernel
theorem dX6_steps_97 : decode cX6_steps 97 = .ok (.aload_n 1, 1) := by decide +kernel
theorem dX6_steps_98 : decode cX6_steps 98 = .ok (.iconst 4, 1) := by decide +kernel
theorem dX6_steps_99 : decode cX6_steps 99 = .ok (.iload_n 2, 1) := by decide +kernel
theorem dX6_steps_100 : decode cX6_steps 100 = .ok (.iadd, 1) := by decide +kernel
theorem dX6_steps_101 : decode cX6_steps 101 = .ok (.dup2, 1) := by decide +kernel
theorem dX6_steps_102 : decode cX6_steps 102 = .ok (.iaload, 1) := by decide +kernel
theorem dX6_steps_103 : decode cX6_steps 103 = .ok (.aload_n 1, 1) := by decide +kernel
theorem dX6_steps_104 : decode cX6_steps 104 = .ok (.iconst 4, 1) := by decide +kernel
theorem dX6_steps_105 : decode cX6_steps 105 = .ok (.iload_n 2, 1) := by decide +kernel
theorem dX6_steps_106 : decode cX6_steps 106 = .ok (.iadd, 1) := by decide +kernel
theorem dX6_steps_107 : decode cX6_steps 107 = .ok (.iaload, 1) := by decide +kernel
theorem dX6_steps_108 : decode cX6_steps 108 = .ok (.bipush 30, 2) := by decide +kernel
theorem dX6_steps_110 : decode cX6_steps 110 = .ok (.if_icmp .ge 7, 3) := by decide +kernel
theorem dX6_steps_113 : decode cX6_steps 113 = .ok (.iconst 1, 1) := by decide +kernel
theorem dX6_steps_114 : decode cX6_steps 114 = .ok (.goto 4, 3) := by decide +kernel
theorem dX6_steps_117 : decode cX6_steps 117 = .ok (.iconst 0, 1) := by decide +kernel
theorem dX6_steps_118 : decode cX6_steps 118 = .ok (.iadd, 1) := by decide +kernel
theorem dX6_steps_119 : decode cX6_steps 119 = .ok (.iastore, 1) := by decide +kernel
theorem dX6_steps_120 : decode cX6_steps 120 = .ok (.aload_n 1, 1) := by decide +kernel
theorem dX6_steps_121 : decode cX6_steps 121 = .ok (.iconst 1, 1) := by decide +kernel
theorem dX6_steps_122 : decode cX6_steps 122 = .ok (.iload_n 2, 1) := by decide +kernel
theorem dX6_steps_123 : decode cX6_steps 123 = .ok (.iconst 1, 1) := by decide +kernel
theorem dX6_steps_124 : decode cX6_steps 124 = .ok (.iadd, 1) := by decide +kernel
theorem dX6_steps_125 : decode cX6_steps 125 = .ok (.aload_n 0, 1) := by decide +kernel
theorem dX6_steps_126 : decode cX6_steps 126 = .ok (.getfield 142, 3) := by decide +kernel
theorem dX6_steps_129 : decode cX6_steps 129 = .ok (.irem, 1) := by decide +kernel
theorem dX6_steps_130 : decode cX6_steps 130 = .ok (.iastore, 1) := by decide +kernel
theorem dX6_steps_131 : decode cX6_steps 131 = .ok (.aload_n 1, 1) := by decide +kernel
theorem dX6_steps_132 : decode cX6_steps 132 = .ok (.iconst 0, 1) := by decide +kernel
theorem dX6_steps_133 : decode cX6_steps 133 = .ok (.dup2, 1) := by decide +kernel
theorem dX6_steps_134 : decode cX6_steps 134 = .ok (.iaload, 1) := by decide +kernel
theorem dX6_steps_135 : decode cX6_steps 135 = .ok (.iconst 1, 1) := by decide +kernel
theorem dX6_steps_136 : decode cX6_steps 136 = .ok (.iadd, 1) := by decide +kernel
theorem dX6_steps_137 : decode cX6_steps 137 = .ok (.iastore, 1) := by decide +kernel
theorem dX6_steps_138 : decode cX6_steps 138 = .ok (.iload 5, 2) := by decide +kernel
theorem dX6_steps_140 : decode cX6_steps 140 = .ok (.ireturn, 1) := by decide +kernel
theorem dX6_spokeTells_0 : decode cX6_spokeTells 0 = .ok (.iload_n 2, 1) := by decide +kernel
theorem dX6_spokeTells_1 : decode cX6_spokeTells 1 = .ok (.tableswitch 76 0 4 #[35, 42, 49, 56, 65], 35) := by decide +kernel
theorem dX6_spokeTells_36 : decode cX6_spokeTells 36 = .ok (.aload_n 0, 1) := by decide +kernel
theorem dX6_spokeTells_37 : decode cX6_spokeTells 37 = .ok (.getfield 48, 3) := by decide +kernel
theorem dX6_spokeTells_40 : decode cX6_spokeTells 40 = .ok (.iload_n 1, 1) := by decide +kernel
theorem dX6_spokeTells_41 : decode cX6_spokeTells 41 = .ok (.iaload, 1) := by decide +kernel
theorem dX6_spokeTells_42 : decode cX6_spokeTells 42 = .ok (.ireturn, 1) := by decide +kernel
theorem dX6_spokeTells_43 : decode cX6_spokeTells 43 = .ok (.aload_n 0, 1) := by decide +kernel
theorem dX6_spokeTells_44 : decode cX6_spokeTells 44 = .ok (.getfield 51, 3) := by decide +kernel
theorem dX6_spokeTells_47 : decode cX6_spokeTells 47 = .ok (.iload_n 1, 1) := by decide +kernel
theorem dX6_spokeTells_48 : decode cX6_spokeTells 48 = .ok (.iaload, 1) := by decide +kernel
theorem dX6_spokeTells_49 : decode cX6_spokeTells 49 = .ok (.ireturn, 1) := by decide +kernel
theorem dX6_spokeTells_50 : decode cX6_spokeTells 50 = .ok (.aload_n 0, 1) := by decide +kernel
theorem dX6_spokeTells_51 : decode cX6_spokeTells 51 = .ok (.getfield 54, 3) := by decide +kernel
theorem dX6_spokeTells_54 : decode cX6_spokeTells 54 = .ok (.iload_n 1, 1) := by decide +kernel
theorem dX6_spokeTells_55 : decode cX6_spokeTells 55 = .ok (.iaload, 1) := by decide +kernel
theorem dX6_spokeTells_56 : decode cX6_spokeTells 56 = .ok (.ireturn, 1) := by decide +kernel
theorem dX6_spokeTells_57 : decode cX6_spokeTells 57 = .ok (.aload_n 0, 1) := by decide +kernel
theorem dX6_spokeTells_58 : decode cX6_spokeTells 58 = .ok (.getfield 57, 3) := by decide +kernel
theorem dX6_spokeTells_61 : decode cX6_spokeTells 61 = .ok (.iconst 4, 1) := by decide +kernel
theorem dX6_spokeTells_62 : decode cX6_spokeTells 62 = .ok (.iload_n 1, 1) := by decide +kernel
theorem dX6_spokeTells_63 : decode cX6_spokeTells 63 = .ok (.iadd, 1) := by decide +kernel
theorem dX6_spokeTells_64 : decode cX6_spokeTells 64 = .ok (.iaload, 1) := by decide +kernel
theorem dX6_spokeTells_65 : decode cX6_spokeTells 65 = .ok (.ireturn, 1) := by decide +kernel
theorem dX6_spokeTells_66 : decode cX6_spokeTells 66 = .ok (.aload_n 0, 1) := by decide +kernel
theorem dX6_spokeTells_67 : decode cX6_spokeTells 67 = .ok (.getfield 57, 3) := by decide +kernel
theorem dX6_spokeTells_70 : decode cX6_spokeTells 70 = .ok (.iconst 3, 1) := by decide +kernel
theorem dX6_spokeTells_71 : decode cX6_spokeTells 71 = .ok (.iaload, 1) := by decide +kernel
theorem dX6_spokeTells_72 : decode cX6_spokeTells 72 = .ok (.iload_n 1, 1) := by decide +kernel
theorem dX6_spokeTells_73 : decode cX6_spokeTells 73 = .ok (.ishr, 1) := by decide +kernel
theorem dX6_spokeTells_74 : decode cX6_spokeTells 74 = .ok (.iconst 1, 1) := by decide +kernel
theorem dX6_spokeTells_75 : decode cX6_spokeTells 75 = .ok (.iand, 1) := by decide +kernel
theorem dX6_spokeTells_76 : decode cX6_spokeTells 76 = .ok (.ireturn, 1) := by decide +kernel
theorem dX6_spokeTells_77 : decode cX6_spokeTells 77 = .ok (.aload_n 0, 1) := by decide +kernel
theorem dX6_spokeTells_78 : decode cX6_spokeTells 78 = .ok (.aload_n 0, 1) := by decide +kernel
theorem dX6_spokeTells_79 : decode cX6_spokeTells 79 = .ok (.getfield 57, 3) := by decide +kernel
theorem dX6_spokeTells_82 : decode cX6_spokeTells 82 = .ok (.iload_n 1, 1) := by decide +kernel
theorem dX6_spokeTells_83 : decode cX6_spokeTells 83 = .ok (.aload_n 0, 1) := by decide +kernel
theorem dX6_spokeTells_84 : decode cX6_spokeTells 84 = .ok (.aload_n 0, 1) := by decide +kernel
theorem dX6_spokeTells_85 : decode cX6_spokeTells 85 = .ok (.getfield 57, 3) := by decide +kernel
theorem dX6_spokeTells_88 : decode cX6_spokeTells 88 = .ok (.iconst 0, 1) := by decide +kernel
theorem dX6_spokeTells_89 : decode cX6_spokeTells 89 = .ok (.iaload, 1) := by decide +kernel
theorem dX6_spokeTells_90 : decode cX6_spokeTells 90 = .ok (.invokevirtual 162, 3) := by decide +kernel
theorem dX6_spokeTells_93 : decode cX6_spokeTells 93 = .ok (.invokevirtual 165, 3) := by decide +kernel
theorem dX6_spokeTells_96 : decode cX6_spokeTells 96 = .ok (.ireturn, 1) := by decide +kernel
theorem dX6_spoke_0 : decode cX6_spoke 0 = .ok (.aload_n 0, 1) := by decide +kernel
theorem dX6_spoke_1 : decode cX6_spoke 1 = .ok (.iload_n 1, 1) := by decide +kernel
theorem dX6_spoke_2 : decode cX6_spoke 2 = .ok (.invokevirtual 169, 3) := by decide +kernel
theorem dX6_spoke_5 : decode cX6_spoke 5 = .ok (.ifCond .eq 26, 3) := by decide +kernel
theorem dX6_spoke_8 : decode cX6_spoke 8 = .ok (.iload_n 2, 1) := by decide +kernel
theorem dX6_spoke_9 : decode cX6_spoke 9 = .ok (.iconst 0, 1) := by decide +kernel
theorem dX6_spoke_10 : decode cX6_spoke 10 = .ok (.iconst 5, 1) := by decide +kernel
theorem dX6_spoke_11 : decode cX6_spoke 11 = .ok (.invokestatic 89, 3) := by decide +kernel
theorem dX6_spoke_14 : decode cX6_spoke 14 = .ok (.ifCond .eq 17, 3) := by decide +kernel
theorem dX6_spoke_17 : decode cX6_spoke 17 = .ok (.aload_n 0, 1) := by decide +kernel
theorem dX6_spoke_18 : decode cX6_spoke 18 = .ok (.aload_n 0, 1) := by decide +kernel
theorem dX6_spoke_19 : decode cX6_spoke 19 = .ok (.iload_n 1, 1) := by decide +kernel
theorem dX6_spoke_20 : decode cX6_spoke 20 = .ok (.iload_n 2, 1) := by decide +kernel
theorem dX6_spoke_21 : decode cX6_spoke 21 = .ok (.invokevirtual 172, 3) := by decide +kernel
theorem dX6_spoke_24 : decode cX6_spoke 24 = .ok (.iconst 1, 1) := by decide +kernel
theorem dX6_spoke_25 : decode cX6_spoke 25 = .ok (.invokevirtual 105, 3) := by decide +kernel
theorem dX6_spoke_28 : decode cX6_spoke 28 = .ok (.goto 4, 3) := by decide +kernel
theorem dX6_spoke_31 : decode cX6_spoke 31 = .ok (.iconst (-1), 1) := by decide +kernel
theorem dX6_spoke_32 : decode cX6_spoke 32 = .ok (.ireturn, 1) := by decide +kernel
theorem dX6_isOf_0 : decode cX6_isOf 0 = .ok (.iload_n 0, 1) := by decide +kernel
theorem dX6_isOf_1 : decode cX6_isOf 1 = .ok (.iload_n 1, 1) := by decide +kernel
theorem dX6_isOf_2 : decode cX6_isOf 2 = .ok (.if_icmp .eq 23, 3) := by decide +kernel
theorem dX6_isOf_5 : decode cX6_isOf 5 = .ok (.iload_n 1, 1) := by decide +kernel
theorem dX6_isOf_6 : decode cX6_isOf 6 = .ok (.iconst 2, 1) := by decide +kernel
theorem dX6_isOf_7 : decode cX6_isOf 7 = .ok (.if_icmp .ne 8, 3) := by decide +kernel
theorem dX6_isOf_10 : decode cX6_isOf 10 = .ok (.iload_n 0, 1) := by decide +kernel
theorem dX6_isOf_11 : decode cX6_isOf 11 = .ok (.iconst 3, 1) := by decide +kernel
theorem dX6_isOf_12 : decode cX6_isOf 12 = .ok (.if_icmp .eq 13, 3) := by decide +kernel
theorem dX6_isOf_15 : decode cX6_isOf 15 = .ok (.iload_n 1, 1) := by decide +kernel
theorem dX6_isOf_16 : decode cX6_isOf 16 = .ok (.iconst 4, 1) := by decide +kernel
theorem dX6_isOf_17 : decode cX6_isOf 17 = .ok (.if_icmp .ne 12, 3) := by decide +kernel
theorem dX6_isOf_20 : decode cX6_isOf 20 = .ok (.iload_n 0, 1) := by decide +kernel
theorem dX6_isOf_21 : decode cX6_isOf 21 = .ok (.iconst 5, 1) := by decide +kernel
theorem dX6_isOf_22 : decode cX6_isOf 22 = .ok (.if_icmp .ne 7, 3) := by decide +kernel
theorem dX6_isOf_25 : decode cX6_isOf 25 = .ok (.iconst 1, 1) := by decide +kernel
theorem dX6_isOf_26 : decode cX6_isOf 26 = .ok (.goto 4, 3) := by decide +kernel
theorem dX6_isOf_29 : decode cX6_isOf 29 = .ok (.iconst 0, 1) := by decide +kernel
theorem dX6_isOf_30 : decode cX6_isOf 30 = .ok (.ireturn, 1) := by decide +kernel
theorem dX6_alike_0 : decode cX6_alike 0 = .ok (.iload_n 2, 1) := by decide +kernel
theorem dX6_alike_1 : decode cX6_alike 1 = .ok (.aload_n 0, 1) := by decide +kernel
theorem dX6_alike_2 : decode cX6_alike 2 = .ok (.getfield 54, 3) := by decide +kernel
theorem dX6_alike_5 : decode cX6_alike 5 = .ok (.iload_n 1, 1) := by decide +kernel
theorem dX6_alike_6 : decode cX6_alike 6 = .ok (.iaload, 1) := by decide +kernel
theorem dX6_alike_7 : decode cX6_alike 7 = .ok (.aload_n 0, 1) := by decide +kernel
theorem dX6_alike_8 : decode cX6_alike 8 = .ok (.aload_n 0, 1) := by decide +kernel
theorem dX6_alike_9 : decode cX6_alike 9 = .ok (.getfield 57, 3) := by decide +kernel
theorem dX6_alike_12 : decode cX6_alike 12 = .ok (.iconst 0, 1) := by decide +kernel
theorem dX6_alike_13 : decode cX6_alike 13 = .ok (.iaload, 1) := by decide +kernel
theorem dX6_alike_14 : decode cX6_alike 14 = .ok (.invokevirtual 162, 3) := by decide +kernel
theorem dX6_alike_17 : decode cX6_alike 17 = .ok (.aload_n 0, 1) := by decide +kernel
theorem dX6_alike_18 : decode cX6_alike 18 = .ok (.getfield 57, 3) := by decide +kernel
theorem dX6_alike_21 : decode cX6_alike 21 = .ok (.iconst 4, 1) := by decide +kernel
theorem dX6_alike_22 : decode cX6_alike 22 = .ok (.iload_n 1, 1) := by decide +kernel
theorem dX6_alike_23 : decode cX6_alike 23 = .ok (.iadd, 1) := by decide +kernel
theorem dX6_alike_24 : decode cX6_alike 24 = .ok (.iaload, 1) := by decide +kernel
theorem dX6_alike_25 : decode cX6_alike 25 = .ok (.aload_n 0, 1) := by decide +kernel
theorem dX6_alike_26 : decode cX6_alike 26 = .ok (.getfield 57, 3) := by decide +kernel
theorem dX6_alike_29 : decode cX6_alike 29 = .ok (.iconst 2, 1) := by decide +kernel
theorem dX6_alike_30 : decode cX6_alike 30 = .ok (.iaload, 1) := by decide +kernel
theorem dX6_alike_31 : decode cX6_alike 31 = .ok (.invokestatic 154, 3) := by decide +kernel
theorem dX6_alike_34 : decode cX6_alike 34 = .ok (.ireturn, 1) := by decide +kernel
theorem dX6_mark_0 : decode cX6_mark 0 = .ok (.aload_n 0, 1) := by decide +kernel
theorem dX6_mark_1 : decode cX6_mark 1 = .ok (.iload_n 1, 1) := by decide +kernel
theorem dX6_mark_2 : decode cX6_mark 2 = .ok (.invokevirtual 169, 3) := by decide +kernel
theorem dX6_mark_5 : decode cX6_mark 5 = .ok (.ifCond .eq 12, 3) := by decide +kernel
theorem dX6_mark_8 : decode cX6_mark 8 = .ok (.iload_n 2, 1) := by decide +kernel
theorem dX6_mark_9 : decode cX6_mark 9 = .ok (.iconst 1, 1) := by decide +kernel
theorem dX6_mark_10 : decode cX6_mark 10 = .ok (.iconst 5, 1) := by decide +kernel
theorem dX6_mark_11 : decode cX6_mark 11 = .ok (.invokestatic 89, 3) := by decide +kernel
theorem dX6_mark_14 : decode cX6_mark 14 = .ok (.ifCond .ne 5, 3) := by decide +kernel
theorem dX6_mark_17 : decode cX6_mark 17 = .ok (.iconst (-1), 1) := by decide +kernel
theorem dX6_mark_18 : decode cX6_mark 18 = .ok (.ireturn, 1) := by decide +kernel
theorem dX6_mark_19 : decode cX6_mark 19 = .ok (.aload_n 0, 1) := by decide +kernel
theorem dX6_mark_20 : decode cX6_mark 20 = .ok (.getfield 48, 3) := by decide +kernel
theorem dX6_mark_23 : decode cX6_mark 23 = .ok (.iload_n 1, 1) := by decide +kernel
theorem dX6_mark_24 : decode cX6_mark 24 = .ok (.iaload, 1) := by decide +kernel
theorem dX6_mark_25 : decode cX6_mark 25 = .ok (.iload_n 2, 1) := by decide +kernel
theorem dX6_mark_26 : decode cX6_mark 26 = .ok (.invokestatic 175, 3) := by decide +kernel
theorem dX6_mark_29 : decode cX6_mark 29 = .ok (.ifCond .ne 9, 3) := by decide +kernel
theorem dX6_mark_32 : decode cX6_mark 32 = .ok (.aload_n 0, 1) := by decide +kernel
theorem dX6_mark_33 : decode cX6_mark 33 = .ok (.iconst 3, 1) := by decide +kernel
theorem dX6_mark_34 : decode cX6_mark 34 = .ok (.invokevirtual 97, 3) := by decide +kernel
theorem dX6_mark_37 : decode cX6_mark 37 = .ok (.ireturn, 1) := by decide +kernel
theorem dX6_mark_38 : decode cX6_mark 38 = .ok (.aload_n 0, 1) := by decide +kernel
theorem dX6_mark_39 : decode cX6_mark 39 = .ok (.iload_n 1, 1) := by decide +kernel
theorem dX6_mark_40 : decode cX6_mark 40 = .ok (.aload_n 0, 1) := by decide +kernel
theorem dX6_mark_41 : decode cX6_mark 41 = .ok (.getfield 48, 3) := by decide +kernel
theorem dX6_mark_44 : decode cX6_mark 44 = .ok (.iload_n 1, 1) := by decide +kernel
theorem dX6_mark_45 : decode cX6_mark 45 = .ok (.iaload, 1) := by decide +kernel
theorem dX6_mark_46 : decode cX6_mark 46 = .ok (.invokevirtual 178, 3) := by decide +kernel
theorem dX6_mark_49 : decode cX6_mark 49 = .ok (.istore_n 3, 1) := by decide +kernel
theorem dX6_mark_50 : decode cX6_mark 50 = .ok (.iload_n 2, 1) := by decide +kernel
theorem dX6_mark_51 : decode cX6_mark 51 = .ok (.tableswitch 60 1 5 #[33, 60, 42, 60, 51], 33) := by decide +kernel
theorem dX6_mark_84 : decode cX6_mark 84 = .ok (.aload_n 0, 1) := by decide +kernel
theorem dX6_mark_85 : decode cX6_mark 85 = .ok (.iload_n 1, 1) := by decide +kernel
theorem dX6_mark_86 : decode cX6_mark 86 = .ok (.iconst 0, 1) := by decide +kernel
theorem dX6_mark_87 : decode cX6_mark 87 = .ok (.invokevirtual 178, 3) := by decide +kernel
theorem dX6_mark_90 : decode cX6_mark 90 = .ok (.iload_n 3, 1) := by decide +kernel
theorem dX6_mark_91 : decode cX6_mark 91 = .ok (.isub, 1) := by decide +kernel
theorem dX6_mark_92 : decode cX6_mark 92 = .ok (.ireturn, 1) := by decide +kernel
theorem dX6_mark_93 : decode cX6_mark 93 = .ok (.iload_n 3, 1) := by decide +kernel
theorem dX6_mark_94 : decode cX6_mark 94 = .ok (.aload_n 0, 1) := by decide +kernel
theorem dX6_mark_95 : decode cX6_mark 95 = .ok (.iload_n 1, 1) := by decide +kernel
theorem dX6_mark_96 : decode cX6_mark 96 = .ok (.iconst 2, 1) := by decide +kernel
theorem dX6_mark_97 : decode cX6_mark 97 = .ok (.invokevirtual 178, 3) := by decide +kernel
theorem dX6_mark_100 : decode cX6_mark 100 = .ok (.isub, 1) := by decide +kernel
theorem dX6_mark_101 : decode cX6_mark 101 = .ok (.ireturn, 1) := by decide +kernel
theorem dX6_mark_102 : decode cX6_mark 102 = .ok (.aload_n 0, 1) := by decide +kernel
theorem dX6_mark_103 : decode cX6_mark 103 = .ok (.iload_n 1, 1) := by decide +kernel
theorem dX6_mark_104 : decode cX6_mark 104 = .ok (.iconst 4, 1) := by decide +kernel
theorem dX6_mark_105 : decode cX6_mark 105 = .ok (.invokevirtual 178, 3) := by decide +kernel
theorem dX6_mark_108 : decode cX6_mark 108 = .ok (.iload_n 3, 1) := by decide +kernel
theorem dX6_mark_109 : decode cX6_mark 109 = .ok (.isub, 1) := by decide +kernel
theorem dX6_mark_110 : decode cX6_mark 110 = .ok (.ireturn, 1) := by decide +kernel
theorem dX6_mark_111 : decode cX6_mark 111 = .ok (.iload_n 3, 1) := by decide +kernel
theorem dX6_mark_112 : decode cX6_mark 112 = .ok (.aload_n 0, 1) := by decide +kernel
theorem dX6_mark_113 : decode cX6_mark 113 = .ok (.iload_n 1, 1) := by decide +kernel
theorem dX6_mark_114 : decode cX6_mark 114 = .ok (.iconst 0, 1) := by decide +kernel
theorem dX6_mark_115 : decode cX6_mark 115 = .ok (.invokevirtual 178, 3) := by decide +kernel
theorem dX6_mark_118 : decode cX6_mark 118 = .ok (.isub, 1) := by decide +kernel
theorem dX6_mark_119 : decode cX6_mark 119 = .ok (.bipush 100, 2) := by decide +kernel
theorem dX6_mark_121 : decode cX6_mark 121 = .ok (.iadd, 1) := by decide +kernel
theorem dX6_mark_122 : decode cX6_mark 122 = .ok (.ireturn, 1) := by decide +kernel
theorem dX6_bears_0 : decode cX6_bears 0 = .ok (.aload_n 0, 1) := by decide +kernel
theorem dX6_bears_1 : decode cX6_bears 1 = .ok (.iload_n 1, 1) := by decide +kernel
theorem dX6_bears_2 : decode cX6_bears 2 = .ok (.invokevirtual 169, 3) := by decide +kernel
theorem dX6_bears_5 : decode cX6_bears 5 = .ok (.ifCond .eq 49, 3) := by decide +kernel
theorem dX6_bears_8 : decode cX6_bears 8 = .ok (.iload_n 2, 1) := by decide +kernel
theorem dX6_bears_9 : decode cX6_bears 9 = .ok (.iconst 0, 1) := by decide +kernel
theorem dX6_bears_10 : decode cX6_bears 10 = .ok (.bipush 9, 2) := by decide +kernel
theorem dX6_bears_12 : decode cX6_bears 12 = .ok (.invokestatic 89, 3) := by decide +kernel
theorem dX6_bears_15 : decode cX6_bears 15 = .ok (.ifCond .eq 39, 3) := by decide +kernel
theorem dX6_bears_18 : decode cX6_bears 18 = .ok (.iload_n 3, 1) := by decide +kernel
theorem dX6_bears_19 : decode cX6_bears 19 = .ok (.iconst 0, 1) := by decide +kernel
theorem dX6_bears_20 : decode cX6_bears 20 = .ok (.bipush 30, 2) := by decide +kernel
theorem dX6_bears_22 : decode cX6_bears 22 = .ok (.invokestatic 89, 3) := by decide +kernel
theorem dX6_bears_25 : decode cX6_bears 25 = .ok (.ifCond .eq 29, 3) := by decide +kernel
theorem dX6_bears_28 : decode cX6_bears 28 = .ok (.aload_n 0, 1) := by decide +kernel
theorem dX6_bears_29 : decode cX6_bears 29 = .ok (.getfield 48, 3) := by decide +kernel
theorem dX6_bears_32 : decode cX6_bears 32 = .ok (.iload_n 1, 1) := by decide +kernel
theorem dX6_bears_33 : decode cX6_bears 33 = .ok (.iaload, 1) := by decide +kernel
theorem dX6_bears_34 : decode cX6_bears 34 = .ok (.aload_n 0, 1) := by decide +kernel
theorem dX6_bears_35 : decode cX6_bears 35 = .ok (.getfield 54, 3) := by decide +kernel
theorem dX6_bears_38 : decode cX6_bears 38 = .ok (.iload_n 1, 1) := by decide +kernel
theorem dX6_bears_39 : decode cX6_bears 39 = .ok (.iaload, 1) := by decide +kernel
theorem dX6_bears_40 : decode cX6_bears 40 = .ok (.iload_n 2, 1) := by decide +kernel
theorem dX6_bears_41 : decode cX6_bears 41 = .ok (.iload_n 3, 1) := by decide +kernel
theorem dX6_bears_42 : decode cX6_bears 42 = .ok (.aload_n 0, 1) := by decide +kernel
theorem dX6_bears_43 : decode cX6_bears 43 = .ok (.getfield 57, 3) := by decide +kernel
theorem dX6_bears_46 : decode cX6_bears 46 = .ok (.iconst 2, 1) := by decide +kernel
theorem dX6_bears_47 : decode cX6_bears 47 = .ok (.iaload, 1) := by decide +kernel
theorem dX6_bears_48 : decode cX6_bears 48 = .ok (.invokestatic 154, 3) := by decide +kernel
theorem dX6_bears_51 : decode cX6_bears 51 = .ok (.goto 4, 3) := by decide +kernel
theorem dX6_bears_54 : decode cX6_bears 54 = .ok (.iconst (-1), 1) := by decide +kernel
theorem dX6_bears_55 : decode cX6_bears 55 = .ok (.ireturn, 1) := by decide +kernel
theorem dX6_remember_0 : decode cX6_remember 0 = .ok (.iconst 0, 1) := by decide +kernel
theorem dX6_remember_1 : decode cX6_remember 1 = .ok (.istore_n 1, 1) := by decide +kernel
theorem dX6_remember_2 : decode cX6_remember 2 = .ok (.iload_n 1, 1) := by decide +kernel
theorem dX6_remember_3 : decode cX6_remember 3 = .ok (.bipush 12, 2) := by decide +kernel
theorem dX6_remember_5 : decode cX6_remember 5 = .ok (.if_icmp .ge 29, 3) := by decide +kernel
theorem dX6_remember_8 : decode cX6_remember 8 = .ok (.aload_n 0, 1) := by decide +kernel
theorem dX6_remember_9 : decode cX6_remember 9 = .ok (.getfield 63, 3) := by decide +kernel
theorem dX6_remember_12 : decode cX6_remember 12 = .ok (.bipush 12, 2) := by decide +kernel
theorem dX6_remember_14 : decode cX6_remember 14 = .ok (.aload_n 0, 1) := by decide +kernel
theorem dX6_remember_15 : decode cX6_remember 15 = .ok (.getfield 148, 3) := by decide +kernel
theorem dX6_remember_18 : decode cX6_remember 18 = .ok (.imul, 1) := by decide +kernel
theorem dX6_remember_19 : decode cX6_remember 19 = .ok (.iload_n 1, 1) := by decide +kernel
theorem dX6_remember_20 : decode cX6_remember 20 = .ok (.iadd, 1) := by decide +kernel
theorem dX6_remember_21 : decode cX6_remember 21 = .ok (.aload_n 0, 1) := by decide +kernel
theorem dX6_remember_22 : decode cX6_remember 22 = .ok (.getfield 57, 3) := by decide +kernel
theorem dX6_remember_25 : decode cX6_remember 25 = .ok (.iload_n 1, 1) := by decide +kernel
theorem dX6_remember_26 : decode cX6_remember 26 = .ok (.iaload, 1) := by decide +kernel
theorem dX6_remember_27 : decode cX6_remember 27 = .ok (.iastore, 1) := by decide +kernel
theorem dX6_remember_28 : decode cX6_remember 28 = .ok (.iinc 1 1, 3) := by decide +kernel
theorem dX6_remember_31 : decode cX6_remember 31 = .ok (.goto (-29), 3) := by decide +kernel
theorem dX6_remember_34 : decode cX6_remember 34 = .ok (.aload_n 0, 1) := by decide +kernel
theorem dX6_remember_35 : decode cX6_remember 35 = .ok (.dup, 1) := by decide +kernel
theorem dX6_remember_36 : decode cX6_remember 36 = .ok (.getfield 148, 3) := by decide +kernel
theorem dX6_remember_39 : decode cX6_remember 39 = .ok (.iconst 1, 1) := by decide +kernel
theorem dX6_remember_40 : decode cX6_remember 40 = .ok (.iadd, 1) := by decide +kernel
theorem dX6_remember_41 : decode cX6_remember 41 = .ok (.putfield 148, 3) := by decide +kernel
theorem dX6_remember_44 : decode cX6_remember 44 = .ok (.return_, 1) := by decide +kernel
theorem dX6_need_0 : decode cX6_need 0 = .ok (.aload_n 0, 1) := by decide +kernel
theorem dX6_need_1 : decode cX6_need 1 = .ok (.getfield 142, 3) := by decide +kernel
theorem dX6_need_4 : decode cX6_need 4 = .ok (.ifCond .ne 8, 3) := by decide +kernel
theorem dX6_need_7 : decode cX6_need 7 = .ok (.bipush (-4), 2) := by decide +kernel
theorem dX6_need_9 : decode cX6_need 9 = .ok (.goto 18, 3) := by decide +kernel
theorem dX6_need_12 : decode cX6_need 12 = .ok (.aload_n 0, 1) := by decide +kernel
theorem dX6_need_13 : decode cX6_need 13 = .ok (.getfield 148, 3) := by decide +kernel
theorem dX6_need_16 : decode cX6_need 16 = .ok (.bipush 40, 2) := by decide +kernel
theorem dX6_need_18 : decode cX6_need 18 = .ok (.if_icmp .ne 8, 3) := by decide +kernel
theorem dX6_need_21 : decode cX6_need 21 = .ok (.bipush (-2), 2) := by decide +kernel
theorem dX6_need_23 : decode cX6_need 23 = .ok (.goto 4, 3) := by decide +kernel
theorem dX6_need_26 : decode cX6_need 26 = .ok (.iconst 0, 1) := by decide +kernel
theorem dX6_need_27 : decode cX6_need 27 = .ok (.ireturn, 1) := by decide +kernel
theorem dX6_step_0 : decode cX6_step 0 = .ok (.aload_n 0, 1) := by decide +kernel
theorem dX6_step_1 : decode cX6_step 1 = .ok (.getfield 142, 3) := by decide +kernel
theorem dX6_step_4 : decode cX6_step 4 = .ok (.ifCond .eq 14, 3) := by decide +kernel
theorem dX6_step_7 : decode cX6_step 7 = .ok (.aload_n 0, 1) := by decide +kernel
theorem dX6_step_8 : decode cX6_step 8 = .ok (.aload_n 0, 1) := by decide +kernel
theorem dX6_step_9 : decode cX6_step 9 = .ok (.getfield 57, 3) := by decide +kernel
theorem dX6_step_12 : decode cX6_step 12 = .ok (.invokevirtual 181, 3) := by decide +kernel
theorem dX6_step_15 : decode cX6_step 15 = .ok (.ifCond .eq 6, 3) := by decide +kernel
theorem dX6_step_18 : decode cX6_step 18 = .ok (.bipush (-4), 2) := by decide +kernel
theorem dX6_step_20 : decode cX6_step 20 = .ok (.ireturn, 1) := by decide +kernel
theorem dX6_step_21 : decode cX6_step 21 = .ok (.aload_n 0, 1) := by decide +kernel
theorem dX6_step_22 : decode cX6_step 22 = .ok (.getfield 148, 3) := by decide +kernel
theorem dX6_step_25 : decode cX6_step 25 = .ok (.bipush 40, 2) := by decide +kernel
theorem dX6_step_27 : decode cX6_step 27 = .ok (.if_icmp .ne 6, 3) := by decide +kernel
theorem dX6_step_30 : decode cX6_step 30 = .ok (.bipush (-2), 2) := by decide +kernel
theorem dX6_step_32 : decode cX6_step 32 = .ok (.ireturn, 1) := by decide +kernel
theorem dX6_step_33 : decode cX6_step 33 = .ok (.aload_n 0, 1) := by decide +kernel
theorem dX6_step_34 : decode cX6_step 34 = .ok (.invokevirtual 185, 3) := by decide +kernel
theorem dX6_step_37 : decode cX6_step 37 = .ok (.aload_n 0, 1) := by decide +kernel
theorem dX6_step_38 : decode cX6_step 38 = .ok (.aload_n 0, 1) := by decide +kernel
theorem dX6_step_39 : decode cX6_step 39 = .ok (.getfield 57, 3) := by decide +kernel
theorem dX6_step_42 : decode cX6_step 42 = .ok (.invokevirtual 188, 3) := by decide +kernel
theorem dX6_step_45 : decode cX6_step 45 = .ok (.ifCond .eq 7, 3) := by decide +kernel
theorem dX6_step_48 : decode cX6_step 48 = .ok (.iconst 1, 1) := by decide +kernel
theorem dX6_step_49 : decode cX6_step 49 = .ok (.goto 4, 3) := by decide +kernel
theorem dX6_step_52 : decode cX6_step 52 = .ok (.iconst 0, 1) := by decide +kernel
theorem dX6_step_53 : decode cX6_step 53 = .ok (.ireturn, 1) := by decide +kernel
theorem dX6_soaks_0 : decode cX6_soaks 0 = .ok (.iconst 0, 1) := by decide +kernel
theorem dX6_soaks_1 : decode cX6_soaks 1 = .ok (.istore_n 1, 1) := by decide +kernel
theorem dX6_soaks_2 : decode cX6_soaks 2 = .ok (.iconst 0, 1) := by decide +kernel
theorem dX6_soaks_3 : decode cX6_soaks 3 = .ok (.istore_n 2, 1) := by decide +kernel
theorem dX6_soaks_4 : decode cX6_soaks 4 = .ok (.iload_n 2, 1) := by decide +kernel
theorem dX6_soaks_5 : decode cX6_soaks 5 = .ok (.bipush 8, 2) := by decide +kernel
theorem dX6_soaks_7 : decode cX6_soaks 7 = .ok (.if_icmp .ge 26, 3) := by decide +kernel
theorem dX6_soaks_10 : decode cX6_soaks 10 = .ok (.aload_n 0, 1) := by decide +kernel
theorem dX6_soaks_11 : decode cX6_soaks 11 = .ok (.iconst 4, 1) := by decide +kernel
theorem dX6_soaks_12 : decode cX6_soaks 12 = .ok (.iload_n 2, 1) := by decide +kernel
theorem dX6_soaks_13 : decode cX6_soaks 13 = .ok (.iadd, 1) := by decide +kernel
theorem dX6_soaks_14 : decode cX6_soaks 14 = .ok (.dup2, 1) := by decide +kernel
theorem dX6_soaks_15 : decode cX6_soaks 15 = .ok (.iaload, 1) := by decide +kernel
theorem dX6_soaks_16 : decode cX6_soaks 16 = .ok (.iconst 2, 1) := by decide +kernel
theorem dX6_soaks_17 : decode cX6_soaks 17 = .ok (.idiv, 1) := by decide +kernel
theorem dX6_soaks_18 : decode cX6_soaks 18 = .ok (.iastore, 1) := by decide +kernel
theorem dX6_soaks_19 : decode cX6_soaks 19 = .ok (.iload_n 1, 1) := by decide +kernel
theorem dX6_soaks_20 : decode cX6_soaks 20 = .ok (.aload_n 0, 1) := by decide +kernel
theorem dX6_soaks_21 : decode cX6_soaks 21 = .ok (.iconst 4, 1) := by decide +kernel
theorem dX6_soaks_22 : decode cX6_soaks 22 = .ok (.iload_n 2, 1) := by decide +kernel
theorem dX6_soaks_23 : decode cX6_soaks 23 = .ok (.iadd, 1) := by decide +kernel
theorem dX6_soaks_24 : decode cX6_soaks 24 = .ok (.iaload, 1) := by decide +kernel
theorem dX6_soaks_25 : decode cX6_soaks 25 = .ok (.iadd, 1) := by decide +kernel
theorem dX6_soaks_26 : decode cX6_soaks 26 = .ok (.istore_n 1, 1) := by decide +kernel
theorem dX6_soaks_27 : decode cX6_soaks 27 = .ok (.iinc 2 1, 3) := by decide +kernel
theorem dX6_soaks_30 : decode cX6_soaks 30 = .ok (.goto (-26), 3) := by decide +kernel
theorem dX6_soaks_33 : decode cX6_soaks 33 = .ok (.iload_n 1, 1) := by decide +kernel
theorem dX6_soaks_34 : decode cX6_soaks 34 = .ok (.ireturn, 1) := by decide +kernel
theorem dX6_soak_0 : decode cX6_soak 0 = .ok (.aload_n 0, 1) := by decide +kernel
theorem dX6_soak_1 : decode cX6_soak 1 = .ok (.invokevirtual 191, 3) := by decide +kernel
theorem dX6_soak_4 : decode cX6_soak 4 = .ok (.ifCond .ge 8, 3) := by decide +kernel
theorem dX6_soak_7 : decode cX6_soak 7 = .ok (.aload_n 0, 1) := by decide +kernel
theorem dX6_soak_8 : decode cX6_soak 8 = .ok (.invokevirtual 191, 3) := by decide +kernel
theorem dX6_soak_11 : decode cX6_soak 11 = .ok (.ireturn, 1) := by decide +kernel
theorem dX6_soak_12 : decode cX6_soak 12 = .ok (.aload_n 0, 1) := by decide +kernel
theorem dX6_soak_13 : decode cX6_soak 13 = .ok (.invokevirtual 185, 3) := by decide +kernel
theorem dX6_soak_16 : decode cX6_soak 16 = .ok (.aload_n 0, 1) := by decide +kernel
theorem dX6_soak_17 : decode cX6_soak 17 = .ok (.getfield 57, 3) := by decide +kernel
theorem dX6_soak_20 : decode cX6_soak 20 = .ok (.invokestatic 195, 3) := by decide +kernel
theorem dX6_soak_23 : decode cX6_soak 23 = .ok (.ireturn, 1) := by decide +kernel
theorem dX6_weather_0 : decode cX6_weather 0 = .ok (.aload_n 0, 1) := by decide +kernel
theorem dX6_weather_1 : decode cX6_weather 1 = .ok (.invokevirtual 191, 3) := by decide +kernel
theorem dX6_weather_4 : decode cX6_weather 4 = .ok (.ifCond .ge 8, 3) := by decide +kernel
theorem dX6_weather_7 : decode cX6_weather 7 = .ok (.aload_n 0, 1) := by decide +kernel
theorem dX6_weather_8 : decode cX6_weather 8 = .ok (.invokevirtual 191, 3) := by decide +kernel
theorem dX6_weather_11 : decode cX6_weather 11 = .ok (.ireturn, 1) := by decide +kernel
theorem dX6_weather_12 : decode cX6_weather 12 = .ok (.aload_n 0, 1) := by decide +kernel
theorem dX6_weather_13 : decode cX6_weather 13 = .ok (.invokevirtual 185, 3) := by decide +kernel
theorem dX6_weather_16 : decode cX6_weather 16 = .ok (.aload_n 0, 1) := by decide +kernel
theorem dX6_weather_17 : decode cX6_weather 17 = .ok (.getfield 57, 3) := by decide +kernel
theorem dX6_weather_20 : decode cX6_weather 20 = .ok (.iconst 2, 1) := by decide +kernel
theorem dX6_weather_21 : decode cX6_weather 21 = .ok (.iconst 1, 1) := by decide +kernel
theorem dX6_weather_22 : decode cX6_weather 22 = .ok (.aload_n 0, 1) := by decide +kernel
theorem dX6_weather_23 : decode cX6_weather 23 = .ok (.getfield 57, 3) := by decide +kernel
theorem dX6_weather_26 : decode cX6_weather 26 = .ok (.iconst 2, 1) := by decide +kernel
theorem dX6_weather_27 : decode cX6_weather 27 = .ok (.iaload, 1) := by decide +kernel
theorem dX6_weather_28 : decode cX6_weather 28 = .ok (.isub, 1) := by decide +kernel
theorem dX6_weather_29 : decode cX6_weather 29 = .ok (.iastore, 1) := by decide +kernel
theorem dX6_weather_30 : decode cX6_weather 30 = .ok (.aload_n 0, 1) := by decide +kernel
theorem dX6_weather_31 : decode cX6_weather 31 = .ok (.getfield 57, 3) := by decide +kernel
theorem dX6_weather_34 : decode cX6_weather 34 = .ok (.iconst 2, 1) := by decide +kernel
theorem dX6_weather_35 : decode cX6_weather 35 = .ok (.iaload, 1) := by decide +kernel
theorem dX6_weather_36 : decode cX6_weather 36 = .ok (.ireturn, 1) := by decide +kernel
theorem dX6_knock_0 : decode cX6_knock 0 = .ok (.aload_n 0, 1) := by decide +kernel
theorem dX6_knock_1 : decode cX6_knock 1 = .ok (.iload_n 1, 1) := by decide +kernel
theorem dX6_knock_2 : decode cX6_knock 2 = .ok (.invokevirtual 169, 3) := by decide +kernel
theorem dX6_knock_5 : decode cX6_knock 5 = .ok (.ifCond .ne 5, 3) := by decide +kernel
theorem dX6_knock_8 : decode cX6_knock 8 = .ok (.iconst (-1), 1) := by decide +kernel
theorem dX6_knock_9 : decode cX6_knock 9 = .ok (.ireturn, 1) := by decide +kernel
theorem dX6_knock_10 : decode cX6_knock 10 = .ok (.aload_n 0, 1) := by decide +kernel
theorem dX6_knock_11 : decode cX6_knock 11 = .ok (.getfield 57, 3) := by decide +kernel
theorem dX6_knock_14 : decode cX6_knock 14 = .ok (.iconst 3, 1) := by decide +kernel
theorem dX6_knock_15 : decode cX6_knock 15 = .ok (.iaload, 1) := by decide +kernel
theorem dX6_knock_16 : decode cX6_knock 16 = .ok (.iload_n 1, 1) := by decide +kernel
theorem dX6_knock_17 : decode cX6_knock 17 = .ok (.invokestatic 158, 3) := by decide +kernel
theorem dX6_knock_20 : decode cX6_knock 20 = .ok (.ifCond .ne 6, 3) := by decide +kernel
theorem dX6_knock_23 : decode cX6_knock 23 = .ok (.bipush (-4), 2) := by decide +kernel
theorem dX6_knock_25 : decode cX6_knock 25 = .ok (.ireturn, 1) := by decide +kernel
theorem dX6_knock_26 : decode cX6_knock 26 = .ok (.aload_n 0, 1) := by decide +kernel
theorem dX6_knock_27 : decode cX6_knock 27 = .ok (.getfield 148, 3) := by decide +kernel
theorem dX6_knock_30 : decode cX6_knock 30 = .ok (.bipush 40, 2) := by decide +kernel
theorem dX6_knock_32 : decode cX6_knock 32 = .ok (.if_icmp .ne 6, 3) := by decide +kernel
theorem dX6_knock_35 : decode cX6_knock 35 = .ok (.bipush (-2), 2) := by decide +kernel
theorem dX6_knock_37 : decode cX6_knock 37 = .ok (.ireturn, 1) := by decide +kernel
theorem dX6_knock_38 : decode cX6_knock 38 = .ok (.aload_n 0, 1) := by decide +kernel
theorem dX6_knock_39 : decode cX6_knock 39 = .ok (.invokevirtual 185, 3) := by decide +kernel
theorem dX6_knock_42 : decode cX6_knock 42 = .ok (.aload_n 0, 1) := by decide +kernel
theorem dX6_knock_43 : decode cX6_knock 43 = .ok (.getfield 57, 3) := by decide +kernel
theorem dX6_knock_46 : decode cX6_knock 46 = .ok (.iconst 3, 1) := by decide +kernel
theorem dX6_knock_47 : decode cX6_knock 47 = .ok (.dup2, 1) := by decide +kernel
theorem dX6_knock_48 : decode cX6_knock 48 = .ok (.iaload, 1) := by decide +kernel
theorem dX6_knock_49 : decode cX6_knock 49 = .ok (.iconst 1, 1) := by decide +kernel
theorem dX6_knock_50 : decode cX6_knock 50 = .ok (.iload_n 1, 1) := by decide +kernel
theorem dX6_knock_51 : decode cX6_knock 51 = .ok (.ishl, 1) := by decide +kernel
theorem dX6_knock_52 : decode cX6_knock 52 = .ok (.iconst (-1), 1) := by decide +kernel
theorem dX6_knock_53 : decode cX6_knock 53 = .ok (.ixor, 1) := by decide +kernel
theorem dX6_knock_54 : decode cX6_knock 54 = .ok (.iand, 1) := by decide +kernel
theorem dX6_knock_55 : decode cX6_knock 55 = .ok (.iastore, 1) := by decide +kernel
theorem dX6_knock_56 : decode cX6_knock 56 = .ok (.aload_n 0, 1) := by decide +kernel
theorem dX6_knock_57 : decode cX6_knock 57 = .ok (.getfield 57, 3) := by decide +kernel
theorem dX6_knock_60 : decode cX6_knock 60 = .ok (.iconst 4, 1) := by decide +kernel
theorem dX6_knock_61 : decode cX6_knock 61 = .ok (.iload_n 1, 1) := by decide +kernel
theorem dX6_knock_62 : decode cX6_knock 62 = .ok (.iadd, 1) := by decide +kernel
theorem dX6_knock_63 : decode cX6_knock 63 = .ok (.iaload, 1) := by decide +kernel
theorem dX6_knock_64 : decode cX6_knock 64 = .ok (.ireturn, 1) := by decide +kernel
theorem dX6_puts_0 : decode cX6_puts 0 = .ok (.aload_n 0, 1) := by decide +kernel
theorem dX6_puts_1 : decode cX6_puts 1 = .ok (.iconst 3, 1) := by decide +kernel
theorem dX6_puts_2 : decode cX6_puts 2 = .ok (.dup2, 1) := by decide +kernel
theorem dX6_puts_3 : decode cX6_puts 3 = .ok (.iaload, 1) := by decide +kernel
theorem dX6_puts_4 : decode cX6_puts 4 = .ok (.iconst 1, 1) := by decide +kernel
theorem dX6_puts_5 : decode cX6_puts 5 = .ok (.iload_n 1, 1) := by decide +kernel
theorem dX6_puts_6 : decode cX6_puts 6 = .ok (.ishl, 1) := by decide +kernel
theorem dX6_puts_7 : decode cX6_puts 7 = .ok (.ior, 1) := by decide +kernel
theorem dX6_puts_8 : decode cX6_puts 8 = .ok (.iastore, 1) := by decide +kernel
theorem dX6_puts_9 : decode cX6_puts 9 = .ok (.aload_n 0, 1) := by decide +kernel
theorem dX6_puts_10 : decode cX6_puts 10 = .ok (.iconst 4, 1) := by decide +kernel
theorem dX6_puts_11 : decode cX6_puts 11 = .ok (.iload_n 1, 1) := by decide +kernel
theorem dX6_puts_12 : decode cX6_puts 12 = .ok (.iadd, 1) := by decide +kernel
theorem dX6_puts_13 : decode cX6_puts 13 = .ok (.iconst 0, 1) := by decide +kernel
theorem dX6_puts_14 : decode cX6_puts 14 = .ok (.iastore, 1) := by decide +kernel
theorem dX6_puts_15 : decode cX6_puts 15 = .ok (.return_, 1) := by decide +kernel
theorem dX6_mend_0 : decode cX6_mend 0 = .ok (.aload_n 0, 1) := by decide +kernel
theorem dX6_mend_1 : decode cX6_mend 1 = .ok (.iload_n 1, 1) := by decide +kernel
theorem dX6_mend_2 : decode cX6_mend 2 = .ok (.invokevirtual 169, 3) := by decide +kernel
theorem dX6_mend_5 : decode cX6_mend 5 = .ok (.ifCond .ne 5, 3) := by decide +kernel
theorem dX6_mend_8 : decode cX6_mend 8 = .ok (.iconst (-1), 1) := by decide +kernel
theorem dX6_mend_9 : decode cX6_mend 9 = .ok (.ireturn, 1) := by decide +kernel
theorem dX6_mend_10 : decode cX6_mend 10 = .ok (.aload_n 0, 1) := by decide +kernel
theorem dX6_mend_11 : decode cX6_mend 11 = .ok (.getfield 148, 3) := by decide +kernel
theorem dX6_mend_14 : decode cX6_mend 14 = .ok (.bipush 40, 2) := by decide +kernel
theorem dX6_mend_16 : decode cX6_mend 16 = .ok (.if_icmp .ne 6, 3) := by decide +kernel
theorem dX6_mend_19 : decode cX6_mend 19 = .ok (.bipush (-2), 2) := by decide +kernel
theorem dX6_mend_21 : decode cX6_mend 21 = .ok (.ireturn, 1) := by decide +kernel
theorem dX6_mend_22 : decode cX6_mend 22 = .ok (.aload_n 0, 1) := by decide +kernel
theorem dX6_mend_23 : decode cX6_mend 23 = .ok (.invokevirtual 185, 3) := by decide +kernel
theorem dX6_mend_26 : decode cX6_mend 26 = .ok (.aload_n 0, 1) := by decide +kernel
theorem dX6_mend_27 : decode cX6_mend 27 = .ok (.getfield 57, 3) := by decide +kernel
theorem dX6_mend_30 : decode cX6_mend 30 = .ok (.iconst 3, 1) := by decide +kernel
theorem dX6_mend_31 : decode cX6_mend 31 = .ok (.iaload, 1) := by decide +kernel
theorem dX6_mend_32 : decode cX6_mend 32 = .ok (.iload_n 1, 1) := by decide +kernel
theorem dX6_mend_33 : decode cX6_mend 33 = .ok (.ishr, 1) := by decide +kernel
theorem dX6_mend_34 : decode cX6_mend 34 = .ok (.iconst 1, 1) := by decide +kernel
theorem dX6_mend_35 : decode cX6_mend 35 = .ok (.iand, 1) := by decide +kernel
theorem dX6_mend_36 : decode cX6_mend 36 = .ok (.istore_n 2, 1) := by decide +kernel
theorem dX6_mend_37 : decode cX6_mend 37 = .ok (.aload_n 0, 1) := by decide +kernel
theorem dX6_mend_38 : decode cX6_mend 38 = .ok (.getfield 57, 3) := by decide +kernel
theorem dX6_mend_41 : decode cX6_mend 41 = .ok (.iload_n 1, 1) := by decide +kernel
theorem dX6_mend_42 : decode cX6_mend 42 = .ok (.invokestatic 199, 3) := by decide +kernel
theorem dX6_mend_45 : decode cX6_mend 45 = .ok (.iconst 1, 1) := by decide +kernel
theorem dX6_mend_46 : decode cX6_mend 46 = .ok (.iload_n 2, 1) := by decide +kernel
theorem dX6_mend_47 : decode cX6_mend 47 = .ok (.isub, 1) := by decide +kernel
theorem dX6_mend_48 : decode cX6_mend 48 = .ok (.ireturn, 1) := by decide +kernel
theorem dX6_undo_0 : decode cX6_undo 0 = .ok (.iload_n 1, 1) := by decide +kernel
theorem dX6_undo_1 : decode cX6_undo 1 = .ok (.iconst 0, 1) := by decide +kernel
theorem dX6_undo_2 : decode cX6_undo 2 = .ok (.aload_n 0, 1) := by decide +kernel
theorem dX6_undo_3 : decode cX6_undo 3 = .ok (.getfield 148, 3) := by decide +kernel
theorem dX6_undo_6 : decode cX6_undo 6 = .ok (.invokestatic 89, 3) := by decide +kernel
theorem dX6_undo_9 : decode cX6_undo 9 = .ok (.ifCond .ne 5, 3) := by decide +kernel
theorem dX6_undo_12 : decode cX6_undo 12 = .ok (.iconst (-1), 1) := by decide +kernel
theorem dX6_undo_13 : decode cX6_undo 13 = .ok (.ireturn, 1) := by decide +kernel
theorem dX6_undo_14 : decode cX6_undo 14 = .ok (.aload_n 0, 1) := by decide +kernel
theorem dX6_undo_15 : decode cX6_undo 15 = .ok (.getfield 148, 3) := by decide +kernel
theorem dX6_undo_18 : decode cX6_undo 18 = .ok (.iload_n 1, 1) := by decide +kernel
theorem dX6_undo_19 : decode cX6_undo 19 = .ok (.isub, 1) := by decide +kernel
theorem dX6_undo_20 : decode cX6_undo 20 = .ok (.istore_n 2, 1) := by decide +kernel
theorem dX6_undo_21 : decode cX6_undo 21 = .ok (.iconst 0, 1) := by decide +kernel
theorem dX6_undo_22 : decode cX6_undo 22 = .ok (.istore_n 3, 1) := by decide +kernel
theorem dX6_undo_23 : decode cX6_undo 23 = .ok (.iload_n 3, 1) := by decide +kernel
theorem dX6_undo_24 : decode cX6_undo 24 = .ok (.bipush 12, 2) := by decide +kernel
theorem dX6_undo_26 : decode cX6_undo 26 = .ok (.if_icmp .ge 30, 3) := by decide +kernel
theorem dX6_undo_29 : decode cX6_undo 29 = .ok (.iload_n 2, 1) := by decide +kernel
theorem dX6_undo_30 : decode cX6_undo 30 = .ok (.ifCond .le 26, 3) := by decide +kernel
theorem dX6_undo_33 : decode cX6_undo 33 = .ok (.aload_n 0, 1) := by decide +kernel
theorem dX6_undo_34 : decode cX6_undo 34 = .ok (.getfield 57, 3) := by decide +kernel
theorem dX6_undo_37 : decode cX6_undo 37 = .ok (.iload_n 3, 1) := by decide +kernel
theorem dX6_undo_38 : decode cX6_undo 38 = .ok (.aload_n 0, 1) := by decide +kernel
theorem dX6_undo_39 : decode cX6_undo 39 = .ok (.getfield 63, 3) := by decide +kernel
theorem dX6_undo_42 : decode cX6_undo 42 = .ok (.bipush 12, 2) := by decide +kernel
theorem dX6_undo_44 : decode cX6_undo 44 = .ok (.iload_n 1, 1) := by decide +kernel
theorem dX6_undo_45 : decode cX6_undo 45 = .ok (.imul, 1) := by decide +kernel
theorem dX6_undo_46 : decode cX6_undo 46 = .ok (.iload_n 3, 1) := by decide +kernel
theorem dX6_undo_47 : decode cX6_undo 47 = .ok (.iadd, 1) := by decide +kernel
theorem dX6_undo_48 : decode cX6_undo 48 = .ok (.iaload, 1) := by decide +kernel
theorem dX6_undo_49 : decode cX6_undo 49 = .ok (.iastore, 1) := by decide +kernel
theorem dX6_undo_50 : decode cX6_undo 50 = .ok (.iinc 3 1, 3) := by decide +kernel
theorem dX6_undo_53 : decode cX6_undo 53 = .ok (.goto (-30), 3) := by decide +kernel
theorem dX6_undo_56 : decode cX6_undo 56 = .ok (.aload_n 0, 1) := by decide +kernel
theorem dX6_undo_57 : decode cX6_undo 57 = .ok (.iload_n 1, 1) := by decide +kernel
theorem dX6_undo_58 : decode cX6_undo 58 = .ok (.putfield 148, 3) := by decide +kernel
theorem dX6_undo_61 : decode cX6_undo 61 = .ok (.iload_n 2, 1) := by decide +kernel
theorem dX6_undo_62 : decode cX6_undo 62 = .ok (.ireturn, 1) := by decide +kernel
theorem dX6_keep_0 : decode cX6_keep 0 = .ok (.iload_n 1, 1) := by decide +kernel
theorem dX6_keep_1 : decode cX6_keep 1 = .ok (.iconst 0, 1) := by decide +kernel
theorem dX6_keep_2 : decode cX6_keep 2 = .ok (.iconst 2, 1) := by decide +kernel
theorem dX6_keep_3 : decode cX6_keep 3 = .ok (.invokestatic 89, 3) := by decide +kernel
theorem dX6_keep_6 : decode cX6_keep 6 = .ok (.ifCond .ne 5, 3) := by decide +kernel
theorem dX6_keep_9 : decode cX6_keep 9 = .ok (.iconst (-1), 1) := by decide +kernel
theorem dX6_keep_10 : decode cX6_keep 10 = .ok (.ireturn, 1) := by decide +kernel
theorem dX6_keep_11 : decode cX6_keep 11 = .ok (.aload_n 0, 1) := by decide +kernel
theorem dX6_keep_12 : decode cX6_keep 12 = .ok (.getfield 142, 3) := by decide +kernel
theorem dX6_keep_15 : decode cX6_keep 15 = .ok (.ifCond .ne 6, 3) := by decide +kernel
theorem dX6_keep_18 : decode cX6_keep 18 = .ok (.bipush (-4), 2) := by decide +kernel
theorem dX6_keep_20 : decode cX6_keep 20 = .ok (.ireturn, 1) := by decide +kernel
theorem dX6_keep_21 : decode cX6_keep 21 = .ok (.aload_n 0, 1) := by decide +kernel
theorem dX6_keep_22 : decode cX6_keep 22 = .ok (.getfield 66, 3) := by decide +kernel
theorem dX6_keep_25 : decode cX6_keep 25 = .ok (.iload_n 1, 1) := by decide +kernel
theorem dX6_keep_26 : decode cX6_keep 26 = .ok (.aload_n 0, 1) := by decide +kernel
theorem dX6_keep_27 : decode cX6_keep 27 = .ok (.getfield 148, 3) := by decide +kernel
theorem dX6_keep_30 : decode cX6_keep 30 = .ok (.iastore, 1) := by decide +kernel
theorem dX6_keep_31 : decode cX6_keep 31 = .ok (.iconst 0, 1) := by decide +kernel
theorem dX6_keep_32 : decode cX6_keep 32 = .ok (.istore_n 2, 1) := by decide +kernel
theorem dX6_keep_33 : decode cX6_keep 33 = .ok (.iload_n 2, 1) := by decide +kernel
theorem dX6_keep_34 : decode cX6_keep 34 = .ok (.bipush 12, 2) := by decide +kernel
theorem dX6_keep_36 : decode cX6_keep 36 = .ok (.if_icmp .ge 27, 3) := by decide +kernel
theorem dX6_keep_39 : decode cX6_keep 39 = .ok (.aload_n 0, 1) := by decide +kernel
theorem dX6_keep_40 : decode cX6_keep 40 = .ok (.getfield 69, 3) := by decide +kernel
theorem dX6_keep_43 : decode cX6_keep 43 = .ok (.sipush 492, 3) := by decide +kernel
theorem dX6_keep_46 : decode cX6_keep 46 = .ok (.iload_n 1, 1) := by decide +kernel
theorem dX6_keep_47 : decode cX6_keep 47 = .ok (.imul, 1) := by decide +kernel
theorem dX6_keep_48 : decode cX6_keep 48 = .ok (.iload_n 2, 1) := by decide +kernel
theorem dX6_keep_49 : decode cX6_keep 49 = .ok (.iadd, 1) := by decide +kernel
theorem dX6_keep_50 : decode cX6_keep 50 = .ok (.aload_n 0, 1) := by decide +kernel
theorem dX6_keep_51 : decode cX6_keep 51 = .ok (.getfield 57, 3) := by decide +kernel
theorem dX6_keep_54 : decode cX6_keep 54 = .ok (.iload_n 2, 1) := by decide +kernel
theorem dX6_keep_55 : decode cX6_keep 55 = .ok (.iaload, 1) := by decide +kernel
theorem dX6_keep_56 : decode cX6_keep 56 = .ok (.iastore, 1) := by decide +kernel
theorem dX6_keep_57 : decode cX6_keep 57 = .ok (.iinc 2 1, 3) := by decide +kernel
theorem dX6_keep_60 : decode cX6_keep 60 = .ok (.goto (-27), 3) := by decide +kernel
theorem dX6_keep_63 : decode cX6_keep 63 = .ok (.iconst 0, 1) := by decide +kernel
theorem dX6_keep_64 : decode cX6_keep 64 = .ok (.istore_n 2, 1) := by decide +kernel
theorem dX6_keep_65 : decode cX6_keep 65 = .ok (.iload_n 2, 1) := by decide +kernel
theorem dX6_keep_66 : decode cX6_keep 66 = .ok (.bipush 12, 2) := by decide +kernel
theorem dX6_keep_68 : decode cX6_keep 68 = .ok (.aload_n 0, 1) := by decide +kernel
theorem dX6_keep_69 : decode cX6_keep 69 = .ok (.getfield 148, 3) := by decide +kernel
theorem dX6_keep_72 : decode cX6_keep 72 = .ok (.imul, 1) := by decide +kernel
theorem dX6_keep_73 : decode cX6_keep 73 = .ok (.if_icmp .ge 30, 3) := by decide +kernel
theorem dX6_keep_76 : decode cX6_keep 76 = .ok (.aload_n 0, 1) := by decide +kernel
theorem dX6_keep_77 : decode cX6_keep 77 = .ok (.getfield 69, 3) := by decide +kernel
theorem dX6_keep_80 : decode cX6_keep 80 = .ok (.sipush 492, 3) := by decide +kernel
theorem dX6_keep_83 : decode cX6_keep 83 = .ok (.iload_n 1, 1) := by decide +kernel
theorem dX6_keep_84 : decode cX6_keep 84 = .ok (.imul, 1) := by decide +kernel
theorem dX6_keep_85 : decode cX6_keep 85 = .ok (.bipush 12, 2) := by decide +kernel
theorem dX6_keep_87 : decode cX6_keep 87 = .ok (.iadd, 1) := by decide +kernel
theorem dX6_keep_88 : decode cX6_keep 88 = .ok (.iload_n 2, 1) := by decide +kernel
theorem dX6_keep_89 : decode cX6_keep 89 = .ok (.iadd, 1) := by decide +kernel
theorem dX6_keep_90 : decode cX6_keep 90 = .ok (.aload_n 0, 1) := by decide +kernel
theorem dX6_keep_91 : decode cX6_keep 91 = .ok (.getfield 63, 3) := by decide +kernel
theorem dX6_keep_94 : decode cX6_keep 94 = .ok (.iload_n 2, 1) := by decide +kernel
theorem dX6_keep_95 : decode cX6_keep 95 = .ok (.iaload, 1) := by decide +kernel
theorem dX6_keep_96 : decode cX6_keep 96 = .ok (.iastore, 1) := by decide +kernel
theorem dX6_keep_97 : decode cX6_keep 97 = .ok (.iinc 2 1, 3) := by decide +kernel
theorem dX6_keep_100 : decode cX6_keep 100 = .ok (.goto (-35), 3) := by decide +kernel
theorem dX6_keep_103 : decode cX6_keep 103 = .ok (.aload_n 0, 1) := by decide +kernel
theorem dX6_keep_104 : decode cX6_keep 104 = .ok (.getfield 148, 3) := by decide +kernel
theorem dX6_keep_107 : decode cX6_keep 107 = .ok (.ireturn, 1) := by decide +kernel
theorem dX6_on_0 : decode cX6_on 0 = .ok (.iload_n 1, 1) := by decide +kernel
theorem dX6_on_1 : decode cX6_on 1 = .ok (.iconst 0, 1) := by decide +kernel
theorem dX6_on_2 : decode cX6_on 2 = .ok (.iconst 2, 1) := by decide +kernel
theorem dX6_on_3 : decode cX6_on 3 = .ok (.invokestatic 89, 3) := by decide +kernel
theorem dX6_on_6 : decode cX6_on 6 = .ok (.ifCond .ne 5, 3) := by decide +kernel
theorem dX6_on_9 : decode cX6_on 9 = .ok (.iconst (-1), 1) := by decide +kernel
theorem dX6_on_10 : decode cX6_on 10 = .ok (.ireturn, 1) := by decide +kernel
theorem dX6_on_11 : decode cX6_on 11 = .ok (.aload_n 0, 1) := by decide +kernel
theorem dX6_on_12 : decode cX6_on 12 = .ok (.getfield 66, 3) := by decide +kernel
theorem dX6_on_15 : decode cX6_on 15 = .ok (.iload_n 1, 1) := by decide +kernel
theorem dX6_on_16 : decode cX6_on 16 = .ok (.iaload, 1) := by decide +kernel
theorem dX6_on_17 : decode cX6_on 17 = .ok (.ifCond .ge 9, 3) := by decide +kernel
theorem dX6_on_20 : decode cX6_on 20 = .ok (.aload_n 0, 1) := by decide +kernel
theorem dX6_on_21 : decode cX6_on 21 = .ok (.iconst 1, 1) := by decide +kernel
theorem dX6_on_22 : decode cX6_on 22 = .ok (.invokevirtual 97, 3) := by decide +kernel
theorem dX6_on_25 : decode cX6_on 25 = .ok (.ireturn, 1) := by decide +kernel
theorem dX6_on_26 : decode cX6_on 26 = .ok (.aload_n 0, 1) := by decide +kernel
theorem dX6_on_27 : decode cX6_on 27 = .ok (.aload_n 0, 1) := by decide +kernel
theorem dX6_on_28 : decode cX6_on 28 = .ok (.getfield 66, 3) := by decide +kernel
theorem dX6_on_31 : decode cX6_on 31 = .ok (.iload_n 1, 1) := by decide +kernel
theorem dX6_on_32 : decode cX6_on 32 = .ok (.iaload, 1) := by decide +kernel
theorem dX6_on_33 : decode cX6_on 33 = .ok (.putfield 148, 3) := by decide +kernel
theorem dX6_on_36 : decode cX6_on 36 = .ok (.iconst 0, 1) := by decide +kernel
theorem dX6_on_37 : decode cX6_on 37 = .ok (.istore_n 2, 1) := by decide +kernel
theorem dX6_on_38 : decode cX6_on 38 = .ok (.iload_n 2, 1) := by decide +kernel
theorem dX6_on_39 : decode cX6_on 39 = .ok (.bipush 12, 2) := by decide +kernel
theorem dX6_on_41 : decode cX6_on 41 = .ok (.if_icmp .ge 27, 3) := by decide +kernel
theorem dX6_on_44 : decode cX6_on 44 = .ok (.aload_n 0, 1) := by decide +kernel
theorem dX6_on_45 : decode cX6_on 45 = .ok (.getfield 57, 3) := by decide +kernel
theorem dX6_on_48 : decode cX6_on 48 = .ok (.iload_n 2, 1) := by decide +kernel
theorem dX6_on_49 : decode cX6_on 49 = .ok (.aload_n 0, 1) := by decide +kernel
theorem dX6_on_50 : decode cX6_on 50 = .ok (.getfield 69, 3) := by decide +kernel
theorem dX6_on_53 : decode cX6_on 53 = .ok (.sipush 492, 3) := by decide +kernel
theorem dX6_on_56 : decode cX6_on 56 = .ok (.iload_n 1, 1) := by decide +kernel
theorem dX6_on_57 : decode cX6_on 57 = .ok (.imul, 1) := by decide +kernel
theorem dX6_on_58 : decode cX6_on 58 = .ok (.iload_n 2, 1) := by decide +kernel
theorem dX6_on_59 : decode cX6_on 59 = .ok (.iadd, 1) := by decide +kernel
theorem dX6_on_60 : decode cX6_on 60 = .ok (.iaload, 1) := by decide +kernel
theorem dX6_on_61 : decode cX6_on 61 = .ok (.iastore, 1) := by decide +kernel
theorem dX6_on_62 : decode cX6_on 62 = .ok (.iinc 2 1, 3) := by decide +kernel
theorem dX6_on_65 : decode cX6_on 65 = .ok (.goto (-27), 3) := by decide +kernel
theorem dX6_on_68 : decode cX6_on 68 = .ok (.iconst 0, 1) := by decide +kernel
theorem dX6_on_69 : decode cX6_on 69 = .ok (.istore_n 2, 1) := by decide +kernel
theorem dX6_on_70 : decode cX6_on 70 = .ok (.iload_n 2, 1) := by decide +kernel
theorem dX6_on_71 : decode cX6_on 71 = .ok (.bipush 12, 2) := by decide +kernel
theorem dX6_on_73 : decode cX6_on 73 = .ok (.aload_n 0, 1) := by decide +kernel
theorem dX6_on_74 : decode cX6_on 74 = .ok (.getfield 148, 3) := by decide +kernel
theorem dX6_on_77 : decode cX6_on 77 = .ok (.imul, 1) := by decide +kernel
theorem dX6_on_78 : decode cX6_on 78 = .ok (.if_icmp .ge 30, 3) := by decide +kernel
theorem dX6_on_81 : decode cX6_on 81 = .ok (.aload_n 0, 1) := by decide +kernel
theorem dX6_on_82 : decode cX6_on 82 = .ok (.getfield 63, 3) := by decide +kernel
theorem dX6_on_85 : decode cX6_on 85 = .ok (.iload_n 2, 1) := by decide +kernel
theorem dX6_on_86 : decode cX6_on 86 = .ok (.aload_n 0, 1) := by decide +kernel
theorem dX6_on_87 : decode cX6_on 87 = .ok (.getfield 69, 3) := by decide +kernel
theorem dX6_on_90 : decode cX6_on 90 = .ok (.sipush 492, 3) := by decide +kernel
theorem dX6_on_93 : decode cX6_on 93 = .ok (.iload_n 1, 1) := by decide +kernel
theorem dX6_on_94 : decode cX6_on 94 = .ok (.imul, 1) := by decide +kernel
theorem dX6_on_95 : decode cX6_on 95 = .ok (.bipush 12, 2) := by decide +kernel
theorem dX6_on_97 : decode cX6_on 97 = .ok (.iadd, 1) := by decide +kernel
theorem dX6_on_98 : decode cX6_on 98 = .ok (.iload_n 2, 1) := by decide +kernel
theorem dX6_on_99 : decode cX6_on 99 = .ok (.iadd, 1) := by decide +kernel
theorem dX6_on_100 : decode cX6_on 100 = .ok (.iaload, 1) := by decide +kernel
theorem dX6_on_101 : decode cX6_on 101 = .ok (.iastore, 1) := by decide +kernel
theorem dX6_on_102 : decode cX6_on 102 = .ok (.iinc 2 1, 3) := by decide +kernel
theorem dX6_on_105 : decode cX6_on 105 = .ok (.goto (-35), 3) := by decide +kernel
theorem dX6_on_108 : decode cX6_on 108 = .ok (.aload_n 0, 1) := by decide +kernel
theorem dX6_on_109 : decode cX6_on 109 = .ok (.getfield 148, 3) := by decide +kernel
theorem dX6_on_112 : decode cX6_on 112 = .ok (.ireturn, 1) := by decide +kernel
theorem dX6_copyNow_0 : decode cX6_copyNow 0 = .ok (.iconst 0, 1) := by decide +kernel
theorem dX6_copyNow_1 : decode cX6_copyNow 1 = .ok (.istore_n 1, 1) := by decide +kernel
theorem dX6_copyNow_2 : decode cX6_copyNow 2 = .ok (.iload_n 1, 1) := by decide +kernel
theorem dX6_copyNow_3 : decode cX6_copyNow 3 = .ok (.bipush 12, 2) := by decide +kernel
theorem dX6_copyNow_5 : decode cX6_copyNow 5 = .ok (.if_icmp .ge 21, 3) := by decide +kernel
theorem dX6_copyNow_8 : decode cX6_copyNow 8 = .ok (.aload_n 0, 1) := by decide +kernel
theorem dX6_copyNow_9 : decode cX6_copyNow 9 = .ok (.getfield 60, 3) := by decide +kernel
theorem dX6_copyNow_12 : decode cX6_copyNow 12 = .ok (.iload_n 1, 1) := by decide +kernel
theorem dX6_copyNow_13 : decode cX6_copyNow 13 = .ok (.aload_n 0, 1) := by decide +kernel
theorem dX6_copyNow_14 : decode cX6_copyNow 14 = .ok (.getfield 57, 3) := by decide +kernel
theorem dX6_copyNow_17 : decode cX6_copyNow 17 = .ok (.iload_n 1, 1) := by decide +kernel
theorem dX6_copyNow_18 : decode cX6_copyNow 18 = .ok (.iaload, 1) := by decide +kernel
theorem dX6_copyNow_19 : decode cX6_copyNow 19 = .ok (.iastore, 1) := by decide +kernel
theorem dX6_copyNow_20 : decode cX6_copyNow 20 = .ok (.iinc 1 1, 3) := by decide +kernel
theorem dX6_copyNow_23 : decode cX6_copyNow 23 = .ok (.goto (-21), 3) := by decide +kernel
theorem dX6_copyNow_26 : decode cX6_copyNow 26 = .ok (.return_, 1) := by decide +kernel
theorem dX6_limpsIn_0 : decode cX6_limpsIn 0 = .ok (.iconst 0, 1) := by decide +kernel
theorem dX6_limpsIn_1 : decode cX6_limpsIn 1 = .ok (.istore_n 3, 1) := by decide +kernel
theorem dX6_limpsIn_2 : decode cX6_limpsIn 2 = .ok (.iconst 0, 1) := by decide +kernel
theorem dX6_limpsIn_3 : decode cX6_limpsIn 3 = .ok (.istore 4, 2) := by decide +kernel
theorem dX6_limpsIn_5 : decode cX6_limpsIn 5 = .ok (.iload 4, 2) := by decide +kernel
theorem dX6_limpsIn_7 : decode cX6_limpsIn 7 = .ok (.iload_n 1, 1) := by decide +kernel
theorem dX6_limpsIn_8 : decode cX6_limpsIn 8 = .ok (.if_icmp .ge 55, 3) := by decide +kernel
theorem dX6_limpsIn_11 : decode cX6_limpsIn 11 = .ok (.aload_n 0, 1) := by decide +kernel
theorem dX6_limpsIn_12 : decode cX6_limpsIn 12 = .ok (.aload_n 0, 1) := by decide +kernel
theorem dX6_limpsIn_13 : decode cX6_limpsIn 13 = .ok (.getfield 60, 3) := by decide +kernel
theorem dX6_limpsIn_16 : decode cX6_limpsIn 16 = .ok (.invokevirtual 181, 3) := by decide +kernel
theorem dX6_limpsIn_19 : decode cX6_limpsIn 19 = .ok (.istore 5, 2) := by decide +kernel
theorem dX6_limpsIn_21 : decode cX6_limpsIn 21 = .ok (.iload_n 3, 1) := by decide +kernel
theorem dX6_limpsIn_22 : decode cX6_limpsIn 22 = .ok (.iload 5, 2) := by decide +kernel
theorem dX6_limpsIn_24 : decode cX6_limpsIn 24 = .ok (.ifCond .eq 15, 3) := by decide +kernel
theorem dX6_limpsIn_27 : decode cX6_limpsIn 27 = .ok (.iload_n 2, 1) := by decide +kernel
theorem dX6_limpsIn_28 : decode cX6_limpsIn 28 = .ok (.ifCond .eq 7, 3) := by decide +kernel
theorem dX6_limpsIn_31 : decode cX6_limpsIn 31 = .ok (.iconst 1, 1) := by decide +kernel
theorem dX6_limpsIn_32 : decode cX6_limpsIn 32 = .ok (.goto 23, 3) := by decide +kernel
theorem dX6_limpsIn_35 : decode cX6_limpsIn 35 = .ok (.iconst 0, 1) := by decide +kernel
theorem dX6_limpsIn_36 : decode cX6_limpsIn 36 = .ok (.goto 19, 3) := by decide +kernel
theorem dX6_limpsIn_39 : decode cX6_limpsIn 39 = .ok (.aload_n 0, 1) := by decide +kernel
theorem dX6_limpsIn_40 : decode cX6_limpsIn 40 = .ok (.aload_n 0, 1) := by decide +kernel
theorem dX6_limpsIn_41 : decode cX6_limpsIn 41 = .ok (.getfield 60, 3) := by decide +kernel
theorem dX6_limpsIn_44 : decode cX6_limpsIn 44 = .ok (.invokevirtual 188, 3) := by decide +kernel
theorem dX6_limpsIn_47 : decode cX6_limpsIn 47 = .ok (.ifCond .eq 7, 3) := by decide +kernel
theorem dX6_limpsIn_50 : decode cX6_limpsIn 50 = .ok (.iconst 1, 1) := by decide +kernel
theorem dX6_limpsIn_51 : decode cX6_limpsIn 51 = .ok (.goto 4, 3) := by decide +kernel
theorem dX6_limpsIn_54 : decode cX6_limpsIn 54 = .ok (.iconst 0, 1) := by decide +kernel
theorem dX6_limpsIn_55 : decode cX6_limpsIn 55 = .ok (.iadd, 1) := by decide +kernel
theorem dX6_limpsIn_56 : decode cX6_limpsIn 56 = .ok (.istore_n 3, 1) := by decide +kernel
theorem dX6_limpsIn_57 : decode cX6_limpsIn 57 = .ok (.iinc 4 1, 3) := by decide +kernel
theorem dX6_limpsIn_60 : decode cX6_limpsIn 60 = .ok (.goto (-55), 3) := by decide +kernel
theorem dX6_limpsIn_63 : decode cX6_limpsIn 63 = .ok (.iload_n 3, 1) := by decide +kernel
theorem dX6_limpsIn_64 : decode cX6_limpsIn 64 = .ok (.ireturn, 1) := by decide +kernel
theorem dX6_goes_0 : decode cX6_goes 0 = .ok (.iload_n 1, 1) := by decide +kernel
theorem dX6_goes_1 : decode cX6_goes 1 = .ok (.iconst 0, 1) := by decide +kernel
theorem dX6_goes_2 : decode cX6_goes 2 = .ok (.bipush 60, 2) := by decide +kernel
theorem dX6_goes_4 : decode cX6_goes 4 = .ok (.invokestatic 89, 3) := by decide +kernel
theorem dX6_goes_7 : decode cX6_goes 7 = .ok (.ifCond .ne 5, 3) := by decide +kernel
theorem dX6_goes_10 : decode cX6_goes 10 = .ok (.iconst (-1), 1) := by decide +kernel
theorem dX6_goes_11 : decode cX6_goes 11 = .ok (.ireturn, 1) := by decide +kernel
theorem dX6_goes_12 : decode cX6_goes 12 = .ok (.aload_n 0, 1) := by decide +kernel
theorem dX6_goes_13 : decode cX6_goes 13 = .ok (.getfield 142, 3) := by decide +kernel
theorem dX6_goes_16 : decode cX6_goes 16 = .ok (.ifCond .ne 6, 3) := by decide +kernel
theorem dX6_goes_19 : decode cX6_goes 19 = .ok (.bipush (-4), 2) := by decide +kernel
theorem dX6_goes_21 : decode cX6_goes 21 = .ok (.ireturn, 1) := by decide +kernel
theorem dX6_goes_22 : decode cX6_goes 22 = .ok (.aload_n 0, 1) := by decide +kernel
theorem dX6_goes_23 : decode cX6_goes 23 = .ok (.invokevirtual 203, 3) := by decide +kernel
theorem dX6_goes_26 : decode cX6_goes 26 = .ok (.aload_n 0, 1) := by decide +kernel
theorem dX6_goes_27 : decode cX6_goes 27 = .ok (.iload_n 1, 1) := by decide +kernel
theorem dX6_goes_28 : decode cX6_goes 28 = .ok (.iconst 0, 1) := by decide +kernel
theorem dX6_goes_29 : decode cX6_goes 29 = .ok (.invokevirtual 206, 3) := by decide +kernel
theorem dX6_goes_32 : decode cX6_goes 32 = .ok (.istore_n 2, 1) := by decide +kernel
theorem dX6_goes_33 : decode cX6_goes 33 = .ok (.aload_n 0, 1) := by decide +kernel
theorem dX6_goes_34 : decode cX6_goes 34 = .ok (.iload_n 2, 1) := by decide +kernel
theorem dX6_goes_35 : decode cX6_goes 35 = .ok (.aload_n 0, 1) := by decide +kernel
theorem dX6_goes_36 : decode cX6_goes 36 = .ok (.getfield 60, 3) := by decide +kernel
theorem dX6_goes_39 : decode cX6_goes 39 = .ok (.iconst 0, 1) := by decide +kernel
theorem dX6_goes_40 : decode cX6_goes 40 = .ok (.iaload, 1) := by decide +kernel
theorem dX6_goes_41 : decode cX6_goes 41 = .ok (.invokevirtual 105, 3) := by decide +kernel
theorem dX6_goes_44 : decode cX6_goes 44 = .ok (.ireturn, 1) := by decide +kernel
theorem dX6_all_0 : decode cX6_all 0 = .ok (.iconst 1, 1) := by decide +kernel
theorem dX6_all_1 : decode cX6_all 1 = .ok (.aload_n 0, 1) := by decide +kernel
theorem dX6_all_2 : decode cX6_all 2 = .ok (.getfield 142, 3) := by decide +kernel
theorem dX6_all_5 : decode cX6_all 5 = .ok (.ishl, 1) := by decide +kernel
theorem dX6_all_6 : decode cX6_all 6 = .ok (.iconst 1, 1) := by decide +kernel
theorem dX6_all_7 : decode cX6_all 7 = .ok (.isub, 1) := by decide +kernel
theorem dX6_all_8 : decode cX6_all 8 = .ok (.ireturn, 1) := by decide +kernel
theorem dX6_over_0 : decode cX6_over 0 = .ok (.aload_n 0, 1) := by decide +kernel
theorem dX6_over_1 : decode cX6_over 1 = .ok (.getfield 142, 3) := by decide +kernel
theorem dX6_over_4 : decode cX6_over 4 = .ok (.ifCond .ne 6, 3) := by decide +kernel
theorem dX6_over_7 : decode cX6_over 7 = .ok (.bipush (-4), 2) := by decide +kernel
theorem dX6_over_9 : decode cX6_over 9 = .ok (.ireturn, 1) := by decide +kernel
theorem dX6_over_10 : decode cX6_over 10 = .ok (.aload_n 0, 1) := by decide +kernel
theorem dX6_over_11 : decode cX6_over 11 = .ok (.invokevirtual 203, 3) := by decide +kernel
theorem dX6_over_14 : decode cX6_over 14 = .ok (.aload_n 0, 1) := by decide +kernel
theorem dX6_over_15 : decode cX6_over 15 = .ok (.bipush 60, 2) := by decide +kernel
theorem dX6_over_17 : decode cX6_over 17 = .ok (.iconst 0, 1) := by decide +kernel
theorem dX6_over_18 : decode cX6_over 18 = .ok (.invokevirtual 206, 3) := by decide +kernel
theorem dX6_over_21 : decode cX6_over 21 = .ok (.pop, 1) := by decide +kernel
theorem dX6_over_22 : decode cX6_over 22 = .ok (.aload_n 0, 1) := by decide +kernel
theorem dX6_over_23 : decode cX6_over 23 = .ok (.aload_n 0, 1) := by decide +kernel
theorem dX6_over_24 : decode cX6_over 24 = .ok (.getfield 60, 3) := by decide +kernel
theorem dX6_over_27 : decode cX6_over 27 = .ok (.invokevirtual 181, 3) := by decide +kernel
theorem dX6_over_30 : decode cX6_over 30 = .ok (.ifCond .eq 29, 3) := by decide +kernel
theorem dX6_over_33 : decode cX6_over 33 = .ok (.aload_n 0, 1) := by decide +kernel
theorem dX6_over_34 : decode cX6_over 34 = .ok (.aload_n 0, 1) := by decide +kernel
theorem dX6_over_35 : decode cX6_over 35 = .ok (.invokevirtual 210, 3) := by decide +kernel
theorem dX6_over_38 : decode cX6_over 38 = .ok (.aload_n 0, 1) := by decide +kernel
theorem dX6_over_39 : decode cX6_over 39 = .ok (.getfield 60, 3) := by decide +kernel
theorem dX6_over_42 : decode cX6_over 42 = .ok (.iconst 3, 1) := by decide +kernel
theorem dX6_over_43 : decode cX6_over 43 = .ok (.iaload, 1) := by decide +kernel
theorem dX6_over_44 : decode cX6_over 44 = .ok (.iconst (-1), 1) := by decide +kernel
theorem dX6_over_45 : decode cX6_over 45 = .ok (.ixor, 1) := by decide +kernel
theorem dX6_over_46 : decode cX6_over 46 = .ok (.iand, 1) := by decide +kernel
theorem dX6_over_47 : decode cX6_over 47 = .ok (.aload_n 0, 1) := by decide +kernel
theorem dX6_over_48 : decode cX6_over 48 = .ok (.getfield 60, 3) := by decide +kernel
theorem dX6_over_51 : decode cX6_over 51 = .ok (.iconst 0, 1) := by decide +kernel
theorem dX6_over_52 : decode cX6_over 52 = .ok (.iaload, 1) := by decide +kernel
theorem dX6_over_53 : decode cX6_over 53 = .ok (.invokevirtual 105, 3) := by decide +kernel
theorem dX6_over_56 : decode cX6_over 56 = .ok (.goto 5, 3) := by decide +kernel
theorem dX6_over_59 : decode cX6_over 59 = .ok (.bipush (-9), 2) := by decide +kernel
theorem dX6_over_61 : decode cX6_over 61 = .ok (.ireturn, 1) := by decide +kernel
theorem dX6_limps_0 : decode cX6_limps 0 = .ok (.iload_n 1, 1) := by decide +kernel
theorem dX6_limps_1 : decode cX6_limps 1 = .ok (.iconst 1, 1) := by decide +kernel
theorem dX6_limps_2 : decode cX6_limps 2 = .ok (.bipush 20, 2) := by decide +kernel
theorem dX6_limps_4 : decode cX6_limps 4 = .ok (.invokestatic 89, 3) := by decide +kernel
theorem dX6_limps_7 : decode cX6_limps 7 = .ok (.ifCond .eq 10, 3) := by decide +kernel
theorem dX6_limps_10 : decode cX6_limps 10 = .ok (.iload_n 2, 1) := by decide +kernel
theorem dX6_limps_11 : decode cX6_limps 11 = .ok (.invokestatic 93, 3) := by decide +kernel
theorem dX6_limps_14 : decode cX6_limps 14 = .ok (.ifCond .ne 5, 3) := by decide +kernel
theorem dX6_limps_17 : decode cX6_limps 17 = .ok (.iconst (-1), 1) := by decide +kernel
theorem dX6_limps_18 : decode cX6_limps 18 = .ok (.ireturn, 1) := by decide +kernel
theorem dX6_limps_19 : decode cX6_limps 19 = .ok (.aload_n 0, 1) := by decide +kernel
theorem dX6_limps_20 : decode cX6_limps 20 = .ok (.getfield 142, 3) := by decide +kernel
theorem dX6_limps_23 : decode cX6_limps 23 = .ok (.ifCond .ne 6, 3) := by decide +kernel
theorem dX6_limps_26 : decode cX6_limps 26 = .ok (.bipush (-4), 2) := by decide +kernel
theorem dX6_limps_28 : decode cX6_limps 28 = .ok (.ireturn, 1) := by decide +kernel
theorem dX6_limps_29 : decode cX6_limps 29 = .ok (.aload_n 0, 1) := by decide +kernel
theorem dX6_limps_30 : decode cX6_limps 30 = .ok (.invokevirtual 203, 3) := by decide +kernel
theorem dX6_limps_33 : decode cX6_limps 33 = .ok (.aload_n 0, 1) := by decide +kernel
theorem dX6_limps_34 : decode cX6_limps 34 = .ok (.iload_n 2, 1) := by decide +kernel
theorem dX6_limps_35 : decode cX6_limps 35 = .ok (.iload_n 1, 1) := by decide +kernel
theorem dX6_limps_36 : decode cX6_limps 36 = .ok (.invokevirtual 213, 3) := by decide +kernel
theorem dX6_limps_39 : decode cX6_limps 39 = .ok (.pop, 1) := by decide +kernel
theorem dX6_limps_40 : decode cX6_limps 40 = .ok (.iconst 0, 1) := by decide +kernel
theorem dX6_limps_41 : decode cX6_limps 41 = .ok (.istore_n 3, 1) := by decide +kernel
theorem dX6_limps_42 : decode cX6_limps 42 = .ok (.iconst 0, 1) := by decide +kernel
theorem dX6_limps_43 : decode cX6_limps 43 = .ok (.istore 4, 2) := by decide +kernel
theorem dX6_limps_45 : decode cX6_limps 45 = .ok (.iload 4, 2) := by decide +kernel
theorem dX6_limps_47 : decode cX6_limps 47 = .ok (.iload_n 1, 1) := by decide +kernel
theorem dX6_limps_48 : decode cX6_limps 48 = .ok (.if_icmp .ge 36, 3) := by decide +kernel
theorem dX6_limps_51 : decode cX6_limps 51 = .ok (.aload_n 0, 1) := by decide +kernel
theorem dX6_limps_52 : decode cX6_limps 52 = .ok (.iconst 1, 1) := by decide +kernel
theorem dX6_limps_53 : decode cX6_limps 53 = .ok (.iconst 0, 1) := by decide +kernel
theorem dX6_limps_54 : decode cX6_limps 54 = .ok (.invokevirtual 206, 3) := by decide +kernel
theorem dX6_limps_57 : decode cX6_limps 57 = .ok (.istore 5, 2) := by decide +kernel
theorem dX6_limps_59 : decode cX6_limps 59 = .ok (.aload_n 0, 1) := by decide +kernel
theorem dX6_limps_60 : decode cX6_limps 60 = .ok (.getfield 20, 3) := by decide +kernel
theorem dX6_limps_63 : decode cX6_limps 63 = .ok (.bipush 40, 2) := by decide +kernel
theorem dX6_limps_65 : decode cX6_limps 65 = .ok (.iload_n 2, 1) := by decide +kernel
theorem dX6_limps_66 : decode cX6_limps 66 = .ok (.imul, 1) := by decide +kernel
theorem dX6_limps_67 : decode cX6_limps 67 = .ok (.iload 4, 2) := by decide +kernel
theorem dX6_limps_69 : decode cX6_limps 69 = .ok (.iadd, 1) := by decide +kernel
theorem dX6_limps_70 : decode cX6_limps 70 = .ok (.iload 5, 2) := by decide +kernel
theorem dX6_limps_72 : decode cX6_limps 72 = .ok (.iastore, 1) := by decide +kernel
theorem dX6_limps_73 : decode cX6_limps 73 = .ok (.iload_n 3, 1) := by decide +kernel
theorem dX6_limps_74 : decode cX6_limps 74 = .ok (.iload 5, 2) := by decide +kernel
theorem dX6_limps_76 : decode cX6_limps 76 = .ok (.iadd, 1) := by decide +kernel
theorem dX6_limps_77 : decode cX6_limps 77 = .ok (.istore_n 3, 1) := by decide +kernel
theorem dX6_limps_78 : decode cX6_limps 78 = .ok (.iinc 4 1, 3) := by decide +kernel
theorem dX6_limps_81 : decode cX6_limps 81 = .ok (.goto (-36), 3) := by decide +kernel
theorem dX6_limps_84 : decode cX6_limps 84 = .ok (.iload_n 3, 1) := by decide +kernel
theorem dX6_limps_85 : decode cX6_limps 85 = .ok (.ireturn, 1) := by decide +kernel
theorem dX6_comes_0 : decode cX6_comes 0 = .ok (.iconst 0, 1) := by decide +kernel
theorem dX6_comes_1 : decode cX6_comes 1 = .ok (.istore_n 1, 1) := by decide +kernel
theorem dX6_comes_2 : decode cX6_comes 2 = .ok (.iload_n 1, 1) := by decide +kernel
theorem dX6_comes_3 : decode cX6_comes 3 = .ok (.bipush 60, 2) := by decide +kernel
theorem dX6_comes_5 : decode cX6_comes 5 = .ok (.if_icmp .ge 29, 3) := by decide +kernel
theorem dX6_comes_8 : decode cX6_comes 8 = .ok (.aload_n 0, 1) := by decide +kernel
theorem dX6_comes_9 : decode cX6_comes 9 = .ok (.getfield 60, 3) := by decide +kernel
theorem dX6_comes_12 : decode cX6_comes 12 = .ok (.iconst 0, 1) := by decide +kernel
theorem dX6_comes_13 : decode cX6_comes 13 = .ok (.iaload, 1) := by decide +kernel
theorem dX6_comes_14 : decode cX6_comes 14 = .ok (.aload_n 0, 1) := by decide +kernel
theorem dX6_comes_15 : decode cX6_comes 15 = .ok (.getfield 145, 3) := by decide +kernel
theorem dX6_comes_18 : decode cX6_comes 18 = .ok (.if_icmp .ge 16, 3) := by decide +kernel
theorem dX6_comes_21 : decode cX6_comes 21 = .ok (.aload_n 0, 1) := by decide +kernel
theorem dX6_comes_22 : decode cX6_comes 22 = .ok (.iconst 1, 1) := by decide +kernel
theorem dX6_comes_23 : decode cX6_comes 23 = .ok (.iconst 0, 1) := by decide +kernel
theorem dX6_comes_24 : decode cX6_comes 24 = .ok (.invokevirtual 206, 3) := by decide +kernel
theorem dX6_comes_27 : decode cX6_comes 27 = .ok (.pop, 1) := by decide +kernel
theorem dX6_comes_28 : decode cX6_comes 28 = .ok (.iinc 1 1, 3) := by decide +kernel
theorem dX6_comes_31 : decode cX6_comes 31 = .ok (.goto (-29), 3) := by decide +kernel
theorem dX6_comes_34 : decode cX6_comes 34 = .ok (.aload_n 0, 1) := by decide +kernel
theorem dX6_comes_35 : decode cX6_comes 35 = .ok (.getfield 60, 3) := by decide +kernel
theorem dX6_comes_38 : decode cX6_comes 38 = .ok (.iconst 0, 1) := by decide +kernel
theorem dX6_comes_39 : decode cX6_comes 39 = .ok (.iaload, 1) := by decide +kernel
theorem dX6_comes_40 : decode cX6_comes 40 = .ok (.aload_n 0, 1) := by decide +kernel
theorem dX6_comes_41 : decode cX6_comes 41 = .ok (.getfield 145, 3) := by decide +kernel
theorem dX6_comes_44 : decode cX6_comes 44 = .ok (.if_icmp .lt 7, 3) := by decide +kernel
theorem dX6_comes_47 : decode cX6_comes 47 = .ok (.iconst 1, 1) := by decide +kernel
theorem dX6_comes_48 : decode cX6_comes 48 = .ok (.goto 4, 3) := by decide +kernel
theorem dX6_comes_51 : decode cX6_comes 51 = .ok (.iconst 0, 1) := by decide +kernel
theorem dX6_comes_52 : decode cX6_comes 52 = .ok (.ireturn, 1) := by decide +kernel
theorem dX6_gate_0 : decode cX6_gate 0 = .ok (.aload_n 0, 1) := by decide +kernel
theorem dX6_gate_1 : decode cX6_gate 1 = .ok (.getfield 142, 3) := by decide +kernel
theorem dX6_gate_4 : decode cX6_gate 4 = .ok (.ifCond .ne 6, 3) := by decide +kernel
theorem dX6_gate_7 : decode cX6_gate 7 = .ok (.bipush (-4), 2) := by decide +kernel
theorem dX6_gate_9 : decode cX6_gate 9 = .ok (.ireturn, 1) := by decide +kernel
theorem dX6_gate_10 : decode cX6_gate 10 = .ok (.bipush (-9), 2) := by decide +kernel
theorem dX6_gate_12 : decode cX6_gate 12 = .ok (.istore_n 1, 1) := by decide +kernel
theorem dX6_gate_13 : decode cX6_gate 13 = .ok (.aload_n 0, 1) := by decide +kernel
theorem dX6_gate_14 : decode cX6_gate 14 = .ok (.invokevirtual 210, 3) := by decide +kernel
theorem dX6_gate_17 : decode cX6_gate 17 = .ok (.istore_n 2, 1) := by decide +kernel
theorem dX6_gate_18 : decode cX6_gate 18 = .ok (.iload_n 2, 1) := by decide +kernel
theorem dX6_gate_19 : decode cX6_gate 19 = .ok (.ifCond .lt 75, 3) := by decide +kernel
theorem dX6_gate_22 : decode cX6_gate 22 = .ok (.iload_n 1, 1) := by decide +kernel
theorem dX6_gate_23 : decode cX6_gate 23 = .ok (.bipush (-9), 2) := by decide +kernel
theorem dX6_gate_25 : decode cX6_gate 25 = .ok (.if_icmp .eq 14, 3) := by decide +kernel
theorem dX6_gate_28 : decode cX6_gate 28 = .ok (.iload_n 2, 1) := by decide +kernel
theorem dX6_gate_29 : decode cX6_gate 29 = .ok (.invokestatic 216, 3) := by decide +kernel
theorem dX6_gate_32 : decode cX6_gate 32 = .ok (.iload_n 1, 1) := by decide +kernel
theorem dX6_gate_33 : decode cX6_gate 33 = .ok (.invokestatic 216, 3) := by decide +kernel
theorem dX6_gate_36 : decode cX6_gate 36 = .ok (.if_icmp .gt 52, 3) := by decide +kernel
theorem dX6_gate_39 : decode cX6_gate 39 = .ok (.aload_n 0, 1) := by decide +kernel
theorem dX6_gate_40 : decode cX6_gate 40 = .ok (.invokevirtual 203, 3) := by decide +kernel
theorem dX6_gate_43 : decode cX6_gate 43 = .ok (.iconst 0, 1) := by decide +kernel
theorem dX6_gate_44 : decode cX6_gate 44 = .ok (.istore_n 3, 1) := by decide +kernel
theorem dX6_gate_45 : decode cX6_gate 45 = .ok (.iload_n 3, 1) := by decide +kernel
theorem dX6_gate_46 : decode cX6_gate 46 = .ok (.aload_n 0, 1) := by decide +kernel
theorem dX6_gate_47 : decode cX6_gate 47 = .ok (.getfield 142, 3) := by decide +kernel
theorem dX6_gate_50 : decode cX6_gate 50 = .ok (.if_icmp .ge 25, 3) := by decide +kernel
theorem dX6_gate_53 : decode cX6_gate 53 = .ok (.iload_n 2, 1) := by decide +kernel
theorem dX6_gate_54 : decode cX6_gate 54 = .ok (.iload_n 3, 1) := by decide +kernel
theorem dX6_gate_55 : decode cX6_gate 55 = .ok (.invokestatic 158, 3) := by decide +kernel
theorem dX6_gate_58 : decode cX6_gate 58 = .ok (.ifCond .eq 11, 3) := by decide +kernel
theorem dX6_gate_61 : decode cX6_gate 61 = .ok (.aload_n 0, 1) := by decide +kernel
theorem dX6_gate_62 : decode cX6_gate 62 = .ok (.getfield 60, 3) := by decide +kernel
theorem dX6_gate_65 : decode cX6_gate 65 = .ok (.iload_n 3, 1) := by decide +kernel
theorem dX6_gate_66 : decode cX6_gate 66 = .ok (.invokestatic 199, 3) := by decide +kernel
theorem dX6_gate_69 : decode cX6_gate 69 = .ok (.iinc 3 1, 3) := by decide +kernel
theorem dX6_gate_72 : decode cX6_gate 72 = .ok (.goto (-27), 3) := by decide +kernel
theorem dX6_gate_75 : decode cX6_gate 75 = .ok (.aload_n 0, 1) := by decide +kernel
theorem dX6_gate_76 : decode cX6_gate 76 = .ok (.invokevirtual 219, 3) := by decide +kernel
theorem dX6_gate_79 : decode cX6_gate 79 = .ok (.ifCond .eq 7, 3) := by decide +kernel
theorem dX6_gate_82 : decode cX6_gate 82 = .ok (.iload_n 2, 1) := by decide +kernel
theorem dX6_gate_83 : decode cX6_gate 83 = .ok (.goto 4, 3) := by decide +kernel
theorem dX6_gate_86 : decode cX6_gate 86 = .ok (.iload_n 1, 1) := by decide +kernel
theorem dX6_gate_87 : decode cX6_gate 87 = .ok (.istore_n 1, 1) := by decide +kernel
theorem dX6_gate_88 : decode cX6_gate 88 = .ok (.iinc 2 (-1), 3) := by decide +kernel
theorem dX6_gate_91 : decode cX6_gate 91 = .ok (.goto (-73), 3) := by decide +kernel
theorem dX6_gate_94 : decode cX6_gate 94 = .ok (.iload_n 1, 1) := by decide +kernel
theorem dX6_gate_95 : decode cX6_gate 95 = .ok (.bipush (-9), 2) := by decide +kernel
theorem dX6_gate_97 : decode cX6_gate 97 = .ok (.if_icmp .ne 8, 3) := by decide +kernel
theorem dX6_gate_100 : decode cX6_gate 100 = .ok (.bipush (-9), 2) := by decide +kernel
theorem dX6_gate_102 : decode cX6_gate 102 = .ok (.goto 12, 3) := by decide +kernel
theorem dX6_gate_105 : decode cX6_gate 105 = .ok (.aload_n 0, 1) := by decide +kernel
theorem dX6_gate_106 : decode cX6_gate 106 = .ok (.iload_n 1, 1) := by decide +kernel
theorem dX6_gate_107 : decode cX6_gate 107 = .ok (.iload_n 1, 1) := by decide +kernel
theorem dX6_gate_108 : decode cX6_gate 108 = .ok (.invokestatic 216, 3) := by decide +kernel
theorem dX6_gate_111 : decode cX6_gate 111 = .ok (.invokevirtual 105, 3) := by decide +kernel
theorem dX6_gate_114 : decode cX6_gate 114 = .ok (.ireturn, 1) := by decide +kernel
theorem dX6_turned_0 : decode cX6_turned 0 = .ok (.aload_n 0, 1) := by decide +kernel
theorem dX6_turned_1 : decode cX6_turned 1 = .ok (.getfield 142, 3) := by decide +kernel
theorem dX6_turned_4 : decode cX6_turned 4 = .ok (.ifCond .ne 6, 3) := by decide +kernel
theorem dX6_turned_7 : decode cX6_turned 7 = .ok (.bipush (-4), 2) := by decide +kernel
theorem dX6_turned_9 : decode cX6_turned 9 = .ok (.ireturn, 1) := by decide +kernel
theorem dX6_turned_10 : decode cX6_turned 10 = .ok (.iconst 0, 1) := by decide +kernel
theorem dX6_turned_11 : decode cX6_turned 11 = .ok (.istore_n 1, 1) := by decide +kernel
theorem dX6_turned_12 : decode cX6_turned 12 = .ok (.ldc 223, 2) := by decide +kernel
theorem dX6_turned_14 : decode cX6_turned 14 = .ok (.istore_n 2, 1) := by decide +kernel
theorem dX6_turned_15 : decode cX6_turned 15 = .ok (.iconst 0, 1) := by decide +kernel
theorem dX6_turned_16 : decode cX6_turned 16 = .ok (.istore_n 3, 1) := by decide +kernel
theorem dX6_turned_17 : decode cX6_turned 17 = .ok (.iload_n 3, 1) := by decide +kernel
theorem dX6_turned_18 : decode cX6_turned 18 = .ok (.aload_n 0, 1) := by decide +kernel
theorem dX6_turned_19 : decode cX6_turned 19 = .ok (.getfield 142, 3) := by decide +kernel
theorem dX6_turned_22 : decode cX6_turned 22 = .ok (.if_icmp .ge 54, 3) := by decide +kernel
theorem dX6_turned_25 : decode cX6_turned 25 = .ok (.aload_n 0, 1) := by decide +kernel
theorem dX6_turned_26 : decode cX6_turned 26 = .ok (.invokevirtual 203, 3) := by decide +kernel
theorem dX6_turned_29 : decode cX6_turned 29 = .ok (.aload_n 0, 1) := by decide +kernel
theorem dX6_turned_30 : decode cX6_turned 30 = .ok (.getfield 60, 3) := by decide +kernel
theorem dX6_turned_33 : decode cX6_turned 33 = .ok (.iconst 1, 1) := by decide +kernel
theorem dX6_turned_34 : decode cX6_turned 34 = .ok (.iload_n 3, 1) := by decide +kernel
theorem dX6_turned_35 : decode cX6_turned 35 = .ok (.iastore, 1) := by decide +kernel
theorem dX6_turned_36 : decode cX6_turned 36 = .ok (.aload_n 0, 1) := by decide +kernel
theorem dX6_turned_37 : decode cX6_turned 37 = .ok (.bipush 20, 2) := by decide +kernel
theorem dX6_turned_39 : decode cX6_turned 39 = .ok (.iconst 1, 1) := by decide +kernel
theorem dX6_turned_40 : decode cX6_turned 40 = .ok (.invokevirtual 206, 3) := by decide +kernel
theorem dX6_turned_43 : decode cX6_turned 43 = .ok (.istore 4, 2) := by decide +kernel
theorem dX6_turned_45 : decode cX6_turned 45 = .ok (.iload 4, 2) := by decide +kernel
theorem dX6_turned_47 : decode cX6_turned 47 = .ok (.iload_n 2, 1) := by decide +kernel
theorem dX6_turned_48 : decode cX6_turned 48 = .ok (.if_icmp .ge 7, 3) := by decide +kernel
theorem dX6_turned_51 : decode cX6_turned 51 = .ok (.iload_n 3, 1) := by decide +kernel
theorem dX6_turned_52 : decode cX6_turned 52 = .ok (.goto 4, 3) := by decide +kernel
theorem dX6_turned_55 : decode cX6_turned 55 = .ok (.iload_n 1, 1) := by decide +kernel
theorem dX6_turned_56 : decode cX6_turned 56 = .ok (.istore_n 1, 1) := by decide +kernel
theorem dX6_turned_57 : decode cX6_turned 57 = .ok (.iload 4, 2) := by decide +kernel
theorem dX6_turned_59 : decode cX6_turned 59 = .ok (.iload_n 2, 1) := by decide +kernel
theorem dX6_turned_60 : decode cX6_turned 60 = .ok (.if_icmp .ge 8, 3) := by decide +kernel
theorem dX6_turned_63 : decode cX6_turned 63 = .ok (.iload 4, 2) := by decide +kernel
theorem dX6_turned_65 : decode cX6_turned 65 = .ok (.goto 4, 3) := by decide +kernel
theorem dX6_turned_68 : decode cX6_turned 68 = .ok (.iload_n 2, 1) := by decide +kernel
theorem dX6_turned_69 : decode cX6_turned 69 = .ok (.istore_n 2, 1) := by decide +kernel
theorem dX6_turned_70 : decode cX6_turned 70 = .ok (.iinc 3 1, 3) := by decide +kernel
theorem dX6_turned_73 : decode cX6_turned 73 = .ok (.goto (-56), 3) := by decide +kernel
theorem dX6_turned_76 : decode cX6_turned 76 = .ok (.aload_n 0, 1) := by decide +kernel
theorem dX6_turned_77 : decode cX6_turned 77 = .ok (.iload_n 2, 1) := by decide +kernel
theorem dX6_turned_78 : decode cX6_turned 78 = .ok (.iload_n 1, 1) := by decide +kernel
theorem dX6_turned_79 : decode cX6_turned 79 = .ok (.invokevirtual 105, 3) := by decide +kernel
theorem dX6_turned_82 : decode cX6_turned 82 = .ok (.ireturn, 1) := by decide +kernel
theorem dX6_swap_0 : decode cX6_swap 0 = .ok (.aload_n 0, 1) := by decide +kernel
theorem dX6_swap_1 : decode cX6_swap 1 = .ok (.iload_n 1, 1) := by decide +kernel
theorem dX6_swap_2 : decode cX6_swap 2 = .ok (.iaload, 1) := by decide +kernel
theorem dX6_swap_3 : decode cX6_swap 3 = .ok (.istore_n 3, 1) := by decide +kernel
theorem dX6_swap_4 : decode cX6_swap 4 = .ok (.aload_n 0, 1) := by decide +kernel
theorem dX6_swap_5 : decode cX6_swap 5 = .ok (.iload_n 1, 1) := by decide +kernel
theorem dX6_swap_6 : decode cX6_swap 6 = .ok (.aload_n 0, 1) := by decide +kernel
theorem dX6_swap_7 : decode cX6_swap 7 = .ok (.iload_n 2, 1) := by decide +kernel
theorem dX6_swap_8 : decode cX6_swap 8 = .ok (.iaload, 1) := by decide +kernel
theorem dX6_swap_9 : decode cX6_swap 9 = .ok (.iastore, 1) := by decide +kernel
theorem dX6_swap_10 : decode cX6_swap 10 = .ok (.aload_n 0, 1) := by decide +kernel
theorem dX6_swap_11 : decode cX6_swap 11 = .ok (.iload_n 2, 1) := by decide +kernel
theorem dX6_swap_12 : decode cX6_swap 12 = .ok (.iload_n 3, 1) := by decide +kernel
theorem dX6_swap_13 : decode cX6_swap 13 = .ok (.iastore, 1) := by decide +kernel
theorem dX6_swap_14 : decode cX6_swap 14 = .ok (.return_, 1) := by decide +kernel
theorem dX6_changes_0 : decode cX6_changes 0 = .ok (.aload_n 0, 1) := by decide +kernel
theorem dX6_changes_1 : decode cX6_changes 1 = .ok (.getfield 48, 3) := by decide +kernel
theorem dX6_changes_4 : decode cX6_changes 4 = .ok (.iload_n 1, 1) := by decide +kernel
theorem dX6_changes_5 : decode cX6_changes 5 = .ok (.iload_n 2, 1) := by decide +kernel
theorem dX6_changes_6 : decode cX6_changes 6 = .ok (.invokestatic 224, 3) := by decide +kernel
theorem dX6_changes_9 : decode cX6_changes 9 = .ok (.aload_n 0, 1) := by decide +kernel
theorem dX6_changes_10 : decode cX6_changes 10 = .ok (.getfield 51, 3) := by decide +kernel
theorem dX6_changes_13 : decode cX6_changes 13 = .ok (.iload_n 1, 1) := by decide +kernel
theorem dX6_changes_14 : decode cX6_changes 14 = .ok (.iload_n 2, 1) := by decide +kernel
theorem dX6_changes_15 : decode cX6_changes 15 = .ok (.invokestatic 224, 3) := by decide +kernel
theorem dX6_changes_18 : decode cX6_changes 18 = .ok (.aload_n 0, 1) := by decide +kernel
theorem dX6_changes_19 : decode cX6_changes 19 = .ok (.getfield 54, 3) := by decide +kernel
theorem dX6_changes_22 : decode cX6_changes 22 = .ok (.iload_n 1, 1) := by decide +kernel
theorem dX6_changes_23 : decode cX6_changes 23 = .ok (.iload_n 2, 1) := by decide +kernel
theorem dX6_changes_24 : decode cX6_changes 24 = .ok (.invokestatic 224, 3) := by decide +kernel
theorem dX6_changes_27 : decode cX6_changes 27 = .ok (.return_, 1) := by decide +kernel
theorem dX6_change_0 : decode cX6_change 0 = .ok (.aload_n 0, 1) := by decide +kernel
theorem dX6_change_1 : decode cX6_change 1 = .ok (.getfield 142, 3) := by decide +kernel
theorem dX6_change_4 : decode cX6_change 4 = .ok (.ifCond .ne 6, 3) := by decide +kernel
theorem dX6_change_7 : decode cX6_change 7 = .ok (.bipush (-4), 2) := by decide +kernel
theorem dX6_change_9 : decode cX6_change 9 = .ok (.ireturn, 1) := by decide +kernel
theorem dX6_change_10 : decode cX6_change 10 = .ok (.aload_n 0, 1) := by decide +kernel
theorem dX6_change_11 : decode cX6_change 11 = .ok (.invokevirtual 203, 3) := by decide +kernel
theorem dX6_change_14 : decode cX6_change 14 = .ok (.aload_n 0, 1) := by decide +kernel
theorem dX6_change_15 : decode cX6_change 15 = .ok (.bipush 20, 2) := by decide +kernel
theorem dX6_change_17 : decode cX6_change 17 = .ok (.iconst 1, 1) := by decide +kernel
theorem dX6_change_18 : decode cX6_change 18 = .ok (.invokevirtual 206, 3) := by decide +kernel
theorem dX6_change_21 : decode cX6_change 21 = .ok (.istore_n 1, 1) := by decide +kernel
theorem dX6_change_22 : decode cX6_change 22 = .ok (.bipush (-9), 2) := by decide +kernel
theorem dX6_change_24 : decode cX6_change 24 = .ok (.istore_n 2, 1) := by decide +kernel
theorem dX6_change_25 : decode cX6_change 25 = .ok (.iconst 0, 1) := by decide +kernel
theorem dX6_change_26 : decode cX6_change 26 = .ok (.istore_n 3, 1) := by decide +kernel
theorem dX6_change_27 : decode cX6_change 27 = .ok (.iload_n 3, 1) := by decide +kernel
theorem dX6_change_28 : decode cX6_change 28 = .ok (.aload_n 0, 1) := by decide +kernel
theorem dX6_change_29 : decode cX6_change 29 = .ok (.getfield 142, 3) := by decide +kernel
theorem dX6_change_32 : decode cX6_change 32 = .ok (.if_icmp .ge 162, 3) := by decide +kernel
theorem dX6_change_35 : decode cX6_change 35 = .ok (.iload_n 3, 1) := by decide +kernel
theorem dX6_change_36 : decode cX6_change 36 = .ok (.iconst 1, 1) := by decide +kernel
theorem dX6_change_37 : decode cX6_change 37 = .ok (.iadd, 1) := by decide +kernel
theorem dX6_change_38 : decode cX6_change 38 = .ok (.istore 4, 2) := by decide +kernel
theorem dX6_change_40 : decode cX6_change 40 = .ok (.iload 4, 2) := by decide +kernel
theorem dX6_change_42 : decode cX6_change 42 = .ok (.aload_n 0, 1) := by decide +kernel
theorem dX6_change_43 : decode cX6_change 43 = .ok (.getfield 142, 3) := by decide +kernel
theorem dX6_change_46 : decode cX6_change 46 = .ok (.if_icmp .ge 142, 3) := by decide +kernel
theorem dX6_change_49 : decode cX6_change 49 = .ok (.aload_n 0, 1) := by decide +kernel
theorem dX6_change_50 : decode cX6_change 50 = .ok (.invokevirtual 203, 3) := by decide +kernel
theorem dX6_change_53 : decode cX6_change 53 = .ok (.aload_n 0, 1) := by decide +kernel
theorem dX6_change_54 : decode cX6_change 54 = .ok (.getfield 60, 3) := by decide +kernel
theorem dX6_change_57 : decode cX6_change 57 = .ok (.iconst 4, 1) := by decide +kernel
theorem dX6_change_58 : decode cX6_change 58 = .ok (.iload_n 3, 1) := by decide +kernel
theorem dX6_change_59 : decode cX6_change 59 = .ok (.iadd, 1) := by decide +kernel
theorem dX6_change_60 : decode cX6_change 60 = .ok (.iconst 4, 1) := by decide +kernel
theorem dX6_change_61 : decode cX6_change 61 = .ok (.iload 4, 2) := by decide +kernel
theorem dX6_change_63 : decode cX6_change 63 = .ok (.iadd, 1) := by decide +kernel
theorem dX6_change_64 : decode cX6_change 64 = .ok (.invokestatic 224, 3) := by decide +kernel
theorem dX6_change_67 : decode cX6_change 67 = .ok (.aload_n 0, 1) := by decide +kernel
theorem dX6_change_68 : decode cX6_change 68 = .ok (.getfield 60, 3) := by decide +kernel
theorem dX6_change_71 : decode cX6_change 71 = .ok (.iconst 3, 1) := by decide +kernel
theorem dX6_change_72 : decode cX6_change 72 = .ok (.iaload, 1) := by decide +kernel
theorem dX6_change_73 : decode cX6_change 73 = .ok (.iload_n 3, 1) := by decide +kernel
theorem dX6_change_74 : decode cX6_change 74 = .ok (.ishr, 1) := by decide +kernel
theorem dX6_change_75 : decode cX6_change 75 = .ok (.iconst 1, 1) := by decide +kernel
theorem dX6_change_76 : decode cX6_change 76 = .ok (.iand, 1) := by decide +kernel
theorem dX6_change_77 : decode cX6_change 77 = .ok (.istore 5, 2) := by decide +kernel
theorem dX6_change_79 : decode cX6_change 79 = .ok (.aload_n 0, 1) := by decide +kernel
theorem dX6_change_80 : decode cX6_change 80 = .ok (.getfield 60, 3) := by decide +kernel
theorem dX6_change_83 : decode cX6_change 83 = .ok (.iconst 3, 1) := by decide +kernel
theorem dX6_change_84 : decode cX6_change 84 = .ok (.iaload, 1) := by decide +kernel
theorem dX6_change_85 : decode cX6_change 85 = .ok (.iload 4, 2) := by decide +kernel
theorem dX6_change_87 : decode cX6_change 87 = .ok (.ishr, 1) := by decide +kernel
theorem dX6_change_88 : decode cX6_change 88 = .ok (.iconst 1, 1) := by decide +kernel
theorem dX6_change_89 : decode cX6_change 89 = .ok (.iand, 1) := by decide +kernel
theorem dX6_change_90 : decode cX6_change 90 = .ok (.istore 6, 2) := by decide +kernel
theorem dX6_change_92 : decode cX6_change 92 = .ok (.aload_n 0, 1) := by decide +kernel
theorem dX6_change_93 : decode cX6_change 93 = .ok (.getfield 60, 3) := by decide +kernel
theorem dX6_change_96 : decode cX6_change 96 = .ok (.iconst 3, 1) := by decide +kernel
theorem dX6_change_97 : decode cX6_change 97 = .ok (.aload_n 0, 1) := by decide +kernel
theorem dX6_change_98 : decode cX6_change 98 = .ok (.getfield 60, 3) := by decide +kernel
theorem dX6_change_101 : decode cX6_change 101 = .ok (.iconst 3, 1) := by decide +kernel
theorem dX6_change_102 : decode cX6_change 102 = .ok (.iaload, 1) := by decide +kernel
theorem dX6_change_103 : decode cX6_change 103 = .ok (.iconst 1, 1) := by decide +kernel
theorem dX6_change_104 : decode cX6_change 104 = .ok (.iload_n 3, 1) := by decide +kernel
theorem dX6_change_105 : decode cX6_change 105 = .ok (.ishl, 1) := by decide +kernel
theorem dX6_change_106 : decode cX6_change 106 = .ok (.iconst (-1), 1) := by decide +kernel
theorem dX6_change_107 : decode cX6_change 107 = .ok (.ixor, 1) := by decide +kernel
theorem dX6_change_108 : decode cX6_change 108 = .ok (.iand, 1) := by decide +kernel
theorem dX6_change_109 : decode cX6_change 109 = .ok (.iconst 1, 1) := by decide +kernel
theorem dX6_change_110 : decode cX6_change 110 = .ok (.iload 4, 2) := by decide +kernel
theorem dX6_change_112 : decode cX6_change 112 = .ok (.ishl, 1) := by decide +kernel
theorem dX6_change_113 : decode cX6_change 113 = .ok (.iconst (-1), 1) := by decide +kernel
theorem dX6_change_114 : decode cX6_change 114 = .ok (.ixor, 1) := by decide +kernel
theorem dX6_change_115 : decode cX6_change 115 = .ok (.iand, 1) := by decide +kernel
theorem dX6_change_116 : decode cX6_change 116 = .ok (.iload 6, 2) := by decide +kernel
theorem dX6_change_118 : decode cX6_change 118 = .ok (.iload_n 3, 1) := by decide +kernel
theorem dX6_change_119 : decode cX6_change 119 = .ok (.ishl, 1) := by decide +kernel
theorem dX6_change_120 : decode cX6_change 120 = .ok (.ior, 1) := by decide +kernel
theorem dX6_change_121 : decode cX6_change 121 = .ok (.iload 5, 2) := by decide +kernel
theorem dX6_change_123 : decode cX6_change 123 = .ok (.iload 4, 2) := by decide +kernel
theorem dX6_change_125 : decode cX6_change 125 = .ok (.ishl, 1) := by decide +kernel
theorem dX6_change_126 : decode cX6_change 126 = .ok (.ior, 1) := by decide +kernel
theorem dX6_change_127 : decode cX6_change 127 = .ok (.iastore, 1) := by decide +kernel
theorem dX6_change_128 : decode cX6_change 128 = .ok (.aload_n 0, 1) := by decide +kernel
theorem dX6_change_129 : decode cX6_change 129 = .ok (.iload_n 3, 1) := by decide +kernel
theorem dX6_change_130 : decode cX6_change 130 = .ok (.iload 4, 2) := by decide +kernel
theorem dX6_change_132 : decode cX6_change 132 = .ok (.invokevirtual 228, 3) := by decide +kernel
theorem dX6_change_135 : decode cX6_change 135 = .ok (.aload_n 0, 1) := by decide +kernel
theorem dX6_change_136 : decode cX6_change 136 = .ok (.bipush 20, 2) := by decide +kernel
theorem dX6_change_138 : decode cX6_change 138 = .ok (.iconst 1, 1) := by decide +kernel
theorem dX6_change_139 : decode cX6_change 139 = .ok (.invokevirtual 206, 3) := by decide +kernel
theorem dX6_change_142 : decode cX6_change 142 = .ok (.istore 7, 2) := by decide +kernel
theorem dX6_change_144 : decode cX6_change 144 = .ok (.aload_n 0, 1) := by decide +kernel
theorem dX6_change_145 : decode cX6_change 145 = .ok (.iload_n 3, 1) := by decide +kernel
theorem dX6_change_146 : decode cX6_change 146 = .ok (.iload 4, 2) := by decide +kernel
theorem dX6_change_148 : decode cX6_change 148 = .ok (.invokevirtual 228, 3) := by decide +kernel
theorem dX6_change_151 : decode cX6_change 151 = .ok (.iload 7, 2) := by decide +kernel
theorem dX6_change_153 : decode cX6_change 153 = .ok (.iload_n 1, 1) := by decide +kernel
theorem dX6_change_154 : decode cX6_change 154 = .ok (.if_icmp .ge 13, 3) := by decide +kernel
theorem dX6_change_157 : decode cX6_change 157 = .ok (.bipush 10, 2) := by decide +kernel
theorem dX6_change_159 : decode cX6_change 159 = .ok (.iload_n 3, 1) := by decide +kernel
theorem dX6_change_160 : decode cX6_change 160 = .ok (.imul, 1) := by decide +kernel
theorem dX6_change_161 : decode cX6_change 161 = .ok (.iload 4, 2) := by decide +kernel
theorem dX6_change_163 : decode cX6_change 163 = .ok (.iadd, 1) := by decide +kernel
theorem dX6_change_164 : decode cX6_change 164 = .ok (.goto 4, 3) := by decide +kernel
theorem dX6_change_167 : decode cX6_change 167 = .ok (.iload_n 2, 1) := by decide +kernel
theorem dX6_change_168 : decode cX6_change 168 = .ok (.istore_n 2, 1) := by decide +kernel
theorem dX6_change_169 : decode cX6_change 169 = .ok (.iload 7, 2) := by decide +kernel
theorem dX6_change_171 : decode cX6_change 171 = .ok (.iload_n 1, 1) := by decide +kernel
theorem dX6_change_172 : decode cX6_change 172 = .ok (.if_icmp .ge 8, 3) := by decide +kernel
theorem dX6_change_175 : decode cX6_change 175 = .ok (.iload 7, 2) := by decide +kernel
theorem dX6_change_177 : decode cX6_change 177 = .ok (.goto 4, 3) := by decide +kernel
theorem dX6_change_180 : decode cX6_change 180 = .ok (.iload_n 1, 1) := by decide +kernel
theorem dX6_change_181 : decode cX6_change 181 = .ok (.istore_n 1, 1) := by decide +kernel
theorem dX6_change_182 : decode cX6_change 182 = .ok (.iinc 4 1, 3) := by decide +kernel
theorem dX6_change_185 : decode cX6_change 185 = .ok (.goto (-145), 3) := by decide +kernel
theorem dX6_change_188 : decode cX6_change 188 = .ok (.iinc 3 1, 3) := by decide +kernel
theorem dX6_change_191 : decode cX6_change 191 = .ok (.goto (-164), 3) := by decide +kernel
theorem dX6_change_194 : decode cX6_change 194 = .ok (.iload_n 2, 1) := by decide +kernel
theorem dX6_change_195 : decode cX6_change 195 = .ok (.bipush (-9), 2) := by decide +kernel
theorem dX6_change_197 : decode cX6_change 197 = .ok (.if_icmp .ne 8, 3) := by decide +kernel
theorem dX6_change_200 : decode cX6_change 200 = .ok (.bipush (-9), 2) := by decide +kernel
theorem dX6_change_202 : decode cX6_change 202 = .ok (.goto 9, 3) := by decide +kernel
theorem dX6_change_205 : decode cX6_change 205 = .ok (.aload_n 0, 1) := by decide +kernel
theorem dX6_change_206 : decode cX6_change 206 = .ok (.iload_n 1, 1) := by decide +kernel
theorem dX6_change_207 : decode cX6_change 207 = .ok (.iload_n 2, 1) := by decide +kernel
theorem dX6_change_208 : decode cX6_change 208 = .ok (.invokevirtual 105, 3) := by decide +kernel
theorem dX6_change_211 : decode cX6_change 211 = .ok (.ireturn, 1) := by decide +kernel
theorem dX6_needLimps_0 : decode cX6_needLimps 0 = .ok (.aload_n 0, 1) := by decide +kernel
theorem dX6_needLimps_1 : decode cX6_needLimps 1 = .ok (.getfield 17, 3) := by decide +kernel
theorem dX6_needLimps_4 : decode cX6_needLimps 4 = .ok (.iload_n 1, 1) := by decide +kernel
theorem dX6_needLimps_5 : decode cX6_needLimps 5 = .ok (.iaload, 1) := by decide +kernel
theorem dX6_needLimps_6 : decode cX6_needLimps 6 = .ok (.ifCond .ge 9, 3) := by decide +kernel
theorem dX6_needLimps_9 : decode cX6_needLimps 9 = .ok (.aload_n 0, 1) := by decide +kernel
theorem dX6_needLimps_10 : decode cX6_needLimps 10 = .ok (.iconst 1, 1) := by decide +kernel
theorem dX6_needLimps_11 : decode cX6_needLimps 11 = .ok (.invokevirtual 97, 3) := by decide +kernel
theorem dX6_needLimps_14 : decode cX6_needLimps 14 = .ok (.ireturn, 1) := by decide +kernel
theorem dX6_needLimps_15 : decode cX6_needLimps 15 = .ok (.aload_n 0, 1) := by decide +kernel
theorem dX6_needLimps_16 : decode cX6_needLimps 16 = .ok (.getfield 17, 3) := by decide +kernel
theorem dX6_needLimps_19 : decode cX6_needLimps 19 = .ok (.iload_n 1, 1) := by decide +kernel
theorem dX6_needLimps_20 : decode cX6_needLimps 20 = .ok (.iaload, 1) := by decide +kernel
theorem dX6_needLimps_21 : decode cX6_needLimps 21 = .ok (.iconst 1, 1) := by decide +kernel
theorem dX6_needLimps_22 : decode cX6_needLimps 22 = .ok (.bipush 20, 2) := by decide +kernel
theorem dX6_needLimps_24 : decode cX6_needLimps 24 = .ok (.invokestatic 89, 3) := by decide +kernel
theorem dX6_needLimps_27 : decode cX6_needLimps 27 = .ok (.ifCond .ne 9, 3) := by decide +kernel
theorem dX6_needLimps_30 : decode cX6_needLimps 30 = .ok (.aload_n 0, 1) := by decide +kernel
theorem dX6_needLimps_31 : decode cX6_needLimps 31 = .ok (.iconst 5, 1) := by decide +kernel
theorem dX6_needLimps_32 : decode cX6_needLimps 32 = .ok (.invokevirtual 97, 3) := by decide +kernel
theorem dX6_needLimps_35 : decode cX6_needLimps 35 = .ok (.ireturn, 1) := by decide +kernel
theorem dX6_needLimps_36 : decode cX6_needLimps 36 = .ok (.iconst 1, 1) := by decide +kernel
theorem dX6_needLimps_37 : decode cX6_needLimps 37 = .ok (.istore_n 2, 1) := by decide +kernel
theorem dX6_needLimps_38 : decode cX6_needLimps 38 = .ok (.iconst 0, 1) := by decide +kernel
theorem dX6_needLimps_39 : decode cX6_needLimps 39 = .ok (.istore_n 3, 1) := by decide +kernel
theorem dX6_needLimps_40 : decode cX6_needLimps 40 = .ok (.iload_n 3, 1) := by decide +kernel
theorem dX6_needLimps_41 : decode cX6_needLimps 41 = .ok (.aload_n 0, 1) := by decide +kernel
theorem dX6_needLimps_42 : decode cX6_needLimps 42 = .ok (.getfield 17, 3) := by decide +kernel
theorem dX6_needLimps_45 : decode cX6_needLimps 45 = .ok (.iload_n 1, 1) := by decide +kernel
theorem dX6_needLimps_46 : decode cX6_needLimps 46 = .ok (.iaload, 1) := by decide +kernel
theorem dX6_needLimps_47 : decode cX6_needLimps 47 = .ok (.if_icmp .ge 33, 3) := by decide +kernel
theorem dX6_needLimps_50 : decode cX6_needLimps 50 = .ok (.iload_n 2, 1) := by decide +kernel
theorem dX6_needLimps_51 : decode cX6_needLimps 51 = .ok (.ifCond .eq 21, 3) := by decide +kernel
theorem dX6_needLimps_54 : decode cX6_needLimps 54 = .ok (.aload_n 0, 1) := by decide +kernel
theorem dX6_needLimps_55 : decode cX6_needLimps 55 = .ok (.iload_n 1, 1) := by decide +kernel
theorem dX6_needLimps_56 : decode cX6_needLimps 56 = .ok (.iload_n 3, 1) := by decide +kernel
theorem dX6_needLimps_57 : decode cX6_needLimps 57 = .ok (.invokevirtual 101, 3) := by decide +kernel
theorem dX6_needLimps_60 : decode cX6_needLimps 60 = .ok (.iconst 0, 1) := by decide +kernel
theorem dX6_needLimps_61 : decode cX6_needLimps 61 = .ok (.iconst 1, 1) := by decide +kernel
theorem dX6_needLimps_62 : decode cX6_needLimps 62 = .ok (.invokestatic 89, 3) := by decide +kernel
theorem dX6_needLimps_65 : decode cX6_needLimps 65 = .ok (.ifCond .eq 7, 3) := by decide +kernel
theorem dX6_needLimps_68 : decode cX6_needLimps 68 = .ok (.iconst 1, 1) := by decide +kernel
theorem dX6_needLimps_69 : decode cX6_needLimps 69 = .ok (.goto 4, 3) := by decide +kernel
theorem dX6_needLimps_72 : decode cX6_needLimps 72 = .ok (.iconst 0, 1) := by decide +kernel
theorem dX6_needLimps_73 : decode cX6_needLimps 73 = .ok (.istore_n 2, 1) := by decide +kernel
theorem dX6_needLimps_74 : decode cX6_needLimps 74 = .ok (.iinc 3 1, 3) := by decide +kernel
theorem dX6_needLimps_77 : decode cX6_needLimps 77 = .ok (.goto (-37), 3) := by decide +kernel
theorem dX6_needLimps_80 : decode cX6_needLimps 80 = .ok (.iload_n 2, 1) := by decide +kernel
theorem dX6_needLimps_81 : decode cX6_needLimps 81 = .ok (.ifCond .eq 7, 3) := by decide +kernel
theorem dX6_needLimps_84 : decode cX6_needLimps 84 = .ok (.iconst 0, 1) := by decide +kernel
theorem dX6_needLimps_85 : decode cX6_needLimps 85 = .ok (.goto 8, 3) := by decide +kernel
theorem dX6_needLimps_88 : decode cX6_needLimps 88 = .ok (.aload_n 0, 1) := by decide +kernel
theorem dX6_needLimps_89 : decode cX6_needLimps 89 = .ok (.iconst 3, 1) := by decide +kernel
theorem dX6_needLimps_90 : decode cX6_needLimps 90 = .ok (.invokevirtual 97, 3) := by decide +kernel
theorem dX6_needLimps_93 : decode cX6_needLimps 93 = .ok (.ireturn, 1) := by decide +kernel
theorem dX6_isSo_0 : decode cX6_isSo 0 = .ok (.iconst 1, 1) := by decide +kernel
theorem dX6_isSo_1 : decode cX6_isSo 1 = .ok (.istore_n 2, 1) := by decide +kernel
theorem dX6_isSo_2 : decode cX6_isSo 2 = .ok (.iconst 0, 1) := by decide +kernel
theorem dX6_isSo_3 : decode cX6_isSo 3 = .ok (.istore_n 3, 1) := by decide +kernel
theorem dX6_isSo_4 : decode cX6_isSo 4 = .ok (.iload_n 3, 1) := by decide +kernel
theorem dX6_isSo_5 : decode cX6_isSo 5 = .ok (.aload_n 0, 1) := by decide +kernel
theorem dX6_isSo_6 : decode cX6_isSo 6 = .ok (.getfield 17, 3) := by decide +kernel
theorem dX6_isSo_9 : decode cX6_isSo 9 = .ok (.iload_n 1, 1) := by decide +kernel
theorem dX6_isSo_10 : decode cX6_isSo 10 = .ok (.iaload, 1) := by decide +kernel
theorem dX6_isSo_11 : decode cX6_isSo 11 = .ok (.if_icmp .ge 34, 3) := by decide +kernel
theorem dX6_isSo_14 : decode cX6_isSo 14 = .ok (.iload_n 2, 1) := by decide +kernel
theorem dX6_isSo_15 : decode cX6_isSo 15 = .ok (.ifCond .eq 30, 3) := by decide +kernel
theorem dX6_isSo_18 : decode cX6_isSo 18 = .ok (.aload_n 0, 1) := by decide +kernel
theorem dX6_isSo_19 : decode cX6_isSo 19 = .ok (.iconst 1, 1) := by decide +kernel
theorem dX6_isSo_20 : decode cX6_isSo 20 = .ok (.iconst 0, 1) := by decide +kernel
theorem dX6_isSo_21 : decode cX6_isSo 21 = .ok (.invokevirtual 206, 3) := by decide +kernel
theorem dX6_isSo_24 : decode cX6_isSo 24 = .ok (.aload_n 0, 1) := by decide +kernel
theorem dX6_isSo_25 : decode cX6_isSo 25 = .ok (.iload_n 1, 1) := by decide +kernel
theorem dX6_isSo_26 : decode cX6_isSo 26 = .ok (.iload_n 3, 1) := by decide +kernel
theorem dX6_isSo_27 : decode cX6_isSo 27 = .ok (.invokevirtual 101, 3) := by decide +kernel
theorem dX6_isSo_30 : decode cX6_isSo 30 = .ok (.if_icmp .ne 7, 3) := by decide +kernel
theorem dX6_isSo_33 : decode cX6_isSo 33 = .ok (.iconst 1, 1) := by decide +kernel
theorem dX6_isSo_34 : decode cX6_isSo 34 = .ok (.goto 4, 3) := by decide +kernel
theorem dX6_isSo_37 : decode cX6_isSo 37 = .ok (.iconst 0, 1) := by decide +kernel
theorem dX6_isSo_38 : decode cX6_isSo 38 = .ok (.istore_n 2, 1) := by decide +kernel
theorem dX6_isSo_39 : decode cX6_isSo 39 = .ok (.iinc 3 1, 3) := by decide +kernel
theorem dX6_isSo_42 : decode cX6_isSo 42 = .ok (.goto (-38), 3) := by decide +kernel
theorem dX6_isSo_45 : decode cX6_isSo 45 = .ok (.iload_n 2, 1) := by decide +kernel
theorem dX6_isSo_46 : decode cX6_isSo 46 = .ok (.ireturn, 1) := by decide +kernel
theorem dX6_gone_0 : decode cX6_gone 0 = .ok (.iload_n 1, 1) := by decide +kernel
theorem dX6_gone_1 : decode cX6_gone 1 = .ok (.invokestatic 93, 3) := by decide +kernel
theorem dX6_gone_4 : decode cX6_gone 4 = .ok (.ifCond .ne 5, 3) := by decide +kernel
theorem dX6_gone_7 : decode cX6_gone 7 = .ok (.iconst (-1), 1) := by decide +kernel
theorem dX6_gone_8 : decode cX6_gone 8 = .ok (.ireturn, 1) := by decide +kernel
theorem dX6_gone_9 : decode cX6_gone 9 = .ok (.aload_n 0, 1) := by decide +kernel
theorem dX6_gone_10 : decode cX6_gone 10 = .ok (.getfield 142, 3) := by decide +kernel
theorem dX6_gone_13 : decode cX6_gone 13 = .ok (.ifCond .ne 6, 3) := by decide +kernel
theorem dX6_gone_16 : decode cX6_gone 16 = .ok (.bipush (-4), 2) := by decide +kernel
theorem dX6_gone_18 : decode cX6_gone 18 = .ok (.ireturn, 1) := by decide +kernel
theorem dX6_gone_19 : decode cX6_gone 19 = .ok (.aload_n 0, 1) := by decide +kernel
theorem dX6_gone_20 : decode cX6_gone 20 = .ok (.iload_n 1, 1) := by decide +kernel
theorem dX6_gone_21 : decode cX6_gone 21 = .ok (.invokevirtual 232, 3) := by decide +kernel
theorem dX6_gone_24 : decode cX6_gone 24 = .ok (.istore_n 2, 1) := by decide +kernel
theorem dX6_gone_25 : decode cX6_gone 25 = .ok (.iload_n 2, 1) := by decide +kernel
theorem dX6_gone_26 : decode cX6_gone 26 = .ok (.ifCond .ge 5, 3) := by decide +kernel
theorem dX6_gone_29 : decode cX6_gone 29 = .ok (.iload_n 2, 1) := by decide +kernel
theorem dX6_gone_30 : decode cX6_gone 30 = .ok (.ireturn, 1) := by decide +kernel
theorem dX6_gone_31 : decode cX6_gone 31 = .ok (.iconst 0, 1) := by decide +kernel
theorem dX6_gone_32 : decode cX6_gone 32 = .ok (.istore_n 3, 1) := by decide +kernel
theorem dX6_gone_33 : decode cX6_gone 33 = .ok (.bipush (-9), 2) := by decide +kernel
theorem dX6_gone_35 : decode cX6_gone 35 = .ok (.istore 4, 2) := by decide +kernel
theorem dX6_gone_37 : decode cX6_gone 37 = .ok (.aload_n 0, 1) := by decide +kernel
theorem dX6_gone_38 : decode cX6_gone 38 = .ok (.invokevirtual 210, 3) := by decide +kernel
theorem dX6_gone_41 : decode cX6_gone 41 = .ok (.istore 5, 2) := by decide +kernel
theorem dX6_gone_43 : decode cX6_gone 43 = .ok (.iload 5, 2) := by decide +kernel
theorem dX6_gone_45 : decode cX6_gone 45 = .ok (.ifCond .lt 62, 3) := by decide +kernel
theorem dX6_gone_48 : decode cX6_gone 48 = .ok (.aload_n 0, 1) := by decide +kernel
theorem dX6_gone_49 : decode cX6_gone 49 = .ok (.invokevirtual 203, 3) := by decide +kernel
theorem dX6_gone_52 : decode cX6_gone 52 = .ok (.aload_n 0, 1) := by decide +kernel
theorem dX6_gone_53 : decode cX6_gone 53 = .ok (.getfield 60, 3) := by decide +kernel
theorem dX6_gone_56 : decode cX6_gone 56 = .ok (.iconst 3, 1) := by decide +kernel
theorem dX6_gone_57 : decode cX6_gone 57 = .ok (.aload_n 0, 1) := by decide +kernel
theorem dX6_gone_58 : decode cX6_gone 58 = .ok (.invokevirtual 210, 3) := by decide +kernel
theorem dX6_gone_61 : decode cX6_gone 61 = .ok (.iload 5, 2) := by decide +kernel
theorem dX6_gone_63 : decode cX6_gone 63 = .ok (.iconst (-1), 1) := by decide +kernel
theorem dX6_gone_64 : decode cX6_gone 64 = .ok (.ixor, 1) := by decide +kernel
theorem dX6_gone_65 : decode cX6_gone 65 = .ok (.iand, 1) := by decide +kernel
theorem dX6_gone_66 : decode cX6_gone 66 = .ok (.iastore, 1) := by decide +kernel
theorem dX6_gone_67 : decode cX6_gone 67 = .ok (.aload_n 0, 1) := by decide +kernel
theorem dX6_gone_68 : decode cX6_gone 68 = .ok (.iload_n 1, 1) := by decide +kernel
theorem dX6_gone_69 : decode cX6_gone 69 = .ok (.invokevirtual 235, 3) := by decide +kernel
theorem dX6_gone_72 : decode cX6_gone 72 = .ok (.istore 6, 2) := by decide +kernel
theorem dX6_gone_74 : decode cX6_gone 74 = .ok (.iload_n 3, 1) := by decide +kernel
theorem dX6_gone_75 : decode cX6_gone 75 = .ok (.iload 6, 2) := by decide +kernel
theorem dX6_gone_77 : decode cX6_gone 77 = .ok (.ifCond .eq 7, 3) := by decide +kernel
theorem dX6_gone_80 : decode cX6_gone 80 = .ok (.iconst 1, 1) := by decide +kernel
theorem dX6_gone_81 : decode cX6_gone 81 = .ok (.goto 4, 3) := by decide +kernel
theorem dX6_gone_84 : decode cX6_gone 84 = .ok (.iconst 0, 1) := by decide +kernel
theorem dX6_gone_85 : decode cX6_gone 85 = .ok (.iadd, 1) := by decide +kernel
theorem dX6_gone_86 : decode cX6_gone 86 = .ok (.istore_n 3, 1) := by decide +kernel
theorem dX6_gone_87 : decode cX6_gone 87 = .ok (.iload 6, 2) := by decide +kernel
theorem dX6_gone_89 : decode cX6_gone 89 = .ok (.ifCond .eq 8, 3) := by decide +kernel
theorem dX6_gone_92 : decode cX6_gone 92 = .ok (.iload 5, 2) := by decide +kernel
theorem dX6_gone_94 : decode cX6_gone 94 = .ok (.goto 5, 3) := by decide +kernel
theorem dX6_gone_97 : decode cX6_gone 97 = .ok (.iload 4, 2) := by decide +kernel
theorem dX6_gone_99 : decode cX6_gone 99 = .ok (.istore 4, 2) := by decide +kernel
theorem dX6_gone_101 : decode cX6_gone 101 = .ok (.iinc 5 (-1), 3) := by decide +kernel
theorem dX6_gone_104 : decode cX6_gone 104 = .ok (.goto (-61), 3) := by decide +kernel
theorem dX6_gone_107 : decode cX6_gone 107 = .ok (.iload_n 3, 1) := by decide +kernel
theorem dX6_gone_108 : decode cX6_gone 108 = .ok (.ifCond .ne 8, 3) := by decide +kernel
theorem dX6_gone_111 : decode cX6_gone 111 = .ok (.bipush (-9), 2) := by decide +kernel
theorem dX6_gone_113 : decode cX6_gone 113 = .ok (.goto 10, 3) := by decide +kernel
theorem dX6_gone_116 : decode cX6_gone 116 = .ok (.aload_n 0, 1) := by decide +kernel
theorem dX6_gone_117 : decode cX6_gone 117 = .ok (.iload 4, 2) := by decide +kernel
theorem dX6_gone_119 : decode cX6_gone 119 = .ok (.iload_n 3, 1) := by decide +kernel
theorem dX6_gone_120 : decode cX6_gone 120 = .ok (.invokevirtual 105, 3) := by decide +kernel
theorem dX6_gone_123 : decode cX6_gone 123 = .ok (.ireturn, 1) := by decide +kernel
theorem dX6_strengths_0 : decode cX6_strengths 0 = .ok (.aload_n 0, 1) := by decide +kernel
theorem dX6_strengths_1 : decode cX6_strengths 1 = .ok (.iload_n 1, 1) := by decide +kernel
theorem dX6_strengths_2 : decode cX6_strengths 2 = .ok (.invokevirtual 169, 3) := by decide +kernel
theorem dX6_strengths_5 : decode cX6_strengths 5 = .ok (.ifCond .eq 10, 3) := by decide +kernel
theorem dX6_strengths_8 : decode cX6_strengths 8 = .ok (.iload_n 2, 1) := by decide +kernel
theorem dX6_strengths_9 : decode cX6_strengths 9 = .ok (.invokestatic 93, 3) := by decide +kernel
theorem dX6_strengths_12 : decode cX6_strengths 12 = .ok (.ifCond .ne 5, 3) := by decide +kernel
theorem dX6_strengths_15 : decode cX6_strengths 15 = .ok (.iconst (-1), 1) := by decide +kernel
theorem dX6_strengths_16 : decode cX6_strengths 16 = .ok (.ireturn, 1) := by decide +kernel
theorem dX6_strengths_17 : decode cX6_strengths 17 = .ok (.aload_n 0, 1) := by decide +kernel
theorem dX6_strengths_18 : decode cX6_strengths 18 = .ok (.iload_n 2, 1) := by decide +kernel
theorem dX6_strengths_19 : decode cX6_strengths 19 = .ok (.invokevirtual 232, 3) := by decide +kernel
theorem dX6_strengths_22 : decode cX6_strengths 22 = .ok (.istore_n 3, 1) := by decide +kernel
theorem dX6_strengths_23 : decode cX6_strengths 23 = .ok (.iload_n 3, 1) := by decide +kernel
theorem dX6_strengths_24 : decode cX6_strengths 24 = .ok (.ifCond .ge 5, 3) := by decide +kernel
theorem dX6_strengths_27 : decode cX6_strengths 27 = .ok (.iload_n 3, 1) := by decide +kernel
theorem dX6_strengths_28 : decode cX6_strengths 28 = .ok (.ireturn, 1) := by decide +kernel
theorem dX6_strengths_29 : decode cX6_strengths 29 = .ok (.aload_n 0, 1) := by decide +kernel
theorem dX6_strengths_30 : decode cX6_strengths 30 = .ok (.getfield 54, 3) := by decide +kernel
theorem dX6_strengths_33 : decode cX6_strengths 33 = .ok (.iload_n 1, 1) := by decide +kernel
theorem dX6_strengths_34 : decode cX6_strengths 34 = .ok (.iaload, 1) := by decide +kernel
theorem dX6_strengths_35 : decode cX6_strengths 35 = .ok (.istore 4, 2) := by decide +kernel
theorem dX6_strengths_37 : decode cX6_strengths 37 = .ok (.iconst 0, 1) := by decide +kernel
theorem dX6_strengths_38 : decode cX6_strengths 38 = .ok (.istore 5, 2) := by decide +kernel
theorem dX6_strengths_40 : decode cX6_strengths 40 = .ok (.iconst 0, 1) := by decide +kernel
theorem dX6_strengths_41 : decode cX6_strengths 41 = .ok (.istore 6, 2) := by decide +kernel
theorem dX6_strengths_43 : decode cX6_strengths 43 = .ok (.iload 6, 2) := by decide +kernel
theorem dX6_strengths_45 : decode cX6_strengths 45 = .ok (.bipush 10, 2) := by decide +kernel
theorem dX6_strengths_47 : decode cX6_strengths 47 = .ok (.if_icmp .ge 42, 3) := by decide +kernel
theorem dX6_strengths_50 : decode cX6_strengths 50 = .ok (.aload_n 0, 1) := by decide +kernel
theorem dX6_strengths_51 : decode cX6_strengths 51 = .ok (.invokevirtual 203, 3) := by decide +kernel
theorem dX6_strengths_54 : decode cX6_strengths 54 = .ok (.aload_n 0, 1) := by decide +kernel
theorem dX6_strengths_55 : decode cX6_strengths 55 = .ok (.getfield 54, 3) := by decide +kernel
theorem dX6_strengths_58 : decode cX6_strengths 58 = .ok (.iload_n 1, 1) := by decide +kernel
theorem dX6_strengths_59 : decode cX6_strengths 59 = .ok (.iload 6, 2) := by decide +kernel
theorem dX6_strengths_61 : decode cX6_strengths 61 = .ok (.iastore, 1) := by decide +kernel
theorem dX6_strengths_62 : decode cX6_strengths 62 = .ok (.iload 5, 2) := by decide +kernel
theorem dX6_strengths_64 : decode cX6_strengths 64 = .ok (.aload_n 0, 1) := by decide +kernel
theorem dX6_strengths_65 : decode cX6_strengths 65 = .ok (.iload_n 2, 1) := by decide +kernel
theorem dX6_strengths_66 : decode cX6_strengths 66 = .ok (.invokevirtual 235, 3) := by decide +kernel
theorem dX6_strengths_69 : decode cX6_strengths 69 = .ok (.ifCond .eq 10, 3) := by decide +kernel
theorem dX6_strengths_72 : decode cX6_strengths 72 = .ok (.iconst 1, 1) := by decide +kernel
theorem dX6_strengths_73 : decode cX6_strengths 73 = .ok (.iload 6, 2) := by decide +kernel
theorem dX6_strengths_75 : decode cX6_strengths 75 = .ok (.ishl, 1) := by decide +kernel
theorem dX6_strengths_76 : decode cX6_strengths 76 = .ok (.goto 4, 3) := by decide +kernel
theorem dX6_strengths_79 : decode cX6_strengths 79 = .ok (.iconst 0, 1) := by decide +kernel
theorem dX6_strengths_80 : decode cX6_strengths 80 = .ok (.ior, 1) := by decide +kernel
theorem dX6_strengths_81 : decode cX6_strengths 81 = .ok (.istore 5, 2) := by decide +kernel
theorem dX6_strengths_83 : decode cX6_strengths 83 = .ok (.iinc 6 1, 3) := by decide +kernel
theorem dX6_strengths_86 : decode cX6_strengths 86 = .ok (.goto (-43), 3) := by decide +kernel
theorem dX6_strengths_89 : decode cX6_strengths 89 = .ok (.aload_n 0, 1) := by decide +kernel
theorem dX6_strengths_90 : decode cX6_strengths 90 = .ok (.getfield 54, 3) := by decide +kernel
theorem dX6_strengths_93 : decode cX6_strengths 93 = .ok (.iload_n 1, 1) := by decide +kernel
theorem dX6_strengths_94 : decode cX6_strengths 94 = .ok (.iload 4, 2) := by decide +kernel
theorem dX6_strengths_96 : decode cX6_strengths 96 = .ok (.iastore, 1) := by decide +kernel
theorem dX6_strengths_97 : decode cX6_strengths 97 = .ok (.iload 5, 2) := by decide +kernel
theorem dX6_strengths_99 : decode cX6_strengths 99 = .ok (.ireturn, 1) := by decide +kernel
theorem dX6_kinds_0 : decode cX6_kinds 0 = .ok (.aload_n 0, 1) := by decide +kernel
theorem dX6_kinds_1 : decode cX6_kinds 1 = .ok (.iload_n 1, 1) := by decide +kernel
theorem dX6_kinds_2 : decode cX6_kinds 2 = .ok (.invokevirtual 169, 3) := by decide +kernel
theorem dX6_kinds_5 : decode cX6_kinds 5 = .ok (.ifCond .eq 10, 3) := by decide +kernel
theorem dX6_kinds_8 : decode cX6_kinds 8 = .ok (.iload_n 2, 1) := by decide +kernel
theorem dX6_kinds_9 : decode cX6_kinds 9 = .ok (.invokestatic 93, 3) := by decide +kernel
theorem dX6_kinds_12 : decode cX6_kinds 12 = .ok (.ifCond .ne 5, 3) := by decide +kernel
theorem dX6_kinds_15 : decode cX6_kinds 15 = .ok (.iconst (-1), 1) := by decide +kernel
theorem dX6_kinds_16 : decode cX6_kinds 16 = .ok (.ireturn, 1) := by decide +kernel
theorem dX6_kinds_17 : decode cX6_kinds 17 = .ok (.aload_n 0, 1) := by decide +kernel
theorem dX6_kinds_18 : decode cX6_kinds 18 = .ok (.iload_n 2, 1) := by decide +kernel
theorem dX6_kinds_19 : decode cX6_kinds 19 = .ok (.invokevirtual 232, 3) := by decide +kernel
theorem dX6_kinds_22 : decode cX6_kinds 22 = .ok (.istore_n 3, 1) := by decide +kernel
theorem dX6_kinds_23 : decode cX6_kinds 23 = .ok (.iload_n 3, 1) := by decide +kernel
theorem dX6_kinds_24 : decode cX6_kinds 24 = .ok (.ifCond .ge 5, 3) := by decide +kernel
theorem dX6_kinds_27 : decode cX6_kinds 27 = .ok (.iload_n 3, 1) := by decide +kernel
theorem dX6_kinds_28 : decode cX6_kinds 28 = .ok (.ireturn, 1) := by decide +kernel
theorem dX6_kinds_29 : decode cX6_kinds 29 = .ok (.aload_n 0, 1) := by decide +kernel
theorem dX6_kinds_30 : decode cX6_kinds 30 = .ok (.getfield 48, 3) := by decide +kernel
theorem dX6_kinds_33 : decode cX6_kinds 33 = .ok (.iload_n 1, 1) := by decide +kernel
theorem dX6_kinds_34 : decode cX6_kinds 34 = .ok (.iaload, 1) := by decide +kernel
theorem dX6_kinds_35 : decode cX6_kinds 35 = .ok (.istore 4, 2) := by decide +kernel
theorem dX6_kinds_37 : decode cX6_kinds 37 = .ok (.iconst 0, 1) := by decide +kernel
theorem dX6_kinds_38 : decode cX6_kinds 38 = .ok (.istore 5, 2) := by decide +kernel
theorem dX6_kinds_40 : decode cX6_kinds 40 = .ok (.iconst 0, 1) := by decide +kernel
theorem dX6_kinds_41 : decode cX6_kinds 41 = .ok (.istore 6, 2) := by decide +kernel
theorem dX6_kinds_43 : decode cX6_kinds 43 = .ok (.iload 6, 2) := by decide +kernel
theorem dX6_kinds_45 : decode cX6_kinds 45 = .ok (.bipush 6, 2) := by decide +kernel
theorem dX6_kinds_47 : decode cX6_kinds 47 = .ok (.if_icmp .ge 42, 3) := by decide +kernel
theorem dX6_kinds_50 : decode cX6_kinds 50 = .ok (.aload_n 0, 1) := by decide +kernel
theorem dX6_kinds_51 : decode cX6_kinds 51 = .ok (.invokevirtual 203, 3) := by decide +kernel
theorem dX6_kinds_54 : decode cX6_kinds 54 = .ok (.aload_n 0, 1) := by decide +kernel
theorem dX6_kinds_55 : decode cX6_kinds 55 = .ok (.getfield 48, 3) := by decide +kernel
theorem dX6_kinds_58 : decode cX6_kinds 58 = .ok (.iload_n 1, 1) := by decide +kernel
theorem dX6_kinds_59 : decode cX6_kinds 59 = .ok (.iload 6, 2) := by decide +kernel
theorem dX6_kinds_61 : decode cX6_kinds 61 = .ok (.iastore, 1) := by decide +kernel
theorem dX6_kinds_62 : decode cX6_kinds 62 = .ok (.iload 5, 2) := by decide +kernel
theorem dX6_kinds_64 : decode cX6_kinds 64 = .ok (.aload_n 0, 1) := by decide +kernel
theorem dX6_kinds_65 : decode cX6_kinds 65 = .ok (.iload_n 2, 1) := by decide +kernel
theorem dX6_kinds_66 : decode cX6_kinds 66 = .ok (.invokevirtual 235, 3) := by decide +kernel
theorem dX6_kinds_69 : decode cX6_kinds 69 = .ok (.ifCond .eq 10, 3) := by decide +kernel
theorem dX6_kinds_72 : decode cX6_kinds 72 = .ok (.iconst 1, 1) := by decide +kernel
theorem dX6_kinds_73 : decode cX6_kinds 73 = .ok (.iload 6, 2) := by decide +kernel
theorem dX6_kinds_75 : decode cX6_kinds 75 = .ok (.ishl, 1) := by decide +kernel
theorem dX6_kinds_76 : decode cX6_kinds 76 = .ok (.goto 4, 3) := by decide +kernel
theorem dX6_kinds_79 : decode cX6_kinds 79 = .ok (.iconst 0, 1) := by decide +kernel
theorem dX6_kinds_80 : decode cX6_kinds 80 = .ok (.ior, 1) := by decide +kernel
theorem dX6_kinds_81 : decode cX6_kinds 81 = .ok (.istore 5, 2) := by decide +kernel
theorem dX6_kinds_83 : decode cX6_kinds 83 = .ok (.iinc 6 1, 3) := by decide +kernel
theorem dX6_kinds_86 : decode cX6_kinds 86 = .ok (.goto (-43), 3) := by decide +kernel
theorem dX6_kinds_89 : decode cX6_kinds 89 = .ok (.aload_n 0, 1) := by decide +kernel
theorem dX6_kinds_90 : decode cX6_kinds 90 = .ok (.getfield 48, 3) := by decide +kernel
theorem dX6_kinds_93 : decode cX6_kinds 93 = .ok (.iload_n 1, 1) := by decide +kernel
theorem dX6_kinds_94 : decode cX6_kinds 94 = .ok (.iload 4, 2) := by decide +kernel
theorem dX6_kinds_96 : decode cX6_kinds 96 = .ok (.iastore, 1) := by decide +kernel
theorem dX6_kinds_97 : decode cX6_kinds 97 = .ok (.iload 5, 2) := by decide +kernel
theorem dX6_kinds_99 : decode cX6_kinds 99 = .ok (.ireturn, 1) := by decide +kernel
theorem dX6_look_0 : decode cX6_look 0 = .ok (.aload_n 0, 1) := by decide +kernel
theorem dX6_look_1 : decode cX6_look 1 = .ok (.iload_n 1, 1) := by decide +kernel
theorem dX6_look_2 : decode cX6_look 2 = .ok (.invokevirtual 169, 3) := by decide +kernel
theorem dX6_look_5 : decode cX6_look 5 = .ok (.ifCond .ne 5, 3) := by decide +kernel
theorem dX6_look_8 : decode cX6_look 8 = .ok (.iconst (-1), 1) := by decide +kernel
theorem dX6_look_9 : decode cX6_look 9 = .ok (.ireturn, 1) := by decide +kernel
theorem dX6_look_10 : decode cX6_look 10 = .ok (.iconst 0, 1) := by decide +kernel
theorem dX6_look_11 : decode cX6_look 11 = .ok (.istore_n 2, 1) := by decide +kernel
theorem dX6_look_12 : decode cX6_look 12 = .ok (.ldc 223, 2) := by decide +kernel
theorem dX6_look_14 : decode cX6_look 14 = .ok (.istore_n 3, 1) := by decide +kernel
theorem dX6_look_15 : decode cX6_look 15 = .ok (.iconst 0, 1) := by decide +kernel
theorem dX6_look_16 : decode cX6_look 16 = .ok (.istore 4, 2) := by decide +kernel
theorem dX6_look_18 : decode cX6_look 18 = .ok (.iload 4, 2) := by decide +kernel
theorem dX6_look_20 : decode cX6_look 20 = .ok (.bipush 10, 2) := by decide +kernel
theorem dX6_look_22 : decode cX6_look 22 = .ok (.if_icmp .ge 118, 3) := by decide +kernel
theorem dX6_look_25 : decode cX6_look 25 = .ok (.iconst 0, 1) := by decide +kernel
theorem dX6_look_26 : decode cX6_look 26 = .ok (.istore 5, 2) := by decide +kernel
theorem dX6_look_28 : decode cX6_look 28 = .ok (.iconst 0, 1) := by decide +kernel
theorem dX6_look_29 : decode cX6_look 29 = .ok (.istore 6, 2) := by decide +kernel
theorem dX6_look_31 : decode cX6_look 31 = .ok (.iload 6, 2) := by decide +kernel
theorem dX6_look_33 : decode cX6_look 33 = .ok (.bipush 6, 2) := by decide +kernel
theorem dX6_look_35 : decode cX6_look 35 = .ok (.if_icmp .ge 51, 3) := by decide +kernel
theorem dX6_look_38 : decode cX6_look 38 = .ok (.iload 5, 2) := by decide +kernel
theorem dX6_look_40 : decode cX6_look 40 = .ok (.iload 6, 2) := by decide +kernel
theorem dX6_look_42 : decode cX6_look 42 = .ok (.aload_n 0, 1) := by decide +kernel
theorem dX6_look_43 : decode cX6_look 43 = .ok (.getfield 54, 3) := by decide +kernel
theorem dX6_look_46 : decode cX6_look 46 = .ok (.iload_n 1, 1) := by decide +kernel
theorem dX6_look_47 : decode cX6_look 47 = .ok (.iaload, 1) := by decide +kernel
theorem dX6_look_48 : decode cX6_look 48 = .ok (.iload 4, 2) := by decide +kernel
theorem dX6_look_50 : decode cX6_look 50 = .ok (.aload_n 0, 1) := by decide +kernel
theorem dX6_look_51 : decode cX6_look 51 = .ok (.getfield 57, 3) := by decide +kernel
theorem dX6_look_54 : decode cX6_look 54 = .ok (.iconst 4, 1) := by decide +kernel
theorem dX6_look_55 : decode cX6_look 55 = .ok (.iload_n 1, 1) := by decide +kernel
theorem dX6_look_56 : decode cX6_look 56 = .ok (.iadd, 1) := by decide +kernel
theorem dX6_look_57 : decode cX6_look 57 = .ok (.iaload, 1) := by decide +kernel
theorem dX6_look_58 : decode cX6_look 58 = .ok (.aload_n 0, 1) := by decide +kernel
theorem dX6_look_59 : decode cX6_look 59 = .ok (.getfield 57, 3) := by decide +kernel
theorem dX6_look_62 : decode cX6_look 62 = .ok (.iconst 2, 1) := by decide +kernel
theorem dX6_look_63 : decode cX6_look 63 = .ok (.iaload, 1) := by decide +kernel
theorem dX6_look_64 : decode cX6_look 64 = .ok (.invokestatic 154, 3) := by decide +kernel
theorem dX6_look_67 : decode cX6_look 67 = .ok (.iload 4, 2) := by decide +kernel
theorem dX6_look_69 : decode cX6_look 69 = .ok (.if_icmp .lt 7, 3) := by decide +kernel
theorem dX6_look_72 : decode cX6_look 72 = .ok (.iconst 1, 1) := by decide +kernel
theorem dX6_look_73 : decode cX6_look 73 = .ok (.goto 4, 3) := by decide +kernel
theorem dX6_look_76 : decode cX6_look 76 = .ok (.iconst 0, 1) := by decide +kernel
theorem dX6_look_77 : decode cX6_look 77 = .ok (.iadd, 1) := by decide +kernel
theorem dX6_look_78 : decode cX6_look 78 = .ok (.istore 5, 2) := by decide +kernel
theorem dX6_look_80 : decode cX6_look 80 = .ok (.iinc 6 1, 3) := by decide +kernel
theorem dX6_look_83 : decode cX6_look 83 = .ok (.goto (-52), 3) := by decide +kernel
theorem dX6_look_86 : decode cX6_look 86 = .ok (.iload 5, 2) := by decide +kernel
theorem dX6_look_88 : decode cX6_look 88 = .ok (.bipush 6, 2) := by decide +kernel
theorem dX6_look_90 : decode cX6_look 90 = .ok (.iload 5, 2) := by decide +kernel
theorem dX6_look_92 : decode cX6_look 92 = .ok (.isub, 1) := by decide +kernel
theorem dX6_look_93 : decode cX6_look 93 = .ok (.if_icmp .le 8, 3) := by decide +kernel
theorem dX6_look_96 : decode cX6_look 96 = .ok (.iload 5, 2) := by decide +kernel
theorem dX6_look_98 : decode cX6_look 98 = .ok (.goto 8, 3) := by decide +kernel
theorem dX6_look_101 : decode cX6_look 101 = .ok (.bipush 6, 2) := by decide +kernel
theorem dX6_look_103 : decode cX6_look 103 = .ok (.iload 5, 2) := by decide +kernel
theorem dX6_look_105 : decode cX6_look 105 = .ok (.isub, 1) := by decide +kernel
theorem dX6_look_106 : decode cX6_look 106 = .ok (.istore 6, 2) := by decide +kernel
theorem dX6_look_108 : decode cX6_look 108 = .ok (.iload 6, 2) := by decide +kernel
theorem dX6_look_110 : decode cX6_look 110 = .ok (.iload_n 3, 1) := by decide +kernel
theorem dX6_look_111 : decode cX6_look 111 = .ok (.if_icmp .ge 8, 3) := by decide +kernel
theorem dX6_look_114 : decode cX6_look 114 = .ok (.iload 4, 2) := by decide +kernel
theorem dX6_look_116 : decode cX6_look 116 = .ok (.goto 4, 3) := by decide +kernel
theorem dX6_look_119 : decode cX6_look 119 = .ok (.iload_n 2, 1) := by decide +kernel
theorem dX6_look_120 : decode cX6_look 120 = .ok (.istore_n 2, 1) := by decide +kernel
theorem dX6_look_121 : decode cX6_look 121 = .ok (.iload 6, 2) := by decide +kernel
theorem dX6_look_123 : decode cX6_look 123 = .ok (.iload_n 3, 1) := by decide +kernel
theorem dX6_look_124 : decode cX6_look 124 = .ok (.if_icmp .ge 8, 3) := by decide +kernel
theorem dX6_look_127 : decode cX6_look 127 = .ok (.iload 6, 2) := by decide +kernel
theorem dX6_look_129 : decode cX6_look 129 = .ok (.goto 4, 3) := by decide +kernel
theorem dX6_look_132 : decode cX6_look 132 = .ok (.iload_n 3, 1) := by decide +kernel
theorem dX6_look_133 : decode cX6_look 133 = .ok (.istore_n 3, 1) := by decide +kernel
theorem dX6_look_134 : decode cX6_look 134 = .ok (.iinc 4 1, 3) := by decide +kernel
theorem dX6_look_137 : decode cX6_look 137 = .ok (.goto (-119), 3) := by decide +kernel
theorem dX6_look_140 : decode cX6_look 140 = .ok (.aload_n 0, 1) := by decide +kernel
theorem dX6_look_141 : decode cX6_look 141 = .ok (.iload_n 3, 1) := by decide +kernel
theorem dX6_look_142 : decode cX6_look 142 = .ok (.iload_n 2, 1) := by decide +kernel
theorem dX6_look_143 : decode cX6_look 143 = .ok (.invokevirtual 105, 3) := by decide +kernel
theorem dX6_look_146 : decode cX6_look 146 = .ok (.ireturn, 1) := by decide +kernel
theorem dX6_isMoved_0 : decode cX6_isMoved 0 = .ok (.iconst 1, 1) := by decide +kernel
theorem dX6_isMoved_1 : decode cX6_isMoved 1 = .ok (.istore_n 3, 1) := by decide +kernel
theorem dX6_isMoved_2 : decode cX6_isMoved 2 = .ok (.iconst 1, 1) := by decide +kernel
theorem dX6_isMoved_3 : decode cX6_isMoved 3 = .ok (.istore 4, 2) := by decide +kernel
theorem dX6_isMoved_5 : decode cX6_isMoved 5 = .ok (.iload 4, 2) := by decide +kernel
theorem dX6_isMoved_7 : decode cX6_isMoved 7 = .ok (.iload_n 2, 1) := by decide +kernel
theorem dX6_isMoved_8 : decode cX6_isMoved 8 = .ok (.if_icmp .ge 14, 3) := by decide +kernel
theorem dX6_isMoved_11 : decode cX6_isMoved 11 = .ok (.iload_n 3, 1) := by decide +kernel
theorem dX6_isMoved_12 : decode cX6_isMoved 12 = .ok (.bipush 9, 2) := by decide +kernel
theorem dX6_isMoved_14 : decode cX6_isMoved 14 = .ok (.imul, 1) := by decide +kernel
theorem dX6_isMoved_15 : decode cX6_isMoved 15 = .ok (.istore_n 3, 1) := by decide +kernel
theorem dX6_isMoved_16 : decode cX6_isMoved 16 = .ok (.iinc 4 1, 3) := by decide +kernel
theorem dX6_isMoved_19 : decode cX6_isMoved 19 = .ok (.goto (-14), 3) := by decide +kernel
theorem dX6_isMoved_22 : decode cX6_isMoved 22 = .ok (.iconst 1, 1) := by decide +kernel
theorem dX6_isMoved_23 : decode cX6_isMoved 23 = .ok (.istore 4, 2) := by decide +kernel
theorem dX6_isMoved_25 : decode cX6_isMoved 25 = .ok (.iconst 0, 1) := by decide +kernel
theorem dX6_isMoved_26 : decode cX6_isMoved 26 = .ok (.istore 5, 2) := by decide +kernel
theorem dX6_isMoved_28 : decode cX6_isMoved 28 = .ok (.iload 5, 2) := by decide +kernel
theorem dX6_isMoved_30 : decode cX6_isMoved 30 = .ok (.iload_n 2, 1) := by decide +kernel
theorem dX6_isMoved_31 : decode cX6_isMoved 31 = .ok (.if_icmp .ge 159, 3) := by decide +kernel
theorem dX6_isMoved_34 : decode cX6_isMoved 34 = .ok (.iload_n 1, 1) := by decide +kernel
theorem dX6_isMoved_35 : decode cX6_isMoved 35 = .ok (.iload_n 3, 1) := by decide +kernel
theorem dX6_isMoved_36 : decode cX6_isMoved 36 = .ok (.idiv, 1) := by decide +kernel
theorem dX6_isMoved_37 : decode cX6_isMoved 37 = .ok (.bipush 9, 2) := by decide +kernel
theorem dX6_isMoved_39 : decode cX6_isMoved 39 = .ok (.irem, 1) := by decide +kernel
theorem dX6_isMoved_40 : decode cX6_isMoved 40 = .ok (.istore 6, 2) := by decide +kernel
theorem dX6_isMoved_42 : decode cX6_isMoved 42 = .ok (.iload_n 3, 1) := by decide +kernel
theorem dX6_isMoved_43 : decode cX6_isMoved 43 = .ok (.bipush 9, 2) := by decide +kernel
theorem dX6_isMoved_45 : decode cX6_isMoved 45 = .ok (.idiv, 1) := by decide +kernel
theorem dX6_isMoved_46 : decode cX6_isMoved 46 = .ok (.istore_n 3, 1) := by decide +kernel
theorem dX6_isMoved_47 : decode cX6_isMoved 47 = .ok (.iload 6, 2) := by decide +kernel
theorem dX6_isMoved_49 : decode cX6_isMoved 49 = .ok (.aload_n 0, 1) := by decide +kernel
theorem dX6_isMoved_50 : decode cX6_isMoved 50 = .ok (.getfield 142, 3) := by decide +kernel
theorem dX6_isMoved_53 : decode cX6_isMoved 53 = .ok (.if_icmp .ge 21, 3) := by decide +kernel
theorem dX6_isMoved_56 : decode cX6_isMoved 56 = .ok (.aload_n 0, 1) := by decide +kernel
theorem dX6_isMoved_57 : decode cX6_isMoved 57 = .ok (.getfield 60, 3) := by decide +kernel
theorem dX6_isMoved_60 : decode cX6_isMoved 60 = .ok (.iconst 3, 1) := by decide +kernel
theorem dX6_isMoved_61 : decode cX6_isMoved 61 = .ok (.iaload, 1) := by decide +kernel
theorem dX6_isMoved_62 : decode cX6_isMoved 62 = .ok (.iload 6, 2) := by decide +kernel
theorem dX6_isMoved_64 : decode cX6_isMoved 64 = .ok (.invokestatic 158, 3) := by decide +kernel
theorem dX6_isMoved_67 : decode cX6_isMoved 67 = .ok (.ifCond .eq 7, 3) := by decide +kernel
theorem dX6_isMoved_70 : decode cX6_isMoved 70 = .ok (.iconst 1, 1) := by decide +kernel
theorem dX6_isMoved_71 : decode cX6_isMoved 71 = .ok (.goto 4, 3) := by decide +kernel
theorem dX6_isMoved_74 : decode cX6_isMoved 74 = .ok (.iconst 0, 1) := by decide +kernel
theorem dX6_isMoved_75 : decode cX6_isMoved 75 = .ok (.istore 7, 2) := by decide +kernel
theorem dX6_isMoved_77 : decode cX6_isMoved 77 = .ok (.iload 4, 2) := by decide +kernel
theorem dX6_isMoved_79 : decode cX6_isMoved 79 = .ok (.ifCond .eq 40, 3) := by decide +kernel
theorem dX6_isMoved_82 : decode cX6_isMoved 82 = .ok (.iload 6, 2) := by decide +kernel
theorem dX6_isMoved_84 : decode cX6_isMoved 84 = .ok (.bipush 8, 2) := by decide +kernel
theorem dX6_isMoved_86 : decode cX6_isMoved 86 = .ok (.if_icmp .eq 29, 3) := by decide +kernel
theorem dX6_isMoved_89 : decode cX6_isMoved 89 = .ok (.iload 6, 2) := by decide +kernel
theorem dX6_isMoved_91 : decode cX6_isMoved 91 = .ok (.aload_n 0, 1) := by decide +kernel
theorem dX6_isMoved_92 : decode cX6_isMoved 92 = .ok (.getfield 142, 3) := by decide +kernel
theorem dX6_isMoved_95 : decode cX6_isMoved 95 = .ok (.if_icmp .ge 24, 3) := by decide +kernel
theorem dX6_isMoved_98 : decode cX6_isMoved 98 = .ok (.iload 7, 2) := by decide +kernel
theorem dX6_isMoved_100 : decode cX6_isMoved 100 = .ok (.iload 5, 2) := by decide +kernel
theorem dX6_isMoved_102 : decode cX6_isMoved 102 = .ok (.iconst 2, 1) := by decide +kernel
theorem dX6_isMoved_103 : decode cX6_isMoved 103 = .ok (.irem, 1) := by decide +kernel
theorem dX6_isMoved_104 : decode cX6_isMoved 104 = .ok (.ifCond .ne 7, 3) := by decide +kernel
theorem dX6_isMoved_107 : decode cX6_isMoved 107 = .ok (.iconst 1, 1) := by decide +kernel
theorem dX6_isMoved_108 : decode cX6_isMoved 108 = .ok (.goto 4, 3) := by decide +kernel
theorem dX6_isMoved_111 : decode cX6_isMoved 111 = .ok (.iconst 0, 1) := by decide +kernel
theorem dX6_isMoved_112 : decode cX6_isMoved 112 = .ok (.if_icmp .ne 7, 3) := by decide +kernel
theorem dX6_isMoved_115 : decode cX6_isMoved 115 = .ok (.iconst 1, 1) := by decide +kernel
theorem dX6_isMoved_116 : decode cX6_isMoved 116 = .ok (.goto 4, 3) := by decide +kernel
theorem dX6_isMoved_119 : decode cX6_isMoved 119 = .ok (.iconst 0, 1) := by decide +kernel
theorem dX6_isMoved_120 : decode cX6_isMoved 120 = .ok (.istore 4, 2) := by decide +kernel
theorem dX6_isMoved_122 : decode cX6_isMoved 122 = .ok (.iload 4, 2) := by decide +kernel
theorem dX6_isMoved_124 : decode cX6_isMoved 124 = .ok (.ifCond .eq 37, 3) := by decide +kernel
theorem dX6_isMoved_127 : decode cX6_isMoved 127 = .ok (.iload 6, 2) := by decide +kernel
theorem dX6_isMoved_129 : decode cX6_isMoved 129 = .ok (.aload_n 0, 1) := by decide +kernel
theorem dX6_isMoved_130 : decode cX6_isMoved 130 = .ok (.getfield 142, 3) := by decide +kernel
theorem dX6_isMoved_133 : decode cX6_isMoved 133 = .ok (.if_icmp .ge 28, 3) := by decide +kernel
theorem dX6_isMoved_136 : decode cX6_isMoved 136 = .ok (.iload 5, 2) := by decide +kernel
theorem dX6_isMoved_138 : decode cX6_isMoved 138 = .ok (.iconst 2, 1) := by decide +kernel
theorem dX6_isMoved_139 : decode cX6_isMoved 139 = .ok (.irem, 1) := by decide +kernel
theorem dX6_isMoved_140 : decode cX6_isMoved 140 = .ok (.ifCond .ne 21, 3) := by decide +kernel
theorem dX6_isMoved_143 : decode cX6_isMoved 143 = .ok (.aload_n 0, 1) := by decide +kernel
theorem dX6_isMoved_144 : decode cX6_isMoved 144 = .ok (.getfield 60, 3) := by decide +kernel
theorem dX6_isMoved_147 : decode cX6_isMoved 147 = .ok (.iconst 3, 1) := by decide +kernel
theorem dX6_isMoved_148 : decode cX6_isMoved 148 = .ok (.dup2, 1) := by decide +kernel
theorem dX6_isMoved_149 : decode cX6_isMoved 149 = .ok (.iaload, 1) := by decide +kernel
theorem dX6_isMoved_150 : decode cX6_isMoved 150 = .ok (.iconst 1, 1) := by decide +kernel
theorem dX6_isMoved_151 : decode cX6_isMoved 151 = .ok (.iload 6, 2) := by decide +kernel
theorem dX6_isMoved_153 : decode cX6_isMoved 153 = .ok (.ishl, 1) := by decide +kernel
theorem dX6_isMoved_154 : decode cX6_isMoved 154 = .ok (.iconst (-1), 1) := by decide +kernel
theorem dX6_isMoved_155 : decode cX6_isMoved 155 = .ok (.ixor, 1) := by decide +kernel
theorem dX6_isMoved_156 : decode cX6_isMoved 156 = .ok (.iand, 1) := by decide +kernel
theorem dX6_isMoved_157 : decode cX6_isMoved 157 = .ok (.iastore, 1) := by decide +kernel
theorem dX6_isMoved_158 : decode cX6_isMoved 158 = .ok (.goto 26, 3) := by decide +kernel
theorem dX6_isMoved_161 : decode cX6_isMoved 161 = .ok (.iload 4, 2) := by decide +kernel
theorem dX6_isMoved_163 : decode cX6_isMoved 163 = .ok (.ifCond .eq 21, 3) := by decide +kernel
theorem dX6_isMoved_166 : decode cX6_isMoved 166 = .ok (.iload 6, 2) := by decide +kernel
theorem dX6_isMoved_168 : decode cX6_isMoved 168 = .ok (.aload_n 0, 1) := by decide +kernel
theorem dX6_isMoved_169 : decode cX6_isMoved 169 = .ok (.getfield 142, 3) := by decide +kernel
theorem dX6_isMoved_172 : decode cX6_isMoved 172 = .ok (.if_icmp .ge 12, 3) := by decide +kernel
theorem dX6_isMoved_175 : decode cX6_isMoved 175 = .ok (.aload_n 0, 1) := by decide +kernel
theorem dX6_isMoved_176 : decode cX6_isMoved 176 = .ok (.getfield 60, 3) := by decide +kernel
theorem dX6_isMoved_179 : decode cX6_isMoved 179 = .ok (.iload 6, 2) := by decide +kernel
theorem dX6_isMoved_181 : decode cX6_isMoved 181 = .ok (.invokestatic 199, 3) := by decide +kernel
theorem dX6_isMoved_184 : decode cX6_isMoved 184 = .ok (.iinc 5 1, 3) := by decide +kernel
theorem dX6_isMoved_187 : decode cX6_isMoved 187 = .ok (.goto (-159), 3) := by decide +kernel
theorem dX6_isMoved_190 : decode cX6_isMoved 190 = .ok (.iload 4, 2) := by decide +kernel
theorem dX6_isMoved_192 : decode cX6_isMoved 192 = .ok (.ireturn, 1) := by decide +kernel
theorem dX6_duel_0 : decode cX6_duel 0 = .ok (.iload_n 1, 1) := by decide +kernel
theorem dX6_duel_1 : decode cX6_duel 1 = .ok (.iconst 0, 1) := by decide +kernel
theorem dX6_duel_2 : decode cX6_duel 2 = .ok (.iconst 4, 1) := by decide +kernel
theorem dX6_duel_3 : decode cX6_duel 3 = .ok (.invokestatic 89, 3) := by decide +kernel
theorem dX6_duel_6 : decode cX6_duel 6 = .ok (.ifCond .ne 5, 3) := by decide +kernel
theorem dX6_duel_9 : decode cX6_duel 9 = .ok (.iconst (-1), 1) := by decide +kernel
theorem dX6_duel_10 : decode cX6_duel 10 = .ok (.ireturn, 1) := by decide +kernel
theorem dX6_duel_11 : decode cX6_duel 11 = .ok (.aload_n 0, 1) := by decide +kernel
theorem dX6_duel_12 : decode cX6_duel 12 = .ok (.getfield 142, 3) := by decide +kernel
theorem dX6_duel_15 : decode cX6_duel 15 = .ok (.ifCond .ne 6, 3) := by decide +kernel
theorem dX6_duel_18 : decode cX6_duel 18 = .ok (.bipush (-4), 2) := by decide +kernel
theorem dX6_duel_20 : decode cX6_duel 20 = .ok (.ireturn, 1) := by decide +kernel
theorem dX6_duel_21 : decode cX6_duel 21 = .ok (.iconst 1, 1) := by decide +kernel
theorem dX6_duel_22 : decode cX6_duel 22 = .ok (.istore_n 2, 1) := by decide +kernel
theorem dX6_duel_23 : decode cX6_duel 23 = .ok (.iconst 0, 1) := by decide +kernel
theorem dX6_duel_24 : decode cX6_duel 24 = .ok (.istore_n 3, 1) := by decide +kernel
theorem dX6_duel_25 : decode cX6_duel 25 = .ok (.iload_n 3, 1) := by decide +kernel
theorem dX6_duel_26 : decode cX6_duel 26 = .ok (.iload_n 1, 1) := by decide +kernel
theorem dX6_duel_27 : decode cX6_duel 27 = .ok (.if_icmp .ge 14, 3) := by decide +kernel
theorem dX6_duel_30 : decode cX6_duel 30 = .ok (.iload_n 2, 1) := by decide +kernel
theorem dX6_duel_31 : decode cX6_duel 31 = .ok (.bipush 9, 2) := by decide +kernel
theorem dX6_duel_33 : decode cX6_duel 33 = .ok (.imul, 1) := by decide +kernel
theorem dX6_duel_34 : decode cX6_duel 34 = .ok (.istore_n 2, 1) := by decide +kernel
theorem dX6_duel_35 : decode cX6_duel 35 = .ok (.iinc 3 1, 3) := by decide +kernel
theorem dX6_duel_38 : decode cX6_duel 38 = .ok (.goto (-13), 3) := by decide +kernel
theorem dX6_duel_41 : decode cX6_duel 41 = .ok (.iconst 0, 1) := by decide +kernel
theorem dX6_duel_42 : decode cX6_duel 42 = .ok (.istore_n 3, 1) := by decide +kernel
theorem dX6_duel_43 : decode cX6_duel 43 = .ok (.iload_n 3, 1) := by decide +kernel
theorem dX6_duel_44 : decode cX6_duel 44 = .ok (.iload_n 2, 1) := by decide +kernel
theorem dX6_duel_45 : decode cX6_duel 45 = .ok (.if_icmp .ge 40, 3) := by decide +kernel
theorem dX6_duel_48 : decode cX6_duel 48 = .ok (.aload_n 0, 1) := by decide +kernel
theorem dX6_duel_49 : decode cX6_duel 49 = .ok (.invokevirtual 203, 3) := by decide +kernel
theorem dX6_duel_52 : decode cX6_duel 52 = .ok (.aload_n 0, 1) := by decide +kernel
theorem dX6_duel_53 : decode cX6_duel 53 = .ok (.getfield 72, 3) := by decide +kernel
theorem dX6_duel_56 : decode cX6_duel 56 = .ok (.iload_n 3, 1) := by decide +kernel
theorem dX6_duel_57 : decode cX6_duel 57 = .ok (.aload_n 0, 1) := by decide +kernel
theorem dX6_duel_58 : decode cX6_duel 58 = .ok (.iload_n 3, 1) := by decide +kernel
theorem dX6_duel_59 : decode cX6_duel 59 = .ok (.iload_n 1, 1) := by decide +kernel
theorem dX6_duel_60 : decode cX6_duel 60 = .ok (.invokevirtual 238, 3) := by decide +kernel
theorem dX6_duel_63 : decode cX6_duel 63 = .ok (.ifCond .eq 13, 3) := by decide +kernel
theorem dX6_duel_66 : decode cX6_duel 66 = .ok (.aload_n 0, 1) := by decide +kernel
theorem dX6_duel_67 : decode cX6_duel 67 = .ok (.bipush 12, 2) := by decide +kernel
theorem dX6_duel_69 : decode cX6_duel 69 = .ok (.iconst 1, 1) := by decide +kernel
theorem dX6_duel_70 : decode cX6_duel 70 = .ok (.invokevirtual 206, 3) := by decide +kernel
theorem dX6_duel_73 : decode cX6_duel 73 = .ok (.goto 5, 3) := by decide +kernel
theorem dX6_duel_76 : decode cX6_duel 76 = .ok (.ldc 223, 2) := by decide +kernel
theorem dX6_duel_78 : decode cX6_duel 78 = .ok (.iastore, 1) := by decide +kernel
theorem dX6_duel_79 : decode cX6_duel 79 = .ok (.iinc 3 1, 3) := by decide +kernel
theorem dX6_duel_82 : decode cX6_duel 82 = .ok (.goto (-39), 3) := by decide +kernel
theorem dX6_duel_85 : decode cX6_duel 85 = .ok (.iload_n 1, 1) := by decide +kernel
theorem dX6_duel_86 : decode cX6_duel 86 = .ok (.iconst 1, 1) := by decide +kernel
theorem dX6_duel_87 : decode cX6_duel 87 = .ok (.isub, 1) := by decide +kernel
theorem dX6_duel_88 : decode cX6_duel 88 = .ok (.istore_n 3, 1) := by decide +kernel
theorem dX6_duel_89 : decode cX6_duel 89 = .ok (.iload_n 3, 1) := by decide +kernel
theorem dX6_duel_90 : decode cX6_duel 90 = .ok (.ifCond .lt 131, 3) := by decide +kernel
theorem dX6_duel_93 : decode cX6_duel 93 = .ok (.iload_n 2, 1) := by decide +kernel
theorem dX6_duel_94 : decode cX6_duel 94 = .ok (.bipush 9, 2) := by decide +kernel
theorem dX6_duel_96 : decode cX6_duel 96 = .ok (.idiv, 1) := by decide +kernel
theorem dX6_duel_97 : decode cX6_duel 97 = .ok (.istore_n 2, 1) := by decide +kernel
theorem dX6_duel_98 : decode cX6_duel 98 = .ok (.iconst 0, 1) := by decide +kernel
theorem dX6_duel_99 : decode cX6_duel 99 = .ok (.istore 4, 2) := by decide +kernel
theorem dX6_duel_101 : decode cX6_duel 101 = .ok (.iload 4, 2) := by decide +kernel
theorem dX6_duel_103 : decode cX6_duel 103 = .ok (.iload_n 2, 1) := by decide +kernel
theorem dX6_duel_104 : decode cX6_duel 104 = .ok (.if_icmp .ge 111, 3) := by decide +kernel
theorem dX6_duel_107 : decode cX6_duel 107 = .ok (.ldc 223, 2) := by decide +kernel
theorem dX6_duel_109 : decode cX6_duel 109 = .ok (.istore 5, 2) := by decide +kernel
theorem dX6_duel_111 : decode cX6_duel 111 = .ok (.iconst 0, 1) := by decide +kernel
theorem dX6_duel_112 : decode cX6_duel 112 = .ok (.istore 6, 2) := by decide +kernel
theorem dX6_duel_114 : decode cX6_duel 114 = .ok (.iload 6, 2) := by decide +kernel
theorem dX6_duel_116 : decode cX6_duel 116 = .ok (.bipush 9, 2) := by decide +kernel
theorem dX6_duel_118 : decode cX6_duel 118 = .ok (.if_icmp .ge 82, 3) := by decide +kernel
theorem dX6_duel_121 : decode cX6_duel 121 = .ok (.aload_n 0, 1) := by decide +kernel
theorem dX6_duel_122 : decode cX6_duel 122 = .ok (.getfield 72, 3) := by decide +kernel
theorem dX6_duel_125 : decode cX6_duel 125 = .ok (.bipush 9, 2) := by decide +kernel
theorem dX6_duel_127 : decode cX6_duel 127 = .ok (.iload 4, 2) := by decide +kernel
theorem dX6_duel_129 : decode cX6_duel 129 = .ok (.imul, 1) := by decide +kernel
theorem dX6_duel_130 : decode cX6_duel 130 = .ok (.iload 6, 2) := by decide +kernel
theorem dX6_duel_132 : decode cX6_duel 132 = .ok (.iadd, 1) := by decide +kernel
theorem dX6_duel_133 : decode cX6_duel 133 = .ok (.iaload, 1) := by decide +kernel
theorem dX6_duel_134 : decode cX6_duel 134 = .ok (.istore 7, 2) := by decide +kernel
theorem dX6_duel_136 : decode cX6_duel 136 = .ok (.iload 7, 2) := by decide +kernel
theorem dX6_duel_138 : decode cX6_duel 138 = .ok (.ldc 223, 2) := by decide +kernel
theorem dX6_duel_140 : decode cX6_duel 140 = .ok (.if_icmp .eq 37, 3) := by decide +kernel
theorem dX6_duel_143 : decode cX6_duel 143 = .ok (.iload 5, 2) := by decide +kernel
theorem dX6_duel_145 : decode cX6_duel 145 = .ok (.ldc 223, 2) := by decide +kernel
theorem dX6_duel_147 : decode cX6_duel 147 = .ok (.if_icmp .eq 26, 3) := by decide +kernel
theorem dX6_duel_150 : decode cX6_duel 150 = .ok (.iload_n 3, 1) := by decide +kernel
theorem dX6_duel_151 : decode cX6_duel 151 = .ok (.iconst 2, 1) := by decide +kernel
theorem dX6_duel_152 : decode cX6_duel 152 = .ok (.irem, 1) := by decide +kernel
theorem dX6_duel_153 : decode cX6_duel 153 = .ok (.ifCond .ne 13, 3) := by decide +kernel
theorem dX6_duel_156 : decode cX6_duel 156 = .ok (.iload 7, 2) := by decide +kernel
theorem dX6_duel_158 : decode cX6_duel 158 = .ok (.iload 5, 2) := by decide +kernel
theorem dX6_duel_160 : decode cX6_duel 160 = .ok (.if_icmp .le 17, 3) := by decide +kernel
theorem dX6_duel_163 : decode cX6_duel 163 = .ok (.goto 10, 3) := by decide +kernel
theorem dX6_duel_166 : decode cX6_duel 166 = .ok (.iload 7, 2) := by decide +kernel
theorem dX6_duel_168 : decode cX6_duel 168 = .ok (.iload 5, 2) := by decide +kernel
theorem dX6_duel_170 : decode cX6_duel 170 = .ok (.if_icmp .ge 7, 3) := by decide +kernel
theorem dX6_duel_173 : decode cX6_duel 173 = .ok (.iconst 1, 1) := by decide +kernel
theorem dX6_duel_174 : decode cX6_duel 174 = .ok (.goto 4, 3) := by decide +kernel
theorem dX6_duel_177 : decode cX6_duel 177 = .ok (.iconst 0, 1) := by decide +kernel
theorem dX6_duel_178 : decode cX6_duel 178 = .ok (.istore 8, 2) := by decide +kernel
theorem dX6_duel_180 : decode cX6_duel 180 = .ok (.iload 8, 2) := by decide +kernel
theorem dX6_duel_182 : decode cX6_duel 182 = .ok (.ifCond .eq 8, 3) := by decide +kernel
theorem dX6_duel_185 : decode cX6_duel 185 = .ok (.iload 7, 2) := by decide +kernel
theorem dX6_duel_187 : decode cX6_duel 187 = .ok (.goto 5, 3) := by decide +kernel
theorem dX6_duel_190 : decode cX6_duel 190 = .ok (.iload 5, 2) := by decide +kernel
theorem dX6_duel_192 : decode cX6_duel 192 = .ok (.istore 5, 2) := by decide +kernel
theorem dX6_duel_194 : decode cX6_duel 194 = .ok (.iinc 6 1, 3) := by decide +kernel
theorem dX6_duel_197 : decode cX6_duel 197 = .ok (.goto (-83), 3) := by decide +kernel
theorem dX6_duel_200 : decode cX6_duel 200 = .ok (.aload_n 0, 1) := by decide +kernel
theorem dX6_duel_201 : decode cX6_duel 201 = .ok (.getfield 72, 3) := by decide +kernel
theorem dX6_duel_204 : decode cX6_duel 204 = .ok (.iload 4, 2) := by decide +kernel
theorem dX6_duel_206 : decode cX6_duel 206 = .ok (.iload 5, 2) := by decide +kernel
theorem dX6_duel_208 : decode cX6_duel 208 = .ok (.iastore, 1) := by decide +kernel
theorem dX6_duel_209 : decode cX6_duel 209 = .ok (.iinc 4 1, 3) := by decide +kernel
theorem dX6_duel_212 : decode cX6_duel 212 = .ok (.goto (-111), 3) := by decide +kernel
theorem dX6_duel_215 : decode cX6_duel 215 = .ok (.iinc 3 (-1), 3) := by decide +kernel
theorem dX6_duel_218 : decode cX6_duel 218 = .ok (.goto (-129), 3) := by decide +kernel
theorem dX6_duel_221 : decode cX6_duel 221 = .ok (.aload_n 0, 1) := by decide +kernel
theorem dX6_duel_222 : decode cX6_duel 222 = .ok (.getfield 72, 3) := by decide +kernel
theorem dX6_duel_225 : decode cX6_duel 225 = .ok (.iconst 0, 1) := by decide +kernel
theorem dX6_duel_226 : decode cX6_duel 226 = .ok (.iaload, 1) := by decide +kernel
theorem dX6_duel_227 : decode cX6_duel 227 = .ok (.ireturn, 1) := by decide +kernel
theorem dX6_layParts_0 : decode cX6_layParts 0 = .ok (.aload_n 0, 1) := by decide +kernel
theorem dX6_layParts_1 : decode cX6_layParts 1 = .ok (.lconst 1, 1) := by decide +kernel
theorem dX6_layParts_2 : decode cX6_layParts 2 = .ok (.putfield 241, 3) := by decide +kernel
theorem dX6_layParts_5 : decode cX6_layParts 5 = .ok (.iconst 0, 1) := by decide +kernel
theorem dX6_layParts_6 : decode cX6_layParts 6 = .ok (.istore_n 2, 1) := by decide +kernel
theorem dX6_layParts_7 : decode cX6_layParts 7 = .ok (.iload_n 2, 1) := by decide +kernel
theorem dX6_layParts_8 : decode cX6_layParts 8 = .ok (.aload_n 0, 1) := by decide +kernel
theorem dX6_layParts_9 : decode cX6_layParts 9 = .ok (.getfield 142, 3) := by decide +kernel
theorem dX6_layParts_12 : decode cX6_layParts 12 = .ok (.if_icmp .ge 38, 3) := by decide +kernel
theorem dX6_layParts_15 : decode cX6_layParts 15 = .ok (.aload_n 0, 1) := by decide +kernel
theorem dX6_layParts_16 : decode cX6_layParts 16 = .ok (.dup, 1) := by decide +kernel
theorem dX6_layParts_17 : decode cX6_layParts 17 = .ok (.getfield 241, 3) := by decide +kernel
theorem dX6_layParts_20 : decode cX6_layParts 20 = .ok (.aload_n 0, 1) := by decide +kernel
theorem dX6_layParts_21 : decode cX6_layParts 21 = .ok (.getfield 57, 3) := by decide +kernel
theorem dX6_layParts_24 : decode cX6_layParts 24 = .ok (.iconst 3, 1) := by decide +kernel
theorem dX6_layParts_25 : decode cX6_layParts 25 = .ok (.iaload, 1) := by decide +kernel
theorem dX6_layParts_26 : decode cX6_layParts 26 = .ok (.iload_n 2, 1) := by decide +kernel
theorem dX6_layParts_27 : decode cX6_layParts 27 = .ok (.invokestatic 158, 3) := by decide +kernel
theorem dX6_layParts_30 : decode cX6_layParts 30 = .ok (.ifCond .eq 9, 3) := by decide +kernel
theorem dX6_layParts_33 : decode cX6_layParts 33 = .ok (.ldc2_w 244, 3) := by decide +kernel
theorem dX6_layParts_36 : decode cX6_layParts 36 = .ok (.goto 4, 3) := by decide +kernel
theorem dX6_layParts_39 : decode cX6_layParts 39 = .ok (.lconst 1, 1) := by decide +kernel
theorem dX6_layParts_40 : decode cX6_layParts 40 = .ok (.lmul, 1) := by decide +kernel
theorem dX6_layParts_41 : decode cX6_layParts 41 = .ok (.putfield 241, 3) := by decide +kernel
theorem dX6_layParts_44 : decode cX6_layParts 44 = .ok (.iinc 2 1, 3) := by decide +kernel
theorem dX6_layParts_47 : decode cX6_layParts 47 = .ok (.goto (-40), 3) := by decide +kernel
theorem dX6_layParts_50 : decode cX6_layParts 50 = .ok (.iconst 0, 1) := by decide +kernel
theorem dX6_layParts_51 : decode cX6_layParts 51 = .ok (.istore_n 2, 1) := by decide +kernel
theorem dX6_layParts_52 : decode cX6_layParts 52 = .ok (.iload_n 2, 1) := by decide +kernel
theorem dX6_layParts_53 : decode cX6_layParts 53 = .ok (.bipush 12, 2) := by decide +kernel
theorem dX6_layParts_55 : decode cX6_layParts 55 = .ok (.if_icmp .gt 16, 3) := by decide +kernel
theorem dX6_layParts_58 : decode cX6_layParts 58 = .ok (.aload_n 0, 1) := by decide +kernel
theorem dX6_layParts_59 : decode cX6_layParts 59 = .ok (.getfield 75, 3) := by decide +kernel
theorem dX6_layParts_62 : decode cX6_layParts 62 = .ok (.iload_n 2, 1) := by decide +kernel
theorem dX6_layParts_63 : decode cX6_layParts 63 = .ok (.lconst 0, 1) := by decide +kernel
theorem dX6_layParts_64 : decode cX6_layParts 64 = .ok (.lastore, 1) := by decide +kernel
theorem dX6_layParts_65 : decode cX6_layParts 65 = .ok (.iinc 2 1, 3) := by decide +kernel
theorem dX6_layParts_68 : decode cX6_layParts 68 = .ok (.goto (-16), 3) := by decide +kernel
theorem dX6_layParts_71 : decode cX6_layParts 71 = .ok (.iconst 0, 1) := by decide +kernel
theorem dX6_layParts_72 : decode cX6_layParts 72 = .ok (.istore_n 2, 1) := by decide +kernel
theorem dX6_layParts_73 : decode cX6_layParts 73 = .ok (.iload_n 2, 1) := by decide +kernel
theorem dX6_layParts_74 : decode cX6_layParts 74 = .ok (.aload_n 0, 1) := by decide +kernel
theorem dX6_layParts_75 : decode cX6_layParts 75 = .ok (.getfield 57, 3) := by decide +kernel
theorem dX6_layParts_78 : decode cX6_layParts 78 = .ok (.iconst 3, 1) := by decide +kernel
theorem dX6_layParts_79 : decode cX6_layParts 79 = .ok (.iaload, 1) := by decide +kernel
theorem dX6_layParts_80 : decode cX6_layParts 80 = .ok (.if_icmp .gt 114, 3) := by decide +kernel
theorem dX6_layParts_83 : decode cX6_layParts 83 = .ok (.iload_n 2, 1) := by decide +kernel
theorem dX6_layParts_84 : decode cX6_layParts 84 = .ok (.aload_n 0, 1) := by decide +kernel
theorem dX6_layParts_85 : decode cX6_layParts 85 = .ok (.getfield 57, 3) := by decide +kernel
theorem dX6_layParts_88 : decode cX6_layParts 88 = .ok (.iconst 3, 1) := by decide +kernel
theorem dX6_layParts_89 : decode cX6_layParts 89 = .ok (.iaload, 1) := by decide +kernel
theorem dX6_layParts_90 : decode cX6_layParts 90 = .ok (.iconst (-1), 1) := by decide +kernel
theorem dX6_layParts_91 : decode cX6_layParts 91 = .ok (.ixor, 1) := by decide +kernel
theorem dX6_layParts_92 : decode cX6_layParts 92 = .ok (.iand, 1) := by decide +kernel
theorem dX6_layParts_93 : decode cX6_layParts 93 = .ok (.ifCond .ne 95, 3) := by decide +kernel
theorem dX6_layParts_96 : decode cX6_layParts 96 = .ok (.lconst 1, 1) := by decide +kernel
theorem dX6_layParts_97 : decode cX6_layParts 97 = .ok (.lstore_n 3, 1) := by decide +kernel
theorem dX6_layParts_98 : decode cX6_layParts 98 = .ok (.iconst 0, 1) := by decide +kernel
theorem dX6_layParts_99 : decode cX6_layParts 99 = .ok (.istore 5, 2) := by decide +kernel
theorem dX6_layParts_101 : decode cX6_layParts 101 = .ok (.iload 5, 2) := by decide +kernel
theorem dX6_layParts_103 : decode cX6_layParts 103 = .ok (.aload_n 0, 1) := by decide +kernel
theorem dX6_layParts_104 : decode cX6_layParts 104 = .ok (.getfield 142, 3) := by decide +kernel
theorem dX6_layParts_107 : decode cX6_layParts 107 = .ok (.if_icmp .ge 49, 3) := by decide +kernel
theorem dX6_layParts_110 : decode cX6_layParts 110 = .ok (.lload_n 3, 1) := by decide +kernel
theorem dX6_layParts_111 : decode cX6_layParts 111 = .ok (.aload_n 0, 1) := by decide +kernel
theorem dX6_layParts_112 : decode cX6_layParts 112 = .ok (.getfield 57, 3) := by decide +kernel
theorem dX6_layParts_115 : decode cX6_layParts 115 = .ok (.iconst 3, 1) := by decide +kernel
theorem dX6_layParts_116 : decode cX6_layParts 116 = .ok (.iaload, 1) := by decide +kernel
theorem dX6_layParts_117 : decode cX6_layParts 117 = .ok (.iload 5, 2) := by decide +kernel
theorem dX6_layParts_119 : decode cX6_layParts 119 = .ok (.invokestatic 158, 3) := by decide +kernel
theorem dX6_layParts_122 : decode cX6_layParts 122 = .ok (.ifCond .ne 7, 3) := by decide +kernel
theorem dX6_layParts_125 : decode cX6_layParts 125 = .ok (.lconst 1, 1) := by decide +kernel
theorem dX6_layParts_126 : decode cX6_layParts 126 = .ok (.goto 22, 3) := by decide +kernel
theorem dX6_layParts_129 : decode cX6_layParts 129 = .ok (.iload_n 2, 1) := by decide +kernel
theorem dX6_layParts_130 : decode cX6_layParts 130 = .ok (.iload 5, 2) := by decide +kernel
theorem dX6_layParts_132 : decode cX6_layParts 132 = .ok (.invokestatic 158, 3) := by decide +kernel
theorem dX6_layParts_135 : decode cX6_layParts 135 = .ok (.ifCond .eq 8, 3) := by decide +kernel
theorem dX6_layParts_138 : decode cX6_layParts 138 = .ok (.iload_n 1, 1) := by decide +kernel
theorem dX6_layParts_139 : decode cX6_layParts 139 = .ok (.i2l, 1) := by decide +kernel
theorem dX6_layParts_140 : decode cX6_layParts 140 = .ok (.goto 8, 3) := by decide +kernel
theorem dX6_layParts_143 : decode cX6_layParts 143 = .ok (.bipush 12, 2) := by decide +kernel
theorem dX6_layParts_145 : decode cX6_layParts 145 = .ok (.iload_n 1, 1) := by decide +kernel
theorem dX6_layParts_146 : decode cX6_layParts 146 = .ok (.isub, 1) := by decide +kernel
theorem dX6_layParts_147 : decode cX6_layParts 147 = .ok (.i2l, 1) := by decide +kernel
theorem dX6_layParts_148 : decode cX6_layParts 148 = .ok (.lmul, 1) := by decide +kernel
theorem dX6_layParts_149 : decode cX6_layParts 149 = .ok (.lstore_n 3, 1) := by decide +kernel
theorem dX6_layParts_150 : decode cX6_layParts 150 = .ok (.iinc 5 1, 3) := by decide +kernel
theorem dX6_layParts_153 : decode cX6_layParts 153 = .ok (.goto (-52), 3) := by decide +kernel
theorem dX6_layParts_156 : decode cX6_layParts 156 = .ok (.aload_n 0, 1) := by decide +kernel
theorem dX6_layParts_157 : decode cX6_layParts 157 = .ok (.invokevirtual 203, 3) := by decide +kernel
theorem dX6_layParts_160 : decode cX6_layParts 160 = .ok (.aload_n 0, 1) := by decide +kernel
theorem dX6_layParts_161 : decode cX6_layParts 161 = .ok (.getfield 60, 3) := by decide +kernel
theorem dX6_layParts_164 : decode cX6_layParts 164 = .ok (.iconst 3, 1) := by decide +kernel
theorem dX6_layParts_165 : decode cX6_layParts 165 = .ok (.dup2, 1) := by decide +kernel
theorem dX6_layParts_166 : decode cX6_layParts 166 = .ok (.iaload, 1) := by decide +kernel
theorem dX6_layParts_167 : decode cX6_layParts 167 = .ok (.iload_n 2, 1) := by decide +kernel
theorem dX6_layParts_168 : decode cX6_layParts 168 = .ok (.iconst (-1), 1) := by decide +kernel
theorem dX6_layParts_169 : decode cX6_layParts 169 = .ok (.ixor, 1) := by decide +kernel
theorem dX6_layParts_170 : decode cX6_layParts 170 = .ok (.iand, 1) := by decide +kernel
theorem dX6_layParts_171 : decode cX6_layParts 171 = .ok (.iastore, 1) := by decide +kernel
theorem dX6_layParts_172 : decode cX6_layParts 172 = .ok (.aload_n 0, 1) := by decide +kernel
theorem dX6_layParts_173 : decode cX6_layParts 173 = .ok (.getfield 75, 3) := by decide +kernel
theorem dX6_layParts_176 : decode cX6_layParts 176 = .ok (.aload_n 0, 1) := by decide +kernel
theorem dX6_layParts_177 : decode cX6_layParts 177 = .ok (.bipush 12, 2) := by decide +kernel
theorem dX6_layParts_179 : decode cX6_layParts 179 = .ok (.iconst 1, 1) := by decide +kernel
theorem dX6_layParts_180 : decode cX6_layParts 180 = .ok (.invokevirtual 206, 3) := by decide +kernel
theorem dX6_layParts_183 : decode cX6_layParts 183 = .ok (.dup2, 1) := by decide +kernel
theorem dX6_layParts_184 : decode cX6_layParts 184 = .ok (.laload, 1) := by decide +kernel
theorem dX6_layParts_185 : decode cX6_layParts 185 = .ok (.lload_n 3, 1) := by decide +kernel
theorem dX6_layParts_186 : decode cX6_layParts 186 = .ok (.ladd, 1) := by decide +kernel
theorem dX6_layParts_187 : decode cX6_layParts 187 = .ok (.lastore, 1) := by decide +kernel
theorem dX6_layParts_188 : decode cX6_layParts 188 = .ok (.iinc 2 1, 3) := by decide +kernel
theorem dX6_layParts_191 : decode cX6_layParts 191 = .ok (.goto (-118), 3) := by decide +kernel
theorem dX6_layParts_194 : decode cX6_layParts 194 = .ok (.return_, 1) := by decide +kernel
theorem dX6_odds_0 : decode cX6_odds 0 = .ok (.iload_n 1, 1) := by decide +kernel
theorem dX6_odds_1 : decode cX6_odds 1 = .ok (.iconst 0, 1) := by decide +kernel
theorem dX6_odds_2 : decode cX6_odds 2 = .ok (.bipush 20, 2) := by decide +kernel
theorem dX6_odds_4 : decode cX6_odds 4 = .ok (.invokestatic 89, 3) := by decide +kernel
theorem dX6_odds_7 : decode cX6_odds 7 = .ok (.ifCond .eq 13, 3) := by decide +kernel
theorem dX6_odds_10 : decode cX6_odds 10 = .ok (.iload_n 2, 1) := by decide +kernel
theorem dX6_odds_11 : decode cX6_odds 11 = .ok (.iconst 0, 1) := by decide +kernel
theorem dX6_odds_12 : decode cX6_odds 12 = .ok (.bipush 12, 2) := by decide +kernel
theorem dX6_odds_14 : decode cX6_odds 14 = .ok (.invokestatic 89, 3) := by decide +kernel
theorem dX6_odds_17 : decode cX6_odds 17 = .ok (.ifCond .ne 5, 3) := by decide +kernel
theorem dX6_odds_20 : decode cX6_odds 20 = .ok (.iconst (-1), 1) := by decide +kernel
theorem dX6_odds_21 : decode cX6_odds 21 = .ok (.ireturn, 1) := by decide +kernel
theorem dX6_odds_22 : decode cX6_odds 22 = .ok (.aload_n 0, 1) := by decide +kernel
theorem dX6_odds_23 : decode cX6_odds 23 = .ok (.getfield 142, 3) := by decide +kernel
theorem dX6_odds_26 : decode cX6_odds 26 = .ok (.ifCond .ne 6, 3) := by decide +kernel
theorem dX6_odds_29 : decode cX6_odds 29 = .ok (.bipush (-4), 2) := by decide +kernel
theorem dX6_odds_31 : decode cX6_odds 31 = .ok (.ireturn, 1) := by decide +kernel
theorem dX6_odds_32 : decode cX6_odds 32 = .ok (.aload_n 0, 1) := by decide +kernel
theorem dX6_odds_33 : decode cX6_odds 33 = .ok (.iload_n 2, 1) := by decide +kernel
theorem dX6_odds_34 : decode cX6_odds 34 = .ok (.invokevirtual 246, 3) := by decide +kernel
theorem dX6_odds_37 : decode cX6_odds 37 = .ok (.lconst 0, 1) := by decide +kernel
theorem dX6_odds_38 : decode cX6_odds 38 = .ok (.lstore_n 3, 1) := by decide +kernel
theorem dX6_odds_39 : decode cX6_odds 39 = .ok (.iconst 0, 1) := by decide +kernel
theorem dX6_odds_40 : decode cX6_odds 40 = .ok (.istore 5, 2) := by decide +kernel
theorem dX6_odds_42 : decode cX6_odds 42 = .ok (.iload 5, 2) := by decide +kernel
theorem dX6_odds_44 : decode cX6_odds 44 = .ok (.iload_n 1, 1) := by decide +kernel
theorem dX6_odds_45 : decode cX6_odds 45 = .ok (.if_icmp .gt 26, 3) := by decide +kernel
theorem dX6_odds_48 : decode cX6_odds 48 = .ok (.iload 5, 2) := by decide +kernel
theorem dX6_odds_50 : decode cX6_odds 50 = .ok (.bipush 12, 2) := by decide +kernel
theorem dX6_odds_52 : decode cX6_odds 52 = .ok (.if_icmp .gt 19, 3) := by decide +kernel
theorem dX6_odds_55 : decode cX6_odds 55 = .ok (.lload_n 3, 1) := by decide +kernel
theorem dX6_odds_56 : decode cX6_odds 56 = .ok (.aload_n 0, 1) := by decide +kernel
theorem dX6_odds_57 : decode cX6_odds 57 = .ok (.getfield 75, 3) := by decide +kernel
theorem dX6_odds_60 : decode cX6_odds 60 = .ok (.iload 5, 2) := by decide +kernel
theorem dX6_odds_62 : decode cX6_odds 62 = .ok (.laload, 1) := by decide +kernel
theorem dX6_odds_63 : decode cX6_odds 63 = .ok (.ladd, 1) := by decide +kernel
theorem dX6_odds_64 : decode cX6_odds 64 = .ok (.lstore_n 3, 1) := by decide +kernel
theorem dX6_odds_65 : decode cX6_odds 65 = .ok (.iinc 5 1, 3) := by decide +kernel
theorem dX6_odds_68 : decode cX6_odds 68 = .ok (.goto (-26), 3) := by decide +kernel
theorem dX6_odds_71 : decode cX6_odds 71 = .ok (.aload_n 0, 1) := by decide +kernel
theorem dX6_odds_72 : decode cX6_odds 72 = .ok (.lload_n 3, 1) := by decide +kernel
theorem dX6_odds_73 : decode cX6_odds 73 = .ok (.aload_n 0, 1) := by decide +kernel
theorem dX6_odds_74 : decode cX6_odds 74 = .ok (.getfield 241, 3) := by decide +kernel
theorem dX6_odds_77 : decode cX6_odds 77 = .ok (.invokevirtual 250, 3) := by decide +kernel
theorem dX6_odds_80 : decode cX6_odds 80 = .ok (.ireturn, 1) := by decide +kernel
theorem dX6_mid_0 : decode cX6_mid 0 = .ok (.iload_n 1, 1) := by decide +kernel
theorem dX6_mid_1 : decode cX6_mid 1 = .ok (.iconst 0, 1) := by decide +kernel
theorem dX6_mid_2 : decode cX6_mid 2 = .ok (.bipush 12, 2) := by decide +kernel
theorem dX6_mid_4 : decode cX6_mid 4 = .ok (.invokestatic 89, 3) := by decide +kernel
theorem dX6_mid_7 : decode cX6_mid 7 = .ok (.ifCond .ne 5, 3) := by decide +kernel
theorem dX6_mid_10 : decode cX6_mid 10 = .ok (.iconst (-1), 1) := by decide +kernel
theorem dX6_mid_11 : decode cX6_mid 11 = .ok (.ireturn, 1) := by decide +kernel
theorem dX6_mid_12 : decode cX6_mid 12 = .ok (.aload_n 0, 1) := by decide +kernel
theorem dX6_mid_13 : decode cX6_mid 13 = .ok (.getfield 142, 3) := by decide +kernel
theorem dX6_mid_16 : decode cX6_mid 16 = .ok (.ifCond .ne 6, 3) := by decide +kernel
theorem dX6_mid_19 : decode cX6_mid 19 = .ok (.bipush (-4), 2) := by decide +kernel
theorem dX6_mid_21 : decode cX6_mid 21 = .ok (.ireturn, 1) := by decide +kernel
theorem dX6_mid_22 : decode cX6_mid 22 = .ok (.aload_n 0, 1) := by decide +kernel
theorem dX6_mid_23 : decode cX6_mid 23 = .ok (.iload_n 1, 1) := by decide +kernel
theorem dX6_mid_24 : decode cX6_mid 24 = .ok (.invokevirtual 246, 3) := by decide +kernel
theorem dX6_mid_27 : decode cX6_mid 27 = .ok (.lconst 0, 1) := by decide +kernel
theorem dX6_mid_28 : decode cX6_mid 28 = .ok (.lstore_n 2, 1) := by decide +kernel
theorem dX6_mid_29 : decode cX6_mid 29 = .ok (.iconst 1, 1) := by decide +kernel
theorem dX6_mid_30 : decode cX6_mid 30 = .ok (.istore 4, 2) := by decide +kernel
theorem dX6_mid_32 : decode cX6_mid 32 = .ok (.iload 4, 2) := by decide +kernel
theorem dX6_mid_34 : decode cX6_mid 34 = .ok (.bipush 12, 2) := by decide +kernel
theorem dX6_mid_36 : decode cX6_mid 36 = .ok (.if_icmp .gt 23, 3) := by decide +kernel
theorem dX6_mid_39 : decode cX6_mid 39 = .ok (.lload_n 2, 1) := by decide +kernel
theorem dX6_mid_40 : decode cX6_mid 40 = .ok (.iload 4, 2) := by decide +kernel
theorem dX6_mid_42 : decode cX6_mid 42 = .ok (.i2l, 1) := by decide +kernel
theorem dX6_mid_43 : decode cX6_mid 43 = .ok (.aload_n 0, 1) := by decide +kernel
theorem dX6_mid_44 : decode cX6_mid 44 = .ok (.getfield 75, 3) := by decide +kernel
theorem dX6_mid_47 : decode cX6_mid 47 = .ok (.iload 4, 2) := by decide +kernel
theorem dX6_mid_49 : decode cX6_mid 49 = .ok (.laload, 1) := by decide +kernel
theorem dX6_mid_50 : decode cX6_mid 50 = .ok (.lmul, 1) := by decide +kernel
theorem dX6_mid_51 : decode cX6_mid 51 = .ok (.ladd, 1) := by decide +kernel
theorem dX6_mid_52 : decode cX6_mid 52 = .ok (.lstore_n 2, 1) := by decide +kernel
theorem dX6_mid_53 : decode cX6_mid 53 = .ok (.iinc 4 1, 3) := by decide +kernel
theorem dX6_mid_56 : decode cX6_mid 56 = .ok (.goto (-24), 3) := by decide +kernel
theorem dX6_mid_59 : decode cX6_mid 59 = .ok (.aload_n 0, 1) := by decide +kernel
theorem dX6_mid_60 : decode cX6_mid 60 = .ok (.lload_n 2, 1) := by decide +kernel
theorem dX6_mid_61 : decode cX6_mid 61 = .ok (.aload_n 0, 1) := by decide +kernel
theorem dX6_mid_62 : decode cX6_mid 62 = .ok (.getfield 241, 3) := by decide +kernel
theorem dX6_mid_65 : decode cX6_mid 65 = .ok (.invokevirtual 250, 3) := by decide +kernel
theorem dX6_mid_68 : decode cX6_mid 68 = .ok (.ireturn, 1) := by decide +kernel
theorem dX6_lots_0 : decode cX6_lots 0 = .ok (.iload_n 1, 1) := by decide +kernel
theorem dX6_lots_1 : decode cX6_lots 1 = .ok (.iconst 1, 1) := by decide +kernel
theorem dX6_lots_2 : decode cX6_lots 2 = .ok (.bipush 20, 2) := by decide +kernel
theorem dX6_lots_4 : decode cX6_lots 4 = .ok (.invokestatic 89, 3) := by decide +kernel
theorem dX6_lots_7 : decode cX6_lots 7 = .ok (.ifCond .eq 13, 3) := by decide +kernel
theorem dX6_lots_10 : decode cX6_lots 10 = .ok (.iload_n 2, 1) := by decide +kernel
theorem dX6_lots_11 : decode cX6_lots 11 = .ok (.iconst 1, 1) := by decide +kernel
theorem dX6_lots_12 : decode cX6_lots 12 = .ok (.ldc 254, 2) := by decide +kernel
theorem dX6_lots_14 : decode cX6_lots 14 = .ok (.invokestatic 89, 3) := by decide +kernel
theorem dX6_lots_17 : decode cX6_lots 17 = .ok (.ifCond .ne 5, 3) := by decide +kernel
theorem dX6_lots_20 : decode cX6_lots 20 = .ok (.iconst (-1), 1) := by decide +kernel
theorem dX6_lots_21 : decode cX6_lots 21 = .ok (.ireturn, 1) := by decide +kernel
theorem dX6_lots_22 : decode cX6_lots 22 = .ok (.aload_n 0, 1) := by decide +kernel
theorem dX6_lots_23 : decode cX6_lots 23 = .ok (.getfield 142, 3) := by decide +kernel
theorem dX6_lots_26 : decode cX6_lots 26 = .ok (.ifCond .ne 6, 3) := by decide +kernel
theorem dX6_lots_29 : decode cX6_lots 29 = .ok (.bipush (-4), 2) := by decide +kernel
theorem dX6_lots_31 : decode cX6_lots 31 = .ok (.ireturn, 1) := by decide +kernel
theorem dX6_lots_32 : decode cX6_lots 32 = .ok (.aload_n 0, 1) := by decide +kernel
theorem dX6_lots_33 : decode cX6_lots 33 = .ok (.getfield 148, 3) := by decide +kernel
theorem dX6_lots_36 : decode cX6_lots 36 = .ok (.iload_n 1, 1) := by decide +kernel
theorem dX6_lots_37 : decode cX6_lots 37 = .ok (.iadd, 1) := by decide +kernel
theorem dX6_lots_38 : decode cX6_lots 38 = .ok (.bipush 40, 2) := by decide +kernel
theorem dX6_lots_40 : decode cX6_lots 40 = .ok (.if_icmp .le 6, 3) := by decide +kernel
theorem dX6_lots_43 : decode cX6_lots 43 = .ok (.bipush (-2), 2) := by decide +kernel
theorem dX6_lots_45 : decode cX6_lots 45 = .ok (.ireturn, 1) := by decide +kernel
theorem dX6_lots_46 : decode cX6_lots 46 = .ok (.iload_n 2, 1) := by decide +kernel
theorem dX6_lots_47 : decode cX6_lots 47 = .ok (.i2l, 1) := by decide +kernel
theorem dX6_lots_48 : decode cX6_lots 48 = .ok (.lstore_n 3, 1) := by decide +kernel
theorem dX6_lots_49 : decode cX6_lots 49 = .ok (.iconst 0, 1) := by decide +kernel
theorem dX6_lots_50 : decode cX6_lots 50 = .ok (.istore 5, 2) := by decide +kernel
theorem dX6_lots_52 : decode cX6_lots 52 = .ok (.iload 5, 2) := by decide +kernel
theorem dX6_lots_54 : decode cX6_lots 54 = .ok (.iload_n 1, 1) := by decide +kernel
theorem dX6_lots_55 : decode cX6_lots 55 = .ok (.if_icmp .ge 113, 3) := by decide +kernel
theorem dX6_lots_58 : decode cX6_lots 58 = .ok (.ldc2_w 255, 3) := by decide +kernel
theorem dX6_lots_61 : decode cX6_lots 61 = .ok (.lload_n 3, 1) := by decide +kernel
theorem dX6_lots_62 : decode cX6_lots 62 = .ok (.lmul, 1) := by decide +kernel
theorem dX6_lots_63 : decode cX6_lots 63 = .ok (.ldc2_w 257, 3) := by decide +kernel
theorem dX6_lots_66 : decode cX6_lots 66 = .ok (.lrem, 1) := by decide +kernel
theorem dX6_lots_67 : decode cX6_lots 67 = .ok (.lstore_n 3, 1) := by decide +kernel
theorem dX6_lots_68 : decode cX6_lots 68 = .ok (.aload_n 0, 1) := by decide +kernel
theorem dX6_lots_69 : decode cX6_lots 69 = .ok (.invokevirtual 185, 3) := by decide +kernel
theorem dX6_lots_72 : decode cX6_lots 72 = .ok (.lload_n 3, 1) := by decide +kernel
theorem dX6_lots_73 : decode cX6_lots 73 = .ok (.ldc2_w 259, 3) := by decide +kernel
theorem dX6_lots_76 : decode cX6_lots 76 = .ok (.lrem, 1) := by decide +kernel
theorem dX6_lots_77 : decode cX6_lots 77 = .ok (.lconst 0, 1) := by decide +kernel
theorem dX6_lots_78 : decode cX6_lots 78 = .ok (.lcmp, 1) := by decide +kernel
theorem dX6_lots_79 : decode cX6_lots 79 = .ok (.ifCond .ne 20, 3) := by decide +kernel
theorem dX6_lots_82 : decode cX6_lots 82 = .ok (.aload_n 0, 1) := by decide +kernel
theorem dX6_lots_83 : decode cX6_lots 83 = .ok (.getfield 57, 3) := by decide +kernel
theorem dX6_lots_86 : decode cX6_lots 86 = .ok (.iconst 2, 1) := by decide +kernel
theorem dX6_lots_87 : decode cX6_lots 87 = .ok (.iconst 1, 1) := by decide +kernel
theorem dX6_lots_88 : decode cX6_lots 88 = .ok (.aload_n 0, 1) := by decide +kernel
theorem dX6_lots_89 : decode cX6_lots 89 = .ok (.getfield 57, 3) := by decide +kernel
theorem dX6_lots_92 : decode cX6_lots 92 = .ok (.iconst 2, 1) := by decide +kernel
theorem dX6_lots_93 : decode cX6_lots 93 = .ok (.iaload, 1) := by decide +kernel
theorem dX6_lots_94 : decode cX6_lots 94 = .ok (.isub, 1) := by decide +kernel
theorem dX6_lots_95 : decode cX6_lots 95 = .ok (.iastore, 1) := by decide +kernel
theorem dX6_lots_96 : decode cX6_lots 96 = .ok (.goto 66, 3) := by decide +kernel
theorem dX6_lots_99 : decode cX6_lots 99 = .ok (.lload_n 3, 1) := by decide +kernel
theorem dX6_lots_100 : decode cX6_lots 100 = .ok (.ldc2_w 259, 3) := by decide +kernel
theorem dX6_lots_103 : decode cX6_lots 103 = .ok (.lrem, 1) := by decide +kernel
theorem dX6_lots_104 : decode cX6_lots 104 = .ok (.lconst 1, 1) := by decide +kernel
theorem dX6_lots_105 : decode cX6_lots 105 = .ok (.lcmp, 1) := by decide +kernel
theorem dX6_lots_106 : decode cX6_lots 106 = .ok (.ifCond .ne 25, 3) := by decide +kernel
theorem dX6_lots_109 : decode cX6_lots 109 = .ok (.aload_n 0, 1) := by decide +kernel
theorem dX6_lots_110 : decode cX6_lots 110 = .ok (.getfield 57, 3) := by decide +kernel
theorem dX6_lots_113 : decode cX6_lots 113 = .ok (.lload_n 3, 1) := by decide +kernel
theorem dX6_lots_114 : decode cX6_lots 114 = .ok (.ldc2_w 261, 3) := by decide +kernel
theorem dX6_lots_117 : decode cX6_lots 117 = .ok (.ldiv, 1) := by decide +kernel
theorem dX6_lots_118 : decode cX6_lots 118 = .ok (.aload_n 0, 1) := by decide +kernel
theorem dX6_lots_119 : decode cX6_lots 119 = .ok (.getfield 142, 3) := by decide +kernel
theorem dX6_lots_122 : decode cX6_lots 122 = .ok (.i2l, 1) := by decide +kernel
theorem dX6_lots_123 : decode cX6_lots 123 = .ok (.lrem, 1) := by decide +kernel
theorem dX6_lots_124 : decode cX6_lots 124 = .ok (.l2i, 1) := by decide +kernel
theorem dX6_lots_125 : decode cX6_lots 125 = .ok (.invokestatic 199, 3) := by decide +kernel
theorem dX6_lots_128 : decode cX6_lots 128 = .ok (.goto 34, 3) := by decide +kernel
theorem dX6_lots_131 : decode cX6_lots 131 = .ok (.aload_n 0, 1) := by decide +kernel
theorem dX6_lots_132 : decode cX6_lots 132 = .ok (.aload_n 0, 1) := by decide +kernel
theorem dX6_lots_133 : decode cX6_lots 133 = .ok (.getfield 57, 3) := by decide +kernel
theorem dX6_lots_136 : decode cX6_lots 136 = .ok (.invokevirtual 181, 3) := by decide +kernel
theorem dX6_lots_139 : decode cX6_lots 139 = .ok (.ifCond .eq 14, 3) := by decide +kernel
theorem dX6_lots_142 : decode cX6_lots 142 = .ok (.aload_n 0, 1) := by decide +kernel
theorem dX6_lots_143 : decode cX6_lots 143 = .ok (.getfield 57, 3) := by decide +kernel
theorem dX6_lots_146 : decode cX6_lots 146 = .ok (.invokestatic 195, 3) := by decide +kernel
theorem dX6_lots_149 : decode cX6_lots 149 = .ok (.pop, 1) := by decide +kernel
theorem dX6_lots_150 : decode cX6_lots 150 = .ok (.goto 12, 3) := by decide +kernel
theorem dX6_lots_153 : decode cX6_lots 153 = .ok (.aload_n 0, 1) := by decide +kernel
theorem dX6_lots_154 : decode cX6_lots 154 = .ok (.aload_n 0, 1) := by decide +kernel
theorem dX6_lots_155 : decode cX6_lots 155 = .ok (.getfield 57, 3) := by decide +kernel
theorem dX6_lots_158 : decode cX6_lots 158 = .ok (.invokevirtual 188, 3) := by decide +kernel
theorem dX6_lots_161 : decode cX6_lots 161 = .ok (.pop, 1) := by decide +kernel
theorem dX6_lots_162 : decode cX6_lots 162 = .ok (.iinc 5 1, 3) := by decide +kernel
theorem dX6_lots_165 : decode cX6_lots 165 = .ok (.goto (-113), 3) := by decide +kernel
theorem dX6_lots_168 : decode cX6_lots 168 = .ok (.aload_n 0, 1) := by decide +kernel
theorem dX6_lots_169 : decode cX6_lots 169 = .ok (.getfield 57, 3) := by decide +kernel
theorem dX6_lots_172 : decode cX6_lots 172 = .ok (.iconst 0, 1) := by decide +kernel
theorem dX6_lots_173 : decode cX6_lots 173 = .ok (.iaload, 1) := by decide +kernel
theorem dX6_lots_174 : decode cX6_lots 174 = .ok (.ireturn, 1) := by decide +kernel
theorem dX6_counted_0 : decode cX6_counted 0 = .ok (.iconst 0, 1) := by decide +kernel
theorem dX6_counted_1 : decode cX6_counted 1 = .ok (.istore_n 2, 1) := by decide +kernel
theorem dX6_counted_2 : decode cX6_counted 2 = .ok (.iload_n 1, 1) := by decide +kernel
theorem dX6_counted_3 : decode cX6_counted 3 = .ok (.tableswitch 262 0 11 #[61, 66, 73, 78, 85, 92, 99, 116, 121, 154, 186, 218], 61) := by decide +kernel
theorem dX6_counted_64 : decode cX6_counted 64 = .ok (.aload_n 0, 1) := by decide +kernel
theorem dX6_counted_65 : decode cX6_counted 65 = .ok (.getfield 142, 3) := by decide +kernel
theorem dX6_counted_68 : decode cX6_counted 68 = .ok (.ireturn, 1) := by decide +kernel
theorem dX6_counted_69 : decode cX6_counted 69 = .ok (.aload_n 0, 1) := by decide +kernel
theorem dX6_counted_70 : decode cX6_counted 70 = .ok (.getfield 57, 3) := by decide +kernel
theorem dX6_counted_73 : decode cX6_counted 73 = .ok (.iconst 0, 1) := by decide +kernel
theorem dX6_counted_74 : decode cX6_counted 74 = .ok (.iaload, 1) := by decide +kernel
theorem dX6_counted_75 : decode cX6_counted 75 = .ok (.ireturn, 1) := by decide +kernel
theorem dX6_counted_76 : decode cX6_counted 76 = .ok (.aload_n 0, 1) := by decide +kernel
theorem dX6_counted_77 : decode cX6_counted 77 = .ok (.getfield 148, 3) := by decide +kernel
theorem dX6_counted_80 : decode cX6_counted 80 = .ok (.ireturn, 1) := by decide +kernel
theorem dX6_counted_81 : decode cX6_counted 81 = .ok (.aload_n 0, 1) := by decide +kernel
theorem dX6_counted_82 : decode cX6_counted 82 = .ok (.getfield 57, 3) := by decide +kernel
theorem dX6_counted_85 : decode cX6_counted 85 = .ok (.iconst 1, 1) := by decide +kernel
theorem dX6_counted_86 : decode cX6_counted 86 = .ok (.iaload, 1) := by decide +kernel
theorem dX6_counted_87 : decode cX6_counted 87 = .ok (.ireturn, 1) := by decide +kernel
theorem dX6_counted_88 : decode cX6_counted 88 = .ok (.aload_n 0, 1) := by decide +kernel
theorem dX6_counted_89 : decode cX6_counted 89 = .ok (.getfield 57, 3) := by decide +kernel
theorem dX6_counted_92 : decode cX6_counted 92 = .ok (.iconst 3, 1) := by decide +kernel
theorem dX6_counted_93 : decode cX6_counted 93 = .ok (.iaload, 1) := by decide +kernel
theorem dX6_counted_94 : decode cX6_counted 94 = .ok (.ireturn, 1) := by decide +kernel
theorem dX6_counted_95 : decode cX6_counted 95 = .ok (.aload_n 0, 1) := by decide +kernel
theorem dX6_counted_96 : decode cX6_counted 96 = .ok (.getfield 57, 3) := by decide +kernel
theorem dX6_counted_99 : decode cX6_counted 99 = .ok (.iconst 2, 1) := by decide +kernel
theorem dX6_counted_100 : decode cX6_counted 100 = .ok (.iaload, 1) := by decide +kernel
theorem dX6_counted_101 : decode cX6_counted 101 = .ok (.ireturn, 1) := by decide +kernel
theorem dX6_counted_102 : decode cX6_counted 102 = .ok (.aload_n 0, 1) := by decide +kernel
theorem dX6_counted_103 : decode cX6_counted 103 = .ok (.aload_n 0, 1) := by decide +kernel
theorem dX6_counted_104 : decode cX6_counted 104 = .ok (.getfield 57, 3) := by decide +kernel
theorem dX6_counted_107 : decode cX6_counted 107 = .ok (.invokevirtual 181, 3) := by decide +kernel
theorem dX6_counted_110 : decode cX6_counted 110 = .ok (.ifCond .eq 7, 3) := by decide +kernel
theorem dX6_counted_113 : decode cX6_counted 113 = .ok (.iconst 1, 1) := by decide +kernel
theorem dX6_counted_114 : decode cX6_counted 114 = .ok (.goto 4, 3) := by decide +kernel
theorem dX6_counted_117 : decode cX6_counted 117 = .ok (.iconst 0, 1) := by decide +kernel
theorem dX6_counted_118 : decode cX6_counted 118 = .ok (.ireturn, 1) := by decide +kernel
theorem dX6_counted_119 : decode cX6_counted 119 = .ok (.aload_n 0, 1) := by decide +kernel
theorem dX6_counted_120 : decode cX6_counted 120 = .ok (.getfield 145, 3) := by decide +kernel
theorem dX6_counted_123 : decode cX6_counted 123 = .ok (.ireturn, 1) := by decide +kernel
theorem dX6_counted_124 : decode cX6_counted 124 = .ok (.iconst 0, 1) := by decide +kernel
theorem dX6_counted_125 : decode cX6_counted 125 = .ok (.istore_n 3, 1) := by decide +kernel
theorem dX6_counted_126 : decode cX6_counted 126 = .ok (.iload_n 3, 1) := by decide +kernel
theorem dX6_counted_127 : decode cX6_counted 127 = .ok (.bipush 6, 2) := by decide +kernel
theorem dX6_counted_129 : decode cX6_counted 129 = .ok (.if_icmp .ge 26, 3) := by decide +kernel
theorem dX6_counted_132 : decode cX6_counted 132 = .ok (.iload_n 2, 1) := by decide +kernel
theorem dX6_counted_133 : decode cX6_counted 133 = .ok (.aload_n 0, 1) := by decide +kernel
theorem dX6_counted_134 : decode cX6_counted 134 = .ok (.getfield 17, 3) := by decide +kernel
theorem dX6_counted_137 : decode cX6_counted 137 = .ok (.iload_n 3, 1) := by decide +kernel
theorem dX6_counted_138 : decode cX6_counted 138 = .ok (.iaload, 1) := by decide +kernel
theorem dX6_counted_139 : decode cX6_counted 139 = .ok (.ifCond .lt 7, 3) := by decide +kernel
theorem dX6_counted_142 : decode cX6_counted 142 = .ok (.iconst 1, 1) := by decide +kernel
theorem dX6_counted_143 : decode cX6_counted 143 = .ok (.goto 4, 3) := by decide +kernel
theorem dX6_counted_146 : decode cX6_counted 146 = .ok (.iconst 0, 1) := by decide +kernel
theorem dX6_counted_147 : decode cX6_counted 147 = .ok (.iadd, 1) := by decide +kernel
theorem dX6_counted_148 : decode cX6_counted 148 = .ok (.istore_n 2, 1) := by decide +kernel
theorem dX6_counted_149 : decode cX6_counted 149 = .ok (.iinc 3 1, 3) := by decide +kernel
theorem dX6_counted_152 : decode cX6_counted 152 = .ok (.goto (-26), 3) := by decide +kernel
theorem dX6_counted_155 : decode cX6_counted 155 = .ok (.iload_n 2, 1) := by decide +kernel
theorem dX6_counted_156 : decode cX6_counted 156 = .ok (.ireturn, 1) := by decide +kernel
theorem dX6_counted_157 : decode cX6_counted 157 = .ok (.iconst 0, 1) := by decide +kernel
theorem dX6_counted_158 : decode cX6_counted 158 = .ok (.istore_n 3, 1) := by decide +kernel
theorem dX6_counted_159 : decode cX6_counted 159 = .ok (.iload_n 3, 1) := by decide +kernel
theorem dX6_counted_160 : decode cX6_counted 160 = .ok (.iconst 4, 1) := by decide +kernel
theorem dX6_counted_161 : decode cX6_counted 161 = .ok (.if_icmp .ge 26, 3) := by decide +kernel
theorem dX6_counted_164 : decode cX6_counted 164 = .ok (.iload_n 2, 1) := by decide +kernel
theorem dX6_counted_165 : decode cX6_counted 165 = .ok (.aload_n 0, 1) := by decide +kernel
theorem dX6_counted_166 : decode cX6_counted 166 = .ok (.getfield 26, 3) := by decide +kernel
theorem dX6_counted_169 : decode cX6_counted 169 = .ok (.iload_n 3, 1) := by decide +kernel
theorem dX6_counted_170 : decode cX6_counted 170 = .ok (.iaload, 1) := by decide +kernel
theorem dX6_counted_171 : decode cX6_counted 171 = .ok (.ifCond .lt 7, 3) := by decide +kernel
theorem dX6_counted_174 : decode cX6_counted 174 = .ok (.iconst 1, 1) := by decide +kernel
theorem dX6_counted_175 : decode cX6_counted 175 = .ok (.goto 4, 3) := by decide +kernel
theorem dX6_counted_178 : decode cX6_counted 178 = .ok (.iconst 0, 1) := by decide +kernel
theorem dX6_counted_179 : decode cX6_counted 179 = .ok (.iadd, 1) := by decide +kernel
theorem dX6_counted_180 : decode cX6_counted 180 = .ok (.istore_n 2, 1) := by decide +kernel
theorem dX6_counted_181 : decode cX6_counted 181 = .ok (.iinc 3 1, 3) := by decide +kernel
theorem dX6_counted_184 : decode cX6_counted 184 = .ok (.goto (-25), 3) := by decide +kernel
theorem dX6_counted_187 : decode cX6_counted 187 = .ok (.iload_n 2, 1) := by decide +kernel
theorem dX6_counted_188 : decode cX6_counted 188 = .ok (.ireturn, 1) := by decide +kernel
theorem dX6_counted_189 : decode cX6_counted 189 = .ok (.iconst 0, 1) := by decide +kernel
theorem dX6_counted_190 : decode cX6_counted 190 = .ok (.istore_n 3, 1) := by decide +kernel
theorem dX6_counted_191 : decode cX6_counted 191 = .ok (.iload_n 3, 1) := by decide +kernel
theorem dX6_counted_192 : decode cX6_counted 192 = .ok (.iconst 3, 1) := by decide +kernel
theorem dX6_counted_193 : decode cX6_counted 193 = .ok (.if_icmp .ge 26, 3) := by decide +kernel
theorem dX6_counted_196 : decode cX6_counted 196 = .ok (.iload_n 2, 1) := by decide +kernel
theorem dX6_counted_197 : decode cX6_counted 197 = .ok (.aload_n 0, 1) := by decide +kernel
theorem dX6_counted_198 : decode cX6_counted 198 = .ok (.getfield 66, 3) := by decide +kernel
theorem dX6_counted_201 : decode cX6_counted 201 = .ok (.iload_n 3, 1) := by decide +kernel
theorem dX6_counted_202 : decode cX6_counted 202 = .ok (.iaload, 1) := by decide +kernel
theorem dX6_counted_203 : decode cX6_counted 203 = .ok (.ifCond .lt 7, 3) := by decide +kernel
theorem dX6_counted_206 : decode cX6_counted 206 = .ok (.iconst 1, 1) := by decide +kernel
theorem dX6_counted_207 : decode cX6_counted 207 = .ok (.goto 4, 3) := by decide +kernel
theorem dX6_counted_210 : decode cX6_counted 210 = .ok (.iconst 0, 1) := by decide +kernel
theorem dX6_counted_211 : decode cX6_counted 211 = .ok (.iadd, 1) := by decide +kernel
theorem dX6_counted_212 : decode cX6_counted 212 = .ok (.istore_n 2, 1) := by decide +kernel
theorem dX6_counted_213 : decode cX6_counted 213 = .ok (.iinc 3 1, 3) := by decide +kernel
theorem dX6_counted_216 : decode cX6_counted 216 = .ok (.goto (-25), 3) := by decide +kernel
theorem dX6_counted_219 : decode cX6_counted 219 = .ok (.iload_n 2, 1) := by decide +kernel
theorem dX6_counted_220 : decode cX6_counted 220 = .ok (.ireturn, 1) := by decide +kernel
theorem dX6_counted_221 : decode cX6_counted 221 = .ok (.iconst 0, 1) := by decide +kernel
theorem dX6_counted_222 : decode cX6_counted 222 = .ok (.istore_n 3, 1) := by decide +kernel
theorem dX6_counted_223 : decode cX6_counted 223 = .ok (.iload_n 3, 1) := by decide +kernel
theorem dX6_counted_224 : decode cX6_counted 224 = .ok (.aload_n 0, 1) := by decide +kernel
theorem dX6_counted_225 : decode cX6_counted 225 = .ok (.getfield 142, 3) := by decide +kernel
theorem dX6_counted_228 : decode cX6_counted 228 = .ok (.if_icmp .ge 35, 3) := by decide +kernel
theorem dX6_counted_231 : decode cX6_counted 231 = .ok (.iload_n 2, 1) := by decide +kernel
theorem dX6_counted_232 : decode cX6_counted 232 = .ok (.aload_n 0, 1) := by decide +kernel
theorem dX6_counted_233 : decode cX6_counted 233 = .ok (.getfield 57, 3) := by decide +kernel
theorem dX6_counted_236 : decode cX6_counted 236 = .ok (.iconst 3, 1) := by decide +kernel
theorem dX6_counted_237 : decode cX6_counted 237 = .ok (.iaload, 1) := by decide +kernel
theorem dX6_counted_238 : decode cX6_counted 238 = .ok (.iload_n 3, 1) := by decide +kernel
theorem dX6_counted_239 : decode cX6_counted 239 = .ok (.invokestatic 158, 3) := by decide +kernel
theorem dX6_counted_242 : decode cX6_counted 242 = .ok (.ifCond .eq 12, 3) := by decide +kernel
theorem dX6_counted_245 : decode cX6_counted 245 = .ok (.aload_n 0, 1) := by decide +kernel
theorem dX6_counted_246 : decode cX6_counted 246 = .ok (.getfield 51, 3) := by decide +kernel
theorem dX6_counted_249 : decode cX6_counted 249 = .ok (.iload_n 3, 1) := by decide +kernel
theorem dX6_counted_250 : decode cX6_counted 250 = .ok (.iaload, 1) := by decide +kernel
theorem dX6_counted_251 : decode cX6_counted 251 = .ok (.goto 4, 3) := by decide +kernel
theorem dX6_counted_254 : decode cX6_counted 254 = .ok (.iconst 0, 1) := by decide +kernel
theorem dX6_counted_255 : decode cX6_counted 255 = .ok (.iadd, 1) := by decide +kernel
theorem dX6_counted_256 : decode cX6_counted 256 = .ok (.istore_n 2, 1) := by decide +kernel
theorem dX6_counted_257 : decode cX6_counted 257 = .ok (.iinc 3 1, 3) := by decide +kernel
theorem dX6_counted_260 : decode cX6_counted 260 = .ok (.goto (-37), 3) := by decide +kernel
theorem dX6_counted_263 : decode cX6_counted 263 = .ok (.iload_n 2, 1) := by decide +kernel
theorem dX6_counted_264 : decode cX6_counted 264 = .ok (.ireturn, 1) := by decide +kernel
theorem dX6_counted_265 : decode cX6_counted 265 = .ok (.iconst 0, 1) := by decide +kernel
theorem dX6_counted_266 : decode cX6_counted 266 = .ok (.istore_n 3, 1) := by decide +kernel
theorem dX6_counted_267 : decode cX6_counted 267 = .ok (.iload_n 3, 1) := by decide +kernel
theorem dX6_counted_268 : decode cX6_counted 268 = .ok (.aload_n 0, 1) := by decide +kernel
theorem dX6_counted_269 : decode cX6_counted 269 = .ok (.getfield 142, 3) := by decide +kernel
theorem dX6_counted_272 : decode cX6_counted 272 = .ok (.if_icmp .ge 30, 3) := by decide +kernel
theorem dX6_counted_275 : decode cX6_counted 275 = .ok (.iload_n 2, 1) := by decide +kernel
theorem dX6_counted_276 : decode cX6_counted 276 = .ok (.aload_n 0, 1) := by decide +kernel
theorem dX6_counted_277 : decode cX6_counted 277 = .ok (.getfield 48, 3) := by decide +kernel
theorem dX6_counted_280 : decode cX6_counted 280 = .ok (.iload_n 3, 1) := by decide +kernel
theorem dX6_counted_281 : decode cX6_counted 281 = .ok (.iaload, 1) := by decide +kernel
theorem dX6_counted_282 : decode cX6_counted 282 = .ok (.iconst 4, 1) := by decide +kernel
theorem dX6_counted_283 : decode cX6_counted 283 = .ok (.invokestatic 175, 3) := by decide +kernel
theorem dX6_counted_286 : decode cX6_counted 286 = .ok (.ifCond .eq 7, 3) := by decide +kernel
theorem dX6_counted_289 : decode cX6_counted 289 = .ok (.iconst 1, 1) := by decide +kernel
theorem dX6_counted_290 : decode cX6_counted 290 = .ok (.goto 4, 3) := by decide +kernel
theorem dX6_counted_293 : decode cX6_counted 293 = .ok (.iconst 0, 1) := by decide +kernel
theorem dX6_counted_294 : decode cX6_counted 294 = .ok (.iadd, 1) := by decide +kernel
theorem dX6_counted_295 : decode cX6_counted 295 = .ok (.istore_n 2, 1) := by decide +kernel
theorem dX6_counted_296 : decode cX6_counted 296 = .ok (.iinc 3 1, 3) := by decide +kernel
theorem dX6_counted_299 : decode cX6_counted 299 = .ok (.goto (-32), 3) := by decide +kernel
theorem dX6_counted_302 : decode cX6_counted 302 = .ok (.iload_n 2, 1) := by decide +kernel
theorem dX6_counted_303 : decode cX6_counted 303 = .ok (.ireturn, 1) := by decide +kernel
theorem dX6_count_0 : decode cX6_count 0 = .ok (.iload_n 1, 1) := by decide +kernel
theorem dX6_count_1 : decode cX6_count 1 = .ok (.iconst 0, 1) := by decide +kernel
theorem dX6_count_2 : decode cX6_count 2 = .ok (.bipush 12, 2) := by decide +kernel
theorem dX6_count_4 : decode cX6_count 4 = .ok (.invokestatic 89, 3) := by decide +kernel
theorem dX6_count_7 : decode cX6_count 7 = .ok (.ifCond .eq 11, 3) := by decide +kernel
theorem dX6_count_10 : decode cX6_count 10 = .ok (.aload_n 0, 1) := by decide +kernel
theorem dX6_count_11 : decode cX6_count 11 = .ok (.iload_n 1, 1) := by decide +kernel
theorem dX6_count_12 : decode cX6_count 12 = .ok (.invokevirtual 263, 3) := by decide +kernel
theorem dX6_count_15 : decode cX6_count 15 = .ok (.goto 4, 3) := by decide +kernel
theorem dX6_count_18 : decode cX6_count 18 = .ok (.iconst (-1), 1) := by decide +kernel
theorem dX6_count_19 : decode cX6_count 19 = .ok (.ireturn, 1) := by decide +kernel
theorem dX6_adds_0 : decode cX6_adds 0 = .ok (.aload_n 0, 1) := by decide +kernel
theorem dX6_adds_1 : decode cX6_adds 1 = .ok (.ldc2_w 266, 3) := by decide +kernel
theorem dX6_adds_4 : decode cX6_adds 4 = .ok (.aload_n 0, 1) := by decide +kernel
theorem dX6_adds_5 : decode cX6_adds 5 = .ok (.getfield 268, 3) := by decide +kernel
theorem dX6_adds_8 : decode cX6_adds 8 = .ok (.lmul, 1) := by decide +kernel
theorem dX6_adds_9 : decode cX6_adds 9 = .ok (.lload_n 1, 1) := by decide +kernel
theorem dX6_adds_10 : decode cX6_adds 10 = .ok (.ladd, 1) := by decide +kernel
theorem dX6_adds_11 : decode cX6_adds 11 = .ok (.putfield 268, 3) := by decide +kernel
theorem dX6_adds_14 : decode cX6_adds 14 = .ok (.return_, 1) := by decide +kernel
theorem dX6_digest_0 : decode cX6_digest 0 = .ok (.aload_n 0, 1) := by decide +kernel
theorem dX6_digest_1 : decode cX6_digest 1 = .ok (.ldc2_w 271, 3) := by decide +kernel
theorem dX6_digest_4 : decode cX6_digest 4 = .ok (.putfield 268, 3) := by decide +kernel
theorem dX6_digest_7 : decode cX6_digest 7 = .ok (.iconst 0, 1) := by decide +kernel
theorem dX6_digest_8 : decode cX6_digest 8 = .ok (.istore_n 1, 1) := by decide +kernel
theorem dX6_digest_9 : decode cX6_digest 9 = .ok (.iload_n 1, 1) := by decide +kernel
theorem dX6_digest_10 : decode cX6_digest 10 = .ok (.bipush 12, 2) := by decide +kernel
theorem dX6_digest_12 : decode cX6_digest 12 = .ok (.if_icmp .gt 19, 3) := by decide +kernel
theorem dX6_digest_15 : decode cX6_digest 15 = .ok (.aload_n 0, 1) := by decide +kernel
theorem dX6_digest_16 : decode cX6_digest 16 = .ok (.aload_n 0, 1) := by decide +kernel
theorem dX6_digest_17 : decode cX6_digest 17 = .ok (.iload_n 1, 1) := by decide +kernel
theorem dX6_digest_18 : decode cX6_digest 18 = .ok (.invokevirtual 263, 3) := by decide +kernel
theorem dX6_digest_21 : decode cX6_digest 21 = .ok (.i2l, 1) := by decide +kernel
theorem dX6_digest_22 : decode cX6_digest 22 = .ok (.invokevirtual 273, 3) := by decide +kernel
theorem dX6_digest_25 : decode cX6_digest 25 = .ok (.iinc 1 1, 3) := by decide +kernel
theorem dX6_digest_28 : decode cX6_digest 28 = .ok (.goto (-19), 3) := by decide +kernel
theorem dX6_digest_31 : decode cX6_digest 31 = .ok (.iconst 0, 1) := by decide +kernel
theorem dX6_digest_32 : decode cX6_digest 32 = .ok (.istore_n 1, 1) := by decide +kernel
theorem dX6_digest_33 : decode cX6_digest 33 = .ok (.iload_n 1, 1) := by decide +kernel
theorem dX6_digest_34 : decode cX6_digest 34 = .ok (.bipush 8, 2) := by decide +kernel
theorem dX6_digest_36 : decode cX6_digest 36 = .ok (.if_icmp .ge 20, 3) := by decide +kernel
theorem dX6_digest_39 : decode cX6_digest 39 = .ok (.aload_n 0, 1) := by decide +kernel
theorem dX6_digest_40 : decode cX6_digest 40 = .ok (.aload_n 0, 1) := by decide +kernel
theorem dX6_digest_41 : decode cX6_digest 41 = .ok (.getfield 45, 3) := by decide +kernel
theorem dX6_digest_44 : decode cX6_digest 44 = .ok (.iload_n 1, 1) := by decide +kernel
theorem dX6_digest_45 : decode cX6_digest 45 = .ok (.iaload, 1) := by decide +kernel
theorem dX6_digest_46 : decode cX6_digest 46 = .ok (.i2l, 1) := by decide +kernel
theorem dX6_digest_47 : decode cX6_digest 47 = .ok (.invokevirtual 273, 3) := by decide +kernel
theorem dX6_digest_50 : decode cX6_digest 50 = .ok (.iinc 1 1, 3) := by decide +kernel
theorem dX6_digest_53 : decode cX6_digest 53 = .ok (.goto (-20), 3) := by decide +kernel
theorem dX6_digest_56 : decode cX6_digest 56 = .ok (.iconst 0, 1) := by decide +kernel
theorem dX6_digest_57 : decode cX6_digest 57 = .ok (.istore_n 1, 1) := by decide +kernel
theorem dX6_digest_58 : decode cX6_digest 58 = .ok (.iload_n 1, 1) := by decide +kernel
theorem dX6_digest_59 : decode cX6_digest 59 = .ok (.aload_n 0, 1) := by decide +kernel
theorem dX6_digest_60 : decode cX6_digest 60 = .ok (.getfield 142, 3) := by decide +kernel
theorem dX6_digest_63 : decode cX6_digest 63 = .ok (.if_icmp .ge 34, 3) := by decide +kernel
theorem dX6_digest_66 : decode cX6_digest 66 = .ok (.iconst 0, 1) := by decide +kernel
theorem dX6_digest_67 : decode cX6_digest 67 = .ok (.istore_n 2, 1) := by decide +kernel
theorem dX6_digest_68 : decode cX6_digest 68 = .ok (.iload_n 2, 1) := by decide +kernel
theorem dX6_digest_69 : decode cX6_digest 69 = .ok (.bipush 6, 2) := by decide +kernel
theorem dX6_digest_71 : decode cX6_digest 71 = .ok (.if_icmp .ge 20, 3) := by decide +kernel
theorem dX6_digest_74 : decode cX6_digest 74 = .ok (.aload_n 0, 1) := by decide +kernel
theorem dX6_digest_75 : decode cX6_digest 75 = .ok (.aload_n 0, 1) := by decide +kernel
theorem dX6_digest_76 : decode cX6_digest 76 = .ok (.iload_n 1, 1) := by decide +kernel
theorem dX6_digest_77 : decode cX6_digest 77 = .ok (.iload_n 2, 1) := by decide +kernel
theorem dX6_digest_78 : decode cX6_digest 78 = .ok (.invokevirtual 172, 3) := by decide +kernel
theorem dX6_digest_81 : decode cX6_digest 81 = .ok (.i2l, 1) := by decide +kernel
theorem dX6_digest_82 : decode cX6_digest 82 = .ok (.invokevirtual 273, 3) := by decide +kernel
theorem dX6_digest_85 : decode cX6_digest 85 = .ok (.iinc 2 1, 3) := by decide +kernel
theorem dX6_digest_88 : decode cX6_digest 88 = .ok (.goto (-20), 3) := by decide +kernel
theorem dX6_digest_91 : decode cX6_digest 91 = .ok (.iinc 1 1, 3) := by decide +kernel
theorem dX6_digest_94 : decode cX6_digest 94 = .ok (.goto (-36), 3) := by decide +kernel
theorem dX6_digest_97 : decode cX6_digest 97 = .ok (.iconst 0, 1) := by decide +kernel
theorem dX6_digest_98 : decode cX6_digest 98 = .ok (.istore_n 1, 1) := by decide +kernel
theorem dX6_digest_99 : decode cX6_digest 99 = .ok (.iload_n 1, 1) := by decide +kernel
theorem dX6_digest_100 : decode cX6_digest 100 = .ok (.iconst 3, 1) := by decide +kernel
theorem dX6_digest_101 : decode cX6_digest 101 = .ok (.if_icmp .ge 20, 3) := by decide +kernel
theorem dX6_digest_104 : decode cX6_digest 104 = .ok (.aload_n 0, 1) := by decide +kernel
theorem dX6_digest_105 : decode cX6_digest 105 = .ok (.aload_n 0, 1) := by decide +kernel
theorem dX6_digest_106 : decode cX6_digest 106 = .ok (.getfield 66, 3) := by decide +kernel
theorem dX6_digest_109 : decode cX6_digest 109 = .ok (.iload_n 1, 1) := by decide +kernel
theorem dX6_digest_110 : decode cX6_digest 110 = .ok (.iaload, 1) := by decide +kernel
theorem dX6_digest_111 : decode cX6_digest 111 = .ok (.i2l, 1) := by decide +kernel
theorem dX6_digest_112 : decode cX6_digest 112 = .ok (.invokevirtual 273, 3) := by decide +kernel
theorem dX6_digest_115 : decode cX6_digest 115 = .ok (.iinc 1 1, 3) := by decide +kernel
theorem dX6_digest_118 : decode cX6_digest 118 = .ok (.goto (-19), 3) := by decide +kernel
theorem dX6_digest_121 : decode cX6_digest 121 = .ok (.iconst 0, 1) := by decide +kernel
theorem dX6_digest_122 : decode cX6_digest 122 = .ok (.istore_n 1, 1) := by decide +kernel
theorem dX6_digest_123 : decode cX6_digest 123 = .ok (.iload_n 1, 1) := by decide +kernel
theorem dX6_digest_124 : decode cX6_digest 124 = .ok (.bipush 6, 2) := by decide +kernel
theorem dX6_digest_126 : decode cX6_digest 126 = .ok (.if_icmp .ge 49, 3) := by decide +kernel
theorem dX6_digest_129 : decode cX6_digest 129 = .ok (.aload_n 0, 1) := by decide +kernel
theorem dX6_digest_130 : decode cX6_digest 130 = .ok (.aload_n 0, 1) := by decide +kernel
theorem dX6_digest_131 : decode cX6_digest 131 = .ok (.getfield 17, 3) := by decide +kernel
theorem dX6_digest_134 : decode cX6_digest 134 = .ok (.iload_n 1, 1) := by decide +kernel
theorem dX6_digest_135 : decode cX6_digest 135 = .ok (.iaload, 1) := by decide +kernel
theorem dX6_digest_136 : decode cX6_digest 136 = .ok (.i2l, 1) := by decide +kernel
theorem dX6_digest_137 : decode cX6_digest 137 = .ok (.invokevirtual 273, 3) := by decide +kernel
theorem dX6_digest_140 : decode cX6_digest 140 = .ok (.iconst 0, 1) := by decide +kernel
theorem dX6_digest_141 : decode cX6_digest 141 = .ok (.istore_n 2, 1) := by decide +kernel
theorem dX6_digest_142 : decode cX6_digest 142 = .ok (.iload_n 2, 1) := by decide +kernel
theorem dX6_digest_143 : decode cX6_digest 143 = .ok (.aload_n 0, 1) := by decide +kernel
theorem dX6_digest_144 : decode cX6_digest 144 = .ok (.getfield 17, 3) := by decide +kernel
theorem dX6_digest_147 : decode cX6_digest 147 = .ok (.iload_n 1, 1) := by decide +kernel
theorem dX6_digest_148 : decode cX6_digest 148 = .ok (.iaload, 1) := by decide +kernel
theorem dX6_digest_149 : decode cX6_digest 149 = .ok (.if_icmp .ge 20, 3) := by decide +kernel
theorem dX6_digest_152 : decode cX6_digest 152 = .ok (.aload_n 0, 1) := by decide +kernel
theorem dX6_digest_153 : decode cX6_digest 153 = .ok (.aload_n 0, 1) := by decide +kernel
theorem dX6_digest_154 : decode cX6_digest 154 = .ok (.iload_n 1, 1) := by decide +kernel
theorem dX6_digest_155 : decode cX6_digest 155 = .ok (.iload_n 2, 1) := by decide +kernel
theorem dX6_digest_156 : decode cX6_digest 156 = .ok (.invokevirtual 101, 3) := by decide +kernel
theorem dX6_digest_159 : decode cX6_digest 159 = .ok (.i2l, 1) := by decide +kernel
theorem dX6_digest_160 : decode cX6_digest 160 = .ok (.invokevirtual 273, 3) := by decide +kernel
theorem dX6_digest_163 : decode cX6_digest 163 = .ok (.iinc 2 1, 3) := by decide +kernel
theorem dX6_digest_166 : decode cX6_digest 166 = .ok (.goto (-24), 3) := by decide +kernel
theorem dX6_digest_169 : decode cX6_digest 169 = .ok (.iinc 1 1, 3) := by decide +kernel
theorem dX6_digest_172 : decode cX6_digest 172 = .ok (.goto (-49), 3) := by decide +kernel
theorem dX6_digest_175 : decode cX6_digest 175 = .ok (.iconst 0, 1) := by decide +kernel
theorem dX6_digest_176 : decode cX6_digest 176 = .ok (.istore_n 1, 1) := by decide +kernel
theorem dX6_digest_177 : decode cX6_digest 177 = .ok (.iload_n 1, 1) := by decide +kernel
theorem dX6_digest_178 : decode cX6_digest 178 = .ok (.iconst 4, 1) := by decide +kernel
theorem dX6_digest_179 : decode cX6_digest 179 = .ok (.if_icmp .ge 54, 3) := by decide +kernel
theorem dX6_digest_182 : decode cX6_digest 182 = .ok (.aload_n 0, 1) := by decide +kernel
theorem dX6_digest_183 : decode cX6_digest 183 = .ok (.aload_n 0, 1) := by decide +kernel
theorem dX6_digest_184 : decode cX6_digest 184 = .ok (.getfield 26, 3) := by decide +kernel
theorem dX6_digest_187 : decode cX6_digest 187 = .ok (.iload_n 1, 1) := by decide +kernel
theorem dX6_digest_188 : decode cX6_digest 188 = .ok (.iaload, 1) := by decide +kernel
theorem dX6_digest_189 : decode cX6_digest 189 = .ok (.i2l, 1) := by decide +kernel
theorem dX6_digest_190 : decode cX6_digest 190 = .ok (.invokevirtual 273, 3) := by decide +kernel
theorem dX6_digest_193 : decode cX6_digest 193 = .ok (.iconst 0, 1) := by decide +kernel
theorem dX6_digest_194 : decode cX6_digest 194 = .ok (.istore_n 2, 1) := by decide +kernel
theorem dX6_digest_195 : decode cX6_digest 195 = .ok (.iload_n 2, 1) := by decide +kernel
theorem dX6_digest_196 : decode cX6_digest 196 = .ok (.aload_n 0, 1) := by decide +kernel
theorem dX6_digest_197 : decode cX6_digest 197 = .ok (.getfield 26, 3) := by decide +kernel
theorem dX6_digest_200 : decode cX6_digest 200 = .ok (.iload_n 1, 1) := by decide +kernel
theorem dX6_digest_201 : decode cX6_digest 201 = .ok (.iaload, 1) := by decide +kernel
theorem dX6_digest_202 : decode cX6_digest 202 = .ok (.if_icmp .ge 25, 3) := by decide +kernel
theorem dX6_digest_205 : decode cX6_digest 205 = .ok (.aload_n 0, 1) := by decide +kernel
theorem dX6_digest_206 : decode cX6_digest 206 = .ok (.aload_n 0, 1) := by decide +kernel
theorem dX6_digest_207 : decode cX6_digest 207 = .ok (.getfield 29, 3) := by decide +kernel
theorem dX6_digest_210 : decode cX6_digest 210 = .ok (.bipush 60, 2) := by decide +kernel
theorem dX6_digest_212 : decode cX6_digest 212 = .ok (.iload_n 1, 1) := by decide +kernel
theorem dX6_digest_213 : decode cX6_digest 213 = .ok (.imul, 1) := by decide +kernel
theorem dX6_digest_214 : decode cX6_digest 214 = .ok (.iload_n 2, 1) := by decide +kernel
theorem dX6_digest_215 : decode cX6_digest 215 = .ok (.iadd, 1) := by decide +kernel
theorem dX6_digest_216 : decode cX6_digest 216 = .ok (.baload, 1) := by decide +kernel
theorem dX6_digest_217 : decode cX6_digest 217 = .ok (.i2l, 1) := by decide +kernel
theorem dX6_digest_218 : decode cX6_digest 218 = .ok (.invokevirtual 273, 3) := by decide +kernel
theorem dX6_digest_221 : decode cX6_digest 221 = .ok (.iinc 2 1, 3) := by decide +kernel
theorem dX6_digest_224 : decode cX6_digest 224 = .ok (.goto (-29), 3) := by decide +kernel
theorem dX6_digest_227 : decode cX6_digest 227 = .ok (.iinc 1 1, 3) := by decide +kernel
theorem dX6_digest_230 : decode cX6_digest 230 = .ok (.goto (-53), 3) := by decide +kernel
theorem dX6_digest_233 : decode cX6_digest 233 = .ok (.aload_n 0, 1) := by decide +kernel
theorem dX6_digest_234 : decode cX6_digest 234 = .ok (.getfield 268, 3) := by decide +kernel
theorem dX6_digest_237 : decode cX6_digest 237 = .ok (.lreturn, 1) := by decide +kernel
end
section
theorem dL_law_0 : decode cL_law 0 = .ok (.new 7, 3) := by decide +kernel
theorem dL_law_3 : decode cL_law 3 = .ok (.dup, 1) := by decide +kernel
theorem dL_law_4 : decode cL_law 4 = .ok (.invokespecial 9, 3) := by decide +kernel
theorem dL_law_7 : decode cL_law 7 = .ok (.astore_n 1, 1) := by decide +kernel
theorem dL_law_8 : decode cL_law 8 = .ok (.new 10, 3) := by decide +kernel
theorem dL_law_11 : decode cL_law 11 = .ok (.dup, 1) := by decide +kernel
theorem dL_law_12 : decode cL_law 12 = .ok (.invokespecial 12, 3) := by decide +kernel
theorem dL_law_15 : decode cL_law 15 = .ok (.astore_n 2, 1) := by decide +kernel
theorem dL_law_16 : decode cL_law 16 = .ok (.iconst 0, 1) := by decide +kernel
theorem dL_law_17 : decode cL_law 17 = .ok (.istore_n 3, 1) := by decide +kernel
theorem dL_law_18 : decode cL_law 18 = .ok (.iload_n 3, 1) := by decide +kernel
theorem dL_law_19 : decode cL_law 19 = .ok (.aload_n 0, 1) := by decide +kernel
theorem dL_law_20 : decode cL_law 20 = .ok (.arraylength, 1) := by decide +kernel
theorem dL_law_21 : decode cL_law 21 = .ok (.bipush 6, 2) := by decide +kernel
theorem dL_law_23 : decode cL_law 23 = .ok (.isub, 1) := by decide +kernel
theorem dL_law_24 : decode cL_law 24 = .ok (.if_icmp .gt 1247, 3) := by decide +kernel
theorem dL_law_27 : decode cL_law 27 = .ok (.aload_n 0, 1) := by decide +kernel
theorem dL_law_28 : decode cL_law 28 = .ok (.iload_n 3, 1) := by decide +kernel
theorem dL_law_29 : decode cL_law 29 = .ok (.iaload, 1) := by decide +kernel
theorem dL_law_30 : decode cL_law 30 = .ok (.bipush 63, 2) := by decide +kernel
theorem dL_law_32 : decode cL_law 32 = .ok (.iand, 1) := by decide +kernel
theorem dL_law_33 : decode cL_law 33 = .ok (.tableswitch 1232 0 41 #[183, 216, 259, 292, 315, 378, 401, 434, 477, 500, 523, 556, 589, 632, 645, 658, 671, 694, 717, 740, 763, 786, 809, 822, 855, 868, 881, 894, 917, 950, 983, 1006, 1029, 1062, 1085, 1118, 1131, 1145, 1159, 1182, 1195, 1218], 183) := by decide +kernel
theorem dL_law_216 : decode cL_law 216 = .ok (.aload_n 1, 1) := by decide +kernel
theorem dL_law_217 : decode cL_law 217 = .ok (.aload_n 0, 1) := by decide +kernel
theorem dL_law_218 : decode cL_law 218 = .ok (.iload_n 3, 1) := by decide +kernel
theorem dL_law_219 : decode cL_law 219 = .ok (.iconst 1, 1) := by decide +kernel
theorem dL_law_220 : decode cL_law 220 = .ok (.iadd, 1) := by decide +kernel
theorem dL_law_221 : decode cL_law 221 = .ok (.iaload, 1) := by decide +kernel
theorem dL_law_222 : decode cL_law 222 = .ok (.aload_n 0, 1) := by decide +kernel
theorem dL_law_223 : decode cL_law 223 = .ok (.iload_n 3, 1) := by decide +kernel
theorem dL_law_224 : decode cL_law 224 = .ok (.iconst 2, 1) := by decide +kernel
theorem dL_law_225 : decode cL_law 225 = .ok (.iadd, 1) := by decide +kernel
theorem dL_law_226 : decode cL_law 226 = .ok (.iaload, 1) := by decide +kernel
theorem dL_law_227 : decode cL_law 227 = .ok (.invokevirtual 13, 3) := by decide +kernel
theorem dL_law_230 : decode cL_law 230 = .ok (.aload_n 2, 1) := by decide +kernel
theorem dL_law_231 : decode cL_law 231 = .ok (.aload_n 0, 1) := by decide +kernel
theorem dL_law_232 : decode cL_law 232 = .ok (.iload_n 3, 1) := by decide +kernel
theorem dL_law_233 : decode cL_law 233 = .ok (.iconst 1, 1) := by decide +kernel
theorem dL_law_234 : decode cL_law 234 = .ok (.iadd, 1) := by decide +kernel
theorem dL_law_235 : decode cL_law 235 = .ok (.iaload, 1) := by decide +kernel
theorem dL_law_236 : decode cL_law 236 = .ok (.aload_n 0, 1) := by decide +kernel
theorem dL_law_237 : decode cL_law 237 = .ok (.iload_n 3, 1) := by decide +kernel
theorem dL_law_238 : decode cL_law 238 = .ok (.iconst 2, 1) := by decide +kernel
theorem dL_law_239 : decode cL_law 239 = .ok (.iadd, 1) := by decide +kernel
theorem dL_law_240 : decode cL_law 240 = .ok (.iaload, 1) := by decide +kernel
theorem dL_law_241 : decode cL_law 241 = .ok (.invokevirtual 17, 3) := by decide +kernel
theorem dL_law_244 : decode cL_law 244 = .ok (.if_icmp .eq 1021, 3) := by decide +kernel
theorem dL_law_247 : decode cL_law 247 = .ok (.iconst 0, 1) := by decide +kernel
theorem dL_law_248 : decode cL_law 248 = .ok (.ireturn, 1) := by decide +kernel
theorem dL_law_249 : decode cL_law 249 = .ok (.aload_n 1, 1) := by decide +kernel
theorem dL_law_250 : decode cL_law 250 = .ok (.aload_n 0, 1) := by decide +kernel
theorem dL_law_251 : decode cL_law 251 = .ok (.iload_n 3, 1) := by decide +kernel
theorem dL_law_252 : decode cL_law 252 = .ok (.iconst 1, 1) := by decide +kernel
theorem dL_law_253 : decode cL_law 253 = .ok (.iadd, 1) := by decide +kernel
theorem dL_law_254 : decode cL_law 254 = .ok (.iaload, 1) := by decide +kernel
theorem dL_law_255 : decode cL_law 255 = .ok (.aload_n 0, 1) := by decide +kernel
theorem dL_law_256 : decode cL_law 256 = .ok (.iload_n 3, 1) := by decide +kernel
theorem dL_law_257 : decode cL_law 257 = .ok (.iconst 2, 1) := by decide +kernel
theorem dL_law_258 : decode cL_law 258 = .ok (.iadd, 1) := by decide +kernel
theorem dL_law_259 : decode cL_law 259 = .ok (.iaload, 1) := by decide +kernel
theorem dL_law_260 : decode cL_law 260 = .ok (.aload_n 0, 1) := by decide +kernel
theorem dL_law_261 : decode cL_law 261 = .ok (.iload_n 3, 1) := by decide +kernel
theorem dL_law_262 : decode cL_law 262 = .ok (.iconst 3, 1) := by decide +kernel
theorem dL_law_263 : decode cL_law 263 = .ok (.iadd, 1) := by decide +kernel
theorem dL_law_264 : decode cL_law 264 = .ok (.iaload, 1) := by decide +kernel
theorem dL_law_265 : decode cL_law 265 = .ok (.invokevirtual 18, 3) := by decide +kernel
theorem dL_law_268 : decode cL_law 268 = .ok (.aload_n 2, 1) := by decide +kernel
theorem dL_law_269 : decode cL_law 269 = .ok (.aload_n 0, 1) := by decide +kernel
theorem dL_law_270 : decode cL_law 270 = .ok (.iload_n 3, 1) := by decide +kernel
theorem dL_law_271 : decode cL_law 271 = .ok (.iconst 1, 1) := by decide +kernel
theorem dL_law_272 : decode cL_law 272 = .ok (.iadd, 1) := by decide +kernel
theorem dL_law_273 : decode cL_law 273 = .ok (.iaload, 1) := by decide +kernel
theorem dL_law_274 : decode cL_law 274 = .ok (.aload_n 0, 1) := by decide +kernel
theorem dL_law_275 : decode cL_law 275 = .ok (.iload_n 3, 1) := by decide +kernel
theorem dL_law_276 : decode cL_law 276 = .ok (.iconst 2, 1) := by decide +kernel
theorem dL_law_277 : decode cL_law 277 = .ok (.iadd, 1) := by decide +kernel
theorem dL_law_278 : decode cL_law 278 = .ok (.iaload, 1) := by decide +kernel
theorem dL_law_279 : decode cL_law 279 = .ok (.aload_n 0, 1) := by decide +kernel
theorem dL_law_280 : decode cL_law 280 = .ok (.iload_n 3, 1) := by decide +kernel
theorem dL_law_281 : decode cL_law 281 = .ok (.iconst 3, 1) := by decide +kernel
theorem dL_law_282 : decode cL_law 282 = .ok (.iadd, 1) := by decide +kernel
theorem dL_law_283 : decode cL_law 283 = .ok (.iaload, 1) := by decide +kernel
theorem dL_law_284 : decode cL_law 284 = .ok (.invokevirtual 22, 3) := by decide +kernel
theorem dL_law_287 : decode cL_law 287 = .ok (.if_icmp .eq 978, 3) := by decide +kernel
theorem dL_law_290 : decode cL_law 290 = .ok (.iconst 0, 1) := by decide +kernel
theorem dL_law_291 : decode cL_law 291 = .ok (.ireturn, 1) := by decide +kernel
theorem dL_law_292 : decode cL_law 292 = .ok (.aload_n 1, 1) := by decide +kernel
theorem dL_law_293 : decode cL_law 293 = .ok (.aload_n 0, 1) := by decide +kernel
theorem dL_law_294 : decode cL_law 294 = .ok (.iload_n 3, 1) := by decide +kernel
theorem dL_law_295 : decode cL_law 295 = .ok (.iconst 1, 1) := by decide +kernel
theorem dL_law_296 : decode cL_law 296 = .ok (.iadd, 1) := by decide +kernel
theorem dL_law_297 : decode cL_law 297 = .ok (.iaload, 1) := by decide +kernel
theorem dL_law_298 : decode cL_law 298 = .ok (.aload_n 0, 1) := by decide +kernel
theorem dL_law_299 : decode cL_law 299 = .ok (.iload_n 3, 1) := by decide +kernel
theorem dL_law_300 : decode cL_law 300 = .ok (.iconst 2, 1) := by decide +kernel
theorem dL_law_301 : decode cL_law 301 = .ok (.iadd, 1) := by decide +kernel
theorem dL_law_302 : decode cL_law 302 = .ok (.iaload, 1) := by decide +kernel
theorem dL_law_303 : decode cL_law 303 = .ok (.invokevirtual 23, 3) := by decide +kernel
theorem dL_law_306 : decode cL_law 306 = .ok (.aload_n 2, 1) := by decide +kernel
theorem dL_law_307 : decode cL_law 307 = .ok (.aload_n 0, 1) := by decide +kernel
theorem dL_law_308 : decode cL_law 308 = .ok (.iload_n 3, 1) := by decide +kernel
theorem dL_law_309 : decode cL_law 309 = .ok (.iconst 1, 1) := by decide +kernel
theorem dL_law_310 : decode cL_law 310 = .ok (.iadd, 1) := by decide +kernel
theorem dL_law_311 : decode cL_law 311 = .ok (.iaload, 1) := by decide +kernel
theorem dL_law_312 : decode cL_law 312 = .ok (.aload_n 0, 1) := by decide +kernel
theorem dL_law_313 : decode cL_law 313 = .ok (.iload_n 3, 1) := by decide +kernel
theorem dL_law_314 : decode cL_law 314 = .ok (.iconst 2, 1) := by decide +kernel
theorem dL_law_315 : decode cL_law 315 = .ok (.iadd, 1) := by decide +kernel
theorem dL_law_316 : decode cL_law 316 = .ok (.iaload, 1) := by decide +kernel
theorem dL_law_317 : decode cL_law 317 = .ok (.invokevirtual 26, 3) := by decide +kernel
theorem dL_law_320 : decode cL_law 320 = .ok (.if_icmp .eq 945, 3) := by decide +kernel
theorem dL_law_323 : decode cL_law 323 = .ok (.iconst 0, 1) := by decide +kernel
theorem dL_law_324 : decode cL_law 324 = .ok (.ireturn, 1) := by decide +kernel
theorem dL_law_325 : decode cL_law 325 = .ok (.aload_n 1, 1) := by decide +kernel
theorem dL_law_326 : decode cL_law 326 = .ok (.aload_n 0, 1) := by decide +kernel
theorem dL_law_327 : decode cL_law 327 = .ok (.iload_n 3, 1) := by decide +kernel
theorem dL_law_328 : decode cL_law 328 = .ok (.iconst 1, 1) := by decide +kernel
theorem dL_law_329 : decode cL_law 329 = .ok (.iadd, 1) := by decide +kernel
theorem dL_law_330 : decode cL_law 330 = .ok (.iaload, 1) := by decide +kernel
theorem dL_law_331 : decode cL_law 331 = .ok (.invokevirtual 27, 3) := by decide +kernel
theorem dL_law_334 : decode cL_law 334 = .ok (.aload_n 2, 1) := by decide +kernel
theorem dL_law_335 : decode cL_law 335 = .ok (.aload_n 0, 1) := by decide +kernel
theorem dL_law_336 : decode cL_law 336 = .ok (.iload_n 3, 1) := by decide +kernel
theorem dL_law_337 : decode cL_law 337 = .ok (.iconst 1, 1) := by decide +kernel
theorem dL_law_338 : decode cL_law 338 = .ok (.iadd, 1) := by decide +kernel
theorem dL_law_339 : decode cL_law 339 = .ok (.iaload, 1) := by decide +kernel
theorem dL_law_340 : decode cL_law 340 = .ok (.invokevirtual 31, 3) := by decide +kernel
theorem dL_law_343 : decode cL_law 343 = .ok (.if_icmp .eq 922, 3) := by decide +kernel
theorem dL_law_346 : decode cL_law 346 = .ok (.iconst 0, 1) := by decide +kernel
theorem dL_law_347 : decode cL_law 347 = .ok (.ireturn, 1) := by decide +kernel
theorem dL_law_348 : decode cL_law 348 = .ok (.aload_n 1, 1) := by decide +kernel
theorem dL_law_349 : decode cL_law 349 = .ok (.aload_n 0, 1) := by decide +kernel
theorem dL_law_350 : decode cL_law 350 = .ok (.iload_n 3, 1) := by decide +kernel
theorem dL_law_351 : decode cL_law 351 = .ok (.iconst 1, 1) := by decide +kernel
theorem dL_law_352 : decode cL_law 352 = .ok (.iadd, 1) := by decide +kernel
theorem dL_law_353 : decode cL_law 353 = .ok (.iaload, 1) := by decide +kernel
theorem dL_law_354 : decode cL_law 354 = .ok (.aload_n 0, 1) := by decide +kernel
theorem dL_law_355 : decode cL_law 355 = .ok (.iload_n 3, 1) := by decide +kernel
theorem dL_law_356 : decode cL_law 356 = .ok (.iconst 2, 1) := by decide +kernel
theorem dL_law_357 : decode cL_law 357 = .ok (.iadd, 1) := by decide +kernel
theorem dL_law_358 : decode cL_law 358 = .ok (.iaload, 1) := by decide +kernel
theorem dL_law_359 : decode cL_law 359 = .ok (.aload_n 0, 1) := by decide +kernel
theorem dL_law_360 : decode cL_law 360 = .ok (.iload_n 3, 1) := by decide +kernel
theorem dL_law_361 : decode cL_law 361 = .ok (.iconst 3, 1) := by decide +kernel
theorem dL_law_362 : decode cL_law 362 = .ok (.iadd, 1) := by decide +kernel
theorem dL_law_363 : decode cL_law 363 = .ok (.iaload, 1) := by decide +kernel
theorem dL_law_364 : decode cL_law 364 = .ok (.aload_n 0, 1) := by decide +kernel
theorem dL_law_365 : decode cL_law 365 = .ok (.iload_n 3, 1) := by decide +kernel
theorem dL_law_366 : decode cL_law 366 = .ok (.iconst 4, 1) := by decide +kernel
theorem dL_law_367 : decode cL_law 367 = .ok (.iadd, 1) := by decide +kernel
theorem dL_law_368 : decode cL_law 368 = .ok (.iaload, 1) := by decide +kernel
theorem dL_law_369 : decode cL_law 369 = .ok (.aload_n 0, 1) := by decide +kernel
theorem dL_law_370 : decode cL_law 370 = .ok (.iload_n 3, 1) := by decide +kernel
theorem dL_law_371 : decode cL_law 371 = .ok (.iconst 5, 1) := by decide +kernel
theorem dL_law_372 : decode cL_law 372 = .ok (.iadd, 1) := by decide +kernel
theorem dL_law_373 : decode cL_law 373 = .ok (.iaload, 1) := by decide +kernel
theorem dL_law_374 : decode cL_law 374 = .ok (.invokevirtual 32, 3) := by decide +kernel
theorem dL_law_377 : decode cL_law 377 = .ok (.aload_n 2, 1) := by decide +kernel
theorem dL_law_378 : decode cL_law 378 = .ok (.aload_n 0, 1) := by decide +kernel
theorem dL_law_379 : decode cL_law 379 = .ok (.iload_n 3, 1) := by decide +kernel
theorem dL_law_380 : decode cL_law 380 = .ok (.iconst 1, 1) := by decide +kernel
theorem dL_law_381 : decode cL_law 381 = .ok (.iadd, 1) := by decide +kernel
theorem dL_law_382 : decode cL_law 382 = .ok (.iaload, 1) := by decide +kernel
theorem dL_law_383 : decode cL_law 383 = .ok (.aload_n 0, 1) := by decide +kernel
theorem dL_law_384 : decode cL_law 384 = .ok (.iload_n 3, 1) := by decide +kernel
theorem dL_law_385 : decode cL_law 385 = .ok (.iconst 2, 1) := by decide +kernel
theorem dL_law_386 : decode cL_law 386 = .ok (.iadd, 1) := by decide +kernel
theorem dL_law_387 : decode cL_law 387 = .ok (.iaload, 1) := by decide +kernel
theorem dL_law_388 : decode cL_law 388 = .ok (.aload_n 0, 1) := by decide +kernel
theorem dL_law_389 : decode cL_law 389 = .ok (.iload_n 3, 1) := by decide +kernel
theorem dL_law_390 : decode cL_law 390 = .ok (.iconst 3, 1) := by decide +kernel
theorem dL_law_391 : decode cL_law 391 = .ok (.iadd, 1) := by decide +kernel
theorem dL_law_392 : decode cL_law 392 = .ok (.iaload, 1) := by decide +kernel
theorem dL_law_393 : decode cL_law 393 = .ok (.aload_n 0, 1) := by decide +kernel
theorem dL_law_394 : decode cL_law 394 = .ok (.iload_n 3, 1) := by decide +kernel
theorem dL_law_395 : decode cL_law 395 = .ok (.iconst 4, 1) := by decide +kernel
theorem dL_law_396 : decode cL_law 396 = .ok (.iadd, 1) := by decide +kernel
theorem dL_law_397 : decode cL_law 397 = .ok (.iaload, 1) := by decide +kernel
theorem dL_law_398 : decode cL_law 398 = .ok (.aload_n 0, 1) := by decide +kernel
theorem dL_law_399 : decode cL_law 399 = .ok (.iload_n 3, 1) := by decide +kernel
theorem dL_law_400 : decode cL_law 400 = .ok (.iconst 5, 1) := by decide +kernel
theorem dL_law_401 : decode cL_law 401 = .ok (.iadd, 1) := by decide +kernel
theorem dL_law_402 : decode cL_law 402 = .ok (.iaload, 1) := by decide +kernel
theorem dL_law_403 : decode cL_law 403 = .ok (.invokevirtual 36, 3) := by decide +kernel
theorem dL_law_406 : decode cL_law 406 = .ok (.if_icmp .eq 859, 3) := by decide +kernel
theorem dL_law_409 : decode cL_law 409 = .ok (.iconst 0, 1) := by decide +kernel
theorem dL_law_410 : decode cL_law 410 = .ok (.ireturn, 1) := by decide +kernel
theorem dL_law_411 : decode cL_law 411 = .ok (.aload_n 1, 1) := by decide +kernel
theorem dL_law_412 : decode cL_law 412 = .ok (.aload_n 0, 1) := by decide +kernel
theorem dL_law_413 : decode cL_law 413 = .ok (.iload_n 3, 1) := by decide +kernel
theorem dL_law_414 : decode cL_law 414 = .ok (.iconst 1, 1) := by decide +kernel
theorem dL_law_415 : decode cL_law 415 = .ok (.iadd, 1) := by decide +kernel
theorem dL_law_416 : decode cL_law 416 = .ok (.iaload, 1) := by decide +kernel
theorem dL_law_417 : decode cL_law 417 = .ok (.invokevirtual 37, 3) := by decide +kernel
theorem dL_law_420 : decode cL_law 420 = .ok (.aload_n 2, 1) := by decide +kernel
theorem dL_law_421 : decode cL_law 421 = .ok (.aload_n 0, 1) := by decide +kernel
theorem dL_law_422 : decode cL_law 422 = .ok (.iload_n 3, 1) := by decide +kernel
theorem dL_law_423 : decode cL_law 423 = .ok (.iconst 1, 1) := by decide +kernel
theorem dL_law_424 : decode cL_law 424 = .ok (.iadd, 1) := by decide +kernel
theorem dL_law_425 : decode cL_law 425 = .ok (.iaload, 1) := by decide +kernel
theorem dL_law_426 : decode cL_law 426 = .ok (.invokevirtual 40, 3) := by decide +kernel
theorem dL_law_429 : decode cL_law 429 = .ok (.if_icmp .eq 836, 3) := by decide +kernel
theorem dL_law_432 : decode cL_law 432 = .ok (.iconst 0, 1) := by decide +kernel
theorem dL_law_433 : decode cL_law 433 = .ok (.ireturn, 1) := by decide +kernel
theorem dL_law_434 : decode cL_law 434 = .ok (.aload_n 1, 1) := by decide +kernel
theorem dL_law_435 : decode cL_law 435 = .ok (.aload_n 0, 1) := by decide +kernel
theorem dL_law_436 : decode cL_law 436 = .ok (.iload_n 3, 1) := by decide +kernel
theorem dL_law_437 : decode cL_law 437 = .ok (.iconst 1, 1) := by decide +kernel
theorem dL_law_438 : decode cL_law 438 = .ok (.iadd, 1) := by decide +kernel
theorem dL_law_439 : decode cL_law 439 = .ok (.iaload, 1) := by decide +kernel
theorem dL_law_440 : decode cL_law 440 = .ok (.aload_n 0, 1) := by decide +kernel
theorem dL_law_441 : decode cL_law 441 = .ok (.iload_n 3, 1) := by decide +kernel
theorem dL_law_442 : decode cL_law 442 = .ok (.iconst 2, 1) := by decide +kernel
theorem dL_law_443 : decode cL_law 443 = .ok (.iadd, 1) := by decide +kernel
theorem dL_law_444 : decode cL_law 444 = .ok (.iaload, 1) := by decide +kernel
theorem dL_law_445 : decode cL_law 445 = .ok (.invokevirtual 41, 3) := by decide +kernel
theorem dL_law_448 : decode cL_law 448 = .ok (.aload_n 2, 1) := by decide +kernel
theorem dL_law_449 : decode cL_law 449 = .ok (.aload_n 0, 1) := by decide +kernel
theorem dL_law_450 : decode cL_law 450 = .ok (.iload_n 3, 1) := by decide +kernel
theorem dL_law_451 : decode cL_law 451 = .ok (.iconst 1, 1) := by decide +kernel
theorem dL_law_452 : decode cL_law 452 = .ok (.iadd, 1) := by decide +kernel
theorem dL_law_453 : decode cL_law 453 = .ok (.iaload, 1) := by decide +kernel
theorem dL_law_454 : decode cL_law 454 = .ok (.aload_n 0, 1) := by decide +kernel
theorem dL_law_455 : decode cL_law 455 = .ok (.iload_n 3, 1) := by decide +kernel
theorem dL_law_456 : decode cL_law 456 = .ok (.iconst 2, 1) := by decide +kernel
theorem dL_law_457 : decode cL_law 457 = .ok (.iadd, 1) := by decide +kernel
theorem dL_law_458 : decode cL_law 458 = .ok (.iaload, 1) := by decide +kernel
theorem dL_law_459 : decode cL_law 459 = .ok (.invokevirtual 44, 3) := by decide +kernel
theorem dL_law_462 : decode cL_law 462 = .ok (.if_icmp .eq 803, 3) := by decide +kernel
theorem dL_law_465 : decode cL_law 465 = .ok (.iconst 0, 1) := by decide +kernel
theorem dL_law_466 : decode cL_law 466 = .ok (.ireturn, 1) := by decide +kernel
theorem dL_law_467 : decode cL_law 467 = .ok (.aload_n 1, 1) := by decide +kernel
theorem dL_law_468 : decode cL_law 468 = .ok (.aload_n 0, 1) := by decide +kernel
theorem dL_law_469 : decode cL_law 469 = .ok (.iload_n 3, 1) := by decide +kernel
theorem dL_law_470 : decode cL_law 470 = .ok (.iconst 1, 1) := by decide +kernel
theorem dL_law_471 : decode cL_law 471 = .ok (.iadd, 1) := by decide +kernel
theorem dL_law_472 : decode cL_law 472 = .ok (.iaload, 1) := by decide +kernel
theorem dL_law_473 : decode cL_law 473 = .ok (.aload_n 0, 1) := by decide +kernel
theorem dL_law_474 : decode cL_law 474 = .ok (.iload_n 3, 1) := by decide +kernel
theorem dL_law_475 : decode cL_law 475 = .ok (.iconst 2, 1) := by decide +kernel
theorem dL_law_476 : decode cL_law 476 = .ok (.iadd, 1) := by decide +kernel
theorem dL_law_477 : decode cL_law 477 = .ok (.iaload, 1) := by decide +kernel
theorem dL_law_478 : decode cL_law 478 = .ok (.aload_n 0, 1) := by decide +kernel
theorem dL_law_479 : decode cL_law 479 = .ok (.iload_n 3, 1) := by decide +kernel
theorem dL_law_480 : decode cL_law 480 = .ok (.iconst 3, 1) := by decide +kernel
theorem dL_law_481 : decode cL_law 481 = .ok (.iadd, 1) := by decide +kernel
theorem dL_law_482 : decode cL_law 482 = .ok (.iaload, 1) := by decide +kernel
theorem dL_law_483 : decode cL_law 483 = .ok (.invokevirtual 45, 3) := by decide +kernel
theorem dL_law_486 : decode cL_law 486 = .ok (.aload_n 2, 1) := by decide +kernel
theorem dL_law_487 : decode cL_law 487 = .ok (.aload_n 0, 1) := by decide +kernel
theorem dL_law_488 : decode cL_law 488 = .ok (.iload_n 3, 1) := by decide +kernel
theorem dL_law_489 : decode cL_law 489 = .ok (.iconst 1, 1) := by decide +kernel
theorem dL_law_490 : decode cL_law 490 = .ok (.iadd, 1) := by decide +kernel
theorem dL_law_491 : decode cL_law 491 = .ok (.iaload, 1) := by decide +kernel
theorem dL_law_492 : decode cL_law 492 = .ok (.aload_n 0, 1) := by decide +kernel
theorem dL_law_493 : decode cL_law 493 = .ok (.iload_n 3, 1) := by decide +kernel
theorem dL_law_494 : decode cL_law 494 = .ok (.iconst 2, 1) := by decide +kernel
theorem dL_law_495 : decode cL_law 495 = .ok (.iadd, 1) := by decide +kernel
theorem dL_law_496 : decode cL_law 496 = .ok (.iaload, 1) := by decide +kernel
theorem dL_law_497 : decode cL_law 497 = .ok (.aload_n 0, 1) := by decide +kernel
theorem dL_law_498 : decode cL_law 498 = .ok (.iload_n 3, 1) := by decide +kernel
theorem dL_law_499 : decode cL_law 499 = .ok (.iconst 3, 1) := by decide +kernel
theorem dL_law_500 : decode cL_law 500 = .ok (.iadd, 1) := by decide +kernel
theorem dL_law_501 : decode cL_law 501 = .ok (.iaload, 1) := by decide +kernel
theorem dL_law_502 : decode cL_law 502 = .ok (.invokevirtual 48, 3) := by decide +kernel
theorem dL_law_505 : decode cL_law 505 = .ok (.if_icmp .eq 760, 3) := by decide +kernel
theorem dL_law_508 : decode cL_law 508 = .ok (.iconst 0, 1) := by decide +kernel
theorem dL_law_509 : decode cL_law 509 = .ok (.ireturn, 1) := by decide +kernel
theorem dL_law_510 : decode cL_law 510 = .ok (.aload_n 1, 1) := by decide +kernel
theorem dL_law_511 : decode cL_law 511 = .ok (.aload_n 0, 1) := by decide +kernel
theorem dL_law_512 : decode cL_law 512 = .ok (.iload_n 3, 1) := by decide +kernel
theorem dL_law_513 : decode cL_law 513 = .ok (.iconst 1, 1) := by decide +kernel
theorem dL_law_514 : decode cL_law 514 = .ok (.iadd, 1) := by decide +kernel
theorem dL_law_515 : decode cL_law 515 = .ok (.iaload, 1) := by decide +kernel
theorem dL_law_516 : decode cL_law 516 = .ok (.invokevirtual 49, 3) := by decide +kernel
theorem dL_law_519 : decode cL_law 519 = .ok (.aload_n 2, 1) := by decide +kernel
theorem dL_law_520 : decode cL_law 520 = .ok (.aload_n 0, 1) := by decide +kernel
theorem dL_law_521 : decode cL_law 521 = .ok (.iload_n 3, 1) := by decide +kernel
theorem dL_law_522 : decode cL_law 522 = .ok (.iconst 1, 1) := by decide +kernel
theorem dL_law_523 : decode cL_law 523 = .ok (.iadd, 1) := by decide +kernel
theorem dL_law_524 : decode cL_law 524 = .ok (.iaload, 1) := by decide +kernel
theorem dL_law_525 : decode cL_law 525 = .ok (.invokevirtual 52, 3) := by decide +kernel
theorem dL_law_528 : decode cL_law 528 = .ok (.if_icmp .eq 737, 3) := by decide +kernel
theorem dL_law_531 : decode cL_law 531 = .ok (.iconst 0, 1) := by decide +kernel
theorem dL_law_532 : decode cL_law 532 = .ok (.ireturn, 1) := by decide +kernel
theorem dL_law_533 : decode cL_law 533 = .ok (.aload_n 1, 1) := by decide +kernel
theorem dL_law_534 : decode cL_law 534 = .ok (.aload_n 0, 1) := by decide +kernel
theorem dL_law_535 : decode cL_law 535 = .ok (.iload_n 3, 1) := by decide +kernel
theorem dL_law_536 : decode cL_law 536 = .ok (.iconst 1, 1) := by decide +kernel
theorem dL_law_537 : decode cL_law 537 = .ok (.iadd, 1) := by decide +kernel
theorem dL_law_538 : decode cL_law 538 = .ok (.iaload, 1) := by decide +kernel
theorem dL_law_539 : decode cL_law 539 = .ok (.invokevirtual 53, 3) := by decide +kernel
theorem dL_law_542 : decode cL_law 542 = .ok (.aload_n 2, 1) := by decide +kernel
theorem dL_law_543 : decode cL_law 543 = .ok (.aload_n 0, 1) := by decide +kernel
theorem dL_law_544 : decode cL_law 544 = .ok (.iload_n 3, 1) := by decide +kernel
theorem dL_law_545 : decode cL_law 545 = .ok (.iconst 1, 1) := by decide +kernel
theorem dL_law_546 : decode cL_law 546 = .ok (.iadd, 1) := by decide +kernel
theorem dL_law_547 : decode cL_law 547 = .ok (.iaload, 1) := by decide +kernel
theorem dL_law_548 : decode cL_law 548 = .ok (.invokevirtual 56, 3) := by decide +kernel
theorem dL_law_551 : decode cL_law 551 = .ok (.if_icmp .eq 714, 3) := by decide +kernel
theorem dL_law_554 : decode cL_law 554 = .ok (.iconst 0, 1) := by decide +kernel
theorem dL_law_555 : decode cL_law 555 = .ok (.ireturn, 1) := by decide +kernel
theorem dL_law_556 : decode cL_law 556 = .ok (.aload_n 1, 1) := by decide +kernel
theorem dL_law_557 : decode cL_law 557 = .ok (.aload_n 0, 1) := by decide +kernel
theorem dL_law_558 : decode cL_law 558 = .ok (.iload_n 3, 1) := by decide +kernel
theorem dL_law_559 : decode cL_law 559 = .ok (.iconst 1, 1) := by decide +kernel
theorem dL_law_560 : decode cL_law 560 = .ok (.iadd, 1) := by decide +kernel
theorem dL_law_561 : decode cL_law 561 = .ok (.iaload, 1) := by decide +kernel
theorem dL_law_562 : decode cL_law 562 = .ok (.aload_n 0, 1) := by decide +kernel
theorem dL_law_563 : decode cL_law 563 = .ok (.iload_n 3, 1) := by decide +kernel
theorem dL_law_564 : decode cL_law 564 = .ok (.iconst 2, 1) := by decide +kernel
theorem dL_law_565 : decode cL_law 565 = .ok (.iadd, 1) := by decide +kernel
theorem dL_law_566 : decode cL_law 566 = .ok (.iaload, 1) := by decide +kernel
theorem dL_law_567 : decode cL_law 567 = .ok (.invokevirtual 57, 3) := by decide +kernel
theorem dL_law_570 : decode cL_law 570 = .ok (.aload_n 2, 1) := by decide +kernel
theorem dL_law_571 : decode cL_law 571 = .ok (.aload_n 0, 1) := by decide +kernel
theorem dL_law_572 : decode cL_law 572 = .ok (.iload_n 3, 1) := by decide +kernel
theorem dL_law_573 : decode cL_law 573 = .ok (.iconst 1, 1) := by decide +kernel
theorem dL_law_574 : decode cL_law 574 = .ok (.iadd, 1) := by decide +kernel
theorem dL_law_575 : decode cL_law 575 = .ok (.iaload, 1) := by decide +kernel
theorem dL_law_576 : decode cL_law 576 = .ok (.aload_n 0, 1) := by decide +kernel
theorem dL_law_577 : decode cL_law 577 = .ok (.iload_n 3, 1) := by decide +kernel
theorem dL_law_578 : decode cL_law 578 = .ok (.iconst 2, 1) := by decide +kernel
theorem dL_law_579 : decode cL_law 579 = .ok (.iadd, 1) := by decide +kernel
theorem dL_law_580 : decode cL_law 580 = .ok (.iaload, 1) := by decide +kernel
theorem dL_law_581 : decode cL_law 581 = .ok (.invokevirtual 60, 3) := by decide +kernel
theorem dL_law_584 : decode cL_law 584 = .ok (.if_icmp .eq 681, 3) := by decide +kernel
theorem dL_law_587 : decode cL_law 587 = .ok (.iconst 0, 1) := by decide +kernel
theorem dL_law_588 : decode cL_law 588 = .ok (.ireturn, 1) := by decide +kernel
theorem dL_law_589 : decode cL_law 589 = .ok (.aload_n 1, 1) := by decide +kernel
theorem dL_law_590 : decode cL_law 590 = .ok (.aload_n 0, 1) := by decide +kernel
theorem dL_law_591 : decode cL_law 591 = .ok (.iload_n 3, 1) := by decide +kernel
theorem dL_law_592 : decode cL_law 592 = .ok (.iconst 1, 1) := by decide +kernel
theorem dL_law_593 : decode cL_law 593 = .ok (.iadd, 1) := by decide +kernel
theorem dL_law_594 : decode cL_law 594 = .ok (.iaload, 1) := by decide +kernel
theorem dL_law_595 : decode cL_law 595 = .ok (.aload_n 0, 1) := by decide +kernel
theorem dL_law_596 : decode cL_law 596 = .ok (.iload_n 3, 1) := by decide +kernel
theorem dL_law_597 : decode cL_law 597 = .ok (.iconst 2, 1) := by decide +kernel
theorem dL_law_598 : decode cL_law 598 = .ok (.iadd, 1) := by decide +kernel
theorem dL_law_599 : decode cL_law 599 = .ok (.iaload, 1) := by decide +kernel
theorem dL_law_600 : decode cL_law 600 = .ok (.invokevirtual 61, 3) := by decide +kernel
theorem dL_law_603 : decode cL_law 603 = .ok (.aload_n 2, 1) := by decide +kernel
theorem dL_law_604 : decode cL_law 604 = .ok (.aload_n 0, 1) := by decide +kernel
theorem dL_law_605 : decode cL_law 605 = .ok (.iload_n 3, 1) := by decide +kernel
theorem dL_law_606 : decode cL_law 606 = .ok (.iconst 1, 1) := by decide +kernel
theorem dL_law_607 : decode cL_law 607 = .ok (.iadd, 1) := by decide +kernel
theorem dL_law_608 : decode cL_law 608 = .ok (.iaload, 1) := by decide +kernel
theorem dL_law_609 : decode cL_law 609 = .ok (.aload_n 0, 1) := by decide +kernel
theorem dL_law_610 : decode cL_law 610 = .ok (.iload_n 3, 1) := by decide +kernel
theorem dL_law_611 : decode cL_law 611 = .ok (.iconst 2, 1) := by decide +kernel
theorem dL_law_612 : decode cL_law 612 = .ok (.iadd, 1) := by decide +kernel
theorem dL_law_613 : decode cL_law 613 = .ok (.iaload, 1) := by decide +kernel
theorem dL_law_614 : decode cL_law 614 = .ok (.invokevirtual 64, 3) := by decide +kernel
theorem dL_law_617 : decode cL_law 617 = .ok (.if_icmp .eq 648, 3) := by decide +kernel
theorem dL_law_620 : decode cL_law 620 = .ok (.iconst 0, 1) := by decide +kernel
theorem dL_law_621 : decode cL_law 621 = .ok (.ireturn, 1) := by decide +kernel
theorem dL_law_622 : decode cL_law 622 = .ok (.aload_n 1, 1) := by decide +kernel
theorem dL_law_623 : decode cL_law 623 = .ok (.aload_n 0, 1) := by decide +kernel
theorem dL_law_624 : decode cL_law 624 = .ok (.iload_n 3, 1) := by decide +kernel
theorem dL_law_625 : decode cL_law 625 = .ok (.iconst 1, 1) := by decide +kernel
theorem dL_law_626 : decode cL_law 626 = .ok (.iadd, 1) := by decide +kernel
theorem dL_law_627 : decode cL_law 627 = .ok (.iaload, 1) := by decide +kernel
theorem dL_law_628 : decode cL_law 628 = .ok (.aload_n 0, 1) := by decide +kernel
theorem dL_law_629 : decode cL_law 629 = .ok (.iload_n 3, 1) := by decide +kernel
theorem dL_law_630 : decode cL_law 630 = .ok (.iconst 2, 1) := by decide +kernel
theorem dL_law_631 : decode cL_law 631 = .ok (.iadd, 1) := by decide +kernel
theorem dL_law_632 : decode cL_law 632 = .ok (.iaload, 1) := by decide +kernel
theorem dL_law_633 : decode cL_law 633 = .ok (.aload_n 0, 1) := by decide +kernel
theorem dL_law_634 : decode cL_law 634 = .ok (.iload_n 3, 1) := by decide +kernel
theorem dL_law_635 : decode cL_law 635 = .ok (.iconst 3, 1) := by decide +kernel
theorem dL_law_636 : decode cL_law 636 = .ok (.iadd, 1) := by decide +kernel
theorem dL_law_637 : decode cL_law 637 = .ok (.iaload, 1) := by decide +kernel
theorem dL_law_638 : decode cL_law 638 = .ok (.invokevirtual 65, 3) := by decide +kernel
theorem dL_law_641 : decode cL_law 641 = .ok (.aload_n 2, 1) := by decide +kernel
theorem dL_law_642 : decode cL_law 642 = .ok (.aload_n 0, 1) := by decide +kernel
theorem dL_law_643 : decode cL_law 643 = .ok (.iload_n 3, 1) := by decide +kernel
theorem dL_law_644 : decode cL_law 644 = .ok (.iconst 1, 1) := by decide +kernel
theorem dL_law_645 : decode cL_law 645 = .ok (.iadd, 1) := by decide +kernel
theorem dL_law_646 : decode cL_law 646 = .ok (.iaload, 1) := by decide +kernel
theorem dL_law_647 : decode cL_law 647 = .ok (.aload_n 0, 1) := by decide +kernel
theorem dL_law_648 : decode cL_law 648 = .ok (.iload_n 3, 1) := by decide +kernel
theorem dL_law_649 : decode cL_law 649 = .ok (.iconst 2, 1) := by decide +kernel
theorem dL_law_650 : decode cL_law 650 = .ok (.iadd, 1) := by decide +kernel
theorem dL_law_651 : decode cL_law 651 = .ok (.iaload, 1) := by decide +kernel
theorem dL_law_652 : decode cL_law 652 = .ok (.aload_n 0, 1) := by decide +kernel
theorem dL_law_653 : decode cL_law 653 = .ok (.iload_n 3, 1) := by decide +kernel
theorem dL_law_654 : decode cL_law 654 = .ok (.iconst 3, 1) := by decide +kernel
theorem dL_law_655 : decode cL_law 655 = .ok (.iadd, 1) := by decide +kernel
theorem dL_law_656 : decode cL_law 656 = .ok (.iaload, 1) := by decide +kernel
theorem dL_law_657 : decode cL_law 657 = .ok (.invokevirtual 68, 3) := by decide +kernel
theorem dL_law_660 : decode cL_law 660 = .ok (.if_icmp .eq 605, 3) := by decide +kernel
theorem dL_law_663 : decode cL_law 663 = .ok (.iconst 0, 1) := by decide +kernel
theorem dL_law_664 : decode cL_law 664 = .ok (.ireturn, 1) := by decide +kernel
theorem dL_law_665 : decode cL_law 665 = .ok (.aload_n 1, 1) := by decide +kernel
theorem dL_law_666 : decode cL_law 666 = .ok (.invokevirtual 69, 3) := by decide +kernel
theorem dL_law_669 : decode cL_law 669 = .ok (.aload_n 2, 1) := by decide +kernel
theorem dL_law_670 : decode cL_law 670 = .ok (.invokevirtual 73, 3) := by decide +kernel
theorem dL_law_673 : decode cL_law 673 = .ok (.if_icmp .eq 592, 3) := by decide +kernel
theorem dL_law_676 : decode cL_law 676 = .ok (.iconst 0, 1) := by decide +kernel
theorem dL_law_677 : decode cL_law 677 = .ok (.ireturn, 1) := by decide +kernel
theorem dL_law_678 : decode cL_law 678 = .ok (.aload_n 1, 1) := by decide +kernel
theorem dL_law_679 : decode cL_law 679 = .ok (.invokevirtual 74, 3) := by decide +kernel
theorem dL_law_682 : decode cL_law 682 = .ok (.aload_n 2, 1) := by decide +kernel
theorem dL_law_683 : decode cL_law 683 = .ok (.invokevirtual 77, 3) := by decide +kernel
theorem dL_law_686 : decode cL_law 686 = .ok (.if_icmp .eq 579, 3) := by decide +kernel
theorem dL_law_689 : decode cL_law 689 = .ok (.iconst 0, 1) := by decide +kernel
theorem dL_law_690 : decode cL_law 690 = .ok (.ireturn, 1) := by decide +kernel
theorem dL_law_691 : decode cL_law 691 = .ok (.aload_n 1, 1) := by decide +kernel
theorem dL_law_692 : decode cL_law 692 = .ok (.invokevirtual 78, 3) := by decide +kernel
theorem dL_law_695 : decode cL_law 695 = .ok (.aload_n 2, 1) := by decide +kernel
theorem dL_law_696 : decode cL_law 696 = .ok (.invokevirtual 81, 3) := by decide +kernel
theorem dL_law_699 : decode cL_law 699 = .ok (.if_icmp .eq 566, 3) := by decide +kernel
theorem dL_law_702 : decode cL_law 702 = .ok (.iconst 0, 1) := by decide +kernel
theorem dL_law_703 : decode cL_law 703 = .ok (.ireturn, 1) := by decide +kernel
theorem dL_law_704 : decode cL_law 704 = .ok (.aload_n 1, 1) := by decide +kernel
theorem dL_law_705 : decode cL_law 705 = .ok (.aload_n 0, 1) := by decide +kernel
theorem dL_law_706 : decode cL_law 706 = .ok (.iload_n 3, 1) := by decide +kernel
theorem dL_law_707 : decode cL_law 707 = .ok (.iconst 1, 1) := by decide +kernel
theorem dL_law_708 : decode cL_law 708 = .ok (.iadd, 1) := by decide +kernel
theorem dL_law_709 : decode cL_law 709 = .ok (.iaload, 1) := by decide +kernel
theorem dL_law_710 : decode cL_law 710 = .ok (.invokevirtual 82, 3) := by decide +kernel
theorem dL_law_713 : decode cL_law 713 = .ok (.aload_n 2, 1) := by decide +kernel
theorem dL_law_714 : decode cL_law 714 = .ok (.aload_n 0, 1) := by decide +kernel
theorem dL_law_715 : decode cL_law 715 = .ok (.iload_n 3, 1) := by decide +kernel
theorem dL_law_716 : decode cL_law 716 = .ok (.iconst 1, 1) := by decide +kernel
theorem dL_law_717 : decode cL_law 717 = .ok (.iadd, 1) := by decide +kernel
theorem dL_law_718 : decode cL_law 718 = .ok (.iaload, 1) := by decide +kernel
theorem dL_law_719 : decode cL_law 719 = .ok (.invokevirtual 85, 3) := by decide +kernel
theorem dL_law_722 : decode cL_law 722 = .ok (.if_icmp .eq 543, 3) := by decide +kernel
theorem dL_law_725 : decode cL_law 725 = .ok (.iconst 0, 1) := by decide +kernel
theorem dL_law_726 : decode cL_law 726 = .ok (.ireturn, 1) := by decide +kernel
theorem dL_law_727 : decode cL_law 727 = .ok (.aload_n 1, 1) := by decide +kernel
theorem dL_law_728 : decode cL_law 728 = .ok (.aload_n 0, 1) := by decide +kernel
theorem dL_law_729 : decode cL_law 729 = .ok (.iload_n 3, 1) := by decide +kernel
theorem dL_law_730 : decode cL_law 730 = .ok (.iconst 1, 1) := by decide +kernel
theorem dL_law_731 : decode cL_law 731 = .ok (.iadd, 1) := by decide +kernel
theorem dL_law_732 : decode cL_law 732 = .ok (.iaload, 1) := by decide +kernel
theorem dL_law_733 : decode cL_law 733 = .ok (.invokevirtual 86, 3) := by decide +kernel
theorem dL_law_736 : decode cL_law 736 = .ok (.aload_n 2, 1) := by decide +kernel
theorem dL_law_737 : decode cL_law 737 = .ok (.aload_n 0, 1) := by decide +kernel
theorem dL_law_738 : decode cL_law 738 = .ok (.iload_n 3, 1) := by decide +kernel
theorem dL_law_739 : decode cL_law 739 = .ok (.iconst 1, 1) := by decide +kernel
theorem dL_law_740 : decode cL_law 740 = .ok (.iadd, 1) := by decide +kernel
theorem dL_law_741 : decode cL_law 741 = .ok (.iaload, 1) := by decide +kernel
theorem dL_law_742 : decode cL_law 742 = .ok (.invokevirtual 89, 3) := by decide +kernel
theorem dL_law_745 : decode cL_law 745 = .ok (.if_icmp .eq 520, 3) := by decide +kernel
theorem dL_law_748 : decode cL_law 748 = .ok (.iconst 0, 1) := by decide +kernel
theorem dL_law_749 : decode cL_law 749 = .ok (.ireturn, 1) := by decide +kernel
theorem dL_law_750 : decode cL_law 750 = .ok (.aload_n 1, 1) := by decide +kernel
theorem dL_law_751 : decode cL_law 751 = .ok (.aload_n 0, 1) := by decide +kernel
theorem dL_law_752 : decode cL_law 752 = .ok (.iload_n 3, 1) := by decide +kernel
theorem dL_law_753 : decode cL_law 753 = .ok (.iconst 1, 1) := by decide +kernel
theorem dL_law_754 : decode cL_law 754 = .ok (.iadd, 1) := by decide +kernel
theorem dL_law_755 : decode cL_law 755 = .ok (.iaload, 1) := by decide +kernel
theorem dL_law_756 : decode cL_law 756 = .ok (.invokevirtual 90, 3) := by decide +kernel
theorem dL_law_759 : decode cL_law 759 = .ok (.aload_n 2, 1) := by decide +kernel
theorem dL_law_760 : decode cL_law 760 = .ok (.aload_n 0, 1) := by decide +kernel
theorem dL_law_761 : decode cL_law 761 = .ok (.iload_n 3, 1) := by decide +kernel
theorem dL_law_762 : decode cL_law 762 = .ok (.iconst 1, 1) := by decide +kernel
theorem dL_law_763 : decode cL_law 763 = .ok (.iadd, 1) := by decide +kernel
theorem dL_law_764 : decode cL_law 764 = .ok (.iaload, 1) := by decide +kernel
theorem dL_law_765 : decode cL_law 765 = .ok (.invokevirtual 93, 3) := by decide +kernel
theorem dL_law_768 : decode cL_law 768 = .ok (.if_icmp .eq 497, 3) := by decide +kernel
theorem dL_law_771 : decode cL_law 771 = .ok (.iconst 0, 1) := by decide +kernel
theorem dL_law_772 : decode cL_law 772 = .ok (.ireturn, 1) := by decide +kernel
theorem dL_law_773 : decode cL_law 773 = .ok (.aload_n 1, 1) := by decide +kernel
theorem dL_law_774 : decode cL_law 774 = .ok (.aload_n 0, 1) := by decide +kernel
theorem dL_law_775 : decode cL_law 775 = .ok (.iload_n 3, 1) := by decide +kernel
theorem dL_law_776 : decode cL_law 776 = .ok (.iconst 1, 1) := by decide +kernel
theorem dL_law_777 : decode cL_law 777 = .ok (.iadd, 1) := by decide +kernel
theorem dL_law_778 : decode cL_law 778 = .ok (.iaload, 1) := by decide +kernel
theorem dL_law_779 : decode cL_law 779 = .ok (.invokevirtual 94, 3) := by decide +kernel
theorem dL_law_782 : decode cL_law 782 = .ok (.aload_n 2, 1) := by decide +kernel
theorem dL_law_783 : decode cL_law 783 = .ok (.aload_n 0, 1) := by decide +kernel
theorem dL_law_784 : decode cL_law 784 = .ok (.iload_n 3, 1) := by decide +kernel
theorem dL_law_785 : decode cL_law 785 = .ok (.iconst 1, 1) := by decide +kernel
theorem dL_law_786 : decode cL_law 786 = .ok (.iadd, 1) := by decide +kernel
theorem dL_law_787 : decode cL_law 787 = .ok (.iaload, 1) := by decide +kernel
theorem dL_law_788 : decode cL_law 788 = .ok (.invokevirtual 97, 3) := by decide +kernel
theorem dL_law_791 : decode cL_law 791 = .ok (.if_icmp .eq 474, 3) := by decide +kernel
theorem dL_law_794 : decode cL_law 794 = .ok (.iconst 0, 1) := by decide +kernel
theorem dL_law_795 : decode cL_law 795 = .ok (.ireturn, 1) := by decide +kernel
theorem dL_law_796 : decode cL_law 796 = .ok (.aload_n 1, 1) := by decide +kernel
theorem dL_law_797 : decode cL_law 797 = .ok (.aload_n 0, 1) := by decide +kernel
theorem dL_law_798 : decode cL_law 798 = .ok (.iload_n 3, 1) := by decide +kernel
theorem dL_law_799 : decode cL_law 799 = .ok (.iconst 1, 1) := by decide +kernel
theorem dL_law_800 : decode cL_law 800 = .ok (.iadd, 1) := by decide +kernel
theorem dL_law_801 : decode cL_law 801 = .ok (.iaload, 1) := by decide +kernel
theorem dL_law_802 : decode cL_law 802 = .ok (.invokevirtual 98, 3) := by decide +kernel
theorem dL_law_805 : decode cL_law 805 = .ok (.aload_n 2, 1) := by decide +kernel
theorem dL_law_806 : decode cL_law 806 = .ok (.aload_n 0, 1) := by decide +kernel
theorem dL_law_807 : decode cL_law 807 = .ok (.iload_n 3, 1) := by decide +kernel
theorem dL_law_808 : decode cL_law 808 = .ok (.iconst 1, 1) := by decide +kernel
theorem dL_law_809 : decode cL_law 809 = .ok (.iadd, 1) := by decide +kernel
theorem dL_law_810 : decode cL_law 810 = .ok (.iaload, 1) := by decide +kernel
theorem dL_law_811 : decode cL_law 811 = .ok (.invokevirtual 101, 3) := by decide +kernel
theorem dL_law_814 : decode cL_law 814 = .ok (.if_icmp .eq 451, 3) := by decide +kernel
theorem dL_law_817 : decode cL_law 817 = .ok (.iconst 0, 1) := by decide +kernel
theorem dL_law_818 : decode cL_law 818 = .ok (.ireturn, 1) := by decide +kernel
theorem dL_law_819 : decode cL_law 819 = .ok (.aload_n 1, 1) := by decide +kernel
theorem dL_law_820 : decode cL_law 820 = .ok (.aload_n 0, 1) := by decide +kernel
theorem dL_law_821 : decode cL_law 821 = .ok (.iload_n 3, 1) := by decide +kernel
theorem dL_law_822 : decode cL_law 822 = .ok (.iconst 1, 1) := by decide +kernel
theorem dL_law_823 : decode cL_law 823 = .ok (.iadd, 1) := by decide +kernel
theorem dL_law_824 : decode cL_law 824 = .ok (.iaload, 1) := by decide +kernel
theorem dL_law_825 : decode cL_law 825 = .ok (.invokevirtual 102, 3) := by decide +kernel
theorem dL_law_828 : decode cL_law 828 = .ok (.aload_n 2, 1) := by decide +kernel
theorem dL_law_829 : decode cL_law 829 = .ok (.aload_n 0, 1) := by decide +kernel
theorem dL_law_830 : decode cL_law 830 = .ok (.iload_n 3, 1) := by decide +kernel
theorem dL_law_831 : decode cL_law 831 = .ok (.iconst 1, 1) := by decide +kernel
theorem dL_law_832 : decode cL_law 832 = .ok (.iadd, 1) := by decide +kernel
theorem dL_law_833 : decode cL_law 833 = .ok (.iaload, 1) := by decide +kernel
theorem dL_law_834 : decode cL_law 834 = .ok (.invokevirtual 105, 3) := by decide +kernel
theorem dL_law_837 : decode cL_law 837 = .ok (.if_icmp .eq 428, 3) := by decide +kernel
theorem dL_law_840 : decode cL_law 840 = .ok (.iconst 0, 1) := by decide +kernel
theorem dL_law_841 : decode cL_law 841 = .ok (.ireturn, 1) := by decide +kernel
theorem dL_law_842 : decode cL_law 842 = .ok (.aload_n 1, 1) := by decide +kernel
theorem dL_law_843 : decode cL_law 843 = .ok (.invokevirtual 106, 3) := by decide +kernel
theorem dL_law_846 : decode cL_law 846 = .ok (.aload_n 2, 1) := by decide +kernel
theorem dL_law_847 : decode cL_law 847 = .ok (.invokevirtual 109, 3) := by decide +kernel
theorem dL_law_850 : decode cL_law 850 = .ok (.if_icmp .eq 415, 3) := by decide +kernel
theorem dL_law_853 : decode cL_law 853 = .ok (.iconst 0, 1) := by decide +kernel
theorem dL_law_854 : decode cL_law 854 = .ok (.ireturn, 1) := by decide +kernel
theorem dL_law_855 : decode cL_law 855 = .ok (.aload_n 1, 1) := by decide +kernel
theorem dL_law_856 : decode cL_law 856 = .ok (.aload_n 0, 1) := by decide +kernel
theorem dL_law_857 : decode cL_law 857 = .ok (.iload_n 3, 1) := by decide +kernel
theorem dL_law_858 : decode cL_law 858 = .ok (.iconst 1, 1) := by decide +kernel
theorem dL_law_859 : decode cL_law 859 = .ok (.iadd, 1) := by decide +kernel
theorem dL_law_860 : decode cL_law 860 = .ok (.iaload, 1) := by decide +kernel
theorem dL_law_861 : decode cL_law 861 = .ok (.aload_n 0, 1) := by decide +kernel
theorem dL_law_862 : decode cL_law 862 = .ok (.iload_n 3, 1) := by decide +kernel
theorem dL_law_863 : decode cL_law 863 = .ok (.iconst 2, 1) := by decide +kernel
theorem dL_law_864 : decode cL_law 864 = .ok (.iadd, 1) := by decide +kernel
theorem dL_law_865 : decode cL_law 865 = .ok (.iaload, 1) := by decide +kernel
theorem dL_law_866 : decode cL_law 866 = .ok (.invokevirtual 110, 3) := by decide +kernel
theorem dL_law_869 : decode cL_law 869 = .ok (.aload_n 2, 1) := by decide +kernel
theorem dL_law_870 : decode cL_law 870 = .ok (.aload_n 0, 1) := by decide +kernel
theorem dL_law_871 : decode cL_law 871 = .ok (.iload_n 3, 1) := by decide +kernel
theorem dL_law_872 : decode cL_law 872 = .ok (.iconst 1, 1) := by decide +kernel
theorem dL_law_873 : decode cL_law 873 = .ok (.iadd, 1) := by decide +kernel
theorem dL_law_874 : decode cL_law 874 = .ok (.iaload, 1) := by decide +kernel
theorem dL_law_875 : decode cL_law 875 = .ok (.aload_n 0, 1) := by decide +kernel
theorem dL_law_876 : decode cL_law 876 = .ok (.iload_n 3, 1) := by decide +kernel
theorem dL_law_877 : decode cL_law 877 = .ok (.iconst 2, 1) := by decide +kernel
theorem dL_law_878 : decode cL_law 878 = .ok (.iadd, 1) := by decide +kernel
theorem dL_law_879 : decode cL_law 879 = .ok (.iaload, 1) := by decide +kernel
theorem dL_law_880 : decode cL_law 880 = .ok (.invokevirtual 113, 3) := by decide +kernel
theorem dL_law_883 : decode cL_law 883 = .ok (.if_icmp .eq 382, 3) := by decide +kernel
theorem dL_law_886 : decode cL_law 886 = .ok (.iconst 0, 1) := by decide +kernel
theorem dL_law_887 : decode cL_law 887 = .ok (.ireturn, 1) := by decide +kernel
theorem dL_law_888 : decode cL_law 888 = .ok (.aload_n 1, 1) := by decide +kernel
theorem dL_law_889 : decode cL_law 889 = .ok (.invokevirtual 114, 3) := by decide +kernel
theorem dL_law_892 : decode cL_law 892 = .ok (.aload_n 2, 1) := by decide +kernel
theorem dL_law_893 : decode cL_law 893 = .ok (.invokevirtual 117, 3) := by decide +kernel
theorem dL_law_896 : decode cL_law 896 = .ok (.if_icmp .eq 369, 3) := by decide +kernel
theorem dL_law_899 : decode cL_law 899 = .ok (.iconst 0, 1) := by decide +kernel
theorem dL_law_900 : decode cL_law 900 = .ok (.ireturn, 1) := by decide +kernel
theorem dL_law_901 : decode cL_law 901 = .ok (.aload_n 1, 1) := by decide +kernel
theorem dL_law_902 : decode cL_law 902 = .ok (.invokevirtual 118, 3) := by decide +kernel
theorem dL_law_905 : decode cL_law 905 = .ok (.aload_n 2, 1) := by decide +kernel
theorem dL_law_906 : decode cL_law 906 = .ok (.invokevirtual 121, 3) := by decide +kernel
theorem dL_law_909 : decode cL_law 909 = .ok (.if_icmp .eq 356, 3) := by decide +kernel
theorem dL_law_912 : decode cL_law 912 = .ok (.iconst 0, 1) := by decide +kernel
theorem dL_law_913 : decode cL_law 913 = .ok (.ireturn, 1) := by decide +kernel
theorem dL_law_914 : decode cL_law 914 = .ok (.aload_n 1, 1) := by decide +kernel
theorem dL_law_915 : decode cL_law 915 = .ok (.invokevirtual 122, 3) := by decide +kernel
theorem dL_law_918 : decode cL_law 918 = .ok (.aload_n 2, 1) := by decide +kernel
theorem dL_law_919 : decode cL_law 919 = .ok (.invokevirtual 125, 3) := by decide +kernel
theorem dL_law_922 : decode cL_law 922 = .ok (.if_icmp .eq 343, 3) := by decide +kernel
theorem dL_law_925 : decode cL_law 925 = .ok (.iconst 0, 1) := by decide +kernel
theorem dL_law_926 : decode cL_law 926 = .ok (.ireturn, 1) := by decide +kernel
theorem dL_law_927 : decode cL_law 927 = .ok (.aload_n 1, 1) := by decide +kernel
theorem dL_law_928 : decode cL_law 928 = .ok (.aload_n 0, 1) := by decide +kernel
theorem dL_law_929 : decode cL_law 929 = .ok (.iload_n 3, 1) := by decide +kernel
theorem dL_law_930 : decode cL_law 930 = .ok (.iconst 1, 1) := by decide +kernel
theorem dL_law_931 : decode cL_law 931 = .ok (.iadd, 1) := by decide +kernel
theorem dL_law_932 : decode cL_law 932 = .ok (.iaload, 1) := by decide +kernel
theorem dL_law_933 : decode cL_law 933 = .ok (.invokevirtual 126, 3) := by decide +kernel
theorem dL_law_936 : decode cL_law 936 = .ok (.aload_n 2, 1) := by decide +kernel
theorem dL_law_937 : decode cL_law 937 = .ok (.aload_n 0, 1) := by decide +kernel
theorem dL_law_938 : decode cL_law 938 = .ok (.iload_n 3, 1) := by decide +kernel
theorem dL_law_939 : decode cL_law 939 = .ok (.iconst 1, 1) := by decide +kernel
theorem dL_law_940 : decode cL_law 940 = .ok (.iadd, 1) := by decide +kernel
theorem dL_law_941 : decode cL_law 941 = .ok (.iaload, 1) := by decide +kernel
theorem dL_law_942 : decode cL_law 942 = .ok (.invokevirtual 129, 3) := by decide +kernel
theorem dL_law_945 : decode cL_law 945 = .ok (.if_icmp .eq 320, 3) := by decide +kernel
theorem dL_law_948 : decode cL_law 948 = .ok (.iconst 0, 1) := by decide +kernel
theorem dL_law_949 : decode cL_law 949 = .ok (.ireturn, 1) := by decide +kernel
theorem dL_law_950 : decode cL_law 950 = .ok (.aload_n 1, 1) := by decide +kernel
theorem dL_law_951 : decode cL_law 951 = .ok (.aload_n 0, 1) := by decide +kernel
theorem dL_law_952 : decode cL_law 952 = .ok (.iload_n 3, 1) := by decide +kernel
theorem dL_law_953 : decode cL_law 953 = .ok (.iconst 1, 1) := by decide +kernel
theorem dL_law_954 : decode cL_law 954 = .ok (.iadd, 1) := by decide +kernel
theorem dL_law_955 : decode cL_law 955 = .ok (.iaload, 1) := by decide +kernel
theorem dL_law_956 : decode cL_law 956 = .ok (.aload_n 0, 1) := by decide +kernel
theorem dL_law_957 : decode cL_law 957 = .ok (.iload_n 3, 1) := by decide +kernel
theorem dL_law_958 : decode cL_law 958 = .ok (.iconst 2, 1) := by decide +kernel
theorem dL_law_959 : decode cL_law 959 = .ok (.iadd, 1) := by decide +kernel
theorem dL_law_960 : decode cL_law 960 = .ok (.iaload, 1) := by decide +kernel
theorem dL_law_961 : decode cL_law 961 = .ok (.invokevirtual 130, 3) := by decide +kernel
theorem dL_law_964 : decode cL_law 964 = .ok (.aload_n 2, 1) := by decide +kernel
theorem dL_law_965 : decode cL_law 965 = .ok (.aload_n 0, 1) := by decide +kernel
theorem dL_law_966 : decode cL_law 966 = .ok (.iload_n 3, 1) := by decide +kernel
theorem dL_law_967 : decode cL_law 967 = .ok (.iconst 1, 1) := by decide +kernel
theorem dL_law_968 : decode cL_law 968 = .ok (.iadd, 1) := by decide +kernel
theorem dL_law_969 : decode cL_law 969 = .ok (.iaload, 1) := by decide +kernel
theorem dL_law_970 : decode cL_law 970 = .ok (.aload_n 0, 1) := by decide +kernel
theorem dL_law_971 : decode cL_law 971 = .ok (.iload_n 3, 1) := by decide +kernel
theorem dL_law_972 : decode cL_law 972 = .ok (.iconst 2, 1) := by decide +kernel
theorem dL_law_973 : decode cL_law 973 = .ok (.iadd, 1) := by decide +kernel
theorem dL_law_974 : decode cL_law 974 = .ok (.iaload, 1) := by decide +kernel
theorem dL_law_975 : decode cL_law 975 = .ok (.invokevirtual 133, 3) := by decide +kernel
theorem dL_law_978 : decode cL_law 978 = .ok (.if_icmp .eq 287, 3) := by decide +kernel
theorem dL_law_981 : decode cL_law 981 = .ok (.iconst 0, 1) := by decide +kernel
theorem dL_law_982 : decode cL_law 982 = .ok (.ireturn, 1) := by decide +kernel
theorem dL_law_983 : decode cL_law 983 = .ok (.aload_n 1, 1) := by decide +kernel
theorem dL_law_984 : decode cL_law 984 = .ok (.aload_n 0, 1) := by decide +kernel
theorem dL_law_985 : decode cL_law 985 = .ok (.iload_n 3, 1) := by decide +kernel
theorem dL_law_986 : decode cL_law 986 = .ok (.iconst 1, 1) := by decide +kernel
theorem dL_law_987 : decode cL_law 987 = .ok (.iadd, 1) := by decide +kernel
theorem dL_law_988 : decode cL_law 988 = .ok (.iaload, 1) := by decide +kernel
theorem dL_law_989 : decode cL_law 989 = .ok (.aload_n 0, 1) := by decide +kernel
theorem dL_law_990 : decode cL_law 990 = .ok (.iload_n 3, 1) := by decide +kernel
theorem dL_law_991 : decode cL_law 991 = .ok (.iconst 2, 1) := by decide +kernel
theorem dL_law_992 : decode cL_law 992 = .ok (.iadd, 1) := by decide +kernel
theorem dL_law_993 : decode cL_law 993 = .ok (.iaload, 1) := by decide +kernel
theorem dL_law_994 : decode cL_law 994 = .ok (.invokevirtual 134, 3) := by decide +kernel
theorem dL_law_997 : decode cL_law 997 = .ok (.aload_n 2, 1) := by decide +kernel
theorem dL_law_998 : decode cL_law 998 = .ok (.aload_n 0, 1) := by decide +kernel
theorem dL_law_999 : decode cL_law 999 = .ok (.iload_n 3, 1) := by decide +kernel
theorem dL_law_1000 : decode cL_law 1000 = .ok (.iconst 1, 1) := by decide +kernel
theorem dL_law_1001 : decode cL_law 1001 = .ok (.iadd, 1) := by decide +kernel
theorem dL_law_1002 : decode cL_law 1002 = .ok (.iaload, 1) := by decide +kernel
theorem dL_law_1003 : decode cL_law 1003 = .ok (.aload_n 0, 1) := by decide +kernel
theorem dL_law_1004 : decode cL_law 1004 = .ok (.iload_n 3, 1) := by decide +kernel
theorem dL_law_1005 : decode cL_law 1005 = .ok (.iconst 2, 1) := by decide +kernel
theorem dL_law_1006 : decode cL_law 1006 = .ok (.iadd, 1) := by decide +kernel
theorem dL_law_1007 : decode cL_law 1007 = .ok (.iaload, 1) := by decide +kernel
theorem dL_law_1008 : decode cL_law 1008 = .ok (.invokevirtual 137, 3) := by decide +kernel
theorem dL_law_1011 : decode cL_law 1011 = .ok (.if_icmp .eq 254, 3) := by decide +kernel
theorem dL_law_1014 : decode cL_law 1014 = .ok (.iconst 0, 1) := by decide +kernel
theorem dL_law_1015 : decode cL_law 1015 = .ok (.ireturn, 1) := by decide +kernel
theorem dL_law_1016 : decode cL_law 1016 = .ok (.aload_n 1, 1) := by decide +kernel
theorem dL_law_1017 : decode cL_law 1017 = .ok (.aload_n 0, 1) := by decide +kernel
theorem dL_law_1018 : decode cL_law 1018 = .ok (.iload_n 3, 1) := by decide +kernel
theorem dL_law_1019 : decode cL_law 1019 = .ok (.iconst 1, 1) := by decide +kernel
theorem dL_law_1020 : decode cL_law 1020 = .ok (.iadd, 1) := by decide +kernel
theorem dL_law_1021 : decode cL_law 1021 = .ok (.iaload, 1) := by decide +kernel
theorem dL_law_1022 : decode cL_law 1022 = .ok (.invokevirtual 138, 3) := by decide +kernel
theorem dL_law_1025 : decode cL_law 1025 = .ok (.aload_n 2, 1) := by decide +kernel
theorem dL_law_1026 : decode cL_law 1026 = .ok (.aload_n 0, 1) := by decide +kernel
theorem dL_law_1027 : decode cL_law 1027 = .ok (.iload_n 3, 1) := by decide +kernel
theorem dL_law_1028 : decode cL_law 1028 = .ok (.iconst 1, 1) := by decide +kernel
theorem dL_law_1029 : decode cL_law 1029 = .ok (.iadd, 1) := by decide +kernel
theorem dL_law_1030 : decode cL_law 1030 = .ok (.iaload, 1) := by decide +kernel
theorem dL_law_1031 : decode cL_law 1031 = .ok (.invokevirtual 141, 3) := by decide +kernel
theorem dL_law_1034 : decode cL_law 1034 = .ok (.if_icmp .eq 231, 3) := by decide +kernel
theorem dL_law_1037 : decode cL_law 1037 = .ok (.iconst 0, 1) := by decide +kernel
theorem dL_law_1038 : decode cL_law 1038 = .ok (.ireturn, 1) := by decide +kernel
theorem dL_law_1039 : decode cL_law 1039 = .ok (.aload_n 1, 1) := by decide +kernel
theorem dL_law_1040 : decode cL_law 1040 = .ok (.aload_n 0, 1) := by decide +kernel
theorem dL_law_1041 : decode cL_law 1041 = .ok (.iload_n 3, 1) := by decide +kernel
theorem dL_law_1042 : decode cL_law 1042 = .ok (.iconst 1, 1) := by decide +kernel
theorem dL_law_1043 : decode cL_law 1043 = .ok (.iadd, 1) := by decide +kernel
theorem dL_law_1044 : decode cL_law 1044 = .ok (.iaload, 1) := by decide +kernel
theorem dL_law_1045 : decode cL_law 1045 = .ok (.invokevirtual 142, 3) := by decide +kernel
theorem dL_law_1048 : decode cL_law 1048 = .ok (.aload_n 2, 1) := by decide +kernel
theorem dL_law_1049 : decode cL_law 1049 = .ok (.aload_n 0, 1) := by decide +kernel
theorem dL_law_1050 : decode cL_law 1050 = .ok (.iload_n 3, 1) := by decide +kernel
theorem dL_law_1051 : decode cL_law 1051 = .ok (.iconst 1, 1) := by decide +kernel
theorem dL_law_1052 : decode cL_law 1052 = .ok (.iadd, 1) := by decide +kernel
theorem dL_law_1053 : decode cL_law 1053 = .ok (.iaload, 1) := by decide +kernel
theorem dL_law_1054 : decode cL_law 1054 = .ok (.invokevirtual 145, 3) := by decide +kernel
theorem dL_law_1057 : decode cL_law 1057 = .ok (.if_icmp .eq 208, 3) := by decide +kernel
theorem dL_law_1060 : decode cL_law 1060 = .ok (.iconst 0, 1) := by decide +kernel
theorem dL_law_1061 : decode cL_law 1061 = .ok (.ireturn, 1) := by decide +kernel
theorem dL_law_1062 : decode cL_law 1062 = .ok (.aload_n 1, 1) := by decide +kernel
theorem dL_law_1063 : decode cL_law 1063 = .ok (.aload_n 0, 1) := by decide +kernel
theorem dL_law_1064 : decode cL_law 1064 = .ok (.iload_n 3, 1) := by decide +kernel
theorem dL_law_1065 : decode cL_law 1065 = .ok (.iconst 1, 1) := by decide +kernel
theorem dL_law_1066 : decode cL_law 1066 = .ok (.iadd, 1) := by decide +kernel
theorem dL_law_1067 : decode cL_law 1067 = .ok (.iaload, 1) := by decide +kernel
theorem dL_law_1068 : decode cL_law 1068 = .ok (.aload_n 0, 1) := by decide +kernel
theorem dL_law_1069 : decode cL_law 1069 = .ok (.iload_n 3, 1) := by decide +kernel
theorem dL_law_1070 : decode cL_law 1070 = .ok (.iconst 2, 1) := by decide +kernel
theorem dL_law_1071 : decode cL_law 1071 = .ok (.iadd, 1) := by decide +kernel
theorem dL_law_1072 : decode cL_law 1072 = .ok (.iaload, 1) := by decide +kernel
theorem dL_law_1073 : decode cL_law 1073 = .ok (.invokevirtual 146, 3) := by decide +kernel
theorem dL_law_1076 : decode cL_law 1076 = .ok (.aload_n 2, 1) := by decide +kernel
theorem dL_law_1077 : decode cL_law 1077 = .ok (.aload_n 0, 1) := by decide +kernel
theorem dL_law_1078 : decode cL_law 1078 = .ok (.iload_n 3, 1) := by decide +kernel
theorem dL_law_1079 : decode cL_law 1079 = .ok (.iconst 1, 1) := by decide +kernel
theorem dL_law_1080 : decode cL_law 1080 = .ok (.iadd, 1) := by decide +kernel
theorem dL_law_1081 : decode cL_law 1081 = .ok (.iaload, 1) := by decide +kernel
theorem dL_law_1082 : decode cL_law 1082 = .ok (.aload_n 0, 1) := by decide +kernel
theorem dL_law_1083 : decode cL_law 1083 = .ok (.iload_n 3, 1) := by decide +kernel
theorem dL_law_1084 : decode cL_law 1084 = .ok (.iconst 2, 1) := by decide +kernel
theorem dL_law_1085 : decode cL_law 1085 = .ok (.iadd, 1) := by decide +kernel
theorem dL_law_1086 : decode cL_law 1086 = .ok (.iaload, 1) := by decide +kernel
theorem dL_law_1087 : decode cL_law 1087 = .ok (.invokevirtual 149, 3) := by decide +kernel
theorem dL_law_1090 : decode cL_law 1090 = .ok (.if_icmp .eq 175, 3) := by decide +kernel
theorem dL_law_1093 : decode cL_law 1093 = .ok (.iconst 0, 1) := by decide +kernel
theorem dL_law_1094 : decode cL_law 1094 = .ok (.ireturn, 1) := by decide +kernel
theorem dL_law_1095 : decode cL_law 1095 = .ok (.aload_n 1, 1) := by decide +kernel
theorem dL_law_1096 : decode cL_law 1096 = .ok (.aload_n 0, 1) := by decide +kernel
theorem dL_law_1097 : decode cL_law 1097 = .ok (.iload_n 3, 1) := by decide +kernel
theorem dL_law_1098 : decode cL_law 1098 = .ok (.iconst 1, 1) := by decide +kernel
theorem dL_law_1099 : decode cL_law 1099 = .ok (.iadd, 1) := by decide +kernel
theorem dL_law_1100 : decode cL_law 1100 = .ok (.iaload, 1) := by decide +kernel
theorem dL_law_1101 : decode cL_law 1101 = .ok (.invokevirtual 150, 3) := by decide +kernel
theorem dL_law_1104 : decode cL_law 1104 = .ok (.aload_n 2, 1) := by decide +kernel
theorem dL_law_1105 : decode cL_law 1105 = .ok (.aload_n 0, 1) := by decide +kernel
theorem dL_law_1106 : decode cL_law 1106 = .ok (.iload_n 3, 1) := by decide +kernel
theorem dL_law_1107 : decode cL_law 1107 = .ok (.iconst 1, 1) := by decide +kernel
theorem dL_law_1108 : decode cL_law 1108 = .ok (.iadd, 1) := by decide +kernel
theorem dL_law_1109 : decode cL_law 1109 = .ok (.iaload, 1) := by decide +kernel
theorem dL_law_1110 : decode cL_law 1110 = .ok (.invokevirtual 153, 3) := by decide +kernel
theorem dL_law_1113 : decode cL_law 1113 = .ok (.if_icmp .eq 152, 3) := by decide +kernel
theorem dL_law_1116 : decode cL_law 1116 = .ok (.iconst 0, 1) := by decide +kernel
theorem dL_law_1117 : decode cL_law 1117 = .ok (.ireturn, 1) := by decide +kernel
theorem dL_law_1118 : decode cL_law 1118 = .ok (.aload_n 1, 1) := by decide +kernel
theorem dL_law_1119 : decode cL_law 1119 = .ok (.aload_n 0, 1) := by decide +kernel
theorem dL_law_1120 : decode cL_law 1120 = .ok (.iload_n 3, 1) := by decide +kernel
theorem dL_law_1121 : decode cL_law 1121 = .ok (.iconst 1, 1) := by decide +kernel
theorem dL_law_1122 : decode cL_law 1122 = .ok (.iadd, 1) := by decide +kernel
theorem dL_law_1123 : decode cL_law 1123 = .ok (.iaload, 1) := by decide +kernel
theorem dL_law_1124 : decode cL_law 1124 = .ok (.aload_n 0, 1) := by decide +kernel
theorem dL_law_1125 : decode cL_law 1125 = .ok (.iload_n 3, 1) := by decide +kernel
theorem dL_law_1126 : decode cL_law 1126 = .ok (.iconst 2, 1) := by decide +kernel
theorem dL_law_1127 : decode cL_law 1127 = .ok (.iadd, 1) := by decide +kernel
theorem dL_law_1128 : decode cL_law 1128 = .ok (.iaload, 1) := by decide +kernel
theorem dL_law_1129 : decode cL_law 1129 = .ok (.invokevirtual 154, 3) := by decide +kernel
theorem dL_law_1132 : decode cL_law 1132 = .ok (.aload_n 2, 1) := by decide +kernel
theorem dL_law_1133 : decode cL_law 1133 = .ok (.aload_n 0, 1) := by decide +kernel
theorem dL_law_1134 : decode cL_law 1134 = .ok (.iload_n 3, 1) := by decide +kernel
theorem dL_law_1135 : decode cL_law 1135 = .ok (.iconst 1, 1) := by decide +kernel
theorem dL_law_1136 : decode cL_law 1136 = .ok (.iadd, 1) := by decide +kernel
theorem dL_law_1137 : decode cL_law 1137 = .ok (.iaload, 1) := by decide +kernel
theorem dL_law_1138 : decode cL_law 1138 = .ok (.aload_n 0, 1) := by decide +kernel
theorem dL_law_1139 : decode cL_law 1139 = .ok (.iload_n 3, 1) := by decide +kernel
theorem dL_law_1140 : decode cL_law 1140 = .ok (.iconst 2, 1) := by decide +kernel
theorem dL_law_1141 : decode cL_law 1141 = .ok (.iadd, 1) := by decide +kernel
theorem dL_law_1142 : decode cL_law 1142 = .ok (.iaload, 1) := by decide +kernel
theorem dL_law_1143 : decode cL_law 1143 = .ok (.invokevirtual 157, 3) := by decide +kernel
theorem dL_law_1146 : decode cL_law 1146 = .ok (.if_icmp .eq 119, 3) := by decide +kernel
theorem dL_law_1149 : decode cL_law 1149 = .ok (.iconst 0, 1) := by decide +kernel
theorem dL_law_1150 : decode cL_law 1150 = .ok (.ireturn, 1) := by decide +kernel
theorem dL_law_1151 : decode cL_law 1151 = .ok (.aload_n 1, 1) := by decide +kernel
theorem dL_law_1152 : decode cL_law 1152 = .ok (.invokevirtual 158, 3) := by decide +kernel
theorem dL_law_1155 : decode cL_law 1155 = .ok (.aload_n 2, 1) := by decide +kernel
theorem dL_law_1156 : decode cL_law 1156 = .ok (.invokevirtual 161, 3) := by decide +kernel
theorem dL_law_1159 : decode cL_law 1159 = .ok (.if_icmp .eq 106, 3) := by decide +kernel
theorem dL_law_1162 : decode cL_law 1162 = .ok (.iconst 0, 1) := by decide +kernel
theorem dL_law_1163 : decode cL_law 1163 = .ok (.ireturn, 1) := by decide +kernel
theorem dL_law_1164 : decode cL_law 1164 = .ok (.aload_n 1, 1) := by decide +kernel
theorem dL_law_1165 : decode cL_law 1165 = .ok (.invokevirtual 162, 3) := by decide +kernel
theorem dL_law_1168 : decode cL_law 1168 = .ok (.aload_n 2, 1) := by decide +kernel
theorem dL_law_1169 : decode cL_law 1169 = .ok (.invokevirtual 166, 3) := by decide +kernel
theorem dL_law_1172 : decode cL_law 1172 = .ok (.lcmp, 1) := by decide +kernel
theorem dL_law_1173 : decode cL_law 1173 = .ok (.ifCond .eq 92, 3) := by decide +kernel
theorem dL_law_1176 : decode cL_law 1176 = .ok (.iconst 0, 1) := by decide +kernel
theorem dL_law_1177 : decode cL_law 1177 = .ok (.ireturn, 1) := by decide +kernel
theorem dL_law_1178 : decode cL_law 1178 = .ok (.aload_n 1, 1) := by decide +kernel
theorem dL_law_1179 : decode cL_law 1179 = .ok (.invokevirtual 167, 3) := by decide +kernel
theorem dL_law_1182 : decode cL_law 1182 = .ok (.aload_n 2, 1) := by decide +kernel
theorem dL_law_1183 : decode cL_law 1183 = .ok (.invokevirtual 170, 3) := by decide +kernel
theorem dL_law_1186 : decode cL_law 1186 = .ok (.lcmp, 1) := by decide +kernel
theorem dL_law_1187 : decode cL_law 1187 = .ok (.ifCond .eq 78, 3) := by decide +kernel
theorem dL_law_1190 : decode cL_law 1190 = .ok (.iconst 0, 1) := by decide +kernel
theorem dL_law_1191 : decode cL_law 1191 = .ok (.ireturn, 1) := by decide +kernel
theorem dL_law_1192 : decode cL_law 1192 = .ok (.aload_n 1, 1) := by decide +kernel
theorem dL_law_1193 : decode cL_law 1193 = .ok (.aload_n 0, 1) := by decide +kernel
theorem dL_law_1194 : decode cL_law 1194 = .ok (.iload_n 3, 1) := by decide +kernel
theorem dL_law_1195 : decode cL_law 1195 = .ok (.iconst 1, 1) := by decide +kernel
theorem dL_law_1196 : decode cL_law 1196 = .ok (.iadd, 1) := by decide +kernel
theorem dL_law_1197 : decode cL_law 1197 = .ok (.iaload, 1) := by decide +kernel
theorem dL_law_1198 : decode cL_law 1198 = .ok (.invokevirtual 171, 3) := by decide +kernel
theorem dL_law_1201 : decode cL_law 1201 = .ok (.aload_n 2, 1) := by decide +kernel
theorem dL_law_1202 : decode cL_law 1202 = .ok (.aload_n 0, 1) := by decide +kernel
theorem dL_law_1203 : decode cL_law 1203 = .ok (.iload_n 3, 1) := by decide +kernel
theorem dL_law_1204 : decode cL_law 1204 = .ok (.iconst 1, 1) := by decide +kernel
theorem dL_law_1205 : decode cL_law 1205 = .ok (.iadd, 1) := by decide +kernel
theorem dL_law_1206 : decode cL_law 1206 = .ok (.iaload, 1) := by decide +kernel
theorem dL_law_1207 : decode cL_law 1207 = .ok (.invokevirtual 174, 3) := by decide +kernel
theorem dL_law_1210 : decode cL_law 1210 = .ok (.if_icmp .eq 55, 3) := by decide +kernel
theorem dL_law_1213 : decode cL_law 1213 = .ok (.iconst 0, 1) := by decide +kernel
theorem dL_law_1214 : decode cL_law 1214 = .ok (.ireturn, 1) := by decide +kernel
theorem dL_law_1215 : decode cL_law 1215 = .ok (.aload_n 1, 1) := by decide +kernel
theorem dL_law_1216 : decode cL_law 1216 = .ok (.invokevirtual 175, 3) := by decide +kernel
theorem dL_law_1219 : decode cL_law 1219 = .ok (.aload_n 2, 1) := by decide +kernel
theorem dL_law_1220 : decode cL_law 1220 = .ok (.invokevirtual 178, 3) := by decide +kernel
theorem dL_law_1223 : decode cL_law 1223 = .ok (.if_icmp .eq 42, 3) := by decide +kernel
theorem dL_law_1226 : decode cL_law 1226 = .ok (.iconst 0, 1) := by decide +kernel
theorem dL_law_1227 : decode cL_law 1227 = .ok (.ireturn, 1) := by decide +kernel
theorem dL_law_1228 : decode cL_law 1228 = .ok (.aload_n 1, 1) := by decide +kernel
theorem dL_law_1229 : decode cL_law 1229 = .ok (.aload_n 0, 1) := by decide +kernel
theorem dL_law_1230 : decode cL_law 1230 = .ok (.iload_n 3, 1) := by decide +kernel
theorem dL_law_1231 : decode cL_law 1231 = .ok (.iconst 1, 1) := by decide +kernel
theorem dL_law_1232 : decode cL_law 1232 = .ok (.iadd, 1) := by decide +kernel
theorem dL_law_1233 : decode cL_law 1233 = .ok (.iaload, 1) := by decide +kernel
theorem dL_law_1234 : decode cL_law 1234 = .ok (.invokevirtual 179, 3) := by decide +kernel
theorem dL_law_1237 : decode cL_law 1237 = .ok (.aload_n 2, 1) := by decide +kernel
theorem dL_law_1238 : decode cL_law 1238 = .ok (.aload_n 0, 1) := by decide +kernel
theorem dL_law_1239 : decode cL_law 1239 = .ok (.iload_n 3, 1) := by decide +kernel
theorem dL_law_1240 : decode cL_law 1240 = .ok (.iconst 1, 1) := by decide +kernel
theorem dL_law_1241 : decode cL_law 1241 = .ok (.iadd, 1) := by decide +kernel
theorem dL_law_1242 : decode cL_law 1242 = .ok (.iaload, 1) := by decide +kernel
theorem dL_law_1243 : decode cL_law 1243 = .ok (.invokevirtual 182, 3) := by decide +kernel
theorem dL_law_1246 : decode cL_law 1246 = .ok (.if_icmp .eq 19, 3) := by decide +kernel
theorem dL_law_1249 : decode cL_law 1249 = .ok (.iconst 0, 1) := by decide +kernel
theorem dL_law_1250 : decode cL_law 1250 = .ok (.ireturn, 1) := by decide +kernel
theorem dL_law_1251 : decode cL_law 1251 = .ok (.aload_n 1, 1) := by decide +kernel
theorem dL_law_1252 : decode cL_law 1252 = .ok (.invokevirtual 183, 3) := by decide +kernel
theorem dL_law_1255 : decode cL_law 1255 = .ok (.aload_n 2, 1) := by decide +kernel
theorem dL_law_1256 : decode cL_law 1256 = .ok (.invokevirtual 186, 3) := by decide +kernel
theorem dL_law_1259 : decode cL_law 1259 = .ok (.lcmp, 1) := by decide +kernel
theorem dL_law_1260 : decode cL_law 1260 = .ok (.ifCond .eq 5, 3) := by decide +kernel
theorem dL_law_1263 : decode cL_law 1263 = .ok (.iconst 0, 1) := by decide +kernel
theorem dL_law_1264 : decode cL_law 1264 = .ok (.ireturn, 1) := by decide +kernel
theorem dL_law_1265 : decode cL_law 1265 = .ok (.iinc 3 6, 3) := by decide +kernel
theorem dL_law_1268 : decode cL_law 1268 = .ok (.goto (-1250), 3) := by decide +kernel
theorem dL_law_1271 : decode cL_law 1271 = .ok (.iconst 1, 1) := by decide +kernel
theorem dL_law_1272 : decode cL_law 1272 = .ok (.ireturn, 1) := by decide +kernel
end
section
theorem mz_L : Cond.initialized RL ∈ gw := gw_mem (List.mem_of_getElem? (i := 55) (by decide +kernel)) rfl
theorem mz_X5 : Cond.initialized RX5 ∈ gw := gw_mem (List.mem_of_getElem? (i := 56) (by decide +kernel)) rfl
theorem mz_X3 : Cond.initialized RX3 ∈ gw := gw_mem (List.mem_of_getElem? (i := 57) (by decide +kernel)) rfl
theorem mz_J7 : Cond.initialized RJ7 ∈ gw := gw_mem (List.mem_of_getElem? (i := 58) (by decide +kernel)) rfl
theorem mz_X2 : Cond.initialized RX2 ∈ gw := gw_mem (List.mem_of_getElem? (i := 59) (by decide +kernel)) rfl
theorem mz_X4 : Cond.initialized RX4 ∈ gw := gw_mem (List.mem_of_getElem? (i := 60) (by decide +kernel)) rfl
theorem mz_X1 : Cond.initialized RX1 ∈ gw := gw_mem (List.mem_of_getElem? (i := 61) (by decide +kernel)) rfl
theorem mz_X0 : Cond.initialized RX0 ∈ gw := gw_mem (List.mem_of_getElem? (i := 62) (by decide +kernel)) rfl
theorem mz_X6 : Cond.initialized RX6 ∈ gw := gw_mem (List.mem_of_getElem? (i := 63) (by decide +kernel)) rfl
theorem mz_J10 : Cond.initialized RJ10 ∈ gw := gw_mem (List.mem_of_getElem? (i := 64) (by decide +kernel)) rfl
theorem mz_J9 : Cond.initialized RJ9 ∈ gw := gw_mem (List.mem_of_getElem? (i := 65) (by decide +kernel)) rfl
theorem mz_J6 : Cond.initialized RJ6 ∈ gw := gw_mem (List.mem_of_getElem? (i := 66) (by decide +kernel)) rfl
theorem mm_L_9 : Cond.methodLink RL 9 yX5_init ∈ gw := gw_mem (List.mem_of_getElem? (i := 69) (by decide +kernel)) rfl
theorem mi_X5_init : Cond.instanceMethod yX5_init ∈ gw := gw_mem (List.mem_of_getElem? (i := 70) (by decide +kernel)) rfl
theorem mc_X5_init : Cond.code yX5_init cX5_init 2 (none) ∈ gw := gw_mem (List.mem_of_getElem? (i := 71) (by decide +kernel)) rfl
theorem mm_X5_1 : Cond.methodLink RX5 1 objectInit ∈ gw := gw_mem (List.mem_of_getElem? (i := 72) (by decide +kernel)) rfl
theorem mi_J_objectInit : Cond.instanceMethod objectInit ∈ gw := gw_mem (List.mem_of_getElem? (i := 73) (by decide +kernel)) rfl
theorem mc_J_objectInit : Cond.code objectInit ⟨#[0xb1]⟩ 1 (none) ∈ gw := gw_mem (List.mem_of_getElem? (i := 74) (by decide +kernel)) rfl
theorem mm_X5_11 : Cond.methodLink RX5 11 yX3_init ∈ gw := gw_mem (List.mem_of_getElem? (i := 77) (by decide +kernel)) rfl
theorem mi_X3_init : Cond.instanceMethod yX3_init ∈ gw := gw_mem (List.mem_of_getElem? (i := 78) (by decide +kernel)) rfl
theorem mc_X3_init : Cond.code yX3_init cX3_init 3 (none) ∈ gw := gw_mem (List.mem_of_getElem? (i := 79) (by decide +kernel)) rfl
theorem mm_X3_3 : Cond.methodLink RX3 3 objectInit ∈ gw := gw_mem (List.mem_of_getElem? (i := 80) (by decide +kernel)) rfl
theorem mm_X3_24 : Cond.methodLink RX3 24 yJ7_fill_53178 ∈ gw := gw_mem (List.mem_of_getElem? (i := 83) (by decide +kernel)) rfl
theorem mt_J7_fill_53178 : Cond.static yJ7_fill_53178 ∈ gw := gw_mem (List.mem_of_getElem? (i := 84) (by decide +kernel)) rfl
theorem mc_J7_fill_53178 : Cond.code yJ7_fill_53178 cJ7_fill_53178 4 (none) ∈ gw := gw_mem (List.mem_of_getElem? (i := 85) (by decide +kernel)) rfl
theorem mf_X3_9 : Cond.fieldLink RX3 9 "WheelWeeks$Shelf" "most" "I" ∈ gw := gw_mem (List.mem_of_getElem? (i := 86) (by decide +kernel)) rfl
theorem mf_X5_284 : Cond.fieldLink RX5 284 "WheelWeeks$Shelf" "most" "I" ∈ gw := gw_mem (List.mem_of_getElem? (i := 87) (by decide +kernel)) rfl
theorem mf_X3_17 : Cond.fieldLink RX3 17 "WheelWeeks$Shelf" "places" "[[I" ∈ gw := gw_mem (List.mem_of_getElem? (i := 88) (by decide +kernel)) rfl
theorem mf_X3_20 : Cond.fieldLink RX3 20 "WheelWeeks$Shelf" "sizes" "[I" ∈ gw := gw_mem (List.mem_of_getElem? (i := 89) (by decide +kernel)) rfl
theorem mm_X5_23 : Cond.methodLinkNest RX5 23 yX2_init "WheelWeeks" ∈ lw_tbl := List.mem_of_getElem? (i := 100) (by decide +kernel)
theorem mi_X2_init : Cond.instanceMethod yX2_init ∈ gw := gw_mem (List.mem_of_getElem? (i := 101) (by decide +kernel)) rfl
theorem mc_X2_init : Cond.code yX2_init cX2_init 1 (none) ∈ gw := gw_mem (List.mem_of_getElem? (i := 102) (by decide +kernel)) rfl
theorem mm_X2_3 : Cond.methodLink RX2 3 objectInit ∈ gw := gw_mem (List.mem_of_getElem? (i := 103) (by decide +kernel)) rfl
theorem mm_X2_11 : Cond.methodLinkNest RX2 11 yX4_init "WheelWeeks" ∈ lw_tbl := List.mem_of_getElem? (i := 106) (by decide +kernel)
theorem mi_X4_init : Cond.instanceMethod yX4_init ∈ gw := gw_mem (List.mem_of_getElem? (i := 107) (by decide +kernel)) rfl
theorem mc_X4_init : Cond.code yX4_init cX4_init 1 (none) ∈ gw := gw_mem (List.mem_of_getElem? (i := 108) (by decide +kernel)) rfl
theorem mm_X4_3 : Cond.methodLink RX4 3 objectInit ∈ gw := gw_mem (List.mem_of_getElem? (i := 109) (by decide +kernel)) rfl
theorem mf_X4_9 : Cond.fieldLink RX4 9 "WheelWeeks$Wheel" "depths" "[I" ∈ gw := gw_mem (List.mem_of_getElem? (i := 110) (by decide +kernel)) rfl
theorem mf_X2_52 : Cond.fieldLink RX2 52 "WheelWeeks$Wheel" "depths" "[I" ∈ gw := gw_mem (List.mem_of_getElem? (i := 111) (by decide +kernel)) rfl
theorem mf_X4_15 : Cond.fieldLink RX4 15 "WheelWeeks$Wheel" "kind" "[I" ∈ gw := gw_mem (List.mem_of_getElem? (i := 112) (by decide +kernel)) rfl
theorem mf_X2_64 : Cond.fieldLink RX2 64 "WheelWeeks$Wheel" "kind" "[I" ∈ gw := gw_mem (List.mem_of_getElem? (i := 113) (by decide +kernel)) rfl
theorem mf_X0_87 : Cond.fieldLink RX0 87 "WheelWeeks$Wheel" "kind" "[I" ∈ gw := gw_mem (List.mem_of_getElem? (i := 114) (by decide +kernel)) rfl
theorem mf_X5_142 : Cond.fieldLink RX5 142 "WheelWeeks$Wheel" "kind" "[I" ∈ gw := gw_mem (List.mem_of_getElem? (i := 115) (by decide +kernel)) rfl
theorem mf_X4_18 : Cond.fieldLink RX4 18 "WheelWeeks$Wheel" "length" "[I" ∈ gw := gw_mem (List.mem_of_getElem? (i := 116) (by decide +kernel)) rfl
theorem mf_X2_67 : Cond.fieldLink RX2 67 "WheelWeeks$Wheel" "length" "[I" ∈ gw := gw_mem (List.mem_of_getElem? (i := 117) (by decide +kernel)) rfl
theorem mf_X4_21 : Cond.fieldLink RX4 21 "WheelWeeks$Wheel" "strong" "[I" ∈ gw := gw_mem (List.mem_of_getElem? (i := 118) (by decide +kernel)) rfl
theorem mf_X2_70 : Cond.fieldLink RX2 70 "WheelWeeks$Wheel" "strong" "[I" ∈ gw := gw_mem (List.mem_of_getElem? (i := 119) (by decide +kernel)) rfl
theorem mf_X0_83 : Cond.fieldLink RX0 83 "WheelWeeks$Wheel" "strong" "[I" ∈ gw := gw_mem (List.mem_of_getElem? (i := 120) (by decide +kernel)) rfl
theorem mf_X5_152 : Cond.fieldLink RX5 152 "WheelWeeks$Wheel" "strong" "[I" ∈ gw := gw_mem (List.mem_of_getElem? (i := 121) (by decide +kernel)) rfl
theorem mf_X4_24 : Cond.fieldLink RX4 24 "WheelWeeks$Wheel" "wear" "[I" ∈ gw := gw_mem (List.mem_of_getElem? (i := 122) (by decide +kernel)) rfl
theorem mf_X0_99 : Cond.fieldLink RX0 99 "WheelWeeks$Wheel" "wear" "[I" ∈ gw := gw_mem (List.mem_of_getElem? (i := 123) (by decide +kernel)) rfl
theorem mf_X2_35 : Cond.fieldLink RX2 35 "WheelWeeks$Wheel" "spokes" "I" ∈ gw := gw_mem (List.mem_of_getElem? (i := 124) (by decide +kernel)) rfl
theorem mf_X4_33 : Cond.fieldLink RX4 33 "WheelWeeks$Wheel" "spokes" "I" ∈ gw := gw_mem (List.mem_of_getElem? (i := 125) (by decide +kernel)) rfl
theorem mf_X0_47 : Cond.fieldLink RX0 47 "WheelWeeks$Wheel" "spokes" "I" ∈ gw := gw_mem (List.mem_of_getElem? (i := 126) (by decide +kernel)) rfl
theorem mf_X5_131 : Cond.fieldLink RX5 131 "WheelWeeks$Wheel" "spokes" "I" ∈ gw := gw_mem (List.mem_of_getElem? (i := 127) (by decide +kernel)) rfl
theorem mf_X4_37 : Cond.fieldLink RX4 37 "WheelWeeks$Wheel" "gateRut" "I" ∈ gw := gw_mem (List.mem_of_getElem? (i := 128) (by decide +kernel)) rfl
theorem mf_X2_58 : Cond.fieldLink RX2 58 "WheelWeeks$Wheel" "gateRut" "I" ∈ gw := gw_mem (List.mem_of_getElem? (i := 129) (by decide +kernel)) rfl
theorem mf_X5_320 : Cond.fieldLink RX5 320 "WheelWeeks$Wheel" "gateRut" "I" ∈ gw := gw_mem (List.mem_of_getElem? (i := 130) (by decide +kernel)) rfl
theorem mf_X4_40 : Cond.fieldLink RX4 40 "WheelWeeks$Wheel" "stand" "I" ∈ gw := gw_mem (List.mem_of_getElem? (i := 131) (by decide +kernel)) rfl
theorem mf_X0_66 : Cond.fieldLink RX0 66 "WheelWeeks$Wheel" "stand" "I" ∈ gw := gw_mem (List.mem_of_getElem? (i := 132) (by decide +kernel)) rfl
theorem mf_X5_317 : Cond.fieldLink RX5 317 "WheelWeeks$Wheel" "stand" "I" ∈ gw := gw_mem (List.mem_of_getElem? (i := 133) (by decide +kernel)) rfl
theorem mf_X0_33 : Cond.fieldLink RX0 33 "WheelWeeks$Wheel" "rut" "I" ∈ gw := gw_mem (List.mem_of_getElem? (i := 134) (by decide +kernel)) rfl
theorem mf_X4_43 : Cond.fieldLink RX4 43 "WheelWeeks$Wheel" "rut" "I" ∈ gw := gw_mem (List.mem_of_getElem? (i := 135) (by decide +kernel)) rfl
theorem mf_X5_254 : Cond.fieldLink RX5 254 "WheelWeeks$Wheel" "rut" "I" ∈ gw := gw_mem (List.mem_of_getElem? (i := 136) (by decide +kernel)) rfl
theorem mf_X4_46 : Cond.fieldLink RX4 46 "WheelWeeks$Wheel" "there" "I" ∈ gw := gw_mem (List.mem_of_getElem? (i := 137) (by decide +kernel)) rfl
theorem mf_X0_76 : Cond.fieldLink RX0 76 "WheelWeeks$Wheel" "there" "I" ∈ gw := gw_mem (List.mem_of_getElem? (i := 138) (by decide +kernel)) rfl
theorem mf_X5_228 : Cond.fieldLink RX5 228 "WheelWeeks$Wheel" "there" "I" ∈ gw := gw_mem (List.mem_of_getElem? (i := 139) (by decide +kernel)) rfl
theorem mf_X4_49 : Cond.fieldLink RX4 49 "WheelWeeks$Wheel" "dry" "Z" ∈ gw := gw_mem (List.mem_of_getElem? (i := 140) (by decide +kernel)) rfl
theorem mf_X0_102 : Cond.fieldLink RX0 102 "WheelWeeks$Wheel" "dry" "Z" ∈ gw := gw_mem (List.mem_of_getElem? (i := 141) (by decide +kernel)) rfl
theorem mf_X5_155 : Cond.fieldLink RX5 155 "WheelWeeks$Wheel" "dry" "Z" ∈ gw := gw_mem (List.mem_of_getElem? (i := 142) (by decide +kernel)) rfl
theorem mf_X2_12 : Cond.fieldLink RX2 12 "WheelWeeks$Reader" "draft" "LWheelWeeks$Wheel;" ∈ gw := gw_mem (List.mem_of_getElem? (i := 166) (by decide +kernel)) rfl
theorem mf_X5_125 : Cond.fieldLink RX5 125 "WheelWeeks$Reader" "draft" "LWheelWeeks$Wheel;" ∈ gw := gw_mem (List.mem_of_getElem? (i := 167) (by decide +kernel)) rfl
theorem mf_X2_18 : Cond.fieldLink RX2 18 "WheelWeeks$Reader" "signs" "[I" ∈ gw := gw_mem (List.mem_of_getElem? (i := 168) (by decide +kernel)) rfl
theorem mf_X2_28 : Cond.fieldLink RX2 28 "WheelWeeks$Reader" "size" "I" ∈ gw := gw_mem (List.mem_of_getElem? (i := 169) (by decide +kernel)) rfl
theorem mf_X2_32 : Cond.fieldLink RX2 32 "WheelWeeks$Reader" "place" "I" ∈ gw := gw_mem (List.mem_of_getElem? (i := 170) (by decide +kernel)) rfl
theorem mm_X5_30 : Cond.methodLinkNest RX5 30 yX1_init "WheelWeeks" ∈ lw_tbl := List.mem_of_getElem? (i := 182) (by decide +kernel)
theorem mi_X1_init : Cond.instanceMethod yX1_init ∈ gw := gw_mem (List.mem_of_getElem? (i := 183) (by decide +kernel)) rfl
theorem mc_X1_init : Cond.code yX1_init cX1_init 1 (none) ∈ gw := gw_mem (List.mem_of_getElem? (i := 184) (by decide +kernel)) rfl
theorem mm_X1_3 : Cond.methodLink RX1 3 objectInit ∈ gw := gw_mem (List.mem_of_getElem? (i := 185) (by decide +kernel)) rfl
theorem mm_X1_11 : Cond.methodLinkNest RX1 11 yX4_init "WheelWeeks" ∈ lw_tbl := List.mem_of_getElem? (i := 187) (by decide +kernel)
theorem mf_X1_12 : Cond.fieldLink RX1 12 "WheelWeeks$Cart" "wheel" "LWheelWeeks$Wheel;" ∈ gw := gw_mem (List.mem_of_getElem? (i := 188) (by decide +kernel)) rfl
theorem mf_X5_45 : Cond.fieldLink RX5 45 "WheelWeeks$Cart" "wheel" "LWheelWeeks$Wheel;" ∈ gw := gw_mem (List.mem_of_getElem? (i := 189) (by decide +kernel)) rfl
theorem mf_X1_18 : Cond.fieldLink RX1 18 "WheelWeeks$Cart" "deeds" "[I" ∈ gw := gw_mem (List.mem_of_getElem? (i := 190) (by decide +kernel)) rfl
theorem mf_X1_22 : Cond.fieldLink RX1 22 "WheelWeeks$Cart" "doneTo" "[I" ∈ gw := gw_mem (List.mem_of_getElem? (i := 191) (by decide +kernel)) rfl
theorem mf_X5_39 : Cond.fieldLink RX5 39 "WheelWeeks$Cart" "done" "I" ∈ gw := gw_mem (List.mem_of_getElem? (i := 192) (by decide +kernel)) rfl
theorem mf_X1_32 : Cond.fieldLink RX1 32 "WheelWeeks$Cart" "done" "I" ∈ gw := gw_mem (List.mem_of_getElem? (i := 193) (by decide +kernel)) rfl
theorem mm_X5_49 : Cond.methodLink RX5 49 yX0_init ∈ gw := gw_mem (List.mem_of_getElem? (i := 206) (by decide +kernel)) rfl
theorem mi_X0_init : Cond.instanceMethod yX0_init ∈ gw := gw_mem (List.mem_of_getElem? (i := 207) (by decide +kernel)) rfl
theorem mc_X0_init : Cond.code yX0_init cX0_init 2 (none) ∈ gw := gw_mem (List.mem_of_getElem? (i := 208) (by decide +kernel)) rfl
theorem mm_X0_3 : Cond.methodLink RX0 3 objectInit ∈ gw := gw_mem (List.mem_of_getElem? (i := 209) (by decide +kernel)) rfl
theorem mm_X0_17 : Cond.methodLinkNest RX0 17 yX4_init "WheelWeeks" ∈ lw_tbl := List.mem_of_getElem? (i := 211) (by decide +kernel)
theorem mf_X0_29 : Cond.fieldLink RX0 29 "WheelWeeks$Aside" "found" "I" ∈ gw := gw_mem (List.mem_of_getElem? (i := 212) (by decide +kernel)) rfl
theorem mf_X5_287 : Cond.fieldLink RX5 287 "WheelWeeks$Aside" "found" "I" ∈ gw := gw_mem (List.mem_of_getElem? (i := 213) (by decide +kernel)) rfl
theorem mf_X0_9 : Cond.fieldLink RX0 9 "WheelWeeks$Aside" "now" "LWheelWeeks$Wheel;" ∈ gw := gw_mem (List.mem_of_getElem? (i := 214) (by decide +kernel)) rfl
theorem mf_X0_18 : Cond.fieldLink RX0 18 "WheelWeeks$Aside" "trial" "LWheelWeeks$Wheel;" ∈ gw := gw_mem (List.mem_of_getElem? (i := 215) (by decide +kernel)) rfl
theorem mf_X5_14 : Cond.fieldLink RX5 14 "WheelWeeks" "rows" "LWheelWeeks$Shelf;" ∈ gw := gw_mem (List.mem_of_getElem? (i := 223) (by decide +kernel)) rfl
theorem mf_X5_18 : Cond.fieldLink RX5 18 "WheelWeeks" "texts" "LWheelWeeks$Shelf;" ∈ gw := gw_mem (List.mem_of_getElem? (i := 224) (by decide +kernel)) rfl
theorem mf_X5_24 : Cond.fieldLink RX5 24 "WheelWeeks" "reader" "LWheelWeeks$Reader;" ∈ gw := gw_mem (List.mem_of_getElem? (i := 225) (by decide +kernel)) rfl
theorem mf_X5_31 : Cond.fieldLink RX5 31 "WheelWeeks" "cart" "LWheelWeeks$Cart;" ∈ gw := gw_mem (List.mem_of_getElem? (i := 226) (by decide +kernel)) rfl
theorem mf_X5_35 : Cond.fieldLink RX5 35 "WheelWeeks" "kept" "[LWheelWeeks$Cart;" ∈ gw := gw_mem (List.mem_of_getElem? (i := 227) (by decide +kernel)) rfl
theorem mf_X5_52 : Cond.fieldLink RX5 52 "WheelWeeks" "aside" "LWheelWeeks$Aside;" ∈ gw := gw_mem (List.mem_of_getElem? (i := 228) (by decide +kernel)) rfl
theorem mf_X5_56 : Cond.fieldLink RX5 56 "WheelWeeks" "tallies" "[I" ∈ gw := gw_mem (List.mem_of_getElem? (i := 229) (by decide +kernel)) rfl
theorem mf_X5_266 : Cond.fieldLink RX5 266 "WheelWeeks" "findingLast" "I" ∈ gw := gw_mem (List.mem_of_getElem? (i := 230) (by decide +kernel)) rfl
theorem mf_X5_257 : Cond.fieldLink RX5 257 "WheelWeeks" "askedLast" "I" ∈ gw := gw_mem (List.mem_of_getElem? (i := 231) (by decide +kernel)) rfl
theorem mf_X5_260 : Cond.fieldLink RX5 260 "WheelWeeks" "upperLast" "J" ∈ gw := gw_mem (List.mem_of_getElem? (i := 232) (by decide +kernel)) rfl
theorem mf_X5_60 : Cond.fieldLink RX5 60 "WheelWeeks" "lowerLast" "J" ∈ gw := gw_mem (List.mem_of_getElem? (i := 233) (by decide +kernel)) rfl
theorem mm_L_13 : Cond.methodLink RL 13 yX5_row ∈ gw := gw_mem (List.mem_of_getElem? (i := 257) (by decide +kernel)) rfl
theorem mi_X5_row : Cond.instanceMethod yX5_row ∈ gw := gw_mem (List.mem_of_getElem? (i := 258) (by decide +kernel)) rfl
theorem ms_X5_row : Cond.selects RX5 yX5_row yX5_row ∈ gw := gw_mem (List.mem_of_getElem? (i := 259) (by decide +kernel)) rfl
theorem mc_X5_row : Cond.code yX5_row cX5_row 3 (some .int) ∈ gw := gw_mem (List.mem_of_getElem? (i := 260) (by decide +kernel)) rfl
theorem mm_X5_64 : Cond.methodLink RX5 64 yX5_makeAnew ∈ gw := gw_mem (List.mem_of_getElem? (i := 261) (by decide +kernel)) rfl
theorem mi_X5_makeAnew : Cond.instanceMethod yX5_makeAnew ∈ gw := gw_mem (List.mem_of_getElem? (i := 263) (by decide +kernel)) rfl
theorem mc_X5_makeAnew : Cond.code yX5_makeAnew cX5_makeAnew 5 (some .int) ∈ gw := gw_mem (List.mem_of_getElem? (i := 264) (by decide +kernel)) rfl
theorem mm_X5_92 : Cond.methodLink RX5 92 yX3_isNumber ∈ gw := gw_mem (List.mem_of_getElem? (i := 265) (by decide +kernel)) rfl
theorem mi_X3_isNumber : Cond.instanceMethod yX3_isNumber ∈ gw := gw_mem (List.mem_of_getElem? (i := 266) (by decide +kernel)) rfl
theorem ms_X3_isNumber : Cond.selects RX3 yX3_isNumber yX3_isNumber ∈ gw := gw_mem (List.mem_of_getElem? (i := 267) (by decide +kernel)) rfl
theorem mc_X3_isNumber : Cond.code yX3_isNumber cX3_isNumber 2 (some .boolean) ∈ gw := gw_mem (List.mem_of_getElem? (i := 268) (by decide +kernel)) rfl
theorem mm_X5_96 : Cond.methodLink RX5 96 yX5_refuse ∈ gw := gw_mem (List.mem_of_getElem? (i := 269) (by decide +kernel)) rfl
theorem mi_X5_refuse : Cond.instanceMethod yX5_refuse ∈ gw := gw_mem (List.mem_of_getElem? (i := 271) (by decide +kernel)) rfl
theorem mc_X5_refuse : Cond.code yX5_refuse cX5_refuse 2 (some .int) ∈ gw := gw_mem (List.mem_of_getElem? (i := 272) (by decide +kernel)) rfl
theorem mm_X5_193 : Cond.methodLink RX5 193 yX3_makeOne ∈ gw := gw_mem (List.mem_of_getElem? (i := 273) (by decide +kernel)) rfl
theorem mi_X3_makeOne : Cond.instanceMethod yX3_makeOne ∈ gw := gw_mem (List.mem_of_getElem? (i := 274) (by decide +kernel)) rfl
theorem ms_X3_makeOne : Cond.selects RX3 yX3_makeOne yX3_makeOne ∈ gw := gw_mem (List.mem_of_getElem? (i := 275) (by decide +kernel)) rfl
theorem mc_X3_makeOne : Cond.code yX3_makeOne cX3_makeOne 4 (none) ∈ gw := gw_mem (List.mem_of_getElem? (i := 276) (by decide +kernel)) rfl
theorem mm_L_18 : Cond.methodLink RL 18 yX5_lay ∈ gw := gw_mem (List.mem_of_getElem? (i := 277) (by decide +kernel)) rfl
theorem mi_X5_lay : Cond.instanceMethod yX5_lay ∈ gw := gw_mem (List.mem_of_getElem? (i := 278) (by decide +kernel)) rfl
theorem ms_X5_lay : Cond.selects RX5 yX5_lay yX5_lay ∈ gw := gw_mem (List.mem_of_getElem? (i := 279) (by decide +kernel)) rfl
theorem mc_X5_lay : Cond.code yX5_lay cX5_lay 5 (some .int) ∈ gw := gw_mem (List.mem_of_getElem? (i := 280) (by decide +kernel)) rfl
theorem mm_X5_68 : Cond.methodLink RX5 68 yX5_refusePlace ∈ gw := gw_mem (List.mem_of_getElem? (i := 281) (by decide +kernel)) rfl
theorem mi_X5_refusePlace : Cond.instanceMethod yX5_refusePlace ∈ gw := gw_mem (List.mem_of_getElem? (i := 283) (by decide +kernel)) rfl
theorem mc_X5_refusePlace : Cond.code yX5_refusePlace cX5_refusePlace 5 (some .int) ∈ gw := gw_mem (List.mem_of_getElem? (i := 284) (by decide +kernel)) rfl
theorem mm_X5_84 : Cond.methodLink RX5 84 yX5_refuseMissing ∈ gw := gw_mem (List.mem_of_getElem? (i := 285) (by decide +kernel)) rfl
theorem mi_X5_refuseMissing : Cond.instanceMethod yX5_refuseMissing ∈ gw := gw_mem (List.mem_of_getElem? (i := 287) (by decide +kernel)) rfl
theorem mc_X5_refuseMissing : Cond.code yX5_refuseMissing cX5_refuseMissing 3 (some .int) ∈ gw := gw_mem (List.mem_of_getElem? (i := 288) (by decide +kernel)) rfl
theorem mm_X5_99 : Cond.methodLink RX5 99 yX3_isMissing ∈ gw := gw_mem (List.mem_of_getElem? (i := 289) (by decide +kernel)) rfl
theorem mi_X3_isMissing : Cond.instanceMethod yX3_isMissing ∈ gw := gw_mem (List.mem_of_getElem? (i := 290) (by decide +kernel)) rfl
theorem ms_X3_isMissing : Cond.selects RX3 yX3_isMissing yX3_isMissing ∈ gw := gw_mem (List.mem_of_getElem? (i := 291) (by decide +kernel)) rfl
theorem mc_X3_isMissing : Cond.code yX3_isMissing cX3_isMissing 2 (some .boolean) ∈ gw := gw_mem (List.mem_of_getElem? (i := 292) (by decide +kernel)) rfl
theorem mm_X5_278 : Cond.methodLink RX5 278 yX3_isPlace ∈ gw := gw_mem (List.mem_of_getElem? (i := 293) (by decide +kernel)) rfl
theorem mi_X3_isPlace : Cond.instanceMethod yX3_isPlace ∈ gw := gw_mem (List.mem_of_getElem? (i := 294) (by decide +kernel)) rfl
theorem ms_X3_isPlace : Cond.selects RX3 yX3_isPlace yX3_isPlace ∈ gw := gw_mem (List.mem_of_getElem? (i := 295) (by decide +kernel)) rfl
theorem mc_X3_isPlace : Cond.code yX3_isPlace cX3_isPlace 3 (some .boolean) ∈ gw := gw_mem (List.mem_of_getElem? (i := 296) (by decide +kernel)) rfl
theorem mm_X5_72 : Cond.methodLink RX5 72 yX3_set ∈ gw := gw_mem (List.mem_of_getElem? (i := 297) (by decide +kernel)) rfl
theorem mi_X3_set : Cond.instanceMethod yX3_set ∈ gw := gw_mem (List.mem_of_getElem? (i := 298) (by decide +kernel)) rfl
theorem ms_X3_set : Cond.selects RX3 yX3_set yX3_set ∈ gw := gw_mem (List.mem_of_getElem? (i := 299) (by decide +kernel)) rfl
theorem mc_X3_set : Cond.code yX3_set cX3_set 5 (some .int) ∈ gw := gw_mem (List.mem_of_getElem? (i := 300) (by decide +kernel)) rfl
theorem mm_X5_76 : Cond.methodLink RX5 76 yX5_tell ∈ gw := gw_mem (List.mem_of_getElem? (i := 301) (by decide +kernel)) rfl
theorem mi_X5_tell : Cond.instanceMethod yX5_tell ∈ gw := gw_mem (List.mem_of_getElem? (i := 303) (by decide +kernel)) rfl
theorem mc_X5_tell : Cond.code yX5_tell cX5_tell 2 (some .int) ∈ gw := gw_mem (List.mem_of_getElem? (i := 304) (by decide +kernel)) rfl
theorem mm_L_23 : Cond.methodLink RL 23 yX5_at ∈ gw := gw_mem (List.mem_of_getElem? (i := 305) (by decide +kernel)) rfl
theorem mi_X5_at : Cond.instanceMethod yX5_at ∈ gw := gw_mem (List.mem_of_getElem? (i := 306) (by decide +kernel)) rfl
theorem ms_X5_at : Cond.selects RX5 yX5_at yX5_at ∈ gw := gw_mem (List.mem_of_getElem? (i := 307) (by decide +kernel)) rfl
theorem mc_X5_at : Cond.code yX5_at cX5_at 4 (some .int) ∈ gw := gw_mem (List.mem_of_getElem? (i := 308) (by decide +kernel)) rfl
theorem mm_X5_80 : Cond.methodLink RX5 80 yX3_get ∈ gw := gw_mem (List.mem_of_getElem? (i := 309) (by decide +kernel)) rfl
theorem mi_X3_get : Cond.instanceMethod yX3_get ∈ gw := gw_mem (List.mem_of_getElem? (i := 310) (by decide +kernel)) rfl
theorem ms_X3_get : Cond.selects RX3 yX3_get yX3_get ∈ gw := gw_mem (List.mem_of_getElem? (i := 311) (by decide +kernel)) rfl
theorem mc_X3_get : Cond.code yX3_get cX3_get 3 (some .int) ∈ gw := gw_mem (List.mem_of_getElem? (i := 312) (by decide +kernel)) rfl
theorem mm_L_27 : Cond.methodLink RL 27 yX5_tear ∈ gw := gw_mem (List.mem_of_getElem? (i := 313) (by decide +kernel)) rfl
theorem mi_X5_tear : Cond.instanceMethod yX5_tear ∈ gw := gw_mem (List.mem_of_getElem? (i := 314) (by decide +kernel)) rfl
theorem ms_X5_tear : Cond.selects RX5 yX5_tear yX5_tear ∈ gw := gw_mem (List.mem_of_getElem? (i := 315) (by decide +kernel)) rfl
theorem mc_X5_tear : Cond.code yX5_tear cX5_tear 3 (some .int) ∈ gw := gw_mem (List.mem_of_getElem? (i := 316) (by decide +kernel)) rfl
theorem mm_X5_88 : Cond.methodLink RX5 88 yX3_drop ∈ gw := gw_mem (List.mem_of_getElem? (i := 317) (by decide +kernel)) rfl
theorem mi_X3_drop : Cond.instanceMethod yX3_drop ∈ gw := gw_mem (List.mem_of_getElem? (i := 318) (by decide +kernel)) rfl
theorem ms_X3_drop : Cond.selects RX3 yX3_drop yX3_drop ∈ gw := gw_mem (List.mem_of_getElem? (i := 319) (by decide +kernel)) rfl
theorem mc_X3_drop : Cond.code yX3_drop cX3_drop 2 (none) ∈ gw := gw_mem (List.mem_of_getElem? (i := 320) (by decide +kernel)) rfl
theorem mm_L_32 : Cond.methodLink RL 32 yX5_copy ∈ gw := gw_mem (List.mem_of_getElem? (i := 321) (by decide +kernel)) rfl
theorem mi_X5_copy : Cond.instanceMethod yX5_copy ∈ gw := gw_mem (List.mem_of_getElem? (i := 322) (by decide +kernel)) rfl
theorem ms_X5_copy : Cond.selects RX5 yX5_copy yX5_copy ∈ gw := gw_mem (List.mem_of_getElem? (i := 323) (by decide +kernel)) rfl
theorem mc_X5_copy : Cond.code yX5_copy cX5_copy 6 (some .int) ∈ gw := gw_mem (List.mem_of_getElem? (i := 324) (by decide +kernel)) rfl
theorem mm_X5_102 : Cond.methodLink RX5 102 yX3_hasPart ∈ gw := gw_mem (List.mem_of_getElem? (i := 325) (by decide +kernel)) rfl
theorem mi_X3_hasPart : Cond.instanceMethod yX3_hasPart ∈ gw := gw_mem (List.mem_of_getElem? (i := 326) (by decide +kernel)) rfl
theorem ms_X3_hasPart : Cond.selects RX3 yX3_hasPart yX3_hasPart ∈ gw := gw_mem (List.mem_of_getElem? (i := 327) (by decide +kernel)) rfl
theorem mc_X3_hasPart : Cond.code yX3_hasPart cX3_hasPart 4 (some .boolean) ∈ gw := gw_mem (List.mem_of_getElem? (i := 328) (by decide +kernel)) rfl
theorem mm_X5_106 : Cond.methodLink RX5 106 yX3_move ∈ gw := gw_mem (List.mem_of_getElem? (i := 329) (by decide +kernel)) rfl
theorem mi_X3_move : Cond.instanceMethod yX3_move ∈ gw := gw_mem (List.mem_of_getElem? (i := 330) (by decide +kernel)) rfl
theorem ms_X3_move : Cond.selects RX3 yX3_move yX3_move ∈ gw := gw_mem (List.mem_of_getElem? (i := 331) (by decide +kernel)) rfl
theorem mc_X3_move : Cond.code yX3_move cX3_move 6 (none) ∈ gw := gw_mem (List.mem_of_getElem? (i := 332) (by decide +kernel)) rfl
theorem mm_X3_30 : Cond.methodLink RX3 30 arraycopyName ∈ gw := gw_mem (List.mem_of_getElem? (i := 333) (by decide +kernel)) rfl
theorem mt_J_arraycopy : Cond.static arraycopyName ∈ gw := gw_mem (List.mem_of_getElem? (i := 334) (by decide +kernel)) rfl
theorem mm_L_37 : Cond.methodLink RL 37 yX5_mean ∈ gw := gw_mem (List.mem_of_getElem? (i := 336) (by decide +kernel)) rfl
theorem mi_X5_mean : Cond.instanceMethod yX5_mean ∈ gw := gw_mem (List.mem_of_getElem? (i := 337) (by decide +kernel)) rfl
theorem ms_X5_mean : Cond.selects RX5 yX5_mean yX5_mean ∈ gw := gw_mem (List.mem_of_getElem? (i := 338) (by decide +kernel)) rfl
theorem mc_X5_mean : Cond.code yX5_mean cX5_mean 4 (some .int) ∈ gw := gw_mem (List.mem_of_getElem? (i := 339) (by decide +kernel)) rfl
theorem mm_X5_110 : Cond.methodLink RX5 110 yX3_sizeOf ∈ gw := gw_mem (List.mem_of_getElem? (i := 340) (by decide +kernel)) rfl
theorem mi_X3_sizeOf : Cond.instanceMethod yX3_sizeOf ∈ gw := gw_mem (List.mem_of_getElem? (i := 341) (by decide +kernel)) rfl
theorem ms_X3_sizeOf : Cond.selects RX3 yX3_sizeOf yX3_sizeOf ∈ gw := gw_mem (List.mem_of_getElem? (i := 342) (by decide +kernel)) rfl
theorem mc_X3_sizeOf : Cond.code yX3_sizeOf cX3_sizeOf 2 (some .int) ∈ gw := gw_mem (List.mem_of_getElem? (i := 343) (by decide +kernel)) rfl
theorem mm_X5_113 : Cond.methodLink RX5 113 yX3_sum ∈ gw := gw_mem (List.mem_of_getElem? (i := 344) (by decide +kernel)) rfl
theorem mi_X3_sum : Cond.instanceMethod yX3_sum ∈ gw := gw_mem (List.mem_of_getElem? (i := 345) (by decide +kernel)) rfl
theorem ms_X3_sum : Cond.selects RX3 yX3_sum yX3_sum ∈ gw := gw_mem (List.mem_of_getElem? (i := 346) (by decide +kernel)) rfl
theorem mc_X3_sum : Cond.code yX3_sum cX3_sum 5 (some .long) ∈ gw := gw_mem (List.mem_of_getElem? (i := 347) (by decide +kernel)) rfl
theorem mm_L_41 : Cond.methodLink RL 41 yX5_text ∈ gw := gw_mem (List.mem_of_getElem? (i := 348) (by decide +kernel)) rfl
theorem mi_X5_text : Cond.instanceMethod yX5_text ∈ gw := gw_mem (List.mem_of_getElem? (i := 349) (by decide +kernel)) rfl
theorem ms_X5_text : Cond.selects RX5 yX5_text yX5_text ∈ gw := gw_mem (List.mem_of_getElem? (i := 350) (by decide +kernel)) rfl
theorem mc_X5_text : Cond.code yX5_text cX5_text 3 (some .int) ∈ gw := gw_mem (List.mem_of_getElem? (i := 351) (by decide +kernel)) rfl
theorem mm_L_45 : Cond.methodLink RL 45 yX5_put ∈ gw := gw_mem (List.mem_of_getElem? (i := 352) (by decide +kernel)) rfl
theorem mi_X5_put : Cond.instanceMethod yX5_put ∈ gw := gw_mem (List.mem_of_getElem? (i := 353) (by decide +kernel)) rfl
theorem ms_X5_put : Cond.selects RX5 yX5_put yX5_put ∈ gw := gw_mem (List.mem_of_getElem? (i := 354) (by decide +kernel)) rfl
theorem mc_X5_put : Cond.code yX5_put cX5_put 5 (some .int) ∈ gw := gw_mem (List.mem_of_getElem? (i := 355) (by decide +kernel)) rfl
theorem mm_L_49 : Cond.methodLink RL 49 yX5_fault ∈ gw := gw_mem (List.mem_of_getElem? (i := 356) (by decide +kernel)) rfl
theorem mi_X5_fault : Cond.instanceMethod yX5_fault ∈ gw := gw_mem (List.mem_of_getElem? (i := 357) (by decide +kernel)) rfl
theorem ms_X5_fault : Cond.selects RX5 yX5_fault yX5_fault ∈ gw := gw_mem (List.mem_of_getElem? (i := 358) (by decide +kernel)) rfl
theorem mc_X5_fault : Cond.code yX5_fault cX5_fault 3 (some .int) ∈ gw := gw_mem (List.mem_of_getElem? (i := 359) (by decide +kernel)) rfl
theorem mm_X5_117 : Cond.methodLink RX5 117 yX3_placesOf ∈ gw := gw_mem (List.mem_of_getElem? (i := 360) (by decide +kernel)) rfl
theorem mi_X3_placesOf : Cond.instanceMethod yX3_placesOf ∈ gw := gw_mem (List.mem_of_getElem? (i := 361) (by decide +kernel)) rfl
theorem ms_X3_placesOf : Cond.selects RX3 yX3_placesOf yX3_placesOf ∈ gw := gw_mem (List.mem_of_getElem? (i := 362) (by decide +kernel)) rfl
theorem mc_X3_placesOf : Cond.code yX3_placesOf cX3_placesOf 2 (some (.array .int)) ∈ gw := gw_mem (List.mem_of_getElem? (i := 363) (by decide +kernel)) rfl
theorem mm_X5_121 : Cond.methodLink RX5 121 yX2_read ∈ gw := gw_mem (List.mem_of_getElem? (i := 364) (by decide +kernel)) rfl
theorem mi_X2_read : Cond.instanceMethod yX2_read ∈ gw := gw_mem (List.mem_of_getElem? (i := 365) (by decide +kernel)) rfl
theorem ms_X2_read : Cond.selects RX2 yX2_read yX2_read ∈ gw := gw_mem (List.mem_of_getElem? (i := 366) (by decide +kernel)) rfl
theorem mc_X2_read : Cond.code yX2_read cX2_read 4 (some .int) ∈ gw := gw_mem (List.mem_of_getElem? (i := 367) (by decide +kernel)) rfl
theorem mm_X2_22 : Cond.methodLink RX2 22 arraycopyName ∈ gw := gw_mem (List.mem_of_getElem? (i := 368) (by decide +kernel)) rfl
theorem mm_X2_38 : Cond.methodLink RX2 38 yX2_skipBlanks ∈ gw := gw_mem (List.mem_of_getElem? (i := 369) (by decide +kernel)) rfl
theorem mi_X2_skipBlanks : Cond.instanceMethod yX2_skipBlanks ∈ gw := gw_mem (List.mem_of_getElem? (i := 371) (by decide +kernel)) rfl
theorem mc_X2_skipBlanks : Cond.code yX2_skipBlanks cX2_skipBlanks 1 (none) ∈ gw := gw_mem (List.mem_of_getElem? (i := 372) (by decide +kernel)) rfl
theorem mm_X2_41 : Cond.methodLink RX2 41 yX2_readRoad ∈ gw := gw_mem (List.mem_of_getElem? (i := 373) (by decide +kernel)) rfl
theorem mi_X2_readRoad : Cond.instanceMethod yX2_readRoad ∈ gw := gw_mem (List.mem_of_getElem? (i := 375) (by decide +kernel)) rfl
theorem mc_X2_readRoad : Cond.code yX2_readRoad cX2_readRoad 3 (some .boolean) ∈ gw := gw_mem (List.mem_of_getElem? (i := 376) (by decide +kernel)) rfl
theorem mm_X2_48 : Cond.methodLink RX2 48 yX2_readFigure ∈ gw := gw_mem (List.mem_of_getElem? (i := 377) (by decide +kernel)) rfl
theorem mi_X2_readFigure : Cond.instanceMethod yX2_readFigure ∈ gw := gw_mem (List.mem_of_getElem? (i := 379) (by decide +kernel)) rfl
theorem mc_X2_readFigure : Cond.code yX2_readFigure cX2_readFigure 3 (some .int) ∈ gw := gw_mem (List.mem_of_getElem? (i := 380) (by decide +kernel)) rfl
theorem mm_X2_55 : Cond.methodLink RX2 55 yX2_readGate ∈ gw := gw_mem (List.mem_of_getElem? (i := 381) (by decide +kernel)) rfl
theorem mi_X2_readGate : Cond.instanceMethod yX2_readGate ∈ gw := gw_mem (List.mem_of_getElem? (i := 383) (by decide +kernel)) rfl
theorem mc_X2_readGate : Cond.code yX2_readGate cX2_readGate 4 (some .boolean) ∈ gw := gw_mem (List.mem_of_getElem? (i := 384) (by decide +kernel)) rfl
theorem mm_X2_45 : Cond.methodLink RX2 45 yX2_readSpoke ∈ gw := gw_mem (List.mem_of_getElem? (i := 385) (by decide +kernel)) rfl
theorem mi_X2_readSpoke : Cond.instanceMethod yX2_readSpoke ∈ gw := gw_mem (List.mem_of_getElem? (i := 387) (by decide +kernel)) rfl
theorem mc_X2_readSpoke : Cond.code yX2_readSpoke cX2_readSpoke 5 (some .boolean) ∈ gw := gw_mem (List.mem_of_getElem? (i := 388) (by decide +kernel)) rfl
theorem mm_X2_61 : Cond.methodLink RX2 61 yX2_kindOf ∈ gw := gw_mem (List.mem_of_getElem? (i := 389) (by decide +kernel)) rfl
theorem mt_X2_kindOf : Cond.static yX2_kindOf ∈ gw := gw_mem (List.mem_of_getElem? (i := 390) (by decide +kernel)) rfl
theorem mc_X2_kindOf : Cond.code yX2_kindOf cX2_kindOf 2 (some .int) ∈ gw := gw_mem (List.mem_of_getElem? (i := 391) (by decide +kernel)) rfl
theorem mf_X2_73 : Cond.fieldLinkNest RX2 73 "WheelWeeks" "LETTERS" "[I" "WheelWeeks" ∈ lw_tbl := List.mem_of_getElem? (i := 392) (by decide +kernel)
theorem mm_L_53 : Cond.methodLink RL 53 yX5_wheel ∈ gw := gw_mem (List.mem_of_getElem? (i := 394) (by decide +kernel)) rfl
theorem mi_X5_wheel : Cond.instanceMethod yX5_wheel ∈ gw := gw_mem (List.mem_of_getElem? (i := 395) (by decide +kernel)) rfl
theorem ms_X5_wheel : Cond.selects RX5 yX5_wheel yX5_wheel ∈ gw := gw_mem (List.mem_of_getElem? (i := 396) (by decide +kernel)) rfl
theorem mc_X5_wheel : Cond.code yX5_wheel cX5_wheel 4 (some .int) ∈ gw := gw_mem (List.mem_of_getElem? (i := 397) (by decide +kernel)) rfl
theorem mm_X5_128 : Cond.methodLink RX5 128 yX1_begin ∈ gw := gw_mem (List.mem_of_getElem? (i := 398) (by decide +kernel)) rfl
theorem mi_X1_begin : Cond.instanceMethod yX1_begin ∈ gw := gw_mem (List.mem_of_getElem? (i := 399) (by decide +kernel)) rfl
theorem ms_X1_begin : Cond.selects RX1 yX1_begin yX1_begin ∈ gw := gw_mem (List.mem_of_getElem? (i := 400) (by decide +kernel)) rfl
theorem mc_X1_begin : Cond.code yX1_begin cX1_begin 2 (none) ∈ gw := gw_mem (List.mem_of_getElem? (i := 401) (by decide +kernel)) rfl
theorem mm_X1_25 : Cond.methodLink RX1 25 yX4_take ∈ gw := gw_mem (List.mem_of_getElem? (i := 402) (by decide +kernel)) rfl
theorem mi_X4_take : Cond.instanceMethod yX4_take ∈ gw := gw_mem (List.mem_of_getElem? (i := 403) (by decide +kernel)) rfl
theorem ms_X4_take : Cond.selects RX4 yX4_take yX4_take ∈ gw := gw_mem (List.mem_of_getElem? (i := 404) (by decide +kernel)) rfl
theorem mc_X4_take : Cond.code yX4_take cX4_take 2 (none) ∈ gw := gw_mem (List.mem_of_getElem? (i := 405) (by decide +kernel)) rfl
theorem mm_X4_27 : Cond.methodLink RX4 27 arraycopyName ∈ gw := gw_mem (List.mem_of_getElem? (i := 406) (by decide +kernel)) rfl
theorem mm_X1_29 : Cond.methodLink RX1 29 yX4_start ∈ gw := gw_mem (List.mem_of_getElem? (i := 407) (by decide +kernel)) rfl
theorem mi_X4_start : Cond.instanceMethod yX4_start ∈ gw := gw_mem (List.mem_of_getElem? (i := 408) (by decide +kernel)) rfl
theorem ms_X4_start : Cond.selects RX4 yX4_start yX4_start ∈ gw := gw_mem (List.mem_of_getElem? (i := 409) (by decide +kernel)) rfl
theorem mc_X4_start : Cond.code yX4_start cX4_start 1 (none) ∈ gw := gw_mem (List.mem_of_getElem? (i := 410) (by decide +kernel)) rfl
theorem mm_X4_53 : Cond.methodLink RX4 53 yJ7_fill_53178 ∈ gw := gw_mem (List.mem_of_getElem? (i := 411) (by decide +kernel)) rfl
theorem mm_L_57 : Cond.methodLink RL 57 yX5_spoke ∈ gw := gw_mem (List.mem_of_getElem? (i := 412) (by decide +kernel)) rfl
theorem mi_X5_spoke : Cond.instanceMethod yX5_spoke ∈ gw := gw_mem (List.mem_of_getElem? (i := 413) (by decide +kernel)) rfl
theorem ms_X5_spoke : Cond.selects RX5 yX5_spoke yX5_spoke ∈ gw := gw_mem (List.mem_of_getElem? (i := 414) (by decide +kernel)) rfl
theorem mc_X5_spoke : Cond.code yX5_spoke cX5_spoke 3 (some .int) ∈ gw := gw_mem (List.mem_of_getElem? (i := 415) (by decide +kernel)) rfl
theorem mm_X5_136 : Cond.methodLink RX5 136 yX4_isSpoke ∈ gw := gw_mem (List.mem_of_getElem? (i := 416) (by decide +kernel)) rfl
theorem mi_X4_isSpoke : Cond.instanceMethod yX4_isSpoke ∈ gw := gw_mem (List.mem_of_getElem? (i := 417) (by decide +kernel)) rfl
theorem ms_X4_isSpoke : Cond.selects RX4 yX4_isSpoke yX4_isSpoke ∈ gw := gw_mem (List.mem_of_getElem? (i := 418) (by decide +kernel)) rfl
theorem mc_X4_isSpoke : Cond.code yX4_isSpoke cX4_isSpoke 2 (some .boolean) ∈ gw := gw_mem (List.mem_of_getElem? (i := 419) (by decide +kernel)) rfl
theorem mm_X5_139 : Cond.methodLink RX5 139 yX4_facet ∈ gw := gw_mem (List.mem_of_getElem? (i := 420) (by decide +kernel)) rfl
theorem mi_X4_facet : Cond.instanceMethod yX4_facet ∈ gw := gw_mem (List.mem_of_getElem? (i := 421) (by decide +kernel)) rfl
theorem ms_X4_facet : Cond.selects RX4 yX4_facet yX4_facet ∈ gw := gw_mem (List.mem_of_getElem? (i := 422) (by decide +kernel)) rfl
theorem mc_X4_facet : Cond.code yX4_facet cX4_facet 3 (some .int) ∈ gw := gw_mem (List.mem_of_getElem? (i := 423) (by decide +kernel)) rfl
theorem mm_X4_70 : Cond.methodLink RX4 70 yX4_isThere ∈ gw := gw_mem (List.mem_of_getElem? (i := 424) (by decide +kernel)) rfl
theorem mi_X4_isThere : Cond.instanceMethod yX4_isThere ∈ gw := gw_mem (List.mem_of_getElem? (i := 425) (by decide +kernel)) rfl
theorem ms_X4_isThere : Cond.selects RX4 yX4_isThere yX4_isThere ∈ gw := gw_mem (List.mem_of_getElem? (i := 426) (by decide +kernel)) rfl
theorem mc_X4_isThere : Cond.code yX4_isThere cX4_isThere 2 (some .boolean) ∈ gw := gw_mem (List.mem_of_getElem? (i := 427) (by decide +kernel)) rfl
theorem mm_X4_74 : Cond.methodLink RX4 74 yX4_bearingAs ∈ gw := gw_mem (List.mem_of_getElem? (i := 428) (by decide +kernel)) rfl
theorem mi_X4_bearingAs : Cond.instanceMethod yX4_bearingAs ∈ gw := gw_mem (List.mem_of_getElem? (i := 429) (by decide +kernel)) rfl
theorem ms_X4_bearingAs : Cond.selects RX4 yX4_bearingAs yX4_bearingAs ∈ gw := gw_mem (List.mem_of_getElem? (i := 430) (by decide +kernel)) rfl
theorem mc_X4_bearingAs : Cond.code yX4_bearingAs cX4_bearingAs 3 (some .int) ∈ gw := gw_mem (List.mem_of_getElem? (i := 431) (by decide +kernel)) rfl
theorem mm_X4_63 : Cond.methodLink RX4 63 yX4_depth ∈ gw := gw_mem (List.mem_of_getElem? (i := 432) (by decide +kernel)) rfl
theorem mi_X4_depth : Cond.instanceMethod yX4_depth ∈ gw := gw_mem (List.mem_of_getElem? (i := 433) (by decide +kernel)) rfl
theorem ms_X4_depth : Cond.selects RX4 yX4_depth yX4_depth ∈ gw := gw_mem (List.mem_of_getElem? (i := 434) (by decide +kernel)) rfl
theorem mc_X4_depth : Cond.code yX4_depth cX4_depth 1 (some .int) ∈ gw := gw_mem (List.mem_of_getElem? (i := 435) (by decide +kernel)) rfl
theorem mm_X4_66 : Cond.methodLinkNest RX4 66 yX5_bearing "WheelWeeks" ∈ lw_tbl := List.mem_of_getElem? (i := 436) (by decide +kernel)
theorem mt_X5_bearing : Cond.static yX5_bearing ∈ gw := gw_mem (List.mem_of_getElem? (i := 437) (by decide +kernel)) rfl
theorem mc_X5_bearing : Cond.code yX5_bearing cX5_bearing 6 (some .int) ∈ gw := gw_mem (List.mem_of_getElem? (i := 438) (by decide +kernel)) rfl
theorem mm_X5_338 : Cond.methodLink RX5 338 yX5_feltWear ∈ gw := gw_mem (List.mem_of_getElem? (i := 439) (by decide +kernel)) rfl
theorem mt_X5_feltWear : Cond.static yX5_feltWear ∈ gw := gw_mem (List.mem_of_getElem? (i := 440) (by decide +kernel)) rfl
theorem mc_X5_feltWear : Cond.code yX5_feltWear cX5_feltWear 3 (some .int) ∈ gw := gw_mem (List.mem_of_getElem? (i := 441) (by decide +kernel)) rfl
theorem mm_X5_310 : Cond.methodLink RX5 310 yJ9_max_7cf53 ∈ gw := gw_mem (List.mem_of_getElem? (i := 442) (by decide +kernel)) rfl
theorem mt_J9_max_7cf53 : Cond.static yJ9_max_7cf53 ∈ gw := gw_mem (List.mem_of_getElem? (i := 443) (by decide +kernel)) rfl
theorem mc_J9_max_7cf53 : Cond.code yJ9_max_7cf53 cJ9_max_7cf53 2 (some .int) ∈ gw := gw_mem (List.mem_of_getElem? (i := 444) (by decide +kernel)) rfl
theorem mm_L_61 : Cond.methodLink RL 61 yX5_mark ∈ gw := gw_mem (List.mem_of_getElem? (i := 445) (by decide +kernel)) rfl
theorem mi_X5_mark : Cond.instanceMethod yX5_mark ∈ gw := gw_mem (List.mem_of_getElem? (i := 446) (by decide +kernel)) rfl
theorem ms_X5_mark : Cond.selects RX5 yX5_mark yX5_mark ∈ gw := gw_mem (List.mem_of_getElem? (i := 447) (by decide +kernel)) rfl
theorem mc_X5_mark : Cond.code yX5_mark cX5_mark 3 (some .int) ∈ gw := gw_mem (List.mem_of_getElem? (i := 448) (by decide +kernel)) rfl
theorem mm_X5_145 : Cond.methodLink RX5 145 yX5_isOfKind ∈ gw := gw_mem (List.mem_of_getElem? (i := 449) (by decide +kernel)) rfl
theorem mt_X5_isOfKind : Cond.static yX5_isOfKind ∈ gw := gw_mem (List.mem_of_getElem? (i := 450) (by decide +kernel)) rfl
theorem mc_X5_isOfKind : Cond.code yX5_isOfKind cX5_isOfKind 2 (some .boolean) ∈ gw := gw_mem (List.mem_of_getElem? (i := 451) (by decide +kernel)) rfl
theorem mf_X5_335 : Cond.fieldLink RX5 335 "WheelWeeks" "PARENTS" "[I" ∈ gw := gw_mem (List.mem_of_getElem? (i := 452) (by decide +kernel)) rfl
theorem mm_X5_149 : Cond.methodLink RX5 149 yX4_differs ∈ gw := gw_mem (List.mem_of_getElem? (i := 454) (by decide +kernel)) rfl
theorem mi_X4_differs : Cond.instanceMethod yX4_differs ∈ gw := gw_mem (List.mem_of_getElem? (i := 455) (by decide +kernel)) rfl
theorem ms_X4_differs : Cond.selects RX4 yX4_differs yX4_differs ∈ gw := gw_mem (List.mem_of_getElem? (i := 456) (by decide +kernel)) rfl
theorem mc_X4_differs : Cond.code yX4_differs cX4_differs 4 (some .int) ∈ gw := gw_mem (List.mem_of_getElem? (i := 457) (by decide +kernel)) rfl
theorem mm_L_65 : Cond.methodLink RL 65 yX5_bears ∈ gw := gw_mem (List.mem_of_getElem? (i := 458) (by decide +kernel)) rfl
theorem mi_X5_bears : Cond.instanceMethod yX5_bears ∈ gw := gw_mem (List.mem_of_getElem? (i := 459) (by decide +kernel)) rfl
theorem ms_X5_bears : Cond.selects RX5 yX5_bears yX5_bears ∈ gw := gw_mem (List.mem_of_getElem? (i := 460) (by decide +kernel)) rfl
theorem mc_X5_bears : Cond.code yX5_bears cX5_bears 4 (some .int) ∈ gw := gw_mem (List.mem_of_getElem? (i := 461) (by decide +kernel)) rfl
theorem mm_X5_159 : Cond.methodLink RX5 159 yX5_bearing ∈ gw := gw_mem (List.mem_of_getElem? (i := 462) (by decide +kernel)) rfl
theorem mm_L_69 : Cond.methodLink RL 69 yX5_step ∈ gw := gw_mem (List.mem_of_getElem? (i := 463) (by decide +kernel)) rfl
theorem mi_X5_step : Cond.instanceMethod yX5_step ∈ gw := gw_mem (List.mem_of_getElem? (i := 464) (by decide +kernel)) rfl
theorem ms_X5_step : Cond.selects RX5 yX5_step yX5_step ∈ gw := gw_mem (List.mem_of_getElem? (i := 465) (by decide +kernel)) rfl
theorem mc_X5_step : Cond.code yX5_step cX5_step 1 (some .int) ∈ gw := gw_mem (List.mem_of_getElem? (i := 466) (by decide +kernel)) rfl
theorem mm_X5_163 : Cond.methodLink RX5 163 yX4_isEmpty ∈ gw := gw_mem (List.mem_of_getElem? (i := 467) (by decide +kernel)) rfl
theorem mi_X4_isEmpty : Cond.instanceMethod yX4_isEmpty ∈ gw := gw_mem (List.mem_of_getElem? (i := 468) (by decide +kernel)) rfl
theorem ms_X4_isEmpty : Cond.selects RX4 yX4_isEmpty yX4_isEmpty ∈ gw := gw_mem (List.mem_of_getElem? (i := 469) (by decide +kernel)) rfl
theorem mc_X4_isEmpty : Cond.code yX4_isEmpty cX4_isEmpty 1 (some .boolean) ∈ gw := gw_mem (List.mem_of_getElem? (i := 470) (by decide +kernel)) rfl
theorem mm_X5_167 : Cond.methodLink RX5 167 yX4_isOver ∈ gw := gw_mem (List.mem_of_getElem? (i := 471) (by decide +kernel)) rfl
theorem mi_X4_isOver : Cond.instanceMethod yX4_isOver ∈ gw := gw_mem (List.mem_of_getElem? (i := 472) (by decide +kernel)) rfl
theorem ms_X4_isOver : Cond.selects RX4 yX4_isOver yX4_isOver ∈ gw := gw_mem (List.mem_of_getElem? (i := 473) (by decide +kernel)) rfl
theorem mc_X4_isOver : Cond.code yX4_isOver cX4_isOver 3 (some .boolean) ∈ gw := gw_mem (List.mem_of_getElem? (i := 474) (by decide +kernel)) rfl
theorem mm_X4_59 : Cond.methodLink RX4 59 yX4_goneOnes ∈ gw := gw_mem (List.mem_of_getElem? (i := 475) (by decide +kernel)) rfl
theorem mi_X4_goneOnes : Cond.instanceMethod yX4_goneOnes ∈ gw := gw_mem (List.mem_of_getElem? (i := 476) (by decide +kernel)) rfl
theorem ms_X4_goneOnes : Cond.selects RX4 yX4_goneOnes yX4_goneOnes ∈ gw := gw_mem (List.mem_of_getElem? (i := 477) (by decide +kernel)) rfl
theorem mc_X4_goneOnes : Cond.code yX4_goneOnes cX4_goneOnes 1 (some .int) ∈ gw := gw_mem (List.mem_of_getElem? (i := 478) (by decide +kernel)) rfl
theorem mm_X5_170 : Cond.methodLink RX5 170 yX5_doDeed ∈ gw := gw_mem (List.mem_of_getElem? (i := 479) (by decide +kernel)) rfl
theorem mi_X5_doDeed : Cond.instanceMethod yX5_doDeed ∈ gw := gw_mem (List.mem_of_getElem? (i := 481) (by decide +kernel)) rfl
theorem mc_X5_doDeed : Cond.code yX5_doDeed cX5_doDeed 3 (some .int) ∈ gw := gw_mem (List.mem_of_getElem? (i := 482) (by decide +kernel)) rfl
theorem mm_X5_305 : Cond.methodLink RX5 305 yX1_add ∈ gw := gw_mem (List.mem_of_getElem? (i := 483) (by decide +kernel)) rfl
theorem mi_X1_add : Cond.instanceMethod yX1_add ∈ gw := gw_mem (List.mem_of_getElem? (i := 484) (by decide +kernel)) rfl
theorem ms_X1_add : Cond.selects RX1 yX1_add yX1_add ∈ gw := gw_mem (List.mem_of_getElem? (i := 485) (by decide +kernel)) rfl
theorem mc_X1_add : Cond.code yX1_add cX1_add 3 (some .int) ∈ gw := gw_mem (List.mem_of_getElem? (i := 486) (by decide +kernel)) rfl
theorem mm_X1_42 : Cond.methodLink RX1 42 yX4_act ∈ gw := gw_mem (List.mem_of_getElem? (i := 487) (by decide +kernel)) rfl
theorem mi_X4_act : Cond.instanceMethod yX4_act ∈ gw := gw_mem (List.mem_of_getElem? (i := 488) (by decide +kernel)) rfl
theorem ms_X4_act : Cond.selects RX4 yX4_act yX4_act ∈ gw := gw_mem (List.mem_of_getElem? (i := 489) (by decide +kernel)) rfl
theorem mc_X4_act : Cond.code yX4_act cX4_act 3 (some .int) ∈ gw := gw_mem (List.mem_of_getElem? (i := 490) (by decide +kernel)) rfl
theorem mm_X4_82 : Cond.methodLink RX4 82 yX4_roll ∈ gw := gw_mem (List.mem_of_getElem? (i := 491) (by decide +kernel)) rfl
theorem mi_X4_roll : Cond.instanceMethod yX4_roll ∈ gw := gw_mem (List.mem_of_getElem? (i := 492) (by decide +kernel)) rfl
theorem ms_X4_roll : Cond.selects RX4 yX4_roll yX4_roll ∈ gw := gw_mem (List.mem_of_getElem? (i := 493) (by decide +kernel)) rfl
theorem mc_X4_roll : Cond.code yX4_roll cX4_roll 4 (some .boolean) ∈ gw := gw_mem (List.mem_of_getElem? (i := 494) (by decide +kernel)) rfl
theorem mm_X4_99 : Cond.methodLink RX4 99 yJ9_min_7cf53 ∈ gw := gw_mem (List.mem_of_getElem? (i := 495) (by decide +kernel)) rfl
theorem mt_J9_min_7cf53 : Cond.static yJ9_min_7cf53 ∈ gw := gw_mem (List.mem_of_getElem? (i := 496) (by decide +kernel)) rfl
theorem mc_J9_min_7cf53 : Cond.code yJ9_min_7cf53 cJ9_min_7cf53 2 (some .int) ∈ gw := gw_mem (List.mem_of_getElem? (i := 497) (by decide +kernel)) rfl
theorem mm_X4_86 : Cond.methodLink RX4 86 yX4_soakAll ∈ gw := gw_mem (List.mem_of_getElem? (i := 498) (by decide +kernel)) rfl
theorem mi_X4_soakAll : Cond.instanceMethod yX4_soakAll ∈ gw := gw_mem (List.mem_of_getElem? (i := 500) (by decide +kernel)) rfl
theorem mc_X4_soakAll : Cond.code yX4_soakAll cX4_soakAll 3 (some .int) ∈ gw := gw_mem (List.mem_of_getElem? (i := 501) (by decide +kernel)) rfl
theorem mm_X4_89 : Cond.methodLink RX4 89 yX4_turnWeather ∈ gw := gw_mem (List.mem_of_getElem? (i := 502) (by decide +kernel)) rfl
theorem mi_X4_turnWeather : Cond.instanceMethod yX4_turnWeather ∈ gw := gw_mem (List.mem_of_getElem? (i := 504) (by decide +kernel)) rfl
theorem mc_X4_turnWeather : Cond.code yX4_turnWeather cX4_turnWeather 1 (some .int) ∈ gw := gw_mem (List.mem_of_getElem? (i := 505) (by decide +kernel)) rfl
theorem mm_X4_92 : Cond.methodLink RX4 92 yX4_knockOut ∈ gw := gw_mem (List.mem_of_getElem? (i := 506) (by decide +kernel)) rfl
theorem mi_X4_knockOut : Cond.instanceMethod yX4_knockOut ∈ gw := gw_mem (List.mem_of_getElem? (i := 508) (by decide +kernel)) rfl
theorem mc_X4_knockOut : Cond.code yX4_knockOut cX4_knockOut 2 (some .int) ∈ gw := gw_mem (List.mem_of_getElem? (i := 509) (by decide +kernel)) rfl
theorem mm_X4_96 : Cond.methodLink RX4 96 yX4_putIn ∈ gw := gw_mem (List.mem_of_getElem? (i := 510) (by decide +kernel)) rfl
theorem mi_X4_putIn : Cond.instanceMethod yX4_putIn ∈ gw := gw_mem (List.mem_of_getElem? (i := 512) (by decide +kernel)) rfl
theorem mc_X4_putIn : Cond.code yX4_putIn cX4_putIn 3 (some .int) ∈ gw := gw_mem (List.mem_of_getElem? (i := 513) (by decide +kernel)) rfl
theorem mm_L_74 : Cond.methodLink RL 74 yX5_soak ∈ gw := gw_mem (List.mem_of_getElem? (i := 514) (by decide +kernel)) rfl
theorem mi_X5_soak : Cond.instanceMethod yX5_soak ∈ gw := gw_mem (List.mem_of_getElem? (i := 515) (by decide +kernel)) rfl
theorem ms_X5_soak : Cond.selects RX5 yX5_soak yX5_soak ∈ gw := gw_mem (List.mem_of_getElem? (i := 516) (by decide +kernel)) rfl
theorem mc_X5_soak : Cond.code yX5_soak cX5_soak 1 (some .int) ∈ gw := gw_mem (List.mem_of_getElem? (i := 517) (by decide +kernel)) rfl
theorem mm_L_78 : Cond.methodLink RL 78 yX5_weather ∈ gw := gw_mem (List.mem_of_getElem? (i := 518) (by decide +kernel)) rfl
theorem mi_X5_weather : Cond.instanceMethod yX5_weather ∈ gw := gw_mem (List.mem_of_getElem? (i := 519) (by decide +kernel)) rfl
theorem ms_X5_weather : Cond.selects RX5 yX5_weather yX5_weather ∈ gw := gw_mem (List.mem_of_getElem? (i := 520) (by decide +kernel)) rfl
theorem mc_X5_weather : Cond.code yX5_weather cX5_weather 1 (some .int) ∈ gw := gw_mem (List.mem_of_getElem? (i := 521) (by decide +kernel)) rfl
theorem mm_L_82 : Cond.methodLink RL 82 yX5_knock ∈ gw := gw_mem (List.mem_of_getElem? (i := 522) (by decide +kernel)) rfl
theorem mi_X5_knock : Cond.instanceMethod yX5_knock ∈ gw := gw_mem (List.mem_of_getElem? (i := 523) (by decide +kernel)) rfl
theorem ms_X5_knock : Cond.selects RX5 yX5_knock yX5_knock ∈ gw := gw_mem (List.mem_of_getElem? (i := 524) (by decide +kernel)) rfl
theorem mc_X5_knock : Cond.code yX5_knock cX5_knock 2 (some .int) ∈ gw := gw_mem (List.mem_of_getElem? (i := 525) (by decide +kernel)) rfl
theorem mm_X5_173 : Cond.methodLink RX5 173 yX4_isThere ∈ gw := gw_mem (List.mem_of_getElem? (i := 526) (by decide +kernel)) rfl
theorem mm_L_86 : Cond.methodLink RL 86 yX5_mend ∈ gw := gw_mem (List.mem_of_getElem? (i := 527) (by decide +kernel)) rfl
theorem mi_X5_mend : Cond.instanceMethod yX5_mend ∈ gw := gw_mem (List.mem_of_getElem? (i := 528) (by decide +kernel)) rfl
theorem ms_X5_mend : Cond.selects RX5 yX5_mend yX5_mend ∈ gw := gw_mem (List.mem_of_getElem? (i := 529) (by decide +kernel)) rfl
theorem mc_X5_mend : Cond.code yX5_mend cX5_mend 2 (some .int) ∈ gw := gw_mem (List.mem_of_getElem? (i := 530) (by decide +kernel)) rfl
theorem mm_L_90 : Cond.methodLink RL 90 yX5_undo ∈ gw := gw_mem (List.mem_of_getElem? (i := 531) (by decide +kernel)) rfl
theorem mi_X5_undo : Cond.instanceMethod yX5_undo ∈ gw := gw_mem (List.mem_of_getElem? (i := 532) (by decide +kernel)) rfl
theorem ms_X5_undo : Cond.selects RX5 yX5_undo yX5_undo ∈ gw := gw_mem (List.mem_of_getElem? (i := 533) (by decide +kernel)) rfl
theorem mc_X5_undo : Cond.code yX5_undo cX5_undo 3 (some .int) ∈ gw := gw_mem (List.mem_of_getElem? (i := 534) (by decide +kernel)) rfl
theorem mm_X5_176 : Cond.methodLink RX5 176 yX1_goBack ∈ gw := gw_mem (List.mem_of_getElem? (i := 535) (by decide +kernel)) rfl
theorem mi_X1_goBack : Cond.instanceMethod yX1_goBack ∈ gw := gw_mem (List.mem_of_getElem? (i := 536) (by decide +kernel)) rfl
theorem ms_X1_goBack : Cond.selects RX1 yX1_goBack yX1_goBack ∈ gw := gw_mem (List.mem_of_getElem? (i := 537) (by decide +kernel)) rfl
theorem mc_X1_goBack : Cond.code yX1_goBack cX1_goBack 3 (none) ∈ gw := gw_mem (List.mem_of_getElem? (i := 538) (by decide +kernel)) rfl
theorem mm_L_94 : Cond.methodLink RL 94 yX5_keep ∈ gw := gw_mem (List.mem_of_getElem? (i := 539) (by decide +kernel)) rfl
theorem mi_X5_keep : Cond.instanceMethod yX5_keep ∈ gw := gw_mem (List.mem_of_getElem? (i := 540) (by decide +kernel)) rfl
theorem ms_X5_keep : Cond.selects RX5 yX5_keep yX5_keep ∈ gw := gw_mem (List.mem_of_getElem? (i := 541) (by decide +kernel)) rfl
theorem mc_X5_keep : Cond.code yX5_keep cX5_keep 2 (some .int) ∈ gw := gw_mem (List.mem_of_getElem? (i := 542) (by decide +kernel)) rfl
theorem mm_X5_179 : Cond.methodLink RX5 179 yX1_take ∈ gw := gw_mem (List.mem_of_getElem? (i := 543) (by decide +kernel)) rfl
theorem mi_X1_take : Cond.instanceMethod yX1_take ∈ gw := gw_mem (List.mem_of_getElem? (i := 544) (by decide +kernel)) rfl
theorem ms_X1_take : Cond.selects RX1 yX1_take yX1_take ∈ gw := gw_mem (List.mem_of_getElem? (i := 545) (by decide +kernel)) rfl
theorem mc_X1_take : Cond.code yX1_take cX1_take 2 (none) ∈ gw := gw_mem (List.mem_of_getElem? (i := 546) (by decide +kernel)) rfl
theorem mm_X1_36 : Cond.methodLink RX1 36 arraycopyName ∈ gw := gw_mem (List.mem_of_getElem? (i := 547) (by decide +kernel)) rfl
theorem mm_L_98 : Cond.methodLink RL 98 yX5_on ∈ gw := gw_mem (List.mem_of_getElem? (i := 548) (by decide +kernel)) rfl
theorem mi_X5_on : Cond.instanceMethod yX5_on ∈ gw := gw_mem (List.mem_of_getElem? (i := 549) (by decide +kernel)) rfl
theorem ms_X5_on : Cond.selects RX5 yX5_on yX5_on ∈ gw := gw_mem (List.mem_of_getElem? (i := 550) (by decide +kernel)) rfl
theorem mc_X5_on : Cond.code yX5_on cX5_on 2 (some .int) ∈ gw := gw_mem (List.mem_of_getElem? (i := 551) (by decide +kernel)) rfl
theorem mm_L_102 : Cond.methodLink RL 102 yX5_goes ∈ gw := gw_mem (List.mem_of_getElem? (i := 552) (by decide +kernel)) rfl
theorem mi_X5_goes : Cond.instanceMethod yX5_goes ∈ gw := gw_mem (List.mem_of_getElem? (i := 553) (by decide +kernel)) rfl
theorem ms_X5_goes : Cond.selects RX5 yX5_goes yX5_goes ∈ gw := gw_mem (List.mem_of_getElem? (i := 554) (by decide +kernel)) rfl
theorem mc_X5_goes : Cond.code yX5_goes cX5_goes 2 (some .int) ∈ gw := gw_mem (List.mem_of_getElem? (i := 555) (by decide +kernel)) rfl
theorem mm_X5_183 : Cond.methodLink RX5 183 yX0_rutBehind ∈ gw := gw_mem (List.mem_of_getElem? (i := 556) (by decide +kernel)) rfl
theorem mi_X0_rutBehind : Cond.instanceMethod yX0_rutBehind ∈ gw := gw_mem (List.mem_of_getElem? (i := 557) (by decide +kernel)) rfl
theorem ms_X0_rutBehind : Cond.selects RX0 yX0_rutBehind yX0_rutBehind ∈ gw := gw_mem (List.mem_of_getElem? (i := 558) (by decide +kernel)) rfl
theorem mc_X0_rutBehind : Cond.code yX0_rutBehind cX0_rutBehind 2 (some .int) ∈ gw := gw_mem (List.mem_of_getElem? (i := 559) (by decide +kernel)) rfl
theorem mm_X0_21 : Cond.methodLink RX0 21 yX4_take ∈ gw := gw_mem (List.mem_of_getElem? (i := 560) (by decide +kernel)) rfl
theorem mm_X0_25 : Cond.methodLink RX0 25 yX4_rollFar ∈ gw := gw_mem (List.mem_of_getElem? (i := 561) (by decide +kernel)) rfl
theorem mi_X4_rollFar : Cond.instanceMethod yX4_rollFar ∈ gw := gw_mem (List.mem_of_getElem? (i := 562) (by decide +kernel)) rfl
theorem ms_X4_rollFar : Cond.selects RX4 yX4_rollFar yX4_rollFar ∈ gw := gw_mem (List.mem_of_getElem? (i := 563) (by decide +kernel)) rfl
theorem mc_X4_rollFar : Cond.code yX4_rollFar cX4_rollFar 4 (some .int) ∈ gw := gw_mem (List.mem_of_getElem? (i := 564) (by decide +kernel)) rfl
theorem mm_X4_108 : Cond.methodLink RX4 108 yX4_isOver ∈ gw := gw_mem (List.mem_of_getElem? (i := 565) (by decide +kernel)) rfl
theorem mm_X5_186 : Cond.methodLink RX5 186 yX5_tellBeside ∈ gw := gw_mem (List.mem_of_getElem? (i := 566) (by decide +kernel)) rfl
theorem mi_X5_tellBeside : Cond.instanceMethod yX5_tellBeside ∈ gw := gw_mem (List.mem_of_getElem? (i := 568) (by decide +kernel)) rfl
theorem mc_X5_tellBeside : Cond.code yX5_tellBeside cX5_tellBeside 2 (some .int) ∈ gw := gw_mem (List.mem_of_getElem? (i := 569) (by decide +kernel)) rfl
theorem mm_L_106 : Cond.methodLink RL 106 yX5_over ∈ gw := gw_mem (List.mem_of_getElem? (i := 570) (by decide +kernel)) rfl
theorem mi_X5_over : Cond.instanceMethod yX5_over ∈ gw := gw_mem (List.mem_of_getElem? (i := 571) (by decide +kernel)) rfl
theorem ms_X5_over : Cond.selects RX5 yX5_over yX5_over ∈ gw := gw_mem (List.mem_of_getElem? (i := 572) (by decide +kernel)) rfl
theorem mc_X5_over : Cond.code yX5_over cX5_over 1 (some .int) ∈ gw := gw_mem (List.mem_of_getElem? (i := 573) (by decide +kernel)) rfl
theorem mm_X5_189 : Cond.methodLink RX5 189 yX0_rutOver ∈ gw := gw_mem (List.mem_of_getElem? (i := 574) (by decide +kernel)) rfl
theorem mi_X0_rutOver : Cond.instanceMethod yX0_rutOver ∈ gw := gw_mem (List.mem_of_getElem? (i := 575) (by decide +kernel)) rfl
theorem ms_X0_rutOver : Cond.selects RX0 yX0_rutOver yX0_rutOver ∈ gw := gw_mem (List.mem_of_getElem? (i := 576) (by decide +kernel)) rfl
theorem mc_X0_rutOver : Cond.code yX0_rutOver cX0_rutOver 1 (some .int) ∈ gw := gw_mem (List.mem_of_getElem? (i := 577) (by decide +kernel)) rfl
theorem mm_X0_36 : Cond.methodLink RX0 36 yX4_isOver ∈ gw := gw_mem (List.mem_of_getElem? (i := 578) (by decide +kernel)) rfl
theorem mm_X0_40 : Cond.methodLink RX0 40 yX4_goneOnes ∈ gw := gw_mem (List.mem_of_getElem? (i := 579) (by decide +kernel)) rfl
theorem mm_L_110 : Cond.methodLink RL 110 yX5_limps ∈ gw := gw_mem (List.mem_of_getElem? (i := 580) (by decide +kernel)) rfl
theorem mi_X5_limps : Cond.instanceMethod yX5_limps ∈ gw := gw_mem (List.mem_of_getElem? (i := 581) (by decide +kernel)) rfl
theorem ms_X5_limps : Cond.selects RX5 yX5_limps yX5_limps ∈ gw := gw_mem (List.mem_of_getElem? (i := 582) (by decide +kernel)) rfl
theorem mc_X5_limps : Cond.code yX5_limps cX5_limps 3 (some .int) ∈ gw := gw_mem (List.mem_of_getElem? (i := 583) (by decide +kernel)) rfl
theorem mm_X5_197 : Cond.methodLink RX5 197 yX0_writeLimps ∈ gw := gw_mem (List.mem_of_getElem? (i := 584) (by decide +kernel)) rfl
theorem mi_X0_writeLimps : Cond.instanceMethod yX0_writeLimps ∈ gw := gw_mem (List.mem_of_getElem? (i := 585) (by decide +kernel)) rfl
theorem ms_X0_writeLimps : Cond.selects RX0 yX0_writeLimps yX0_writeLimps ∈ gw := gw_mem (List.mem_of_getElem? (i := 586) (by decide +kernel)) rfl
theorem mc_X0_writeLimps : Cond.code yX0_writeLimps cX0_writeLimps 5 (some .int) ∈ gw := gw_mem (List.mem_of_getElem? (i := 587) (by decide +kernel)) rfl
theorem mm_X0_44 : Cond.methodLink RX0 44 yX4_roll ∈ gw := gw_mem (List.mem_of_getElem? (i := 588) (by decide +kernel)) rfl
theorem mm_L_114 : Cond.methodLink RL 114 yX5_gate ∈ gw := gw_mem (List.mem_of_getElem? (i := 589) (by decide +kernel)) rfl
theorem mi_X5_gate : Cond.instanceMethod yX5_gate ∈ gw := gw_mem (List.mem_of_getElem? (i := 590) (by decide +kernel)) rfl
theorem ms_X5_gate : Cond.selects RX5 yX5_gate yX5_gate ∈ gw := gw_mem (List.mem_of_getElem? (i := 591) (by decide +kernel)) rfl
theorem mc_X5_gate : Cond.code yX5_gate cX5_gate 1 (some .int) ∈ gw := gw_mem (List.mem_of_getElem? (i := 592) (by decide +kernel)) rfl
theorem mm_X5_200 : Cond.methodLink RX5 200 yX0_fewestToGate ∈ gw := gw_mem (List.mem_of_getElem? (i := 593) (by decide +kernel)) rfl
theorem mi_X0_fewestToGate : Cond.instanceMethod yX0_fewestToGate ∈ gw := gw_mem (List.mem_of_getElem? (i := 594) (by decide +kernel)) rfl
theorem ms_X0_fewestToGate : Cond.selects RX0 yX0_fewestToGate yX0_fewestToGate ∈ gw := gw_mem (List.mem_of_getElem? (i := 595) (by decide +kernel)) rfl
theorem mc_X0_fewestToGate : Cond.code yX0_fewestToGate cX0_fewestToGate 4 (some .int) ∈ gw := gw_mem (List.mem_of_getElem? (i := 596) (by decide +kernel)) rfl
theorem mm_X0_50 : Cond.methodLink RX0 50 yJ6_bitCount_0f7a4 ∈ gw := gw_mem (List.mem_of_getElem? (i := 597) (by decide +kernel)) rfl
theorem mt_J6_bitCount_0f7a4 : Cond.static yJ6_bitCount_0f7a4 ∈ gw := gw_mem (List.mem_of_getElem? (i := 598) (by decide +kernel)) rfl
theorem mc_J6_bitCount_0f7a4 : Cond.code yJ6_bitCount_0f7a4 cJ6_bitCount_0f7a4 1 (some .int) ∈ gw := gw_mem (List.mem_of_getElem? (i := 599) (by decide +kernel)) rfl
theorem mk_J6_265 : Cond.constant RJ6 265 (1431655765) ∈ gw := gw_mem (List.mem_of_getElem? (i := 600) (by decide +kernel)) rfl
theorem mk_J6_266 : Cond.constant RJ6 266 (858993459) ∈ gw := gw_mem (List.mem_of_getElem? (i := 601) (by decide +kernel)) rfl
theorem mk_J6_267 : Cond.constant RJ6 267 (252645135) ∈ gw := gw_mem (List.mem_of_getElem? (i := 602) (by decide +kernel)) rfl
theorem mm_X0_55 : Cond.methodLink RX0 55 yX0_reachesGateWith ∈ gw := gw_mem (List.mem_of_getElem? (i := 603) (by decide +kernel)) rfl
theorem mi_X0_reachesGateWith : Cond.instanceMethod yX0_reachesGateWith ∈ gw := gw_mem (List.mem_of_getElem? (i := 605) (by decide +kernel)) rfl
theorem mc_X0_reachesGateWith : Cond.code yX0_reachesGateWith cX0_reachesGateWith 2 (some .boolean) ∈ gw := gw_mem (List.mem_of_getElem? (i := 606) (by decide +kernel)) rfl
theorem mm_X0_59 : Cond.methodLink RX0 59 yX4_putInAll ∈ gw := gw_mem (List.mem_of_getElem? (i := 607) (by decide +kernel)) rfl
theorem mi_X4_putInAll : Cond.instanceMethod yX4_putInAll ∈ gw := gw_mem (List.mem_of_getElem? (i := 608) (by decide +kernel)) rfl
theorem ms_X4_putInAll : Cond.selects RX4 yX4_putInAll yX4_putInAll ∈ gw := gw_mem (List.mem_of_getElem? (i := 609) (by decide +kernel)) rfl
theorem mc_X4_putInAll : Cond.code yX4_putInAll cX4_putInAll 3 (none) ∈ gw := gw_mem (List.mem_of_getElem? (i := 610) (by decide +kernel)) rfl
theorem mm_X0_63 : Cond.methodLink RX0 63 yX4_reachesGate ∈ gw := gw_mem (List.mem_of_getElem? (i := 611) (by decide +kernel)) rfl
theorem mi_X4_reachesGate : Cond.instanceMethod yX4_reachesGate ∈ gw := gw_mem (List.mem_of_getElem? (i := 612) (by decide +kernel)) rfl
theorem ms_X4_reachesGate : Cond.selects RX4 yX4_reachesGate yX4_reachesGate ∈ gw := gw_mem (List.mem_of_getElem? (i := 613) (by decide +kernel)) rfl
theorem mc_X4_reachesGate : Cond.code yX4_reachesGate cX4_reachesGate 2 (some .boolean) ∈ gw := gw_mem (List.mem_of_getElem? (i := 614) (by decide +kernel)) rfl
theorem mm_L_118 : Cond.methodLink RL 118 yX5_turned ∈ gw := gw_mem (List.mem_of_getElem? (i := 615) (by decide +kernel)) rfl
theorem mi_X5_turned : Cond.instanceMethod yX5_turned ∈ gw := gw_mem (List.mem_of_getElem? (i := 616) (by decide +kernel)) rfl
theorem ms_X5_turned : Cond.selects RX5 yX5_turned yX5_turned ∈ gw := gw_mem (List.mem_of_getElem? (i := 617) (by decide +kernel)) rfl
theorem mc_X5_turned : Cond.code yX5_turned cX5_turned 1 (some .int) ∈ gw := gw_mem (List.mem_of_getElem? (i := 618) (by decide +kernel)) rfl
theorem mm_X5_203 : Cond.methodLink RX5 203 yX0_bestStand ∈ gw := gw_mem (List.mem_of_getElem? (i := 619) (by decide +kernel)) rfl
theorem mi_X0_bestStand : Cond.instanceMethod yX0_bestStand ∈ gw := gw_mem (List.mem_of_getElem? (i := 620) (by decide +kernel)) rfl
theorem ms_X0_bestStand : Cond.selects RX0 yX0_bestStand yX0_bestStand ∈ gw := gw_mem (List.mem_of_getElem? (i := 621) (by decide +kernel)) rfl
theorem mc_X0_bestStand : Cond.code yX0_bestStand cX0_bestStand 4 (some .int) ∈ gw := gw_mem (List.mem_of_getElem? (i := 622) (by decide +kernel)) rfl
theorem mm_X0_69 : Cond.methodLink RX0 69 yX4_limpsIn ∈ gw := gw_mem (List.mem_of_getElem? (i := 623) (by decide +kernel)) rfl
theorem mi_X4_limpsIn : Cond.instanceMethod yX4_limpsIn ∈ gw := gw_mem (List.mem_of_getElem? (i := 624) (by decide +kernel)) rfl
theorem ms_X4_limpsIn : Cond.selects RX4 yX4_limpsIn yX4_limpsIn ∈ gw := gw_mem (List.mem_of_getElem? (i := 625) (by decide +kernel)) rfl
theorem mc_X4_limpsIn : Cond.code yX4_limpsIn cX4_limpsIn 4 (some .int) ∈ gw := gw_mem (List.mem_of_getElem? (i := 626) (by decide +kernel)) rfl
theorem mm_L_122 : Cond.methodLink RL 122 yX5_change ∈ gw := gw_mem (List.mem_of_getElem? (i := 627) (by decide +kernel)) rfl
theorem mi_X5_change : Cond.instanceMethod yX5_change ∈ gw := gw_mem (List.mem_of_getElem? (i := 628) (by decide +kernel)) rfl
theorem ms_X5_change : Cond.selects RX5 yX5_change yX5_change ∈ gw := gw_mem (List.mem_of_getElem? (i := 629) (by decide +kernel)) rfl
theorem mc_X5_change : Cond.code yX5_change cX5_change 1 (some .int) ∈ gw := gw_mem (List.mem_of_getElem? (i := 630) (by decide +kernel)) rfl
theorem mm_X5_206 : Cond.methodLink RX5 206 yX0_bestChange ∈ gw := gw_mem (List.mem_of_getElem? (i := 631) (by decide +kernel)) rfl
theorem mi_X0_bestChange : Cond.instanceMethod yX0_bestChange ∈ gw := gw_mem (List.mem_of_getElem? (i := 632) (by decide +kernel)) rfl
theorem ms_X0_bestChange : Cond.selects RX0 yX0_bestChange yX0_bestChange ∈ gw := gw_mem (List.mem_of_getElem? (i := 633) (by decide +kernel)) rfl
theorem mc_X0_bestChange : Cond.code yX0_bestChange cX0_bestChange 5 (some .int) ∈ gw := gw_mem (List.mem_of_getElem? (i := 634) (by decide +kernel)) rfl
theorem mm_X0_72 : Cond.methodLink RX0 72 yX4_changeRound ∈ gw := gw_mem (List.mem_of_getElem? (i := 635) (by decide +kernel)) rfl
theorem mi_X4_changeRound : Cond.instanceMethod yX4_changeRound ∈ gw := gw_mem (List.mem_of_getElem? (i := 636) (by decide +kernel)) rfl
theorem ms_X4_changeRound : Cond.selects RX4 yX4_changeRound yX4_changeRound ∈ gw := gw_mem (List.mem_of_getElem? (i := 637) (by decide +kernel)) rfl
theorem mc_X4_changeRound : Cond.code yX4_changeRound cX4_changeRound 3 (none) ∈ gw := gw_mem (List.mem_of_getElem? (i := 638) (by decide +kernel)) rfl
theorem mm_X4_104 : Cond.methodLink RX4 104 yX4_swap ∈ gw := gw_mem (List.mem_of_getElem? (i := 639) (by decide +kernel)) rfl
theorem mt_X4_swap : Cond.static yX4_swap ∈ gw := gw_mem (List.mem_of_getElem? (i := 640) (by decide +kernel)) rfl
theorem mc_X4_swap : Cond.code yX4_swap cX4_swap 4 (none) ∈ gw := gw_mem (List.mem_of_getElem? (i := 641) (by decide +kernel)) rfl
theorem mm_L_126 : Cond.methodLink RL 126 yX5_gone ∈ gw := gw_mem (List.mem_of_getElem? (i := 642) (by decide +kernel)) rfl
theorem mi_X5_gone : Cond.instanceMethod yX5_gone ∈ gw := gw_mem (List.mem_of_getElem? (i := 643) (by decide +kernel)) rfl
theorem ms_X5_gone : Cond.selects RX5 yX5_gone yX5_gone ∈ gw := gw_mem (List.mem_of_getElem? (i := 644) (by decide +kernel)) rfl
theorem mc_X5_gone : Cond.code yX5_gone cX5_gone 3 (some .int) ∈ gw := gw_mem (List.mem_of_getElem? (i := 645) (by decide +kernel)) rfl
theorem mm_X5_209 : Cond.methodLink RX5 209 yX5_refuseLimps ∈ gw := gw_mem (List.mem_of_getElem? (i := 646) (by decide +kernel)) rfl
theorem mi_X5_refuseLimps : Cond.instanceMethod yX5_refuseLimps ∈ gw := gw_mem (List.mem_of_getElem? (i := 648) (by decide +kernel)) rfl
theorem mc_X5_refuseLimps : Cond.code yX5_refuseLimps cX5_refuseLimps 2 (some .int) ∈ gw := gw_mem (List.mem_of_getElem? (i := 649) (by decide +kernel)) rfl
theorem mm_X5_281 : Cond.methodLink RX5 281 yX3_holdsBits ∈ gw := gw_mem (List.mem_of_getElem? (i := 650) (by decide +kernel)) rfl
theorem mi_X3_holdsBits : Cond.instanceMethod yX3_holdsBits ∈ gw := gw_mem (List.mem_of_getElem? (i := 651) (by decide +kernel)) rfl
theorem ms_X3_holdsBits : Cond.selects RX3 yX3_holdsBits yX3_holdsBits ∈ gw := gw_mem (List.mem_of_getElem? (i := 652) (by decide +kernel)) rfl
theorem mc_X3_holdsBits : Cond.code yX3_holdsBits cX3_holdsBits 3 (some .boolean) ∈ gw := gw_mem (List.mem_of_getElem? (i := 653) (by decide +kernel)) rfl
theorem mm_X5_212 : Cond.methodLink RX5 212 yX0_goneSets ∈ gw := gw_mem (List.mem_of_getElem? (i := 654) (by decide +kernel)) rfl
theorem mi_X0_goneSets : Cond.instanceMethod yX0_goneSets ∈ gw := gw_mem (List.mem_of_getElem? (i := 655) (by decide +kernel)) rfl
theorem ms_X0_goneSets : Cond.selects RX0 yX0_goneSets yX0_goneSets ∈ gw := gw_mem (List.mem_of_getElem? (i := 656) (by decide +kernel)) rfl
theorem mc_X0_goneSets : Cond.code yX0_goneSets cX0_goneSets 6 (some .int) ∈ gw := gw_mem (List.mem_of_getElem? (i := 657) (by decide +kernel)) rfl
theorem mm_X0_79 : Cond.methodLink RX0 79 yX4_limpsAs ∈ gw := gw_mem (List.mem_of_getElem? (i := 658) (by decide +kernel)) rfl
theorem mi_X4_limpsAs : Cond.instanceMethod yX4_limpsAs ∈ gw := gw_mem (List.mem_of_getElem? (i := 659) (by decide +kernel)) rfl
theorem ms_X4_limpsAs : Cond.selects RX4 yX4_limpsAs yX4_limpsAs ∈ gw := gw_mem (List.mem_of_getElem? (i := 660) (by decide +kernel)) rfl
theorem mc_X4_limpsAs : Cond.code yX4_limpsAs cX4_limpsAs 5 (some .boolean) ∈ gw := gw_mem (List.mem_of_getElem? (i := 661) (by decide +kernel)) rfl
theorem mm_L_130 : Cond.methodLink RL 130 yX5_strengths ∈ gw := gw_mem (List.mem_of_getElem? (i := 662) (by decide +kernel)) rfl
theorem mi_X5_strengths : Cond.instanceMethod yX5_strengths ∈ gw := gw_mem (List.mem_of_getElem? (i := 663) (by decide +kernel)) rfl
theorem ms_X5_strengths : Cond.selects RX5 yX5_strengths yX5_strengths ∈ gw := gw_mem (List.mem_of_getElem? (i := 664) (by decide +kernel)) rfl
theorem mc_X5_strengths : Cond.code yX5_strengths cX5_strengths 4 (some .int) ∈ gw := gw_mem (List.mem_of_getElem? (i := 665) (by decide +kernel)) rfl
theorem mm_X5_215 : Cond.methodLink RX5 215 yX5_refuseGuess ∈ gw := gw_mem (List.mem_of_getElem? (i := 666) (by decide +kernel)) rfl
theorem mi_X5_refuseGuess : Cond.instanceMethod yX5_refuseGuess ∈ gw := gw_mem (List.mem_of_getElem? (i := 668) (by decide +kernel)) rfl
theorem mc_X5_refuseGuess : Cond.code yX5_refuseGuess cX5_refuseGuess 3 (some .int) ∈ gw := gw_mem (List.mem_of_getElem? (i := 669) (by decide +kernel)) rfl
theorem mm_X5_218 : Cond.methodLink RX5 218 yX0_likelyStrengths ∈ gw := gw_mem (List.mem_of_getElem? (i := 670) (by decide +kernel)) rfl
theorem mi_X0_likelyStrengths : Cond.instanceMethod yX0_likelyStrengths ∈ gw := gw_mem (List.mem_of_getElem? (i := 671) (by decide +kernel)) rfl
theorem ms_X0_likelyStrengths : Cond.selects RX0 yX0_likelyStrengths yX0_likelyStrengths ∈ gw := gw_mem (List.mem_of_getElem? (i := 672) (by decide +kernel)) rfl
theorem mc_X0_likelyStrengths : Cond.code yX0_likelyStrengths cX0_likelyStrengths 6 (some .int) ∈ gw := gw_mem (List.mem_of_getElem? (i := 673) (by decide +kernel)) rfl
theorem mm_L_134 : Cond.methodLink RL 134 yX5_kinds ∈ gw := gw_mem (List.mem_of_getElem? (i := 674) (by decide +kernel)) rfl
theorem mi_X5_kinds : Cond.instanceMethod yX5_kinds ∈ gw := gw_mem (List.mem_of_getElem? (i := 675) (by decide +kernel)) rfl
theorem ms_X5_kinds : Cond.selects RX5 yX5_kinds yX5_kinds ∈ gw := gw_mem (List.mem_of_getElem? (i := 676) (by decide +kernel)) rfl
theorem mc_X5_kinds : Cond.code yX5_kinds cX5_kinds 4 (some .int) ∈ gw := gw_mem (List.mem_of_getElem? (i := 677) (by decide +kernel)) rfl
theorem mm_X5_222 : Cond.methodLink RX5 222 yX0_likelyKinds ∈ gw := gw_mem (List.mem_of_getElem? (i := 678) (by decide +kernel)) rfl
theorem mi_X0_likelyKinds : Cond.instanceMethod yX0_likelyKinds ∈ gw := gw_mem (List.mem_of_getElem? (i := 679) (by decide +kernel)) rfl
theorem ms_X0_likelyKinds : Cond.selects RX0 yX0_likelyKinds yX0_likelyKinds ∈ gw := gw_mem (List.mem_of_getElem? (i := 680) (by decide +kernel)) rfl
theorem mc_X0_likelyKinds : Cond.code yX0_likelyKinds cX0_likelyKinds 6 (some .int) ∈ gw := gw_mem (List.mem_of_getElem? (i := 681) (by decide +kernel)) rfl
theorem mm_L_138 : Cond.methodLink RL 138 yX5_look ∈ gw := gw_mem (List.mem_of_getElem? (i := 682) (by decide +kernel)) rfl
theorem mi_X5_look : Cond.instanceMethod yX5_look ∈ gw := gw_mem (List.mem_of_getElem? (i := 683) (by decide +kernel)) rfl
theorem ms_X5_look : Cond.selects RX5 yX5_look yX5_look ∈ gw := gw_mem (List.mem_of_getElem? (i := 684) (by decide +kernel)) rfl
theorem mc_X5_look : Cond.code yX5_look cX5_look 2 (some .int) ∈ gw := gw_mem (List.mem_of_getElem? (i := 685) (by decide +kernel)) rfl
theorem mm_X5_225 : Cond.methodLink RX5 225 yX0_bestDepth ∈ gw := gw_mem (List.mem_of_getElem? (i := 686) (by decide +kernel)) rfl
theorem mi_X0_bestDepth : Cond.instanceMethod yX0_bestDepth ∈ gw := gw_mem (List.mem_of_getElem? (i := 687) (by decide +kernel)) rfl
theorem ms_X0_bestDepth : Cond.selects RX0 yX0_bestDepth yX0_bestDepth ∈ gw := gw_mem (List.mem_of_getElem? (i := 688) (by decide +kernel)) rfl
theorem mc_X0_bestDepth : Cond.code yX0_bestDepth cX0_bestDepth 6 (some .int) ∈ gw := gw_mem (List.mem_of_getElem? (i := 689) (by decide +kernel)) rfl
theorem mm_X0_90 : Cond.methodLink RX0 90 yX0_kindsBearing ∈ gw := gw_mem (List.mem_of_getElem? (i := 690) (by decide +kernel)) rfl
theorem mi_X0_kindsBearing : Cond.instanceMethod yX0_kindsBearing ∈ gw := gw_mem (List.mem_of_getElem? (i := 692) (by decide +kernel)) rfl
theorem mc_X0_kindsBearing : Cond.code yX0_kindsBearing cX0_kindsBearing 5 (some .int) ∈ gw := gw_mem (List.mem_of_getElem? (i := 693) (by decide +kernel)) rfl
theorem mm_X0_106 : Cond.methodLinkNest RX0 106 yX5_bearing "WheelWeeks" ∈ lw_tbl := List.mem_of_getElem? (i := 694) (by decide +kernel)
theorem mm_X0_94 : Cond.methodLink RX0 94 yJ9_max_7cf53 ∈ gw := gw_mem (List.mem_of_getElem? (i := 695) (by decide +kernel)) rfl
theorem mm_L_142 : Cond.methodLink RL 142 yX5_duel ∈ gw := gw_mem (List.mem_of_getElem? (i := 696) (by decide +kernel)) rfl
theorem mi_X5_duel : Cond.instanceMethod yX5_duel ∈ gw := gw_mem (List.mem_of_getElem? (i := 697) (by decide +kernel)) rfl
theorem ms_X5_duel : Cond.selects RX5 yX5_duel yX5_duel ∈ gw := gw_mem (List.mem_of_getElem? (i := 698) (by decide +kernel)) rfl
theorem mc_X5_duel : Cond.code yX5_duel cX5_duel 2 (some .int) ∈ gw := gw_mem (List.mem_of_getElem? (i := 699) (by decide +kernel)) rfl
theorem mm_X5_231 : Cond.methodLink RX5 231 yX0_fight ∈ gw := gw_mem (List.mem_of_getElem? (i := 700) (by decide +kernel)) rfl
theorem mi_X0_fight : Cond.instanceMethod yX0_fight ∈ gw := gw_mem (List.mem_of_getElem? (i := 701) (by decide +kernel)) rfl
theorem ms_X0_fight : Cond.selects RX0 yX0_fight yX0_fight ∈ gw := gw_mem (List.mem_of_getElem? (i := 702) (by decide +kernel)) rfl
theorem mc_X0_fight : Cond.code yX0_fight cX0_fight 13 (some .int) ∈ gw := gw_mem (List.mem_of_getElem? (i := 703) (by decide +kernel)) rfl
theorem mm_X0_110 : Cond.methodLink RX0 110 yX0_limpsWith ∈ gw := gw_mem (List.mem_of_getElem? (i := 704) (by decide +kernel)) rfl
theorem mi_X0_limpsWith : Cond.instanceMethod yX0_limpsWith ∈ gw := gw_mem (List.mem_of_getElem? (i := 706) (by decide +kernel)) rfl
theorem mc_X0_limpsWith : Cond.code yX0_limpsWith cX0_limpsWith 3 (some .int) ∈ gw := gw_mem (List.mem_of_getElem? (i := 707) (by decide +kernel)) rfl
theorem mm_X0_113 : Cond.methodLink RX0 113 yX0_fight ∈ gw := gw_mem (List.mem_of_getElem? (i := 708) (by decide +kernel)) rfl
theorem mm_X0_117 : Cond.methodLink RX0 117 yJ9_min_7cf53 ∈ gw := gw_mem (List.mem_of_getElem? (i := 709) (by decide +kernel)) rfl
theorem mm_L_146 : Cond.methodLink RL 146 yX5_odds ∈ gw := gw_mem (List.mem_of_getElem? (i := 710) (by decide +kernel)) rfl
theorem mi_X5_odds : Cond.instanceMethod yX5_odds ∈ gw := gw_mem (List.mem_of_getElem? (i := 711) (by decide +kernel)) rfl
theorem ms_X5_odds : Cond.selects RX5 yX5_odds yX5_odds ∈ gw := gw_mem (List.mem_of_getElem? (i := 712) (by decide +kernel)) rfl
theorem mc_X5_odds : Cond.code yX5_odds cX5_odds 3 (some .int) ∈ gw := gw_mem (List.mem_of_getElem? (i := 713) (by decide +kernel)) rfl
theorem mm_X5_235 : Cond.methodLink RX5 235 yX0_waysUpTo ∈ gw := gw_mem (List.mem_of_getElem? (i := 714) (by decide +kernel)) rfl
theorem mi_X0_waysUpTo : Cond.instanceMethod yX0_waysUpTo ∈ gw := gw_mem (List.mem_of_getElem? (i := 715) (by decide +kernel)) rfl
theorem ms_X0_waysUpTo : Cond.selects RX0 yX0_waysUpTo yX0_waysUpTo ∈ gw := gw_mem (List.mem_of_getElem? (i := 716) (by decide +kernel)) rfl
theorem mc_X0_waysUpTo : Cond.code yX0_waysUpTo cX0_waysUpTo 8 (some .long) ∈ gw := gw_mem (List.mem_of_getElem? (i := 717) (by decide +kernel)) rfl
theorem mm_X0_120 : Cond.methodLink RX0 120 yX0_waysToLose ∈ gw := gw_mem (List.mem_of_getElem? (i := 718) (by decide +kernel)) rfl
theorem mi_X0_waysToLose : Cond.instanceMethod yX0_waysToLose ∈ gw := gw_mem (List.mem_of_getElem? (i := 720) (by decide +kernel)) rfl
theorem mc_X0_waysToLose : Cond.code yX0_waysToLose cX0_waysToLose 5 (some .long) ∈ gw := gw_mem (List.mem_of_getElem? (i := 721) (by decide +kernel)) rfl
theorem mm_X0_124 : Cond.methodLinkNest RX0 124 yX5_power "WheelWeeks" ∈ lw_tbl := List.mem_of_getElem? (i := 722) (by decide +kernel)
theorem mt_X5_power : Cond.static yX5_power ∈ gw := gw_mem (List.mem_of_getElem? (i := 723) (by decide +kernel)) rfl
theorem mc_X5_power : Cond.code yX5_power cX5_power 6 (some .long) ∈ gw := gw_mem (List.mem_of_getElem? (i := 724) (by decide +kernel)) rfl
theorem mm_X5_239 : Cond.methodLink RX5 239 yX5_tellShare ∈ gw := gw_mem (List.mem_of_getElem? (i := 725) (by decide +kernel)) rfl
theorem mi_X5_tellShare : Cond.instanceMethod yX5_tellShare ∈ gw := gw_mem (List.mem_of_getElem? (i := 727) (by decide +kernel)) rfl
theorem mc_X5_tellShare : Cond.code yX5_tellShare cX5_tellShare 7 (some .int) ∈ gw := gw_mem (List.mem_of_getElem? (i := 728) (by decide +kernel)) rfl
theorem mk_X5_290 : Cond.constantLong RX5 290 (12) ∈ gw := gw_mem (List.mem_of_getElem? (i := 729) (by decide +kernel)) rfl
theorem mm_X5_292 : Cond.methodLink RX5 292 yJ6_bitCount_0f7a4 ∈ gw := gw_mem (List.mem_of_getElem? (i := 730) (by decide +kernel)) rfl
theorem mm_X5_297 : Cond.methodLink RX5 297 yX5_power ∈ gw := gw_mem (List.mem_of_getElem? (i := 731) (by decide +kernel)) rfl
theorem mm_X5_301 : Cond.methodLink RX5 301 yX5_commonDivisor ∈ gw := gw_mem (List.mem_of_getElem? (i := 732) (by decide +kernel)) rfl
theorem mt_X5_commonDivisor : Cond.static yX5_commonDivisor ∈ gw := gw_mem (List.mem_of_getElem? (i := 733) (by decide +kernel)) rfl
theorem mc_X5_commonDivisor : Cond.code yX5_commonDivisor cX5_commonDivisor 11 (some .long) ∈ gw := gw_mem (List.mem_of_getElem? (i := 734) (by decide +kernel)) rfl
theorem mm_L_150 : Cond.methodLink RL 150 yX5_mid ∈ gw := gw_mem (List.mem_of_getElem? (i := 735) (by decide +kernel)) rfl
theorem mi_X5_mid : Cond.instanceMethod yX5_mid ∈ gw := gw_mem (List.mem_of_getElem? (i := 736) (by decide +kernel)) rfl
theorem ms_X5_mid : Cond.selects RX5 yX5_mid yX5_mid ∈ gw := gw_mem (List.mem_of_getElem? (i := 737) (by decide +kernel)) rfl
theorem mc_X5_mid : Cond.code yX5_mid cX5_mid 2 (some .int) ∈ gw := gw_mem (List.mem_of_getElem? (i := 738) (by decide +kernel)) rfl
theorem mm_X5_243 : Cond.methodLink RX5 243 yX0_limpsOverWays ∈ gw := gw_mem (List.mem_of_getElem? (i := 739) (by decide +kernel)) rfl
theorem mi_X0_limpsOverWays : Cond.instanceMethod yX0_limpsOverWays ∈ gw := gw_mem (List.mem_of_getElem? (i := 740) (by decide +kernel)) rfl
theorem ms_X0_limpsOverWays : Cond.selects RX0 yX0_limpsOverWays yX0_limpsOverWays ∈ gw := gw_mem (List.mem_of_getElem? (i := 741) (by decide +kernel)) rfl
theorem mc_X0_limpsOverWays : Cond.code yX0_limpsOverWays cX0_limpsOverWays 7 (some .long) ∈ gw := gw_mem (List.mem_of_getElem? (i := 742) (by decide +kernel)) rfl
theorem mm_L_154 : Cond.methodLink RL 154 yX5_lots ∈ gw := gw_mem (List.mem_of_getElem? (i := 743) (by decide +kernel)) rfl
theorem mi_X5_lots : Cond.instanceMethod yX5_lots ∈ gw := gw_mem (List.mem_of_getElem? (i := 744) (by decide +kernel)) rfl
theorem ms_X5_lots : Cond.selects RX5 yX5_lots yX5_lots ∈ gw := gw_mem (List.mem_of_getElem? (i := 745) (by decide +kernel)) rfl
theorem mc_X5_lots : Cond.code yX5_lots cX5_lots 6 (some .int) ∈ gw := gw_mem (List.mem_of_getElem? (i := 746) (by decide +kernel)) rfl
theorem mk_X5_246 : Cond.constantLong RX5 246 (2147483647) ∈ gw := gw_mem (List.mem_of_getElem? (i := 747) (by decide +kernel)) rfl
theorem mk_X5_248 : Cond.constantLong RX5 248 (48271) ∈ gw := gw_mem (List.mem_of_getElem? (i := 748) (by decide +kernel)) rfl
theorem mm_X5_250 : Cond.methodLink RX5 250 yX5_doLot ∈ gw := gw_mem (List.mem_of_getElem? (i := 749) (by decide +kernel)) rfl
theorem mi_X5_doLot : Cond.instanceMethod yX5_doLot ∈ gw := gw_mem (List.mem_of_getElem? (i := 751) (by decide +kernel)) rfl
theorem mc_X5_doLot : Cond.code yX5_doLot cX5_doLot 5 (none) ∈ gw := gw_mem (List.mem_of_getElem? (i := 752) (by decide +kernel)) rfl
theorem mk_X5_308 : Cond.constantLong RX5 308 (6) ∈ gw := gw_mem (List.mem_of_getElem? (i := 753) (by decide +kernel)) rfl
theorem mk_X5_315 : Cond.constantLong RX5 315 (8) ∈ gw := gw_mem (List.mem_of_getElem? (i := 754) (by decide +kernel)) rfl
theorem mm_L_158 : Cond.methodLink RL 158 yX5_asked ∈ gw := gw_mem (List.mem_of_getElem? (i := 755) (by decide +kernel)) rfl
theorem mi_X5_asked : Cond.instanceMethod yX5_asked ∈ gw := gw_mem (List.mem_of_getElem? (i := 756) (by decide +kernel)) rfl
theorem ms_X5_asked : Cond.selects RX5 yX5_asked yX5_asked ∈ gw := gw_mem (List.mem_of_getElem? (i := 757) (by decide +kernel)) rfl
theorem mc_X5_asked : Cond.code yX5_asked cX5_asked 1 (some .int) ∈ gw := gw_mem (List.mem_of_getElem? (i := 758) (by decide +kernel)) rfl
theorem mm_L_162 : Cond.methodLink RL 162 yX5_upper ∈ gw := gw_mem (List.mem_of_getElem? (i := 759) (by decide +kernel)) rfl
theorem mi_X5_upper : Cond.instanceMethod yX5_upper ∈ gw := gw_mem (List.mem_of_getElem? (i := 760) (by decide +kernel)) rfl
theorem ms_X5_upper : Cond.selects RX5 yX5_upper yX5_upper ∈ gw := gw_mem (List.mem_of_getElem? (i := 761) (by decide +kernel)) rfl
theorem mc_X5_upper : Cond.code yX5_upper cX5_upper 1 (some .long) ∈ gw := gw_mem (List.mem_of_getElem? (i := 762) (by decide +kernel)) rfl
theorem mm_L_167 : Cond.methodLink RL 167 yX5_lower ∈ gw := gw_mem (List.mem_of_getElem? (i := 763) (by decide +kernel)) rfl
theorem mi_X5_lower : Cond.instanceMethod yX5_lower ∈ gw := gw_mem (List.mem_of_getElem? (i := 764) (by decide +kernel)) rfl
theorem ms_X5_lower : Cond.selects RX5 yX5_lower yX5_lower ∈ gw := gw_mem (List.mem_of_getElem? (i := 765) (by decide +kernel)) rfl
theorem mc_X5_lower : Cond.code yX5_lower cX5_lower 1 (some .long) ∈ gw := gw_mem (List.mem_of_getElem? (i := 766) (by decide +kernel)) rfl
theorem mm_L_171 : Cond.methodLink RL 171 yX5_count ∈ gw := gw_mem (List.mem_of_getElem? (i := 767) (by decide +kernel)) rfl
theorem mi_X5_count : Cond.instanceMethod yX5_count ∈ gw := gw_mem (List.mem_of_getElem? (i := 768) (by decide +kernel)) rfl
theorem ms_X5_count : Cond.selects RX5 yX5_count yX5_count ∈ gw := gw_mem (List.mem_of_getElem? (i := 769) (by decide +kernel)) rfl
theorem mc_X5_count : Cond.code yX5_count cX5_count 2 (some .int) ∈ gw := gw_mem (List.mem_of_getElem? (i := 770) (by decide +kernel)) rfl
theorem mm_X5_263 : Cond.methodLink RX5 263 yX5_counted ∈ gw := gw_mem (List.mem_of_getElem? (i := 771) (by decide +kernel)) rfl
theorem mi_X5_counted : Cond.instanceMethod yX5_counted ∈ gw := gw_mem (List.mem_of_getElem? (i := 773) (by decide +kernel)) rfl
theorem mc_X5_counted : Cond.code yX5_counted cX5_counted 3 (some .int) ∈ gw := gw_mem (List.mem_of_getElem? (i := 774) (by decide +kernel)) rfl
theorem mm_X5_323 : Cond.methodLink RX5 323 yX3_howMany ∈ gw := gw_mem (List.mem_of_getElem? (i := 775) (by decide +kernel)) rfl
theorem mi_X3_howMany : Cond.instanceMethod yX3_howMany ∈ gw := gw_mem (List.mem_of_getElem? (i := 776) (by decide +kernel)) rfl
theorem ms_X3_howMany : Cond.selects RX3 yX3_howMany yX3_howMany ∈ gw := gw_mem (List.mem_of_getElem? (i := 777) (by decide +kernel)) rfl
theorem mc_X3_howMany : Cond.code yX3_howMany cX3_howMany 3 (some .int) ∈ gw := gw_mem (List.mem_of_getElem? (i := 778) (by decide +kernel)) rfl
theorem mm_X5_326 : Cond.methodLink RX5 326 yX5_keptOnes ∈ gw := gw_mem (List.mem_of_getElem? (i := 779) (by decide +kernel)) rfl
theorem mi_X5_keptOnes : Cond.instanceMethod yX5_keptOnes ∈ gw := gw_mem (List.mem_of_getElem? (i := 781) (by decide +kernel)) rfl
theorem mc_X5_keptOnes : Cond.code yX5_keptOnes cX5_keptOnes 3 (some .int) ∈ gw := gw_mem (List.mem_of_getElem? (i := 782) (by decide +kernel)) rfl
theorem mm_X5_329 : Cond.methodLink RX5 329 yX4_lengthThere ∈ gw := gw_mem (List.mem_of_getElem? (i := 783) (by decide +kernel)) rfl
theorem mi_X4_lengthThere : Cond.instanceMethod yX4_lengthThere ∈ gw := gw_mem (List.mem_of_getElem? (i := 784) (by decide +kernel)) rfl
theorem ms_X4_lengthThere : Cond.selects RX4 yX4_lengthThere yX4_lengthThere ∈ gw := gw_mem (List.mem_of_getElem? (i := 785) (by decide +kernel)) rfl
theorem mc_X4_lengthThere : Cond.code yX4_lengthThere cX4_lengthThere 3 (some .int) ∈ gw := gw_mem (List.mem_of_getElem? (i := 786) (by decide +kernel)) rfl
theorem mm_X5_332 : Cond.methodLink RX5 332 yX4_ironOnes ∈ gw := gw_mem (List.mem_of_getElem? (i := 787) (by decide +kernel)) rfl
theorem mi_X4_ironOnes : Cond.instanceMethod yX4_ironOnes ∈ gw := gw_mem (List.mem_of_getElem? (i := 788) (by decide +kernel)) rfl
theorem ms_X4_ironOnes : Cond.selects RX4 yX4_ironOnes yX4_ironOnes ∈ gw := gw_mem (List.mem_of_getElem? (i := 789) (by decide +kernel)) rfl
theorem mc_X4_ironOnes : Cond.code yX4_ironOnes cX4_ironOnes 3 (some .int) ∈ gw := gw_mem (List.mem_of_getElem? (i := 790) (by decide +kernel)) rfl
theorem mm_X4_78 : Cond.methodLinkNest RX4 78 yX5_isOfKind "WheelWeeks" ∈ lw_tbl := List.mem_of_getElem? (i := 791) (by decide +kernel)
theorem mm_L_175 : Cond.methodLink RL 175 yX5_finding ∈ gw := gw_mem (List.mem_of_getElem? (i := 792) (by decide +kernel)) rfl
theorem mi_X5_finding : Cond.instanceMethod yX5_finding ∈ gw := gw_mem (List.mem_of_getElem? (i := 793) (by decide +kernel)) rfl
theorem ms_X5_finding : Cond.selects RX5 yX5_finding yX5_finding ∈ gw := gw_mem (List.mem_of_getElem? (i := 794) (by decide +kernel)) rfl
theorem mc_X5_finding : Cond.code yX5_finding cX5_finding 1 (some .int) ∈ gw := gw_mem (List.mem_of_getElem? (i := 795) (by decide +kernel)) rfl
theorem mm_L_179 : Cond.methodLink RL 179 yX5_findings ∈ gw := gw_mem (List.mem_of_getElem? (i := 796) (by decide +kernel)) rfl
theorem mi_X5_findings : Cond.instanceMethod yX5_findings ∈ gw := gw_mem (List.mem_of_getElem? (i := 797) (by decide +kernel)) rfl
theorem ms_X5_findings : Cond.selects RX5 yX5_findings yX5_findings ∈ gw := gw_mem (List.mem_of_getElem? (i := 798) (by decide +kernel)) rfl
theorem mc_X5_findings : Cond.code yX5_findings cX5_findings 2 (some .int) ∈ gw := gw_mem (List.mem_of_getElem? (i := 799) (by decide +kernel)) rfl
theorem mm_L_183 : Cond.methodLink RL 183 yX5_digest ∈ gw := gw_mem (List.mem_of_getElem? (i := 800) (by decide +kernel)) rfl
theorem mi_X5_digest : Cond.instanceMethod yX5_digest ∈ gw := gw_mem (List.mem_of_getElem? (i := 801) (by decide +kernel)) rfl
theorem ms_X5_digest : Cond.selects RX5 yX5_digest yX5_digest ∈ gw := gw_mem (List.mem_of_getElem? (i := 802) (by decide +kernel)) rfl
theorem mc_X5_digest : Cond.code yX5_digest cX5_digest 4 (some .long) ∈ gw := gw_mem (List.mem_of_getElem? (i := 803) (by decide +kernel)) rfl
theorem mk_X5_269 : Cond.constantLong RX5 269 (17) ∈ gw := gw_mem (List.mem_of_getElem? (i := 804) (by decide +kernel)) rfl
theorem mk_X5_271 : Cond.constantLong RX5 271 (31) ∈ gw := gw_mem (List.mem_of_getElem? (i := 805) (by decide +kernel)) rfl
theorem mm_X5_273 : Cond.methodLink RX5 273 yX4_mix ∈ gw := gw_mem (List.mem_of_getElem? (i := 806) (by decide +kernel)) rfl
theorem mi_X4_mix : Cond.instanceMethod yX4_mix ∈ gw := gw_mem (List.mem_of_getElem? (i := 807) (by decide +kernel)) rfl
theorem ms_X4_mix : Cond.selects RX4 yX4_mix yX4_mix ∈ gw := gw_mem (List.mem_of_getElem? (i := 808) (by decide +kernel)) rfl
theorem mc_X4_mix : Cond.code yX4_mix cX4_mix 7 (some .long) ∈ gw := gw_mem (List.mem_of_getElem? (i := 809) (by decide +kernel)) rfl
theorem mk_X4_111 : Cond.constantLong RX4 111 (31) ∈ gw := gw_mem (List.mem_of_getElem? (i := 810) (by decide +kernel)) rfl
theorem mm_X4_113 : Cond.methodLink RX4 113 yX4_facet ∈ gw := gw_mem (List.mem_of_getElem? (i := 811) (by decide +kernel)) rfl
theorem mm_X5_277 : Cond.methodLink RX5 277 yX3_mix ∈ gw := gw_mem (List.mem_of_getElem? (i := 812) (by decide +kernel)) rfl
theorem mi_X3_mix : Cond.instanceMethod yX3_mix ∈ gw := gw_mem (List.mem_of_getElem? (i := 813) (by decide +kernel)) rfl
theorem ms_X3_mix : Cond.selects RX3 yX3_mix yX3_mix ∈ gw := gw_mem (List.mem_of_getElem? (i := 814) (by decide +kernel)) rfl
theorem mc_X3_mix : Cond.code yX3_mix cX3_mix 7 (some .long) ∈ gw := gw_mem (List.mem_of_getElem? (i := 815) (by decide +kernel)) rfl
theorem mk_X3_36 : Cond.constantLong RX3 36 (31) ∈ gw := gw_mem (List.mem_of_getElem? (i := 816) (by decide +kernel)) rfl
theorem mm_L_12 : Cond.methodLink RL 12 yX6_init ∈ gw := gw_mem (List.mem_of_getElem? (i := 819) (by decide +kernel)) rfl
theorem mi_X6_init : Cond.instanceMethod yX6_init ∈ gw := gw_mem (List.mem_of_getElem? (i := 820) (by decide +kernel)) rfl
theorem mc_X6_init : Cond.code yX6_init cX6_init 2 (none) ∈ gw := gw_mem (List.mem_of_getElem? (i := 821) (by decide +kernel)) rfl
theorem mm_X6_1 : Cond.methodLink RX6 1 objectInit ∈ gw := gw_mem (List.mem_of_getElem? (i := 822) (by decide +kernel)) rfl
theorem mf_X6_83 : Cond.fieldLink RX6 83 "WheelWeeksModel" "told" "I" ∈ gw := gw_mem (List.mem_of_getElem? (i := 823) (by decide +kernel)) rfl
theorem mf_X6_86 : Cond.fieldLink RX6 86 "WheelWeeksModel" "above" "J" ∈ gw := gw_mem (List.mem_of_getElem? (i := 824) (by decide +kernel)) rfl
theorem mf_X6_7 : Cond.fieldLink RX6 7 "WheelWeeksModel" "below" "J" ∈ gw := gw_mem (List.mem_of_getElem? (i := 825) (by decide +kernel)) rfl
theorem mf_X6_79 : Cond.fieldLink RX6 79 "WheelWeeksModel" "latest" "I" ∈ gw := gw_mem (List.mem_of_getElem? (i := 826) (by decide +kernel)) rfl
theorem mf_X6_13 : Cond.fieldLink RX6 13 "WheelWeeksModel" "came" "[I" ∈ gw := gw_mem (List.mem_of_getElem? (i := 827) (by decide +kernel)) rfl
theorem mf_X6_17 : Cond.fieldLink RX6 17 "WheelWeeksModel" "sizes" "[I" ∈ gw := gw_mem (List.mem_of_getElem? (i := 828) (by decide +kernel)) rfl
theorem mf_X6_20 : Cond.fieldLink RX6 20 "WheelWeeksModel" "rows" "[I" ∈ gw := gw_mem (List.mem_of_getElem? (i := 829) (by decide +kernel)) rfl
theorem mf_X6_23 : Cond.fieldLink RX6 23 "WheelWeeksModel" "copied" "[I" ∈ gw := gw_mem (List.mem_of_getElem? (i := 830) (by decide +kernel)) rfl
theorem mf_X6_26 : Cond.fieldLink RX6 26 "WheelWeeksModel" "textSizes" "[I" ∈ gw := gw_mem (List.mem_of_getElem? (i := 831) (by decide +kernel)) rfl
theorem mf_X6_29 : Cond.fieldLink RX6 29 "WheelWeeksModel" "bytes" "[B" ∈ gw := gw_mem (List.mem_of_getElem? (i := 832) (by decide +kernel)) rfl
theorem mf_X6_111 : Cond.fieldLink RX6 111 "WheelWeeksModel" "readAt" "I" ∈ gw := gw_mem (List.mem_of_getElem? (i := 833) (by decide +kernel)) rfl
theorem mf_X6_130 : Cond.fieldLink RX6 130 "WheelWeeksModel" "readMany" "I" ∈ gw := gw_mem (List.mem_of_getElem? (i := 834) (by decide +kernel)) rfl
theorem mf_X6_120 : Cond.fieldLink RX6 120 "WheelWeeksModel" "readGate" "I" ∈ gw := gw_mem (List.mem_of_getElem? (i := 835) (by decide +kernel)) rfl
theorem mf_X6_123 : Cond.fieldLink RX6 123 "WheelWeeksModel" "isBegun" "Z" ∈ gw := gw_mem (List.mem_of_getElem? (i := 836) (by decide +kernel)) rfl
theorem mf_X6_33 : Cond.fieldLink RX6 33 "WheelWeeksModel" "readRut" "[I" ∈ gw := gw_mem (List.mem_of_getElem? (i := 837) (by decide +kernel)) rfl
theorem mf_X6_36 : Cond.fieldLink RX6 36 "WheelWeeksModel" "readKind" "[I" ∈ gw := gw_mem (List.mem_of_getElem? (i := 838) (by decide +kernel)) rfl
theorem mf_X6_39 : Cond.fieldLink RX6 39 "WheelWeeksModel" "readLong" "[I" ∈ gw := gw_mem (List.mem_of_getElem? (i := 839) (by decide +kernel)) rfl
theorem mf_X6_42 : Cond.fieldLink RX6 42 "WheelWeeksModel" "readStrong" "[I" ∈ gw := gw_mem (List.mem_of_getElem? (i := 840) (by decide +kernel)) rfl
theorem mf_X6_142 : Cond.fieldLink RX6 142 "WheelWeeksModel" "n" "I" ∈ gw := gw_mem (List.mem_of_getElem? (i := 841) (by decide +kernel)) rfl
theorem mf_X6_145 : Cond.fieldLink RX6 145 "WheelWeeksModel" "gateAt" "I" ∈ gw := gw_mem (List.mem_of_getElem? (i := 842) (by decide +kernel)) rfl
theorem mf_X6_45 : Cond.fieldLink RX6 45 "WheelWeeksModel" "ruts" "[I" ∈ gw := gw_mem (List.mem_of_getElem? (i := 843) (by decide +kernel)) rfl
theorem mf_X6_48 : Cond.fieldLink RX6 48 "WheelWeeksModel" "kinds" "[I" ∈ gw := gw_mem (List.mem_of_getElem? (i := 844) (by decide +kernel)) rfl
theorem mf_X6_51 : Cond.fieldLink RX6 51 "WheelWeeksModel" "longs" "[I" ∈ gw := gw_mem (List.mem_of_getElem? (i := 845) (by decide +kernel)) rfl
theorem mf_X6_54 : Cond.fieldLink RX6 54 "WheelWeeksModel" "strongs" "[I" ∈ gw := gw_mem (List.mem_of_getElem? (i := 846) (by decide +kernel)) rfl
theorem mf_X6_57 : Cond.fieldLink RX6 57 "WheelWeeksModel" "now" "[I" ∈ gw := gw_mem (List.mem_of_getElem? (i := 847) (by decide +kernel)) rfl
theorem mf_X6_60 : Cond.fieldLink RX6 60 "WheelWeeksModel" "tried" "[I" ∈ gw := gw_mem (List.mem_of_getElem? (i := 848) (by decide +kernel)) rfl
theorem mf_X6_148 : Cond.fieldLink RX6 148 "WheelWeeksModel" "deedMany" "I" ∈ gw := gw_mem (List.mem_of_getElem? (i := 849) (by decide +kernel)) rfl
theorem mf_X6_63 : Cond.fieldLink RX6 63 "WheelWeeksModel" "log" "[I" ∈ gw := gw_mem (List.mem_of_getElem? (i := 850) (by decide +kernel)) rfl
theorem mf_X6_66 : Cond.fieldLink RX6 66 "WheelWeeksModel" "keptMany" "[I" ∈ gw := gw_mem (List.mem_of_getElem? (i := 851) (by decide +kernel)) rfl
theorem mf_X6_69 : Cond.fieldLink RX6 69 "WheelWeeksModel" "kept" "[I" ∈ gw := gw_mem (List.mem_of_getElem? (i := 852) (by decide +kernel)) rfl
theorem mf_X6_72 : Cond.fieldLink RX6 72 "WheelWeeksModel" "outcomes" "[I" ∈ gw := gw_mem (List.mem_of_getElem? (i := 853) (by decide +kernel)) rfl
theorem mf_X6_75 : Cond.fieldLink RX6 75 "WheelWeeksModel" "parts" "[J" ∈ gw := gw_mem (List.mem_of_getElem? (i := 854) (by decide +kernel)) rfl
theorem mf_X6_241 : Cond.fieldLink RX6 241 "WheelWeeksModel" "whole" "J" ∈ gw := gw_mem (List.mem_of_getElem? (i := 855) (by decide +kernel)) rfl
theorem mf_X6_268 : Cond.fieldLink RX6 268 "WheelWeeksModel" "h" "J" ∈ gw := gw_mem (List.mem_of_getElem? (i := 856) (by decide +kernel)) rfl
theorem mm_L_161 : Cond.methodLink RL 161 yX6_asked ∈ gw := gw_mem (List.mem_of_getElem? (i := 928) (by decide +kernel)) rfl
theorem mi_X6_asked : Cond.instanceMethod yX6_asked ∈ gw := gw_mem (List.mem_of_getElem? (i := 929) (by decide +kernel)) rfl
theorem ms_X6_asked : Cond.selects RX6 yX6_asked yX6_asked ∈ gw := gw_mem (List.mem_of_getElem? (i := 930) (by decide +kernel)) rfl
theorem mc_X6_asked : Cond.code yX6_asked cX6_asked 1 (some .int) ∈ gw := gw_mem (List.mem_of_getElem? (i := 931) (by decide +kernel)) rfl
theorem mm_L_166 : Cond.methodLink RL 166 yX6_upper ∈ gw := gw_mem (List.mem_of_getElem? (i := 932) (by decide +kernel)) rfl
theorem mi_X6_upper : Cond.instanceMethod yX6_upper ∈ gw := gw_mem (List.mem_of_getElem? (i := 933) (by decide +kernel)) rfl
theorem ms_X6_upper : Cond.selects RX6 yX6_upper yX6_upper ∈ gw := gw_mem (List.mem_of_getElem? (i := 934) (by decide +kernel)) rfl
theorem mc_X6_upper : Cond.code yX6_upper cX6_upper 1 (some .long) ∈ gw := gw_mem (List.mem_of_getElem? (i := 935) (by decide +kernel)) rfl
theorem mm_L_170 : Cond.methodLink RL 170 yX6_lower ∈ gw := gw_mem (List.mem_of_getElem? (i := 936) (by decide +kernel)) rfl
theorem mi_X6_lower : Cond.instanceMethod yX6_lower ∈ gw := gw_mem (List.mem_of_getElem? (i := 937) (by decide +kernel)) rfl
theorem ms_X6_lower : Cond.selects RX6 yX6_lower yX6_lower ∈ gw := gw_mem (List.mem_of_getElem? (i := 938) (by decide +kernel)) rfl
theorem mc_X6_lower : Cond.code yX6_lower cX6_lower 1 (some .long) ∈ gw := gw_mem (List.mem_of_getElem? (i := 939) (by decide +kernel)) rfl
theorem mm_L_178 : Cond.methodLink RL 178 yX6_finding ∈ gw := gw_mem (List.mem_of_getElem? (i := 940) (by decide +kernel)) rfl
theorem mi_X6_finding : Cond.instanceMethod yX6_finding ∈ gw := gw_mem (List.mem_of_getElem? (i := 941) (by decide +kernel)) rfl
theorem ms_X6_finding : Cond.selects RX6 yX6_finding yX6_finding ∈ gw := gw_mem (List.mem_of_getElem? (i := 942) (by decide +kernel)) rfl
theorem mc_X6_finding : Cond.code yX6_finding cX6_finding 1 (some .int) ∈ gw := gw_mem (List.mem_of_getElem? (i := 943) (by decide +kernel)) rfl
theorem mm_L_182 : Cond.methodLink RL 182 yX6_findings ∈ gw := gw_mem (List.mem_of_getElem? (i := 944) (by decide +kernel)) rfl
theorem mi_X6_findings : Cond.instanceMethod yX6_findings ∈ gw := gw_mem (List.mem_of_getElem? (i := 945) (by decide +kernel)) rfl
theorem ms_X6_findings : Cond.selects RX6 yX6_findings yX6_findings ∈ gw := gw_mem (List.mem_of_getElem? (i := 946) (by decide +kernel)) rfl
theorem mc_X6_findings : Cond.code yX6_findings cX6_findings 2 (some .int) ∈ gw := gw_mem (List.mem_of_getElem? (i := 947) (by decide +kernel)) rfl
theorem mm_X6_89 : Cond.methodLink RX6 89 yX6_in ∈ gw := gw_mem (List.mem_of_getElem? (i := 948) (by decide +kernel)) rfl
theorem mt_X6_in : Cond.static yX6_in ∈ gw := gw_mem (List.mem_of_getElem? (i := 949) (by decide +kernel)) rfl
theorem mc_X6_in : Cond.code yX6_in cX6_in 3 (some .boolean) ∈ gw := gw_mem (List.mem_of_getElem? (i := 950) (by decide +kernel)) rfl
theorem mm_L_17 : Cond.methodLink RL 17 yX6_row ∈ gw := gw_mem (List.mem_of_getElem? (i := 951) (by decide +kernel)) rfl
theorem mi_X6_row : Cond.instanceMethod yX6_row ∈ gw := gw_mem (List.mem_of_getElem? (i := 952) (by decide +kernel)) rfl
theorem ms_X6_row : Cond.selects RX6 yX6_row yX6_row ∈ gw := gw_mem (List.mem_of_getElem? (i := 953) (by decide +kernel)) rfl
theorem mc_X6_row : Cond.code yX6_row cX6_row 4 (some .int) ∈ gw := gw_mem (List.mem_of_getElem? (i := 954) (by decide +kernel)) rfl
theorem mm_X6_93 : Cond.methodLink RX6 93 yX6_isRow ∈ gw := gw_mem (List.mem_of_getElem? (i := 955) (by decide +kernel)) rfl
theorem mt_X6_isRow : Cond.static yX6_isRow ∈ gw := gw_mem (List.mem_of_getElem? (i := 956) (by decide +kernel)) rfl
theorem mc_X6_isRow : Cond.code yX6_isRow cX6_isRow 1 (some .boolean) ∈ gw := gw_mem (List.mem_of_getElem? (i := 957) (by decide +kernel)) rfl
theorem mm_X6_97 : Cond.methodLink RX6 97 yX6_meets ∈ gw := gw_mem (List.mem_of_getElem? (i := 958) (by decide +kernel)) rfl
theorem mi_X6_meets : Cond.instanceMethod yX6_meets ∈ gw := gw_mem (List.mem_of_getElem? (i := 960) (by decide +kernel)) rfl
theorem mc_X6_meets : Cond.code yX6_meets cX6_meets 2 (some .int) ∈ gw := gw_mem (List.mem_of_getElem? (i := 961) (by decide +kernel)) rfl
theorem mm_L_22 : Cond.methodLink RL 22 yX6_lay ∈ gw := gw_mem (List.mem_of_getElem? (i := 962) (by decide +kernel)) rfl
theorem mi_X6_lay : Cond.instanceMethod yX6_lay ∈ gw := gw_mem (List.mem_of_getElem? (i := 963) (by decide +kernel)) rfl
theorem ms_X6_lay : Cond.selects RX6 yX6_lay yX6_lay ∈ gw := gw_mem (List.mem_of_getElem? (i := 964) (by decide +kernel)) rfl
theorem mc_X6_lay : Cond.code yX6_lay cX6_lay 5 (some .int) ∈ gw := gw_mem (List.mem_of_getElem? (i := 965) (by decide +kernel)) rfl
theorem mm_X6_101 : Cond.methodLink RX6 101 yX6_rowAt ∈ gw := gw_mem (List.mem_of_getElem? (i := 966) (by decide +kernel)) rfl
theorem mi_X6_rowAt : Cond.instanceMethod yX6_rowAt ∈ gw := gw_mem (List.mem_of_getElem? (i := 968) (by decide +kernel)) rfl
theorem mc_X6_rowAt : Cond.code yX6_rowAt cX6_rowAt 3 (some .int) ∈ gw := gw_mem (List.mem_of_getElem? (i := 969) (by decide +kernel)) rfl
theorem mm_X6_105 : Cond.methodLink RX6 105 yX6_tells ∈ gw := gw_mem (List.mem_of_getElem? (i := 970) (by decide +kernel)) rfl
theorem mi_X6_tells : Cond.instanceMethod yX6_tells ∈ gw := gw_mem (List.mem_of_getElem? (i := 972) (by decide +kernel)) rfl
theorem mc_X6_tells : Cond.code yX6_tells cX6_tells 3 (some .int) ∈ gw := gw_mem (List.mem_of_getElem? (i := 973) (by decide +kernel)) rfl
theorem mm_L_26 : Cond.methodLink RL 26 yX6_at ∈ gw := gw_mem (List.mem_of_getElem? (i := 974) (by decide +kernel)) rfl
theorem mi_X6_at : Cond.instanceMethod yX6_at ∈ gw := gw_mem (List.mem_of_getElem? (i := 975) (by decide +kernel)) rfl
theorem ms_X6_at : Cond.selects RX6 yX6_at yX6_at ∈ gw := gw_mem (List.mem_of_getElem? (i := 976) (by decide +kernel)) rfl
theorem mc_X6_at : Cond.code yX6_at cX6_at 3 (some .int) ∈ gw := gw_mem (List.mem_of_getElem? (i := 977) (by decide +kernel)) rfl
theorem mm_L_31 : Cond.methodLink RL 31 yX6_tear ∈ gw := gw_mem (List.mem_of_getElem? (i := 978) (by decide +kernel)) rfl
theorem mi_X6_tear : Cond.instanceMethod yX6_tear ∈ gw := gw_mem (List.mem_of_getElem? (i := 979) (by decide +kernel)) rfl
theorem ms_X6_tear : Cond.selects RX6 yX6_tear yX6_tear ∈ gw := gw_mem (List.mem_of_getElem? (i := 980) (by decide +kernel)) rfl
theorem mc_X6_tear : Cond.code yX6_tear cX6_tear 2 (some .int) ∈ gw := gw_mem (List.mem_of_getElem? (i := 981) (by decide +kernel)) rfl
theorem mm_L_36 : Cond.methodLink RL 36 yX6_copy ∈ gw := gw_mem (List.mem_of_getElem? (i := 982) (by decide +kernel)) rfl
theorem mi_X6_copy : Cond.instanceMethod yX6_copy ∈ gw := gw_mem (List.mem_of_getElem? (i := 983) (by decide +kernel)) rfl
theorem ms_X6_copy : Cond.selects RX6 yX6_copy yX6_copy ∈ gw := gw_mem (List.mem_of_getElem? (i := 984) (by decide +kernel)) rfl
theorem mc_X6_copy : Cond.code yX6_copy cX6_copy 7 (some .int) ∈ gw := gw_mem (List.mem_of_getElem? (i := 985) (by decide +kernel)) rfl
theorem mm_L_40 : Cond.methodLink RL 40 yX6_mean ∈ gw := gw_mem (List.mem_of_getElem? (i := 986) (by decide +kernel)) rfl
theorem mi_X6_mean : Cond.instanceMethod yX6_mean ∈ gw := gw_mem (List.mem_of_getElem? (i := 987) (by decide +kernel)) rfl
theorem ms_X6_mean : Cond.selects RX6 yX6_mean yX6_mean ∈ gw := gw_mem (List.mem_of_getElem? (i := 988) (by decide +kernel)) rfl
theorem mc_X6_mean : Cond.code yX6_mean cX6_mean 5 (some .int) ∈ gw := gw_mem (List.mem_of_getElem? (i := 989) (by decide +kernel)) rfl
theorem mm_L_44 : Cond.methodLink RL 44 yX6_text ∈ gw := gw_mem (List.mem_of_getElem? (i := 990) (by decide +kernel)) rfl
theorem mi_X6_text : Cond.instanceMethod yX6_text ∈ gw := gw_mem (List.mem_of_getElem? (i := 991) (by decide +kernel)) rfl
theorem ms_X6_text : Cond.selects RX6 yX6_text yX6_text ∈ gw := gw_mem (List.mem_of_getElem? (i := 992) (by decide +kernel)) rfl
theorem mc_X6_text : Cond.code yX6_text cX6_text 4 (some .int) ∈ gw := gw_mem (List.mem_of_getElem? (i := 993) (by decide +kernel)) rfl
theorem mm_X6_108 : Cond.methodLink RX6 108 yX6_isText ∈ gw := gw_mem (List.mem_of_getElem? (i := 994) (by decide +kernel)) rfl
theorem mt_X6_isText : Cond.static yX6_isText ∈ gw := gw_mem (List.mem_of_getElem? (i := 995) (by decide +kernel)) rfl
theorem mc_X6_isText : Cond.code yX6_isText cX6_isText 1 (some .boolean) ∈ gw := gw_mem (List.mem_of_getElem? (i := 996) (by decide +kernel)) rfl
theorem mm_L_48 : Cond.methodLink RL 48 yX6_put ∈ gw := gw_mem (List.mem_of_getElem? (i := 997) (by decide +kernel)) rfl
theorem mi_X6_put : Cond.instanceMethod yX6_put ∈ gw := gw_mem (List.mem_of_getElem? (i := 998) (by decide +kernel)) rfl
theorem ms_X6_put : Cond.selects RX6 yX6_put yX6_put ∈ gw := gw_mem (List.mem_of_getElem? (i := 999) (by decide +kernel)) rfl
theorem mc_X6_put : Cond.code yX6_put cX6_put 5 (some .int) ∈ gw := gw_mem (List.mem_of_getElem? (i := 1000) (by decide +kernel)) rfl
theorem mm_L_52 : Cond.methodLink RL 52 yX6_fault ∈ gw := gw_mem (List.mem_of_getElem? (i := 1001) (by decide +kernel)) rfl
theorem mi_X6_fault : Cond.instanceMethod yX6_fault ∈ gw := gw_mem (List.mem_of_getElem? (i := 1002) (by decide +kernel)) rfl
theorem ms_X6_fault : Cond.selects RX6 yX6_fault yX6_fault ∈ gw := gw_mem (List.mem_of_getElem? (i := 1003) (by decide +kernel)) rfl
theorem mc_X6_fault : Cond.code yX6_fault cX6_fault 2 (some .int) ∈ gw := gw_mem (List.mem_of_getElem? (i := 1004) (by decide +kernel)) rfl
theorem mm_X6_139 : Cond.methodLink RX6 139 yX6_faultOf ∈ gw := gw_mem (List.mem_of_getElem? (i := 1005) (by decide +kernel)) rfl
theorem mi_X6_faultOf : Cond.instanceMethod yX6_faultOf ∈ gw := gw_mem (List.mem_of_getElem? (i := 1007) (by decide +kernel)) rfl
theorem mc_X6_faultOf : Cond.code yX6_faultOf cX6_faultOf 2 (some .int) ∈ gw := gw_mem (List.mem_of_getElem? (i := 1008) (by decide +kernel)) rfl
theorem mm_X6_114 : Cond.methodLink RX6 114 yX6_letterAt ∈ gw := gw_mem (List.mem_of_getElem? (i := 1009) (by decide +kernel)) rfl
theorem mi_X6_letterAt : Cond.instanceMethod yX6_letterAt ∈ gw := gw_mem (List.mem_of_getElem? (i := 1011) (by decide +kernel)) rfl
theorem mc_X6_letterAt : Cond.code yX6_letterAt cX6_letterAt 3 (some .int) ∈ gw := gw_mem (List.mem_of_getElem? (i := 1012) (by decide +kernel)) rfl
theorem mm_X6_133 : Cond.methodLink RX6 133 yX6_readsSpoke ∈ gw := gw_mem (List.mem_of_getElem? (i := 1013) (by decide +kernel)) rfl
theorem mi_X6_readsSpoke : Cond.instanceMethod yX6_readsSpoke ∈ gw := gw_mem (List.mem_of_getElem? (i := 1015) (by decide +kernel)) rfl
theorem mc_X6_readsSpoke : Cond.code yX6_readsSpoke cX6_readsSpoke 5 (some .boolean) ∈ gw := gw_mem (List.mem_of_getElem? (i := 1016) (by decide +kernel)) rfl
theorem mm_X6_127 : Cond.methodLink RX6 127 yX6_kindOf ∈ gw := gw_mem (List.mem_of_getElem? (i := 1017) (by decide +kernel)) rfl
theorem mt_X6_kindOf : Cond.static yX6_kindOf ∈ gw := gw_mem (List.mem_of_getElem? (i := 1018) (by decide +kernel)) rfl
theorem mc_X6_kindOf : Cond.code yX6_kindOf cX6_kindOf 1 (some .int) ∈ gw := gw_mem (List.mem_of_getElem? (i := 1019) (by decide +kernel)) rfl
theorem mm_X6_117 : Cond.methodLink RX6 117 yX6_reads ∈ gw := gw_mem (List.mem_of_getElem? (i := 1020) (by decide +kernel)) rfl
theorem mi_X6_reads : Cond.instanceMethod yX6_reads ∈ gw := gw_mem (List.mem_of_getElem? (i := 1022) (by decide +kernel)) rfl
theorem mc_X6_reads : Cond.code yX6_reads cX6_reads 4 (some .int) ∈ gw := gw_mem (List.mem_of_getElem? (i := 1023) (by decide +kernel)) rfl
theorem mm_X6_136 : Cond.methodLink RX6 136 yX6_readsRoad ∈ gw := gw_mem (List.mem_of_getElem? (i := 1024) (by decide +kernel)) rfl
theorem mi_X6_readsRoad : Cond.instanceMethod yX6_readsRoad ∈ gw := gw_mem (List.mem_of_getElem? (i := 1026) (by decide +kernel)) rfl
theorem mc_X6_readsRoad : Cond.code yX6_readsRoad cX6_readsRoad 5 (some .boolean) ∈ gw := gw_mem (List.mem_of_getElem? (i := 1027) (by decide +kernel)) rfl
theorem mm_L_56 : Cond.methodLink RL 56 yX6_wheel ∈ gw := gw_mem (List.mem_of_getElem? (i := 1028) (by decide +kernel)) rfl
theorem mi_X6_wheel : Cond.instanceMethod yX6_wheel ∈ gw := gw_mem (List.mem_of_getElem? (i := 1029) (by decide +kernel)) rfl
theorem ms_X6_wheel : Cond.selects RX6 yX6_wheel yX6_wheel ∈ gw := gw_mem (List.mem_of_getElem? (i := 1030) (by decide +kernel)) rfl
theorem mc_X6_wheel : Cond.code yX6_wheel cX6_wheel 3 (some .int) ∈ gw := gw_mem (List.mem_of_getElem? (i := 1031) (by decide +kernel)) rfl
theorem mm_L_60 : Cond.methodLink RL 60 yX6_spoke ∈ gw := gw_mem (List.mem_of_getElem? (i := 1032) (by decide +kernel)) rfl
theorem mi_X6_spoke : Cond.instanceMethod yX6_spoke ∈ gw := gw_mem (List.mem_of_getElem? (i := 1033) (by decide +kernel)) rfl
theorem ms_X6_spoke : Cond.selects RX6 yX6_spoke yX6_spoke ∈ gw := gw_mem (List.mem_of_getElem? (i := 1034) (by decide +kernel)) rfl
theorem mc_X6_spoke : Cond.code yX6_spoke cX6_spoke 3 (some .int) ∈ gw := gw_mem (List.mem_of_getElem? (i := 1035) (by decide +kernel)) rfl
theorem mm_X6_169 : Cond.methodLink RX6 169 yX6_isSpoke ∈ gw := gw_mem (List.mem_of_getElem? (i := 1036) (by decide +kernel)) rfl
theorem mi_X6_isSpoke : Cond.instanceMethod yX6_isSpoke ∈ gw := gw_mem (List.mem_of_getElem? (i := 1038) (by decide +kernel)) rfl
theorem mc_X6_isSpoke : Cond.code yX6_isSpoke cX6_isSpoke 2 (some .boolean) ∈ gw := gw_mem (List.mem_of_getElem? (i := 1039) (by decide +kernel)) rfl
theorem mm_X6_172 : Cond.methodLink RX6 172 yX6_spokeTells ∈ gw := gw_mem (List.mem_of_getElem? (i := 1040) (by decide +kernel)) rfl
theorem mi_X6_spokeTells : Cond.instanceMethod yX6_spokeTells ∈ gw := gw_mem (List.mem_of_getElem? (i := 1042) (by decide +kernel)) rfl
theorem mc_X6_spokeTells : Cond.code yX6_spokeTells cX6_spokeTells 3 (some .int) ∈ gw := gw_mem (List.mem_of_getElem? (i := 1043) (by decide +kernel)) rfl
theorem mm_X6_162 : Cond.methodLink RX6 162 yX6_depth ∈ gw := gw_mem (List.mem_of_getElem? (i := 1044) (by decide +kernel)) rfl
theorem mi_X6_depth : Cond.instanceMethod yX6_depth ∈ gw := gw_mem (List.mem_of_getElem? (i := 1046) (by decide +kernel)) rfl
theorem mc_X6_depth : Cond.code yX6_depth cX6_depth 2 (some .int) ∈ gw := gw_mem (List.mem_of_getElem? (i := 1047) (by decide +kernel)) rfl
theorem mm_X6_165 : Cond.methodLink RX6 165 yX6_bearsOn ∈ gw := gw_mem (List.mem_of_getElem? (i := 1048) (by decide +kernel)) rfl
theorem mi_X6_bearsOn : Cond.instanceMethod yX6_bearsOn ∈ gw := gw_mem (List.mem_of_getElem? (i := 1050) (by decide +kernel)) rfl
theorem mc_X6_bearsOn : Cond.code yX6_bearsOn cX6_bearsOn 4 (some .int) ∈ gw := gw_mem (List.mem_of_getElem? (i := 1051) (by decide +kernel)) rfl
theorem mm_X6_154 : Cond.methodLink RX6 154 yX6_bearsAs ∈ gw := gw_mem (List.mem_of_getElem? (i := 1052) (by decide +kernel)) rfl
theorem mt_X6_bearsAs : Cond.static yX6_bearsAs ∈ gw := gw_mem (List.mem_of_getElem? (i := 1053) (by decide +kernel)) rfl
theorem mc_X6_bearsAs : Cond.code yX6_bearsAs cX6_bearsAs 7 (some .int) ∈ gw := gw_mem (List.mem_of_getElem? (i := 1054) (by decide +kernel)) rfl
theorem mm_X6_151 : Cond.methodLink RX6 151 yX6_above0 ∈ gw := gw_mem (List.mem_of_getElem? (i := 1055) (by decide +kernel)) rfl
theorem mt_X6_above0 : Cond.static yX6_above0 ∈ gw := gw_mem (List.mem_of_getElem? (i := 1056) (by decide +kernel)) rfl
theorem mc_X6_above0 : Cond.code yX6_above0 cX6_above0 1 (some .int) ∈ gw := gw_mem (List.mem_of_getElem? (i := 1057) (by decide +kernel)) rfl
theorem mm_L_64 : Cond.methodLink RL 64 yX6_mark ∈ gw := gw_mem (List.mem_of_getElem? (i := 1058) (by decide +kernel)) rfl
theorem mi_X6_mark : Cond.instanceMethod yX6_mark ∈ gw := gw_mem (List.mem_of_getElem? (i := 1059) (by decide +kernel)) rfl
theorem ms_X6_mark : Cond.selects RX6 yX6_mark yX6_mark ∈ gw := gw_mem (List.mem_of_getElem? (i := 1060) (by decide +kernel)) rfl
theorem mc_X6_mark : Cond.code yX6_mark cX6_mark 4 (some .int) ∈ gw := gw_mem (List.mem_of_getElem? (i := 1061) (by decide +kernel)) rfl
theorem mm_X6_175 : Cond.methodLink RX6 175 yX6_isOf ∈ gw := gw_mem (List.mem_of_getElem? (i := 1062) (by decide +kernel)) rfl
theorem mt_X6_isOf : Cond.static yX6_isOf ∈ gw := gw_mem (List.mem_of_getElem? (i := 1063) (by decide +kernel)) rfl
theorem mc_X6_isOf : Cond.code yX6_isOf cX6_isOf 2 (some .boolean) ∈ gw := gw_mem (List.mem_of_getElem? (i := 1064) (by decide +kernel)) rfl
theorem mm_X6_178 : Cond.methodLink RX6 178 yX6_alike ∈ gw := gw_mem (List.mem_of_getElem? (i := 1065) (by decide +kernel)) rfl
theorem mi_X6_alike : Cond.instanceMethod yX6_alike ∈ gw := gw_mem (List.mem_of_getElem? (i := 1067) (by decide +kernel)) rfl
theorem mc_X6_alike : Cond.code yX6_alike cX6_alike 3 (some .int) ∈ gw := gw_mem (List.mem_of_getElem? (i := 1068) (by decide +kernel)) rfl
theorem mm_L_68 : Cond.methodLink RL 68 yX6_bears ∈ gw := gw_mem (List.mem_of_getElem? (i := 1069) (by decide +kernel)) rfl
theorem mi_X6_bears : Cond.instanceMethod yX6_bears ∈ gw := gw_mem (List.mem_of_getElem? (i := 1070) (by decide +kernel)) rfl
theorem ms_X6_bears : Cond.selects RX6 yX6_bears yX6_bears ∈ gw := gw_mem (List.mem_of_getElem? (i := 1071) (by decide +kernel)) rfl
theorem mc_X6_bears : Cond.code yX6_bears cX6_bears 4 (some .int) ∈ gw := gw_mem (List.mem_of_getElem? (i := 1072) (by decide +kernel)) rfl
theorem mm_L_73 : Cond.methodLink RL 73 yX6_step ∈ gw := gw_mem (List.mem_of_getElem? (i := 1073) (by decide +kernel)) rfl
theorem mi_X6_step : Cond.instanceMethod yX6_step ∈ gw := gw_mem (List.mem_of_getElem? (i := 1074) (by decide +kernel)) rfl
theorem ms_X6_step : Cond.selects RX6 yX6_step yX6_step ∈ gw := gw_mem (List.mem_of_getElem? (i := 1075) (by decide +kernel)) rfl
theorem mc_X6_step : Cond.code yX6_step cX6_step 1 (some .int) ∈ gw := gw_mem (List.mem_of_getElem? (i := 1076) (by decide +kernel)) rfl
theorem mm_X6_181 : Cond.methodLink RX6 181 yX6_isOver ∈ gw := gw_mem (List.mem_of_getElem? (i := 1077) (by decide +kernel)) rfl
theorem mi_X6_isOver : Cond.instanceMethod yX6_isOver ∈ gw := gw_mem (List.mem_of_getElem? (i := 1079) (by decide +kernel)) rfl
theorem mc_X6_isOver : Cond.code yX6_isOver cX6_isOver 4 (some .boolean) ∈ gw := gw_mem (List.mem_of_getElem? (i := 1080) (by decide +kernel)) rfl
theorem mm_X6_158 : Cond.methodLink RX6 158 yX6_has ∈ gw := gw_mem (List.mem_of_getElem? (i := 1081) (by decide +kernel)) rfl
theorem mt_X6_has : Cond.static yX6_has ∈ gw := gw_mem (List.mem_of_getElem? (i := 1082) (by decide +kernel)) rfl
theorem mc_X6_has : Cond.code yX6_has cX6_has 2 (some .boolean) ∈ gw := gw_mem (List.mem_of_getElem? (i := 1083) (by decide +kernel)) rfl
theorem mm_X6_185 : Cond.methodLink RX6 185 yX6_remember ∈ gw := gw_mem (List.mem_of_getElem? (i := 1084) (by decide +kernel)) rfl
theorem mi_X6_remember : Cond.instanceMethod yX6_remember ∈ gw := gw_mem (List.mem_of_getElem? (i := 1086) (by decide +kernel)) rfl
theorem mc_X6_remember : Cond.code yX6_remember cX6_remember 2 (none) ∈ gw := gw_mem (List.mem_of_getElem? (i := 1087) (by decide +kernel)) rfl
theorem mm_X6_188 : Cond.methodLink RX6 188 yX6_steps ∈ gw := gw_mem (List.mem_of_getElem? (i := 1088) (by decide +kernel)) rfl
theorem mi_X6_steps : Cond.instanceMethod yX6_steps ∈ gw := gw_mem (List.mem_of_getElem? (i := 1090) (by decide +kernel)) rfl
theorem mc_X6_steps : Cond.code yX6_steps cX6_steps 6 (some .boolean) ∈ gw := gw_mem (List.mem_of_getElem? (i := 1091) (by decide +kernel)) rfl
theorem mm_L_77 : Cond.methodLink RL 77 yX6_soak ∈ gw := gw_mem (List.mem_of_getElem? (i := 1092) (by decide +kernel)) rfl
theorem mi_X6_soak : Cond.instanceMethod yX6_soak ∈ gw := gw_mem (List.mem_of_getElem? (i := 1093) (by decide +kernel)) rfl
theorem ms_X6_soak : Cond.selects RX6 yX6_soak yX6_soak ∈ gw := gw_mem (List.mem_of_getElem? (i := 1094) (by decide +kernel)) rfl
theorem mc_X6_soak : Cond.code yX6_soak cX6_soak 1 (some .int) ∈ gw := gw_mem (List.mem_of_getElem? (i := 1095) (by decide +kernel)) rfl
theorem mm_X6_191 : Cond.methodLink RX6 191 yX6_need ∈ gw := gw_mem (List.mem_of_getElem? (i := 1096) (by decide +kernel)) rfl
theorem mi_X6_need : Cond.instanceMethod yX6_need ∈ gw := gw_mem (List.mem_of_getElem? (i := 1098) (by decide +kernel)) rfl
theorem mc_X6_need : Cond.code yX6_need cX6_need 1 (some .int) ∈ gw := gw_mem (List.mem_of_getElem? (i := 1099) (by decide +kernel)) rfl
theorem mm_X6_195 : Cond.methodLink RX6 195 yX6_soaks ∈ gw := gw_mem (List.mem_of_getElem? (i := 1100) (by decide +kernel)) rfl
theorem mt_X6_soaks : Cond.static yX6_soaks ∈ gw := gw_mem (List.mem_of_getElem? (i := 1101) (by decide +kernel)) rfl
theorem mc_X6_soaks : Cond.code yX6_soaks cX6_soaks 3 (some .int) ∈ gw := gw_mem (List.mem_of_getElem? (i := 1102) (by decide +kernel)) rfl
theorem mm_L_81 : Cond.methodLink RL 81 yX6_weather ∈ gw := gw_mem (List.mem_of_getElem? (i := 1103) (by decide +kernel)) rfl
theorem mi_X6_weather : Cond.instanceMethod yX6_weather ∈ gw := gw_mem (List.mem_of_getElem? (i := 1104) (by decide +kernel)) rfl
theorem ms_X6_weather : Cond.selects RX6 yX6_weather yX6_weather ∈ gw := gw_mem (List.mem_of_getElem? (i := 1105) (by decide +kernel)) rfl
theorem mc_X6_weather : Cond.code yX6_weather cX6_weather 1 (some .int) ∈ gw := gw_mem (List.mem_of_getElem? (i := 1106) (by decide +kernel)) rfl
theorem mm_L_85 : Cond.methodLink RL 85 yX6_knock ∈ gw := gw_mem (List.mem_of_getElem? (i := 1107) (by decide +kernel)) rfl
theorem mi_X6_knock : Cond.instanceMethod yX6_knock ∈ gw := gw_mem (List.mem_of_getElem? (i := 1108) (by decide +kernel)) rfl
theorem ms_X6_knock : Cond.selects RX6 yX6_knock yX6_knock ∈ gw := gw_mem (List.mem_of_getElem? (i := 1109) (by decide +kernel)) rfl
theorem mc_X6_knock : Cond.code yX6_knock cX6_knock 2 (some .int) ∈ gw := gw_mem (List.mem_of_getElem? (i := 1110) (by decide +kernel)) rfl
theorem mm_L_89 : Cond.methodLink RL 89 yX6_mend ∈ gw := gw_mem (List.mem_of_getElem? (i := 1111) (by decide +kernel)) rfl
theorem mi_X6_mend : Cond.instanceMethod yX6_mend ∈ gw := gw_mem (List.mem_of_getElem? (i := 1112) (by decide +kernel)) rfl
theorem ms_X6_mend : Cond.selects RX6 yX6_mend yX6_mend ∈ gw := gw_mem (List.mem_of_getElem? (i := 1113) (by decide +kernel)) rfl
theorem mc_X6_mend : Cond.code yX6_mend cX6_mend 3 (some .int) ∈ gw := gw_mem (List.mem_of_getElem? (i := 1114) (by decide +kernel)) rfl
theorem mm_X6_199 : Cond.methodLink RX6 199 yX6_puts ∈ gw := gw_mem (List.mem_of_getElem? (i := 1115) (by decide +kernel)) rfl
theorem mt_X6_puts : Cond.static yX6_puts ∈ gw := gw_mem (List.mem_of_getElem? (i := 1116) (by decide +kernel)) rfl
theorem mc_X6_puts : Cond.code yX6_puts cX6_puts 2 (none) ∈ gw := gw_mem (List.mem_of_getElem? (i := 1117) (by decide +kernel)) rfl
theorem mm_L_93 : Cond.methodLink RL 93 yX6_undo ∈ gw := gw_mem (List.mem_of_getElem? (i := 1118) (by decide +kernel)) rfl
theorem mi_X6_undo : Cond.instanceMethod yX6_undo ∈ gw := gw_mem (List.mem_of_getElem? (i := 1119) (by decide +kernel)) rfl
theorem ms_X6_undo : Cond.selects RX6 yX6_undo yX6_undo ∈ gw := gw_mem (List.mem_of_getElem? (i := 1120) (by decide +kernel)) rfl
theorem mc_X6_undo : Cond.code yX6_undo cX6_undo 4 (some .int) ∈ gw := gw_mem (List.mem_of_getElem? (i := 1121) (by decide +kernel)) rfl
theorem mm_L_97 : Cond.methodLink RL 97 yX6_keep ∈ gw := gw_mem (List.mem_of_getElem? (i := 1122) (by decide +kernel)) rfl
theorem mi_X6_keep : Cond.instanceMethod yX6_keep ∈ gw := gw_mem (List.mem_of_getElem? (i := 1123) (by decide +kernel)) rfl
theorem ms_X6_keep : Cond.selects RX6 yX6_keep yX6_keep ∈ gw := gw_mem (List.mem_of_getElem? (i := 1124) (by decide +kernel)) rfl
theorem mc_X6_keep : Cond.code yX6_keep cX6_keep 3 (some .int) ∈ gw := gw_mem (List.mem_of_getElem? (i := 1125) (by decide +kernel)) rfl
theorem mm_L_101 : Cond.methodLink RL 101 yX6_on ∈ gw := gw_mem (List.mem_of_getElem? (i := 1126) (by decide +kernel)) rfl
theorem mi_X6_on : Cond.instanceMethod yX6_on ∈ gw := gw_mem (List.mem_of_getElem? (i := 1127) (by decide +kernel)) rfl
theorem ms_X6_on : Cond.selects RX6 yX6_on yX6_on ∈ gw := gw_mem (List.mem_of_getElem? (i := 1128) (by decide +kernel)) rfl
theorem mc_X6_on : Cond.code yX6_on cX6_on 3 (some .int) ∈ gw := gw_mem (List.mem_of_getElem? (i := 1129) (by decide +kernel)) rfl
theorem mm_L_105 : Cond.methodLink RL 105 yX6_goes ∈ gw := gw_mem (List.mem_of_getElem? (i := 1130) (by decide +kernel)) rfl
theorem mi_X6_goes : Cond.instanceMethod yX6_goes ∈ gw := gw_mem (List.mem_of_getElem? (i := 1131) (by decide +kernel)) rfl
theorem ms_X6_goes : Cond.selects RX6 yX6_goes yX6_goes ∈ gw := gw_mem (List.mem_of_getElem? (i := 1132) (by decide +kernel)) rfl
theorem mc_X6_goes : Cond.code yX6_goes cX6_goes 3 (some .int) ∈ gw := gw_mem (List.mem_of_getElem? (i := 1133) (by decide +kernel)) rfl
theorem mm_X6_203 : Cond.methodLink RX6 203 yX6_copyNow ∈ gw := gw_mem (List.mem_of_getElem? (i := 1134) (by decide +kernel)) rfl
theorem mi_X6_copyNow : Cond.instanceMethod yX6_copyNow ∈ gw := gw_mem (List.mem_of_getElem? (i := 1136) (by decide +kernel)) rfl
theorem mc_X6_copyNow : Cond.code yX6_copyNow cX6_copyNow 2 (none) ∈ gw := gw_mem (List.mem_of_getElem? (i := 1137) (by decide +kernel)) rfl
theorem mm_X6_206 : Cond.methodLink RX6 206 yX6_limpsIn ∈ gw := gw_mem (List.mem_of_getElem? (i := 1138) (by decide +kernel)) rfl
theorem mi_X6_limpsIn : Cond.instanceMethod yX6_limpsIn ∈ gw := gw_mem (List.mem_of_getElem? (i := 1140) (by decide +kernel)) rfl
theorem mc_X6_limpsIn : Cond.code yX6_limpsIn cX6_limpsIn 6 (some .int) ∈ gw := gw_mem (List.mem_of_getElem? (i := 1141) (by decide +kernel)) rfl
theorem mm_L_109 : Cond.methodLink RL 109 yX6_over ∈ gw := gw_mem (List.mem_of_getElem? (i := 1142) (by decide +kernel)) rfl
theorem mi_X6_over : Cond.instanceMethod yX6_over ∈ gw := gw_mem (List.mem_of_getElem? (i := 1143) (by decide +kernel)) rfl
theorem ms_X6_over : Cond.selects RX6 yX6_over yX6_over ∈ gw := gw_mem (List.mem_of_getElem? (i := 1144) (by decide +kernel)) rfl
theorem mc_X6_over : Cond.code yX6_over cX6_over 1 (some .int) ∈ gw := gw_mem (List.mem_of_getElem? (i := 1145) (by decide +kernel)) rfl
theorem mm_X6_210 : Cond.methodLink RX6 210 yX6_all ∈ gw := gw_mem (List.mem_of_getElem? (i := 1146) (by decide +kernel)) rfl
theorem mi_X6_all : Cond.instanceMethod yX6_all ∈ gw := gw_mem (List.mem_of_getElem? (i := 1148) (by decide +kernel)) rfl
theorem mc_X6_all : Cond.code yX6_all cX6_all 1 (some .int) ∈ gw := gw_mem (List.mem_of_getElem? (i := 1149) (by decide +kernel)) rfl
theorem mm_L_113 : Cond.methodLink RL 113 yX6_limps ∈ gw := gw_mem (List.mem_of_getElem? (i := 1150) (by decide +kernel)) rfl
theorem mi_X6_limps : Cond.instanceMethod yX6_limps ∈ gw := gw_mem (List.mem_of_getElem? (i := 1151) (by decide +kernel)) rfl
theorem ms_X6_limps : Cond.selects RX6 yX6_limps yX6_limps ∈ gw := gw_mem (List.mem_of_getElem? (i := 1152) (by decide +kernel)) rfl
theorem mc_X6_limps : Cond.code yX6_limps cX6_limps 6 (some .int) ∈ gw := gw_mem (List.mem_of_getElem? (i := 1153) (by decide +kernel)) rfl
theorem mm_X6_213 : Cond.methodLink RX6 213 yX6_row ∈ gw := gw_mem (List.mem_of_getElem? (i := 1154) (by decide +kernel)) rfl
theorem mm_L_117 : Cond.methodLink RL 117 yX6_gate ∈ gw := gw_mem (List.mem_of_getElem? (i := 1155) (by decide +kernel)) rfl
theorem mi_X6_gate : Cond.instanceMethod yX6_gate ∈ gw := gw_mem (List.mem_of_getElem? (i := 1156) (by decide +kernel)) rfl
theorem ms_X6_gate : Cond.selects RX6 yX6_gate yX6_gate ∈ gw := gw_mem (List.mem_of_getElem? (i := 1157) (by decide +kernel)) rfl
theorem mc_X6_gate : Cond.code yX6_gate cX6_gate 4 (some .int) ∈ gw := gw_mem (List.mem_of_getElem? (i := 1158) (by decide +kernel)) rfl
theorem mm_X6_216 : Cond.methodLink RX6 216 yX6_bits ∈ gw := gw_mem (List.mem_of_getElem? (i := 1159) (by decide +kernel)) rfl
theorem mt_X6_bits : Cond.static yX6_bits ∈ gw := gw_mem (List.mem_of_getElem? (i := 1160) (by decide +kernel)) rfl
theorem mc_X6_bits : Cond.code yX6_bits cX6_bits 3 (some .int) ∈ gw := gw_mem (List.mem_of_getElem? (i := 1161) (by decide +kernel)) rfl
theorem mm_X6_219 : Cond.methodLink RX6 219 yX6_comes ∈ gw := gw_mem (List.mem_of_getElem? (i := 1162) (by decide +kernel)) rfl
theorem mi_X6_comes : Cond.instanceMethod yX6_comes ∈ gw := gw_mem (List.mem_of_getElem? (i := 1164) (by decide +kernel)) rfl
theorem mc_X6_comes : Cond.code yX6_comes cX6_comes 2 (some .boolean) ∈ gw := gw_mem (List.mem_of_getElem? (i := 1165) (by decide +kernel)) rfl
theorem mm_L_121 : Cond.methodLink RL 121 yX6_turned ∈ gw := gw_mem (List.mem_of_getElem? (i := 1166) (by decide +kernel)) rfl
theorem mi_X6_turned : Cond.instanceMethod yX6_turned ∈ gw := gw_mem (List.mem_of_getElem? (i := 1167) (by decide +kernel)) rfl
theorem ms_X6_turned : Cond.selects RX6 yX6_turned yX6_turned ∈ gw := gw_mem (List.mem_of_getElem? (i := 1168) (by decide +kernel)) rfl
theorem mc_X6_turned : Cond.code yX6_turned cX6_turned 5 (some .int) ∈ gw := gw_mem (List.mem_of_getElem? (i := 1169) (by decide +kernel)) rfl
theorem mk_X6_223 : Cond.constant RX6 223 (1000000) ∈ gw := gw_mem (List.mem_of_getElem? (i := 1170) (by decide +kernel)) rfl
theorem mm_L_125 : Cond.methodLink RL 125 yX6_change ∈ gw := gw_mem (List.mem_of_getElem? (i := 1171) (by decide +kernel)) rfl
theorem mi_X6_change : Cond.instanceMethod yX6_change ∈ gw := gw_mem (List.mem_of_getElem? (i := 1172) (by decide +kernel)) rfl
theorem ms_X6_change : Cond.selects RX6 yX6_change yX6_change ∈ gw := gw_mem (List.mem_of_getElem? (i := 1173) (by decide +kernel)) rfl
theorem mc_X6_change : Cond.code yX6_change cX6_change 8 (some .int) ∈ gw := gw_mem (List.mem_of_getElem? (i := 1174) (by decide +kernel)) rfl
theorem mm_X6_224 : Cond.methodLink RX6 224 yX6_swap ∈ gw := gw_mem (List.mem_of_getElem? (i := 1175) (by decide +kernel)) rfl
theorem mt_X6_swap : Cond.static yX6_swap ∈ gw := gw_mem (List.mem_of_getElem? (i := 1176) (by decide +kernel)) rfl
theorem mc_X6_swap : Cond.code yX6_swap cX6_swap 4 (none) ∈ gw := gw_mem (List.mem_of_getElem? (i := 1177) (by decide +kernel)) rfl
theorem mm_X6_228 : Cond.methodLink RX6 228 yX6_changes ∈ gw := gw_mem (List.mem_of_getElem? (i := 1178) (by decide +kernel)) rfl
theorem mi_X6_changes : Cond.instanceMethod yX6_changes ∈ gw := gw_mem (List.mem_of_getElem? (i := 1180) (by decide +kernel)) rfl
theorem mc_X6_changes : Cond.code yX6_changes cX6_changes 3 (none) ∈ gw := gw_mem (List.mem_of_getElem? (i := 1181) (by decide +kernel)) rfl
theorem mm_L_129 : Cond.methodLink RL 129 yX6_gone ∈ gw := gw_mem (List.mem_of_getElem? (i := 1182) (by decide +kernel)) rfl
theorem mi_X6_gone : Cond.instanceMethod yX6_gone ∈ gw := gw_mem (List.mem_of_getElem? (i := 1183) (by decide +kernel)) rfl
theorem ms_X6_gone : Cond.selects RX6 yX6_gone yX6_gone ∈ gw := gw_mem (List.mem_of_getElem? (i := 1184) (by decide +kernel)) rfl
theorem mc_X6_gone : Cond.code yX6_gone cX6_gone 7 (some .int) ∈ gw := gw_mem (List.mem_of_getElem? (i := 1185) (by decide +kernel)) rfl
theorem mm_X6_232 : Cond.methodLink RX6 232 yX6_needLimps ∈ gw := gw_mem (List.mem_of_getElem? (i := 1186) (by decide +kernel)) rfl
theorem mi_X6_needLimps : Cond.instanceMethod yX6_needLimps ∈ gw := gw_mem (List.mem_of_getElem? (i := 1188) (by decide +kernel)) rfl
theorem mc_X6_needLimps : Cond.code yX6_needLimps cX6_needLimps 4 (some .int) ∈ gw := gw_mem (List.mem_of_getElem? (i := 1189) (by decide +kernel)) rfl
theorem mm_X6_235 : Cond.methodLink RX6 235 yX6_isSo ∈ gw := gw_mem (List.mem_of_getElem? (i := 1190) (by decide +kernel)) rfl
theorem mi_X6_isSo : Cond.instanceMethod yX6_isSo ∈ gw := gw_mem (List.mem_of_getElem? (i := 1192) (by decide +kernel)) rfl
theorem mc_X6_isSo : Cond.code yX6_isSo cX6_isSo 4 (some .boolean) ∈ gw := gw_mem (List.mem_of_getElem? (i := 1193) (by decide +kernel)) rfl
theorem mm_L_133 : Cond.methodLink RL 133 yX6_strengths ∈ gw := gw_mem (List.mem_of_getElem? (i := 1194) (by decide +kernel)) rfl
theorem mi_X6_strengths : Cond.instanceMethod yX6_strengths ∈ gw := gw_mem (List.mem_of_getElem? (i := 1195) (by decide +kernel)) rfl
theorem ms_X6_strengths : Cond.selects RX6 yX6_strengths yX6_strengths ∈ gw := gw_mem (List.mem_of_getElem? (i := 1196) (by decide +kernel)) rfl
theorem mc_X6_strengths : Cond.code yX6_strengths cX6_strengths 7 (some .int) ∈ gw := gw_mem (List.mem_of_getElem? (i := 1197) (by decide +kernel)) rfl
theorem mm_L_137 : Cond.methodLink RL 137 yX6_kinds ∈ gw := gw_mem (List.mem_of_getElem? (i := 1198) (by decide +kernel)) rfl
theorem mi_X6_kinds : Cond.instanceMethod yX6_kinds ∈ gw := gw_mem (List.mem_of_getElem? (i := 1199) (by decide +kernel)) rfl
theorem ms_X6_kinds : Cond.selects RX6 yX6_kinds yX6_kinds ∈ gw := gw_mem (List.mem_of_getElem? (i := 1200) (by decide +kernel)) rfl
theorem mc_X6_kinds : Cond.code yX6_kinds cX6_kinds 7 (some .int) ∈ gw := gw_mem (List.mem_of_getElem? (i := 1201) (by decide +kernel)) rfl
theorem mm_L_141 : Cond.methodLink RL 141 yX6_look ∈ gw := gw_mem (List.mem_of_getElem? (i := 1202) (by decide +kernel)) rfl
theorem mi_X6_look : Cond.instanceMethod yX6_look ∈ gw := gw_mem (List.mem_of_getElem? (i := 1203) (by decide +kernel)) rfl
theorem ms_X6_look : Cond.selects RX6 yX6_look yX6_look ∈ gw := gw_mem (List.mem_of_getElem? (i := 1204) (by decide +kernel)) rfl
theorem mc_X6_look : Cond.code yX6_look cX6_look 7 (some .int) ∈ gw := gw_mem (List.mem_of_getElem? (i := 1205) (by decide +kernel)) rfl
theorem mm_L_145 : Cond.methodLink RL 145 yX6_duel ∈ gw := gw_mem (List.mem_of_getElem? (i := 1206) (by decide +kernel)) rfl
theorem mi_X6_duel : Cond.instanceMethod yX6_duel ∈ gw := gw_mem (List.mem_of_getElem? (i := 1207) (by decide +kernel)) rfl
theorem ms_X6_duel : Cond.selects RX6 yX6_duel yX6_duel ∈ gw := gw_mem (List.mem_of_getElem? (i := 1208) (by decide +kernel)) rfl
theorem mc_X6_duel : Cond.code yX6_duel cX6_duel 9 (some .int) ∈ gw := gw_mem (List.mem_of_getElem? (i := 1209) (by decide +kernel)) rfl
theorem mm_X6_238 : Cond.methodLink RX6 238 yX6_isMoved ∈ gw := gw_mem (List.mem_of_getElem? (i := 1210) (by decide +kernel)) rfl
theorem mi_X6_isMoved : Cond.instanceMethod yX6_isMoved ∈ gw := gw_mem (List.mem_of_getElem? (i := 1212) (by decide +kernel)) rfl
theorem mc_X6_isMoved : Cond.code yX6_isMoved cX6_isMoved 8 (some .boolean) ∈ gw := gw_mem (List.mem_of_getElem? (i := 1213) (by decide +kernel)) rfl
theorem mm_L_149 : Cond.methodLink RL 149 yX6_odds ∈ gw := gw_mem (List.mem_of_getElem? (i := 1214) (by decide +kernel)) rfl
theorem mi_X6_odds : Cond.instanceMethod yX6_odds ∈ gw := gw_mem (List.mem_of_getElem? (i := 1215) (by decide +kernel)) rfl
theorem ms_X6_odds : Cond.selects RX6 yX6_odds yX6_odds ∈ gw := gw_mem (List.mem_of_getElem? (i := 1216) (by decide +kernel)) rfl
theorem mc_X6_odds : Cond.code yX6_odds cX6_odds 6 (some .int) ∈ gw := gw_mem (List.mem_of_getElem? (i := 1217) (by decide +kernel)) rfl
theorem mm_X6_246 : Cond.methodLink RX6 246 yX6_layParts ∈ gw := gw_mem (List.mem_of_getElem? (i := 1218) (by decide +kernel)) rfl
theorem mi_X6_layParts : Cond.instanceMethod yX6_layParts ∈ gw := gw_mem (List.mem_of_getElem? (i := 1220) (by decide +kernel)) rfl
theorem mc_X6_layParts : Cond.code yX6_layParts cX6_layParts 6 (none) ∈ gw := gw_mem (List.mem_of_getElem? (i := 1221) (by decide +kernel)) rfl
theorem mk_X6_244 : Cond.constantLong RX6 244 (12) ∈ gw := gw_mem (List.mem_of_getElem? (i := 1222) (by decide +kernel)) rfl
theorem mm_X6_250 : Cond.methodLink RX6 250 yX6_lowest ∈ gw := gw_mem (List.mem_of_getElem? (i := 1223) (by decide +kernel)) rfl
theorem mi_X6_lowest : Cond.instanceMethod yX6_lowest ∈ gw := gw_mem (List.mem_of_getElem? (i := 1225) (by decide +kernel)) rfl
theorem mc_X6_lowest : Cond.code yX6_lowest cX6_lowest 11 (some .int) ∈ gw := gw_mem (List.mem_of_getElem? (i := 1226) (by decide +kernel)) rfl
theorem mm_L_153 : Cond.methodLink RL 153 yX6_mid ∈ gw := gw_mem (List.mem_of_getElem? (i := 1227) (by decide +kernel)) rfl
theorem mi_X6_mid : Cond.instanceMethod yX6_mid ∈ gw := gw_mem (List.mem_of_getElem? (i := 1228) (by decide +kernel)) rfl
theorem ms_X6_mid : Cond.selects RX6 yX6_mid yX6_mid ∈ gw := gw_mem (List.mem_of_getElem? (i := 1229) (by decide +kernel)) rfl
theorem mc_X6_mid : Cond.code yX6_mid cX6_mid 5 (some .int) ∈ gw := gw_mem (List.mem_of_getElem? (i := 1230) (by decide +kernel)) rfl
theorem mm_L_157 : Cond.methodLink RL 157 yX6_lots ∈ gw := gw_mem (List.mem_of_getElem? (i := 1231) (by decide +kernel)) rfl
theorem mi_X6_lots : Cond.instanceMethod yX6_lots ∈ gw := gw_mem (List.mem_of_getElem? (i := 1232) (by decide +kernel)) rfl
theorem ms_X6_lots : Cond.selects RX6 yX6_lots yX6_lots ∈ gw := gw_mem (List.mem_of_getElem? (i := 1233) (by decide +kernel)) rfl
theorem mc_X6_lots : Cond.code yX6_lots cX6_lots 6 (some .int) ∈ gw := gw_mem (List.mem_of_getElem? (i := 1234) (by decide +kernel)) rfl
theorem mk_X6_254 : Cond.constant RX6 254 (2147483646) ∈ gw := gw_mem (List.mem_of_getElem? (i := 1235) (by decide +kernel)) rfl
theorem mk_X6_255 : Cond.constantLong RX6 255 (48271) ∈ gw := gw_mem (List.mem_of_getElem? (i := 1236) (by decide +kernel)) rfl
theorem mk_X6_257 : Cond.constantLong RX6 257 (2147483647) ∈ gw := gw_mem (List.mem_of_getElem? (i := 1237) (by decide +kernel)) rfl
theorem mk_X6_259 : Cond.constantLong RX6 259 (6) ∈ gw := gw_mem (List.mem_of_getElem? (i := 1238) (by decide +kernel)) rfl
theorem mk_X6_261 : Cond.constantLong RX6 261 (8) ∈ gw := gw_mem (List.mem_of_getElem? (i := 1239) (by decide +kernel)) rfl
theorem mm_L_174 : Cond.methodLink RL 174 yX6_count ∈ gw := gw_mem (List.mem_of_getElem? (i := 1240) (by decide +kernel)) rfl
theorem mi_X6_count : Cond.instanceMethod yX6_count ∈ gw := gw_mem (List.mem_of_getElem? (i := 1241) (by decide +kernel)) rfl
theorem ms_X6_count : Cond.selects RX6 yX6_count yX6_count ∈ gw := gw_mem (List.mem_of_getElem? (i := 1242) (by decide +kernel)) rfl
theorem mc_X6_count : Cond.code yX6_count cX6_count 2 (some .int) ∈ gw := gw_mem (List.mem_of_getElem? (i := 1243) (by decide +kernel)) rfl
theorem mm_X6_263 : Cond.methodLink RX6 263 yX6_counted ∈ gw := gw_mem (List.mem_of_getElem? (i := 1244) (by decide +kernel)) rfl
theorem mi_X6_counted : Cond.instanceMethod yX6_counted ∈ gw := gw_mem (List.mem_of_getElem? (i := 1246) (by decide +kernel)) rfl
theorem mc_X6_counted : Cond.code yX6_counted cX6_counted 4 (some .int) ∈ gw := gw_mem (List.mem_of_getElem? (i := 1247) (by decide +kernel)) rfl
theorem mm_L_186 : Cond.methodLink RL 186 yX6_digest ∈ gw := gw_mem (List.mem_of_getElem? (i := 1248) (by decide +kernel)) rfl
theorem mi_X6_digest : Cond.instanceMethod yX6_digest ∈ gw := gw_mem (List.mem_of_getElem? (i := 1249) (by decide +kernel)) rfl
theorem ms_X6_digest : Cond.selects RX6 yX6_digest yX6_digest ∈ gw := gw_mem (List.mem_of_getElem? (i := 1250) (by decide +kernel)) rfl
theorem mc_X6_digest : Cond.code yX6_digest cX6_digest 3 (some .long) ∈ gw := gw_mem (List.mem_of_getElem? (i := 1251) (by decide +kernel)) rfl
theorem mk_X6_271 : Cond.constantLong RX6 271 (17) ∈ gw := gw_mem (List.mem_of_getElem? (i := 1252) (by decide +kernel)) rfl
theorem mm_X6_273 : Cond.methodLink RX6 273 yX6_adds ∈ gw := gw_mem (List.mem_of_getElem? (i := 1253) (by decide +kernel)) rfl
theorem mi_X6_adds : Cond.instanceMethod yX6_adds ∈ gw := gw_mem (List.mem_of_getElem? (i := 1255) (by decide +kernel)) rfl
theorem mc_X6_adds : Cond.code yX6_adds cX6_adds 3 (none) ∈ gw := gw_mem (List.mem_of_getElem? (i := 1256) (by decide +kernel)) rfl
theorem mk_X6_266 : Cond.constantLong RX6 266 (31) ∈ gw := gw_mem (List.mem_of_getElem? (i := 1257) (by decide +kernel)) rfl
theorem ms_X5_makeAnew : Cond.selects RX5 yX5_makeAnew yX5_makeAnew ∈ gw := gw_mem (List.mem_of_getElem? (i := 0) (by decide +kernel)) rfl
theorem ms_X5_refuse : Cond.selects RX5 yX5_refuse yX5_refuse ∈ gw := gw_mem (List.mem_of_getElem? (i := 1) (by decide +kernel)) rfl
theorem ms_X5_refusePlace : Cond.selects RX5 yX5_refusePlace yX5_refusePlace ∈ gw := gw_mem (List.mem_of_getElem? (i := 2) (by decide +kernel)) rfl
theorem ms_X5_refuseMissing : Cond.selects RX5 yX5_refuseMissing yX5_refuseMissing ∈ gw := gw_mem (List.mem_of_getElem? (i := 3) (by decide +kernel)) rfl
theorem ms_X5_tell : Cond.selects RX5 yX5_tell yX5_tell ∈ gw := gw_mem (List.mem_of_getElem? (i := 4) (by decide +kernel)) rfl
theorem ms_X2_skipBlanks : Cond.selects RX2 yX2_skipBlanks yX2_skipBlanks ∈ gw := gw_mem (List.mem_of_getElem? (i := 5) (by decide +kernel)) rfl
theorem ms_X2_readRoad : Cond.selects RX2 yX2_readRoad yX2_readRoad ∈ gw := gw_mem (List.mem_of_getElem? (i := 6) (by decide +kernel)) rfl
theorem ms_X2_readFigure : Cond.selects RX2 yX2_readFigure yX2_readFigure ∈ gw := gw_mem (List.mem_of_getElem? (i := 7) (by decide +kernel)) rfl
theorem ms_X2_readGate : Cond.selects RX2 yX2_readGate yX2_readGate ∈ gw := gw_mem (List.mem_of_getElem? (i := 8) (by decide +kernel)) rfl
theorem ms_X2_readSpoke : Cond.selects RX2 yX2_readSpoke yX2_readSpoke ∈ gw := gw_mem (List.mem_of_getElem? (i := 9) (by decide +kernel)) rfl
theorem ms_X5_doDeed : Cond.selects RX5 yX5_doDeed yX5_doDeed ∈ gw := gw_mem (List.mem_of_getElem? (i := 10) (by decide +kernel)) rfl
theorem ms_X4_soakAll : Cond.selects RX4 yX4_soakAll yX4_soakAll ∈ gw := gw_mem (List.mem_of_getElem? (i := 11) (by decide +kernel)) rfl
theorem ms_X4_turnWeather : Cond.selects RX4 yX4_turnWeather yX4_turnWeather ∈ gw := gw_mem (List.mem_of_getElem? (i := 12) (by decide +kernel)) rfl
theorem ms_X4_knockOut : Cond.selects RX4 yX4_knockOut yX4_knockOut ∈ gw := gw_mem (List.mem_of_getElem? (i := 13) (by decide +kernel)) rfl
theorem ms_X4_putIn : Cond.selects RX4 yX4_putIn yX4_putIn ∈ gw := gw_mem (List.mem_of_getElem? (i := 14) (by decide +kernel)) rfl
theorem ms_X5_tellBeside : Cond.selects RX5 yX5_tellBeside yX5_tellBeside ∈ gw := gw_mem (List.mem_of_getElem? (i := 15) (by decide +kernel)) rfl
theorem ms_X0_reachesGateWith : Cond.selects RX0 yX0_reachesGateWith yX0_reachesGateWith ∈ gw := gw_mem (List.mem_of_getElem? (i := 16) (by decide +kernel)) rfl
theorem ms_X5_refuseLimps : Cond.selects RX5 yX5_refuseLimps yX5_refuseLimps ∈ gw := gw_mem (List.mem_of_getElem? (i := 17) (by decide +kernel)) rfl
theorem ms_X5_refuseGuess : Cond.selects RX5 yX5_refuseGuess yX5_refuseGuess ∈ gw := gw_mem (List.mem_of_getElem? (i := 18) (by decide +kernel)) rfl
theorem ms_X0_kindsBearing : Cond.selects RX0 yX0_kindsBearing yX0_kindsBearing ∈ gw := gw_mem (List.mem_of_getElem? (i := 19) (by decide +kernel)) rfl
theorem ms_X0_limpsWith : Cond.selects RX0 yX0_limpsWith yX0_limpsWith ∈ gw := gw_mem (List.mem_of_getElem? (i := 20) (by decide +kernel)) rfl
theorem ms_X0_waysToLose : Cond.selects RX0 yX0_waysToLose yX0_waysToLose ∈ gw := gw_mem (List.mem_of_getElem? (i := 21) (by decide +kernel)) rfl
theorem ms_X5_tellShare : Cond.selects RX5 yX5_tellShare yX5_tellShare ∈ gw := gw_mem (List.mem_of_getElem? (i := 22) (by decide +kernel)) rfl
theorem ms_X5_doLot : Cond.selects RX5 yX5_doLot yX5_doLot ∈ gw := gw_mem (List.mem_of_getElem? (i := 23) (by decide +kernel)) rfl
theorem ms_X5_counted : Cond.selects RX5 yX5_counted yX5_counted ∈ gw := gw_mem (List.mem_of_getElem? (i := 24) (by decide +kernel)) rfl
theorem ms_X5_keptOnes : Cond.selects RX5 yX5_keptOnes yX5_keptOnes ∈ gw := gw_mem (List.mem_of_getElem? (i := 25) (by decide +kernel)) rfl
theorem ms_X6_meets : Cond.selects RX6 yX6_meets yX6_meets ∈ gw := gw_mem (List.mem_of_getElem? (i := 26) (by decide +kernel)) rfl
theorem ms_X6_rowAt : Cond.selects RX6 yX6_rowAt yX6_rowAt ∈ gw := gw_mem (List.mem_of_getElem? (i := 27) (by decide +kernel)) rfl
theorem ms_X6_tells : Cond.selects RX6 yX6_tells yX6_tells ∈ gw := gw_mem (List.mem_of_getElem? (i := 28) (by decide +kernel)) rfl
theorem ms_X6_faultOf : Cond.selects RX6 yX6_faultOf yX6_faultOf ∈ gw := gw_mem (List.mem_of_getElem? (i := 29) (by decide +kernel)) rfl
theorem ms_X6_letterAt : Cond.selects RX6 yX6_letterAt yX6_letterAt ∈ gw := gw_mem (List.mem_of_getElem? (i := 30) (by decide +kernel)) rfl
theorem ms_X6_readsSpoke : Cond.selects RX6 yX6_readsSpoke yX6_readsSpoke ∈ gw := gw_mem (List.mem_of_getElem? (i := 31) (by decide +kernel)) rfl
theorem ms_X6_reads : Cond.selects RX6 yX6_reads yX6_reads ∈ gw := gw_mem (List.mem_of_getElem? (i := 32) (by decide +kernel)) rfl
theorem ms_X6_readsRoad : Cond.selects RX6 yX6_readsRoad yX6_readsRoad ∈ gw := gw_mem (List.mem_of_getElem? (i := 33) (by decide +kernel)) rfl
theorem ms_X6_isSpoke : Cond.selects RX6 yX6_isSpoke yX6_isSpoke ∈ gw := gw_mem (List.mem_of_getElem? (i := 34) (by decide +kernel)) rfl
theorem ms_X6_spokeTells : Cond.selects RX6 yX6_spokeTells yX6_spokeTells ∈ gw := gw_mem (List.mem_of_getElem? (i := 35) (by decide +kernel)) rfl
theorem ms_X6_depth : Cond.selects RX6 yX6_depth yX6_depth ∈ gw := gw_mem (List.mem_of_getElem? (i := 36) (by decide +kernel)) rfl
theorem ms_X6_bearsOn : Cond.selects RX6 yX6_bearsOn yX6_bearsOn ∈ gw := gw_mem (List.mem_of_getElem? (i := 37) (by decide +kernel)) rfl
theorem ms_X6_alike : Cond.selects RX6 yX6_alike yX6_alike ∈ gw := gw_mem (List.mem_of_getElem? (i := 38) (by decide +kernel)) rfl
theorem ms_X6_isOver : Cond.selects RX6 yX6_isOver yX6_isOver ∈ gw := gw_mem (List.mem_of_getElem? (i := 39) (by decide +kernel)) rfl
theorem ms_X6_remember : Cond.selects RX6 yX6_remember yX6_remember ∈ gw := gw_mem (List.mem_of_getElem? (i := 40) (by decide +kernel)) rfl
theorem ms_X6_steps : Cond.selects RX6 yX6_steps yX6_steps ∈ gw := gw_mem (List.mem_of_getElem? (i := 41) (by decide +kernel)) rfl
theorem ms_X6_need : Cond.selects RX6 yX6_need yX6_need ∈ gw := gw_mem (List.mem_of_getElem? (i := 42) (by decide +kernel)) rfl
theorem ms_X6_copyNow : Cond.selects RX6 yX6_copyNow yX6_copyNow ∈ gw := gw_mem (List.mem_of_getElem? (i := 43) (by decide +kernel)) rfl
theorem ms_X6_limpsIn : Cond.selects RX6 yX6_limpsIn yX6_limpsIn ∈ gw := gw_mem (List.mem_of_getElem? (i := 44) (by decide +kernel)) rfl
theorem ms_X6_all : Cond.selects RX6 yX6_all yX6_all ∈ gw := gw_mem (List.mem_of_getElem? (i := 45) (by decide +kernel)) rfl
theorem ms_X6_comes : Cond.selects RX6 yX6_comes yX6_comes ∈ gw := gw_mem (List.mem_of_getElem? (i := 46) (by decide +kernel)) rfl
theorem ms_X6_changes : Cond.selects RX6 yX6_changes yX6_changes ∈ gw := gw_mem (List.mem_of_getElem? (i := 47) (by decide +kernel)) rfl
theorem ms_X6_needLimps : Cond.selects RX6 yX6_needLimps yX6_needLimps ∈ gw := gw_mem (List.mem_of_getElem? (i := 48) (by decide +kernel)) rfl
theorem ms_X6_isSo : Cond.selects RX6 yX6_isSo yX6_isSo ∈ gw := gw_mem (List.mem_of_getElem? (i := 49) (by decide +kernel)) rfl
theorem ms_X6_isMoved : Cond.selects RX6 yX6_isMoved yX6_isMoved ∈ gw := gw_mem (List.mem_of_getElem? (i := 50) (by decide +kernel)) rfl
theorem ms_X6_layParts : Cond.selects RX6 yX6_layParts yX6_layParts ∈ gw := gw_mem (List.mem_of_getElem? (i := 51) (by decide +kernel)) rfl
theorem ms_X6_lowest : Cond.selects RX6 yX6_lowest yX6_lowest ∈ gw := gw_mem (List.mem_of_getElem? (i := 52) (by decide +kernel)) rfl
theorem ms_X6_counted : Cond.selects RX6 yX6_counted yX6_counted ∈ gw := gw_mem (List.mem_of_getElem? (i := 53) (by decide +kernel)) rfl
theorem ms_X6_adds : Cond.selects RX6 yX6_adds yX6_adds ∈ gw := gw_mem (List.mem_of_getElem? (i := 54) (by decide +kernel)) rfl
def nestW : List Cond := [Cond.methodLinkNest RX5 23 yX2_init "WheelWeeks", Cond.methodLinkNest RX2 11 yX4_init "WheelWeeks", Cond.methodLinkNest RX5 30 yX1_init "WheelWeeks", Cond.methodLinkNest RX1 11 yX4_init "WheelWeeks", Cond.methodLinkNest RX0 17 yX4_init "WheelWeeks", Cond.fieldLinkNest RX2 73 "WheelWeeks" "LETTERS" "[I" "WheelWeeks", Cond.methodLinkNest RX4 66 yX5_bearing "WheelWeeks", Cond.methodLinkNest RX0 106 yX5_bearing "WheelWeeks", Cond.methodLinkNest RX0 124 yX5_power "WheelWeeks", Cond.methodLinkNest RX4 78 yX5_isOfKind "WheelWeeks"]
theorem inX0 : ∀ w ∈ wsX00, w ∈ gw := by decide +kernel
theorem inX1 : ∀ w ∈ wsX10, w ∈ gw := by decide +kernel
theorem inX2 : ∀ w ∈ wsX20, w ∈ gw := by decide +kernel
theorem inX3 : ∀ w ∈ wsX30, w ∈ gw := by decide +kernel
theorem inX4 : ∀ w ∈ wsX40, w ∈ gw := by decide +kernel
theorem inX5 : ∀ w ∈ wsX50, w ∈ gw := by decide +kernel
theorem inX6 : ∀ w ∈ wsX60, w ∈ gw := by decide +kernel
end
section
theorem mnat_arraycopy : Cond.native arraycopyName ∈ lw_tbl := List.mem_of_getElem? (i := 335) (by decide +kernel)
abbrev Ar : Type := Nat → Int32
abbrev ArL : Type := Nat → Int64
abbrev ix (i : Int32) : Nat := i.toNatClampNeg
def inb (i : Int32) (n : Nat) : Bool := decide (¬ i < 0) && decide (i.toNatClampNeg < n)
theorem inb_in {i : Int32} {n : Nat} (h : inb i n = true) : vp_in i n := by
  simp only [inb, Bool.and_eq_true, decide_eq_true_eq] at h
  exact fun q => q.elim h.1 (fun z => absurd h.2 (Nat.not_lt.mpr z))
def gd {α : Type} (b : Bool) (k : Option α) : Option α := match b with
  | true => k
  | false => none
theorem gd_some {α : Type} {b : Bool} {k : Option α} {r : α} (h : gd b k = some r) : b = true ∧ k = some r := by
  cases b
  · cases h
  · exact ⟨rfl, h⟩
def nm {α β : Type} (e : α) (f : α → β) : β := f e
theorem nm_s {α β : Type} {e x : α} {f : α → Option β} {r : β} (ex : x = e) (h : nm e f = some r) : f x = some r := by rw [ex]; exact h
theorem if_t {α : Type} {c : Prop} {i : Decidable c} {a b : Option α} {r : α} (h : c) (hf : @ite _ c i a b = some r) : a = some r := by rw [if_pos h] at hf; exact hf
theorem if_f {α : Type} {c : Prop} {i : Decidable c} {a b : Option α} {r : α} (h : ¬ c) (hf : @ite _ c i a b = some r) : b = some r := by rw [if_neg h] at hf; exact hf
theorem ob_s {α β : Type} {a : Option α} {f : α → Option β} {r : β} (h : Option.bind a f = some r) : ∃ x, a = some x ∧ f x = some r := by
  cases a with
  | none => cases h
  | some x => exact ⟨x, rfl, h⟩
theorem om_s {α β : Type} {a : Option α} {f : α → β} {r : β} (h : Option.map f a = some r) : ∃ x, a = some x ∧ f x = r := by
  cases a with
  | none => cases h
  | some x => exact ⟨x, rfl, Option.some.inj h⟩
def lp {σ ρ : Type} (body : σ → Option (σ ⊕ ρ)) : Nat → σ → Option ρ
  | 0, _ => none
  | n + 1, st => match body st with
    | none => none
    | some (.inl st') => lp body n st'
    | some (.inr o) => some o
theorem lp_sound {σ ρ : Type} {body : σ → Option (σ ⊕ ρ)} {P : σ → Prop} {Z : ρ → Prop} (step : ∀ st r, body st = some r → Sum.elim P Z r → P st) : ∀ n st o, lp body n st = some o → Z o → P st
  | 0, st, o, h, _ => by cases h
  | n + 1, st, o, h, hz => by
    unfold lp at h
    cases hb : body st with
    | none => rw [hb] at h; cases h
    | some r =>
      rw [hb] at h
      cases r with
      | inl st' => exact step st _ hb (lp_sound step n st' o h hz)
      | inr o' => cases h; exact step st _ hb hz
def isB (v : Int32) : Bool := decide (v = 0) || decide (v = 1)
theorem isB_or {v : Int32} (h : isB v = true) : v = 0 ∨ v = 1 := by simpa [isB] using h
theorem isB_nar {v : Int32} (h : isB v = true) : narrow .boolean (.int v) = .int v := by
  rcases isB_or h with rfl | rfl <;> rfl
theorem isB_fits {v : Int32} (h : isB v = true) : fits .boolean (.int v) = true := by
  rcases isB_or h with rfl | rfl <;> rfl
def jmax (x y : Int32) : Int32 := if x < y then y else x
def jmin (x y : Int32) : Int32 := if y < x then y else x
def jrem (x y : Int32) : Int32 := x - x / y * y
def jremL (x y : Int64) : Int64 := x - x / y * y
def jshl (x y : Int32) : Int32 := x <<< (y &&& 31)
def jshr (x y : Int32) : Int32 := x >>> (y &&& 31)
def jushr (x y : Int32) : Int32 := (x.toUInt32 >>> (y.toUInt32 &&& Int32.toUInt32 31)).toInt32
/-! the world's fixed things: class numbers and slots, array classes, the two static rows -/
abbrev GG : Type := va_G × (Nat → ClassId) × (Nat × Nat)
def tyG (G : GG) : List (ClassId × FieldType) := [(G.2.1 0, .int), (G.2.1 1, .byte), (G.2.1 2, .long), (G.2.1 3, .object RX1), (G.2.1 4, .array .int)]
def lettersF : Nat → Value := fun j => .int (([99, 115, 101, 103, 105, 117] : List Int32).getD j 0)
def parentsF : Nat → Value := fun j => .int (([0, 0, 0, 2, 0, 4] : List Int32).getD j 0)
def KG (G : GG) (U : State) : Prop := va_K G.1 vwCl (tyG G) U
def NG (U : State) : Prop := ∀ w ∈ nestW, va_Nw w U
def ZG (G : GG) (A : Nat → Prop) (U : State) : Prop := (va_Z RX5 "LETTERS" "[I" (.ref G.2.2.1) A U U.heap ∧ va_T .int G.2.2.1 6 lettersF A U U.heap) ∧ (va_Z RX5 "PARENTS" "[I" (.ref G.2.2.2) A U U.heap ∧ va_T .int G.2.2.2 6 parentsF A U U.heap)
def Cx (p : Program) (s : State) (m : MethodId) (args : Array Value) (meth : Method) (c : Code) (G : GG) (A : Nat → Prop) (own : String) (cc : ByteArray) (nL : Nat) (ret : Option FieldType) : Prop :=
  p.tables.exec = Jvm.exec ∧ c.code = cc ∧ c.maxLocals = nL ∧ meth.sig.returnType = ret ∧ meth.locks = false ∧ s.vm.findClass own = some m.cls ∧ (∀ w ∈ gw, w.before args s = true) ∧ KG G s ∧ NG s ∧ ZG G A s ∧ (∀ q : Nat, s.heap.size ≤ q → A q)
def Wd (G : GG) (A : Nat → Prop) (H0 H : Heap) (ws : va_W) (locs : List Loc) : Prop := va_P G.1 vwCl ws H ∧ va_D A ws ∧ va_S A H0 H locs
def rmD (d : Nat) : Room := { frames := d, cells := 0, slots := 0, locals := 60 * d }
def uw (y : MethodName) (cc : ByteArray) (nL : Nat) (ret : Option FieldType) : List Cond := .code y cc nL ret :: gw
def QN (G : GG) (A : Nat → Prop) (rv : Option Value) (wc' : va_W) : Array Value → State → Outcome → State → Prop := fun _ st oc t => oc = .returned rv ∧ va_P G.1 vwCl wc' t.heap ∧ va_F A st t
def PcN (G : GG) (wc : va_W) (sz : Nat) (U : State) : Prop := U.heap.size = sz ∧ va_P G.1 vwCl wc U.heap ∧ va_D (fun _ => True) wc ∧ KG G U ∧ NG U ∧ ZG G (va_A wc sz) U
def Cn (l : Launch) (G : GG) (d : Nat) (y : MethodName) (cc : ByteArray) (nL : Nat) (ret : Option FieldType) (av : List Value) (wc : va_W) (rv : Option Value) (wc' : va_W) : Prop :=
  ∀ sz : Nat, Met l y (uw y cc nL ret) (rmD d) (va_Pc av (PcN G wc sz)) (QN G (va_A wc sz) rv wc') 0 0 (va_A wc sz)
theorem cn_start {l : Launch} {G : GG} {d : Nat} {y : MethodName} {cc : ByteArray} {nL : Nat} {ret : Option FieldType} {av : List Value} {wc : va_W} {rv : Option Value} {wc' : va_W} (hy : plainName y.cls = true) (hn : (lg_sl av).length ≤ nL)
    (body : ∀ (p : Program) (e : Env) (s : State) (m : MethodId) (below : List Frame) (meth : Method) (c : Code) (A : Nat → Prop) (ls : Array Slot), Cx p s m av.toArray meth c G A y.cls cc nL ret → Wd G A s.heap s.heap wc [] → lv_has ls nL (lv_args 0 av) → W p l e (rmD d) s m av.toArray below meth c s.heap [] 0 0 (MQ below (QN G A rv wc') av.toArray s 0 0 A) (F0 m 0 ls [])) : Cn l G d y cc nL ret av wc rv wc' := by
  intro sz
  refine Met.ofW (cc := cc) (maxL := nL) (ret := ret) hy rfl ?_
  intro p e s m args below meth c s₁ B hml hv
  obtain ⟨rfl, hsz, hP, hD0, hK, hN, hZ⟩ := hv
  subst hsz
  have hts := atoms_spec (ws := uw y cc nL ret) B.pre
  rw [lg_entry_eq]
  exact body p e s m below meth c (va_A wc s.heap.size) _ ⟨B.exec, B.bytes, hml, B.returns, B.notSynchronized, findClass_of_methodNamed B.named, fun w h => hts w (List.mem_cons_of_mem _ h), hK, hN, hZ, fun q h => Or.inr h⟩ ⟨hP, hD0.self, va_S.rf⟩ (lv_entry av hn)
/-! the frame: a call's cells put back at their places -/
def vrep (ws : va_W) : List Nat → va_W → va_W
  | i :: is, e :: es => vrep (ws.set i e) is es
  | _, _ => ws
theorem vrep_get : ∀ (is : List Nat) (ws es : va_W), is.length = es.length → ∀ (j : Nat) (q : Nat × va_E), (vrep ws is es)[j]? = some q → (∃ k : Nat, is[k]? = some j ∧ es[k]? = some q) ∨ (j ∉ is ∧ ws[j]? = some q)
  | [], ws, es, _, j, q, h => Or.inr ⟨List.not_mem_nil, by cases es <;> exact h⟩
  | i :: is, ws, [], hl, j, q, h => by cases hl
  | i :: is, ws, e :: es, hl, j, q, h => by
    have h' : (vrep (ws.set i e) is es)[j]? = some q := h
    rcases vrep_get is (ws.set i e) es (Nat.succ.inj hl) j q h' with ⟨k, h1, h2⟩ | ⟨h1, h2⟩
    · exact Or.inl ⟨k + 1, h1, h2⟩
    · by_cases hj : i = j
      · subst hj
        rw [List.getElem?_set] at h2
        rw [if_pos rfl] at h2
        by_cases hlt : i < ws.length
        · rw [if_pos hlt] at h2
          exact Or.inl ⟨0, rfl, h2⟩
        · rw [if_neg hlt] at h2; cases h2
      · rw [List.getElem?_set, if_neg hj] at h2
        exact Or.inr ⟨fun z => (List.mem_cons.mp z).elim (fun z => hj z.symm) h1, h2⟩
theorem map_at {is : List Nat} {ws wc : va_W} (hC : is.map (fun i => ws[i]?) = wc.map some) {k : Nat} {q : Nat × va_E} (hq : wc[k]? = some q) : ∃ i : Nat, is[k]? = some i ∧ ws[i]? = some q := by
  have h1 : (is.map (fun i => ws[i]?))[k]? = some (some q) := by rw [hC, List.getElem?_map, hq]; rfl
  rw [List.getElem?_map] at h1
  cases hi : is[k]? with
  | none => rw [hi] at h1; cases h1
  | some i => rw [hi] at h1; exact ⟨i, rfl, Option.some.inj h1⟩
theorem same_at {wc wc' : va_W} (h : wc'.map Prod.fst = wc.map Prod.fst) {k : Nat} {q : Nat × va_E} (hq : wc'[k]? = some q) : ∃ q0, wc[k]? = some q0 ∧ q0.1 = q.1 := by
  have h1 : (wc.map Prod.fst)[k]? = some q.1 := by rw [← h, List.getElem?_map, hq]; rfl
  rw [List.getElem?_map] at h1
  cases hi : wc[k]? with
  | none => rw [hi] at h1; cases h1
  | some q0 => rw [hi] at h1; exact ⟨q0, rfl, Option.some.inj h1⟩
section KR
variable {p : Program} {l : Launch} {e : Env} {R : Room} {s : State} {m : MethodId} {args : Array Value} {below : List Frame} {meth : Method} {c : Code} {H : Heap} {locs : List Loc} {cells slots : Nat} {Q : State → Prop}
variable {G : GG} {A : Nat → Prop} {own : String} {cc : ByteArray} {nL : Nat} {ret : Option FieldType} {pc : Nat} {ls : Array Slot} {rest st0 : List Value} {ws : va_W}
theorem k_blind (wc : va_W) (av : List Value) (sz : Nat) : FrameBlind (va_Pc av (PcN G wc sz)) := by
  intro a U g mk h
  obtain ⟨h0, h1, h2, h3, h4, h5, h6⟩ := h
  refine ⟨h0, h1, h2, h3, va_K.moved (u := U) (U := U.calling g mk a) (Vm.Alike.refl U.vm) h4, fun w hw => ?_, ?_⟩
  · have ho : w.onTables = true := (by decide +kernel : ∀ w ∈ nestW, w.onTables = true) w hw
    exact va_Nw.same (u := U) (U := U.calling g mk a) ho rfl (h5 w hw)
  · exact ⟨⟨va_Z.moved (u := U) (U := U.calling g mk a) (Vm.Alike.refl U.vm) h6.1.1, va_T.moved (u := U) (U := U.calling g mk a) (Vm.Alike.refl U.vm) h6.1.2⟩, ⟨va_Z.moved (u := U) (U := U.calling g mk a) (Vm.Alike.refl U.vm) h6.2.1, va_T.moved (u := U) (U := U.calling g mk a) (Vm.Alike.refl U.vm) h6.2.2⟩⟩
theorem nest_warm {s U : State} (hW : s.WarmedH U.vm) (h : NG s) : NG U := by
  intro w hw
  have h1 := h w hw
  simp only [nestW, List.mem_cons, List.not_mem_nil, or_false] at hw
  rcases hw with rfl | rfl | rfl | rfl | rfl | rfl | rfl | rfl | rfl | rfl <;> first | exact va_Nw.warmM hW h1 | exact va_Nw.warmF hW h1
theorem k_pre (C0 : Cx p s m args meth c G A own cc nL ret) (hW : Wd G A s.heap H ws locs) {wc : va_W} (isC : List Nat) (hnd : va_nd isC = true) (hC : isC.map (fun i => ws[i]?) = wc.map some) (av : List Value) : ∀ U : State, U.heap = H → s.WarmedH U.vm → va_Pc av (PcN G wc H.size) av.toArray U := by
  obtain ⟨-, -, -, -, -, -, -, hK, hN, hZ, hA⟩ := C0
  obtain ⟨hP, hD, hS⟩ := hW
  have hF := va_free (wc := wc) hD hS hA isC hC
  intro U hU hw
  refine ⟨rfl, by rw [hU], ?_, ?_, va_K.moved hw.alike hK, nest_warm hw hN, ?_⟩
  · rw [hU]
    intro k q hk
    obtain ⟨i, -, hi⟩ := map_at hC hk
    exact hP i q hi
  · refine ⟨(hD.sub isC hnd hC).1, fun _ _ _ => trivial⟩
  · have z1 : ∀ {C n d v}, va_Z C n d v A s s.heap → va_Z C n d v (va_A wc H.size) U U.heap := fun h => by
      rw [hU]; exact ((h.kept hS.2.1).moved hw.alike).narrow hF
    have z2 : ∀ {ty t N f}, va_T ty t N f A s s.heap → va_T ty t N f (va_A wc H.size) U U.heap := fun h => by
      rw [hU]; exact ((h.kept hS.2.1).moved hw.alike).narrow hF
    exact ⟨⟨z1 hZ.1.1, z2 hZ.1.2⟩, ⟨z1 hZ.2.1, z2 hZ.2.2⟩⟩
theorem k_run {wc wc' : va_W} {rv : Option Value} {a : Array Value} (C0 : Cx p s m args meth c G A own cc nL ret) (hW : Wd G A s.heap H ws locs) (isC : List Nat) (hC : isC.map (fun i => ws[i]?) = wc.map some) (hsame : wc'.map Prod.fst = wc.map Prod.fst)
    (hr : va_Run p l e R s m args below meth c H locs cells slots 0 0 (F0 m pc ls st0) rest (QN G (va_A wc H.size) rv wc' a) (va_A wc H.size))
    (kk : ∀ (H1 : Heap) (locs1 : List Loc), Wd G A s.heap H1 (vrep ws isC wc') locs1 → W p l e R s m args below meth c H1 locs1 cells slots Q (F0 m (pc + 3) ls (rv.toList ++ rest))) : W p l e R s m args below meth c H locs cells slots Q (F0 m pc ls st0) := by
  obtain ⟨-, -, -, -, -, -, -, -, -, -, hA⟩ := C0
  obtain ⟨hP, hD, hS⟩ := hW
  have hF := va_free (wc := wc) hD hS hA isC hC
  have hlen : isC.length = wc'.length := by
    have h1 := congrArg List.length hC
    have h2 := congrArg List.length hsame
    simp only [List.length_map] at h1 h2
    omega
  intro T hT X
  obtain ⟨v, st₀, t, T', L, h0, X', hL, e1, e2, ⟨hv, hP1, hz, hk⟩, st⟩ := hr T hT X
  cases hv
  rw [h0] at hz hk
  have hW1 : Wd G A s.heap T'.heap (vrep ws isC wc') (locs ++ L) := by
    refine ⟨fun j q hj => ?_, ⟨fun i j x y hi hj hxy => ?_, fun j q hj => ?_⟩, Nat.le_trans hS.1 (by rw [e1]; exact hz), fun q h1 h2 => ?_, fun q hq => ?_⟩
    · rcases vrep_get isC ws wc' hlen j q hj with ⟨k, -, h2⟩ | ⟨h1, h2⟩
      · rw [e1]; exact hP1 k q h2
      · have hat := hP j q h2
        refine hat.kept ?_
        rw [e1]
        refine hk q.1 hat.lt (fun z => ?_)
        rcases z with ⟨k, e9, z⟩ | z
        · obtain ⟨i, g1, g2⟩ := map_at hC z
          have := hD.1 i j _ _ g2 h2 rfl
          subst this
          exact h1 (List.mem_of_getElem? g1)
        · exact absurd hat.lt (Nat.not_lt.mpr z)
    · have back : ∀ (j : Nat) (q : Nat × va_E), (vrep ws isC wc')[j]? = some q → ∃ q0, ws[j]? = some q0 ∧ q0.1 = q.1 := by
        intro j q hj
        rcases vrep_get isC ws wc' hlen j q hj with ⟨k, g1, g2⟩ | ⟨-, g2⟩
        · obtain ⟨q0, g3, g4⟩ := same_at hsame g2
          obtain ⟨i, g5, g6⟩ := map_at hC g3
          rw [g1] at g5
          cases g5
          exact ⟨q0, g6, g4⟩
        · exact ⟨q, g2, rfl⟩
      obtain ⟨x0, a1, a2⟩ := back i x hi
      obtain ⟨y0, b1, b2⟩ := back j y hj
      exact hD.1 i j x0 y0 a1 b1 (by rw [a2, b2]; exact hxy)
    · rcases vrep_get isC ws wc' hlen j q hj with ⟨k, g1, g2⟩ | ⟨-, g2⟩
      · obtain ⟨q0, g3, g4⟩ := same_at hsame g2
        obtain ⟨i, g5, g6⟩ := map_at hC g3
        rw [← g4]
        exact hD.2 i q0 g6
      · exact hD.2 j q g2
    · rw [e1, hk q (Nat.lt_of_lt_of_le h1 hS.1) (fun z => h2 (hF q z))]
      exact hS.2.1 q h1 h2
    · rcases List.mem_append.mp hq with h | h
      · exact hS.2.2 q h
      · exact hF _ (hL q h)
  obtain ⟨t2, a1, b1⟩ := kk T'.heap (locs ++ L) hW1 T' rfl X'
  exact ⟨t2, st t2 a1, b1⟩
theorem gw_in {y : MethodName} {cc2 : ByteArray} {nL2 : Nat} {ret2 : Option FieldType} (h : Cond.code y cc2 nL2 ret2 ∈ gw) : GoodIn gw (uw y cc2 nL2 ret2) := by
  intro w hw
  rcases List.mem_cons.mp hw with rfl | hw
  · exact ⟨h, good_of_word (gw_good h)⟩
  · exact ⟨hw, good_of_word (gw_good hw)⟩
/-- what a call needs to know of the method called: an instance method, a static one -/
def cbV (y : MethodName) (cc2 : ByteArray) (nL2 : Nat) (ret2 : Option FieldType) (n : Nat) : Prop := Cond.instanceMethod y ∈ gw ∧ Cond.selects y.cls y y ∈ gw ∧ Cond.initialized y.cls ∈ gw ∧ Cond.code y cc2 nL2 ret2 ∈ gw ∧ (y.cls ≠ "java/lang/invoke/MethodHandle" ∧ y.cls ≠ "java/lang/invoke/VarHandle" ∧ (parseMethodDescriptor y.desc).map (fun d => d.parameters.length) = some n)
def cbS (y : MethodName) (cc2 : ByteArray) (nL2 : Nat) (ret2 : Option FieldType) (n : Nat) : Prop := Cond.static y ∈ gw ∧ Cond.initialized y.cls ∈ gw ∧ Cond.code y cc2 nL2 ret2 ∈ gw ∧ (y.cls ≠ "java/lang/invoke/MethodHandle" ∧ y.cls ≠ "java/lang/invoke/VarHandle" ∧ (parseMethodDescriptor y.desc).map (fun d => d.parameters.length) = some n)
theorem k_callV {y : MethodName} {cc2 : ByteArray} {nL2 n d idx : Nat} {ret2 : Option FieldType} {b : Nat} {As : List Value} {wc wc' : va_W} {rv : Option Value} (C0 : Cx p s m args meth c G A own cc nL ret) (hW : Wd G A s.heap H ws locs) (hl : ls.size = nL)
    (hM : Cn l G d y cc2 nL2 ret2 (.ref b :: As) wc rv wc') (B : cbV y cc2 nL2 ret2 n) (hlink : Cond.methodLink own idx y ∈ gw) (isC : List Nat) (hnd : va_nd isC = true) (hC : isC.map (fun i => ws[i]?) = wc.map some) (hsame : wc'.map Prod.fst = wc.map Prod.fst) (q0 ci : Nat) {rc : vw_C} {fs : List Value} (hci : vwCl[ci]? = some rc) (hrc : rc.1 = y.cls) (hq0 : wc[q0]? = some (b, .inr (ci, fs))) (hR : d + 1 ≤ R.frames ∧ 8 + (nL2 + 11) + 60 * d ≤ R.locals) (hn : As.length = n) (hst : st0 = As.reverse ++ .ref b :: rest) (hroom : (rest.map fun v => v.category).sum ≤ 8) (hcs : cells ≤ R.cells ∧ slots ≤ R.slots) (hdg : decode cc pc = .ok (.invokevirtual idx, 3))
    (kk : ∀ (H1 : Heap) (locs1 : List Loc), Wd G A s.heap H1 (vrep ws isC wc') locs1 → W p l e R s m args below meth c H1 locs1 cells slots Q (F0 m (pc + 3) ls (rv.toList ++ rest))) : W p l e R s m args below meth c H locs cells slots Q (F0 m pc ls st0) := by
  obtain ⟨hx, hb, hml, -, -, ho, hts, hK, -, -, -⟩ := id C0
  obtain ⟨b1, b2, b3, b4, b5⟩ := B
  have hPc : va_P G.1 vwCl wc H := fun k q hk => by
    obtain ⟨i, -, hi⟩ := map_at hC hk
    exact hW.1 i q hi
  have hcb : CallB R s args own idx y cc2 nL2 ret2 (uw y cc2 nL2 ret2) (rmD d) 0 0 n := callB_of n hts (gw_in b4) rfl rfl rfl (hts _ b3) (hts _ hlink) b5 hR
  refine k_run C0 hW isC hC hsame (va_runV ⟨hx, hb, hml, ho, hts⟩ (hM H.size) ⟨hcb, hts _ b1, hts _ b2⟩ ⟨k_blind wc _ H.size, ?_, fun U hU hw => k_pre C0 hW isC hnd hC (.ref b :: As) U hU hw⟩ rfl hn hl hst (lv_room hroom) hdg hcs) kk
  rw [← hrc]
  exact va_recv hK hPc hci hq0
theorem k_callS {y : MethodName} {cc2 : ByteArray} {nL2 n d idx : Nat} {ret2 : Option FieldType} {As : List Value} {wc wc' : va_W} {rv : Option Value} (C0 : Cx p s m args meth c G A own cc nL ret) (hW : Wd G A s.heap H ws locs) (hl : ls.size = nL)
    (hM : Cn l G d y cc2 nL2 ret2 As wc rv wc') (B : cbS y cc2 nL2 ret2 n) (hlink : Cond.methodLink own idx y ∈ gw) (isC : List Nat) (hnd : va_nd isC = true) (hC : isC.map (fun i => ws[i]?) = wc.map some) (hsame : wc'.map Prod.fst = wc.map Prod.fst) (hR : d + 1 ≤ R.frames ∧ 8 + (nL2 + 11) + 60 * d ≤ R.locals) (hn : As.length = n) (hst : st0 = As.reverse ++ rest) (hroom : (rest.map fun v => v.category).sum ≤ 8) (hcs : cells ≤ R.cells ∧ slots ≤ R.slots) (hdg : decode cc pc = .ok (.invokestatic idx, 3))
    (kk : ∀ (H1 : Heap) (locs1 : List Loc), Wd G A s.heap H1 (vrep ws isC wc') locs1 → W p l e R s m args below meth c H1 locs1 cells slots Q (F0 m (pc + 3) ls (rv.toList ++ rest))) : W p l e R s m args below meth c H locs cells slots Q (F0 m pc ls st0) := by
  obtain ⟨hx, hb, hml, -, -, ho, hts, hK, -, -, -⟩ := id C0
  obtain ⟨b1, b3, b4, b5⟩ := B
  have hcb : CallB R s args own idx y cc2 nL2 ret2 (uw y cc2 nL2 ret2) (rmD d) 0 0 n := callB_of n hts (gw_in b4) rfl rfl rfl (hts _ b3) (hts _ hlink) b5 hR
  exact k_run C0 hW isC hC hsame (va_runS ⟨hx, hb, hml, ho, hts⟩ (hM H.size) ⟨hcb, hts _ b1⟩ ⟨k_blind wc _ H.size, fun U hU hw => k_pre C0 hW isC hnd hC As U hU hw⟩ rfl hn hl hst (lv_room hroom) hdg hcs) kk
theorem k_callSN {y : MethodName} {cc2 : ByteArray} {nL2 n d idx : Nat} {ret2 : Option FieldType} {host : String} {As : List Value} {wc wc' : va_W} {rv : Option Value} (C0 : Cx p s m args meth c G A own cc nL ret) (hW : Wd G A s.heap H ws locs) (hl : ls.size = nL)
    (hM : Cn l G d y cc2 nL2 ret2 As wc rv wc') (B : cbS y cc2 nL2 ret2 n) (hlink : Cond.methodLinkNest own idx y host ∈ nestW) (isC : List Nat) (hnd : va_nd isC = true) (hC : isC.map (fun i => ws[i]?) = wc.map some) (hsame : wc'.map Prod.fst = wc.map Prod.fst) (hR : d + 1 ≤ R.frames ∧ 8 + (nL2 + 11) + 60 * d ≤ R.locals) (hn : As.length = n) (hst : st0 = As.reverse ++ rest) (hroom : (rest.map fun v => v.category).sum ≤ 8) (hcs : cells ≤ R.cells ∧ slots ≤ R.slots) (hdg : decode cc pc = .ok (.invokestatic idx, 3))
    (kk : ∀ (H1 : Heap) (locs1 : List Loc), Wd G A s.heap H1 (vrep ws isC wc') locs1 → W p l e R s m args below meth c H1 locs1 cells slots Q (F0 m (pc + 3) ls (rv.toList ++ rest))) : W p l e R s m args below meth c H locs cells slots Q (F0 m pc ls st0) := by
  obtain ⟨hx, hb, hml, -, -, ho, hts, hK, hN, -, -⟩ := id C0
  obtain ⟨b1, b3, b4, b5⟩ := B
  exact k_run C0 hW isC hC hsame (va_runSN ⟨hx, hb, hml, ho, hts⟩ (hM H.size) ⟨va_cnB n hts (gw_in b4) rfl rfl rfl (hN _ hlink) (hts _ b3) b5 hR, hts _ b1, trivial⟩ ⟨k_blind wc _ H.size, fun U hU hw => k_pre C0 hW isC hnd hC As U hU hw⟩ rfl hn hl hst (lv_room hroom) hdg hcs) kk
end KR
end
section
section KF
variable {p : Program} {l : Launch} {e : Env} {R : Room} {s : State} {m : MethodId} {args : Array Value} {below : List Frame} {meth : Method} {c : Code} {H : Heap} {locs : List Loc} {cells slots : Nat} {Q : State → Prop}
variable {G : GG} {A : Nat → Prop} {own : String} {cc : ByteArray} {nL : Nat} {ret : Option FieldType} {pc : Nat} {ls : Array Slot} {rest st0 : List Value} {ws : va_W}
theorem k_get (C0 : Cx p s m args meth c G A own cc nL ret) (hW : Wd G A s.heap H ws locs) (ci k q : Nat) {r : vw_C} {idx a : Nat} {fs : List Value} {v : Value} (hc : vwCl[ci]? = some r) (hk : k < r.2.2) (hin : ∀ w ∈ u_ws r.1 r.2.1 r.2.2, w ∈ gw) (hl : Cond.fieldLink own idx (r.2.1 k).1 (r.2.1 k).2.1 (r.2.1 k).2.2.1 ∈ gw) (he : ws[q]? = some (a, .inr (ci, fs))) (hv : fs[k]? = some v) (hdg : decode cc pc = .ok (.getfield idx, 3))
    (kk : W p l e R s m args below meth c H locs cells slots Q (F0 m (pc + 3) ls (v :: rest))) : W p l e R s m args below meth c H locs cells slots Q (F0 m pc ls (.ref a :: rest)) := by
  obtain ⟨hx, hb, -, -, -, ho, hts, hK, -, -, -⟩ := C0
  exact va_get (C := r.1) (T := r.2.1) (N := r.2.2) hx hb hts hin ho hK hW.1 q he hc k hk (hts _ hl) (fun _ h => h) hv hdg kk
theorem k_put (C0 : Cx p s m args meth c G A own cc nL ret) (hW : Wd G A s.heap H ws locs) (ci k q : Nat) {r : vw_C} {idx a : Nat} {fs : List Value} {v : Value} {ty : Nat → FieldType} (hc : vwCl[ci]? = some r) (hk : k < r.2.2) (hin : ∀ w ∈ u_ws r.1 r.2.1 r.2.2, w ∈ gw) (hty : ∀ k, k < r.2.2 → parseFieldDescriptor (r.2.1 k).2.2.1 = some (ty k)) (hnm : ∀ a, a < r.2.2 → ∀ b, b < r.2.2 → a ≠ b → (r.2.1 a).2.1 ≠ (r.2.1 b).2.1) (hl : Cond.fieldLink own idx (r.2.1 k).1 (r.2.1 k).2.1 (r.2.1 k).2.2.1 ∈ gw) (he : ws[q]? = some (a, .inr (ci, fs))) (hfin : (r.2.1 k).2.2.2 = false) (hn : narrow (ty k) v = v) (hfit : fits (ty k) v = true) (hlen : k < fs.length) (hdg : decode cc pc = .ok (.putfield idx, 3))
    (kk : ∀ (H1 : Heap) (locs1 : List Loc), Wd G A s.heap H1 (ws.set q (a, .inr (ci, fs.set k v))) locs1 → W p l e R s m args below meth c H1 locs1 cells slots Q (F0 m (pc + 3) ls rest)) : W p l e R s m args below meth c H locs cells slots Q (F0 m pc ls (v :: .ref a :: rest)) := by
  obtain ⟨hx, hb, -, -, -, ho, hts, hK, -, -, -⟩ := C0
  exact va_put (C := r.1) (T := r.2.1) (N := r.2.2) hx hb hts hin ty hty hnm ho hK hW.1 hW.2.1 hW.2.2 q he hc k hk (hts _ hl) (fun _ h => h) hfin (hty k hk) hn hfit hlen hdg (fun H1 locs1 h1 h2 h3 => kk H1 locs1 ⟨h1, h2, h3⟩)
theorem k_iald (C0 : Cx p s m args meth c G A own cc nL ret) (hW : Wd G A s.heap H ws locs) (q : Nat) {a n : Nat} {f : Ar} {i : Int32} (j : Nat) (he : ws[q]? = some (a, .inl (G.2.1 0, n, .inl f))) (hin : vp_in i n) (hj : i.toNatClampNeg = j) (hdg : decode cc pc = .ok (.iaload, 1))
    (kk : W p l e R s m args below meth c H locs cells slots Q (F0 m (pc + 1) ls (.int (f j) :: rest))) : W p l e R s m args below meth c H locs cells slots Q (F0 m pc ls (.int i :: .ref a :: rest)) := by
  obtain ⟨hx, hb, -, -, -, ho, hts, hK, -, -, -⟩ := C0
  subst hj
  exact va_iald hx hb hK hW.1 q 0 he rfl hin hdg kk
theorem k_bald (C0 : Cx p s m args meth c G A own cc nL ret) (hW : Wd G A s.heap H ws locs) (q : Nat) {a n : Nat} {f : Ar} {i : Int32} (j : Nat) (he : ws[q]? = some (a, .inl (G.2.1 1, n, .inl f))) (hin : vp_in i n) (hj : i.toNatClampNeg = j) (hdg : decode cc pc = .ok (.baload, 1))
    (kk : W p l e R s m args below meth c H locs cells slots Q (F0 m (pc + 1) ls (.int (f j) :: rest))) : W p l e R s m args below meth c H locs cells slots Q (F0 m pc ls (.int i :: .ref a :: rest)) := by
  obtain ⟨hx, hb, -, -, -, ho, hts, hK, -, -, -⟩ := C0
  subst hj
  exact va_bald hx hb hK hW.1 q 1 he rfl hin hdg kk
theorem k_lald (C0 : Cx p s m args meth c G A own cc nL ret) (hW : Wd G A s.heap H ws locs) (q : Nat) {a n : Nat} {f : ArL} {i : Int32} (j : Nat) (he : ws[q]? = some (a, .inl (G.2.1 2, n, .inr (.inl f)))) (hin : vp_in i n) (hj : i.toNatClampNeg = j) (hdg : decode cc pc = .ok (.laload, 1))
    (kk : W p l e R s m args below meth c H locs cells slots Q (F0 m (pc + 1) ls (.long (f j) :: rest))) : W p l e R s m args below meth c H locs cells slots Q (F0 m pc ls (.int i :: .ref a :: rest)) := by
  obtain ⟨hx, hb, -, -, -, ho, hts, hK, -, -, -⟩ := C0
  subst hj
  exact va_lald hx hb hK hW.1 q 2 he rfl hin hdg kk
theorem k_iast (C0 : Cx p s m args meth c G A own cc nL ret) (hW : Wd G A s.heap H ws locs) (q : Nat) {a n : Nat} {f : Ar} {i x : Int32} (j : Nat) (he : ws[q]? = some (a, .inl (G.2.1 0, n, .inl f))) (hin : vp_in i n) (hj : i.toNatClampNeg = j) (hdg : decode cc pc = .ok (.iastore, 1))
    (kk : ∀ (H1 : Heap) (locs1 : List Loc), Wd G A s.heap H1 (ws.set q (a, .inl (G.2.1 0, n, .inl (upd f j x)))) locs1 → W p l e R s m args below meth c H1 locs1 cells slots Q (F0 m (pc + 1) ls rest)) : W p l e R s m args below meth c H locs cells slots Q (F0 m pc ls (.int x :: .int i :: .ref a :: rest)) := by
  obtain ⟨hx, hb, -, -, -, ho, hts, hK, -, -, -⟩ := C0
  subst hj
  exact va_iast hx hb hK hW.1 hW.2.1 hW.2.2 q 0 he rfl hin hdg (fun H1 locs1 h1 h2 h3 => kk H1 locs1 ⟨h1, h2, h3⟩)
theorem k_bast (C0 : Cx p s m args meth c G A own cc nL ret) (hW : Wd G A s.heap H ws locs) (q : Nat) {a n : Nat} {f : Ar} {i x : Int32} (j : Nat) (he : ws[q]? = some (a, .inl (G.2.1 1, n, .inl f))) (hin : vp_in i n) (hj : i.toNatClampNeg = j) {y : Int32} (hy : vp_nar .byte x = y) (hdg : decode cc pc = .ok (.bastore, 1))
    (kk : ∀ (H1 : Heap) (locs1 : List Loc), Wd G A s.heap H1 (ws.set q (a, .inl (G.2.1 1, n, .inl (upd f j y)))) locs1 → W p l e R s m args below meth c H1 locs1 cells slots Q (F0 m (pc + 1) ls rest)) : W p l e R s m args below meth c H locs cells slots Q (F0 m pc ls (.int x :: .int i :: .ref a :: rest)) := by
  obtain ⟨hx, hb, -, -, -, ho, hts, hK, -, -, -⟩ := C0
  subst hj
  subst hy
  exact va_bast hx hb hK hW.1 hW.2.1 hW.2.2 q 1 he rfl hin hdg (fun H1 locs1 h1 h2 h3 => kk H1 locs1 ⟨h1, h2, h3⟩)
theorem k_last (C0 : Cx p s m args meth c G A own cc nL ret) (hW : Wd G A s.heap H ws locs) (q : Nat) {a n : Nat} {f : ArL} {i : Int32} {x : Int64} (j : Nat) (he : ws[q]? = some (a, .inl (G.2.1 2, n, .inr (.inl f)))) (hin : vp_in i n) (hj : i.toNatClampNeg = j) (hdg : decode cc pc = .ok (.lastore, 1))
    (kk : ∀ (H1 : Heap) (locs1 : List Loc), Wd G A s.heap H1 (ws.set q (a, .inl (G.2.1 2, n, .inr (.inl (vp_updL f j x))))) locs1 → W p l e R s m args below meth c H1 locs1 cells slots Q (F0 m (pc + 1) ls rest)) : W p l e R s m args below meth c H locs cells slots Q (F0 m pc ls (.long x :: .int i :: .ref a :: rest)) := by
  obtain ⟨hx, hb, -, -, -, ho, hts, hK, -, -, -⟩ := C0
  subst hj
  exact va_last hx hb hK hW.1 hW.2.1 hW.2.2 q 2 he rfl hin hdg (fun H1 locs1 h1 h2 h3 => kk H1 locs1 ⟨h1, h2, h3⟩)
theorem k_alen (C0 : Cx p s m args meth c G A own cc nL ret) (hW : Wd G A s.heap H ws locs) (q : Nat) {a n : Nat} {f : Ar} {v : Int32} (he : ws[q]? = some (a, .inl (G.2.1 0, n, .inl f))) (hv : Int32.ofNat n = v) (hdg : decode cc pc = .ok (.arraylength, 1))
    (kk : W p l e R s m args below meth c H locs cells slots Q (F0 m (pc + 1) ls (.int v :: rest))) : W p l e R s m args below meth c H locs cells slots Q (F0 m pc ls (.ref a :: rest)) := by
  obtain ⟨hx, hb, -, -, -, ho, hts, hK, -, -, -⟩ := C0
  exact va_alen (ty := .int) hx hb hK hW.1 q 0 he rfl hv hdg kk
theorem k_aaldC (C0 : Cx p s m args meth c G A own cc nL ret) (hW : Wd G A s.heap H ws locs) (q : Nat) {a n b : Nat} {f : Nat → Option Nat} {i : Int32} (he : ws[q]? = some (a, .inl (G.2.1 3, n, .inr (.inr (.inr (.inr f)))))) (hin : vp_in i n) (hf : f i.toNatClampNeg = some b) (hdg : decode cc pc = .ok (.aaload, 1))
    (kk : W p l e R s m args below meth c H locs cells slots Q (F0 m (pc + 1) ls (.ref b :: rest))) : W p l e R s m args below meth c H locs cells slots Q (F0 m pc ls (.int i :: .ref a :: rest)) := by
  obtain ⟨hx, hb, -, -, -, ho, hts, hK, -, -, -⟩ := C0
  refine va_aldq hx hb hK hW.1 q 3 he rfl hin hdg ?_
  rw [hf]
  exact kk
theorem k_aaldI (C0 : Cx p s m args meth c G A own cc nL ret) (hW : Wd G A s.heap H ws locs) (q : Nat) {a n b : Nat} {f : Nat → Option Nat} {i : Int32} (he : ws[q]? = some (a, .inl (G.2.1 4, n, .inr (.inr (.inr (.inr f)))))) (hin : vp_in i n) (hf : f i.toNatClampNeg = some b) (hdg : decode cc pc = .ok (.aaload, 1))
    (kk : W p l e R s m args below meth c H locs cells slots Q (F0 m (pc + 1) ls (.ref b :: rest))) : W p l e R s m args below meth c H locs cells slots Q (F0 m pc ls (.int i :: .ref a :: rest)) := by
  obtain ⟨hx, hb, -, -, -, ho, hts, hK, -, -, -⟩ := C0
  have hlt : i.toNatClampNeg < n := Nat.not_le.mp fun q => hin (Or.inr q)
  refine W.aald (v := va_rf (f i.toNatClampNeg)) (ty := .array .int) hx hb (hW.1 q _ he) ((hK.2 4 _ rfl).1 n (fun j => va_rf (f j))) rfl (fun q => by cases q) (by show ¬ (i < 0 ∨ (arrV _ _ _).slots.size ≤ _); rw [arrV_size]; exact hin) (by show (arrV _ _ _).slots[_]? = _; rw [arrV_read _ _ hlt]) rfl rfl hdg ?_
  rw [hf]
  exact kk
theorem k_max (C0 : Cx p s m args meth c G A own cc nL ret) (hl : ls.size = nL) {idx : Nat} (hlink : Cond.methodLink own idx yJ9_max_7cf53 ∈ gw) (hR : 1 ≤ R.frames ∧ 25 ≤ R.locals ∧ cells ≤ R.cells ∧ slots ≤ R.slots) (hroom : (rest.map fun v => v.category).sum ≤ 8) {x y : Int32} (hdg : decode cc pc = .ok (.invokestatic idx, 3))
    (kk : W p l e R s m args below meth c H locs cells slots Q (F0 m (pc + 3) ls (.int (jmax x y) :: rest))) : W p l e R s m args below meth c H locs cells slots Q (F0 m pc ls (.int y :: .int x :: rest)) := by
  obtain ⟨hx, hb, hml, -, -, ho, hts, hK, -, -, -⟩ := C0
  exact va_mmax hx hb (hml.trans hl.symm) ho (hts _ hlink) (hts _ mt_J9_max_7cf53) (hts _ mz_J9) (hts _ mc_J9_max_7cf53) hR.1 (by omega) hR.2.2.1 hR.2.2.2 hdg kk
theorem k_min (C0 : Cx p s m args meth c G A own cc nL ret) (hl : ls.size = nL) {idx : Nat} (hlink : Cond.methodLink own idx yJ9_min_7cf53 ∈ gw) (hR : 1 ≤ R.frames ∧ 25 ≤ R.locals ∧ cells ≤ R.cells ∧ slots ≤ R.slots) (hroom : (rest.map fun v => v.category).sum ≤ 8) {x y : Int32} (hdg : decode cc pc = .ok (.invokestatic idx, 3))
    (kk : W p l e R s m args below meth c H locs cells slots Q (F0 m (pc + 3) ls (.int (jmin x y) :: rest))) : W p l e R s m args below meth c H locs cells slots Q (F0 m pc ls (.int y :: .int x :: rest)) := by
  obtain ⟨hx, hb, hml, -, -, ho, hts, hK, -, -, -⟩ := C0
  exact va_mmin hx hb (hml.trans hl.symm) ho (hts _ hlink) (hts _ mt_J9_min_7cf53) (hts _ mz_J9) (hts _ mc_J9_min_7cf53) hR.1 (by omega) hR.2.2.1 hR.2.2.2 hdg kk
def cpyok (sp dp n : Int32) (n0 n1 : Nat) : Bool := decide (¬ sp < 0) && decide (¬ dp < 0) && decide (¬ n < 0) && decide (sp.toNatClampNeg + n.toNatClampNeg ≤ n0) && decide (dp.toNatClampNeg + n.toNatClampNeg ≤ n1)
def acpy (f g : Ar) (sp dp n : Int32) : Ar := va_cpy f g sp.toNatClampNeg dp.toNatClampNeg n.toNatClampNeg
theorem k_copy (C0 : Cx p s m args meth c G A own cc nL ret) (hW : Wd G A s.heap H ws locs) (hl : ls.size = nL) {idx : Nat} (hlink : Cond.methodLink own idx arraycopyName ∈ gw) (hR : 1 ≤ R.frames ∧ 60 ≤ R.locals) (hroom : (rest.map fun v => v.category).sum ≤ 8) (q0 q1 : Nat) {a0 a1 n0 n1 : Nat} {f g : Ar} (he0 : ws[q0]? = some (a0, .inl (G.2.1 0, n0, .inl f))) (he1 : ws[q1]? = some (a1, .inl (G.2.1 0, n1, .inl g))) {sp dp n : Int32} (hok : cpyok sp dp n n0 n1 = true) (hdg : decode cc pc = .ok (.invokestatic idx, 3))
    (kk : ∀ (H1 : Heap) (locs1 : List Loc), Wd G A s.heap H1 (ws.set q1 (a1, .inl (G.2.1 0, n1, .inl (acpy f g sp dp n)))) locs1 → W p l e R s m args below meth c H1 locs1 cells slots Q (F0 m (pc + 3) ls rest)) : W p l e R s m args below meth c H locs cells slots Q (F0 m pc ls (.int n :: .int dp :: .ref a1 :: .int sp :: .ref a0 :: rest)) := by
  obtain ⟨hx, hb, hml, -, -, ho, hts, hK, -, -, -⟩ := C0
  simp only [cpyok, Bool.and_eq_true, decide_eq_true_eq] at hok
  obtain ⟨⟨⟨⟨h1, h2⟩, h3⟩, h4⟩, h5⟩ := hok
  exact va_copyi hx hb (hml.trans hl.symm) ho (hts _ hlink) (hts _ (gw_mem mnat_arraycopy rfl)) (hts _ mt_J_arraycopy) (hts _ mz_J10) hK hW.1 hW.2.1 hW.2.2 q0 q1 0 0 he0 he1 rfl rfl rfl h1 h2 h3 h4 h5 (fun _ _ => rfl) hR.1 (Nat.le_trans (Nat.add_le_add_right hroom _) (Nat.le_trans (by decide) hR.2)) hdg (fun H1 locs1 h1 h2 h3 => kk H1 locs1 ⟨h1, h2, h3⟩)
theorem k_sletters (C0 : Cx p s m args meth c G A own cc nL ret) (hW : Wd G A s.heap H ws locs) {idx : Nat} (hlink : Cond.fieldLinkNest own idx RX5 "LETTERS" "[I" "WheelWeeks" ∈ nestW) (hdg : decode cc pc = .ok (.getstatic idx, 3))
    (kk : W p l e R s m args below meth c H locs cells slots Q (F0 m (pc + 3) ls (.ref G.2.2.1 :: rest))) : W p l e R s m args below meth c H locs cells slots Q (F0 m pc ls rest) := by
  obtain ⟨hx, hb, -, -, -, ho, hts, hK, hN, hZ, -⟩ := C0
  exact va_getsN hx hb hZ.1.1 hW.2.2 ho (va_Nw.use rfl (hN _ hlink)) (fun _ h => h) hdg kk
theorem k_sparents (C0 : Cx p s m args meth c G A own cc nL ret) (hW : Wd G A s.heap H ws locs) {idx : Nat} (hlink : Cond.fieldLink own idx RX5 "PARENTS" "[I" ∈ gw) (hdg : decode cc pc = .ok (.getstatic idx, 3))
    (kk : W p l e R s m args below meth c H locs cells slots Q (F0 m (pc + 3) ls (.ref G.2.2.2 :: rest))) : W p l e R s m args below meth c H locs cells slots Q (F0 m pc ls rest) := by
  obtain ⟨hx, hb, -, -, -, ho, hts, hK, hN, hZ, -⟩ := C0
  exact va_gets hx hb hZ.2.1 hW.2.2 ho (hts _ hlink) (fun _ h => h) hdg kk
def lettersA : Ar := fun j => ([99, 115, 101, 103, 105, 117] : List Int32).getD j 0
def parentsA : Ar := fun j => ([0, 0, 0, 2, 0, 4] : List Int32).getD j 0
theorem k_aletters (C0 : Cx p s m args meth c G A own cc nL ret) (hW : Wd G A s.heap H ws locs) {i : Int32} (hin : vp_in i 6) (hdg : decode cc pc = .ok (.iaload, 1))
    (kk : W p l e R s m args below meth c H locs cells slots Q (F0 m (pc + 1) ls (.int (lettersA (ix i)) :: rest))) : W p l e R s m args below meth c H locs cells slots Q (F0 m pc ls (.int i :: .ref G.2.2.1 :: rest)) := by
  obtain ⟨hx, hb, -, -, -, ho, hts, hK, hN, hZ, -⟩ := C0
  exact va_ti hx hb hZ.1.2 hW.2.2 hin rfl hdg kk
theorem k_aparents (C0 : Cx p s m args meth c G A own cc nL ret) (hW : Wd G A s.heap H ws locs) {i : Int32} (hin : vp_in i 6) (hdg : decode cc pc = .ok (.iaload, 1))
    (kk : W p l e R s m args below meth c H locs cells slots Q (F0 m (pc + 1) ls (.int (parentsA (ix i)) :: rest))) : W p l e R s m args below meth c H locs cells slots Q (F0 m pc ls (.int i :: .ref G.2.2.2 :: rest)) := by
  obtain ⟨hx, hb, -, -, -, ho, hts, hK, hN, hZ, -⟩ := C0
  exact va_ti hx hb hZ.2.2 hW.2.2 hin rfl hdg kk
theorem k_iret {v : Int32} {wc' : va_W} (C0 : Cx p s m args meth c G A own cc nL (some .int)) (hW : Wd G A s.heap H wc' locs) (hdg : decode cc pc = .ok (.ireturn, 1)) : W p l e R s m args below meth c H locs cells slots (MQ below (QN G A (some (.int v)) wc') args s cells slots A) (F0 m pc ls [.int v]) := by
  obtain ⟨hx, hb, -, hr, hk, -, -, -, -, -, -⟩ := C0
  exact W.iret hx hb hr (fun t ht _ => ⟨rfl, by rw [ht]; exact hW.1, hW.2.2.F ht⟩) (fun q hq => hW.2.2.2.2 q hq) hdg hk
theorem k_zret {v : Int32} {wc' : va_W} (C0 : Cx p s m args meth c G A own cc nL (some .boolean)) (hW : Wd G A s.heap H wc' locs) (hv : isB v = true) (hdg : decode cc pc = .ok (.ireturn, 1)) : W p l e R s m args below meth c H locs cells slots (MQ below (QN G A (some (.int v)) wc') args s cells slots A) (F0 m pc ls [.int v]) := by
  obtain ⟨hx, hb, -, hr, hk, -, -, -, -, -, -⟩ := C0
  exact W.zret hx hb hr (isB_nar hv) (fun t ht _ => ⟨rfl, by rw [ht]; exact hW.1, hW.2.2.F ht⟩) (fun q hq => hW.2.2.2.2 q hq) hdg hk
theorem k_lret {v : Int64} {wc' : va_W} (C0 : Cx p s m args meth c G A own cc nL (some .long)) (hW : Wd G A s.heap H wc' locs) (hdg : decode cc pc = .ok (.lreturn, 1)) : W p l e R s m args below meth c H locs cells slots (MQ below (QN G A (some (.long v)) wc') args s cells slots A) (F0 m pc ls [.long v]) := by
  obtain ⟨hx, hb, -, hr, hk, -, -, -, -, -, -⟩ := C0
  exact W.lret hx hb hr (fun t ht _ => ⟨rfl, by rw [ht]; exact hW.1, hW.2.2.F ht⟩) (fun q hq => hW.2.2.2.2 q hq) hdg hk
theorem k_vret {wc' : va_W} (C0 : Cx p s m args meth c G A own cc nL none) (hW : Wd G A s.heap H wc' locs) (hdg : decode cc pc = .ok (.return_, 1)) : W p l e R s m args below meth c H locs cells slots (MQ below (QN G A none wc') args s cells slots A) (F0 m pc ls []) := by
  obtain ⟨hx, hb, -, hr, hk, -, -, -, -, -, -⟩ := C0
  exact W.vret hx hb hr (fun t ht _ => ⟨rfl, by rw [ht]; exact hW.1, hW.2.2.F ht⟩) (fun q hq => hW.2.2.2.2 q hq) hdg hk
theorem k_aret {a : Nat} {wc' : va_W} (C0 : Cx p s m args meth c G A own cc nL (some (.array .int))) (hW : Wd G A s.heap H wc' locs) (hdg : decode cc pc = .ok (.areturn, 1)) : W p l e R s m args below meth c H locs cells slots (MQ below (QN G A (some (.ref a)) wc') args s cells slots A) (F0 m pc ls [.ref a]) := by
  obtain ⟨hx, hb, -, hr, hk, -, -, -, -, -, -⟩ := C0
  exact W.aret hx hb hr (Or.inr ⟨_, rfl⟩) (Or.inr ⟨_, rfl⟩) (fun t ht _ => ⟨rfl, by rw [ht]; exact hW.1, hW.2.2.F ht⟩) (fun q hq => hW.2.2.2.2 q hq) hdg hk
end KF
end
