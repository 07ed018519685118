-- ===== PART A: goes FIRST, ahead of the names: the tables' words, and 'selects' of the private methods out of them =====
/-- a private method of a class that the tables say can be made, by its rows of tables_1 -/
def lw_okq (q : MethodName × Nat) : Prop := (q.1.cls ≠ "java/lang/invoke/MethodHandle" ∧ q.1.cls ≠ "java/lang/invoke/VarHandle") ∧ Cond.instantiable q.1.cls q.2 ∈ tables_1 ∧ Cond.privateMethod q.1 ∈ tables_1 ∧ Cond.instanceMethod q.1 ∈ tables_1
theorem lw_p0 : lw_okq (⟨"HostageKings", "finding", "(I)I"⟩, 9) := ⟨⟨by decide +kernel, by decide +kernel⟩, List.mem_of_getElem? (i := 16) (by decide +kernel), List.mem_of_getElem? (i := 239) (by decide +kernel), List.mem_of_getElem? (i := 240) (by decide +kernel)⟩
theorem lw_p1 : lw_okq (⟨"HostageKings", "isChild", "(I)Z"⟩, 9) := ⟨⟨by decide +kernel, by decide +kernel⟩, List.mem_of_getElem? (i := 16) (by decide +kernel), List.mem_of_getElem? (i := 287) (by decide +kernel), List.mem_of_getElem? (i := 288) (by decide +kernel)⟩
theorem lw_p2 : lw_okq (⟨"HostageKings$Realm", "twinsAtHome", "(I)I"⟩, 15) := ⟨⟨by decide +kernel, by decide +kernel⟩, List.mem_of_getElem? (i := 24) (by decide +kernel), List.mem_of_getElem? (i := 296) (by decide +kernel), List.mem_of_getElem? (i := 297) (by decide +kernel)⟩
theorem lw_p3 : lw_okq (⟨"HostageKings$Realm", "lossBeside", "(II)I"⟩, 15) := ⟨⟨by decide +kernel, by decide +kernel⟩, List.mem_of_getElem? (i := 24) (by decide +kernel), List.mem_of_getElem? (i := 300) (by decide +kernel), List.mem_of_getElem? (i := 301) (by decide +kernel)⟩
theorem lw_p4 : lw_okq (⟨"HostageKings", "isTreaty", "(I)Z"⟩, 9) := ⟨⟨by decide +kernel, by decide +kernel⟩, List.mem_of_getElem? (i := 16) (by decide +kernel), List.mem_of_getElem? (i := 365) (by decide +kernel), List.mem_of_getElem? (i := 366) (by decide +kernel)⟩
theorem lw_p5 : lw_okq (⟨"HostageKings", "broughtDownWith", "(I)I"⟩, 9) := ⟨⟨by decide +kernel, by decide +kernel⟩, List.mem_of_getElem? (i := 16) (by decide +kernel), List.mem_of_getElem? (i := 444) (by decide +kernel), List.mem_of_getElem? (i := 445) (by decide +kernel)⟩
theorem lw_p6 : lw_okq (⟨"HostageKings$Planner", "findOne", "(LHostageKings$Realm;)Z"⟩, 4) := ⟨⟨by decide +kernel, by decide +kernel⟩, List.mem_of_getElem? (i := 99) (by decide +kernel), List.mem_of_getElem? (i := 492) (by decide +kernel), List.mem_of_getElem? (i := 493) (by decide +kernel)⟩
theorem lw_p7 : lw_okq (⟨"HostageKings$Planner", "mayMend", "(II)Z"⟩, 4) := ⟨⟨by decide +kernel, by decide +kernel⟩, List.mem_of_getElem? (i := 99) (by decide +kernel), List.mem_of_getElem? (i := 500) (by decide +kernel), List.mem_of_getElem? (i := 501) (by decide +kernel)⟩
theorem lw_p8 : lw_okq (⟨"HostageKings$Planner", "allHold", "(II)Z"⟩, 4) := ⟨⟨by decide +kernel, by decide +kernel⟩, List.mem_of_getElem? (i := 99) (by decide +kernel), List.mem_of_getElem? (i := 504) (by decide +kernel), List.mem_of_getElem? (i := 505) (by decide +kernel)⟩
theorem lw_p9 : lw_okq (⟨"HostageKings$Planner", "findTwo", "(LHostageKings$Realm;)Z"⟩, 4) := ⟨⟨by decide +kernel, by decide +kernel⟩, List.mem_of_getElem? (i := 99) (by decide +kernel), List.mem_of_getElem? (i := 508) (by decide +kernel), List.mem_of_getElem? (i := 509) (by decide +kernel)⟩
theorem lw_p10 : lw_okq (⟨"HostageKings$Planner", "findGreater", "(LHostageKings$Realm;I)Z"⟩, 4) := ⟨⟨by decide +kernel, by decide +kernel⟩, List.mem_of_getElem? (i := 99) (by decide +kernel), List.mem_of_getElem? (i := 512) (by decide +kernel), List.mem_of_getElem? (i := 513) (by decide +kernel)⟩
theorem lw_p11 : lw_okq (⟨"HostageKings", "sheetAt", "(I)LHostageKings$Sheet;"⟩, 9) := ⟨⟨by decide +kernel, by decide +kernel⟩, List.mem_of_getElem? (i := 16) (by decide +kernel), List.mem_of_getElem? (i := 537) (by decide +kernel), List.mem_of_getElem? (i := 538) (by decide +kernel)⟩
theorem lw_p12 : lw_okq (⟨"HostageKings$Route", "firstStep", "(I)I"⟩, 6) := ⟨⟨by decide +kernel, by decide +kernel⟩, List.mem_of_getElem? (i := 122) (by decide +kernel), List.mem_of_getElem? (i := 564) (by decide +kernel), List.mem_of_getElem? (i := 565) (by decide +kernel)⟩
theorem lw_p13 : lw_okq (⟨"HostageKings$Route", "holdsAt", "(LHostageKings$Realm;I)Z"⟩, 6) := ⟨⟨by decide +kernel, by decide +kernel⟩, List.mem_of_getElem? (i := 122) (by decide +kernel), List.mem_of_getElem? (i := 568) (by decide +kernel), List.mem_of_getElem? (i := 569) (by decide +kernel)⟩
theorem lw_p14 : lw_okq (⟨"HostageKings$Tape", "advance", "()V"⟩, 6) := ⟨⟨by decide +kernel, by decide +kernel⟩, List.mem_of_getElem? (i := 152) (by decide +kernel), List.mem_of_getElem? (i := 593) (by decide +kernel), List.mem_of_getElem? (i := 594) (by decide +kernel)⟩
theorem lw_p15 : lw_okq (⟨"HostageKings$Tape", "readItem", "(LHostageKings$Realm;)Z"⟩, 6) := ⟨⟨by decide +kernel, by decide +kernel⟩, List.mem_of_getElem? (i := 152) (by decide +kernel), List.mem_of_getElem? (i := 606) (by decide +kernel), List.mem_of_getElem? (i := 607) (by decide +kernel)⟩
def lw_privs_1 : List (MethodName × Nat) := [(⟨"HostageKings", "finding", "(I)I"⟩, 9), (⟨"HostageKings", "isChild", "(I)Z"⟩, 9), (⟨"HostageKings$Realm", "twinsAtHome", "(I)I"⟩, 15), (⟨"HostageKings$Realm", "lossBeside", "(II)I"⟩, 15), (⟨"HostageKings", "isTreaty", "(I)Z"⟩, 9), (⟨"HostageKings", "broughtDownWith", "(I)I"⟩, 9), (⟨"HostageKings$Planner", "findOne", "(LHostageKings$Realm;)Z"⟩, 4), (⟨"HostageKings$Planner", "mayMend", "(II)Z"⟩, 4), (⟨"HostageKings$Planner", "allHold", "(II)Z"⟩, 4), (⟨"HostageKings$Planner", "findTwo", "(LHostageKings$Realm;)Z"⟩, 4), (⟨"HostageKings$Planner", "findGreater", "(LHostageKings$Realm;I)Z"⟩, 4), (⟨"HostageKings", "sheetAt", "(I)LHostageKings$Sheet;"⟩, 9), (⟨"HostageKings$Route", "firstStep", "(I)I"⟩, 6), (⟨"HostageKings$Route", "holdsAt", "(LHostageKings$Realm;I)Z"⟩, 6), (⟨"HostageKings$Tape", "advance", "()V"⟩, 6), (⟨"HostageKings$Tape", "readItem", "(LHostageKings$Realm;)Z"⟩, 6)]
theorem lw_r1 : ∀ q ∈ lw_privs_1, lw_okq q := List.forall_mem_cons.mpr ⟨lw_p0, List.forall_mem_cons.mpr ⟨lw_p1, List.forall_mem_cons.mpr ⟨lw_p2, List.forall_mem_cons.mpr ⟨lw_p3, List.forall_mem_cons.mpr ⟨lw_p4, List.forall_mem_cons.mpr ⟨lw_p5, List.forall_mem_cons.mpr ⟨lw_p6, List.forall_mem_cons.mpr ⟨lw_p7, List.forall_mem_cons.mpr ⟨lw_p8, List.forall_mem_cons.mpr ⟨lw_p9, List.forall_mem_cons.mpr ⟨lw_p10, List.forall_mem_cons.mpr ⟨lw_p11, List.forall_mem_cons.mpr ⟨lw_p12, List.forall_mem_cons.mpr ⟨lw_p13, List.forall_mem_cons.mpr ⟨lw_p14, List.forall_mem_cons.mpr ⟨lw_p15, fun _ h => absurd h List.not_mem_nil⟩⟩⟩⟩⟩⟩⟩⟩⟩⟩⟩⟩⟩⟩⟩⟩
theorem lw_p16 : lw_okq (⟨"HostageKings$Tape", "isWord", "(Ljava/lang/String;)Z"⟩, 6) := ⟨⟨by decide +kernel, by decide +kernel⟩, List.mem_of_getElem? (i := 152) (by decide +kernel), List.mem_of_getElem? (i := 611) (by decide +kernel), List.mem_of_getElem? (i := 612) (by decide +kernel)⟩
theorem lw_p17 : lw_okq (⟨"HostageKings$Tape", "readFear", "(LHostageKings$Realm;)Z"⟩, 6) := ⟨⟨by decide +kernel, by decide +kernel⟩, List.mem_of_getElem? (i := 152) (by decide +kernel), List.mem_of_getElem? (i := 663) (by decide +kernel), List.mem_of_getElem? (i := 664) (by decide +kernel)⟩
theorem lw_p18 : lw_okq (⟨"HostageKings$Tape", "takeNumber", "(I)I"⟩, 6) := ⟨⟨by decide +kernel, by decide +kernel⟩, List.mem_of_getElem? (i := 152) (by decide +kernel), List.mem_of_getElem? (i := 667) (by decide +kernel), List.mem_of_getElem? (i := 668) (by decide +kernel)⟩
theorem lw_p19 : lw_okq (⟨"HostageKings$Tape", "takeWord", "(Ljava/lang/String;)Z"⟩, 6) := ⟨⟨by decide +kernel, by decide +kernel⟩, List.mem_of_getElem? (i := 152) (by decide +kernel), List.mem_of_getElem? (i := 672) (by decide +kernel), List.mem_of_getElem? (i := 673) (by decide +kernel)⟩
theorem lw_p20 : lw_okq (⟨"HostageKings$Tape", "readTreaty", "(LHostageKings$Realm;)Z"⟩, 6) := ⟨⟨by decide +kernel, by decide +kernel⟩, List.mem_of_getElem? (i := 152) (by decide +kernel), List.mem_of_getElem? (i := 677) (by decide +kernel), List.mem_of_getElem? (i := 678) (by decide +kernel)⟩
theorem lw_p21 : lw_okq (⟨"HostageKings$Tape", "readChild", "(LHostageKings$Realm;I)Z"⟩, 6) := ⟨⟨by decide +kernel, by decide +kernel⟩, List.mem_of_getElem? (i := 152) (by decide +kernel), List.mem_of_getElem? (i := 694) (by decide +kernel), List.mem_of_getElem? (i := 695) (by decide +kernel)⟩
theorem lw_p22 : lw_okq (⟨"HostageKingsModel", "finds", "(I)I"⟩, 41) := ⟨⟨by decide +kernel, by decide +kernel⟩, List.mem_of_getElem? (i := 770) (by decide +kernel), List.mem_of_getElem? (i := 914) (by decide +kernel), List.mem_of_getElem? (i := 915) (by decide +kernel)⟩
theorem lw_p23 : lw_okq (⟨"HostageKingsModel", "isInForce", "(I)Z"⟩, 41) := ⟨⟨by decide +kernel, by decide +kernel⟩, List.mem_of_getElem? (i := 770) (by decide +kernel), List.mem_of_getElem? (i := 922) (by decide +kernel), List.mem_of_getElem? (i := 923) (by decide +kernel)⟩
theorem lw_p24 : lw_okq (⟨"HostageKingsModel", "holder", "(I)I"⟩, 41) := ⟨⟨by decide +kernel, by decide +kernel⟩, List.mem_of_getElem? (i := 770) (by decide +kernel), List.mem_of_getElem? (i := 926) (by decide +kernel), List.mem_of_getElem? (i := 927) (by decide +kernel)⟩
theorem lw_p25 : lw_okq (⟨"HostageKingsModel", "isHome", "(I)Z"⟩, 41) := ⟨⟨by decide +kernel, by decide +kernel⟩, List.mem_of_getElem? (i := 770) (by decide +kernel), List.mem_of_getElem? (i := 930) (by decide +kernel), List.mem_of_getElem? (i := 931) (by decide +kernel)⟩
theorem lw_p26 : lw_okq (⟨"HostageKingsModel", "lives", "(I)Z"⟩, 41) := ⟨⟨by decide +kernel, by decide +kernel⟩, List.mem_of_getElem? (i := 770) (by decide +kernel), List.mem_of_getElem? (i := 934) (by decide +kernel), List.mem_of_getElem? (i := 935) (by decide +kernel)⟩
theorem lw_p27 : lw_okq (⟨"HostageKingsModel", "addChild", "(IIII)V"⟩, 41) := ⟨⟨by decide +kernel, by decide +kernel⟩, List.mem_of_getElem? (i := 770) (by decide +kernel), List.mem_of_getElem? (i := 946) (by decide +kernel), List.mem_of_getElem? (i := 947) (by decide +kernel)⟩
theorem lw_p28 : lw_okq (⟨"HostageKingsModel", "isChild", "(I)Z"⟩, 41) := ⟨⟨by decide +kernel, by decide +kernel⟩, List.mem_of_getElem? (i := 770) (by decide +kernel), List.mem_of_getElem? (i := 954) (by decide +kernel), List.mem_of_getElem? (i := 955) (by decide +kernel)⟩
theorem lw_p29 : lw_okq (⟨"HostageKingsModel", "loss", "(I)I"⟩, 41) := ⟨⟨by decide +kernel, by decide +kernel⟩, List.mem_of_getElem? (i := 770) (by decide +kernel), List.mem_of_getElem? (i := 958) (by decide +kernel), List.mem_of_getElem? (i := 959) (by decide +kernel)⟩
theorem lw_p30 : lw_okq (⟨"HostageKingsModel", "hasTwinAtHome", "(I)Z"⟩, 41) := ⟨⟨by decide +kernel, by decide +kernel⟩, List.mem_of_getElem? (i := 770) (by decide +kernel), List.mem_of_getElem? (i := 962) (by decide +kernel), List.mem_of_getElem? (i := 963) (by decide +kernel)⟩
theorem lw_p31 : lw_okq (⟨"HostageKingsModel", "looseSet", "()I"⟩, 41) := ⟨⟨by decide +kernel, by decide +kernel⟩, List.mem_of_getElem? (i := 770) (by decide +kernel), List.mem_of_getElem? (i := 991) (by decide +kernel), List.mem_of_getElem? (i := 992) (by decide +kernel)⟩
def lw_privs_2 : List (MethodName × Nat) := [(⟨"HostageKings$Tape", "isWord", "(Ljava/lang/String;)Z"⟩, 6), (⟨"HostageKings$Tape", "readFear", "(LHostageKings$Realm;)Z"⟩, 6), (⟨"HostageKings$Tape", "takeNumber", "(I)I"⟩, 6), (⟨"HostageKings$Tape", "takeWord", "(Ljava/lang/String;)Z"⟩, 6), (⟨"HostageKings$Tape", "readTreaty", "(LHostageKings$Realm;)Z"⟩, 6), (⟨"HostageKings$Tape", "readChild", "(LHostageKings$Realm;I)Z"⟩, 6), (⟨"HostageKingsModel", "finds", "(I)I"⟩, 41), (⟨"HostageKingsModel", "isInForce", "(I)Z"⟩, 41), (⟨"HostageKingsModel", "holder", "(I)I"⟩, 41), (⟨"HostageKingsModel", "isHome", "(I)Z"⟩, 41), (⟨"HostageKingsModel", "lives", "(I)Z"⟩, 41), (⟨"HostageKingsModel", "addChild", "(IIII)V"⟩, 41), (⟨"HostageKingsModel", "isChild", "(I)Z"⟩, 41), (⟨"HostageKingsModel", "loss", "(I)I"⟩, 41), (⟨"HostageKingsModel", "hasTwinAtHome", "(I)Z"⟩, 41), (⟨"HostageKingsModel", "looseSet", "()I"⟩, 41)]
theorem lw_r2 : ∀ q ∈ lw_privs_2, lw_okq q := List.forall_mem_cons.mpr ⟨lw_p16, List.forall_mem_cons.mpr ⟨lw_p17, List.forall_mem_cons.mpr ⟨lw_p18, List.forall_mem_cons.mpr ⟨lw_p19, List.forall_mem_cons.mpr ⟨lw_p20, List.forall_mem_cons.mpr ⟨lw_p21, List.forall_mem_cons.mpr ⟨lw_p22, List.forall_mem_cons.mpr ⟨lw_p23, List.forall_mem_cons.mpr ⟨lw_p24, List.forall_mem_cons.mpr ⟨lw_p25, List.forall_mem_cons.mpr ⟨lw_p26, List.forall_mem_cons.mpr ⟨lw_p27, List.forall_mem_cons.mpr ⟨lw_p28, List.forall_mem_cons.mpr ⟨lw_p29, List.forall_mem_cons.mpr ⟨lw_p30, List.forall_mem_cons.mpr ⟨lw_p31, fun _ h => absurd h List.not_mem_nil⟩⟩⟩⟩⟩⟩⟩⟩⟩⟩⟩⟩⟩⟩⟩⟩
theorem lw_p32 : lw_okq (⟨"HostageKingsModel", "findPledges", "()V"⟩, 41) := ⟨⟨by decide +kernel, by decide +kernel⟩, List.mem_of_getElem? (i := 770) (by decide +kernel), List.mem_of_getElem? (i := 995) (by decide +kernel), List.mem_of_getElem? (i := 996) (by decide +kernel)⟩
theorem lw_p33 : lw_okq (⟨"HostageKingsModel", "easeOf", "(I)I"⟩, 41) := ⟨⟨by decide +kernel, by decide +kernel⟩, List.mem_of_getElem? (i := 770) (by decide +kernel), List.mem_of_getElem? (i := 999) (by decide +kernel), List.mem_of_getElem? (i := 1000) (by decide +kernel)⟩
theorem lw_p34 : lw_okq (⟨"HostageKingsModel", "addTreaty", "(IIII)V"⟩, 41) := ⟨⟨by decide +kernel, by decide +kernel⟩, List.mem_of_getElem? (i := 770) (by decide +kernel), List.mem_of_getElem? (i := 1017) (by decide +kernel), List.mem_of_getElem? (i := 1018) (by decide +kernel)⟩
theorem lw_p35 : lw_okq (⟨"HostageKingsModel", "isTreaty", "(I)Z"⟩, 41) := ⟨⟨by decide +kernel, by decide +kernel⟩, List.mem_of_getElem? (i := 770) (by decide +kernel), List.mem_of_getElem? (i := 1025) (by decide +kernel), List.mem_of_getElem? (i := 1026) (by decide +kernel)⟩
theorem lw_p36 : lw_okq (⟨"HostageKingsModel", "pays", "(II)Z"⟩, 41) := ⟨⟨by decide +kernel, by decide +kernel⟩, List.mem_of_getElem? (i := 770) (by decide +kernel), List.mem_of_getElem? (i := 1055) (by decide +kernel), List.mem_of_getElem? (i := 1056) (by decide +kernel)⟩
theorem lw_p37 : lw_okq (⟨"HostageKingsModel", "falls", "()V"⟩, 41) := ⟨⟨by decide +kernel, by decide +kernel⟩, List.mem_of_getElem? (i := 770) (by decide +kernel), List.mem_of_getElem? (i := 1068) (by decide +kernel), List.mem_of_getElem? (i := 1069) (by decide +kernel)⟩
theorem lw_p38 : lw_okq (⟨"HostageKingsModel", "breaks", "(I)V"⟩, 41) := ⟨⟨by decide +kernel, by decide +kernel⟩, List.mem_of_getElem? (i := 770) (by decide +kernel), List.mem_of_getElem? (i := 1072) (by decide +kernel), List.mem_of_getElem? (i := 1073) (by decide +kernel)⟩
theorem lw_p39 : lw_okq (⟨"HostageKingsModel", "deadSet", "()I"⟩, 41) := ⟨⟨by decide +kernel, by decide +kernel⟩, List.mem_of_getElem? (i := 770) (by decide +kernel), List.mem_of_getElem? (i := 1080) (by decide +kernel), List.mem_of_getElem? (i := 1081) (by decide +kernel)⟩
theorem lw_p40 : lw_okq (⟨"HostageKingsModel", "lends", "()V"⟩, 41) := ⟨⟨by decide +kernel, by decide +kernel⟩, List.mem_of_getElem? (i := 770) (by decide +kernel), List.mem_of_getElem? (i := 1084) (by decide +kernel), List.mem_of_getElem? (i := 1085) (by decide +kernel)⟩
theorem lw_p41 : lw_okq (⟨"HostageKingsModel", "pullsDown", "(I)I"⟩, 41) := ⟨⟨by decide +kernel, by decide +kernel⟩, List.mem_of_getElem? (i := 770) (by decide +kernel), List.mem_of_getElem? (i := 1092) (by decide +kernel), List.mem_of_getElem? (i := 1093) (by decide +kernel)⟩
theorem lw_p42 : lw_okq (⟨"HostageKingsModel", "isLate", "(I)Z"⟩, 41) := ⟨⟨by decide +kernel, by decide +kernel⟩, List.mem_of_getElem? (i := 770) (by decide +kernel), List.mem_of_getElem? (i := 1104) (by decide +kernel), List.mem_of_getElem? (i := 1105) (by decide +kernel)⟩
theorem lw_p43 : lw_okq (⟨"HostageKingsModel", "brokenMany", "()I"⟩, 41) := ⟨⟨by decide +kernel, by decide +kernel⟩, List.mem_of_getElem? (i := 770) (by decide +kernel), List.mem_of_getElem? (i := 1108) (by decide +kernel), List.mem_of_getElem? (i := 1109) (by decide +kernel)⟩
theorem lw_p44 : lw_okq (⟨"HostageKingsModel", "go", "(I)V"⟩, 41) := ⟨⟨by decide +kernel, by decide +kernel⟩, List.mem_of_getElem? (i := 770) (by decide +kernel), List.mem_of_getElem? (i := 1112) (by decide +kernel), List.mem_of_getElem? (i := 1113) (by decide +kernel)⟩
theorem lw_p45 : lw_okq (⟨"HostageKingsModel", "forceSet", "()I"⟩, 41) := ⟨⟨by decide +kernel, by decide +kernel⟩, List.mem_of_getElem? (i := 770) (by decide +kernel), List.mem_of_getElem? (i := 1120) (by decide +kernel), List.mem_of_getElem? (i := 1121) (by decide +kernel)⟩
theorem lw_p46 : lw_okq (⟨"HostageKingsModel", "findsOne", "()Z"⟩, 41) := ⟨⟨by decide +kernel, by decide +kernel⟩, List.mem_of_getElem? (i := 770) (by decide +kernel), List.mem_of_getElem? (i := 1132) (by decide +kernel), List.mem_of_getElem? (i := 1133) (by decide +kernel)⟩
theorem lw_p47 : lw_okq (⟨"HostageKingsModel", "findsTwo", "()Z"⟩, 41) := ⟨⟨by decide +kernel, by decide +kernel⟩, List.mem_of_getElem? (i := 770) (by decide +kernel), List.mem_of_getElem? (i := 1136) (by decide +kernel), List.mem_of_getElem? (i := 1137) (by decide +kernel)⟩
def lw_privs_3 : List (MethodName × Nat) := [(⟨"HostageKingsModel", "findPledges", "()V"⟩, 41), (⟨"HostageKingsModel", "easeOf", "(I)I"⟩, 41), (⟨"HostageKingsModel", "addTreaty", "(IIII)V"⟩, 41), (⟨"HostageKingsModel", "isTreaty", "(I)Z"⟩, 41), (⟨"HostageKingsModel", "pays", "(II)Z"⟩, 41), (⟨"HostageKingsModel", "falls", "()V"⟩, 41), (⟨"HostageKingsModel", "breaks", "(I)V"⟩, 41), (⟨"HostageKingsModel", "deadSet", "()I"⟩, 41), (⟨"HostageKingsModel", "lends", "()V"⟩, 41), (⟨"HostageKingsModel", "pullsDown", "(I)I"⟩, 41), (⟨"HostageKingsModel", "isLate", "(I)Z"⟩, 41), (⟨"HostageKingsModel", "brokenMany", "()I"⟩, 41), (⟨"HostageKingsModel", "go", "(I)V"⟩, 41), (⟨"HostageKingsModel", "forceSet", "()I"⟩, 41), (⟨"HostageKingsModel", "findsOne", "()Z"⟩, 41), (⟨"HostageKingsModel", "findsTwo", "()Z"⟩, 41)]
theorem lw_r3 : ∀ q ∈ lw_privs_3, lw_okq q := List.forall_mem_cons.mpr ⟨lw_p32, List.forall_mem_cons.mpr ⟨lw_p33, List.forall_mem_cons.mpr ⟨lw_p34, List.forall_mem_cons.mpr ⟨lw_p35, List.forall_mem_cons.mpr ⟨lw_p36, List.forall_mem_cons.mpr ⟨lw_p37, List.forall_mem_cons.mpr ⟨lw_p38, List.forall_mem_cons.mpr ⟨lw_p39, List.forall_mem_cons.mpr ⟨lw_p40, List.forall_mem_cons.mpr ⟨lw_p41, List.forall_mem_cons.mpr ⟨lw_p42, List.forall_mem_cons.mpr ⟨lw_p43, List.forall_mem_cons.mpr ⟨lw_p44, List.forall_mem_cons.mpr ⟨lw_p45, List.forall_mem_cons.mpr ⟨lw_p46, List.forall_mem_cons.mpr ⟨lw_p47, fun _ h => absurd h List.not_mem_nil⟩⟩⟩⟩⟩⟩⟩⟩⟩⟩⟩⟩⟩⟩⟩⟩
theorem lw_p48 : lw_okq (⟨"HostageKingsModel", "findsBehind", "(I)Z"⟩, 41) := ⟨⟨by decide +kernel, by decide +kernel⟩, List.mem_of_getElem? (i := 770) (by decide +kernel), List.mem_of_getElem? (i := 1140) (by decide +kernel), List.mem_of_getElem? (i := 1141) (by decide +kernel)⟩
theorem lw_p49 : lw_okq (⟨"HostageKingsModel", "looseWith", "(II)I"⟩, 41) := ⟨⟨by decide +kernel, by decide +kernel⟩, List.mem_of_getElem? (i := 770) (by decide +kernel), List.mem_of_getElem? (i := 1148) (by decide +kernel), List.mem_of_getElem? (i := 1149) (by decide +kernel)⟩
theorem lw_p50 : lw_okq (⟨"HostageKingsModel", "held", "(II)I"⟩, 41) := ⟨⟨by decide +kernel, by decide +kernel⟩, List.mem_of_getElem? (i := 770) (by decide +kernel), List.mem_of_getElem? (i := 1160) (by decide +kernel), List.mem_of_getElem? (i := 1161) (by decide +kernel)⟩
theorem lw_p51 : lw_okq (⟨"HostageKingsModel", "findWay", "()V"⟩, 41) := ⟨⟨by decide +kernel, by decide +kernel⟩, List.mem_of_getElem? (i := 770) (by decide +kernel), List.mem_of_getElem? (i := 1174) (by decide +kernel), List.mem_of_getElem? (i := 1175) (by decide +kernel)⟩
theorem lw_p52 : lw_okq (⟨"HostageKingsModel", "holdsWith", "(I)Z"⟩, 41) := ⟨⟨by decide +kernel, by decide +kernel⟩, List.mem_of_getElem? (i := 770) (by decide +kernel), List.mem_of_getElem? (i := 1178) (by decide +kernel), List.mem_of_getElem? (i := 1179) (by decide +kernel)⟩
theorem lw_p53 : lw_okq (⟨"HostageKingsModel", "movedAs", "(I)I"⟩, 41) := ⟨⟨by decide +kernel, by decide +kernel⟩, List.mem_of_getElem? (i := 770) (by decide +kernel), List.mem_of_getElem? (i := 1182) (by decide +kernel), List.mem_of_getElem? (i := 1183) (by decide +kernel)⟩
theorem lw_p54 : lw_okq (⟨"HostageKingsModel", "moveAll", "(Z[I)V"⟩, 41) := ⟨⟨by decide +kernel, by decide +kernel⟩, List.mem_of_getElem? (i := 770) (by decide +kernel), List.mem_of_getElem? (i := 1198) (by decide +kernel), List.mem_of_getElem? (i := 1199) (by decide +kernel)⟩
theorem lw_p55 : lw_okq (⟨"HostageKingsModel", "moveRow", "([IIZ[I)V"⟩, 41) := ⟨⟨by decide +kernel, by decide +kernel⟩, List.mem_of_getElem? (i := 770) (by decide +kernel), List.mem_of_getElem? (i := 1202) (by decide +kernel), List.mem_of_getElem? (i := 1203) (by decide +kernel)⟩
theorem lw_p56 : lw_okq (⟨"HostageKingsModel", "advance", "()V"⟩, 41) := ⟨⟨by decide +kernel, by decide +kernel⟩, List.mem_of_getElem? (i := 770) (by decide +kernel), List.mem_of_getElem? (i := 1206) (by decide +kernel), List.mem_of_getElem? (i := 1207) (by decide +kernel)⟩
theorem lw_p57 : lw_okq (⟨"HostageKingsModel", "byteAt", "(I)I"⟩, 41) := ⟨⟨by decide +kernel, by decide +kernel⟩, List.mem_of_getElem? (i := 770) (by decide +kernel), List.mem_of_getElem? (i := 1210) (by decide +kernel), List.mem_of_getElem? (i := 1211) (by decide +kernel)⟩
theorem lw_p58 : lw_okq (⟨"HostageKingsModel", "wantItem", "()V"⟩, 41) := ⟨⟨by decide +kernel, by decide +kernel⟩, List.mem_of_getElem? (i := 770) (by decide +kernel), List.mem_of_getElem? (i := 1223) (by decide +kernel), List.mem_of_getElem? (i := 1224) (by decide +kernel)⟩
theorem lw_p59 : lw_okq (⟨"HostageKingsModel", "isWord", "(J)Z"⟩, 41) := ⟨⟨by decide +kernel, by decide +kernel⟩, List.mem_of_getElem? (i := 770) (by decide +kernel), List.mem_of_getElem? (i := 1228) (by decide +kernel), List.mem_of_getElem? (i := 1229) (by decide +kernel)⟩
theorem lw_p60 : lw_okq (⟨"HostageKingsModel", "wantKing", "()V"⟩, 41) := ⟨⟨by decide +kernel, by decide +kernel⟩, List.mem_of_getElem? (i := 770) (by decide +kernel), List.mem_of_getElem? (i := 1232) (by decide +kernel), List.mem_of_getElem? (i := 1233) (by decide +kernel)⟩
theorem lw_p61 : lw_okq (⟨"HostageKingsModel", "wantNumber", "(II)I"⟩, 41) := ⟨⟨by decide +kernel, by decide +kernel⟩, List.mem_of_getElem? (i := 770) (by decide +kernel), List.mem_of_getElem? (i := 1236) (by decide +kernel), List.mem_of_getElem? (i := 1237) (by decide +kernel)⟩
theorem lw_p62 : lw_okq (⟨"HostageKingsModel", "wantWord", "(J)V"⟩, 41) := ⟨⟨by decide +kernel, by decide +kernel⟩, List.mem_of_getElem? (i := 770) (by decide +kernel), List.mem_of_getElem? (i := 1241) (by decide +kernel), List.mem_of_getElem? (i := 1242) (by decide +kernel)⟩
theorem lw_p63 : lw_okq (⟨"HostageKingsModel", "wantTreaty", "()V"⟩, 41) := ⟨⟨by decide +kernel, by decide +kernel⟩, List.mem_of_getElem? (i := 770) (by decide +kernel), List.mem_of_getElem? (i := 1246) (by decide +kernel), List.mem_of_getElem? (i := 1247) (by decide +kernel)⟩
def lw_privs_4 : List (MethodName × Nat) := [(⟨"HostageKingsModel", "findsBehind", "(I)Z"⟩, 41), (⟨"HostageKingsModel", "looseWith", "(II)I"⟩, 41), (⟨"HostageKingsModel", "held", "(II)I"⟩, 41), (⟨"HostageKingsModel", "findWay", "()V"⟩, 41), (⟨"HostageKingsModel", "holdsWith", "(I)Z"⟩, 41), (⟨"HostageKingsModel", "movedAs", "(I)I"⟩, 41), (⟨"HostageKingsModel", "moveAll", "(Z[I)V"⟩, 41), (⟨"HostageKingsModel", "moveRow", "([IIZ[I)V"⟩, 41), (⟨"HostageKingsModel", "advance", "()V"⟩, 41), (⟨"HostageKingsModel", "byteAt", "(I)I"⟩, 41), (⟨"HostageKingsModel", "wantItem", "()V"⟩, 41), (⟨"HostageKingsModel", "isWord", "(J)Z"⟩, 41), (⟨"HostageKingsModel", "wantKing", "()V"⟩, 41), (⟨"HostageKingsModel", "wantNumber", "(II)I"⟩, 41), (⟨"HostageKingsModel", "wantWord", "(J)V"⟩, 41), (⟨"HostageKingsModel", "wantTreaty", "()V"⟩, 41)]
theorem lw_r4 : ∀ q ∈ lw_privs_4, lw_okq q := List.forall_mem_cons.mpr ⟨lw_p48, List.forall_mem_cons.mpr ⟨lw_p49, List.forall_mem_cons.mpr ⟨lw_p50, List.forall_mem_cons.mpr ⟨lw_p51, List.forall_mem_cons.mpr ⟨lw_p52, List.forall_mem_cons.mpr ⟨lw_p53, List.forall_mem_cons.mpr ⟨lw_p54, List.forall_mem_cons.mpr ⟨lw_p55, List.forall_mem_cons.mpr ⟨lw_p56, List.forall_mem_cons.mpr ⟨lw_p57, List.forall_mem_cons.mpr ⟨lw_p58, List.forall_mem_cons.mpr ⟨lw_p59, List.forall_mem_cons.mpr ⟨lw_p60, List.forall_mem_cons.mpr ⟨lw_p61, List.forall_mem_cons.mpr ⟨lw_p62, List.forall_mem_cons.mpr ⟨lw_p63, fun _ h => absurd h List.not_mem_nil⟩⟩⟩⟩⟩⟩⟩⟩⟩⟩⟩⟩⟩⟩⟩⟩
theorem lw_p64 : lw_okq (⟨"HostageKingsModel", "mayWant", "(JIII)I"⟩, 41) := ⟨⟨by decide +kernel, by decide +kernel⟩, List.mem_of_getElem? (i := 770) (by decide +kernel), List.mem_of_getElem? (i := 1253) (by decide +kernel), List.mem_of_getElem? (i := 1254) (by decide +kernel)⟩
theorem lw_p65 : lw_okq (⟨"HostageKingsModel", "kindHere", "()I"⟩, 41) := ⟨⟨by decide +kernel, by decide +kernel⟩, List.mem_of_getElem? (i := 770) (by decide +kernel), List.mem_of_getElem? (i := 1257) (by decide +kernel), List.mem_of_getElem? (i := 1258) (by decide +kernel)⟩
theorem lw_p66 : lw_okq (⟨"HostageKingsModel", "wantChild", "(I)V"⟩, 41) := ⟨⟨by decide +kernel, by decide +kernel⟩, List.mem_of_getElem? (i := 770) (by decide +kernel), List.mem_of_getElem? (i := 1267) (by decide +kernel), List.mem_of_getElem? (i := 1268) (by decide +kernel)⟩
theorem lw_p67 : lw_okq (⟨"HostageKingsModel", "isPart", "(III)Z"⟩, 41) := ⟨⟨by decide +kernel, by decide +kernel⟩, List.mem_of_getElem? (i := 770) (by decide +kernel), List.mem_of_getElem? (i := 1289) (by decide +kernel), List.mem_of_getElem? (i := 1290) (by decide +kernel)⟩
theorem lw_p68 : lw_okq (⟨"HostageKingsModel", "rolled", "(I)I"⟩, 41) := ⟨⟨by decide +kernel, by decide +kernel⟩, List.mem_of_getElem? (i := 770) (by decide +kernel), List.mem_of_getElem? (i := 1301) (by decide +kernel), List.mem_of_getElem? (i := 1302) (by decide +kernel)⟩
def lw_privs_5 : List (MethodName × Nat) := [(⟨"HostageKingsModel", "mayWant", "(JIII)I"⟩, 41), (⟨"HostageKingsModel", "kindHere", "()I"⟩, 41), (⟨"HostageKingsModel", "wantChild", "(I)V"⟩, 41), (⟨"HostageKingsModel", "isPart", "(III)Z"⟩, 41), (⟨"HostageKingsModel", "rolled", "(I)I"⟩, 41)]
theorem lw_r5 : ∀ q ∈ lw_privs_5, lw_okq q := List.forall_mem_cons.mpr ⟨lw_p64, List.forall_mem_cons.mpr ⟨lw_p65, List.forall_mem_cons.mpr ⟨lw_p66, List.forall_mem_cons.mpr ⟨lw_p67, List.forall_mem_cons.mpr ⟨lw_p68, fun _ h => absurd h List.not_mem_nil⟩⟩⟩⟩⟩
def lw_privs : List (MethodName × Nat) := lw_privs_1 ++ (lw_privs_2 ++ (lw_privs_3 ++ (lw_privs_4 ++ (lw_privs_5))))
def lw_tbl : List Cond := k2_sels lw_privs ++ tables_1
theorem lw_privs_ok : ∀ q ∈ lw_privs, lw_okq q := by
  show ∀ q ∈ lw_privs_1 ++ (lw_privs_2 ++ (lw_privs_3 ++ (lw_privs_4 ++ (lw_privs_5)))), lw_okq q
  exact List.forall_mem_append.mpr ⟨lw_r1, List.forall_mem_append.mpr ⟨lw_r2, List.forall_mem_append.mpr ⟨lw_r3, List.forall_mem_append.mpr ⟨lw_r4, lw_r5⟩⟩⟩⟩
theorem goodIn_r {big : List Cond} (ws : List Cond) (ps : List Nat) (hp : ws = ps.filterMap (fun i => big[i]?)) (h : ws.all goodWord = true) : GoodIn big ws := by
  intro w hw
  have h1 := List.all_eq_true.mp h w hw
  rw [hp] at hw
  obtain ⟨i, -, hi⟩ := List.mem_filterMap.mp hw
  have hm : w ∈ big := by first | exact List.mem_of_getElem? hi | exact List.getElem?_mem hi
  exact ⟨hm, good_of_word h1⟩
def RX0 : String := "HostageKings$Planner"
def TX0 : u_T := fun k => match k with
  | 0 => ("HostageKings$Planner", "trial", "LHostageKings$Realm;", true)
  | 1 => ("HostageKings$Planner", "looseKings", "I", false)
  | 2 => ("HostageKings$Planner", "first", "I", false)
  | _ => ("HostageKings$Planner", "second", "I", false)
def tyX0 : Nat → FieldType := fun k => match k with
  | 0 => .object "HostageKings$Realm"
  | 1 => .int
  | 2 => .int
  | _ => .int
abbrev wsX00 : List Cond := u_ws RX0 TX0 4
theorem nmX0 : ∀ a, a < 4 → ∀ b, b < 4 → a ≠ b → (TX0 a).2.1 ≠ (TX0 b).2.1 := by decide +kernel
theorem tyX0_ok : ∀ k, k < 4 → parseFieldDescriptor (TX0 k).2.2.1 = some (tyX0 k) := by decide +kernel
abbrev cX0_init : ByteArray := prog_2_method_1_code
def yX0_init : MethodName := ⟨RX0, "<init>", "()V"⟩
abbrev cX0_plan : ByteArray := prog_2_method_2_code
def yX0_plan : MethodName := ⟨RX0, "plan", "(LHostageKings$Realm;)I"⟩
abbrev cX0_findOne : ByteArray := prog_2_method_3_code
def yX0_findOne : MethodName := ⟨RX0, "findOne", "(LHostageKings$Realm;)Z"⟩
abbrev cX0_findTwo : ByteArray := prog_2_method_4_code
def yX0_findTwo : MethodName := ⟨RX0, "findTwo", "(LHostageKings$Realm;)Z"⟩
abbrev cX0_findGreater : ByteArray := prog_2_method_5_code
def yX0_findGreater : MethodName := ⟨RX0, "findGreater", "(LHostageKings$Realm;I)Z"⟩
abbrev cX0_isMove : ByteArray := prog_2_method_6_code
def yX0_isMove : MethodName := ⟨RX0, "isMove", "(LHostageKings$Realm;I)Z"⟩
abbrev cX0_mayMend : ByteArray := prog_2_method_7_code
def yX0_mayMend : MethodName := ⟨RX0, "mayMend", "(II)Z"⟩
abbrev cX0_allHold : ByteArray := prog_2_method_8_code
def yX0_allHold : MethodName := ⟨RX0, "allHold", "(II)Z"⟩
def RX1 : String := "HostageKings$Realm"
def TX1 : u_T := fun k => match k with
  | 0 => ("HostageKings$Realm", "fears", "[I", true)
  | 1 => ("HostageKings$Realm", "kinds", "[I", true)
  | 2 => ("HostageKings$Realm", "fathers", "[I", true)
  | 3 => ("HostageKings$Realm", "holders", "[I", true)
  | 4 => ("HostageKings$Realm", "worths", "[I", true)
  | 5 => ("HostageKings$Realm", "bys", "[I", true)
  | 6 => ("HostageKings$Realm", "tos", "[I", true)
  | 7 => ("HostageKings$Realm", "gains", "[I", true)
  | 8 => ("HostageKings$Realm", "untils", "[I", true)
  | 9 => ("HostageKings$Realm", "pledges", "[I", true)
  | 10 => ("HostageKings$Realm", "children", "I", false)
  | 11 => ("HostageKings$Realm", "treaties", "I", false)
  | 12 => ("HostageKings$Realm", "deadSet", "I", false)
  | 13 => ("HostageKings$Realm", "brokenSet", "I", false)
  | _ => ("HostageKings$Realm", "month", "I", false)
def tyX1 : Nat → FieldType := fun k => match k with
  | 0 => .array .int
  | 1 => .array .int
  | 2 => .array .int
  | 3 => .array .int
  | 4 => .array .int
  | 5 => .array .int
  | 6 => .array .int
  | 7 => .array .int
  | 8 => .array .int
  | 9 => .array .int
  | 10 => .int
  | 11 => .int
  | 12 => .int
  | 13 => .int
  | _ => .int
abbrev wsX10 : List Cond := u_ws RX1 TX1 15
theorem nmX1 : ∀ a, a < 15 → ∀ b, b < 15 → a ≠ b → (TX1 a).2.1 ≠ (TX1 b).2.1 := by decide +kernel
theorem tyX1_ok : ∀ k, k < 15 → parseFieldDescriptor (TX1 k).2.2.1 = some (tyX1 k) := by decide +kernel
abbrev cX1_init : ByteArray := prog_3_method_1_code
def yX1_init : MethodName := ⟨RX1, "<init>", "()V"⟩
abbrev cX1_become : ByteArray := prog_3_method_2_code
def yX1_become : MethodName := ⟨RX1, "become", "(LHostageKings$Realm;)V"⟩
abbrev cX1_addChild : ByteArray := prog_3_method_3_code
def yX1_addChild : MethodName := ⟨RX1, "addChild", "(IIII)I"⟩
abbrev cX1_addTreaty : ByteArray := prog_3_method_4_code
def yX1_addTreaty : MethodName := ⟨RX1, "addTreaty", "(IIII)I"⟩
abbrev cX1_isDead : ByteArray := prog_3_method_5_code
def yX1_isDead : MethodName := ⟨RX1, "isDead", "(I)Z"⟩
abbrev cX1_isBroken : ByteArray := prog_3_method_6_code
def yX1_isBroken : MethodName := ⟨RX1, "isBroken", "(I)Z"⟩
abbrev cX1_isInForce : ByteArray := prog_3_method_7_code
def yX1_isInForce : MethodName := ⟨RX1, "isInForce", "(I)Z"⟩
abbrev cX1_lossOf : ByteArray := prog_3_method_8_code
def yX1_lossOf : MethodName := ⟨RX1, "lossOf", "(I)I"⟩
abbrev cX1_lossBeside : ByteArray := prog_3_method_9_code
def yX1_lossBeside : MethodName := ⟨RX1, "lossBeside", "(II)I"⟩
abbrev cX1_twinsAtHome : ByteArray := prog_3_method_10_code
def yX1_twinsAtHome : MethodName := ⟨RX1, "twinsAtHome", "(I)I"⟩
abbrev cX1_rolledHolder : ByteArray := prog_3_method_11_code
def yX1_rolledHolder : MethodName := ⟨RX1, "rolledHolder", "(I)I"⟩
abbrev cX1_living : ByteArray := prog_3_method_12_code
def yX1_living : MethodName := ⟨RX1, "living", "()I"⟩
abbrev cX1_livingAtHome : ByteArray := prog_3_method_13_code
def yX1_livingAtHome : MethodName := ⟨RX1, "livingAtHome", "()I"⟩
abbrev cX1_childrenOf : ByteArray := prog_3_method_14_code
def yX1_childrenOf : MethodName := ⟨RX1, "childrenOf", "(I)I"⟩
abbrev cX1_heldFromOthers : ByteArray := prog_3_method_15_code
def yX1_heldFromOthers : MethodName := ⟨RX1, "heldFromOthers", "(I)I"⟩
abbrev cX1_heldBy : ByteArray := prog_3_method_16_code
def yX1_heldBy : MethodName := ⟨RX1, "heldBy", "(II)I"⟩
abbrev cX1_pledgeHeld : ByteArray := prog_3_method_17_code
def yX1_pledgeHeld : MethodName := ⟨RX1, "pledgeHeld", "(II)I"⟩
abbrev cX1_lossesAbroad : ByteArray := prog_3_method_18_code
def yX1_lossesAbroad : MethodName := ⟨RX1, "lossesAbroad", "()I"⟩
abbrev cX1_wordsInForce : ByteArray := prog_3_method_19_code
def yX1_wordsInForce : MethodName := ⟨RX1, "wordsInForce", "()I"⟩
abbrev cX1_wordsOf : ByteArray := prog_3_method_20_code
def yX1_wordsOf : MethodName := ⟨RX1, "wordsOf", "(I)I"⟩
abbrev cX1_hasWord : ByteArray := prog_3_method_21_code
def yX1_hasWord : MethodName := ⟨RX1, "hasWord", "(II)Z"⟩
abbrev cX1_easeOf : ByteArray := prog_3_method_22_code
def yX1_easeOf : MethodName := ⟨RX1, "easeOf", "(I)I"⟩
abbrev cX1_looseWords : ByteArray := prog_3_method_23_code
def yX1_looseWords : MethodName := ⟨RX1, "looseWords", "()I"⟩
abbrev cX1_looseWordsOf : ByteArray := prog_3_method_24_code
def yX1_looseWordsOf : MethodName := ⟨RX1, "looseWordsOf", "(I)I"⟩
abbrev cX1_pactPays : ByteArray := prog_3_method_25_code
def yX1_pactPays : MethodName := ⟨RX1, "pactPays", "(II)Z"⟩
abbrev cX1_isOneOf : ByteArray := prog_3_method_26_code
def yX1_isOneOf : MethodName := ⟨RX1, "isOneOf", "(III)Z"⟩
abbrev cX1_breakWords : ByteArray := prog_3_method_27_code
def yX1_breakWords : MethodName := ⟨RX1, "breakWords", "(I)V"⟩
abbrev cX1_bringDown : ByteArray := prog_3_method_28_code
def yX1_bringDown : MethodName := ⟨RX1, "bringDown", "()I"⟩
abbrev cX1_pass : ByteArray := prog_3_method_29_code
def yX1_pass : MethodName := ⟨RX1, "pass", "(I)V"⟩
def RX2 : String := "HostageKings$Route"
def TX2 : u_T := fun k => match k with
  | 0 => ("HostageKings$Route", "trial", "LHostageKings$Realm;", true)
  | 1 => ("HostageKings$Route", "movers", "[I", true)
  | 2 => ("HostageKings$Route", "aims", "[I", true)
  | 3 => ("HostageKings$Route", "leadsOn", "[Z", true)
  | 4 => ("HostageKings$Route", "order", "[I", true)
  | _ => ("HostageKings$Route", "moved", "I", false)
def tyX2 : Nat → FieldType := fun k => match k with
  | 0 => .object "HostageKings$Realm"
  | 1 => .array .int
  | 2 => .array .int
  | 3 => .array .boolean
  | 4 => .array .int
  | _ => .int
abbrev wsX20 : List Cond := u_ws RX2 TX2 6
theorem nmX2 : ∀ a, a < 6 → ∀ b, b < 6 → a ≠ b → (TX2 a).2.1 ≠ (TX2 b).2.1 := by decide +kernel
theorem tyX2_ok : ∀ k, k < 6 → parseFieldDescriptor (TX2 k).2.2.1 = some (tyX2 k) := by decide +kernel
abbrev cX2_init : ByteArray := prog_4_method_1_code
def yX2_init : MethodName := ⟨RX2, "<init>", "()V"⟩
abbrev cX2_aim : ByteArray := prog_4_method_2_code
def yX2_aim : MethodName := ⟨RX2, "aim", "(LHostageKings$Realm;LHostageKings$Sheet;)V"⟩
abbrev cX2_movesDead : ByteArray := prog_4_method_3_code
def yX2_movesDead : MethodName := ⟨RX2, "movesDead", "(LHostageKings$Realm;)Z"⟩
abbrev cX2_find : ByteArray := prog_4_method_4_code
def yX2_find : MethodName := ⟨RX2, "find", "(LHostageKings$Realm;)Z"⟩
abbrev cX2_firstStep : ByteArray := prog_4_method_5_code
def yX2_firstStep : MethodName := ⟨RX2, "firstStep", "(I)I"⟩
abbrev cX2_holdsAt : ByteArray := prog_4_method_6_code
def yX2_holdsAt : MethodName := ⟨RX2, "holdsAt", "(LHostageKings$Realm;I)Z"⟩
def RX3 : String := "HostageKings$Sheet"
def TX3 : u_T := fun k => match k with
  | 0 => ("HostageKings$Sheet", "numbers", "[J", true)
  | 1 => ("HostageKings$Sheet", "bits", "I", false)
  | _ => ("HostageKings$Sheet", "size", "I", false)
def tyX3 : Nat → FieldType := fun k => match k with
  | 0 => .array .long
  | 1 => .int
  | _ => .int
abbrev wsX30 : List Cond := u_ws RX3 TX3 3
theorem nmX3 : ∀ a, a < 3 → ∀ b, b < 3 → a ≠ b → (TX3 a).2.1 ≠ (TX3 b).2.1 := by decide +kernel
theorem tyX3_ok : ∀ k, k < 3 → parseFieldDescriptor (TX3 k).2.2.1 = some (tyX3 k) := by decide +kernel
abbrev cX3_init : ByteArray := prog_5_method_1_code
def yX3_init : MethodName := ⟨RX3, "<init>", "()V"⟩
abbrev cX3_isMissing : ByteArray := prog_5_method_2_code
def yX3_isMissing : MethodName := ⟨RX3, "isMissing", "()Z"⟩
abbrev cX3_lay : ByteArray := prog_5_method_3_code
def yX3_lay : MethodName := ⟨RX3, "lay", "(II)V"⟩
abbrev cX3_put : ByteArray := prog_5_method_4_code
def yX3_put : MethodName := ⟨RX3, "put", "(IJ)V"⟩
abbrev cX3_hasRow : ByteArray := prog_5_method_5_code
def yX3_hasRow : MethodName := ⟨RX3, "hasRow", "(II)Z"⟩
abbrev cX3_holderAt : ByteArray := prog_5_method_6_code
def yX3_holderAt : MethodName := ⟨RX3, "holderAt", "(I)I"⟩
def RX4 : String := "HostageKings$Tape"
def TX4 : u_T := fun k => match k with
  | 0 => ("HostageKings$Tape", "bytes", "[I", true)
  | 1 => ("HostageKings$Tape", "size", "I", false)
  | 2 => ("HostageKings$Tape", "token", "I", false)
  | 3 => ("HostageKings$Tape", "start", "I", false)
  | 4 => ("HostageKings$Tape", "end", "I", false)
  | _ => ("HostageKings$Tape", "value", "I", false)
def tyX4 : Nat → FieldType := fun k => match k with
  | 0 => .array .int
  | 1 => .int
  | 2 => .int
  | 3 => .int
  | 4 => .int
  | _ => .int
abbrev wsX40 : List Cond := u_ws RX4 TX4 6
theorem nmX4 : ∀ a, a < 6 → ∀ b, b < 6 → a ≠ b → (TX4 a).2.1 ≠ (TX4 b).2.1 := by decide +kernel
theorem tyX4_ok : ∀ k, k < 6 → parseFieldDescriptor (TX4 k).2.2.1 = some (tyX4 k) := by decide +kernel
abbrev cX4_init : ByteArray := prog_6_method_1_code
def yX4_init : MethodName := ⟨RX4, "<init>", "()V"⟩
abbrev cX4_add : ByteArray := prog_6_method_2_code
def yX4_add : MethodName := ⟨RX4, "add", "(I)V"⟩
abbrev cX4_readInto : ByteArray := prog_6_method_3_code
def yX4_readInto : MethodName := ⟨RX4, "readInto", "(LHostageKings$Realm;)I"⟩
abbrev cX4_readItem : ByteArray := prog_6_method_4_code
def yX4_readItem : MethodName := ⟨RX4, "readItem", "(LHostageKings$Realm;)Z"⟩
abbrev cX4_readFear : ByteArray := prog_6_method_5_code
def yX4_readFear : MethodName := ⟨RX4, "readFear", "(LHostageKings$Realm;)Z"⟩
abbrev cX4_readChild : ByteArray := prog_6_method_6_code
def yX4_readChild : MethodName := ⟨RX4, "readChild", "(LHostageKings$Realm;I)Z"⟩
abbrev cX4_readTreaty : ByteArray := prog_6_method_7_code
def yX4_readTreaty : MethodName := ⟨RX4, "readTreaty", "(LHostageKings$Realm;)Z"⟩
abbrev cX4_takeWord : ByteArray := prog_6_method_8_code
def yX4_takeWord : MethodName := ⟨RX4, "takeWord", "(Ljava/lang/String;)Z"⟩
abbrev cX4_takeNumber : ByteArray := prog_6_method_9_code
def yX4_takeNumber : MethodName := ⟨RX4, "takeNumber", "(I)I"⟩
abbrev cX4_isWord : ByteArray := prog_6_method_10_code
def yX4_isWord : MethodName := ⟨RX4, "isWord", "(Ljava/lang/String;)Z"⟩
abbrev cX4_advance : ByteArray := prog_6_method_11_code
def yX4_advance : MethodName := ⟨RX4, "advance", "()V"⟩
abbrev cX4_isLetter : ByteArray := prog_6_method_12_code
def yX4_isLetter : MethodName := ⟨RX4, "isLetter", "(I)Z"⟩
abbrev cX4_isDigit : ByteArray := prog_6_method_13_code
def yX4_isDigit : MethodName := ⟨RX4, "isDigit", "(I)Z"⟩
abbrev cX4_nameOfKind : ByteArray := prog_6_method_14_code
def yX4_nameOfKind : MethodName := ⟨RX4, "nameOfKind", "(I)Ljava/lang/String;"⟩
def RX5 : String := "HostageKings"
def TX5 : u_T := fun k => match k with
  | 0 => ("HostageKings", "realm", "LHostageKings$Realm;", true)
  | 1 => ("HostageKings", "kept", "LHostageKings$Realm;", true)
  | 2 => ("HostageKings", "trial", "LHostageKings$Realm;", true)
  | 3 => ("HostageKings", "planner", "LHostageKings$Planner;", true)
  | 4 => ("HostageKings", "route", "LHostageKings$Route;", true)
  | 5 => ("HostageKings", "tape", "LHostageKings$Tape;", true)
  | 6 => ("HostageKings", "sheets", "[LHostageKings$Sheet;", true)
  | 7 => ("HostageKings", "answered", "[I", true)
  | _ => ("HostageKings", "isKept", "Z", false)
def tyX5 : Nat → FieldType := fun k => match k with
  | 0 => .object "HostageKings$Realm"
  | 1 => .object "HostageKings$Realm"
  | 2 => .object "HostageKings$Realm"
  | 3 => .object "HostageKings$Planner"
  | 4 => .object "HostageKings$Route"
  | 5 => .object "HostageKings$Tape"
  | 6 => .array (.object "HostageKings$Sheet")
  | 7 => .array .int
  | _ => .boolean
abbrev wsX50 : List Cond := u_ws RX5 TX5 9
theorem nmX5 : ∀ a, a < 9 → ∀ b, b < 9 → a ≠ b → (TX5 a).2.1 ≠ (TX5 b).2.1 := by decide +kernel
theorem tyX5_ok : ∀ k, k < 9 → parseFieldDescriptor (TX5 k).2.2.1 = some (tyX5 k) := by decide +kernel
abbrev cX5_init : ByteArray := prog_1_method_1_code
def yX5_init : MethodName := ⟨RX5, "<init>", "()V"⟩
abbrev cX5_fear : ByteArray := prog_1_method_2_code
def yX5_fear : MethodName := ⟨RX5, "fear", "(II)I"⟩
abbrev cX5_kingOf : ByteArray := prog_1_method_3_code
def yX5_kingOf : MethodName := ⟨RX5, "kingOf", "(II)I"⟩
abbrev cX5_child : ByteArray := prog_1_method_4_code
def yX5_child : MethodName := ⟨RX5, "child", "(III)I"⟩
abbrev cX5_of : ByteArray := prog_1_method_5_code
def yX5_of : MethodName := ⟨RX5, "of", "(II)I"⟩
abbrev cX5_move : ByteArray := prog_1_method_6_code
def yX5_move : MethodName := ⟨RX5, "move", "(II)I"⟩
abbrev cX5_worth : ByteArray := prog_1_method_7_code
def yX5_worth : MethodName := ⟨RX5, "worth", "(II)I"⟩
abbrev cX5_turn : ByteArray := prog_1_method_8_code
def yX5_turn : MethodName := ⟨RX5, "turn", "(II)I"⟩
abbrev cX5_as : ByteArray := prog_1_method_9_code
def yX5_as : MethodName := ⟨RX5, "as", "(II)I"⟩
abbrev cX5_dies : ByteArray := prog_1_method_10_code
def yX5_dies : MethodName := ⟨RX5, "dies", "(I)I"⟩
abbrev cX5_swap : ByteArray := prog_1_method_11_code
def yX5_swap : MethodName := ⟨RX5, "swap", "(II)I"⟩
abbrev cX5_treaty : ByteArray := prog_1_method_12_code
def yX5_treaty : MethodName := ⟨RX5, "treaty", "(IIII)I"⟩
abbrev cX5_treatyOf : ByteArray := prog_1_method_13_code
def yX5_treatyOf : MethodName := ⟨RX5, "treatyOf", "(II)I"⟩
abbrev cX5_gain : ByteArray := prog_1_method_14_code
def yX5_gain : MethodName := ⟨RX5, "gain", "(II)I"⟩
abbrev cX5_pledge : ByteArray := prog_1_method_15_code
def yX5_pledge : MethodName := ⟨RX5, "pledge", "(II)I"⟩
abbrev cX5_ease : ByteArray := prog_1_method_16_code
def yX5_ease : MethodName := ⟨RX5, "ease", "(I)I"⟩
abbrev cX5_loose : ByteArray := prog_1_method_17_code
def yX5_loose : MethodName := ⟨RX5, "loose", "()I"⟩
abbrev cX5_pact : ByteArray := prog_1_method_18_code
def yX5_pact : MethodName := ⟨RX5, "pact", "(II)I"⟩
abbrev cX5_plot : ByteArray := prog_1_method_19_code
def yX5_plot : MethodName := ⟨RX5, "plot", "()I"⟩
abbrev cX5_fall : ByteArray := prog_1_method_20_code
def yX5_fall : MethodName := ⟨RX5, "fall", "()I"⟩
abbrev cX5_wouldFall : ByteArray := prog_1_method_21_code
def yX5_wouldFall : MethodName := ⟨RX5, "wouldFall", "(I)I"⟩
abbrev cX5_pulls : ByteArray := prog_1_method_22_code
def yX5_pulls : MethodName := ⟨RX5, "pulls", "(I)I"⟩
abbrev cX5_keystone : ByteArray := prog_1_method_23_code
def yX5_keystone : MethodName := ⟨RX5, "keystone", "()I"⟩
abbrev cX5_months : ByteArray := prog_1_method_24_code
def yX5_months : MethodName := ⟨RX5, "months", "(I)I"⟩
abbrev cX5_now : ByteArray := prog_1_method_25_code
def yX5_now : MethodName := ⟨RX5, "now", "(I)I"⟩
abbrev cX5_on : ByteArray := prog_1_method_26_code
def yX5_on : MethodName := ⟨RX5, "on", "(I)I"⟩
abbrev cX5_moves : ByteArray := prog_1_method_27_code
def yX5_moves : MethodName := ⟨RX5, "moves", "(I)I"⟩
abbrev cX5_best : ByteArray := prog_1_method_28_code
def yX5_best : MethodName := ⟨RX5, "best", "(I)I"⟩
abbrev cX5_key : ByteArray := prog_1_method_29_code
def yX5_key : MethodName := ⟨RX5, "key", "(I)I"⟩
abbrev cX5_toFree : ByteArray := prog_1_method_30_code
def yX5_toFree : MethodName := ⟨RX5, "toFree", "(II)I"⟩
abbrev cX5_way : ByteArray := prog_1_method_31_code
def yX5_way : MethodName := ⟨RX5, "way", "(II)I"⟩
abbrev cX5_feed : ByteArray := prog_1_method_32_code
def yX5_feed : MethodName := ⟨RX5, "feed", "(II)I"⟩
abbrev cX5_wipe : ByteArray := prog_1_method_33_code
def yX5_wipe : MethodName := ⟨RX5, "wipe", "()I"⟩
abbrev cX5_court : ByteArray := prog_1_method_34_code
def yX5_court : MethodName := ⟨RX5, "court", "()I"⟩
abbrev cX5_sheet : ByteArray := prog_1_method_35_code
def yX5_sheet : MethodName := ⟨RX5, "sheet", "(III)I"⟩
abbrev cX5_write : ByteArray := prog_1_method_36_code
def yX5_write : MethodName := ⟨RX5, "write", "(IIJ)J"⟩
abbrev cX5_copy : ByteArray := prog_1_method_37_code
def yX5_copy : MethodName := ⟨RX5, "copy", "(IIIII)I"⟩
abbrev cX5_lays : ByteArray := prog_1_method_38_code
def yX5_lays : MethodName := ⟨RX5, "lays", "(I)I"⟩
abbrev cX5_roll : ByteArray := prog_1_method_39_code
def yX5_roll : MethodName := ⟨RX5, "roll", "(I)I"⟩
abbrev cX5_read : ByteArray := prog_1_method_40_code
def yX5_read : MethodName := ⟨RX5, "read", "(I)I"⟩
abbrev cX5_image : ByteArray := prog_1_method_41_code
def yX5_image : MethodName := ⟨RX5, "image", "()I"⟩
abbrev cX5_undo : ByteArray := prog_1_method_42_code
def yX5_undo : MethodName := ⟨RX5, "undo", "()I"⟩
abbrev cX5_tear : ByteArray := prog_1_method_43_code
def yX5_tear : MethodName := ⟨RX5, "tear", "()I"⟩
abbrev cX5_count : ByteArray := prog_1_method_44_code
def yX5_count : MethodName := ⟨RX5, "count", "(I)I"⟩
abbrev cX5_status : ByteArray := prog_1_method_45_code
def yX5_status : MethodName := ⟨RX5, "status", "(I)I"⟩
abbrev cX5_finding : ByteArray := prog_1_method_46_code
def yX5_finding : MethodName := ⟨RX5, "finding", "(I)I"⟩
abbrev cX5_isWithin : ByteArray := prog_1_method_47_code
def yX5_isWithin : MethodName := ⟨RX5, "isWithin", "(II)Z"⟩
abbrev cX5_isKing : ByteArray := prog_1_method_48_code
def yX5_isKing : MethodName := ⟨RX5, "isKing", "(I)Z"⟩
abbrev cX5_areTwoKings : ByteArray := prog_1_method_49_code
def yX5_areTwoKings : MethodName := ⟨RX5, "areTwoKings", "(II)Z"⟩
abbrev cX5_isKind : ByteArray := prog_1_method_50_code
def yX5_isKind : MethodName := ⟨RX5, "isKind", "(I)Z"⟩
abbrev cX5_isChild : ByteArray := prog_1_method_51_code
def yX5_isChild : MethodName := ⟨RX5, "isChild", "(I)Z"⟩
abbrev cX5_isTreaty : ByteArray := prog_1_method_52_code
def yX5_isTreaty : MethodName := ⟨RX5, "isTreaty", "(I)Z"⟩
abbrev cX5_isKindUnder : ByteArray := prog_1_method_53_code
def yX5_isKindUnder : MethodName := ⟨RX5, "isKindUnder", "(II)Z"⟩
abbrev cX5_sheetAt : ByteArray := prog_1_method_54_code
def yX5_sheetAt : MethodName := ⟨RX5, "sheetAt", "(I)LHostageKings$Sheet;"⟩
abbrev cX5_broughtDownWith : ByteArray := prog_1_method_55_code
def yX5_broughtDownWith : MethodName := ⟨RX5, "broughtDownWith", "(I)I"⟩
def RX6 : String := "HostageKingsModel"
def TX6 : u_T := fun k => match k with
  | 0 => ("HostageKingsModel", "fears", "[I", true)
  | 1 => ("HostageKingsModel", "children", "I", false)
  | 2 => ("HostageKingsModel", "kinds", "[I", true)
  | 3 => ("HostageKingsModel", "fathers", "[I", true)
  | 4 => ("HostageKingsModel", "worths", "[I", true)
  | 5 => ("HostageKingsModel", "treaties", "I", false)
  | 6 => ("HostageKingsModel", "bys", "[I", true)
  | 7 => ("HostageKingsModel", "tos", "[I", true)
  | 8 => ("HostageKingsModel", "gains", "[I", true)
  | 9 => ("HostageKingsModel", "untils", "[I", true)
  | 10 => ("HostageKingsModel", "row", "[I", true)
  | 11 => ("HostageKingsModel", "at", "I", false)
  | 12 => ("HostageKingsModel", "found", "[I", true)
  | 13 => ("HostageKingsModel", "pledges", "[I", true)
  | 14 => ("HostageKingsModel", "rounds", "I", false)
  | 15 => ("HostageKingsModel", "firstRound", "I", false)
  | 16 => ("HostageKingsModel", "allRounds", "I", false)
  | 17 => ("HostageKingsModel", "planMany", "I", false)
  | 18 => ("HostageKingsModel", "planFirst", "I", false)
  | 19 => ("HostageKingsModel", "planSecond", "I", false)
  | 20 => ("HostageKingsModel", "moved", "[I", true)
  | 21 => ("HostageKingsModel", "movedTo8", "[I", true)
  | 22 => ("HostageKingsModel", "goesOn", "[Z", true)
  | 23 => ("HostageKingsModel", "movedMany", "I", false)
  | 24 => ("HostageKingsModel", "tape", "[I", true)
  | 25 => ("HostageKingsModel", "tapeMany", "I", false)
  | 26 => ("HostageKingsModel", "sort", "I", false)
  | 27 => ("HostageKingsModel", "begins", "I", false)
  | 28 => ("HostageKingsModel", "tokenEnds", "I", false)
  | 29 => ("HostageKingsModel", "word", "J", false)
  | 30 => ("HostageKingsModel", "value", "I", false)
  | 31 => ("HostageKingsModel", "good", "Z", false)
  | 32 => ("HostageKingsModel", "bitsOf", "[I", true)
  | 33 => ("HostageKingsModel", "sizeOf", "[I", true)
  | 34 => ("HostageKingsModel", "sheets", "[J", true)
  | 35 => ("HostageKingsModel", "lent", "[J", true)
  | 36 => ("HostageKingsModel", "image", "[I", true)
  | 37 => ("HostageKingsModel", "before", "[I", true)
  | 38 => ("HostageKingsModel", "isKept", "Z", false)
  | 39 => ("HostageKingsModel", "movedTo", "I", false)
  | _ => ("HostageKingsModel", "single", "[I", true)
def tyX6 : Nat → FieldType := fun k => match k with
  | 0 => .array .int
  | 1 => .int
  | 2 => .array .int
  | 3 => .array .int
  | 4 => .array .int
  | 5 => .int
  | 6 => .array .int
  | 7 => .array .int
  | 8 => .array .int
  | 9 => .array .int
  | 10 => .array .int
  | 11 => .int
  | 12 => .array .int
  | 13 => .array .int
  | 14 => .int
  | 15 => .int
  | 16 => .int
  | 17 => .int
  | 18 => .int
  | 19 => .int
  | 20 => .array .int
  | 21 => .array .int
  | 22 => .array .boolean
  | 23 => .int
  | 24 => .array .int
  | 25 => .int
  | 26 => .int
  | 27 => .int
  | 28 => .int
  | 29 => .long
  | 30 => .int
  | 31 => .boolean
  | 32 => .array .int
  | 33 => .array .int
  | 34 => .array .long
  | 35 => .array .long
  | 36 => .array .int
  | 37 => .array .int
  | 38 => .boolean
  | 39 => .int
  | _ => .array .int
abbrev wsX60 : List Cond := u_ws RX6 TX6 41
theorem nmX6 : ∀ a, a < 41 → ∀ b, b < 41 → a ≠ b → (TX6 a).2.1 ≠ (TX6 b).2.1 := by decide +kernel
theorem tyX6_ok : ∀ k, k < 41 → parseFieldDescriptor (TX6 k).2.2.1 = some (tyX6 k) := by decide +kernel
abbrev cX6_init : ByteArray := prog_8_method_1_code
def yX6_init : MethodName := ⟨RX6, "<init>", "()V"⟩
abbrev cX6_in : ByteArray := prog_8_method_2_code
def yX6_in : MethodName := ⟨RX6, "in", "(III)Z"⟩
abbrev cX6_finds : ByteArray := prog_8_method_3_code
def yX6_finds : MethodName := ⟨RX6, "finds", "(I)I"⟩
abbrev cX6_isKing : ByteArray := prog_8_method_4_code
def yX6_isKing : MethodName := ⟨RX6, "isKing", "(I)Z"⟩
abbrev cX6_isChild : ByteArray := prog_8_method_5_code
def yX6_isChild : MethodName := ⟨RX6, "isChild", "(I)Z"⟩
abbrev cX6_isKind : ByteArray := prog_8_method_6_code
def yX6_isKind : MethodName := ⟨RX6, "isKind", "(I)Z"⟩
abbrev cX6_isTold : ByteArray := prog_8_method_7_code
def yX6_isTold : MethodName := ⟨RX6, "isTold", "(I)Z"⟩
abbrev cX6_isLong : ByteArray := prog_8_method_8_code
def yX6_isLong : MethodName := ⟨RX6, "isLong", "(I)Z"⟩
abbrev cX6_isTreaty : ByteArray := prog_8_method_9_code
def yX6_isTreaty : MethodName := ⟨RX6, "isTreaty", "(I)Z"⟩
abbrev cX6_has : ByteArray := prog_8_method_10_code
def yX6_has : MethodName := ⟨RX6, "has", "(II)Z"⟩
abbrev cX6_ones : ByteArray := prog_8_method_11_code
def yX6_ones : MethodName := ⟨RX6, "ones", "(I)I"⟩
abbrev cX6_lives : ByteArray := prog_8_method_12_code
def yX6_lives : MethodName := ⟨RX6, "lives", "(I)Z"⟩
abbrev cX6_holder : ByteArray := prog_8_method_13_code
def yX6_holder : MethodName := ⟨RX6, "holder", "(I)I"⟩
abbrev cX6_isHome : ByteArray := prog_8_method_14_code
def yX6_isHome : MethodName := ⟨RX6, "isHome", "(I)Z"⟩
abbrev cX6_isInForce : ByteArray := prog_8_method_15_code
def yX6_isInForce : MethodName := ⟨RX6, "isInForce", "(I)Z"⟩
abbrev cX6_hasTwinAtHome : ByteArray := prog_8_method_16_code
def yX6_hasTwinAtHome : MethodName := ⟨RX6, "hasTwinAtHome", "(I)Z"⟩
abbrev cX6_loss : ByteArray := prog_8_method_17_code
def yX6_loss : MethodName := ⟨RX6, "loss", "(I)I"⟩
abbrev cX6_findPledges : ByteArray := prog_8_method_18_code
def yX6_findPledges : MethodName := ⟨RX6, "findPledges", "()V"⟩
abbrev cX6_easeOf : ByteArray := prog_8_method_19_code
def yX6_easeOf : MethodName := ⟨RX6, "easeOf", "(I)I"⟩
abbrev cX6_looseSet : ByteArray := prog_8_method_20_code
def yX6_looseSet : MethodName := ⟨RX6, "looseSet", "()I"⟩
abbrev cX6_forceSet : ByteArray := prog_8_method_21_code
def yX6_forceSet : MethodName := ⟨RX6, "forceSet", "()I"⟩
abbrev cX6_held : ByteArray := prog_8_method_22_code
def yX6_held : MethodName := ⟨RX6, "held", "(II)I"⟩
abbrev cX6_deadSet : ByteArray := prog_8_method_23_code
def yX6_deadSet : MethodName := ⟨RX6, "deadSet", "()I"⟩
abbrev cX6_fear : ByteArray := prog_8_method_24_code
def yX6_fear : MethodName := ⟨RX6, "fear", "(II)I"⟩
abbrev cX6_kingOf : ByteArray := prog_8_method_25_code
def yX6_kingOf : MethodName := ⟨RX6, "kingOf", "(II)I"⟩
abbrev cX6_addChild : ByteArray := prog_8_method_26_code
def yX6_addChild : MethodName := ⟨RX6, "addChild", "(IIII)V"⟩
abbrev cX6_child : ByteArray := prog_8_method_27_code
def yX6_child : MethodName := ⟨RX6, "child", "(III)I"⟩
abbrev cX6_of : ByteArray := prog_8_method_28_code
def yX6_of : MethodName := ⟨RX6, "of", "(II)I"⟩
abbrev cX6_move : ByteArray := prog_8_method_29_code
def yX6_move : MethodName := ⟨RX6, "move", "(II)I"⟩
abbrev cX6_worth : ByteArray := prog_8_method_30_code
def yX6_worth : MethodName := ⟨RX6, "worth", "(II)I"⟩
abbrev cX6_turn : ByteArray := prog_8_method_31_code
def yX6_turn : MethodName := ⟨RX6, "turn", "(II)I"⟩
abbrev cX6_isUnder : ByteArray := prog_8_method_32_code
def yX6_isUnder : MethodName := ⟨RX6, "isUnder", "(II)Z"⟩
abbrev cX6_as : ByteArray := prog_8_method_33_code
def yX6_as : MethodName := ⟨RX6, "as", "(II)I"⟩
abbrev cX6_dies : ByteArray := prog_8_method_34_code
def yX6_dies : MethodName := ⟨RX6, "dies", "(I)I"⟩
abbrev cX6_swap : ByteArray := prog_8_method_35_code
def yX6_swap : MethodName := ⟨RX6, "swap", "(II)I"⟩
abbrev cX6_addTreaty : ByteArray := prog_8_method_36_code
def yX6_addTreaty : MethodName := ⟨RX6, "addTreaty", "(IIII)V"⟩
abbrev cX6_treaty : ByteArray := prog_8_method_37_code
def yX6_treaty : MethodName := ⟨RX6, "treaty", "(IIII)I"⟩
abbrev cX6_treatyOf : ByteArray := prog_8_method_38_code
def yX6_treatyOf : MethodName := ⟨RX6, "treatyOf", "(II)I"⟩
abbrev cX6_gain : ByteArray := prog_8_method_39_code
def yX6_gain : MethodName := ⟨RX6, "gain", "(II)I"⟩
abbrev cX6_areTwo : ByteArray := prog_8_method_40_code
def yX6_areTwo : MethodName := ⟨RX6, "areTwo", "(II)Z"⟩
abbrev cX6_pledge : ByteArray := prog_8_method_41_code
def yX6_pledge : MethodName := ⟨RX6, "pledge", "(II)I"⟩
abbrev cX6_ease : ByteArray := prog_8_method_42_code
def yX6_ease : MethodName := ⟨RX6, "ease", "(I)I"⟩
abbrev cX6_loose : ByteArray := prog_8_method_43_code
def yX6_loose : MethodName := ⟨RX6, "loose", "()I"⟩
abbrev cX6_pays : ByteArray := prog_8_method_44_code
def yX6_pays : MethodName := ⟨RX6, "pays", "(II)Z"⟩
abbrev cX6_pact : ByteArray := prog_8_method_45_code
def yX6_pact : MethodName := ⟨RX6, "pact", "(II)I"⟩
abbrev cX6_plot : ByteArray := prog_8_method_46_code
def yX6_plot : MethodName := ⟨RX6, "plot", "()I"⟩
abbrev cX6_breaks : ByteArray := prog_8_method_47_code
def yX6_breaks : MethodName := ⟨RX6, "breaks", "(I)V"⟩
abbrev cX6_falls : ByteArray := prog_8_method_48_code
def yX6_falls : MethodName := ⟨RX6, "falls", "()V"⟩
abbrev cX6_lends : ByteArray := prog_8_method_49_code
def yX6_lends : MethodName := ⟨RX6, "lends", "()V"⟩
abbrev cX6_fall : ByteArray := prog_8_method_50_code
def yX6_fall : MethodName := ⟨RX6, "fall", "()I"⟩
abbrev cX6_wouldFall : ByteArray := prog_8_method_51_code
def yX6_wouldFall : MethodName := ⟨RX6, "wouldFall", "(I)I"⟩
abbrev cX6_pullsDown : ByteArray := prog_8_method_52_code
def yX6_pullsDown : MethodName := ⟨RX6, "pullsDown", "(I)I"⟩
abbrev cX6_pulls : ByteArray := prog_8_method_53_code
def yX6_pulls : MethodName := ⟨RX6, "pulls", "(I)I"⟩
abbrev cX6_keystone : ByteArray := prog_8_method_54_code
def yX6_keystone : MethodName := ⟨RX6, "keystone", "()I"⟩
abbrev cX6_brokenMany : ByteArray := prog_8_method_55_code
def yX6_brokenMany : MethodName := ⟨RX6, "brokenMany", "()I"⟩
abbrev cX6_go : ByteArray := prog_8_method_56_code
def yX6_go : MethodName := ⟨RX6, "go", "(I)V"⟩
abbrev cX6_isLate : ByteArray := prog_8_method_57_code
def yX6_isLate : MethodName := ⟨RX6, "isLate", "(I)Z"⟩
abbrev cX6_months : ByteArray := prog_8_method_58_code
def yX6_months : MethodName := ⟨RX6, "months", "(I)I"⟩
abbrev cX6_now : ByteArray := prog_8_method_59_code
def yX6_now : MethodName := ⟨RX6, "now", "(I)I"⟩
abbrev cX6_on : ByteArray := prog_8_method_60_code
def yX6_on : MethodName := ⟨RX6, "on", "(I)I"⟩
abbrev cX6_findsOne : ByteArray := prog_8_method_61_code
def yX6_findsOne : MethodName := ⟨RX6, "findsOne", "()Z"⟩
abbrev cX6_findsBehind : ByteArray := prog_8_method_62_code
def yX6_findsBehind : MethodName := ⟨RX6, "findsBehind", "(I)Z"⟩
abbrev cX6_findsTwo : ByteArray := prog_8_method_63_code
def yX6_findsTwo : MethodName := ⟨RX6, "findsTwo", "()Z"⟩
abbrev cX6_moves : ByteArray := prog_8_method_64_code
def yX6_moves : MethodName := ⟨RX6, "moves", "(I)I"⟩
abbrev cX6_looseWith : ByteArray := prog_8_method_65_code
def yX6_looseWith : MethodName := ⟨RX6, "looseWith", "(II)I"⟩
abbrev cX6_best : ByteArray := prog_8_method_66_code
def yX6_best : MethodName := ⟨RX6, "best", "(I)I"⟩
abbrev cX6_key : ByteArray := prog_8_method_67_code
def yX6_key : MethodName := ⟨RX6, "key", "(I)I"⟩
abbrev cX6_toFree : ByteArray := prog_8_method_68_code
def yX6_toFree : MethodName := ⟨RX6, "toFree", "(II)I"⟩
abbrev cX6_holdsWith : ByteArray := prog_8_method_69_code
def yX6_holdsWith : MethodName := ⟨RX6, "holdsWith", "(I)Z"⟩
abbrev cX6_findWay : ByteArray := prog_8_method_70_code
def yX6_findWay : MethodName := ⟨RX6, "findWay", "()V"⟩
abbrev cX6_movedAs : ByteArray := prog_8_method_71_code
def yX6_movedAs : MethodName := ⟨RX6, "movedAs", "(I)I"⟩
abbrev cX6_way : ByteArray := prog_8_method_72_code
def yX6_way : MethodName := ⟨RX6, "way", "(II)I"⟩
abbrev cX6_feed : ByteArray := prog_8_method_73_code
def yX6_feed : MethodName := ⟨RX6, "feed", "(II)I"⟩
abbrev cX6_wipe : ByteArray := prog_8_method_74_code
def yX6_wipe : MethodName := ⟨RX6, "wipe", "()I"⟩
abbrev cX6_byteAt : ByteArray := prog_8_method_75_code
def yX6_byteAt : MethodName := ⟨RX6, "byteAt", "(I)I"⟩
abbrev cX6_isLetter : ByteArray := prog_8_method_76_code
def yX6_isLetter : MethodName := ⟨RX6, "isLetter", "(I)Z"⟩
abbrev cX6_isDigit : ByteArray := prog_8_method_77_code
def yX6_isDigit : MethodName := ⟨RX6, "isDigit", "(I)Z"⟩
abbrev cX6_advance : ByteArray := prog_8_method_78_code
def yX6_advance : MethodName := ⟨RX6, "advance", "()V"⟩
abbrev cX6_isWord : ByteArray := prog_8_method_79_code
def yX6_isWord : MethodName := ⟨RX6, "isWord", "(J)Z"⟩
abbrev cX6_kindHere : ByteArray := prog_8_method_80_code
def yX6_kindHere : MethodName := ⟨RX6, "kindHere", "()I"⟩
abbrev cX6_wantNumber : ByteArray := prog_8_method_81_code
def yX6_wantNumber : MethodName := ⟨RX6, "wantNumber", "(II)I"⟩
abbrev cX6_mayWant : ByteArray := prog_8_method_82_code
def yX6_mayWant : MethodName := ⟨RX6, "mayWant", "(JIII)I"⟩
abbrev cX6_wantWord : ByteArray := prog_8_method_83_code
def yX6_wantWord : MethodName := ⟨RX6, "wantWord", "(J)V"⟩
abbrev cX6_wantKing : ByteArray := prog_8_method_84_code
def yX6_wantKing : MethodName := ⟨RX6, "wantKing", "()V"⟩
abbrev cX6_wantChild : ByteArray := prog_8_method_85_code
def yX6_wantChild : MethodName := ⟨RX6, "wantChild", "(I)V"⟩
abbrev cX6_wantTreaty : ByteArray := prog_8_method_86_code
def yX6_wantTreaty : MethodName := ⟨RX6, "wantTreaty", "()V"⟩
abbrev cX6_wantItem : ByteArray := prog_8_method_87_code
def yX6_wantItem : MethodName := ⟨RX6, "wantItem", "()V"⟩
abbrev cX6_court : ByteArray := prog_8_method_88_code
def yX6_court : MethodName := ⟨RX6, "court", "()I"⟩
abbrev cX6_isSheet : ByteArray := prog_8_method_89_code
def yX6_isSheet : MethodName := ⟨RX6, "isSheet", "(I)Z"⟩
abbrev cX6_narrow : ByteArray := prog_8_method_90_code
def yX6_narrow : MethodName := ⟨RX6, "narrow", "(IJ)J"⟩
abbrev cX6_sheet : ByteArray := prog_8_method_91_code
def yX6_sheet : MethodName := ⟨RX6, "sheet", "(III)I"⟩
abbrev cX6_write : ByteArray := prog_8_method_92_code
def yX6_write : MethodName := ⟨RX6, "write", "(IIJ)J"⟩
abbrev cX6_isPart : ByteArray := prog_8_method_93_code
def yX6_isPart : MethodName := ⟨RX6, "isPart", "(III)Z"⟩
abbrev cX6_copy : ByteArray := prog_8_method_94_code
def yX6_copy : MethodName := ⟨RX6, "copy", "(IIIII)I"⟩
abbrev cX6_lays : ByteArray := prog_8_method_95_code
def yX6_lays : MethodName := ⟨RX6, "lays", "(I)I"⟩
abbrev cX6_rolled : ByteArray := prog_8_method_96_code
def yX6_rolled : MethodName := ⟨RX6, "rolled", "(I)I"⟩
abbrev cX6_roll : ByteArray := prog_8_method_97_code
def yX6_roll : MethodName := ⟨RX6, "roll", "(I)I"⟩
abbrev cX6_read : ByteArray := prog_8_method_98_code
def yX6_read : MethodName := ⟨RX6, "read", "(I)I"⟩
abbrev cX6_moveRow : ByteArray := prog_8_method_99_code
def yX6_moveRow : MethodName := ⟨RX6, "moveRow", "([IIZ[I)V"⟩
abbrev cX6_moveAll : ByteArray := prog_8_method_100_code
def yX6_moveAll : MethodName := ⟨RX6, "moveAll", "(Z[I)V"⟩
abbrev cX6_image : ByteArray := prog_8_method_101_code
def yX6_image : MethodName := ⟨RX6, "image", "()I"⟩
abbrev cX6_undo : ByteArray := prog_8_method_102_code
def yX6_undo : MethodName := ⟨RX6, "undo", "()I"⟩
abbrev cX6_tear : ByteArray := prog_8_method_103_code
def yX6_tear : MethodName := ⟨RX6, "tear", "()I"⟩
abbrev cX6_count : ByteArray := prog_8_method_104_code
def yX6_count : MethodName := ⟨RX6, "count", "(I)I"⟩
abbrev cX6_status : ByteArray := prog_8_method_105_code
def yX6_status : MethodName := ⟨RX6, "status", "(I)I"⟩
def RJ6 : String := "java/lang/Integer"
abbrev cJ6_bitCount_0f7a4 : ByteArray := prog_9_method_49_code
def yJ6_bitCount_0f7a4 : MethodName := ⟨RJ6, "bitCount", "(I)I"⟩
def RJ9 : String := "java/lang/Math"
abbrev cJ9_max_7cf53 : ByteArray := prog_10_method_65_code
def yJ9_max_7cf53 : MethodName := ⟨RJ9, "max", "(II)I"⟩
abbrev cJ9_min_7cf53 : ByteArray := prog_10_method_69_code
def yJ9_min_7cf53 : MethodName := ⟨RJ9, "min", "(II)I"⟩
def RJ0 : String := "java/lang/String"
abbrev cJ0_length_8abf5 : ByteArray := prog_11_method_54_code
def yJ0_length_8abf5 : MethodName := ⟨RJ0, "length", "()I"⟩
abbrev cJ0_charAt_5068e : ByteArray := prog_11_method_56_code
def yJ0_charAt_5068e : MethodName := ⟨RJ0, "charAt", "(I)C"⟩
abbrev cJ0_coder_7d493 : ByteArray := prog_11_method_152_code
def yJ0_coder_7d493 : MethodName := ⟨RJ0, "coder", "()B"⟩
abbrev cJ0_isLatin1_aae02 : ByteArray := prog_11_method_154_code
def yJ0_isLatin1_aae02 : MethodName := ⟨RJ0, "isLatin1", "()Z"⟩
abbrev cJ0_checkIndex_df160 : ByteArray := prog_11_method_155_code
def yJ0_checkIndex_df160 : MethodName := ⟨RJ0, "checkIndex", "(II)V"⟩
def RJ1 : String := "java/lang/StringLatin1"
abbrev cJ1_charAt_3b067 : ByteArray := prog_12_method_2_code
def yJ1_charAt_3b067 : MethodName := ⟨RJ1, "charAt", "([BI)C"⟩
def RJ2 : String := "java/lang/StringUTF16"
abbrev cJ2_getChar_3b067 : ByteArray := prog_13_method_5_code
def yJ2_getChar_3b067 : MethodName := ⟨RJ2, "getChar", "([BI)C"⟩
abbrev cJ2_length_9d52b : ByteArray := prog_13_method_6_code
def yJ2_length_9d52b : MethodName := ⟨RJ2, "length", "([B)I"⟩
abbrev cJ2_charAt_3b067 : ByteArray := prog_13_method_83_code
def yJ2_charAt_3b067 : MethodName := ⟨RJ2, "charAt", "([BI)C"⟩
abbrev cJ2_checkIndex_2214a : ByteArray := prog_13_method_91_code
def yJ2_checkIndex_2214a : MethodName := ⟨RJ2, "checkIndex", "(I[B)V"⟩
def RJ10 : String := "java/lang/System"
def RJ3 : String := "jdk/internal/util/Preconditions"
abbrev cJ3_checkIndex_8e157 : ByteArray := prog_15_method_11_code
def yJ3_checkIndex_8e157 : MethodName := ⟨RJ3, "checkIndex", "(IILjava/util/function/BiFunction;)I"⟩
def RL : String := "HostageKingsLaw"
abbrev cL_law : ByteArray := code
def yL_law : MethodName := ⟨RL, "law", "([I)Z"⟩
abbrev vwCl : List vw_C := [(RX0, TX0, 4), (RX1, TX1, 15), (RX2, TX2, 6), (RX3, TX3, 3), (RX4, TX4, 6), (RX5, TX5, 9), (RX6, TX6, 41)]
def lw_good : List Cond := lw_tbl.filter goodWord
theorem lw_goodIn {w : Cond} (i : Nat) (h : lw_tbl[i]? = some w) (hg : goodWord w = true) : w ∈ lw_good := List.mem_filter.mpr ⟨List.mem_of_getElem? h, hg⟩
theorem lw_goodG {Ts : List Cond} (h : GoodIn lw_tbl Ts) (hg : Ts.all goodWord = true) : ∀ w ∈ Ts, w ∈ lw_good := fun w hw => List.mem_filter.mpr ⟨(h w hw).1, List.all_eq_true.mp hg w hw⟩
theorem inX0 : ∀ w ∈ wsX00, w ∈ lw_good := lw_goodG (goodIn_r _ [181, 183, 185, 187] (by decide +kernel) (by decide +kernel)) (by decide +kernel)
theorem inX1 : ∀ w ∈ wsX10, w ∈ lw_good := lw_goodG (goodIn_r _ [135, 137, 139, 141, 143, 145, 147, 149, 151, 153, 155, 157, 159, 161, 163] (by decide +kernel) (by decide +kernel)) (by decide +kernel)
theorem inX2 : ∀ w ∈ wsX20, w ∈ lw_good := lw_goodG (goodIn_r _ [206, 208, 210, 212, 214, 216] (by decide +kernel) (by decide +kernel)) (by decide +kernel)
theorem inX3 : ∀ w ∈ wsX30, w ∈ lw_good := lw_goodG (goodIn_r _ [261, 263, 265] (by decide +kernel) (by decide +kernel)) (by decide +kernel)
theorem inX4 : ∀ w ∈ wsX40, w ∈ lw_good := lw_goodG (goodIn_r _ [234, 236, 238, 240, 242, 244] (by decide +kernel) (by decide +kernel)) (by decide +kernel)
theorem inX5 : ∀ w ∈ wsX50, w ∈ lw_good := lw_goodG (goodIn_r _ [278, 280, 282, 284, 286, 288, 290, 292, 294] (by decide +kernel) (by decide +kernel)) (by decide +kernel)
theorem inX6 : ∀ w ∈ wsX60, w ∈ lw_good := lw_goodG (goodIn_r _ [885, 887, 889, 891, 893, 895, 897, 899, 901, 903, 905, 907, 909, 911, 913, 915, 917, 919, 921, 923, 925, 927, 929, 931, 933, 935, 937, 939, 941, 943, 945, 947, 949, 951, 953, 955, 957, 959, 961, 963, 965] (by decide +kernel) (by decide +kernel)) (by decide +kernel)
