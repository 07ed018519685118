section
-- ===== PART A: goes FIRST, ahead of the names: the tables' words, and 'selects' of the private methods out of them =====
/-- a private method of a class that the tables say can be made, by its rows of tables_1 -/
def lw_okq (q : MethodName × Nat) : Prop := (q.1.cls ≠ "java/lang/invoke/MethodHandle" ∧ q.1.cls ≠ "java/lang/invoke/VarHandle") ∧ Cond.instantiable q.1.cls q.2 ∈ tables_1 ∧ Cond.privateMethod q.1 ∈ tables_1 ∧ Cond.instanceMethod q.1 ∈ tables_1
theorem lw_p0 : lw_okq (⟨"HostageKings", "finding", "(I)I"⟩, 9) := ⟨⟨by decide +kernel, by decide +kernel⟩, List.mem_of_getElem? (i := 16) (by decide +kernel), List.mem_of_getElem? (i := 239) (by decide +kernel), List.mem_of_getElem? (i := 240) (by decide +kernel)⟩
theorem lw_p1 : lw_okq (⟨"HostageKings", "isChild", "(I)Z"⟩, 9) := ⟨⟨by decide +kernel, by decide +kernel⟩, List.mem_of_getElem? (i := 16) (by decide +kernel), List.mem_of_getElem? (i := 287) (by decide +kernel), List.mem_of_getElem? (i := 288) (by decide +kernel)⟩
theorem lw_p2 : lw_okq (⟨"HostageKings$Realm", "twinsAtHome", "(I)I"⟩, 15) := ⟨⟨by decide +kernel, by decide +kernel⟩, List.mem_of_getElem? (i := 24) (by decide +kernel), List.mem_of_getElem? (i := 296) (by decide +kernel), List.mem_of_getElem? (i := 297) (by decide +kernel)⟩
theorem lw_p3 : lw_okq (⟨"HostageKings$Realm", "lossBeside", "(II)I"⟩, 15) := ⟨⟨by decide +kernel, by decide +kernel⟩, List.mem_of_getElem? (i := 24) (by decide +kernel), List.mem_of_getElem? (i := 300) (by decide +kernel), List.mem_of_getElem? (i := 301) (by decide +kernel)⟩
theorem lw_p4 : lw_okq (⟨"HostageKings", "isTreaty", "(I)Z"⟩, 9) := ⟨⟨by decide +kernel, by decide +kernel⟩, List.mem_of_getElem? (i := 16) (by decide +kernel), List.mem_of_getElem? (i := 365) (by decide +kernel), List.mem_of_getElem? (i := 366) (by decide +kernel)⟩
theorem lw_p5 : lw_okq (⟨"HostageKings", "broughtDownWith", "(I)I"⟩, 9) := ⟨⟨by decide +kernel, by decide +kernel⟩, List.mem_of_getElem? (i := 16) (by decide +kernel), List.mem_of_getElem? (i := 444) (by decide +kernel), List.mem_of_getElem? (i := 445) (by decide +kernel)⟩
theorem lw_p6 : lw_okq (⟨"HostageKings$Planner", "findOne", "(LHostageKings$Realm;)Z"⟩, 4) := ⟨⟨by decide +kernel, by decide +kernel⟩, List.mem_of_getElem? (i := 99) (by decide +kernel), List.mem_of_getElem? (i := 492) (by decide +kernel), List.mem_of_getElem? (i := 493) (by decide +kernel)⟩
theorem lw_p7 : lw_okq (⟨"HostageKings$Planner", "mayMend", "(II)Z"⟩, 4) := ⟨⟨by decide +kernel, by decide +kernel⟩, List.mem_of_getElem? (i := 99) (by decide +kernel), List.mem_of_getElem? (i := 500) (by decide +kernel), List.mem_of_getElem? (i := 501) (by decide +kernel)⟩
theorem lw_p8 : lw_okq (⟨"HostageKings$Planner", "allHold", "(II)Z"⟩, 4) := ⟨⟨by decide +kernel, by decide +kernel⟩, List.mem_of_getElem? (i := 99) (by decide +kernel), List.mem_of_getElem? (i := 504) (by decide +kernel), List.mem_of_getElem? (i := 505) (by decide +kernel)⟩
theorem lw_p9 : lw_okq (⟨"HostageKings$Planner", "findTwo", "(LHostageKings$Realm;)Z"⟩, 4) := ⟨⟨by decide +kernel, by decide +kernel⟩, List.mem_of_getElem? (i := 99) (by decide +kernel), List.mem_of_getElem? (i := 508) (by decide +kernel), List.mem_of_getElem? (i := 509) (by decide +kernel)⟩
theorem lw_p10 : lw_okq (⟨"HostageKings$Planner", "findGreater", "(LHostageKings$Realm;I)Z"⟩, 4) := ⟨⟨by decide +kernel, by decide +kernel⟩, List.mem_of_getElem? (i := 99) (by decide +kernel), List.mem_of_getElem? (i := 512) (by decide +kernel), List.mem_of_getElem? (i := 513) (by decide +kernel)⟩
theorem lw_p11 : lw_okq (⟨"HostageKings", "sheetAt", "(I)LHostageKings$Sheet;"⟩, 9) := ⟨⟨by decide +kernel, by decide +kernel⟩, List.mem_of_getElem? (i := 16) (by decide +kernel), List.mem_of_getElem? (i := 537) (by decide +kernel), List.mem_of_getElem? (i := 538) (by decide +kernel)⟩
theorem lw_p12 : lw_okq (⟨"HostageKings$Route", "firstStep", "(I)I"⟩, 6) := ⟨⟨by decide +kernel, by decide +kernel⟩, List.mem_of_getElem? (i := 122) (by decide +kernel), List.mem_of_getElem? (i := 564) (by decide +kernel), List.mem_of_getElem? (i := 565) (by decide +kernel)⟩
theorem lw_p13 : lw_okq (⟨"HostageKings$Route", "holdsAt", "(LHostageKings$Realm;I)Z"⟩, 6) := ⟨⟨by decide +kernel, by decide +kernel⟩, List.mem_of_getElem? (i := 122) (by decide +kernel), List.mem_of_getElem? (i := 568) (by decide +kernel), List.mem_of_getElem? (i := 569) (by decide +kernel)⟩
theorem lw_p14 : lw_okq (⟨"HostageKings$Tape", "advance", "()V"⟩, 6) := ⟨⟨by decide +kernel, by decide +kernel⟩, List.mem_of_getElem? (i := 152) (by decide +kernel), List.mem_of_getElem? (i := 593) (by decide +kernel), List.mem_of_getElem? (i := 594) (by decide +kernel)⟩
theorem lw_p15 : lw_okq (⟨"HostageKings$Tape", "readItem", "(LHostageKings$Realm;)Z"⟩, 6) := ⟨⟨by decide +kernel, by decide +kernel⟩, List.mem_of_getElem? (i := 152) (by decide +kernel), List.mem_of_getElem? (i := 606) (by decide +kernel), List.mem_of_getElem? (i := 607) (by decide +kernel)⟩
def lw_privs_1 : List (MethodName × Nat) := [(⟨"HostageKings", "finding", "(I)I"⟩, 9), (⟨"HostageKings", "isChild", "(I)Z"⟩, 9), (⟨"HostageKings$Realm", "twinsAtHome", "(I)I"⟩, 15), (⟨"HostageKings$Realm", "lossBeside", "(II)I"⟩, 15), (⟨"HostageKings", "isTreaty", "(I)Z"⟩, 9), (⟨"HostageKings", "broughtDownWith", "(I)I"⟩, 9), (⟨"HostageKings$Planner", "findOne", "(LHostageKings$Realm;)Z"⟩, 4), (⟨"HostageKings$Planner", "mayMend", "(II)Z"⟩, 4), (⟨"HostageKings$Planner", "allHold", "(II)Z"⟩, 4), (⟨"HostageKings$Planner", "findTwo", "(LHostageKings$Realm;)Z"⟩, 4), (⟨"HostageKings$Planner", "findGreater", "(LHostageKings$Realm;I)Z"⟩, 4), (⟨"HostageKings", "sheetAt", "(I)LHostageKings$Sheet;"⟩, 9), (⟨"HostageKings$Route", "firstStep", "(I)I"⟩, 6), (⟨"HostageKings$Route", "holdsAt", "(LHostageKings$Realm;I)Z"⟩, 6), (⟨"HostageKings$Tape", "advance", "()V"⟩, 6), (⟨"HostageKings$Tape", "readItem", "(LHostageKings$Realm;)Z"⟩, 6)]
theorem lw_r1 : ∀ q ∈ lw_privs_1, lw_okq q := List.forall_mem_cons.mpr ⟨lw_p0, List.forall_mem_cons.mpr ⟨lw_p1, List.forall_mem_cons.mpr ⟨lw_p2, List.forall_mem_cons.mpr ⟨lw_p3, List.forall_mem_cons.mpr ⟨lw_p4, List.forall_mem_cons.mpr ⟨lw_p5, List.forall_mem_cons.mpr ⟨lw_p6, List.forall_mem_cons.mpr ⟨lw_p7, List.forall_mem_cons.mpr ⟨lw_p8, List.forall_mem_cons.mpr ⟨lw_p9, List.forall_mem_cons.mpr ⟨lw_p10, List.forall_mem_cons.mpr ⟨lw_p11, List.forall_mem_cons.mpr ⟨lw_p12, List.forall_mem_cons.mpr ⟨lw_p13, List.forall_mem_cons.mpr ⟨lw_p14, List.forall_mem_cons.mpr ⟨lw_p15, fun _ h => absurd h List.not_mem_nil⟩⟩⟩⟩⟩⟩⟩⟩⟩⟩⟩⟩⟩⟩⟩⟩
theorem lw_p16 : lw_okq (⟨"HostageKings$Tape", "isWord", "(Ljava/lang/String;)Z"⟩, 6) := ⟨⟨by decide +kernel, by decide +kernel⟩, List.mem_of_getElem? (i := 152) (by decide +kernel), List.mem_of_getElem? (i := 611) (by decide +kernel), List.mem_of_getElem? (i := 612) (by decide +kernel)⟩
theorem lw_p17 : lw_okq (⟨"HostageKings$Tape", "readFear", "(LHostageKings$Realm;)Z"⟩, 6) := ⟨⟨by decide +kernel, by decide +kernel⟩, List.mem_of_getElem? (i := 152) (by decide +kernel), List.mem_of_getElem? (i := 663) (by decide +kernel), List.mem_of_getElem? (i := 664) (by decide +kernel)⟩
theorem lw_p18 : lw_okq (⟨"HostageKings$Tape", "takeNumber", "(I)I"⟩, 6) := ⟨⟨by decide +kernel, by decide +kernel⟩, List.mem_of_getElem? (i := 152) (by decide +kernel), List.mem_of_getElem? (i := 667) (by decide +kernel), List.mem_of_getElem? (i := 668) (by decide +kernel)⟩
theorem lw_p19 : lw_okq (⟨"HostageKings$Tape", "takeWord", "(Ljava/lang/String;)Z"⟩, 6) := ⟨⟨by decide +kernel, by decide +kernel⟩, List.mem_of_getElem? (i := 152) (by decide +kernel), List.mem_of_getElem? (i := 672) (by decide +kernel), List.mem_of_getElem? (i := 673) (by decide +kernel)⟩
theorem lw_p20 : lw_okq (⟨"HostageKings$Tape", "readTreaty", "(LHostageKings$Realm;)Z"⟩, 6) := ⟨⟨by decide +kernel, by decide +kernel⟩, List.mem_of_getElem? (i := 152) (by decide +kernel), List.mem_of_getElem? (i := 677) (by decide +kernel), List.mem_of_getElem? (i := 678) (by decide +kernel)⟩
theorem lw_p21 : lw_okq (⟨"HostageKings$Tape", "readChild", "(LHostageKings$Realm;I)Z"⟩, 6) := ⟨⟨by decide +kernel, by decide +kernel⟩, List.mem_of_getElem? (i := 152) (by decide +kernel), List.mem_of_getElem? (i := 694) (by decide +kernel), List.mem_of_getElem? (i := 695) (by decide +kernel)⟩
theorem lw_p22 : lw_okq (⟨"HostageKingsModel", "finds", "(I)I"⟩, 41) := ⟨⟨by decide +kernel, by decide +kernel⟩, List.mem_of_getElem? (i := 770) (by decide +kernel), List.mem_of_getElem? (i := 914) (by decide +kernel), List.mem_of_getElem? (i := 915) (by decide +kernel)⟩
theorem lw_p23 : lw_okq (⟨"HostageKingsModel", "isInForce", "(I)Z"⟩, 41) := ⟨⟨by decide +kernel, by decide +kernel⟩, List.mem_of_getElem? (i := 770) (by decide +kernel), List.mem_of_getElem? (i := 922) (by decide +kernel), List.mem_of_getElem? (i := 923) (by decide +kernel)⟩
theorem lw_p24 : lw_okq (⟨"HostageKingsModel", "holder", "(I)I"⟩, 41) := ⟨⟨by decide +kernel, by decide +kernel⟩, List.mem_of_getElem? (i := 770) (by decide +kernel), List.mem_of_getElem? (i := 926) (by decide +kernel), List.mem_of_getElem? (i := 927) (by decide +kernel)⟩
theorem lw_p25 : lw_okq (⟨"HostageKingsModel", "isHome", "(I)Z"⟩, 41) := ⟨⟨by decide +kernel, by decide +kernel⟩, List.mem_of_getElem? (i := 770) (by decide +kernel), List.mem_of_getElem? (i := 930) (by decide +kernel), List.mem_of_getElem? (i := 931) (by decide +kernel)⟩
theorem lw_p26 : lw_okq (⟨"HostageKingsModel", "lives", "(I)Z"⟩, 41) := ⟨⟨by decide +kernel, by decide +kernel⟩, List.mem_of_getElem? (i := 770) (by decide +kernel), List.mem_of_getElem? (i := 934) (by decide +kernel), List.mem_of_getElem? (i := 935) (by decide +kernel)⟩
theorem lw_p27 : lw_okq (⟨"HostageKingsModel", "addChild", "(IIII)V"⟩, 41) := ⟨⟨by decide +kernel, by decide +kernel⟩, List.mem_of_getElem? (i := 770) (by decide +kernel), List.mem_of_getElem? (i := 946) (by decide +kernel), List.mem_of_getElem? (i := 947) (by decide +kernel)⟩
theorem lw_p28 : lw_okq (⟨"HostageKingsModel", "isChild", "(I)Z"⟩, 41) := ⟨⟨by decide +kernel, by decide +kernel⟩, List.mem_of_getElem? (i := 770) (by decide +kernel), List.mem_of_getElem? (i := 954) (by decide +kernel), List.mem_of_getElem? (i := 955) (by decide +kernel)⟩
theorem lw_p29 : lw_okq (⟨"HostageKingsModel", "loss", "(I)I"⟩, 41) := ⟨⟨by decide +kernel, by decide +kernel⟩, List.mem_of_getElem? (i := 770) (by decide +kernel), List.mem_of_getElem? (i := 958) (by decide +kernel), List.mem_of_getElem? (i := 959) (by decide +kernel)⟩
theorem lw_p30 : lw_okq (⟨"HostageKingsModel", "hasTwinAtHome", "(I)Z"⟩, 41) := ⟨⟨by decide +kernel, by decide +kernel⟩, List.mem_of_getElem? (i := 770) (by decide +kernel), List.mem_of_getElem? (i := 962) (by decide +kernel), List.mem_of_getElem? (i := 963) (by decide +kernel)⟩
theorem lw_p31 : lw_okq (⟨"HostageKingsModel", "looseSet", "()I"⟩, 41) := ⟨⟨by decide +kernel, by decide +kernel⟩, List.mem_of_getElem? (i := 770) (by decide +kernel), List.mem_of_getElem? (i := 991) (by decide +kernel), List.mem_of_getElem? (i := 992) (by decide +kernel)⟩
def lw_privs_2 : List (MethodName × Nat) := [(⟨"HostageKings$Tape", "isWord", "(Ljava/lang/String;)Z"⟩, 6), (⟨"HostageKings$Tape", "readFear", "(LHostageKings$Realm;)Z"⟩, 6), (⟨"HostageKings$Tape", "takeNumber", "(I)I"⟩, 6), (⟨"HostageKings$Tape", "takeWord", "(Ljava/lang/String;)Z"⟩, 6), (⟨"HostageKings$Tape", "readTreaty", "(LHostageKings$Realm;)Z"⟩, 6), (⟨"HostageKings$Tape", "readChild", "(LHostageKings$Realm;I)Z"⟩, 6), (⟨"HostageKingsModel", "finds", "(I)I"⟩, 41), (⟨"HostageKingsModel", "isInForce", "(I)Z"⟩, 41), (⟨"HostageKingsModel", "holder", "(I)I"⟩, 41), (⟨"HostageKingsModel", "isHome", "(I)Z"⟩, 41), (⟨"HostageKingsModel", "lives", "(I)Z"⟩, 41), (⟨"HostageKingsModel", "addChild", "(IIII)V"⟩, 41), (⟨"HostageKingsModel", "isChild", "(I)Z"⟩, 41), (⟨"HostageKingsModel", "loss", "(I)I"⟩, 41), (⟨"HostageKingsModel", "hasTwinAtHome", "(I)Z"⟩, 41), (⟨"HostageKingsModel", "looseSet", "()I"⟩, 41)]
theorem lw_r2 : ∀ q ∈ lw_privs_2, lw_okq q := List.forall_mem_cons.mpr ⟨lw_p16, List.forall_mem_cons.mpr ⟨lw_p17, List.forall_mem_cons.mpr ⟨lw_p18, List.forall_mem_cons.mpr ⟨lw_p19, List.forall_mem_cons.mpr ⟨lw_p20, List.forall_mem_cons.mpr ⟨lw_p21, List.forall_mem_cons.mpr ⟨lw_p22, List.forall_mem_cons.mpr ⟨lw_p23, List.forall_mem_cons.mpr ⟨lw_p24, List.forall_mem_cons.mpr ⟨lw_p25, List.forall_mem_cons.mpr ⟨lw_p26, List.forall_mem_cons.mpr ⟨lw_p27, List.forall_mem_cons.mpr ⟨lw_p28, List.forall_mem_cons.mpr ⟨lw_p29, List.forall_mem_cons.mpr ⟨lw_p30, List.forall_mem_cons.mpr ⟨lw_p31, fun _ h => absurd h List.not_mem_nil⟩⟩⟩⟩⟩⟩⟩⟩⟩⟩⟩⟩⟩⟩⟩⟩
theorem lw_p32 : lw_okq (⟨"HostageKingsModel", "findPledges", "()V"⟩, 41) := ⟨⟨by decide +kernel, by decide +kernel⟩, List.mem_of_getElem? (i := 770) (by decide +kernel), List.mem_of_getElem? (i := 995) (by decide +kernel), List.mem_of_getElem? (i := 996) (by decide +kernel)⟩
theorem lw_p33 : lw_okq (⟨"HostageKingsModel", "easeOf", "(I)I"⟩, 41) := ⟨⟨by decide +kernel, by decide +kernel⟩, List.mem_of_getElem? (i := 770) (by decide +kernel), List.mem_of_getElem? (i := 999) (by decide +kernel), List.mem_of_getElem? (i := 1000) (by decide +kernel)⟩
theorem lw_p34 : lw_okq (⟨"HostageKingsModel", "addTreaty", "(IIII)V"⟩, 41) := ⟨⟨by decide +kernel, by decide +kernel⟩, List.mem_of_getElem? (i := 770) (by decide +kernel), List.mem_of_getElem? (i := 1017) (by decide +kernel), List.mem_of_getElem? (i := 1018) (by decide +kernel)⟩
theorem lw_p35 : lw_okq (⟨"HostageKingsModel", "isTreaty", "(I)Z"⟩, 41) := ⟨⟨by decide +kernel, by decide +kernel⟩, List.mem_of_getElem? (i := 770) (by decide +kernel), List.mem_of_getElem? (i := 1025) (by decide +kernel), List.mem_of_getElem? (i := 1026) (by decide +kernel)⟩
theorem lw_p36 : lw_okq (⟨"HostageKingsModel", "pays", "(II)Z"⟩, 41) := ⟨⟨by decide +kernel, by decide +kernel⟩, List.mem_of_getElem? (i := 770) (by decide +kernel), List.mem_of_getElem? (i := 1055) (by decide +kernel), List.mem_of_getElem? (i := 1056) (by decide +kernel)⟩
theorem lw_p37 : lw_okq (⟨"HostageKingsModel", "falls", "()V"⟩, 41) := ⟨⟨by decide +kernel, by decide +kernel⟩, List.mem_of_getElem? (i := 770) (by decide +kernel), List.mem_of_getElem? (i := 1068) (by decide +kernel), List.mem_of_getElem? (i := 1069) (by decide +kernel)⟩
theorem lw_p38 : lw_okq (⟨"HostageKingsModel", "breaks", "(I)V"⟩, 41) := ⟨⟨by decide +kernel, by decide +kernel⟩, List.mem_of_getElem? (i := 770) (by decide +kernel), List.mem_of_getElem? (i := 1072) (by decide +kernel), List.mem_of_getElem? (i := 1073) (by decide +kernel)⟩
theorem lw_p39 : lw_okq (⟨"HostageKingsModel", "deadSet", "()I"⟩, 41) := ⟨⟨by decide +kernel, by decide +kernel⟩, List.mem_of_getElem? (i := 770) (by decide +kernel), List.mem_of_getElem? (i := 1080) (by decide +kernel), List.mem_of_getElem? (i := 1081) (by decide +kernel)⟩
theorem lw_p40 : lw_okq (⟨"HostageKingsModel", "lends", "()V"⟩, 41) := ⟨⟨by decide +kernel, by decide +kernel⟩, List.mem_of_getElem? (i := 770) (by decide +kernel), List.mem_of_getElem? (i := 1084) (by decide +kernel), List.mem_of_getElem? (i := 1085) (by decide +kernel)⟩
theorem lw_p41 : lw_okq (⟨"HostageKingsModel", "pullsDown", "(I)I"⟩, 41) := ⟨⟨by decide +kernel, by decide +kernel⟩, List.mem_of_getElem? (i := 770) (by decide +kernel), List.mem_of_getElem? (i := 1092) (by decide +kernel), List.mem_of_getElem? (i := 1093) (by decide +kernel)⟩
theorem lw_p42 : lw_okq (⟨"HostageKingsModel", "isLate", "(I)Z"⟩, 41) := ⟨⟨by decide +kernel, by decide +kernel⟩, List.mem_of_getElem? (i := 770) (by decide +kernel), List.mem_of_getElem? (i := 1104) (by decide +kernel), List.mem_of_getElem? (i := 1105) (by decide +kernel)⟩
theorem lw_p43 : lw_okq (⟨"HostageKingsModel", "brokenMany", "()I"⟩, 41) := ⟨⟨by decide +kernel, by decide +kernel⟩, List.mem_of_getElem? (i := 770) (by decide +kernel), List.mem_of_getElem? (i := 1108) (by decide +kernel), List.mem_of_getElem? (i := 1109) (by decide +kernel)⟩
theorem lw_p44 : lw_okq (⟨"HostageKingsModel", "go", "(I)V"⟩, 41) := ⟨⟨by decide +kernel, by decide +kernel⟩, List.mem_of_getElem? (i := 770) (by decide +kernel), List.mem_of_getElem? (i := 1112) (by decide +kernel), List.mem_of_getElem? (i := 1113) (by decide +kernel)⟩
theorem lw_p45 : lw_okq (⟨"HostageKingsModel", "forceSet", "()I"⟩, 41) := ⟨⟨by decide +kernel, by decide +kernel⟩, List.mem_of_getElem? (i := 770) (by decide +kernel), List.mem_of_getElem? (i := 1120) (by decide +kernel), List.mem_of_getElem? (i := 1121) (by decide +kernel)⟩
theorem lw_p46 : lw_okq (⟨"HostageKingsModel", "findsOne", "()Z"⟩, 41) := ⟨⟨by decide +kernel, by decide +kernel⟩, List.mem_of_getElem? (i := 770) (by decide +kernel), List.mem_of_getElem? (i := 1132) (by decide +kernel), List.mem_of_getElem? (i := 1133) (by decide +kernel)⟩
theorem lw_p47 : lw_okq (⟨"HostageKingsModel", "findsTwo", "()Z"⟩, 41) := ⟨⟨by decide +kernel, by decide +kernel⟩, List.mem_of_getElem? (i := 770) (by decide +kernel), List.mem_of_getElem? (i := 1136) (by decide +kernel), List.mem_of_getElem? (i := 1137) (by decide +kernel)⟩
def lw_privs_3 : List (MethodName × Nat) := [(⟨"HostageKingsModel", "findPledges", "()V"⟩, 41), (⟨"HostageKingsModel", "easeOf", "(I)I"⟩, 41), (⟨"HostageKingsModel", "addTreaty", "(IIII)V"⟩, 41), (⟨"HostageKingsModel", "isTreaty", "(I)Z"⟩, 41), (⟨"HostageKingsModel", "pays", "(II)Z"⟩, 41), (⟨"HostageKingsModel", "falls", "()V"⟩, 41), (⟨"HostageKingsModel", "breaks", "(I)V"⟩, 41), (⟨"HostageKingsModel", "deadSet", "()I"⟩, 41), (⟨"HostageKingsModel", "lends", "()V"⟩, 41), (⟨"HostageKingsModel", "pullsDown", "(I)I"⟩, 41), (⟨"HostageKingsModel", "isLate", "(I)Z"⟩, 41), (⟨"HostageKingsModel", "brokenMany", "()I"⟩, 41), (⟨"HostageKingsModel", "go", "(I)V"⟩, 41), (⟨"HostageKingsModel", "forceSet", "()I"⟩, 41), (⟨"HostageKingsModel", "findsOne", "()Z"⟩, 41), (⟨"HostageKingsModel", "findsTwo", "()Z"⟩, 41)]
theorem lw_r3 : ∀ q ∈ lw_privs_3, lw_okq q := List.forall_mem_cons.mpr ⟨lw_p32, List.forall_mem_cons.mpr ⟨lw_p33, List.forall_mem_cons.mpr ⟨lw_p34, List.forall_mem_cons.mpr ⟨lw_p35, List.forall_mem_cons.mpr ⟨lw_p36, List.forall_mem_cons.mpr ⟨lw_p37, List.forall_mem_cons.mpr ⟨lw_p38, List.forall_mem_cons.mpr ⟨lw_p39, List.forall_mem_cons.mpr ⟨lw_p40, List.forall_mem_cons.mpr ⟨lw_p41, List.forall_mem_cons.mpr ⟨lw_p42, List.forall_mem_cons.mpr ⟨lw_p43, List.forall_mem_cons.mpr ⟨lw_p44, List.forall_mem_cons.mpr ⟨lw_p45, List.forall_mem_cons.mpr ⟨lw_p46, List.forall_mem_cons.mpr ⟨lw_p47, fun _ h => absurd h List.not_mem_nil⟩⟩⟩⟩⟩⟩⟩⟩⟩⟩⟩⟩⟩⟩⟩⟩
theorem lw_p48 : lw_okq (⟨"HostageKingsModel", "findsBehind", "(I)Z"⟩, 41) := ⟨⟨by decide +kernel, by decide +kernel⟩, List.mem_of_getElem? (i := 770) (by decide +kernel), List.mem_of_getElem? (i := 1140) (by decide +kernel), List.mem_of_getElem? (i := 1141) (by decide +kernel)⟩
theorem lw_p49 : lw_okq (⟨"HostageKingsModel", "looseWith", "(II)I"⟩, 41) := ⟨⟨by decide +kernel, by decide +kernel⟩, List.mem_of_getElem? (i := 770) (by decide +kernel), List.mem_of_getElem? (i := 1148) (by decide +kernel), List.mem_of_getElem? (i := 1149) (by decide +kernel)⟩
theorem lw_p50 : lw_okq (⟨"HostageKingsModel", "held", "(II)I"⟩, 41) := ⟨⟨by decide +kernel, by decide +kernel⟩, List.mem_of_getElem? (i := 770) (by decide +kernel), List.mem_of_getElem? (i := 1160) (by decide +kernel), List.mem_of_getElem? (i := 1161) (by decide +kernel)⟩
theorem lw_p51 : lw_okq (⟨"HostageKingsModel", "findWay", "()V"⟩, 41) := ⟨⟨by decide +kernel, by decide +kernel⟩, List.mem_of_getElem? (i := 770) (by decide +kernel), List.mem_of_getElem? (i := 1174) (by decide +kernel), List.mem_of_getElem? (i := 1175) (by decide +kernel)⟩
theorem lw_p52 : lw_okq (⟨"HostageKingsModel", "holdsWith", "(I)Z"⟩, 41) := ⟨⟨by decide +kernel, by decide +kernel⟩, List.mem_of_getElem? (i := 770) (by decide +kernel), List.mem_of_getElem? (i := 1178) (by decide +kernel), List.mem_of_getElem? (i := 1179) (by decide +kernel)⟩
theorem lw_p53 : lw_okq (⟨"HostageKingsModel", "movedAs", "(I)I"⟩, 41) := ⟨⟨by decide +kernel, by decide +kernel⟩, List.mem_of_getElem? (i := 770) (by decide +kernel), List.mem_of_getElem? (i := 1182) (by decide +kernel), List.mem_of_getElem? (i := 1183) (by decide +kernel)⟩
theorem lw_p54 : lw_okq (⟨"HostageKingsModel", "moveAll", "(Z[I)V"⟩, 41) := ⟨⟨by decide +kernel, by decide +kernel⟩, List.mem_of_getElem? (i := 770) (by decide +kernel), List.mem_of_getElem? (i := 1198) (by decide +kernel), List.mem_of_getElem? (i := 1199) (by decide +kernel)⟩
theorem lw_p55 : lw_okq (⟨"HostageKingsModel", "moveRow", "([IIZ[I)V"⟩, 41) := ⟨⟨by decide +kernel, by decide +kernel⟩, List.mem_of_getElem? (i := 770) (by decide +kernel), List.mem_of_getElem? (i := 1202) (by decide +kernel), List.mem_of_getElem? (i := 1203) (by decide +kernel)⟩
theorem lw_p56 : lw_okq (⟨"HostageKingsModel", "advance", "()V"⟩, 41) := ⟨⟨by decide +kernel, by decide +kernel⟩, List.mem_of_getElem? (i := 770) (by decide +kernel), List.mem_of_getElem? (i := 1206) (by decide +kernel), List.mem_of_getElem? (i := 1207) (by decide +kernel)⟩
theorem lw_p57 : lw_okq (⟨"HostageKingsModel", "byteAt", "(I)I"⟩, 41) := ⟨⟨by decide +kernel, by decide +kernel⟩, List.mem_of_getElem? (i := 770) (by decide +kernel), List.mem_of_getElem? (i := 1210) (by decide +kernel), List.mem_of_getElem? (i := 1211) (by decide +kernel)⟩
theorem lw_p58 : lw_okq (⟨"HostageKingsModel", "wantItem", "()V"⟩, 41) := ⟨⟨by decide +kernel, by decide +kernel⟩, List.mem_of_getElem? (i := 770) (by decide +kernel), List.mem_of_getElem? (i := 1223) (by decide +kernel), List.mem_of_getElem? (i := 1224) (by decide +kernel)⟩
theorem lw_p59 : lw_okq (⟨"HostageKingsModel", "isWord", "(J)Z"⟩, 41) := ⟨⟨by decide +kernel, by decide +kernel⟩, List.mem_of_getElem? (i := 770) (by decide +kernel), List.mem_of_getElem? (i := 1228) (by decide +kernel), List.mem_of_getElem? (i := 1229) (by decide +kernel)⟩
theorem lw_p60 : lw_okq (⟨"HostageKingsModel", "wantKing", "()V"⟩, 41) := ⟨⟨by decide +kernel, by decide +kernel⟩, List.mem_of_getElem? (i := 770) (by decide +kernel), List.mem_of_getElem? (i := 1232) (by decide +kernel), List.mem_of_getElem? (i := 1233) (by decide +kernel)⟩
theorem lw_p61 : lw_okq (⟨"HostageKingsModel", "wantNumber", "(II)I"⟩, 41) := ⟨⟨by decide +kernel, by decide +kernel⟩, List.mem_of_getElem? (i := 770) (by decide +kernel), List.mem_of_getElem? (i := 1236) (by decide +kernel), List.mem_of_getElem? (i := 1237) (by decide +kernel)⟩
theorem lw_p62 : lw_okq (⟨"HostageKingsModel", "wantWord", "(J)V"⟩, 41) := ⟨⟨by decide +kernel, by decide +kernel⟩, List.mem_of_getElem? (i := 770) (by decide +kernel), List.mem_of_getElem? (i := 1241) (by decide +kernel), List.mem_of_getElem? (i := 1242) (by decide +kernel)⟩
theorem lw_p63 : lw_okq (⟨"HostageKingsModel", "wantTreaty", "()V"⟩, 41) := ⟨⟨by decide +kernel, by decide +kernel⟩, List.mem_of_getElem? (i := 770) (by decide +kernel), List.mem_of_getElem? (i := 1246) (by decide +kernel), List.mem_of_getElem? (i := 1247) (by decide +kernel)⟩
def lw_privs_4 : List (MethodName × Nat) := [(⟨"HostageKingsModel", "findsBehind", "(I)Z"⟩, 41), (⟨"HostageKingsModel", "looseWith", "(II)I"⟩, 41), (⟨"HostageKingsModel", "held", "(II)I"⟩, 41), (⟨"HostageKingsModel", "findWay", "()V"⟩, 41), (⟨"HostageKingsModel", "holdsWith", "(I)Z"⟩, 41), (⟨"HostageKingsModel", "movedAs", "(I)I"⟩, 41), (⟨"HostageKingsModel", "moveAll", "(Z[I)V"⟩, 41), (⟨"HostageKingsModel", "moveRow", "([IIZ[I)V"⟩, 41), (⟨"HostageKingsModel", "advance", "()V"⟩, 41), (⟨"HostageKingsModel", "byteAt", "(I)I"⟩, 41), (⟨"HostageKingsModel", "wantItem", "()V"⟩, 41), (⟨"HostageKingsModel", "isWord", "(J)Z"⟩, 41), (⟨"HostageKingsModel", "wantKing", "()V"⟩, 41), (⟨"HostageKingsModel", "wantNumber", "(II)I"⟩, 41), (⟨"HostageKingsModel", "wantWord", "(J)V"⟩, 41), (⟨"HostageKingsModel", "wantTreaty", "()V"⟩, 41)]
theorem lw_r4 : ∀ q ∈ lw_privs_4, lw_okq q := List.forall_mem_cons.mpr ⟨lw_p48, List.forall_mem_cons.mpr ⟨lw_p49, List.forall_mem_cons.mpr ⟨lw_p50, List.forall_mem_cons.mpr ⟨lw_p51, List.forall_mem_cons.mpr ⟨lw_p52, List.forall_mem_cons.mpr ⟨lw_p53, List.forall_mem_cons.mpr ⟨lw_p54, List.forall_mem_cons.mpr ⟨lw_p55, List.forall_mem_cons.mpr ⟨lw_p56, List.forall_mem_cons.mpr ⟨lw_p57, List.forall_mem_cons.mpr ⟨lw_p58, List.forall_mem_cons.mpr ⟨lw_p59, List.forall_mem_cons.mpr ⟨lw_p60, List.forall_mem_cons.mpr ⟨lw_p61, List.forall_mem_cons.mpr ⟨lw_p62, List.forall_mem_cons.mpr ⟨lw_p63, fun _ h => absurd h List.not_mem_nil⟩⟩⟩⟩⟩⟩⟩⟩⟩⟩⟩⟩⟩⟩⟩⟩
theorem lw_p64 : lw_okq (⟨"HostageKingsModel", "mayWant", "(JIII)I"⟩, 41) := ⟨⟨by decide +kernel, by decide +kernel⟩, List.mem_of_getElem? (i := 770) (by decide +kernel), List.mem_of_getElem? (i := 1253) (by decide +kernel), List.mem_of_getElem? (i := 1254) (by decide +kernel)⟩
theorem lw_p65 : lw_okq (⟨"HostageKingsModel", "kindHere", "()I"⟩, 41) := ⟨⟨by decide +kernel, by decide +kernel⟩, List.mem_of_getElem? (i := 770) (by decide +kernel), List.mem_of_getElem? (i := 1257) (by decide +kernel), List.mem_of_getElem? (i := 1258) (by decide +kernel)⟩
theorem lw_p66 : lw_okq (⟨"HostageKingsModel", "wantChild", "(I)V"⟩, 41) := ⟨⟨by decide +kernel, by decide +kernel⟩, List.mem_of_getElem? (i := 770) (by decide +kernel), List.mem_of_getElem? (i := 1267) (by decide +kernel), List.mem_of_getElem? (i := 1268) (by decide +kernel)⟩
theorem lw_p67 : lw_okq (⟨"HostageKingsModel", "isPart", "(III)Z"⟩, 41) := ⟨⟨by decide +kernel, by decide +kernel⟩, List.mem_of_getElem? (i := 770) (by decide +kernel), List.mem_of_getElem? (i := 1289) (by decide +kernel), List.mem_of_getElem? (i := 1290) (by decide +kernel)⟩
theorem lw_p68 : lw_okq (⟨"HostageKingsModel", "rolled", "(I)I"⟩, 41) := ⟨⟨by decide +kernel, by decide +kernel⟩, List.mem_of_getElem? (i := 770) (by decide +kernel), List.mem_of_getElem? (i := 1301) (by decide +kernel), List.mem_of_getElem? (i := 1302) (by decide +kernel)⟩
def lw_privs_5 : List (MethodName × Nat) := [(⟨"HostageKingsModel", "mayWant", "(JIII)I"⟩, 41), (⟨"HostageKingsModel", "kindHere", "()I"⟩, 41), (⟨"HostageKingsModel", "wantChild", "(I)V"⟩, 41), (⟨"HostageKingsModel", "isPart", "(III)Z"⟩, 41), (⟨"HostageKingsModel", "rolled", "(I)I"⟩, 41)]
theorem lw_r5 : ∀ q ∈ lw_privs_5, lw_okq q := List.forall_mem_cons.mpr ⟨lw_p64, List.forall_mem_cons.mpr ⟨lw_p65, List.forall_mem_cons.mpr ⟨lw_p66, List.forall_mem_cons.mpr ⟨lw_p67, List.forall_mem_cons.mpr ⟨lw_p68, fun _ h => absurd h List.not_mem_nil⟩⟩⟩⟩⟩
def lw_privs : List (MethodName × Nat) := lw_privs_1 ++ (lw_privs_2 ++ (lw_privs_3 ++ (lw_privs_4 ++ (lw_privs_5))))
def lw_tbl : List Cond := k2_sels lw_privs ++ tables_1
theorem lw_privs_ok : ∀ q ∈ lw_privs, lw_okq q := by
  show ∀ q ∈ lw_privs_1 ++ (lw_privs_2 ++ (lw_privs_3 ++ (lw_privs_4 ++ (lw_privs_5)))), lw_okq q
  exact List.forall_mem_append.mpr ⟨lw_r1, List.forall_mem_append.mpr ⟨lw_r2, List.forall_mem_append.mpr ⟨lw_r3, List.forall_mem_append.mpr ⟨lw_r4, lw_r5⟩⟩⟩⟩
theorem goodIn_r {big : List Cond} (ws : List Cond) (ps : List Nat) (hp : ws = ps.filterMap (fun i => big[i]?)) (h : ws.all goodWord = true) : GoodIn big ws := by
  intro w hw
  have h1 := List.all_eq_true.mp h w hw
  rw [hp] at hw
  obtain ⟨i, -, hi⟩ := List.mem_filterMap.mp hw
  have hm : w ∈ big := by first | exact List.mem_of_getElem? hi | exact List.getElem?_mem hi
  exact ⟨hm, good_of_word h1⟩
def RX0 : String := "HostageKings$Planner"
def TX0 : u_T := fun k => match k with
  | 0 => ("HostageKings$Planner", "trial", "LHostageKings$Realm;", true)
  | 1 => ("HostageKings$Planner", "looseKings", "I", false)
  | 2 => ("HostageKings$Planner", "first", "I", false)
  | _ => ("HostageKings$Planner", "second", "I", false)
def tyX0 : Nat → FieldType := fun k => match k with
  | 0 => .object "HostageKings$Realm"
  | 1 => .int
  | 2 => .int
  | _ => .int
abbrev wsX00 : List Cond := u_ws RX0 TX0 4
theorem nmX0 : ∀ a, a < 4 → ∀ b, b < 4 → a ≠ b → (TX0 a).2.1 ≠ (TX0 b).2.1 := by decide +kernel
theorem tyX0_ok : ∀ k, k < 4 → parseFieldDescriptor (TX0 k).2.2.1 = some (tyX0 k) := by decide +kernel
abbrev cX0_init : ByteArray := prog_2_method_1_code
def yX0_init : MethodName := ⟨RX0, "<init>", "()V"⟩
abbrev cX0_plan : ByteArray := prog_2_method_2_code
def yX0_plan : MethodName := ⟨RX0, "plan", "(LHostageKings$Realm;)I"⟩
abbrev cX0_findOne : ByteArray := prog_2_method_3_code
def yX0_findOne : MethodName := ⟨RX0, "findOne", "(LHostageKings$Realm;)Z"⟩
abbrev cX0_findTwo : ByteArray := prog_2_method_4_code
def yX0_findTwo : MethodName := ⟨RX0, "findTwo", "(LHostageKings$Realm;)Z"⟩
abbrev cX0_findGreater : ByteArray := prog_2_method_5_code
def yX0_findGreater : MethodName := ⟨RX0, "findGreater", "(LHostageKings$Realm;I)Z"⟩
abbrev cX0_isMove : ByteArray := prog_2_method_6_code
def yX0_isMove : MethodName := ⟨RX0, "isMove", "(LHostageKings$Realm;I)Z"⟩
abbrev cX0_mayMend : ByteArray := prog_2_method_7_code
def yX0_mayMend : MethodName := ⟨RX0, "mayMend", "(II)Z"⟩
abbrev cX0_allHold : ByteArray := prog_2_method_8_code
def yX0_allHold : MethodName := ⟨RX0, "allHold", "(II)Z"⟩
def RX1 : String := "HostageKings$Realm"
def TX1 : u_T := fun k => match k with
  | 0 => ("HostageKings$Realm", "fears", "[I", true)
  | 1 => ("HostageKings$Realm", "kinds", "[I", true)
  | 2 => ("HostageKings$Realm", "fathers", "[I", true)
  | 3 => ("HostageKings$Realm", "holders", "[I", true)
  | 4 => ("HostageKings$Realm", "worths", "[I", true)
  | 5 => ("HostageKings$Realm", "bys", "[I", true)
  | 6 => ("HostageKings$Realm", "tos", "[I", true)
  | 7 => ("HostageKings$Realm", "gains", "[I", true)
  | 8 => ("HostageKings$Realm", "untils", "[I", true)
  | 9 => ("HostageKings$Realm", "pledges", "[I", true)
  | 10 => ("HostageKings$Realm", "children", "I", false)
  | 11 => ("HostageKings$Realm", "treaties", "I", false)
  | 12 => ("HostageKings$Realm", "deadSet", "I", false)
  | 13 => ("HostageKings$Realm", "brokenSet", "I", false)
  | _ => ("HostageKings$Realm", "month", "I", false)
def tyX1 : Nat → FieldType := fun k => match k with
  | 0 => .array .int
  | 1 => .array .int
  | 2 => .array .int
  | 3 => .array .int
  | 4 => .array .int
  | 5 => .array .int
  | 6 => .array .int
  | 7 => .array .int
  | 8 => .array .int
  | 9 => .array .int
  | 10 => .int
  | 11 => .int
  | 12 => .int
  | 13 => .int
  | _ => .int
abbrev wsX10 : List Cond := u_ws RX1 TX1 15
theorem nmX1 : ∀ a, a < 15 → ∀ b, b < 15 → a ≠ b → (TX1 a).2.1 ≠ (TX1 b).2.1 := by decide +kernel
theorem tyX1_ok : ∀ k, k < 15 → parseFieldDescriptor (TX1 k).2.2.1 = some (tyX1 k) := by decide +kernel
abbrev cX1_init : ByteArray := prog_3_method_1_code
def yX1_init : MethodName := ⟨RX1, "<init>", "()V"⟩
abbrev cX1_become : ByteArray := prog_3_method_2_code
def yX1_become : MethodName := ⟨RX1, "become", "(LHostageKings$Realm;)V"⟩
abbrev cX1_addChild : ByteArray := prog_3_method_3_code
def yX1_addChild : MethodName := ⟨RX1, "addChild", "(IIII)I"⟩
abbrev cX1_addTreaty : ByteArray := prog_3_method_4_code
def yX1_addTreaty : MethodName := ⟨RX1, "addTreaty", "(IIII)I"⟩
abbrev cX1_isDead : ByteArray := prog_3_method_5_code
def yX1_isDead : MethodName := ⟨RX1, "isDead", "(I)Z"⟩
abbrev cX1_isBroken : ByteArray := prog_3_method_6_code
def yX1_isBroken : MethodName := ⟨RX1, "isBroken", "(I)Z"⟩
abbrev cX1_isInForce : ByteArray := prog_3_method_7_code
def yX1_isInForce : MethodName := ⟨RX1, "isInForce", "(I)Z"⟩
abbrev cX1_lossOf : ByteArray := prog_3_method_8_code
def yX1_lossOf : MethodName := ⟨RX1, "lossOf", "(I)I"⟩
abbrev cX1_lossBeside : ByteArray := prog_3_method_9_code
def yX1_lossBeside : MethodName := ⟨RX1, "lossBeside", "(II)I"⟩
abbrev cX1_twinsAtHome : ByteArray := prog_3_method_10_code
def yX1_twinsAtHome : MethodName := ⟨RX1, "twinsAtHome", "(I)I"⟩
abbrev cX1_rolledHolder : ByteArray := prog_3_method_11_code
def yX1_rolledHolder : MethodName := ⟨RX1, "rolledHolder", "(I)I"⟩
abbrev cX1_living : ByteArray := prog_3_method_12_code
def yX1_living : MethodName := ⟨RX1, "living", "()I"⟩
abbrev cX1_livingAtHome : ByteArray := prog_3_method_13_code
def yX1_livingAtHome : MethodName := ⟨RX1, "livingAtHome", "()I"⟩
abbrev cX1_childrenOf : ByteArray := prog_3_method_14_code
def yX1_childrenOf : MethodName := ⟨RX1, "childrenOf", "(I)I"⟩
abbrev cX1_heldFromOthers : ByteArray := prog_3_method_15_code
def yX1_heldFromOthers : MethodName := ⟨RX1, "heldFromOthers", "(I)I"⟩
abbrev cX1_heldBy : ByteArray := prog_3_method_16_code
def yX1_heldBy : MethodName := ⟨RX1, "heldBy", "(II)I"⟩
abbrev cX1_pledgeHeld : ByteArray := prog_3_method_17_code
def yX1_pledgeHeld : MethodName := ⟨RX1, "pledgeHeld", "(II)I"⟩
abbrev cX1_lossesAbroad : ByteArray := prog_3_method_18_code
def yX1_lossesAbroad : MethodName := ⟨RX1, "lossesAbroad", "()I"⟩
abbrev cX1_wordsInForce : ByteArray := prog_3_method_19_code
def yX1_wordsInForce : MethodName := ⟨RX1, "wordsInForce", "()I"⟩
abbrev cX1_wordsOf : ByteArray := prog_3_method_20_code
def yX1_wordsOf : MethodName := ⟨RX1, "wordsOf", "(I)I"⟩
abbrev cX1_hasWord : ByteArray := prog_3_method_21_code
def yX1_hasWord : MethodName := ⟨RX1, "hasWord", "(II)Z"⟩
abbrev cX1_easeOf : ByteArray := prog_3_method_22_code
def yX1_easeOf : MethodName := ⟨RX1, "easeOf", "(I)I"⟩
abbrev cX1_looseWords : ByteArray := prog_3_method_23_code
def yX1_looseWords : MethodName := ⟨RX1, "looseWords", "()I"⟩
abbrev cX1_looseWordsOf : ByteArray := prog_3_method_24_code
def yX1_looseWordsOf : MethodName := ⟨RX1, "looseWordsOf", "(I)I"⟩
abbrev cX1_pactPays : ByteArray := prog_3_method_25_code
def yX1_pactPays : MethodName := ⟨RX1, "pactPays", "(II)Z"⟩
abbrev cX1_isOneOf : ByteArray := prog_3_method_26_code
def yX1_isOneOf : MethodName := ⟨RX1, "isOneOf", "(III)Z"⟩
abbrev cX1_breakWords : ByteArray := prog_3_method_27_code
def yX1_breakWords : MethodName := ⟨RX1, "breakWords", "(I)V"⟩
abbrev cX1_bringDown : ByteArray := prog_3_method_28_code
def yX1_bringDown : MethodName := ⟨RX1, "bringDown", "()I"⟩
abbrev cX1_pass : ByteArray := prog_3_method_29_code
def yX1_pass : MethodName := ⟨RX1, "pass", "(I)V"⟩
def RX2 : String := "HostageKings$Route"
def TX2 : u_T := fun k => match k with
  | 0 => ("HostageKings$Route", "trial", "LHostageKings$Realm;", true)
  | 1 => ("HostageKings$Route", "movers", "[I", true)
  | 2 => ("HostageKings$Route", "aims", "[I", true)
  | 3 => ("HostageKings$Route", "leadsOn", "[Z", true)
  | 4 => ("HostageKings$Route", "order", "[I", true)
  | _ => ("HostageKings$Route", "moved", "I", false)
def tyX2 : Nat → FieldType := fun k => match k with
  | 0 => .object "HostageKings$Realm"
  | 1 => .array .int
  | 2 => .array .int
  | 3 => .array .boolean
  | 4 => .array .int
  | _ => .int
abbrev wsX20 : List Cond := u_ws RX2 TX2 6
theorem nmX2 : ∀ a, a < 6 → ∀ b, b < 6 → a ≠ b → (TX2 a).2.1 ≠ (TX2 b).2.1 := by decide +kernel
theorem tyX2_ok : ∀ k, k < 6 → parseFieldDescriptor (TX2 k).2.2.1 = some (tyX2 k) := by decide +kernel
abbrev cX2_init : ByteArray := prog_4_method_1_code
def yX2_init : MethodName := ⟨RX2, "<init>", "()V"⟩
abbrev cX2_aim : ByteArray := prog_4_method_2_code
def yX2_aim : MethodName := ⟨RX2, "aim", "(LHostageKings$Realm;LHostageKings$Sheet;)V"⟩
abbrev cX2_movesDead : ByteArray := prog_4_method_3_code
def yX2_movesDead : MethodName := ⟨RX2, "movesDead", "(LHostageKings$Realm;)Z"⟩
abbrev cX2_find : ByteArray := prog_4_method_4_code
def yX2_find : MethodName := ⟨RX2, "find", "(LHostageKings$Realm;)Z"⟩
abbrev cX2_firstStep : ByteArray := prog_4_method_5_code
def yX2_firstStep : MethodName := ⟨RX2, "firstStep", "(I)I"⟩
abbrev cX2_holdsAt : ByteArray := prog_4_method_6_code
def yX2_holdsAt : MethodName := ⟨RX2, "holdsAt", "(LHostageKings$Realm;I)Z"⟩
def RX3 : String := "HostageKings$Sheet"
def TX3 : u_T := fun k => match k with
  | 0 => ("HostageKings$Sheet", "numbers", "[J", true)
  | 1 => ("HostageKings$Sheet", "bits", "I", false)
  | _ => ("HostageKings$Sheet", "size", "I", false)
def tyX3 : Nat → FieldType := fun k => match k with
  | 0 => .array .long
  | 1 => .int
  | _ => .int
abbrev wsX30 : List Cond := u_ws RX3 TX3 3
theorem nmX3 : ∀ a, a < 3 → ∀ b, b < 3 → a ≠ b → (TX3 a).2.1 ≠ (TX3 b).2.1 := by decide +kernel
theorem tyX3_ok : ∀ k, k < 3 → parseFieldDescriptor (TX3 k).2.2.1 = some (tyX3 k) := by decide +kernel
abbrev cX3_init : ByteArray := prog_5_method_1_code
def yX3_init : MethodName := ⟨RX3, "<init>", "()V"⟩
abbrev cX3_isMissing : ByteArray := prog_5_method_2_code
def yX3_isMissing : MethodName := ⟨RX3, "isMissing", "()Z"⟩
abbrev cX3_lay : ByteArray := prog_5_method_3_code
def yX3_lay : MethodName := ⟨RX3, "lay", "(II)V"⟩
abbrev cX3_put : ByteArray := prog_5_method_4_code
def yX3_put : MethodName := ⟨RX3, "put", "(IJ)V"⟩
abbrev cX3_hasRow : ByteArray := prog_5_method_5_code
def yX3_hasRow : MethodName := ⟨RX3, "hasRow", "(II)Z"⟩
abbrev cX3_holderAt : ByteArray := prog_5_method_6_code
def yX3_holderAt : MethodName := ⟨RX3, "holderAt", "(I)I"⟩
def RX4 : String := "HostageKings$Tape"
def TX4 : u_T := fun k => match k with
  | 0 => ("HostageKings$Tape", "bytes", "[I", true)
  | 1 => ("HostageKings$Tape", "size", "I", false)
  | 2 => ("HostageKings$Tape", "token", "I", false)
  | 3 => ("HostageKings$Tape", "start", "I", false)
  | 4 => ("HostageKings$Tape", "end", "I", false)
  | _ => ("HostageKings$Tape", "value", "I", false)
def tyX4 : Nat → FieldType := fun k => match k with
  | 0 => .array .int
  | 1 => .int
  | 2 => .int
  | 3 => .int
  | 4 => .int
  | _ => .int
abbrev wsX40 : List Cond := u_ws RX4 TX4 6
theorem nmX4 : ∀ a, a < 6 → ∀ b, b < 6 → a ≠ b → (TX4 a).2.1 ≠ (TX4 b).2.1 := by decide +kernel
theorem tyX4_ok : ∀ k, k < 6 → parseFieldDescriptor (TX4 k).2.2.1 = some (tyX4 k) := by decide +kernel
abbrev cX4_init : ByteArray := prog_6_method_1_code
def yX4_init : MethodName := ⟨RX4, "<init>", "()V"⟩
abbrev cX4_add : ByteArray := prog_6_method_2_code
def yX4_add : MethodName := ⟨RX4, "add", "(I)V"⟩
abbrev cX4_readInto : ByteArray := prog_6_method_3_code
def yX4_readInto : MethodName := ⟨RX4, "readInto", "(LHostageKings$Realm;)I"⟩
abbrev cX4_readItem : ByteArray := prog_6_method_4_code
def yX4_readItem : MethodName := ⟨RX4, "readItem", "(LHostageKings$Realm;)Z"⟩
abbrev cX4_readFear : ByteArray := prog_6_method_5_code
def yX4_readFear : MethodName := ⟨RX4, "readFear", "(LHostageKings$Realm;)Z"⟩
abbrev cX4_readChild : ByteArray := prog_6_method_6_code
def yX4_readChild : MethodName := ⟨RX4, "readChild", "(LHostageKings$Realm;I)Z"⟩
abbrev cX4_readTreaty : ByteArray := prog_6_method_7_code
def yX4_readTreaty : MethodName := ⟨RX4, "readTreaty", "(LHostageKings$Realm;)Z"⟩
abbrev cX4_takeWord : ByteArray := prog_6_method_8_code
def yX4_takeWord : MethodName := ⟨RX4, "takeWord", "(Ljava/lang/String;)Z"⟩
abbrev cX4_takeNumber : ByteArray := prog_6_method_9_code
def yX4_takeNumber : MethodName := ⟨RX4, "takeNumber", "(I)I"⟩
abbrev cX4_isWord : ByteArray := prog_6_method_10_code
def yX4_isWord : MethodName := ⟨RX4, "isWord", "(Ljava/lang/String;)Z"⟩
abbrev cX4_advance : ByteArray := prog_6_method_11_code
def yX4_advance : MethodName := ⟨RX4, "advance", "()V"⟩
abbrev cX4_isLetter : ByteArray := prog_6_method_12_code
def yX4_isLetter : MethodName := ⟨RX4, "isLetter", "(I)Z"⟩
abbrev cX4_isDigit : ByteArray := prog_6_method_13_code
def yX4_isDigit : MethodName := ⟨RX4, "isDigit", "(I)Z"⟩
abbrev cX4_nameOfKind : ByteArray := prog_6_method_14_code
def yX4_nameOfKind : MethodName := ⟨RX4, "nameOfKind", "(I)Ljava/lang/String;"⟩
def RX5 : String := "HostageKings"
def TX5 : u_T := fun k => match k with
  | 0 => ("HostageKings", "realm", "LHostageKings$Realm;", true)
  | 1 => ("HostageKings", "kept", "LHostageKings$Realm;", true)
  | 2 => ("HostageKings", "trial", "LHostageKings$Realm;", true)
  | 3 => ("HostageKings", "planner", "LHostageKings$Planner;", true)
  | 4 => ("HostageKings", "route", "LHostageKings$Route;", true)
  | 5 => ("HostageKings", "tape", "LHostageKings$Tape;", true)
  | 6 => ("HostageKings", "sheets", "[LHostageKings$Sheet;", true)
  | 7 => ("HostageKings", "answered", "[I", true)
  | _ => ("HostageKings", "isKept", "Z", false)
def tyX5 : Nat → FieldType := fun k => match k with
  | 0 => .object "HostageKings$Realm"
  | 1 => .object "HostageKings$Realm"
  | 2 => .object "HostageKings$Realm"
  | 3 => .object "HostageKings$Planner"
  | 4 => .object "HostageKings$Route"
  | 5 => .object "HostageKings$Tape"
  | 6 => .array (.object "HostageKings$Sheet")
  | 7 => .array .int
  | _ => .boolean
abbrev wsX50 : List Cond := u_ws RX5 TX5 9
theorem nmX5 : ∀ a, a < 9 → ∀ b, b < 9 → a ≠ b → (TX5 a).2.1 ≠ (TX5 b).2.1 := by decide +kernel
theorem tyX5_ok : ∀ k, k < 9 → parseFieldDescriptor (TX5 k).2.2.1 = some (tyX5 k) := by decide +kernel
abbrev cX5_init : ByteArray := prog_1_method_1_code
def yX5_init : MethodName := ⟨RX5, "<init>", "()V"⟩
abbrev cX5_fear : ByteArray := prog_1_method_2_code
def yX5_fear : MethodName := ⟨RX5, "fear", "(II)I"⟩
abbrev cX5_kingOf : ByteArray := prog_1_method_3_code
def yX5_kingOf : MethodName := ⟨RX5, "kingOf", "(II)I"⟩
abbrev cX5_child : ByteArray := prog_1_method_4_code
def yX5_child : MethodName := ⟨RX5, "child", "(III)I"⟩
abbrev cX5_of : ByteArray := prog_1_method_5_code
def yX5_of : MethodName := ⟨RX5, "of", "(II)I"⟩
abbrev cX5_move : ByteArray := prog_1_method_6_code
def yX5_move : MethodName := ⟨RX5, "move", "(II)I"⟩
abbrev cX5_worth : ByteArray := prog_1_method_7_code
def yX5_worth : MethodName := ⟨RX5, "worth", "(II)I"⟩
abbrev cX5_turn : ByteArray := prog_1_method_8_code
def yX5_turn : MethodName := ⟨RX5, "turn", "(II)I"⟩
abbrev cX5_as : ByteArray := prog_1_method_9_code
def yX5_as : MethodName := ⟨RX5, "as", "(II)I"⟩
abbrev cX5_dies : ByteArray := prog_1_method_10_code
def yX5_dies : MethodName := ⟨RX5, "dies", "(I)I"⟩
abbrev cX5_swap : ByteArray := prog_1_method_11_code
def yX5_swap : MethodName := ⟨RX5, "swap", "(II)I"⟩
abbrev cX5_treaty : ByteArray := prog_1_method_12_code
def yX5_treaty : MethodName := ⟨RX5, "treaty", "(IIII)I"⟩
abbrev cX5_treatyOf : ByteArray := prog_1_method_13_code
def yX5_treatyOf : MethodName := ⟨RX5, "treatyOf", "(II)I"⟩
abbrev cX5_gain : ByteArray := prog_1_method_14_code
def yX5_gain : MethodName := ⟨RX5, "gain", "(II)I"⟩
abbrev cX5_pledge : ByteArray := prog_1_method_15_code
def yX5_pledge : MethodName := ⟨RX5, "pledge", "(II)I"⟩
abbrev cX5_ease : ByteArray := prog_1_method_16_code
def yX5_ease : MethodName := ⟨RX5, "ease", "(I)I"⟩
abbrev cX5_loose : ByteArray := prog_1_method_17_code
def yX5_loose : MethodName := ⟨RX5, "loose", "()I"⟩
abbrev cX5_pact : ByteArray := prog_1_method_18_code
def yX5_pact : MethodName := ⟨RX5, "pact", "(II)I"⟩
abbrev cX5_plot : ByteArray := prog_1_method_19_code
def yX5_plot : MethodName := ⟨RX5, "plot", "()I"⟩
abbrev cX5_fall : ByteArray := prog_1_method_20_code
def yX5_fall : MethodName := ⟨RX5, "fall", "()I"⟩
abbrev cX5_wouldFall : ByteArray := prog_1_method_21_code
def yX5_wouldFall : MethodName := ⟨RX5, "wouldFall", "(I)I"⟩
abbrev cX5_pulls : ByteArray := prog_1_method_22_code
def yX5_pulls : MethodName := ⟨RX5, "pulls", "(I)I"⟩
abbrev cX5_keystone : ByteArray := prog_1_method_23_code
def yX5_keystone : MethodName := ⟨RX5, "keystone", "()I"⟩
abbrev cX5_months : ByteArray := prog_1_method_24_code
def yX5_months : MethodName := ⟨RX5, "months", "(I)I"⟩
abbrev cX5_now : ByteArray := prog_1_method_25_code
def yX5_now : MethodName := ⟨RX5, "now", "(I)I"⟩
abbrev cX5_on : ByteArray := prog_1_method_26_code
def yX5_on : MethodName := ⟨RX5, "on", "(I)I"⟩
abbrev cX5_moves : ByteArray := prog_1_method_27_code
def yX5_moves : MethodName := ⟨RX5, "moves", "(I)I"⟩
abbrev cX5_best : ByteArray := prog_1_method_28_code
def yX5_best : MethodName := ⟨RX5, "best", "(I)I"⟩
abbrev cX5_key : ByteArray := prog_1_method_29_code
def yX5_key : MethodName := ⟨RX5, "key", "(I)I"⟩
abbrev cX5_toFree : ByteArray := prog_1_method_30_code
def yX5_toFree : MethodName := ⟨RX5, "toFree", "(II)I"⟩
abbrev cX5_way : ByteArray := prog_1_method_31_code
def yX5_way : MethodName := ⟨RX5, "way", "(II)I"⟩
abbrev cX5_feed : ByteArray := prog_1_method_32_code
def yX5_feed : MethodName := ⟨RX5, "feed", "(II)I"⟩
abbrev cX5_wipe : ByteArray := prog_1_method_33_code
def yX5_wipe : MethodName := ⟨RX5, "wipe", "()I"⟩
abbrev cX5_court : ByteArray := prog_1_method_34_code
def yX5_court : MethodName := ⟨RX5, "court", "()I"⟩
abbrev cX5_sheet : ByteArray := prog_1_method_35_code
def yX5_sheet : MethodName := ⟨RX5, "sheet", "(III)I"⟩
abbrev cX5_write : ByteArray := prog_1_method_36_code
def yX5_write : MethodName := ⟨RX5, "write", "(IIJ)J"⟩
abbrev cX5_copy : ByteArray := prog_1_method_37_code
def yX5_copy : MethodName := ⟨RX5, "copy", "(IIIII)I"⟩
abbrev cX5_lays : ByteArray := prog_1_method_38_code
def yX5_lays : MethodName := ⟨RX5, "lays", "(I)I"⟩
abbrev cX5_roll : ByteArray := prog_1_method_39_code
def yX5_roll : MethodName := ⟨RX5, "roll", "(I)I"⟩
abbrev cX5_read : ByteArray := prog_1_method_40_code
def yX5_read : MethodName := ⟨RX5, "read", "(I)I"⟩
abbrev cX5_image : ByteArray := prog_1_method_41_code
def yX5_image : MethodName := ⟨RX5, "image", "()I"⟩
abbrev cX5_undo : ByteArray := prog_1_method_42_code
def yX5_undo : MethodName := ⟨RX5, "undo", "()I"⟩
abbrev cX5_tear : ByteArray := prog_1_method_43_code
def yX5_tear : MethodName := ⟨RX5, "tear", "()I"⟩
abbrev cX5_count : ByteArray := prog_1_method_44_code
def yX5_count : MethodName := ⟨RX5, "count", "(I)I"⟩
abbrev cX5_status : ByteArray := prog_1_method_45_code
def yX5_status : MethodName := ⟨RX5, "status", "(I)I"⟩
abbrev cX5_finding : ByteArray := prog_1_method_46_code
def yX5_finding : MethodName := ⟨RX5, "finding", "(I)I"⟩
abbrev cX5_isWithin : ByteArray := prog_1_method_47_code
def yX5_isWithin : MethodName := ⟨RX5, "isWithin", "(II)Z"⟩
abbrev cX5_isKing : ByteArray := prog_1_method_48_code
def yX5_isKing : MethodName := ⟨RX5, "isKing", "(I)Z"⟩
abbrev cX5_areTwoKings : ByteArray := prog_1_method_49_code
def yX5_areTwoKings : MethodName := ⟨RX5, "areTwoKings", "(II)Z"⟩
abbrev cX5_isKind : ByteArray := prog_1_method_50_code
def yX5_isKind : MethodName := ⟨RX5, "isKind", "(I)Z"⟩
abbrev cX5_isChild : ByteArray := prog_1_method_51_code
def yX5_isChild : MethodName := ⟨RX5, "isChild", "(I)Z"⟩
abbrev cX5_isTreaty : ByteArray := prog_1_method_52_code
def yX5_isTreaty : MethodName := ⟨RX5, "isTreaty", "(I)Z"⟩
abbrev cX5_isKindUnder : ByteArray := prog_1_method_53_code
def yX5_isKindUnder : MethodName := ⟨RX5, "isKindUnder", "(II)Z"⟩
abbrev cX5_sheetAt : ByteArray := prog_1_method_54_code
def yX5_sheetAt : MethodName := ⟨RX5, "sheetAt", "(I)LHostageKings$Sheet;"⟩
abbrev cX5_broughtDownWith : ByteArray := prog_1_method_55_code
def yX5_broughtDownWith : MethodName := ⟨RX5, "broughtDownWith", "(I)I"⟩
def RX6 : String := "HostageKingsModel"
def TX6 : u_T := fun k => match k with
  | 0 => ("HostageKingsModel", "fears", "[I", true)
  | 1 => ("HostageKingsModel", "children", "I", false)
  | 2 => ("HostageKingsModel", "kinds", "[I", true)
  | 3 => ("HostageKingsModel", "fathers", "[I", true)
  | 4 => ("HostageKingsModel", "worths", "[I", true)
  | 5 => ("HostageKingsModel", "treaties", "I", false)
  | 6 => ("HostageKingsModel", "bys", "[I", true)
  | 7 => ("HostageKingsModel", "tos", "[I", true)
  | 8 => ("HostageKingsModel", "gains", "[I", true)
  | 9 => ("HostageKingsModel", "untils", "[I", true)
  | 10 => ("HostageKingsModel", "row", "[I", true)
  | 11 => ("HostageKingsModel", "at", "I", false)
  | 12 => ("HostageKingsModel", "found", "[I", true)
  | 13 => ("HostageKingsModel", "pledges", "[I", true)
  | 14 => ("HostageKingsModel", "rounds", "I", false)
  | 15 => ("HostageKingsModel", "firstRound", "I", false)
  | 16 => ("HostageKingsModel", "allRounds", "I", false)
  | 17 => ("HostageKingsModel", "planMany", "I", false)
  | 18 => ("HostageKingsModel", "planFirst", "I", false)
  | 19 => ("HostageKingsModel", "planSecond", "I", false)
  | 20 => ("HostageKingsModel", "moved", "[I", true)
  | 21 => ("HostageKingsModel", "movedTo8", "[I", true)
  | 22 => ("HostageKingsModel", "goesOn", "[Z", true)
  | 23 => ("HostageKingsModel", "movedMany", "I", false)
  | 24 => ("HostageKingsModel", "tape", "[I", true)
  | 25 => ("HostageKingsModel", "tapeMany", "I", false)
  | 26 => ("HostageKingsModel", "sort", "I", false)
  | 27 => ("HostageKingsModel", "begins", "I", false)
  | 28 => ("HostageKingsModel", "tokenEnds", "I", false)
  | 29 => ("HostageKingsModel", "word", "J", false)
  | 30 => ("HostageKingsModel", "value", "I", false)
  | 31 => ("HostageKingsModel", "good", "Z", false)
  | 32 => ("HostageKingsModel", "bitsOf", "[I", true)
  | 33 => ("HostageKingsModel", "sizeOf", "[I", true)
  | 34 => ("HostageKingsModel", "sheets", "[J", true)
  | 35 => ("HostageKingsModel", "lent", "[J", true)
  | 36 => ("HostageKingsModel", "image", "[I", true)
  | 37 => ("HostageKingsModel", "before", "[I", true)
  | 38 => ("HostageKingsModel", "isKept", "Z", false)
  | 39 => ("HostageKingsModel", "movedTo", "I", false)
  | _ => ("HostageKingsModel", "single", "[I", true)
def tyX6 : Nat → FieldType := fun k => match k with
  | 0 => .array .int
  | 1 => .int
  | 2 => .array .int
  | 3 => .array .int
  | 4 => .array .int
  | 5 => .int
  | 6 => .array .int
  | 7 => .array .int
  | 8 => .array .int
  | 9 => .array .int
  | 10 => .array .int
  | 11 => .int
  | 12 => .array .int
  | 13 => .array .int
  | 14 => .int
  | 15 => .int
  | 16 => .int
  | 17 => .int
  | 18 => .int
  | 19 => .int
  | 20 => .array .int
  | 21 => .array .int
  | 22 => .array .boolean
  | 23 => .int
  | 24 => .array .int
  | 25 => .int
  | 26 => .int
  | 27 => .int
  | 28 => .int
  | 29 => .long
  | 30 => .int
  | 31 => .boolean
  | 32 => .array .int
  | 33 => .array .int
  | 34 => .array .long
  | 35 => .array .long
  | 36 => .array .int
  | 37 => .array .int
  | 38 => .boolean
  | 39 => .int
  | _ => .array .int
abbrev wsX60 : List Cond := u_ws RX6 TX6 41
theorem nmX6 : ∀ a, a < 41 → ∀ b, b < 41 → a ≠ b → (TX6 a).2.1 ≠ (TX6 b).2.1 := by decide +kernel
theorem tyX6_ok : ∀ k, k < 41 → parseFieldDescriptor (TX6 k).2.2.1 = some (tyX6 k) := by decide +kernel
abbrev cX6_init : ByteArray := prog_8_method_1_code
def yX6_init : MethodName := ⟨RX6, "<init>", "()V"⟩
abbrev cX6_in : ByteArray := prog_8_method_2_code
def yX6_in : MethodName := ⟨RX6, "in", "(III)Z"⟩
abbrev cX6_finds : ByteArray := prog_8_method_3_code
def yX6_finds : MethodName := ⟨RX6, "finds", "(I)I"⟩
abbrev cX6_isKing : ByteArray := prog_8_method_4_code
def yX6_isKing : MethodName := ⟨RX6, "isKing", "(I)Z"⟩
abbrev cX6_isChild : ByteArray := prog_8_method_5_code
def yX6_isChild : MethodName := ⟨RX6, "isChild", "(I)Z"⟩
abbrev cX6_isKind : ByteArray := prog_8_method_6_code
def yX6_isKind : MethodName := ⟨RX6, "isKind", "(I)Z"⟩
abbrev cX6_isTold : ByteArray := prog_8_method_7_code
def yX6_isTold : MethodName := ⟨RX6, "isTold", "(I)Z"⟩
abbrev cX6_isLong : ByteArray := prog_8_method_8_code
def yX6_isLong : MethodName := ⟨RX6, "isLong", "(I)Z"⟩
abbrev cX6_isTreaty : ByteArray := prog_8_method_9_code
def yX6_isTreaty : MethodName := ⟨RX6, "isTreaty", "(I)Z"⟩
abbrev cX6_has : ByteArray := prog_8_method_10_code
def yX6_has : MethodName := ⟨RX6, "has", "(II)Z"⟩
abbrev cX6_ones : ByteArray := prog_8_method_11_code
def yX6_ones : MethodName := ⟨RX6, "ones", "(I)I"⟩
abbrev cX6_lives : ByteArray := prog_8_method_12_code
def yX6_lives : MethodName := ⟨RX6, "lives", "(I)Z"⟩
abbrev cX6_holder : ByteArray := prog_8_method_13_code
def yX6_holder : MethodName := ⟨RX6, "holder", "(I)I"⟩
abbrev cX6_isHome : ByteArray := prog_8_method_14_code
def yX6_isHome : MethodName := ⟨RX6, "isHome", "(I)Z"⟩
abbrev cX6_isInForce : ByteArray := prog_8_method_15_code
def yX6_isInForce : MethodName := ⟨RX6, "isInForce", "(I)Z"⟩
abbrev cX6_hasTwinAtHome : ByteArray := prog_8_method_16_code
def yX6_hasTwinAtHome : MethodName := ⟨RX6, "hasTwinAtHome", "(I)Z"⟩
abbrev cX6_loss : ByteArray := prog_8_method_17_code
def yX6_loss : MethodName := ⟨RX6, "loss", "(I)I"⟩
abbrev cX6_findPledges : ByteArray := prog_8_method_18_code
def yX6_findPledges : MethodName := ⟨RX6, "findPledges", "()V"⟩
abbrev cX6_easeOf : ByteArray := prog_8_method_19_code
def yX6_easeOf : MethodName := ⟨RX6, "easeOf", "(I)I"⟩
abbrev cX6_looseSet : ByteArray := prog_8_method_20_code
def yX6_looseSet : MethodName := ⟨RX6, "looseSet", "()I"⟩
abbrev cX6_forceSet : ByteArray := prog_8_method_21_code
def yX6_forceSet : MethodName := ⟨RX6, "forceSet", "()I"⟩
abbrev cX6_held : ByteArray := prog_8_method_22_code
def yX6_held : MethodName := ⟨RX6, "held", "(II)I"⟩
abbrev cX6_deadSet : ByteArray := prog_8_method_23_code
def yX6_deadSet : MethodName := ⟨RX6, "deadSet", "()I"⟩
abbrev cX6_fear : ByteArray := prog_8_method_24_code
def yX6_fear : MethodName := ⟨RX6, "fear", "(II)I"⟩
abbrev cX6_kingOf : ByteArray := prog_8_method_25_code
def yX6_kingOf : MethodName := ⟨RX6, "kingOf", "(II)I"⟩
abbrev cX6_addChild : ByteArray := prog_8_method_26_code
def yX6_addChild : MethodName := ⟨RX6, "addChild", "(IIII)V"⟩
abbrev cX6_child : ByteArray := prog_8_method_27_code
def yX6_child : MethodName := ⟨RX6, "child", "(III)I"⟩
abbrev cX6_of : ByteArray := prog_8_method_28_code
def yX6_of : MethodName := ⟨RX6, "of", "(II)I"⟩
abbrev cX6_move : ByteArray := prog_8_method_29_code
def yX6_move : MethodName := ⟨RX6, "move", "(II)I"⟩
abbrev cX6_worth : ByteArray := prog_8_method_30_code
def yX6_worth : MethodName := ⟨RX6, "worth", "(II)I"⟩
abbrev cX6_turn : ByteArray := prog_8_method_31_code
def yX6_turn : MethodName := ⟨RX6, "turn", "(II)I"⟩
abbrev cX6_isUnder : ByteArray := prog_8_method_32_code
def yX6_isUnder : MethodName := ⟨RX6, "isUnder", "(II)Z"⟩
abbrev cX6_as : ByteArray := prog_8_method_33_code
def yX6_as : MethodName := ⟨RX6, "as", "(II)I"⟩
abbrev cX6_dies : ByteArray := prog_8_method_34_code
def yX6_dies : MethodName := ⟨RX6, "dies", "(I)I"⟩
abbrev cX6_swap : ByteArray := prog_8_method_35_code
def yX6_swap : MethodName := ⟨RX6, "swap", "(II)I"⟩
abbrev cX6_addTreaty : ByteArray := prog_8_method_36_code
def yX6_addTreaty : MethodName := ⟨RX6, "addTreaty", "(IIII)V"⟩
abbrev cX6_treaty : ByteArray := prog_8_method_37_code
def yX6_treaty : MethodName := ⟨RX6, "treaty", "(IIII)I"⟩
abbrev cX6_treatyOf : ByteArray := prog_8_method_38_code
def yX6_treatyOf : MethodName := ⟨RX6, "treatyOf", "(II)I"⟩
abbrev cX6_gain : ByteArray := prog_8_method_39_code
def yX6_gain : MethodName := ⟨RX6, "gain", "(II)I"⟩
abbrev cX6_areTwo : ByteArray := prog_8_method_40_code
def yX6_areTwo : MethodName := ⟨RX6, "areTwo", "(II)Z"⟩
abbrev cX6_pledge : ByteArray := prog_8_method_41_code
def yX6_pledge : MethodName := ⟨RX6, "pledge", "(II)I"⟩
abbrev cX6_ease : ByteArray := prog_8_method_42_code
def yX6_ease : MethodName := ⟨RX6, "ease", "(I)I"⟩
abbrev cX6_loose : ByteArray := prog_8_method_43_code
def yX6_loose : MethodName := ⟨RX6, "loose", "()I"⟩
abbrev cX6_pays : ByteArray := prog_8_method_44_code
def yX6_pays : MethodName := ⟨RX6, "pays", "(II)Z"⟩
abbrev cX6_pact : ByteArray := prog_8_method_45_code
def yX6_pact : MethodName := ⟨RX6, "pact", "(II)I"⟩
abbrev cX6_plot : ByteArray := prog_8_method_46_code
def yX6_plot : MethodName := ⟨RX6, "plot", "()I"⟩
abbrev cX6_breaks : ByteArray := prog_8_method_47_code
def yX6_breaks : MethodName := ⟨RX6, "breaks", "(I)V"⟩
abbrev cX6_falls : ByteArray := prog_8_method_48_code
def yX6_falls : MethodName := ⟨RX6, "falls", "()V"⟩
abbrev cX6_lends : ByteArray := prog_8_method_49_code
def yX6_lends : MethodName := ⟨RX6, "lends", "()V"⟩
abbrev cX6_fall : ByteArray := prog_8_method_50_code
def yX6_fall : MethodName := ⟨RX6, "fall", "()I"⟩
abbrev cX6_wouldFall : ByteArray := prog_8_method_51_code
def yX6_wouldFall : MethodName := ⟨RX6, "wouldFall", "(I)I"⟩
abbrev cX6_pullsDown : ByteArray := prog_8_method_52_code
def yX6_pullsDown : MethodName := ⟨RX6, "pullsDown", "(I)I"⟩
abbrev cX6_pulls : ByteArray := prog_8_method_53_code
def yX6_pulls : MethodName := ⟨RX6, "pulls", "(I)I"⟩
abbrev cX6_keystone : ByteArray := prog_8_method_54_code
def yX6_keystone : MethodName := ⟨RX6, "keystone", "()I"⟩
abbrev cX6_brokenMany : ByteArray := prog_8_method_55_code
def yX6_brokenMany : MethodName := ⟨RX6, "brokenMany", "()I"⟩
abbrev cX6_go : ByteArray := prog_8_method_56_code
def yX6_go : MethodName := ⟨RX6, "go", "(I)V"⟩
abbrev cX6_isLate : ByteArray := prog_8_method_57_code
def yX6_isLate : MethodName := ⟨RX6, "isLate", "(I)Z"⟩
abbrev cX6_months : ByteArray := prog_8_method_58_code
def yX6_months : MethodName := ⟨RX6, "months", "(I)I"⟩
abbrev cX6_now : ByteArray := prog_8_method_59_code
def yX6_now : MethodName := ⟨RX6, "now", "(I)I"⟩
abbrev cX6_on : ByteArray := prog_8_method_60_code
def yX6_on : MethodName := ⟨RX6, "on", "(I)I"⟩
abbrev cX6_findsOne : ByteArray := prog_8_method_61_code
def yX6_findsOne : MethodName := ⟨RX6, "findsOne", "()Z"⟩
abbrev cX6_findsBehind : ByteArray := prog_8_method_62_code
def yX6_findsBehind : MethodName := ⟨RX6, "findsBehind", "(I)Z"⟩
abbrev cX6_findsTwo : ByteArray := prog_8_method_63_code
def yX6_findsTwo : MethodName := ⟨RX6, "findsTwo", "()Z"⟩
abbrev cX6_moves : ByteArray := prog_8_method_64_code
def yX6_moves : MethodName := ⟨RX6, "moves", "(I)I"⟩
abbrev cX6_looseWith : ByteArray := prog_8_method_65_code
def yX6_looseWith : MethodName := ⟨RX6, "looseWith", "(II)I"⟩
abbrev cX6_best : ByteArray := prog_8_method_66_code
def yX6_best : MethodName := ⟨RX6, "best", "(I)I"⟩
abbrev cX6_key : ByteArray := prog_8_method_67_code
def yX6_key : MethodName := ⟨RX6, "key", "(I)I"⟩
abbrev cX6_toFree : ByteArray := prog_8_method_68_code
def yX6_toFree : MethodName := ⟨RX6, "toFree", "(II)I"⟩
abbrev cX6_holdsWith : ByteArray := prog_8_method_69_code
def yX6_holdsWith : MethodName := ⟨RX6, "holdsWith", "(I)Z"⟩
abbrev cX6_findWay : ByteArray := prog_8_method_70_code
def yX6_findWay : MethodName := ⟨RX6, "findWay", "()V"⟩
abbrev cX6_movedAs : ByteArray := prog_8_method_71_code
def yX6_movedAs : MethodName := ⟨RX6, "movedAs", "(I)I"⟩
abbrev cX6_way : ByteArray := prog_8_method_72_code
def yX6_way : MethodName := ⟨RX6, "way", "(II)I"⟩
abbrev cX6_feed : ByteArray := prog_8_method_73_code
def yX6_feed : MethodName := ⟨RX6, "feed", "(II)I"⟩
abbrev cX6_wipe : ByteArray := prog_8_method_74_code
def yX6_wipe : MethodName := ⟨RX6, "wipe", "()I"⟩
abbrev cX6_byteAt : ByteArray := prog_8_method_75_code
def yX6_byteAt : MethodName := ⟨RX6, "byteAt", "(I)I"⟩
abbrev cX6_isLetter : ByteArray := prog_8_method_76_code
def yX6_isLetter : MethodName := ⟨RX6, "isLetter", "(I)Z"⟩
abbrev cX6_isDigit : ByteArray := prog_8_method_77_code
def yX6_isDigit : MethodName := ⟨RX6, "isDigit", "(I)Z"⟩
abbrev cX6_advance : ByteArray := prog_8_method_78_code
def yX6_advance : MethodName := ⟨RX6, "advance", "()V"⟩
abbrev cX6_isWord : ByteArray := prog_8_method_79_code
def yX6_isWord : MethodName := ⟨RX6, "isWord", "(J)Z"⟩
abbrev cX6_kindHere : ByteArray := prog_8_method_80_code
def yX6_kindHere : MethodName := ⟨RX6, "kindHere", "()I"⟩
abbrev cX6_wantNumber : ByteArray := prog_8_method_81_code
def yX6_wantNumber : MethodName := ⟨RX6, "wantNumber", "(II)I"⟩
abbrev cX6_mayWant : ByteArray := prog_8_method_82_code
def yX6_mayWant : MethodName := ⟨RX6, "mayWant", "(JIII)I"⟩
abbrev cX6_wantWord : ByteArray := prog_8_method_83_code
def yX6_wantWord : MethodName := ⟨RX6, "wantWord", "(J)V"⟩
abbrev cX6_wantKing : ByteArray := prog_8_method_84_code
def yX6_wantKing : MethodName := ⟨RX6, "wantKing", "()V"⟩
abbrev cX6_wantChild : ByteArray := prog_8_method_85_code
def yX6_wantChild : MethodName := ⟨RX6, "wantChild", "(I)V"⟩
abbrev cX6_wantTreaty : ByteArray := prog_8_method_86_code
def yX6_wantTreaty : MethodName := ⟨RX6, "wantTreaty", "()V"⟩
abbrev cX6_wantItem : ByteArray := prog_8_method_87_code
def yX6_wantItem : MethodName := ⟨RX6, "wantItem", "()V"⟩
abbrev cX6_court : ByteArray := prog_8_method_88_code
def yX6_court : MethodName := ⟨RX6, "court", "()I"⟩
abbrev cX6_isSheet : ByteArray := prog_8_method_89_code
def yX6_isSheet : MethodName := ⟨RX6, "isSheet", "(I)Z"⟩
abbrev cX6_narrow : ByteArray := prog_8_method_90_code
def yX6_narrow : MethodName := ⟨RX6, "narrow", "(IJ)J"⟩
abbrev cX6_sheet : ByteArray := prog_8_method_91_code
def yX6_sheet : MethodName := ⟨RX6, "sheet", "(III)I"⟩
abbrev cX6_write : ByteArray := prog_8_method_92_code
def yX6_write : MethodName := ⟨RX6, "write", "(IIJ)J"⟩
abbrev cX6_isPart : ByteArray := prog_8_method_93_code
def yX6_isPart : MethodName := ⟨RX6, "isPart", "(III)Z"⟩
abbrev cX6_copy : ByteArray := prog_8_method_94_code
def yX6_copy : MethodName := ⟨RX6, "copy", "(IIIII)I"⟩
abbrev cX6_lays : ByteArray := prog_8_method_95_code
def yX6_lays : MethodName := ⟨RX6, "lays", "(I)I"⟩
abbrev cX6_rolled : ByteArray := prog_8_method_96_code
def yX6_rolled : MethodName := ⟨RX6, "rolled", "(I)I"⟩
abbrev cX6_roll : ByteArray := prog_8_method_97_code
def yX6_roll : MethodName := ⟨RX6, "roll", "(I)I"⟩
abbrev cX6_read : ByteArray := prog_8_method_98_code
def yX6_read : MethodName := ⟨RX6, "read", "(I)I"⟩
abbrev cX6_moveRow : ByteArray := prog_8_method_99_code
def yX6_moveRow : MethodName := ⟨RX6, "moveRow", "([IIZ[I)V"⟩
abbrev cX6_moveAll : ByteArray := prog_8_method_100_code
def yX6_moveAll : MethodName := ⟨RX6, "moveAll", "(Z[I)V"⟩
abbrev cX6_image : ByteArray := prog_8_method_101_code
def yX6_image : MethodName := ⟨RX6, "image", "()I"⟩
abbrev cX6_undo : ByteArray := prog_8_method_102_code
def yX6_undo : MethodName := ⟨RX6, "undo", "()I"⟩
abbrev cX6_tear : ByteArray := prog_8_method_103_code
def yX6_tear : MethodName := ⟨RX6, "tear", "()I"⟩
abbrev cX6_count : ByteArray := prog_8_method_104_code
def yX6_count : MethodName := ⟨RX6, "count", "(I)I"⟩
abbrev cX6_status : ByteArray := prog_8_method_105_code
def yX6_status : MethodName := ⟨RX6, "status", "(I)I"⟩
def RJ6 : String := "java/lang/Integer"
abbrev cJ6_bitCount_0f7a4 : ByteArray := prog_9_method_49_code
def yJ6_bitCount_0f7a4 : MethodName := ⟨RJ6, "bitCount", "(I)I"⟩
def RJ9 : String := "java/lang/Math"
abbrev cJ9_max_7cf53 : ByteArray := prog_10_method_65_code
def yJ9_max_7cf53 : MethodName := ⟨RJ9, "max", "(II)I"⟩
abbrev cJ9_min_7cf53 : ByteArray := prog_10_method_69_code
def yJ9_min_7cf53 : MethodName := ⟨RJ9, "min", "(II)I"⟩
def RJ0 : String := "java/lang/String"
abbrev cJ0_length_8abf5 : ByteArray := prog_11_method_54_code
def yJ0_length_8abf5 : MethodName := ⟨RJ0, "length", "()I"⟩
abbrev cJ0_charAt_5068e : ByteArray := prog_11_method_56_code
def yJ0_charAt_5068e : MethodName := ⟨RJ0, "charAt", "(I)C"⟩
abbrev cJ0_coder_7d493 : ByteArray := prog_11_method_152_code
def yJ0_coder_7d493 : MethodName := ⟨RJ0, "coder", "()B"⟩
abbrev cJ0_isLatin1_aae02 : ByteArray := prog_11_method_154_code
def yJ0_isLatin1_aae02 : MethodName := ⟨RJ0, "isLatin1", "()Z"⟩
abbrev cJ0_checkIndex_df160 : ByteArray := prog_11_method_155_code
def yJ0_checkIndex_df160 : MethodName := ⟨RJ0, "checkIndex", "(II)V"⟩
def RJ1 : String := "java/lang/StringLatin1"
abbrev cJ1_charAt_3b067 : ByteArray := prog_12_method_2_code
def yJ1_charAt_3b067 : MethodName := ⟨RJ1, "charAt", "([BI)C"⟩
def RJ2 : String := "java/lang/StringUTF16"
abbrev cJ2_getChar_3b067 : ByteArray := prog_13_method_5_code
def yJ2_getChar_3b067 : MethodName := ⟨RJ2, "getChar", "([BI)C"⟩
abbrev cJ2_length_9d52b : ByteArray := prog_13_method_6_code
def yJ2_length_9d52b : MethodName := ⟨RJ2, "length", "([B)I"⟩
abbrev cJ2_charAt_3b067 : ByteArray := prog_13_method_83_code
def yJ2_charAt_3b067 : MethodName := ⟨RJ2, "charAt", "([BI)C"⟩
abbrev cJ2_checkIndex_2214a : ByteArray := prog_13_method_91_code
def yJ2_checkIndex_2214a : MethodName := ⟨RJ2, "checkIndex", "(I[B)V"⟩
def RJ10 : String := "java/lang/System"
def RJ3 : String := "jdk/internal/util/Preconditions"
abbrev cJ3_checkIndex_8e157 : ByteArray := prog_15_method_11_code
def yJ3_checkIndex_8e157 : MethodName := ⟨RJ3, "checkIndex", "(IILjava/util/function/BiFunction;)I"⟩
def RL : String := "HostageKingsLaw"
abbrev cL_law : ByteArray := code
def yL_law : MethodName := ⟨RL, "law", "([I)Z"⟩
abbrev vwCl : List vw_C := [(RX0, TX0, 4), (RX1, TX1, 15), (RX2, TX2, 6), (RX3, TX3, 3), (RX4, TX4, 6), (RX5, TX5, 9), (RX6, TX6, 41)]
def lw_good : List Cond := lw_tbl.filter goodWord
theorem lw_goodIn {w : Cond} (i : Nat) (h : lw_tbl[i]? = some w) (hg : goodWord w = true) : w ∈ lw_good := List.mem_filter.mpr ⟨List.mem_of_getElem? h, hg⟩
theorem lw_goodG {Ts : List Cond} (h : GoodIn lw_tbl Ts) (hg : Ts.all goodWord = true) : ∀ w ∈ Ts, w ∈ lw_good := fun w hw => List.mem_filter.mpr ⟨(h w hw).1, List.all_eq_true.mp hg w hw⟩
theorem inX0 : ∀ w ∈ wsX00, w ∈ lw_good := lw_goodG (goodIn_r _ [181, 183, 185, 187] (by decide +kernel) (by decide +kernel)) (by decide +kernel)
theorem inX1 : ∀ w ∈ wsX10, w ∈ lw_good := lw_goodG (goodIn_r _ [135, 137, 139, 141, 143, 145, 147, 149, 151, 153, 155, 157, 159, 161, 163] (by decide +kernel) (by decide +kernel)) (by decide +kernel)
theorem inX2 : ∀ w ∈ wsX20, w ∈ lw_good := lw_goodG (goodIn_r _ [206, 208, 210, 212, 214, 216] (by decide +kernel) (by decide +kernel)) (by decide +kernel)
theorem inX3 : ∀ w ∈ wsX30, w ∈ lw_good := lw_goodG (goodIn_r _ [261, 263, 265] (by decide +kernel) (by decide +kernel)) (by decide +kernel)
theorem inX4 : ∀ w ∈ wsX40, w ∈ lw_good := lw_goodG (goodIn_r _ [234, 236, 238, 240, 242, 244] (by decide +kernel) (by decide +kernel)) (by decide +kernel)
theorem inX5 : ∀ w ∈ wsX50, w ∈ lw_good := lw_goodG (goodIn_r _ [278, 280, 282, 284, 286, 288, 290, 292, 294] (by decide +kernel) (by decide +kernel)) (by decide +kernel)
theorem inX6 : ∀ w ∈ wsX60, w ∈ lw_good := lw_goodG (goodIn_r _ [885, 887, 889, 891, 893, 895, 897, 899, 901, 903, 905, 907, 909, 911, 913, 915, 917, 919, 921, 923, 925, 927, 929, 931, 933, 935, 937, 939, 941, 943, 945, 947, 949, 951, 953, 955, 957, 959, 961, 963, 965] (by decide +kernel) (by decide +kernel)) (by decide +kernel)
end
section
theorem dX0_init_0 : decode cX0_init 0 = .ok (.aload_n 0, 1) := by decide +kernel
theorem dX0_init_1 : decode cX0_init 1 = .ok (.invokespecial 3, 3) := by decide +kernel
theorem dX0_init_4 : decode cX0_init 4 = .ok (.aload_n 0, 1) := by decide +kernel
theorem dX0_init_5 : decode cX0_init 5 = .ok (.new 9, 3) := by decide +kernel
theorem dX0_init_8 : decode cX0_init 8 = .ok (.dup, 1) := by decide +kernel
theorem dX0_init_9 : decode cX0_init 9 = .ok (.invokespecial 11, 3) := by decide +kernel
theorem dX0_init_12 : decode cX0_init 12 = .ok (.putfield 12, 3) := by decide +kernel
theorem dX0_init_15 : decode cX0_init 15 = .ok (.return_, 1) := by decide +kernel
theorem dX0_plan_0 : decode cX0_plan 0 = .ok (.aload_n 0, 1) := by decide +kernel
theorem dX0_plan_1 : decode cX0_plan 1 = .ok (.getfield 12, 3) := by decide +kernel
theorem dX0_plan_4 : decode cX0_plan 4 = .ok (.aload_n 1, 1) := by decide +kernel
theorem dX0_plan_5 : decode cX0_plan 5 = .ok (.invokevirtual 18, 3) := by decide +kernel
theorem dX0_plan_8 : decode cX0_plan 8 = .ok (.aload_n 0, 1) := by decide +kernel
theorem dX0_plan_9 : decode cX0_plan 9 = .ok (.iconst 0, 1) := by decide +kernel
theorem dX0_plan_10 : decode cX0_plan 10 = .ok (.putfield 22, 3) := by decide +kernel
theorem dX0_plan_13 : decode cX0_plan 13 = .ok (.iconst 0, 1) := by decide +kernel
theorem dX0_plan_14 : decode cX0_plan 14 = .ok (.istore_n 2, 1) := by decide +kernel
theorem dX0_plan_15 : decode cX0_plan 15 = .ok (.iload_n 2, 1) := by decide +kernel
theorem dX0_plan_16 : decode cX0_plan 16 = .ok (.bipush 6, 2) := by decide +kernel
theorem dX0_plan_18 : decode cX0_plan 18 = .ok (.if_icmp .ge 32, 3) := by decide +kernel
theorem dX0_plan_21 : decode cX0_plan 21 = .ok (.aload_n 0, 1) := by decide +kernel
theorem dX0_plan_22 : decode cX0_plan 22 = .ok (.getfield 12, 3) := by decide +kernel
theorem dX0_plan_25 : decode cX0_plan 25 = .ok (.iload_n 2, 1) := by decide +kernel
theorem dX0_plan_26 : decode cX0_plan 26 = .ok (.invokevirtual 26, 3) := by decide +kernel
theorem dX0_plan_29 : decode cX0_plan 29 = .ok (.ifCond .eq 15, 3) := by decide +kernel
theorem dX0_plan_32 : decode cX0_plan 32 = .ok (.aload_n 0, 1) := by decide +kernel
theorem dX0_plan_33 : decode cX0_plan 33 = .ok (.dup, 1) := by decide +kernel
theorem dX0_plan_34 : decode cX0_plan 34 = .ok (.getfield 22, 3) := by decide +kernel
theorem dX0_plan_37 : decode cX0_plan 37 = .ok (.iconst 1, 1) := by decide +kernel
theorem dX0_plan_38 : decode cX0_plan 38 = .ok (.iload_n 2, 1) := by decide +kernel
theorem dX0_plan_39 : decode cX0_plan 39 = .ok (.ishl, 1) := by decide +kernel
theorem dX0_plan_40 : decode cX0_plan 40 = .ok (.ior, 1) := by decide +kernel
theorem dX0_plan_41 : decode cX0_plan 41 = .ok (.putfield 22, 3) := by decide +kernel
theorem dX0_plan_44 : decode cX0_plan 44 = .ok (.iinc 2 1, 3) := by decide +kernel
theorem dX0_plan_47 : decode cX0_plan 47 = .ok (.goto (-32), 3) := by decide +kernel
theorem dX0_plan_50 : decode cX0_plan 50 = .ok (.aload_n 0, 1) := by decide +kernel
theorem dX0_plan_51 : decode cX0_plan 51 = .ok (.getfield 22, 3) := by decide +kernel
theorem dX0_plan_54 : decode cX0_plan 54 = .ok (.ifCond .ne 5, 3) := by decide +kernel
theorem dX0_plan_57 : decode cX0_plan 57 = .ok (.iconst 0, 1) := by decide +kernel
theorem dX0_plan_58 : decode cX0_plan 58 = .ok (.ireturn, 1) := by decide +kernel
theorem dX0_plan_59 : decode cX0_plan 59 = .ok (.aload_n 0, 1) := by decide +kernel
theorem dX0_plan_60 : decode cX0_plan 60 = .ok (.aload_n 1, 1) := by decide +kernel
theorem dX0_plan_61 : decode cX0_plan 61 = .ok (.invokevirtual 30, 3) := by decide +kernel
theorem dX0_plan_64 : decode cX0_plan 64 = .ok (.ifCond .eq 5, 3) := by decide +kernel
theorem dX0_plan_67 : decode cX0_plan 67 = .ok (.iconst 1, 1) := by decide +kernel
theorem dX0_plan_68 : decode cX0_plan 68 = .ok (.ireturn, 1) := by decide +kernel
theorem dX0_plan_69 : decode cX0_plan 69 = .ok (.aload_n 0, 1) := by decide +kernel
theorem dX0_plan_70 : decode cX0_plan 70 = .ok (.aload_n 1, 1) := by decide +kernel
theorem dX0_plan_71 : decode cX0_plan 71 = .ok (.invokevirtual 34, 3) := by decide +kernel
theorem dX0_plan_74 : decode cX0_plan 74 = .ok (.ifCond .eq 7, 3) := by decide +kernel
theorem dX0_plan_77 : decode cX0_plan 77 = .ok (.iconst 2, 1) := by decide +kernel
theorem dX0_plan_78 : decode cX0_plan 78 = .ok (.goto 4, 3) := by decide +kernel
theorem dX0_plan_81 : decode cX0_plan 81 = .ok (.iconst (-1), 1) := by decide +kernel
theorem dX0_plan_82 : decode cX0_plan 82 = .ok (.ireturn, 1) := by decide +kernel
theorem dX0_findOne_0 : decode cX0_findOne 0 = .ok (.bipush 6, 2) := by decide +kernel
theorem dX0_findOne_2 : decode cX0_findOne 2 = .ok (.aload_n 1, 1) := by decide +kernel
theorem dX0_findOne_3 : decode cX0_findOne 3 = .ok (.getfield 37, 3) := by decide +kernel
theorem dX0_findOne_6 : decode cX0_findOne 6 = .ok (.imul, 1) := by decide +kernel
theorem dX0_findOne_7 : decode cX0_findOne 7 = .ok (.istore_n 2, 1) := by decide +kernel
theorem dX0_findOne_8 : decode cX0_findOne 8 = .ok (.iconst 0, 1) := by decide +kernel
theorem dX0_findOne_9 : decode cX0_findOne 9 = .ok (.istore_n 3, 1) := by decide +kernel
theorem dX0_findOne_10 : decode cX0_findOne 10 = .ok (.iload_n 3, 1) := by decide +kernel
theorem dX0_findOne_11 : decode cX0_findOne 11 = .ok (.iload_n 2, 1) := by decide +kernel
theorem dX0_findOne_12 : decode cX0_findOne 12 = .ok (.if_icmp .ge 86, 3) := by decide +kernel
theorem dX0_findOne_15 : decode cX0_findOne 15 = .ok (.iload_n 3, 1) := by decide +kernel
theorem dX0_findOne_16 : decode cX0_findOne 16 = .ok (.bipush 6, 2) := by decide +kernel
theorem dX0_findOne_18 : decode cX0_findOne 18 = .ok (.idiv, 1) := by decide +kernel
theorem dX0_findOne_19 : decode cX0_findOne 19 = .ok (.istore 4, 2) := by decide +kernel
theorem dX0_findOne_21 : decode cX0_findOne 21 = .ok (.aload_n 1, 1) := by decide +kernel
theorem dX0_findOne_22 : decode cX0_findOne 22 = .ok (.iload_n 3, 1) := by decide +kernel
theorem dX0_findOne_23 : decode cX0_findOne 23 = .ok (.invokestatic 40, 3) := by decide +kernel
theorem dX0_findOne_26 : decode cX0_findOne 26 = .ok (.ifCond .eq 66, 3) := by decide +kernel
theorem dX0_findOne_29 : decode cX0_findOne 29 = .ok (.aload_n 0, 1) := by decide +kernel
theorem dX0_findOne_30 : decode cX0_findOne 30 = .ok (.iload 4, 2) := by decide +kernel
theorem dX0_findOne_32 : decode cX0_findOne 32 = .ok (.iload 4, 2) := by decide +kernel
theorem dX0_findOne_34 : decode cX0_findOne 34 = .ok (.invokevirtual 44, 3) := by decide +kernel
theorem dX0_findOne_37 : decode cX0_findOne 37 = .ok (.ifCond .ne 6, 3) := by decide +kernel
theorem dX0_findOne_40 : decode cX0_findOne 40 = .ok (.goto 52, 3) := by decide +kernel
theorem dX0_findOne_43 : decode cX0_findOne 43 = .ok (.aload_n 0, 1) := by decide +kernel
theorem dX0_findOne_44 : decode cX0_findOne 44 = .ok (.getfield 12, 3) := by decide +kernel
theorem dX0_findOne_47 : decode cX0_findOne 47 = .ok (.getfield 48, 3) := by decide +kernel
theorem dX0_findOne_50 : decode cX0_findOne 50 = .ok (.iload 4, 2) := by decide +kernel
theorem dX0_findOne_52 : decode cX0_findOne 52 = .ok (.iload_n 3, 1) := by decide +kernel
theorem dX0_findOne_53 : decode cX0_findOne 53 = .ok (.bipush 6, 2) := by decide +kernel
theorem dX0_findOne_55 : decode cX0_findOne 55 = .ok (.irem, 1) := by decide +kernel
theorem dX0_findOne_56 : decode cX0_findOne 56 = .ok (.iastore, 1) := by decide +kernel
theorem dX0_findOne_57 : decode cX0_findOne 57 = .ok (.aload_n 0, 1) := by decide +kernel
theorem dX0_findOne_58 : decode cX0_findOne 58 = .ok (.iload 4, 2) := by decide +kernel
theorem dX0_findOne_60 : decode cX0_findOne 60 = .ok (.iload 4, 2) := by decide +kernel
theorem dX0_findOne_62 : decode cX0_findOne 62 = .ok (.invokevirtual 52, 3) := by decide +kernel
theorem dX0_findOne_65 : decode cX0_findOne 65 = .ok (.ifCond .eq 10, 3) := by decide +kernel
theorem dX0_findOne_68 : decode cX0_findOne 68 = .ok (.aload_n 0, 1) := by decide +kernel
theorem dX0_findOne_69 : decode cX0_findOne 69 = .ok (.iload_n 3, 1) := by decide +kernel
theorem dX0_findOne_70 : decode cX0_findOne 70 = .ok (.putfield 55, 3) := by decide +kernel
theorem dX0_findOne_73 : decode cX0_findOne 73 = .ok (.iconst 1, 1) := by decide +kernel
theorem dX0_findOne_74 : decode cX0_findOne 74 = .ok (.ireturn, 1) := by decide +kernel
theorem dX0_findOne_75 : decode cX0_findOne 75 = .ok (.aload_n 0, 1) := by decide +kernel
theorem dX0_findOne_76 : decode cX0_findOne 76 = .ok (.getfield 12, 3) := by decide +kernel
theorem dX0_findOne_79 : decode cX0_findOne 79 = .ok (.getfield 48, 3) := by decide +kernel
theorem dX0_findOne_82 : decode cX0_findOne 82 = .ok (.iload 4, 2) := by decide +kernel
theorem dX0_findOne_84 : decode cX0_findOne 84 = .ok (.aload_n 1, 1) := by decide +kernel
theorem dX0_findOne_85 : decode cX0_findOne 85 = .ok (.getfield 48, 3) := by decide +kernel
theorem dX0_findOne_88 : decode cX0_findOne 88 = .ok (.iload 4, 2) := by decide +kernel
theorem dX0_findOne_90 : decode cX0_findOne 90 = .ok (.iaload, 1) := by decide +kernel
theorem dX0_findOne_91 : decode cX0_findOne 91 = .ok (.iastore, 1) := by decide +kernel
theorem dX0_findOne_92 : decode cX0_findOne 92 = .ok (.iinc 3 1, 3) := by decide +kernel
theorem dX0_findOne_95 : decode cX0_findOne 95 = .ok (.goto (-85), 3) := by decide +kernel
theorem dX0_findOne_98 : decode cX0_findOne 98 = .ok (.iconst 0, 1) := by decide +kernel
theorem dX0_findOne_99 : decode cX0_findOne 99 = .ok (.ireturn, 1) := by decide +kernel
theorem dX0_findTwo_0 : decode cX0_findTwo 0 = .ok (.bipush 6, 2) := by decide +kernel
theorem dX0_findTwo_2 : decode cX0_findTwo 2 = .ok (.aload_n 1, 1) := by decide +kernel
theorem dX0_findTwo_3 : decode cX0_findTwo 3 = .ok (.getfield 37, 3) := by decide +kernel
theorem dX0_findTwo_6 : decode cX0_findTwo 6 = .ok (.imul, 1) := by decide +kernel
theorem dX0_findTwo_7 : decode cX0_findTwo 7 = .ok (.istore_n 2, 1) := by decide +kernel
theorem dX0_findTwo_8 : decode cX0_findTwo 8 = .ok (.iconst 0, 1) := by decide +kernel
theorem dX0_findTwo_9 : decode cX0_findTwo 9 = .ok (.istore_n 3, 1) := by decide +kernel
theorem dX0_findTwo_10 : decode cX0_findTwo 10 = .ok (.iload_n 3, 1) := by decide +kernel
theorem dX0_findTwo_11 : decode cX0_findTwo 11 = .ok (.iload_n 2, 1) := by decide +kernel
theorem dX0_findTwo_12 : decode cX0_findTwo 12 = .ok (.if_icmp .ge 74, 3) := by decide +kernel
theorem dX0_findTwo_15 : decode cX0_findTwo 15 = .ok (.iload_n 3, 1) := by decide +kernel
theorem dX0_findTwo_16 : decode cX0_findTwo 16 = .ok (.bipush 6, 2) := by decide +kernel
theorem dX0_findTwo_18 : decode cX0_findTwo 18 = .ok (.idiv, 1) := by decide +kernel
theorem dX0_findTwo_19 : decode cX0_findTwo 19 = .ok (.istore 4, 2) := by decide +kernel
theorem dX0_findTwo_21 : decode cX0_findTwo 21 = .ok (.aload_n 1, 1) := by decide +kernel
theorem dX0_findTwo_22 : decode cX0_findTwo 22 = .ok (.iload_n 3, 1) := by decide +kernel
theorem dX0_findTwo_23 : decode cX0_findTwo 23 = .ok (.invokestatic 40, 3) := by decide +kernel
theorem dX0_findTwo_26 : decode cX0_findTwo 26 = .ok (.ifCond .ne 6, 3) := by decide +kernel
theorem dX0_findTwo_29 : decode cX0_findTwo 29 = .ok (.goto 51, 3) := by decide +kernel
theorem dX0_findTwo_32 : decode cX0_findTwo 32 = .ok (.aload_n 0, 1) := by decide +kernel
theorem dX0_findTwo_33 : decode cX0_findTwo 33 = .ok (.getfield 12, 3) := by decide +kernel
theorem dX0_findTwo_36 : decode cX0_findTwo 36 = .ok (.getfield 48, 3) := by decide +kernel
theorem dX0_findTwo_39 : decode cX0_findTwo 39 = .ok (.iload 4, 2) := by decide +kernel
theorem dX0_findTwo_41 : decode cX0_findTwo 41 = .ok (.iload_n 3, 1) := by decide +kernel
theorem dX0_findTwo_42 : decode cX0_findTwo 42 = .ok (.bipush 6, 2) := by decide +kernel
theorem dX0_findTwo_44 : decode cX0_findTwo 44 = .ok (.irem, 1) := by decide +kernel
theorem dX0_findTwo_45 : decode cX0_findTwo 45 = .ok (.iastore, 1) := by decide +kernel
theorem dX0_findTwo_46 : decode cX0_findTwo 46 = .ok (.aload_n 0, 1) := by decide +kernel
theorem dX0_findTwo_47 : decode cX0_findTwo 47 = .ok (.aload_n 1, 1) := by decide +kernel
theorem dX0_findTwo_48 : decode cX0_findTwo 48 = .ok (.iload 4, 2) := by decide +kernel
theorem dX0_findTwo_50 : decode cX0_findTwo 50 = .ok (.invokevirtual 58, 3) := by decide +kernel
theorem dX0_findTwo_53 : decode cX0_findTwo 53 = .ok (.ifCond .eq 10, 3) := by decide +kernel
theorem dX0_findTwo_56 : decode cX0_findTwo 56 = .ok (.aload_n 0, 1) := by decide +kernel
theorem dX0_findTwo_57 : decode cX0_findTwo 57 = .ok (.iload_n 3, 1) := by decide +kernel
theorem dX0_findTwo_58 : decode cX0_findTwo 58 = .ok (.putfield 55, 3) := by decide +kernel
theorem dX0_findTwo_61 : decode cX0_findTwo 61 = .ok (.iconst 1, 1) := by decide +kernel
theorem dX0_findTwo_62 : decode cX0_findTwo 62 = .ok (.ireturn, 1) := by decide +kernel
theorem dX0_findTwo_63 : decode cX0_findTwo 63 = .ok (.aload_n 0, 1) := by decide +kernel
theorem dX0_findTwo_64 : decode cX0_findTwo 64 = .ok (.getfield 12, 3) := by decide +kernel
theorem dX0_findTwo_67 : decode cX0_findTwo 67 = .ok (.getfield 48, 3) := by decide +kernel
theorem dX0_findTwo_70 : decode cX0_findTwo 70 = .ok (.iload 4, 2) := by decide +kernel
theorem dX0_findTwo_72 : decode cX0_findTwo 72 = .ok (.aload_n 1, 1) := by decide +kernel
theorem dX0_findTwo_73 : decode cX0_findTwo 73 = .ok (.getfield 48, 3) := by decide +kernel
theorem dX0_findTwo_76 : decode cX0_findTwo 76 = .ok (.iload 4, 2) := by decide +kernel
theorem dX0_findTwo_78 : decode cX0_findTwo 78 = .ok (.iaload, 1) := by decide +kernel
theorem dX0_findTwo_79 : decode cX0_findTwo 79 = .ok (.iastore, 1) := by decide +kernel
theorem dX0_findTwo_80 : decode cX0_findTwo 80 = .ok (.iinc 3 1, 3) := by decide +kernel
theorem dX0_findTwo_83 : decode cX0_findTwo 83 = .ok (.goto (-73), 3) := by decide +kernel
theorem dX0_findTwo_86 : decode cX0_findTwo 86 = .ok (.iconst 0, 1) := by decide +kernel
theorem dX0_findTwo_87 : decode cX0_findTwo 87 = .ok (.ireturn, 1) := by decide +kernel
theorem dX0_findGreater_0 : decode cX0_findGreater 0 = .ok (.bipush 6, 2) := by decide +kernel
theorem dX0_findGreater_2 : decode cX0_findGreater 2 = .ok (.aload_n 1, 1) := by decide +kernel
theorem dX0_findGreater_3 : decode cX0_findGreater 3 = .ok (.getfield 37, 3) := by decide +kernel
theorem dX0_findGreater_6 : decode cX0_findGreater 6 = .ok (.imul, 1) := by decide +kernel
theorem dX0_findGreater_7 : decode cX0_findGreater 7 = .ok (.istore_n 3, 1) := by decide +kernel
theorem dX0_findGreater_8 : decode cX0_findGreater 8 = .ok (.bipush 6, 2) := by decide +kernel
theorem dX0_findGreater_10 : decode cX0_findGreater 10 = .ok (.iload_n 2, 1) := by decide +kernel
theorem dX0_findGreater_11 : decode cX0_findGreater 11 = .ok (.iconst 1, 1) := by decide +kernel
theorem dX0_findGreater_12 : decode cX0_findGreater 12 = .ok (.iadd, 1) := by decide +kernel
theorem dX0_findGreater_13 : decode cX0_findGreater 13 = .ok (.imul, 1) := by decide +kernel
theorem dX0_findGreater_14 : decode cX0_findGreater 14 = .ok (.istore 4, 2) := by decide +kernel
theorem dX0_findGreater_16 : decode cX0_findGreater 16 = .ok (.iload 4, 2) := by decide +kernel
theorem dX0_findGreater_18 : decode cX0_findGreater 18 = .ok (.iload_n 3, 1) := by decide +kernel
theorem dX0_findGreater_19 : decode cX0_findGreater 19 = .ok (.if_icmp .ge 88, 3) := by decide +kernel
theorem dX0_findGreater_22 : decode cX0_findGreater 22 = .ok (.iload 4, 2) := by decide +kernel
theorem dX0_findGreater_24 : decode cX0_findGreater 24 = .ok (.bipush 6, 2) := by decide +kernel
theorem dX0_findGreater_26 : decode cX0_findGreater 26 = .ok (.idiv, 1) := by decide +kernel
theorem dX0_findGreater_27 : decode cX0_findGreater 27 = .ok (.istore 5, 2) := by decide +kernel
theorem dX0_findGreater_29 : decode cX0_findGreater 29 = .ok (.aload_n 1, 1) := by decide +kernel
theorem dX0_findGreater_30 : decode cX0_findGreater 30 = .ok (.iload 4, 2) := by decide +kernel
theorem dX0_findGreater_32 : decode cX0_findGreater 32 = .ok (.invokestatic 40, 3) := by decide +kernel
theorem dX0_findGreater_35 : decode cX0_findGreater 35 = .ok (.ifCond .eq 66, 3) := by decide +kernel
theorem dX0_findGreater_38 : decode cX0_findGreater 38 = .ok (.aload_n 0, 1) := by decide +kernel
theorem dX0_findGreater_39 : decode cX0_findGreater 39 = .ok (.iload_n 2, 1) := by decide +kernel
theorem dX0_findGreater_40 : decode cX0_findGreater 40 = .ok (.iload 5, 2) := by decide +kernel
theorem dX0_findGreater_42 : decode cX0_findGreater 42 = .ok (.invokevirtual 44, 3) := by decide +kernel
theorem dX0_findGreater_45 : decode cX0_findGreater 45 = .ok (.ifCond .ne 6, 3) := by decide +kernel
theorem dX0_findGreater_48 : decode cX0_findGreater 48 = .ok (.goto 53, 3) := by decide +kernel
theorem dX0_findGreater_51 : decode cX0_findGreater 51 = .ok (.aload_n 0, 1) := by decide +kernel
theorem dX0_findGreater_52 : decode cX0_findGreater 52 = .ok (.getfield 12, 3) := by decide +kernel
theorem dX0_findGreater_55 : decode cX0_findGreater 55 = .ok (.getfield 48, 3) := by decide +kernel
theorem dX0_findGreater_58 : decode cX0_findGreater 58 = .ok (.iload 5, 2) := by decide +kernel
theorem dX0_findGreater_60 : decode cX0_findGreater 60 = .ok (.iload 4, 2) := by decide +kernel
theorem dX0_findGreater_62 : decode cX0_findGreater 62 = .ok (.bipush 6, 2) := by decide +kernel
theorem dX0_findGreater_64 : decode cX0_findGreater 64 = .ok (.irem, 1) := by decide +kernel
theorem dX0_findGreater_65 : decode cX0_findGreater 65 = .ok (.iastore, 1) := by decide +kernel
theorem dX0_findGreater_66 : decode cX0_findGreater 66 = .ok (.aload_n 0, 1) := by decide +kernel
theorem dX0_findGreater_67 : decode cX0_findGreater 67 = .ok (.iload_n 2, 1) := by decide +kernel
theorem dX0_findGreater_68 : decode cX0_findGreater 68 = .ok (.iload 5, 2) := by decide +kernel
theorem dX0_findGreater_70 : decode cX0_findGreater 70 = .ok (.invokevirtual 52, 3) := by decide +kernel
theorem dX0_findGreater_73 : decode cX0_findGreater 73 = .ok (.ifCond .eq 11, 3) := by decide +kernel
theorem dX0_findGreater_76 : decode cX0_findGreater 76 = .ok (.aload_n 0, 1) := by decide +kernel
theorem dX0_findGreater_77 : decode cX0_findGreater 77 = .ok (.iload 4, 2) := by decide +kernel
theorem dX0_findGreater_79 : decode cX0_findGreater 79 = .ok (.putfield 61, 3) := by decide +kernel
theorem dX0_findGreater_82 : decode cX0_findGreater 82 = .ok (.iconst 1, 1) := by decide +kernel
theorem dX0_findGreater_83 : decode cX0_findGreater 83 = .ok (.ireturn, 1) := by decide +kernel
theorem dX0_findGreater_84 : decode cX0_findGreater 84 = .ok (.aload_n 0, 1) := by decide +kernel
theorem dX0_findGreater_85 : decode cX0_findGreater 85 = .ok (.getfield 12, 3) := by decide +kernel
theorem dX0_findGreater_88 : decode cX0_findGreater 88 = .ok (.getfield 48, 3) := by decide +kernel
theorem dX0_findGreater_91 : decode cX0_findGreater 91 = .ok (.iload 5, 2) := by decide +kernel
theorem dX0_findGreater_93 : decode cX0_findGreater 93 = .ok (.aload_n 1, 1) := by decide +kernel
theorem dX0_findGreater_94 : decode cX0_findGreater 94 = .ok (.getfield 48, 3) := by decide +kernel
theorem dX0_findGreater_97 : decode cX0_findGreater 97 = .ok (.iload 5, 2) := by decide +kernel
theorem dX0_findGreater_99 : decode cX0_findGreater 99 = .ok (.iaload, 1) := by decide +kernel
theorem dX0_findGreater_100 : decode cX0_findGreater 100 = .ok (.iastore, 1) := by decide +kernel
theorem dX0_findGreater_101 : decode cX0_findGreater 101 = .ok (.iinc 4 1, 3) := by decide +kernel
theorem dX0_findGreater_104 : decode cX0_findGreater 104 = .ok (.goto (-88), 3) := by decide +kernel
theorem dX0_findGreater_107 : decode cX0_findGreater 107 = .ok (.iconst 0, 1) := by decide +kernel
theorem dX0_findGreater_108 : decode cX0_findGreater 108 = .ok (.ireturn, 1) := by decide +kernel
theorem dX0_isMove_0 : decode cX0_isMove 0 = .ok (.iload_n 1, 1) := by decide +kernel
theorem dX0_isMove_1 : decode cX0_isMove 1 = .ok (.bipush 6, 2) := by decide +kernel
theorem dX0_isMove_3 : decode cX0_isMove 3 = .ok (.idiv, 1) := by decide +kernel
theorem dX0_isMove_4 : decode cX0_isMove 4 = .ok (.istore_n 2, 1) := by decide +kernel
theorem dX0_isMove_5 : decode cX0_isMove 5 = .ok (.aload_n 0, 1) := by decide +kernel
theorem dX0_isMove_6 : decode cX0_isMove 6 = .ok (.iload_n 2, 1) := by decide +kernel
theorem dX0_isMove_7 : decode cX0_isMove 7 = .ok (.invokevirtual 64, 3) := by decide +kernel
theorem dX0_isMove_10 : decode cX0_isMove 10 = .ok (.ifCond .ne 20, 3) := by decide +kernel
theorem dX0_isMove_13 : decode cX0_isMove 13 = .ok (.aload_n 0, 1) := by decide +kernel
theorem dX0_isMove_14 : decode cX0_isMove 14 = .ok (.getfield 48, 3) := by decide +kernel
theorem dX0_isMove_17 : decode cX0_isMove 17 = .ok (.iload_n 2, 1) := by decide +kernel
theorem dX0_isMove_18 : decode cX0_isMove 18 = .ok (.iaload, 1) := by decide +kernel
theorem dX0_isMove_19 : decode cX0_isMove 19 = .ok (.iload_n 1, 1) := by decide +kernel
theorem dX0_isMove_20 : decode cX0_isMove 20 = .ok (.bipush 6, 2) := by decide +kernel
theorem dX0_isMove_22 : decode cX0_isMove 22 = .ok (.irem, 1) := by decide +kernel
theorem dX0_isMove_23 : decode cX0_isMove 23 = .ok (.if_icmp .eq 7, 3) := by decide +kernel
theorem dX0_isMove_26 : decode cX0_isMove 26 = .ok (.iconst 1, 1) := by decide +kernel
theorem dX0_isMove_27 : decode cX0_isMove 27 = .ok (.goto 4, 3) := by decide +kernel
theorem dX0_isMove_30 : decode cX0_isMove 30 = .ok (.iconst 0, 1) := by decide +kernel
theorem dX0_isMove_31 : decode cX0_isMove 31 = .ok (.ireturn, 1) := by decide +kernel
theorem dX0_mayMend_0 : decode cX0_mayMend 0 = .ok (.iconst 1, 1) := by decide +kernel
theorem dX0_mayMend_1 : decode cX0_mayMend 1 = .ok (.aload_n 0, 1) := by decide +kernel
theorem dX0_mayMend_2 : decode cX0_mayMend 2 = .ok (.getfield 12, 3) := by decide +kernel
theorem dX0_mayMend_5 : decode cX0_mayMend 5 = .ok (.getfield 68, 3) := by decide +kernel
theorem dX0_mayMend_8 : decode cX0_mayMend 8 = .ok (.iload_n 1, 1) := by decide +kernel
theorem dX0_mayMend_9 : decode cX0_mayMend 9 = .ok (.iaload, 1) := by decide +kernel
theorem dX0_mayMend_10 : decode cX0_mayMend 10 = .ok (.ishl, 1) := by decide +kernel
theorem dX0_mayMend_11 : decode cX0_mayMend 11 = .ok (.iconst 1, 1) := by decide +kernel
theorem dX0_mayMend_12 : decode cX0_mayMend 12 = .ok (.aload_n 0, 1) := by decide +kernel
theorem dX0_mayMend_13 : decode cX0_mayMend 13 = .ok (.getfield 12, 3) := by decide +kernel
theorem dX0_mayMend_16 : decode cX0_mayMend 16 = .ok (.getfield 68, 3) := by decide +kernel
theorem dX0_mayMend_19 : decode cX0_mayMend 19 = .ok (.iload_n 2, 1) := by decide +kernel
theorem dX0_mayMend_20 : decode cX0_mayMend 20 = .ok (.iaload, 1) := by decide +kernel
theorem dX0_mayMend_21 : decode cX0_mayMend 21 = .ok (.ishl, 1) := by decide +kernel
theorem dX0_mayMend_22 : decode cX0_mayMend 22 = .ok (.ior, 1) := by decide +kernel
theorem dX0_mayMend_23 : decode cX0_mayMend 23 = .ok (.istore_n 3, 1) := by decide +kernel
theorem dX0_mayMend_24 : decode cX0_mayMend 24 = .ok (.aload_n 0, 1) := by decide +kernel
theorem dX0_mayMend_25 : decode cX0_mayMend 25 = .ok (.getfield 22, 3) := by decide +kernel
theorem dX0_mayMend_28 : decode cX0_mayMend 28 = .ok (.iload_n 3, 1) := by decide +kernel
theorem dX0_mayMend_29 : decode cX0_mayMend 29 = .ok (.iconst (-1), 1) := by decide +kernel
theorem dX0_mayMend_30 : decode cX0_mayMend 30 = .ok (.ixor, 1) := by decide +kernel
theorem dX0_mayMend_31 : decode cX0_mayMend 31 = .ok (.iand, 1) := by decide +kernel
theorem dX0_mayMend_32 : decode cX0_mayMend 32 = .ok (.ifCond .ne 7, 3) := by decide +kernel
theorem dX0_mayMend_35 : decode cX0_mayMend 35 = .ok (.iconst 1, 1) := by decide +kernel
theorem dX0_mayMend_36 : decode cX0_mayMend 36 = .ok (.goto 4, 3) := by decide +kernel
theorem dX0_mayMend_39 : decode cX0_mayMend 39 = .ok (.iconst 0, 1) := by decide +kernel
theorem dX0_mayMend_40 : decode cX0_mayMend 40 = .ok (.ireturn, 1) := by decide +kernel
theorem dX0_allHold_0 : decode cX0_allHold 0 = .ok (.aload_n 0, 1) := by decide +kernel
theorem dX0_allHold_1 : decode cX0_allHold 1 = .ok (.getfield 12, 3) := by decide +kernel
theorem dX0_allHold_4 : decode cX0_allHold 4 = .ok (.getfield 68, 3) := by decide +kernel
theorem dX0_allHold_7 : decode cX0_allHold 7 = .ok (.iload_n 1, 1) := by decide +kernel
theorem dX0_allHold_8 : decode cX0_allHold 8 = .ok (.iaload, 1) := by decide +kernel
theorem dX0_allHold_9 : decode cX0_allHold 9 = .ok (.istore_n 3, 1) := by decide +kernel
theorem dX0_allHold_10 : decode cX0_allHold 10 = .ok (.aload_n 0, 1) := by decide +kernel
theorem dX0_allHold_11 : decode cX0_allHold 11 = .ok (.getfield 12, 3) := by decide +kernel
theorem dX0_allHold_14 : decode cX0_allHold 14 = .ok (.getfield 68, 3) := by decide +kernel
theorem dX0_allHold_17 : decode cX0_allHold 17 = .ok (.iload_n 2, 1) := by decide +kernel
theorem dX0_allHold_18 : decode cX0_allHold 18 = .ok (.iaload, 1) := by decide +kernel
theorem dX0_allHold_19 : decode cX0_allHold 19 = .ok (.istore 4, 2) := by decide +kernel
theorem dX0_allHold_21 : decode cX0_allHold 21 = .ok (.aload_n 0, 1) := by decide +kernel
theorem dX0_allHold_22 : decode cX0_allHold 22 = .ok (.getfield 12, 3) := by decide +kernel
theorem dX0_allHold_25 : decode cX0_allHold 25 = .ok (.iload_n 3, 1) := by decide +kernel
theorem dX0_allHold_26 : decode cX0_allHold 26 = .ok (.invokevirtual 26, 3) := by decide +kernel
theorem dX0_allHold_29 : decode cX0_allHold 29 = .ok (.ifCond .ne 25, 3) := by decide +kernel
theorem dX0_allHold_32 : decode cX0_allHold 32 = .ok (.iload_n 3, 1) := by decide +kernel
theorem dX0_allHold_33 : decode cX0_allHold 33 = .ok (.iload 4, 2) := by decide +kernel
theorem dX0_allHold_35 : decode cX0_allHold 35 = .ok (.if_icmp .eq 15, 3) := by decide +kernel
theorem dX0_allHold_38 : decode cX0_allHold 38 = .ok (.aload_n 0, 1) := by decide +kernel
theorem dX0_allHold_39 : decode cX0_allHold 39 = .ok (.getfield 12, 3) := by decide +kernel
theorem dX0_allHold_42 : decode cX0_allHold 42 = .ok (.iload 4, 2) := by decide +kernel
theorem dX0_allHold_44 : decode cX0_allHold 44 = .ok (.invokevirtual 26, 3) := by decide +kernel
theorem dX0_allHold_47 : decode cX0_allHold 47 = .ok (.ifCond .ne 7, 3) := by decide +kernel
theorem dX0_allHold_50 : decode cX0_allHold 50 = .ok (.iconst 1, 1) := by decide +kernel
theorem dX0_allHold_51 : decode cX0_allHold 51 = .ok (.goto 4, 3) := by decide +kernel
theorem dX0_allHold_54 : decode cX0_allHold 54 = .ok (.iconst 0, 1) := by decide +kernel
theorem dX0_allHold_55 : decode cX0_allHold 55 = .ok (.ireturn, 1) := by decide +kernel
theorem dX1_init_0 : decode cX1_init 0 = .ok (.aload_n 0, 1) := by decide +kernel
theorem dX1_init_1 : decode cX1_init 1 = .ok (.invokespecial 3, 3) := by decide +kernel
theorem dX1_init_4 : decode cX1_init 4 = .ok (.aload_n 0, 1) := by decide +kernel
theorem dX1_init_5 : decode cX1_init 5 = .ok (.bipush 6, 2) := by decide +kernel
theorem dX1_init_7 : decode cX1_init 7 = .ok (.newarray .int, 2) := by decide +kernel
theorem dX1_init_9 : decode cX1_init 9 = .ok (.putfield 9, 3) := by decide +kernel
theorem dX1_init_12 : decode cX1_init 12 = .ok (.aload_n 0, 1) := by decide +kernel
theorem dX1_init_13 : decode cX1_init 13 = .ok (.bipush 14, 2) := by decide +kernel
theorem dX1_init_15 : decode cX1_init 15 = .ok (.newarray .int, 2) := by decide +kernel
theorem dX1_init_17 : decode cX1_init 17 = .ok (.putfield 15, 3) := by decide +kernel
theorem dX1_init_20 : decode cX1_init 20 = .ok (.aload_n 0, 1) := by decide +kernel
theorem dX1_init_21 : decode cX1_init 21 = .ok (.bipush 14, 2) := by decide +kernel
theorem dX1_init_23 : decode cX1_init 23 = .ok (.newarray .int, 2) := by decide +kernel
theorem dX1_init_25 : decode cX1_init 25 = .ok (.putfield 18, 3) := by decide +kernel
theorem dX1_init_28 : decode cX1_init 28 = .ok (.aload_n 0, 1) := by decide +kernel
theorem dX1_init_29 : decode cX1_init 29 = .ok (.bipush 14, 2) := by decide +kernel
theorem dX1_init_31 : decode cX1_init 31 = .ok (.newarray .int, 2) := by decide +kernel
theorem dX1_init_33 : decode cX1_init 33 = .ok (.putfield 21, 3) := by decide +kernel
theorem dX1_init_36 : decode cX1_init 36 = .ok (.aload_n 0, 1) := by decide +kernel
theorem dX1_init_37 : decode cX1_init 37 = .ok (.bipush 14, 2) := by decide +kernel
theorem dX1_init_39 : decode cX1_init 39 = .ok (.newarray .int, 2) := by decide +kernel
theorem dX1_init_41 : decode cX1_init 41 = .ok (.putfield 24, 3) := by decide +kernel
theorem dX1_init_44 : decode cX1_init 44 = .ok (.aload_n 0, 1) := by decide +kernel
theorem dX1_init_45 : decode cX1_init 45 = .ok (.bipush 12, 2) := by decide +kernel
theorem dX1_init_47 : decode cX1_init 47 = .ok (.newarray .int, 2) := by decide +kernel
theorem dX1_init_49 : decode cX1_init 49 = .ok (.putfield 27, 3) := by decide +kernel
theorem dX1_init_52 : decode cX1_init 52 = .ok (.aload_n 0, 1) := by decide +kernel
theorem dX1_init_53 : decode cX1_init 53 = .ok (.bipush 12, 2) := by decide +kernel
theorem dX1_init_55 : decode cX1_init 55 = .ok (.newarray .int, 2) := by decide +kernel
theorem dX1_init_57 : decode cX1_init 57 = .ok (.putfield 30, 3) := by decide +kernel
theorem dX1_init_60 : decode cX1_init 60 = .ok (.aload_n 0, 1) := by decide +kernel
theorem dX1_init_61 : decode cX1_init 61 = .ok (.bipush 12, 2) := by decide +kernel
theorem dX1_init_63 : decode cX1_init 63 = .ok (.newarray .int, 2) := by decide +kernel
theorem dX1_init_65 : decode cX1_init 65 = .ok (.putfield 33, 3) := by decide +kernel
theorem dX1_init_68 : decode cX1_init 68 = .ok (.aload_n 0, 1) := by decide +kernel
theorem dX1_init_69 : decode cX1_init 69 = .ok (.bipush 12, 2) := by decide +kernel
theorem dX1_init_71 : decode cX1_init 71 = .ok (.newarray .int, 2) := by decide +kernel
theorem dX1_init_73 : decode cX1_init 73 = .ok (.putfield 36, 3) := by decide +kernel
theorem dX1_init_76 : decode cX1_init 76 = .ok (.aload_n 0, 1) := by decide +kernel
theorem dX1_init_77 : decode cX1_init 77 = .ok (.bipush 6, 2) := by decide +kernel
theorem dX1_init_79 : decode cX1_init 79 = .ok (.newarray .int, 2) := by decide +kernel
theorem dX1_init_81 : decode cX1_init 81 = .ok (.putfield 39, 3) := by decide +kernel
theorem dX1_init_84 : decode cX1_init 84 = .ok (.return_, 1) := by decide +kernel
theorem dX1_become_0 : decode cX1_become 0 = .ok (.aload_n 1, 1) := by decide +kernel
theorem dX1_become_1 : decode cX1_become 1 = .ok (.getfield 9, 3) := by decide +kernel
theorem dX1_become_4 : decode cX1_become 4 = .ok (.iconst 0, 1) := by decide +kernel
theorem dX1_become_5 : decode cX1_become 5 = .ok (.aload_n 0, 1) := by decide +kernel
theorem dX1_become_6 : decode cX1_become 6 = .ok (.getfield 9, 3) := by decide +kernel
theorem dX1_become_9 : decode cX1_become 9 = .ok (.iconst 0, 1) := by decide +kernel
theorem dX1_become_10 : decode cX1_become 10 = .ok (.bipush 6, 2) := by decide +kernel
theorem dX1_become_12 : decode cX1_become 12 = .ok (.invokestatic 42, 3) := by decide +kernel
theorem dX1_become_15 : decode cX1_become 15 = .ok (.aload_n 1, 1) := by decide +kernel
theorem dX1_become_16 : decode cX1_become 16 = .ok (.getfield 15, 3) := by decide +kernel
theorem dX1_become_19 : decode cX1_become 19 = .ok (.iconst 0, 1) := by decide +kernel
theorem dX1_become_20 : decode cX1_become 20 = .ok (.aload_n 0, 1) := by decide +kernel
theorem dX1_become_21 : decode cX1_become 21 = .ok (.getfield 15, 3) := by decide +kernel
theorem dX1_become_24 : decode cX1_become 24 = .ok (.iconst 0, 1) := by decide +kernel
theorem dX1_become_25 : decode cX1_become 25 = .ok (.bipush 14, 2) := by decide +kernel
theorem dX1_become_27 : decode cX1_become 27 = .ok (.invokestatic 42, 3) := by decide +kernel
theorem dX1_become_30 : decode cX1_become 30 = .ok (.aload_n 1, 1) := by decide +kernel
theorem dX1_become_31 : decode cX1_become 31 = .ok (.getfield 18, 3) := by decide +kernel
theorem dX1_become_34 : decode cX1_become 34 = .ok (.iconst 0, 1) := by decide +kernel
theorem dX1_become_35 : decode cX1_become 35 = .ok (.aload_n 0, 1) := by decide +kernel
theorem dX1_become_36 : decode cX1_become 36 = .ok (.getfield 18, 3) := by decide +kernel
theorem dX1_become_39 : decode cX1_become 39 = .ok (.iconst 0, 1) := by decide +kernel
theorem dX1_become_40 : decode cX1_become 40 = .ok (.bipush 14, 2) := by decide +kernel
theorem dX1_become_42 : decode cX1_become 42 = .ok (.invokestatic 42, 3) := by decide +kernel
theorem dX1_become_45 : decode cX1_become 45 = .ok (.aload_n 1, 1) := by decide +kernel
theorem dX1_become_46 : decode cX1_become 46 = .ok (.getfield 21, 3) := by decide +kernel
theorem dX1_become_49 : decode cX1_become 49 = .ok (.iconst 0, 1) := by decide +kernel
theorem dX1_become_50 : decode cX1_become 50 = .ok (.aload_n 0, 1) := by decide +kernel
theorem dX1_become_51 : decode cX1_become 51 = .ok (.getfield 21, 3) := by decide +kernel
theorem dX1_become_54 : decode cX1_become 54 = .ok (.iconst 0, 1) := by decide +kernel
theorem dX1_become_55 : decode cX1_become 55 = .ok (.bipush 14, 2) := by decide +kernel
theorem dX1_become_57 : decode cX1_become 57 = .ok (.invokestatic 42, 3) := by decide +kernel
theorem dX1_become_60 : decode cX1_become 60 = .ok (.aload_n 1, 1) := by decide +kernel
theorem dX1_become_61 : decode cX1_become 61 = .ok (.getfield 24, 3) := by decide +kernel
theorem dX1_become_64 : decode cX1_become 64 = .ok (.iconst 0, 1) := by decide +kernel
theorem dX1_become_65 : decode cX1_become 65 = .ok (.aload_n 0, 1) := by decide +kernel
theorem dX1_become_66 : decode cX1_become 66 = .ok (.getfield 24, 3) := by decide +kernel
theorem dX1_become_69 : decode cX1_become 69 = .ok (.iconst 0, 1) := by decide +kernel
theorem dX1_become_70 : decode cX1_become 70 = .ok (.bipush 14, 2) := by decide +kernel
theorem dX1_become_72 : decode cX1_become 72 = .ok (.invokestatic 42, 3) := by decide +kernel
theorem dX1_become_75 : decode cX1_become 75 = .ok (.aload_n 1, 1) := by decide +kernel
theorem dX1_become_76 : decode cX1_become 76 = .ok (.getfield 27, 3) := by decide +kernel
theorem dX1_become_79 : decode cX1_become 79 = .ok (.iconst 0, 1) := by decide +kernel
theorem dX1_become_80 : decode cX1_become 80 = .ok (.aload_n 0, 1) := by decide +kernel
theorem dX1_become_81 : decode cX1_become 81 = .ok (.getfield 27, 3) := by decide +kernel
theorem dX1_become_84 : decode cX1_become 84 = .ok (.iconst 0, 1) := by decide +kernel
theorem dX1_become_85 : decode cX1_become 85 = .ok (.bipush 12, 2) := by decide +kernel
theorem dX1_become_87 : decode cX1_become 87 = .ok (.invokestatic 42, 3) := by decide +kernel
theorem dX1_become_90 : decode cX1_become 90 = .ok (.aload_n 1, 1) := by decide +kernel
theorem dX1_become_91 : decode cX1_become 91 = .ok (.getfield 30, 3) := by decide +kernel
theorem dX1_become_94 : decode cX1_become 94 = .ok (.iconst 0, 1) := by decide +kernel
theorem dX1_become_95 : decode cX1_become 95 = .ok (.aload_n 0, 1) := by decide +kernel
theorem dX1_become_96 : decode cX1_become 96 = .ok (.getfield 30, 3) := by decide +kernel
theorem dX1_become_99 : decode cX1_become 99 = .ok (.iconst 0, 1) := by decide +kernel
theorem dX1_become_100 : decode cX1_become 100 = .ok (.bipush 12, 2) := by decide +kernel
theorem dX1_become_102 : decode cX1_become 102 = .ok (.invokestatic 42, 3) := by decide +kernel
theorem dX1_become_105 : decode cX1_become 105 = .ok (.aload_n 1, 1) := by decide +kernel
theorem dX1_become_106 : decode cX1_become 106 = .ok (.getfield 33, 3) := by decide +kernel
theorem dX1_become_109 : decode cX1_become 109 = .ok (.iconst 0, 1) := by decide +kernel
theorem dX1_become_110 : decode cX1_become 110 = .ok (.aload_n 0, 1) := by decide +kernel
theorem dX1_become_111 : decode cX1_become 111 = .ok (.getfield 33, 3) := by decide +kernel
theorem dX1_become_114 : decode cX1_become 114 = .ok (.iconst 0, 1) := by decide +kernel
theorem dX1_become_115 : decode cX1_become 115 = .ok (.bipush 12, 2) := by decide +kernel
theorem dX1_become_117 : decode cX1_become 117 = .ok (.invokestatic 42, 3) := by decide +kernel
theorem dX1_become_120 : decode cX1_become 120 = .ok (.aload_n 1, 1) := by decide +kernel
theorem dX1_become_121 : decode cX1_become 121 = .ok (.getfield 36, 3) := by decide +kernel
theorem dX1_become_124 : decode cX1_become 124 = .ok (.iconst 0, 1) := by decide +kernel
theorem dX1_become_125 : decode cX1_become 125 = .ok (.aload_n 0, 1) := by decide +kernel
theorem dX1_become_126 : decode cX1_become 126 = .ok (.getfield 36, 3) := by decide +kernel
theorem dX1_become_129 : decode cX1_become 129 = .ok (.iconst 0, 1) := by decide +kernel
theorem dX1_become_130 : decode cX1_become 130 = .ok (.bipush 12, 2) := by decide +kernel
theorem dX1_become_132 : decode cX1_become 132 = .ok (.invokestatic 42, 3) := by decide +kernel
theorem dX1_become_135 : decode cX1_become 135 = .ok (.aload_n 0, 1) := by decide +kernel
theorem dX1_become_136 : decode cX1_become 136 = .ok (.aload_n 1, 1) := by decide +kernel
theorem dX1_become_137 : decode cX1_become 137 = .ok (.getfield 48, 3) := by decide +kernel
theorem dX1_become_140 : decode cX1_become 140 = .ok (.putfield 48, 3) := by decide +kernel
theorem dX1_become_143 : decode cX1_become 143 = .ok (.aload_n 0, 1) := by decide +kernel
theorem dX1_become_144 : decode cX1_become 144 = .ok (.aload_n 1, 1) := by decide +kernel
theorem dX1_become_145 : decode cX1_become 145 = .ok (.getfield 52, 3) := by decide +kernel
theorem dX1_become_148 : decode cX1_become 148 = .ok (.putfield 52, 3) := by decide +kernel
theorem dX1_become_151 : decode cX1_become 151 = .ok (.aload_n 0, 1) := by decide +kernel
theorem dX1_become_152 : decode cX1_become 152 = .ok (.aload_n 1, 1) := by decide +kernel
theorem dX1_become_153 : decode cX1_become 153 = .ok (.getfield 55, 3) := by decide +kernel
theorem dX1_become_156 : decode cX1_become 156 = .ok (.putfield 55, 3) := by decide +kernel
theorem dX1_become_159 : decode cX1_become 159 = .ok (.aload_n 0, 1) := by decide +kernel
theorem dX1_become_160 : decode cX1_become 160 = .ok (.aload_n 1, 1) := by decide +kernel
theorem dX1_become_161 : decode cX1_become 161 = .ok (.getfield 58, 3) := by decide +kernel
theorem dX1_become_164 : decode cX1_become 164 = .ok (.putfield 58, 3) := by decide +kernel
theorem dX1_become_167 : decode cX1_become 167 = .ok (.aload_n 0, 1) := by decide +kernel
theorem dX1_become_168 : decode cX1_become 168 = .ok (.aload_n 1, 1) := by decide +kernel
theorem dX1_become_169 : decode cX1_become 169 = .ok (.getfield 61, 3) := by decide +kernel
theorem dX1_become_172 : decode cX1_become 172 = .ok (.putfield 61, 3) := by decide +kernel
theorem dX1_become_175 : decode cX1_become 175 = .ok (.return_, 1) := by decide +kernel
theorem dX1_addChild_0 : decode cX1_addChild 0 = .ok (.aload_n 0, 1) := by decide +kernel
theorem dX1_addChild_1 : decode cX1_addChild 1 = .ok (.getfield 48, 3) := by decide +kernel
theorem dX1_addChild_4 : decode cX1_addChild 4 = .ok (.istore 5, 2) := by decide +kernel
theorem dX1_addChild_6 : decode cX1_addChild 6 = .ok (.aload_n 0, 1) := by decide +kernel
theorem dX1_addChild_7 : decode cX1_addChild 7 = .ok (.getfield 15, 3) := by decide +kernel
theorem dX1_addChild_10 : decode cX1_addChild 10 = .ok (.iload 5, 2) := by decide +kernel
theorem dX1_addChild_12 : decode cX1_addChild 12 = .ok (.iload_n 1, 1) := by decide +kernel
theorem dX1_addChild_13 : decode cX1_addChild 13 = .ok (.iastore, 1) := by decide +kernel
theorem dX1_addChild_14 : decode cX1_addChild 14 = .ok (.aload_n 0, 1) := by decide +kernel
theorem dX1_addChild_15 : decode cX1_addChild 15 = .ok (.getfield 18, 3) := by decide +kernel
theorem dX1_addChild_18 : decode cX1_addChild 18 = .ok (.iload 5, 2) := by decide +kernel
theorem dX1_addChild_20 : decode cX1_addChild 20 = .ok (.iload_n 2, 1) := by decide +kernel
theorem dX1_addChild_21 : decode cX1_addChild 21 = .ok (.iastore, 1) := by decide +kernel
theorem dX1_addChild_22 : decode cX1_addChild 22 = .ok (.aload_n 0, 1) := by decide +kernel
theorem dX1_addChild_23 : decode cX1_addChild 23 = .ok (.getfield 21, 3) := by decide +kernel
theorem dX1_addChild_26 : decode cX1_addChild 26 = .ok (.iload 5, 2) := by decide +kernel
theorem dX1_addChild_28 : decode cX1_addChild 28 = .ok (.iload_n 3, 1) := by decide +kernel
theorem dX1_addChild_29 : decode cX1_addChild 29 = .ok (.iastore, 1) := by decide +kernel
theorem dX1_addChild_30 : decode cX1_addChild 30 = .ok (.aload_n 0, 1) := by decide +kernel
theorem dX1_addChild_31 : decode cX1_addChild 31 = .ok (.getfield 24, 3) := by decide +kernel
theorem dX1_addChild_34 : decode cX1_addChild 34 = .ok (.iload 5, 2) := by decide +kernel
theorem dX1_addChild_36 : decode cX1_addChild 36 = .ok (.iload 4, 2) := by decide +kernel
theorem dX1_addChild_38 : decode cX1_addChild 38 = .ok (.iastore, 1) := by decide +kernel
theorem dX1_addChild_39 : decode cX1_addChild 39 = .ok (.aload_n 0, 1) := by decide +kernel
theorem dX1_addChild_40 : decode cX1_addChild 40 = .ok (.dup, 1) := by decide +kernel
theorem dX1_addChild_41 : decode cX1_addChild 41 = .ok (.getfield 48, 3) := by decide +kernel
theorem dX1_addChild_44 : decode cX1_addChild 44 = .ok (.iconst 1, 1) := by decide +kernel
theorem dX1_addChild_45 : decode cX1_addChild 45 = .ok (.iadd, 1) := by decide +kernel
theorem dX1_addChild_46 : decode cX1_addChild 46 = .ok (.putfield 48, 3) := by decide +kernel
theorem dX1_addChild_49 : decode cX1_addChild 49 = .ok (.iload 5, 2) := by decide +kernel
theorem dX1_addChild_51 : decode cX1_addChild 51 = .ok (.ireturn, 1) := by decide +kernel
theorem dX1_addTreaty_0 : decode cX1_addTreaty 0 = .ok (.aload_n 0, 1) := by decide +kernel
theorem dX1_addTreaty_1 : decode cX1_addTreaty 1 = .ok (.getfield 52, 3) := by decide +kernel
theorem dX1_addTreaty_4 : decode cX1_addTreaty 4 = .ok (.istore 5, 2) := by decide +kernel
theorem dX1_addTreaty_6 : decode cX1_addTreaty 6 = .ok (.aload_n 0, 1) := by decide +kernel
theorem dX1_addTreaty_7 : decode cX1_addTreaty 7 = .ok (.getfield 27, 3) := by decide +kernel
theorem dX1_addTreaty_10 : decode cX1_addTreaty 10 = .ok (.iload 5, 2) := by decide +kernel
theorem dX1_addTreaty_12 : decode cX1_addTreaty 12 = .ok (.iload_n 1, 1) := by decide +kernel
theorem dX1_addTreaty_13 : decode cX1_addTreaty 13 = .ok (.iastore, 1) := by decide +kernel
theorem dX1_addTreaty_14 : decode cX1_addTreaty 14 = .ok (.aload_n 0, 1) := by decide +kernel
theorem dX1_addTreaty_15 : decode cX1_addTreaty 15 = .ok (.getfield 30, 3) := by decide +kernel
theorem dX1_addTreaty_18 : decode cX1_addTreaty 18 = .ok (.iload 5, 2) := by decide +kernel
theorem dX1_addTreaty_20 : decode cX1_addTreaty 20 = .ok (.iload_n 2, 1) := by decide +kernel
theorem dX1_addTreaty_21 : decode cX1_addTreaty 21 = .ok (.iastore, 1) := by decide +kernel
theorem dX1_addTreaty_22 : decode cX1_addTreaty 22 = .ok (.aload_n 0, 1) := by decide +kernel
theorem dX1_addTreaty_23 : decode cX1_addTreaty 23 = .ok (.getfield 33, 3) := by decide +kernel
theorem dX1_addTreaty_26 : decode cX1_addTreaty 26 = .ok (.iload 5, 2) := by decide +kernel
theorem dX1_addTreaty_28 : decode cX1_addTreaty 28 = .ok (.iload_n 3, 1) := by decide +kernel
theorem dX1_addTreaty_29 : decode cX1_addTreaty 29 = .ok (.iastore, 1) := by decide +kernel
theorem dX1_addTreaty_30 : decode cX1_addTreaty 30 = .ok (.aload_n 0, 1) := by decide +kernel
theorem dX1_addTreaty_31 : decode cX1_addTreaty 31 = .ok (.getfield 36, 3) := by decide +kernel
theorem dX1_addTreaty_34 : decode cX1_addTreaty 34 = .ok (.iload 5, 2) := by decide +kernel
theorem dX1_addTreaty_36 : decode cX1_addTreaty 36 = .ok (.iload 4, 2) := by decide +kernel
theorem dX1_addTreaty_38 : decode cX1_addTreaty 38 = .ok (.iastore, 1) := by decide +kernel
theorem dX1_addTreaty_39 : decode cX1_addTreaty 39 = .ok (.aload_n 0, 1) := by decide +kernel
theorem dX1_addTreaty_40 : decode cX1_addTreaty 40 = .ok (.dup, 1) := by decide +kernel
theorem dX1_addTreaty_41 : decode cX1_addTreaty 41 = .ok (.getfield 52, 3) := by decide +kernel
theorem dX1_addTreaty_44 : decode cX1_addTreaty 44 = .ok (.iconst 1, 1) := by decide +kernel
theorem dX1_addTreaty_45 : decode cX1_addTreaty 45 = .ok (.iadd, 1) := by decide +kernel
theorem dX1_addTreaty_46 : decode cX1_addTreaty 46 = .ok (.putfield 52, 3) := by decide +kernel
theorem dX1_addTreaty_49 : decode cX1_addTreaty 49 = .ok (.iload 5, 2) := by decide +kernel
theorem dX1_addTreaty_51 : decode cX1_addTreaty 51 = .ok (.ireturn, 1) := by decide +kernel
theorem dX1_isDead_0 : decode cX1_isDead 0 = .ok (.aload_n 0, 1) := by decide +kernel
theorem dX1_isDead_1 : decode cX1_isDead 1 = .ok (.getfield 55, 3) := by decide +kernel
theorem dX1_isDead_4 : decode cX1_isDead 4 = .ok (.iload_n 1, 1) := by decide +kernel
theorem dX1_isDead_5 : decode cX1_isDead 5 = .ok (.ishr, 1) := by decide +kernel
theorem dX1_isDead_6 : decode cX1_isDead 6 = .ok (.iconst 1, 1) := by decide +kernel
theorem dX1_isDead_7 : decode cX1_isDead 7 = .ok (.iand, 1) := by decide +kernel
theorem dX1_isDead_8 : decode cX1_isDead 8 = .ok (.ifCond .eq 7, 3) := by decide +kernel
theorem dX1_isDead_11 : decode cX1_isDead 11 = .ok (.iconst 1, 1) := by decide +kernel
theorem dX1_isDead_12 : decode cX1_isDead 12 = .ok (.goto 4, 3) := by decide +kernel
theorem dX1_isDead_15 : decode cX1_isDead 15 = .ok (.iconst 0, 1) := by decide +kernel
theorem dX1_isDead_16 : decode cX1_isDead 16 = .ok (.ireturn, 1) := by decide +kernel
theorem dX1_isBroken_0 : decode cX1_isBroken 0 = .ok (.aload_n 0, 1) := by decide +kernel
theorem dX1_isBroken_1 : decode cX1_isBroken 1 = .ok (.getfield 58, 3) := by decide +kernel
theorem dX1_isBroken_4 : decode cX1_isBroken 4 = .ok (.iload_n 1, 1) := by decide +kernel
theorem dX1_isBroken_5 : decode cX1_isBroken 5 = .ok (.ishr, 1) := by decide +kernel
theorem dX1_isBroken_6 : decode cX1_isBroken 6 = .ok (.iconst 1, 1) := by decide +kernel
theorem dX1_isBroken_7 : decode cX1_isBroken 7 = .ok (.iand, 1) := by decide +kernel
theorem dX1_isBroken_8 : decode cX1_isBroken 8 = .ok (.ifCond .eq 7, 3) := by decide +kernel
theorem dX1_isBroken_11 : decode cX1_isBroken 11 = .ok (.iconst 1, 1) := by decide +kernel
theorem dX1_isBroken_12 : decode cX1_isBroken 12 = .ok (.goto 4, 3) := by decide +kernel
theorem dX1_isBroken_15 : decode cX1_isBroken 15 = .ok (.iconst 0, 1) := by decide +kernel
theorem dX1_isBroken_16 : decode cX1_isBroken 16 = .ok (.ireturn, 1) := by decide +kernel
theorem dX1_isInForce_0 : decode cX1_isInForce 0 = .ok (.aload_n 0, 1) := by decide +kernel
theorem dX1_isInForce_1 : decode cX1_isInForce 1 = .ok (.iload_n 1, 1) := by decide +kernel
theorem dX1_isInForce_2 : decode cX1_isInForce 2 = .ok (.invokevirtual 64, 3) := by decide +kernel
theorem dX1_isInForce_5 : decode cX1_isInForce 5 = .ok (.ifCond .ne 20, 3) := by decide +kernel
theorem dX1_isInForce_8 : decode cX1_isInForce 8 = .ok (.aload_n 0, 1) := by decide +kernel
theorem dX1_isInForce_9 : decode cX1_isInForce 9 = .ok (.getfield 61, 3) := by decide +kernel
theorem dX1_isInForce_12 : decode cX1_isInForce 12 = .ok (.aload_n 0, 1) := by decide +kernel
theorem dX1_isInForce_13 : decode cX1_isInForce 13 = .ok (.getfield 36, 3) := by decide +kernel
theorem dX1_isInForce_16 : decode cX1_isInForce 16 = .ok (.iload_n 1, 1) := by decide +kernel
theorem dX1_isInForce_17 : decode cX1_isInForce 17 = .ok (.iaload, 1) := by decide +kernel
theorem dX1_isInForce_18 : decode cX1_isInForce 18 = .ok (.if_icmp .gt 7, 3) := by decide +kernel
theorem dX1_isInForce_21 : decode cX1_isInForce 21 = .ok (.iconst 1, 1) := by decide +kernel
theorem dX1_isInForce_22 : decode cX1_isInForce 22 = .ok (.goto 4, 3) := by decide +kernel
theorem dX1_isInForce_25 : decode cX1_isInForce 25 = .ok (.iconst 0, 1) := by decide +kernel
theorem dX1_isInForce_26 : decode cX1_isInForce 26 = .ok (.ireturn, 1) := by decide +kernel
theorem dX1_lossOf_0 : decode cX1_lossOf 0 = .ok (.aload_n 0, 1) := by decide +kernel
theorem dX1_lossOf_1 : decode cX1_lossOf 1 = .ok (.aload_n 0, 1) := by decide +kernel
theorem dX1_lossOf_2 : decode cX1_lossOf 2 = .ok (.aload_n 0, 1) := by decide +kernel
theorem dX1_lossOf_3 : decode cX1_lossOf 3 = .ok (.getfield 18, 3) := by decide +kernel
theorem dX1_lossOf_6 : decode cX1_lossOf 6 = .ok (.iload_n 1, 1) := by decide +kernel
theorem dX1_lossOf_7 : decode cX1_lossOf 7 = .ok (.iaload, 1) := by decide +kernel
theorem dX1_lossOf_8 : decode cX1_lossOf 8 = .ok (.invokevirtual 68, 3) := by decide +kernel
theorem dX1_lossOf_11 : decode cX1_lossOf 11 = .ok (.iload_n 1, 1) := by decide +kernel
theorem dX1_lossOf_12 : decode cX1_lossOf 12 = .ok (.invokevirtual 72, 3) := by decide +kernel
theorem dX1_lossOf_15 : decode cX1_lossOf 15 = .ok (.ireturn, 1) := by decide +kernel
theorem dX1_lossBeside_0 : decode cX1_lossBeside 0 = .ok (.aload_n 0, 1) := by decide +kernel
theorem dX1_lossBeside_1 : decode cX1_lossBeside 1 = .ok (.iload_n 2, 1) := by decide +kernel
theorem dX1_lossBeside_2 : decode cX1_lossBeside 2 = .ok (.invokevirtual 76, 3) := by decide +kernel
theorem dX1_lossBeside_5 : decode cX1_lossBeside 5 = .ok (.ifCond .eq 5, 3) := by decide +kernel
theorem dX1_lossBeside_8 : decode cX1_lossBeside 8 = .ok (.iconst 0, 1) := by decide +kernel
theorem dX1_lossBeside_9 : decode cX1_lossBeside 9 = .ok (.ireturn, 1) := by decide +kernel
theorem dX1_lossBeside_10 : decode cX1_lossBeside 10 = .ok (.aload_n 0, 1) := by decide +kernel
theorem dX1_lossBeside_11 : decode cX1_lossBeside 11 = .ok (.getfield 24, 3) := by decide +kernel
theorem dX1_lossBeside_14 : decode cX1_lossBeside 14 = .ok (.iload_n 2, 1) := by decide +kernel
theorem dX1_lossBeside_15 : decode cX1_lossBeside 15 = .ok (.iaload, 1) := by decide +kernel
theorem dX1_lossBeside_16 : decode cX1_lossBeside 16 = .ok (.istore_n 3, 1) := by decide +kernel
theorem dX1_lossBeside_17 : decode cX1_lossBeside 17 = .ok (.aload_n 0, 1) := by decide +kernel
theorem dX1_lossBeside_18 : decode cX1_lossBeside 18 = .ok (.getfield 15, 3) := by decide +kernel
theorem dX1_lossBeside_21 : decode cX1_lossBeside 21 = .ok (.iload_n 2, 1) := by decide +kernel
theorem dX1_lossBeside_22 : decode cX1_lossBeside 22 = .ok (.iaload, 1) := by decide +kernel
theorem dX1_lossBeside_23 : decode cX1_lossBeside 23 = .ok (.tableswitch 76 1 5 #[33, 37, 41, 48, 58], 33) := by decide +kernel
theorem dX1_lossBeside_56 : decode cX1_lossBeside 56 = .ok (.iconst 2, 1) := by decide +kernel
theorem dX1_lossBeside_57 : decode cX1_lossBeside 57 = .ok (.iload_n 3, 1) := by decide +kernel
theorem dX1_lossBeside_58 : decode cX1_lossBeside 58 = .ok (.imul, 1) := by decide +kernel
theorem dX1_lossBeside_59 : decode cX1_lossBeside 59 = .ok (.ireturn, 1) := by decide +kernel
theorem dX1_lossBeside_60 : decode cX1_lossBeside 60 = .ok (.iload_n 3, 1) := by decide +kernel
theorem dX1_lossBeside_61 : decode cX1_lossBeside 61 = .ok (.iconst 2, 1) := by decide +kernel
theorem dX1_lossBeside_62 : decode cX1_lossBeside 62 = .ok (.idiv, 1) := by decide +kernel
theorem dX1_lossBeside_63 : decode cX1_lossBeside 63 = .ok (.ireturn, 1) := by decide +kernel
theorem dX1_lossBeside_64 : decode cX1_lossBeside 64 = .ok (.iconst 2, 1) := by decide +kernel
theorem dX1_lossBeside_65 : decode cX1_lossBeside 65 = .ok (.iload_n 3, 1) := by decide +kernel
theorem dX1_lossBeside_66 : decode cX1_lossBeside 66 = .ok (.imul, 1) := by decide +kernel
theorem dX1_lossBeside_67 : decode cX1_lossBeside 67 = .ok (.bipush 20, 2) := by decide +kernel
theorem dX1_lossBeside_69 : decode cX1_lossBeside 69 = .ok (.iadd, 1) := by decide +kernel
theorem dX1_lossBeside_70 : decode cX1_lossBeside 70 = .ok (.ireturn, 1) := by decide +kernel
theorem dX1_lossBeside_71 : decode cX1_lossBeside 71 = .ok (.iconst 0, 1) := by decide +kernel
theorem dX1_lossBeside_72 : decode cX1_lossBeside 72 = .ok (.iload_n 3, 1) := by decide +kernel
theorem dX1_lossBeside_73 : decode cX1_lossBeside 73 = .ok (.iconst 2, 1) := by decide +kernel
theorem dX1_lossBeside_74 : decode cX1_lossBeside 74 = .ok (.idiv, 1) := by decide +kernel
theorem dX1_lossBeside_75 : decode cX1_lossBeside 75 = .ok (.iconst 5, 1) := by decide +kernel
theorem dX1_lossBeside_76 : decode cX1_lossBeside 76 = .ok (.isub, 1) := by decide +kernel
theorem dX1_lossBeside_77 : decode cX1_lossBeside 77 = .ok (.invokestatic 79, 3) := by decide +kernel
theorem dX1_lossBeside_80 : decode cX1_lossBeside 80 = .ok (.ireturn, 1) := by decide +kernel
theorem dX1_lossBeside_81 : decode cX1_lossBeside 81 = .ok (.iload_n 1, 1) := by decide +kernel
theorem dX1_lossBeside_82 : decode cX1_lossBeside 82 = .ok (.iconst 1, 1) := by decide +kernel
theorem dX1_lossBeside_83 : decode cX1_lossBeside 83 = .ok (.iload_n 2, 1) := by decide +kernel
theorem dX1_lossBeside_84 : decode cX1_lossBeside 84 = .ok (.ishl, 1) := by decide +kernel
theorem dX1_lossBeside_85 : decode cX1_lossBeside 85 = .ok (.iconst (-1), 1) := by decide +kernel
theorem dX1_lossBeside_86 : decode cX1_lossBeside 86 = .ok (.ixor, 1) := by decide +kernel
theorem dX1_lossBeside_87 : decode cX1_lossBeside 87 = .ok (.iand, 1) := by decide +kernel
theorem dX1_lossBeside_88 : decode cX1_lossBeside 88 = .ok (.ifCond .eq 7, 3) := by decide +kernel
theorem dX1_lossBeside_91 : decode cX1_lossBeside 91 = .ok (.iload_n 3, 1) := by decide +kernel
theorem dX1_lossBeside_92 : decode cX1_lossBeside 92 = .ok (.goto 6, 3) := by decide +kernel
theorem dX1_lossBeside_95 : decode cX1_lossBeside 95 = .ok (.iconst 2, 1) := by decide +kernel
theorem dX1_lossBeside_96 : decode cX1_lossBeside 96 = .ok (.iload_n 3, 1) := by decide +kernel
theorem dX1_lossBeside_97 : decode cX1_lossBeside 97 = .ok (.imul, 1) := by decide +kernel
theorem dX1_lossBeside_98 : decode cX1_lossBeside 98 = .ok (.ireturn, 1) := by decide +kernel
theorem dX1_lossBeside_99 : decode cX1_lossBeside 99 = .ok (.iload_n 3, 1) := by decide +kernel
theorem dX1_lossBeside_100 : decode cX1_lossBeside 100 = .ok (.ireturn, 1) := by decide +kernel
theorem dX1_twinsAtHome_0 : decode cX1_twinsAtHome 0 = .ok (.iconst 0, 1) := by decide +kernel
theorem dX1_twinsAtHome_1 : decode cX1_twinsAtHome 1 = .ok (.istore_n 2, 1) := by decide +kernel
theorem dX1_twinsAtHome_2 : decode cX1_twinsAtHome 2 = .ok (.iconst 0, 1) := by decide +kernel
theorem dX1_twinsAtHome_3 : decode cX1_twinsAtHome 3 = .ok (.istore_n 3, 1) := by decide +kernel
theorem dX1_twinsAtHome_4 : decode cX1_twinsAtHome 4 = .ok (.iload_n 3, 1) := by decide +kernel
theorem dX1_twinsAtHome_5 : decode cX1_twinsAtHome 5 = .ok (.aload_n 0, 1) := by decide +kernel
theorem dX1_twinsAtHome_6 : decode cX1_twinsAtHome 6 = .ok (.getfield 48, 3) := by decide +kernel
theorem dX1_twinsAtHome_9 : decode cX1_twinsAtHome 9 = .ok (.if_icmp .ge 53, 3) := by decide +kernel
theorem dX1_twinsAtHome_12 : decode cX1_twinsAtHome 12 = .ok (.aload_n 0, 1) := by decide +kernel
theorem dX1_twinsAtHome_13 : decode cX1_twinsAtHome 13 = .ok (.getfield 15, 3) := by decide +kernel
theorem dX1_twinsAtHome_16 : decode cX1_twinsAtHome 16 = .ok (.iload_n 3, 1) := by decide +kernel
theorem dX1_twinsAtHome_17 : decode cX1_twinsAtHome 17 = .ok (.iaload, 1) := by decide +kernel
theorem dX1_twinsAtHome_18 : decode cX1_twinsAtHome 18 = .ok (.iconst 5, 1) := by decide +kernel
theorem dX1_twinsAtHome_19 : decode cX1_twinsAtHome 19 = .ok (.if_icmp .ne 37, 3) := by decide +kernel
theorem dX1_twinsAtHome_22 : decode cX1_twinsAtHome 22 = .ok (.aload_n 0, 1) := by decide +kernel
theorem dX1_twinsAtHome_23 : decode cX1_twinsAtHome 23 = .ok (.getfield 18, 3) := by decide +kernel
theorem dX1_twinsAtHome_26 : decode cX1_twinsAtHome 26 = .ok (.iload_n 3, 1) := by decide +kernel
theorem dX1_twinsAtHome_27 : decode cX1_twinsAtHome 27 = .ok (.iaload, 1) := by decide +kernel
theorem dX1_twinsAtHome_28 : decode cX1_twinsAtHome 28 = .ok (.iload_n 1, 1) := by decide +kernel
theorem dX1_twinsAtHome_29 : decode cX1_twinsAtHome 29 = .ok (.if_icmp .ne 27, 3) := by decide +kernel
theorem dX1_twinsAtHome_32 : decode cX1_twinsAtHome 32 = .ok (.aload_n 0, 1) := by decide +kernel
theorem dX1_twinsAtHome_33 : decode cX1_twinsAtHome 33 = .ok (.getfield 21, 3) := by decide +kernel
theorem dX1_twinsAtHome_36 : decode cX1_twinsAtHome 36 = .ok (.iload_n 3, 1) := by decide +kernel
theorem dX1_twinsAtHome_37 : decode cX1_twinsAtHome 37 = .ok (.iaload, 1) := by decide +kernel
theorem dX1_twinsAtHome_38 : decode cX1_twinsAtHome 38 = .ok (.iload_n 1, 1) := by decide +kernel
theorem dX1_twinsAtHome_39 : decode cX1_twinsAtHome 39 = .ok (.if_icmp .ne 17, 3) := by decide +kernel
theorem dX1_twinsAtHome_42 : decode cX1_twinsAtHome 42 = .ok (.aload_n 0, 1) := by decide +kernel
theorem dX1_twinsAtHome_43 : decode cX1_twinsAtHome 43 = .ok (.iload_n 3, 1) := by decide +kernel
theorem dX1_twinsAtHome_44 : decode cX1_twinsAtHome 44 = .ok (.invokevirtual 76, 3) := by decide +kernel
theorem dX1_twinsAtHome_47 : decode cX1_twinsAtHome 47 = .ok (.ifCond .ne 9, 3) := by decide +kernel
theorem dX1_twinsAtHome_50 : decode cX1_twinsAtHome 50 = .ok (.iload_n 2, 1) := by decide +kernel
theorem dX1_twinsAtHome_51 : decode cX1_twinsAtHome 51 = .ok (.iconst 1, 1) := by decide +kernel
theorem dX1_twinsAtHome_52 : decode cX1_twinsAtHome 52 = .ok (.iload_n 3, 1) := by decide +kernel
theorem dX1_twinsAtHome_53 : decode cX1_twinsAtHome 53 = .ok (.ishl, 1) := by decide +kernel
theorem dX1_twinsAtHome_54 : decode cX1_twinsAtHome 54 = .ok (.ior, 1) := by decide +kernel
theorem dX1_twinsAtHome_55 : decode cX1_twinsAtHome 55 = .ok (.istore_n 2, 1) := by decide +kernel
theorem dX1_twinsAtHome_56 : decode cX1_twinsAtHome 56 = .ok (.iinc 3 1, 3) := by decide +kernel
theorem dX1_twinsAtHome_59 : decode cX1_twinsAtHome 59 = .ok (.goto (-55), 3) := by decide +kernel
theorem dX1_twinsAtHome_62 : decode cX1_twinsAtHome 62 = .ok (.iload_n 2, 1) := by decide +kernel
theorem dX1_twinsAtHome_63 : decode cX1_twinsAtHome 63 = .ok (.ireturn, 1) := by decide +kernel
theorem dX1_rolledHolder_0 : decode cX1_rolledHolder 0 = .ok (.aload_n 0, 1) := by decide +kernel
theorem dX1_rolledHolder_1 : decode cX1_rolledHolder 1 = .ok (.iload_n 1, 1) := by decide +kernel
theorem dX1_rolledHolder_2 : decode cX1_rolledHolder 2 = .ok (.invokevirtual 76, 3) := by decide +kernel
theorem dX1_rolledHolder_5 : decode cX1_rolledHolder 5 = .ok (.ifCond .eq 7, 3) := by decide +kernel
theorem dX1_rolledHolder_8 : decode cX1_rolledHolder 8 = .ok (.iconst (-1), 1) := by decide +kernel
theorem dX1_rolledHolder_9 : decode cX1_rolledHolder 9 = .ok (.goto 9, 3) := by decide +kernel
theorem dX1_rolledHolder_12 : decode cX1_rolledHolder 12 = .ok (.aload_n 0, 1) := by decide +kernel
theorem dX1_rolledHolder_13 : decode cX1_rolledHolder 13 = .ok (.getfield 21, 3) := by decide +kernel
theorem dX1_rolledHolder_16 : decode cX1_rolledHolder 16 = .ok (.iload_n 1, 1) := by decide +kernel
theorem dX1_rolledHolder_17 : decode cX1_rolledHolder 17 = .ok (.iaload, 1) := by decide +kernel
theorem dX1_rolledHolder_18 : decode cX1_rolledHolder 18 = .ok (.ireturn, 1) := by decide +kernel
theorem dX1_living_0 : decode cX1_living 0 = .ok (.iconst 1, 1) := by decide +kernel
theorem dX1_living_1 : decode cX1_living 1 = .ok (.aload_n 0, 1) := by decide +kernel
theorem dX1_living_2 : decode cX1_living 2 = .ok (.getfield 48, 3) := by decide +kernel
theorem dX1_living_5 : decode cX1_living 5 = .ok (.ishl, 1) := by decide +kernel
theorem dX1_living_6 : decode cX1_living 6 = .ok (.iconst 1, 1) := by decide +kernel
theorem dX1_living_7 : decode cX1_living 7 = .ok (.isub, 1) := by decide +kernel
theorem dX1_living_8 : decode cX1_living 8 = .ok (.aload_n 0, 1) := by decide +kernel
theorem dX1_living_9 : decode cX1_living 9 = .ok (.getfield 55, 3) := by decide +kernel
theorem dX1_living_12 : decode cX1_living 12 = .ok (.iconst (-1), 1) := by decide +kernel
theorem dX1_living_13 : decode cX1_living 13 = .ok (.ixor, 1) := by decide +kernel
theorem dX1_living_14 : decode cX1_living 14 = .ok (.iand, 1) := by decide +kernel
theorem dX1_living_15 : decode cX1_living 15 = .ok (.ireturn, 1) := by decide +kernel
theorem dX1_livingAtHome_0 : decode cX1_livingAtHome 0 = .ok (.iconst 0, 1) := by decide +kernel
theorem dX1_livingAtHome_1 : decode cX1_livingAtHome 1 = .ok (.istore_n 1, 1) := by decide +kernel
theorem dX1_livingAtHome_2 : decode cX1_livingAtHome 2 = .ok (.iconst 0, 1) := by decide +kernel
theorem dX1_livingAtHome_3 : decode cX1_livingAtHome 3 = .ok (.istore_n 2, 1) := by decide +kernel
theorem dX1_livingAtHome_4 : decode cX1_livingAtHome 4 = .ok (.iload_n 2, 1) := by decide +kernel
theorem dX1_livingAtHome_5 : decode cX1_livingAtHome 5 = .ok (.bipush 6, 2) := by decide +kernel
theorem dX1_livingAtHome_7 : decode cX1_livingAtHome 7 = .ok (.if_icmp .ge 18, 3) := by decide +kernel
theorem dX1_livingAtHome_10 : decode cX1_livingAtHome 10 = .ok (.iload_n 1, 1) := by decide +kernel
theorem dX1_livingAtHome_11 : decode cX1_livingAtHome 11 = .ok (.aload_n 0, 1) := by decide +kernel
theorem dX1_livingAtHome_12 : decode cX1_livingAtHome 12 = .ok (.iload_n 2, 1) := by decide +kernel
theorem dX1_livingAtHome_13 : decode cX1_livingAtHome 13 = .ok (.iload_n 2, 1) := by decide +kernel
theorem dX1_livingAtHome_14 : decode cX1_livingAtHome 14 = .ok (.invokevirtual 84, 3) := by decide +kernel
theorem dX1_livingAtHome_17 : decode cX1_livingAtHome 17 = .ok (.ior, 1) := by decide +kernel
theorem dX1_livingAtHome_18 : decode cX1_livingAtHome 18 = .ok (.istore_n 1, 1) := by decide +kernel
theorem dX1_livingAtHome_19 : decode cX1_livingAtHome 19 = .ok (.iinc 2 1, 3) := by decide +kernel
theorem dX1_livingAtHome_22 : decode cX1_livingAtHome 22 = .ok (.goto (-18), 3) := by decide +kernel
theorem dX1_livingAtHome_25 : decode cX1_livingAtHome 25 = .ok (.iload_n 1, 1) := by decide +kernel
theorem dX1_livingAtHome_26 : decode cX1_livingAtHome 26 = .ok (.ireturn, 1) := by decide +kernel
theorem dX1_childrenOf_0 : decode cX1_childrenOf 0 = .ok (.iconst 0, 1) := by decide +kernel
theorem dX1_childrenOf_1 : decode cX1_childrenOf 1 = .ok (.istore_n 2, 1) := by decide +kernel
theorem dX1_childrenOf_2 : decode cX1_childrenOf 2 = .ok (.iconst 0, 1) := by decide +kernel
theorem dX1_childrenOf_3 : decode cX1_childrenOf 3 = .ok (.istore_n 3, 1) := by decide +kernel
theorem dX1_childrenOf_4 : decode cX1_childrenOf 4 = .ok (.iload_n 3, 1) := by decide +kernel
theorem dX1_childrenOf_5 : decode cX1_childrenOf 5 = .ok (.aload_n 0, 1) := by decide +kernel
theorem dX1_childrenOf_6 : decode cX1_childrenOf 6 = .ok (.getfield 48, 3) := by decide +kernel
theorem dX1_childrenOf_9 : decode cX1_childrenOf 9 = .ok (.if_icmp .ge 33, 3) := by decide +kernel
theorem dX1_childrenOf_12 : decode cX1_childrenOf 12 = .ok (.aload_n 0, 1) := by decide +kernel
theorem dX1_childrenOf_13 : decode cX1_childrenOf 13 = .ok (.getfield 18, 3) := by decide +kernel
theorem dX1_childrenOf_16 : decode cX1_childrenOf 16 = .ok (.iload_n 3, 1) := by decide +kernel
theorem dX1_childrenOf_17 : decode cX1_childrenOf 17 = .ok (.iaload, 1) := by decide +kernel
theorem dX1_childrenOf_18 : decode cX1_childrenOf 18 = .ok (.iload_n 1, 1) := by decide +kernel
theorem dX1_childrenOf_19 : decode cX1_childrenOf 19 = .ok (.if_icmp .ne 17, 3) := by decide +kernel
theorem dX1_childrenOf_22 : decode cX1_childrenOf 22 = .ok (.aload_n 0, 1) := by decide +kernel
theorem dX1_childrenOf_23 : decode cX1_childrenOf 23 = .ok (.iload_n 3, 1) := by decide +kernel
theorem dX1_childrenOf_24 : decode cX1_childrenOf 24 = .ok (.invokevirtual 76, 3) := by decide +kernel
theorem dX1_childrenOf_27 : decode cX1_childrenOf 27 = .ok (.ifCond .ne 9, 3) := by decide +kernel
theorem dX1_childrenOf_30 : decode cX1_childrenOf 30 = .ok (.iload_n 2, 1) := by decide +kernel
theorem dX1_childrenOf_31 : decode cX1_childrenOf 31 = .ok (.iconst 1, 1) := by decide +kernel
theorem dX1_childrenOf_32 : decode cX1_childrenOf 32 = .ok (.iload_n 3, 1) := by decide +kernel
theorem dX1_childrenOf_33 : decode cX1_childrenOf 33 = .ok (.ishl, 1) := by decide +kernel
theorem dX1_childrenOf_34 : decode cX1_childrenOf 34 = .ok (.ior, 1) := by decide +kernel
theorem dX1_childrenOf_35 : decode cX1_childrenOf 35 = .ok (.istore_n 2, 1) := by decide +kernel
theorem dX1_childrenOf_36 : decode cX1_childrenOf 36 = .ok (.iinc 3 1, 3) := by decide +kernel
theorem dX1_childrenOf_39 : decode cX1_childrenOf 39 = .ok (.goto (-35), 3) := by decide +kernel
theorem dX1_childrenOf_42 : decode cX1_childrenOf 42 = .ok (.iload_n 2, 1) := by decide +kernel
theorem dX1_childrenOf_43 : decode cX1_childrenOf 43 = .ok (.ireturn, 1) := by decide +kernel
theorem dX1_heldFromOthers_0 : decode cX1_heldFromOthers 0 = .ok (.iconst 0, 1) := by decide +kernel
theorem dX1_heldFromOthers_1 : decode cX1_heldFromOthers 1 = .ok (.istore_n 2, 1) := by decide +kernel
theorem dX1_heldFromOthers_2 : decode cX1_heldFromOthers 2 = .ok (.iconst 0, 1) := by decide +kernel
theorem dX1_heldFromOthers_3 : decode cX1_heldFromOthers 3 = .ok (.istore_n 3, 1) := by decide +kernel
theorem dX1_heldFromOthers_4 : decode cX1_heldFromOthers 4 = .ok (.iload_n 3, 1) := by decide +kernel
theorem dX1_heldFromOthers_5 : decode cX1_heldFromOthers 5 = .ok (.aload_n 0, 1) := by decide +kernel
theorem dX1_heldFromOthers_6 : decode cX1_heldFromOthers 6 = .ok (.getfield 48, 3) := by decide +kernel
theorem dX1_heldFromOthers_9 : decode cX1_heldFromOthers 9 = .ok (.if_icmp .ge 43, 3) := by decide +kernel
theorem dX1_heldFromOthers_12 : decode cX1_heldFromOthers 12 = .ok (.aload_n 0, 1) := by decide +kernel
theorem dX1_heldFromOthers_13 : decode cX1_heldFromOthers 13 = .ok (.getfield 21, 3) := by decide +kernel
theorem dX1_heldFromOthers_16 : decode cX1_heldFromOthers 16 = .ok (.iload_n 3, 1) := by decide +kernel
theorem dX1_heldFromOthers_17 : decode cX1_heldFromOthers 17 = .ok (.iaload, 1) := by decide +kernel
theorem dX1_heldFromOthers_18 : decode cX1_heldFromOthers 18 = .ok (.iload_n 1, 1) := by decide +kernel
theorem dX1_heldFromOthers_19 : decode cX1_heldFromOthers 19 = .ok (.if_icmp .ne 27, 3) := by decide +kernel
theorem dX1_heldFromOthers_22 : decode cX1_heldFromOthers 22 = .ok (.aload_n 0, 1) := by decide +kernel
theorem dX1_heldFromOthers_23 : decode cX1_heldFromOthers 23 = .ok (.getfield 18, 3) := by decide +kernel
theorem dX1_heldFromOthers_26 : decode cX1_heldFromOthers 26 = .ok (.iload_n 3, 1) := by decide +kernel
theorem dX1_heldFromOthers_27 : decode cX1_heldFromOthers 27 = .ok (.iaload, 1) := by decide +kernel
theorem dX1_heldFromOthers_28 : decode cX1_heldFromOthers 28 = .ok (.iload_n 1, 1) := by decide +kernel
theorem dX1_heldFromOthers_29 : decode cX1_heldFromOthers 29 = .ok (.if_icmp .eq 17, 3) := by decide +kernel
theorem dX1_heldFromOthers_32 : decode cX1_heldFromOthers 32 = .ok (.aload_n 0, 1) := by decide +kernel
theorem dX1_heldFromOthers_33 : decode cX1_heldFromOthers 33 = .ok (.iload_n 3, 1) := by decide +kernel
theorem dX1_heldFromOthers_34 : decode cX1_heldFromOthers 34 = .ok (.invokevirtual 76, 3) := by decide +kernel
theorem dX1_heldFromOthers_37 : decode cX1_heldFromOthers 37 = .ok (.ifCond .ne 9, 3) := by decide +kernel
theorem dX1_heldFromOthers_40 : decode cX1_heldFromOthers 40 = .ok (.iload_n 2, 1) := by decide +kernel
theorem dX1_heldFromOthers_41 : decode cX1_heldFromOthers 41 = .ok (.iconst 1, 1) := by decide +kernel
theorem dX1_heldFromOthers_42 : decode cX1_heldFromOthers 42 = .ok (.iload_n 3, 1) := by decide +kernel
theorem dX1_heldFromOthers_43 : decode cX1_heldFromOthers 43 = .ok (.ishl, 1) := by decide +kernel
theorem dX1_heldFromOthers_44 : decode cX1_heldFromOthers 44 = .ok (.ior, 1) := by decide +kernel
theorem dX1_heldFromOthers_45 : decode cX1_heldFromOthers 45 = .ok (.istore_n 2, 1) := by decide +kernel
theorem dX1_heldFromOthers_46 : decode cX1_heldFromOthers 46 = .ok (.iinc 3 1, 3) := by decide +kernel
theorem dX1_heldFromOthers_49 : decode cX1_heldFromOthers 49 = .ok (.goto (-45), 3) := by decide +kernel
theorem dX1_heldFromOthers_52 : decode cX1_heldFromOthers 52 = .ok (.iload_n 2, 1) := by decide +kernel
theorem dX1_heldFromOthers_53 : decode cX1_heldFromOthers 53 = .ok (.ireturn, 1) := by decide +kernel
theorem dX1_heldBy_0 : decode cX1_heldBy 0 = .ok (.iconst 0, 1) := by decide +kernel
theorem dX1_heldBy_1 : decode cX1_heldBy 1 = .ok (.istore_n 3, 1) := by decide +kernel
theorem dX1_heldBy_2 : decode cX1_heldBy 2 = .ok (.iconst 0, 1) := by decide +kernel
theorem dX1_heldBy_3 : decode cX1_heldBy 3 = .ok (.istore 4, 2) := by decide +kernel
theorem dX1_heldBy_5 : decode cX1_heldBy 5 = .ok (.iload 4, 2) := by decide +kernel
theorem dX1_heldBy_7 : decode cX1_heldBy 7 = .ok (.aload_n 0, 1) := by decide +kernel
theorem dX1_heldBy_8 : decode cX1_heldBy 8 = .ok (.getfield 48, 3) := by decide +kernel
theorem dX1_heldBy_11 : decode cX1_heldBy 11 = .ok (.if_icmp .ge 47, 3) := by decide +kernel
theorem dX1_heldBy_14 : decode cX1_heldBy 14 = .ok (.aload_n 0, 1) := by decide +kernel
theorem dX1_heldBy_15 : decode cX1_heldBy 15 = .ok (.getfield 21, 3) := by decide +kernel
theorem dX1_heldBy_18 : decode cX1_heldBy 18 = .ok (.iload 4, 2) := by decide +kernel
theorem dX1_heldBy_20 : decode cX1_heldBy 20 = .ok (.iaload, 1) := by decide +kernel
theorem dX1_heldBy_21 : decode cX1_heldBy 21 = .ok (.iload_n 1, 1) := by decide +kernel
theorem dX1_heldBy_22 : decode cX1_heldBy 22 = .ok (.if_icmp .ne 30, 3) := by decide +kernel
theorem dX1_heldBy_25 : decode cX1_heldBy 25 = .ok (.aload_n 0, 1) := by decide +kernel
theorem dX1_heldBy_26 : decode cX1_heldBy 26 = .ok (.getfield 18, 3) := by decide +kernel
theorem dX1_heldBy_29 : decode cX1_heldBy 29 = .ok (.iload 4, 2) := by decide +kernel
theorem dX1_heldBy_31 : decode cX1_heldBy 31 = .ok (.iaload, 1) := by decide +kernel
theorem dX1_heldBy_32 : decode cX1_heldBy 32 = .ok (.iload_n 2, 1) := by decide +kernel
theorem dX1_heldBy_33 : decode cX1_heldBy 33 = .ok (.if_icmp .ne 19, 3) := by decide +kernel
theorem dX1_heldBy_36 : decode cX1_heldBy 36 = .ok (.aload_n 0, 1) := by decide +kernel
theorem dX1_heldBy_37 : decode cX1_heldBy 37 = .ok (.iload 4, 2) := by decide +kernel
theorem dX1_heldBy_39 : decode cX1_heldBy 39 = .ok (.invokevirtual 76, 3) := by decide +kernel
theorem dX1_heldBy_42 : decode cX1_heldBy 42 = .ok (.ifCond .ne 10, 3) := by decide +kernel
theorem dX1_heldBy_45 : decode cX1_heldBy 45 = .ok (.iload_n 3, 1) := by decide +kernel
theorem dX1_heldBy_46 : decode cX1_heldBy 46 = .ok (.iconst 1, 1) := by decide +kernel
theorem dX1_heldBy_47 : decode cX1_heldBy 47 = .ok (.iload 4, 2) := by decide +kernel
theorem dX1_heldBy_49 : decode cX1_heldBy 49 = .ok (.ishl, 1) := by decide +kernel
theorem dX1_heldBy_50 : decode cX1_heldBy 50 = .ok (.ior, 1) := by decide +kernel
theorem dX1_heldBy_51 : decode cX1_heldBy 51 = .ok (.istore_n 3, 1) := by decide +kernel
theorem dX1_heldBy_52 : decode cX1_heldBy 52 = .ok (.iinc 4 1, 3) := by decide +kernel
theorem dX1_heldBy_55 : decode cX1_heldBy 55 = .ok (.goto (-50), 3) := by decide +kernel
theorem dX1_heldBy_58 : decode cX1_heldBy 58 = .ok (.iload_n 3, 1) := by decide +kernel
theorem dX1_heldBy_59 : decode cX1_heldBy 59 = .ok (.ireturn, 1) := by decide +kernel
theorem dX1_pledgeHeld_0 : decode cX1_pledgeHeld 0 = .ok (.iconst 0, 1) := by decide +kernel
theorem dX1_pledgeHeld_1 : decode cX1_pledgeHeld 1 = .ok (.istore_n 3, 1) := by decide +kernel
theorem dX1_pledgeHeld_2 : decode cX1_pledgeHeld 2 = .ok (.iconst 0, 1) := by decide +kernel
theorem dX1_pledgeHeld_3 : decode cX1_pledgeHeld 3 = .ok (.istore 4, 2) := by decide +kernel
theorem dX1_pledgeHeld_5 : decode cX1_pledgeHeld 5 = .ok (.iload 4, 2) := by decide +kernel
theorem dX1_pledgeHeld_7 : decode cX1_pledgeHeld 7 = .ok (.aload_n 0, 1) := by decide +kernel
theorem dX1_pledgeHeld_8 : decode cX1_pledgeHeld 8 = .ok (.getfield 48, 3) := by decide +kernel
theorem dX1_pledgeHeld_11 : decode cX1_pledgeHeld 11 = .ok (.if_icmp .ge 40, 3) := by decide +kernel
theorem dX1_pledgeHeld_14 : decode cX1_pledgeHeld 14 = .ok (.aload_n 0, 1) := by decide +kernel
theorem dX1_pledgeHeld_15 : decode cX1_pledgeHeld 15 = .ok (.getfield 21, 3) := by decide +kernel
theorem dX1_pledgeHeld_18 : decode cX1_pledgeHeld 18 = .ok (.iload 4, 2) := by decide +kernel
theorem dX1_pledgeHeld_20 : decode cX1_pledgeHeld 20 = .ok (.iaload, 1) := by decide +kernel
theorem dX1_pledgeHeld_21 : decode cX1_pledgeHeld 21 = .ok (.iload_n 1, 1) := by decide +kernel
theorem dX1_pledgeHeld_22 : decode cX1_pledgeHeld 22 = .ok (.if_icmp .ne 23, 3) := by decide +kernel
theorem dX1_pledgeHeld_25 : decode cX1_pledgeHeld 25 = .ok (.aload_n 0, 1) := by decide +kernel
theorem dX1_pledgeHeld_26 : decode cX1_pledgeHeld 26 = .ok (.getfield 18, 3) := by decide +kernel
theorem dX1_pledgeHeld_29 : decode cX1_pledgeHeld 29 = .ok (.iload 4, 2) := by decide +kernel
theorem dX1_pledgeHeld_31 : decode cX1_pledgeHeld 31 = .ok (.iaload, 1) := by decide +kernel
theorem dX1_pledgeHeld_32 : decode cX1_pledgeHeld 32 = .ok (.iload_n 2, 1) := by decide +kernel
theorem dX1_pledgeHeld_33 : decode cX1_pledgeHeld 33 = .ok (.if_icmp .ne 12, 3) := by decide +kernel
theorem dX1_pledgeHeld_36 : decode cX1_pledgeHeld 36 = .ok (.iload_n 3, 1) := by decide +kernel
theorem dX1_pledgeHeld_37 : decode cX1_pledgeHeld 37 = .ok (.aload_n 0, 1) := by decide +kernel
theorem dX1_pledgeHeld_38 : decode cX1_pledgeHeld 38 = .ok (.iload 4, 2) := by decide +kernel
theorem dX1_pledgeHeld_40 : decode cX1_pledgeHeld 40 = .ok (.invokevirtual 87, 3) := by decide +kernel
theorem dX1_pledgeHeld_43 : decode cX1_pledgeHeld 43 = .ok (.iadd, 1) := by decide +kernel
theorem dX1_pledgeHeld_44 : decode cX1_pledgeHeld 44 = .ok (.istore_n 3, 1) := by decide +kernel
theorem dX1_pledgeHeld_45 : decode cX1_pledgeHeld 45 = .ok (.iinc 4 1, 3) := by decide +kernel
theorem dX1_pledgeHeld_48 : decode cX1_pledgeHeld 48 = .ok (.goto (-43), 3) := by decide +kernel
theorem dX1_pledgeHeld_51 : decode cX1_pledgeHeld 51 = .ok (.iload_n 3, 1) := by decide +kernel
theorem dX1_pledgeHeld_52 : decode cX1_pledgeHeld 52 = .ok (.ireturn, 1) := by decide +kernel
theorem dX1_lossesAbroad_0 : decode cX1_lossesAbroad 0 = .ok (.iconst 0, 1) := by decide +kernel
theorem dX1_lossesAbroad_1 : decode cX1_lossesAbroad 1 = .ok (.istore_n 1, 1) := by decide +kernel
theorem dX1_lossesAbroad_2 : decode cX1_lossesAbroad 2 = .ok (.iconst 0, 1) := by decide +kernel
theorem dX1_lossesAbroad_3 : decode cX1_lossesAbroad 3 = .ok (.istore_n 2, 1) := by decide +kernel
theorem dX1_lossesAbroad_4 : decode cX1_lossesAbroad 4 = .ok (.iload_n 2, 1) := by decide +kernel
theorem dX1_lossesAbroad_5 : decode cX1_lossesAbroad 5 = .ok (.aload_n 0, 1) := by decide +kernel
theorem dX1_lossesAbroad_6 : decode cX1_lossesAbroad 6 = .ok (.getfield 48, 3) := by decide +kernel
theorem dX1_lossesAbroad_9 : decode cX1_lossesAbroad 9 = .ok (.if_icmp .ge 32, 3) := by decide +kernel
theorem dX1_lossesAbroad_12 : decode cX1_lossesAbroad 12 = .ok (.aload_n 0, 1) := by decide +kernel
theorem dX1_lossesAbroad_13 : decode cX1_lossesAbroad 13 = .ok (.getfield 21, 3) := by decide +kernel
theorem dX1_lossesAbroad_16 : decode cX1_lossesAbroad 16 = .ok (.iload_n 2, 1) := by decide +kernel
theorem dX1_lossesAbroad_17 : decode cX1_lossesAbroad 17 = .ok (.iaload, 1) := by decide +kernel
theorem dX1_lossesAbroad_18 : decode cX1_lossesAbroad 18 = .ok (.aload_n 0, 1) := by decide +kernel
theorem dX1_lossesAbroad_19 : decode cX1_lossesAbroad 19 = .ok (.getfield 18, 3) := by decide +kernel
theorem dX1_lossesAbroad_22 : decode cX1_lossesAbroad 22 = .ok (.iload_n 2, 1) := by decide +kernel
theorem dX1_lossesAbroad_23 : decode cX1_lossesAbroad 23 = .ok (.iaload, 1) := by decide +kernel
theorem dX1_lossesAbroad_24 : decode cX1_lossesAbroad 24 = .ok (.if_icmp .eq 11, 3) := by decide +kernel
theorem dX1_lossesAbroad_27 : decode cX1_lossesAbroad 27 = .ok (.iload_n 1, 1) := by decide +kernel
theorem dX1_lossesAbroad_28 : decode cX1_lossesAbroad 28 = .ok (.aload_n 0, 1) := by decide +kernel
theorem dX1_lossesAbroad_29 : decode cX1_lossesAbroad 29 = .ok (.iload_n 2, 1) := by decide +kernel
theorem dX1_lossesAbroad_30 : decode cX1_lossesAbroad 30 = .ok (.invokevirtual 87, 3) := by decide +kernel
theorem dX1_lossesAbroad_33 : decode cX1_lossesAbroad 33 = .ok (.iadd, 1) := by decide +kernel
theorem dX1_lossesAbroad_34 : decode cX1_lossesAbroad 34 = .ok (.istore_n 1, 1) := by decide +kernel
theorem dX1_lossesAbroad_35 : decode cX1_lossesAbroad 35 = .ok (.iinc 2 1, 3) := by decide +kernel
theorem dX1_lossesAbroad_38 : decode cX1_lossesAbroad 38 = .ok (.goto (-34), 3) := by decide +kernel
theorem dX1_lossesAbroad_41 : decode cX1_lossesAbroad 41 = .ok (.iload_n 1, 1) := by decide +kernel
theorem dX1_lossesAbroad_42 : decode cX1_lossesAbroad 42 = .ok (.ireturn, 1) := by decide +kernel
theorem dX1_wordsInForce_0 : decode cX1_wordsInForce 0 = .ok (.iconst 0, 1) := by decide +kernel
theorem dX1_wordsInForce_1 : decode cX1_wordsInForce 1 = .ok (.istore_n 1, 1) := by decide +kernel
theorem dX1_wordsInForce_2 : decode cX1_wordsInForce 2 = .ok (.iconst 0, 1) := by decide +kernel
theorem dX1_wordsInForce_3 : decode cX1_wordsInForce 3 = .ok (.istore_n 2, 1) := by decide +kernel
theorem dX1_wordsInForce_4 : decode cX1_wordsInForce 4 = .ok (.iload_n 2, 1) := by decide +kernel
theorem dX1_wordsInForce_5 : decode cX1_wordsInForce 5 = .ok (.aload_n 0, 1) := by decide +kernel
theorem dX1_wordsInForce_6 : decode cX1_wordsInForce 6 = .ok (.getfield 52, 3) := by decide +kernel
theorem dX1_wordsInForce_9 : decode cX1_wordsInForce 9 = .ok (.if_icmp .ge 23, 3) := by decide +kernel
theorem dX1_wordsInForce_12 : decode cX1_wordsInForce 12 = .ok (.aload_n 0, 1) := by decide +kernel
theorem dX1_wordsInForce_13 : decode cX1_wordsInForce 13 = .ok (.iload_n 2, 1) := by decide +kernel
theorem dX1_wordsInForce_14 : decode cX1_wordsInForce 14 = .ok (.invokevirtual 90, 3) := by decide +kernel
theorem dX1_wordsInForce_17 : decode cX1_wordsInForce 17 = .ok (.ifCond .eq 9, 3) := by decide +kernel
theorem dX1_wordsInForce_20 : decode cX1_wordsInForce 20 = .ok (.iload_n 1, 1) := by decide +kernel
theorem dX1_wordsInForce_21 : decode cX1_wordsInForce 21 = .ok (.iconst 1, 1) := by decide +kernel
theorem dX1_wordsInForce_22 : decode cX1_wordsInForce 22 = .ok (.iload_n 2, 1) := by decide +kernel
theorem dX1_wordsInForce_23 : decode cX1_wordsInForce 23 = .ok (.ishl, 1) := by decide +kernel
theorem dX1_wordsInForce_24 : decode cX1_wordsInForce 24 = .ok (.ior, 1) := by decide +kernel
theorem dX1_wordsInForce_25 : decode cX1_wordsInForce 25 = .ok (.istore_n 1, 1) := by decide +kernel
theorem dX1_wordsInForce_26 : decode cX1_wordsInForce 26 = .ok (.iinc 2 1, 3) := by decide +kernel
theorem dX1_wordsInForce_29 : decode cX1_wordsInForce 29 = .ok (.goto (-25), 3) := by decide +kernel
theorem dX1_wordsInForce_32 : decode cX1_wordsInForce 32 = .ok (.iload_n 1, 1) := by decide +kernel
theorem dX1_wordsInForce_33 : decode cX1_wordsInForce 33 = .ok (.ireturn, 1) := by decide +kernel
theorem dX1_wordsOf_0 : decode cX1_wordsOf 0 = .ok (.iconst 0, 1) := by decide +kernel
theorem dX1_wordsOf_1 : decode cX1_wordsOf 1 = .ok (.istore_n 2, 1) := by decide +kernel
theorem dX1_wordsOf_2 : decode cX1_wordsOf 2 = .ok (.iconst 0, 1) := by decide +kernel
theorem dX1_wordsOf_3 : decode cX1_wordsOf 3 = .ok (.istore_n 3, 1) := by decide +kernel
theorem dX1_wordsOf_4 : decode cX1_wordsOf 4 = .ok (.iload_n 3, 1) := by decide +kernel
theorem dX1_wordsOf_5 : decode cX1_wordsOf 5 = .ok (.aload_n 0, 1) := by decide +kernel
theorem dX1_wordsOf_6 : decode cX1_wordsOf 6 = .ok (.getfield 52, 3) := by decide +kernel
theorem dX1_wordsOf_9 : decode cX1_wordsOf 9 = .ok (.if_icmp .ge 33, 3) := by decide +kernel
theorem dX1_wordsOf_12 : decode cX1_wordsOf 12 = .ok (.aload_n 0, 1) := by decide +kernel
theorem dX1_wordsOf_13 : decode cX1_wordsOf 13 = .ok (.getfield 27, 3) := by decide +kernel
theorem dX1_wordsOf_16 : decode cX1_wordsOf 16 = .ok (.iload_n 3, 1) := by decide +kernel
theorem dX1_wordsOf_17 : decode cX1_wordsOf 17 = .ok (.iaload, 1) := by decide +kernel
theorem dX1_wordsOf_18 : decode cX1_wordsOf 18 = .ok (.iload_n 1, 1) := by decide +kernel
theorem dX1_wordsOf_19 : decode cX1_wordsOf 19 = .ok (.if_icmp .ne 17, 3) := by decide +kernel
theorem dX1_wordsOf_22 : decode cX1_wordsOf 22 = .ok (.aload_n 0, 1) := by decide +kernel
theorem dX1_wordsOf_23 : decode cX1_wordsOf 23 = .ok (.iload_n 3, 1) := by decide +kernel
theorem dX1_wordsOf_24 : decode cX1_wordsOf 24 = .ok (.invokevirtual 90, 3) := by decide +kernel
theorem dX1_wordsOf_27 : decode cX1_wordsOf 27 = .ok (.ifCond .eq 9, 3) := by decide +kernel
theorem dX1_wordsOf_30 : decode cX1_wordsOf 30 = .ok (.iload_n 2, 1) := by decide +kernel
theorem dX1_wordsOf_31 : decode cX1_wordsOf 31 = .ok (.iconst 1, 1) := by decide +kernel
theorem dX1_wordsOf_32 : decode cX1_wordsOf 32 = .ok (.iload_n 3, 1) := by decide +kernel
theorem dX1_wordsOf_33 : decode cX1_wordsOf 33 = .ok (.ishl, 1) := by decide +kernel
theorem dX1_wordsOf_34 : decode cX1_wordsOf 34 = .ok (.ior, 1) := by decide +kernel
theorem dX1_wordsOf_35 : decode cX1_wordsOf 35 = .ok (.istore_n 2, 1) := by decide +kernel
theorem dX1_wordsOf_36 : decode cX1_wordsOf 36 = .ok (.iinc 3 1, 3) := by decide +kernel
theorem dX1_wordsOf_39 : decode cX1_wordsOf 39 = .ok (.goto (-35), 3) := by decide +kernel
theorem dX1_wordsOf_42 : decode cX1_wordsOf 42 = .ok (.iload_n 2, 1) := by decide +kernel
theorem dX1_wordsOf_43 : decode cX1_wordsOf 43 = .ok (.ireturn, 1) := by decide +kernel
theorem dX1_hasWord_0 : decode cX1_hasWord 0 = .ok (.iconst 0, 1) := by decide +kernel
theorem dX1_hasWord_1 : decode cX1_hasWord 1 = .ok (.istore_n 3, 1) := by decide +kernel
theorem dX1_hasWord_2 : decode cX1_hasWord 2 = .ok (.iload_n 3, 1) := by decide +kernel
theorem dX1_hasWord_3 : decode cX1_hasWord 3 = .ok (.aload_n 0, 1) := by decide +kernel
theorem dX1_hasWord_4 : decode cX1_hasWord 4 = .ok (.getfield 52, 3) := by decide +kernel
theorem dX1_hasWord_7 : decode cX1_hasWord 7 = .ok (.if_icmp .ge 39, 3) := by decide +kernel
theorem dX1_hasWord_10 : decode cX1_hasWord 10 = .ok (.aload_n 0, 1) := by decide +kernel
theorem dX1_hasWord_11 : decode cX1_hasWord 11 = .ok (.getfield 27, 3) := by decide +kernel
theorem dX1_hasWord_14 : decode cX1_hasWord 14 = .ok (.iload_n 3, 1) := by decide +kernel
theorem dX1_hasWord_15 : decode cX1_hasWord 15 = .ok (.iaload, 1) := by decide +kernel
theorem dX1_hasWord_16 : decode cX1_hasWord 16 = .ok (.iload_n 1, 1) := by decide +kernel
theorem dX1_hasWord_17 : decode cX1_hasWord 17 = .ok (.if_icmp .ne 23, 3) := by decide +kernel
theorem dX1_hasWord_20 : decode cX1_hasWord 20 = .ok (.aload_n 0, 1) := by decide +kernel
theorem dX1_hasWord_21 : decode cX1_hasWord 21 = .ok (.getfield 30, 3) := by decide +kernel
theorem dX1_hasWord_24 : decode cX1_hasWord 24 = .ok (.iload_n 3, 1) := by decide +kernel
theorem dX1_hasWord_25 : decode cX1_hasWord 25 = .ok (.iaload, 1) := by decide +kernel
theorem dX1_hasWord_26 : decode cX1_hasWord 26 = .ok (.iload_n 2, 1) := by decide +kernel
theorem dX1_hasWord_27 : decode cX1_hasWord 27 = .ok (.if_icmp .ne 13, 3) := by decide +kernel
theorem dX1_hasWord_30 : decode cX1_hasWord 30 = .ok (.aload_n 0, 1) := by decide +kernel
theorem dX1_hasWord_31 : decode cX1_hasWord 31 = .ok (.iload_n 3, 1) := by decide +kernel
theorem dX1_hasWord_32 : decode cX1_hasWord 32 = .ok (.invokevirtual 90, 3) := by decide +kernel
theorem dX1_hasWord_35 : decode cX1_hasWord 35 = .ok (.ifCond .eq 5, 3) := by decide +kernel
theorem dX1_hasWord_38 : decode cX1_hasWord 38 = .ok (.iconst 1, 1) := by decide +kernel
theorem dX1_hasWord_39 : decode cX1_hasWord 39 = .ok (.ireturn, 1) := by decide +kernel
theorem dX1_hasWord_40 : decode cX1_hasWord 40 = .ok (.iinc 3 1, 3) := by decide +kernel
theorem dX1_hasWord_43 : decode cX1_hasWord 43 = .ok (.goto (-41), 3) := by decide +kernel
theorem dX1_hasWord_46 : decode cX1_hasWord 46 = .ok (.iconst 0, 1) := by decide +kernel
theorem dX1_hasWord_47 : decode cX1_hasWord 47 = .ok (.ireturn, 1) := by decide +kernel
theorem dX1_easeOf_0 : decode cX1_easeOf 0 = .ok (.aload_n 0, 1) := by decide +kernel
theorem dX1_easeOf_1 : decode cX1_easeOf 1 = .ok (.getfield 27, 3) := by decide +kernel
theorem dX1_easeOf_4 : decode cX1_easeOf 4 = .ok (.iload_n 1, 1) := by decide +kernel
theorem dX1_easeOf_5 : decode cX1_easeOf 5 = .ok (.iaload, 1) := by decide +kernel
theorem dX1_easeOf_6 : decode cX1_easeOf 6 = .ok (.istore_n 2, 1) := by decide +kernel
theorem dX1_easeOf_7 : decode cX1_easeOf 7 = .ok (.aload_n 0, 1) := by decide +kernel
theorem dX1_easeOf_8 : decode cX1_easeOf 8 = .ok (.aload_n 0, 1) := by decide +kernel
theorem dX1_easeOf_9 : decode cX1_easeOf 9 = .ok (.getfield 30, 3) := by decide +kernel
theorem dX1_easeOf_12 : decode cX1_easeOf 12 = .ok (.iload_n 1, 1) := by decide +kernel
theorem dX1_easeOf_13 : decode cX1_easeOf 13 = .ok (.iaload, 1) := by decide +kernel
theorem dX1_easeOf_14 : decode cX1_easeOf 14 = .ok (.iload_n 2, 1) := by decide +kernel
theorem dX1_easeOf_15 : decode cX1_easeOf 15 = .ok (.invokevirtual 93, 3) := by decide +kernel
theorem dX1_easeOf_18 : decode cX1_easeOf 18 = .ok (.aload_n 0, 1) := by decide +kernel
theorem dX1_easeOf_19 : decode cX1_easeOf 19 = .ok (.getfield 9, 3) := by decide +kernel
theorem dX1_easeOf_22 : decode cX1_easeOf 22 = .ok (.iload_n 2, 1) := by decide +kernel
theorem dX1_easeOf_23 : decode cX1_easeOf 23 = .ok (.iaload, 1) := by decide +kernel
theorem dX1_easeOf_24 : decode cX1_easeOf 24 = .ok (.iadd, 1) := by decide +kernel
theorem dX1_easeOf_25 : decode cX1_easeOf 25 = .ok (.aload_n 0, 1) := by decide +kernel
theorem dX1_easeOf_26 : decode cX1_easeOf 26 = .ok (.getfield 33, 3) := by decide +kernel
theorem dX1_easeOf_29 : decode cX1_easeOf 29 = .ok (.iload_n 1, 1) := by decide +kernel
theorem dX1_easeOf_30 : decode cX1_easeOf 30 = .ok (.iaload, 1) := by decide +kernel
theorem dX1_easeOf_31 : decode cX1_easeOf 31 = .ok (.isub, 1) := by decide +kernel
theorem dX1_easeOf_32 : decode cX1_easeOf 32 = .ok (.ireturn, 1) := by decide +kernel
theorem dX1_looseWords_0 : decode cX1_looseWords 0 = .ok (.iconst 0, 1) := by decide +kernel
theorem dX1_looseWords_1 : decode cX1_looseWords 1 = .ok (.istore_n 1, 1) := by decide +kernel
theorem dX1_looseWords_2 : decode cX1_looseWords 2 = .ok (.iconst 0, 1) := by decide +kernel
theorem dX1_looseWords_3 : decode cX1_looseWords 3 = .ok (.istore_n 2, 1) := by decide +kernel
theorem dX1_looseWords_4 : decode cX1_looseWords 4 = .ok (.iload_n 2, 1) := by decide +kernel
theorem dX1_looseWords_5 : decode cX1_looseWords 5 = .ok (.bipush 6, 2) := by decide +kernel
theorem dX1_looseWords_7 : decode cX1_looseWords 7 = .ok (.if_icmp .ge 17, 3) := by decide +kernel
theorem dX1_looseWords_10 : decode cX1_looseWords 10 = .ok (.iload_n 1, 1) := by decide +kernel
theorem dX1_looseWords_11 : decode cX1_looseWords 11 = .ok (.aload_n 0, 1) := by decide +kernel
theorem dX1_looseWords_12 : decode cX1_looseWords 12 = .ok (.iload_n 2, 1) := by decide +kernel
theorem dX1_looseWords_13 : decode cX1_looseWords 13 = .ok (.invokevirtual 96, 3) := by decide +kernel
theorem dX1_looseWords_16 : decode cX1_looseWords 16 = .ok (.ior, 1) := by decide +kernel
theorem dX1_looseWords_17 : decode cX1_looseWords 17 = .ok (.istore_n 1, 1) := by decide +kernel
theorem dX1_looseWords_18 : decode cX1_looseWords 18 = .ok (.iinc 2 1, 3) := by decide +kernel
theorem dX1_looseWords_21 : decode cX1_looseWords 21 = .ok (.goto (-17), 3) := by decide +kernel
theorem dX1_looseWords_24 : decode cX1_looseWords 24 = .ok (.iload_n 1, 1) := by decide +kernel
theorem dX1_looseWords_25 : decode cX1_looseWords 25 = .ok (.ireturn, 1) := by decide +kernel
theorem dX1_looseWordsOf_0 : decode cX1_looseWordsOf 0 = .ok (.iconst 0, 1) := by decide +kernel
theorem dX1_looseWordsOf_1 : decode cX1_looseWordsOf 1 = .ok (.istore_n 2, 1) := by decide +kernel
theorem dX1_looseWordsOf_2 : decode cX1_looseWordsOf 2 = .ok (.iload_n 2, 1) := by decide +kernel
theorem dX1_looseWordsOf_3 : decode cX1_looseWordsOf 3 = .ok (.bipush 6, 2) := by decide +kernel
theorem dX1_looseWordsOf_5 : decode cX1_looseWordsOf 5 = .ok (.if_icmp .ge 16, 3) := by decide +kernel
theorem dX1_looseWordsOf_8 : decode cX1_looseWordsOf 8 = .ok (.aload_n 0, 1) := by decide +kernel
theorem dX1_looseWordsOf_9 : decode cX1_looseWordsOf 9 = .ok (.getfield 39, 3) := by decide +kernel
theorem dX1_looseWordsOf_12 : decode cX1_looseWordsOf 12 = .ok (.iload_n 2, 1) := by decide +kernel
theorem dX1_looseWordsOf_13 : decode cX1_looseWordsOf 13 = .ok (.iconst 0, 1) := by decide +kernel
theorem dX1_looseWordsOf_14 : decode cX1_looseWordsOf 14 = .ok (.iastore, 1) := by decide +kernel
theorem dX1_looseWordsOf_15 : decode cX1_looseWordsOf 15 = .ok (.iinc 2 1, 3) := by decide +kernel
theorem dX1_looseWordsOf_18 : decode cX1_looseWordsOf 18 = .ok (.goto (-16), 3) := by decide +kernel
theorem dX1_looseWordsOf_21 : decode cX1_looseWordsOf 21 = .ok (.aload_n 0, 1) := by decide +kernel
theorem dX1_looseWordsOf_22 : decode cX1_looseWordsOf 22 = .ok (.iload_n 1, 1) := by decide +kernel
theorem dX1_looseWordsOf_23 : decode cX1_looseWordsOf 23 = .ok (.invokevirtual 68, 3) := by decide +kernel
theorem dX1_looseWordsOf_26 : decode cX1_looseWordsOf 26 = .ok (.istore_n 2, 1) := by decide +kernel
theorem dX1_looseWordsOf_27 : decode cX1_looseWordsOf 27 = .ok (.iconst 0, 1) := by decide +kernel
theorem dX1_looseWordsOf_28 : decode cX1_looseWordsOf 28 = .ok (.istore_n 3, 1) := by decide +kernel
theorem dX1_looseWordsOf_29 : decode cX1_looseWordsOf 29 = .ok (.iload_n 3, 1) := by decide +kernel
theorem dX1_looseWordsOf_30 : decode cX1_looseWordsOf 30 = .ok (.aload_n 0, 1) := by decide +kernel
theorem dX1_looseWordsOf_31 : decode cX1_looseWordsOf 31 = .ok (.getfield 48, 3) := by decide +kernel
theorem dX1_looseWordsOf_34 : decode cX1_looseWordsOf 34 = .ok (.if_icmp .ge 39, 3) := by decide +kernel
theorem dX1_looseWordsOf_37 : decode cX1_looseWordsOf 37 = .ok (.aload_n 0, 1) := by decide +kernel
theorem dX1_looseWordsOf_38 : decode cX1_looseWordsOf 38 = .ok (.getfield 18, 3) := by decide +kernel
theorem dX1_looseWordsOf_41 : decode cX1_looseWordsOf 41 = .ok (.iload_n 3, 1) := by decide +kernel
theorem dX1_looseWordsOf_42 : decode cX1_looseWordsOf 42 = .ok (.iaload, 1) := by decide +kernel
theorem dX1_looseWordsOf_43 : decode cX1_looseWordsOf 43 = .ok (.iload_n 1, 1) := by decide +kernel
theorem dX1_looseWordsOf_44 : decode cX1_looseWordsOf 44 = .ok (.if_icmp .ne 23, 3) := by decide +kernel
theorem dX1_looseWordsOf_47 : decode cX1_looseWordsOf 47 = .ok (.aload_n 0, 1) := by decide +kernel
theorem dX1_looseWordsOf_48 : decode cX1_looseWordsOf 48 = .ok (.getfield 39, 3) := by decide +kernel
theorem dX1_looseWordsOf_51 : decode cX1_looseWordsOf 51 = .ok (.aload_n 0, 1) := by decide +kernel
theorem dX1_looseWordsOf_52 : decode cX1_looseWordsOf 52 = .ok (.getfield 21, 3) := by decide +kernel
theorem dX1_looseWordsOf_55 : decode cX1_looseWordsOf 55 = .ok (.iload_n 3, 1) := by decide +kernel
theorem dX1_looseWordsOf_56 : decode cX1_looseWordsOf 56 = .ok (.iaload, 1) := by decide +kernel
theorem dX1_looseWordsOf_57 : decode cX1_looseWordsOf 57 = .ok (.dup2, 1) := by decide +kernel
theorem dX1_looseWordsOf_58 : decode cX1_looseWordsOf 58 = .ok (.iaload, 1) := by decide +kernel
theorem dX1_looseWordsOf_59 : decode cX1_looseWordsOf 59 = .ok (.aload_n 0, 1) := by decide +kernel
theorem dX1_looseWordsOf_60 : decode cX1_looseWordsOf 60 = .ok (.iload_n 2, 1) := by decide +kernel
theorem dX1_looseWordsOf_61 : decode cX1_looseWordsOf 61 = .ok (.iload_n 3, 1) := by decide +kernel
theorem dX1_looseWordsOf_62 : decode cX1_looseWordsOf 62 = .ok (.invokevirtual 72, 3) := by decide +kernel
theorem dX1_looseWordsOf_65 : decode cX1_looseWordsOf 65 = .ok (.iadd, 1) := by decide +kernel
theorem dX1_looseWordsOf_66 : decode cX1_looseWordsOf 66 = .ok (.iastore, 1) := by decide +kernel
theorem dX1_looseWordsOf_67 : decode cX1_looseWordsOf 67 = .ok (.iinc 3 1, 3) := by decide +kernel
theorem dX1_looseWordsOf_70 : decode cX1_looseWordsOf 70 = .ok (.goto (-41), 3) := by decide +kernel
theorem dX1_looseWordsOf_73 : decode cX1_looseWordsOf 73 = .ok (.iconst 0, 1) := by decide +kernel
theorem dX1_looseWordsOf_74 : decode cX1_looseWordsOf 74 = .ok (.istore_n 3, 1) := by decide +kernel
theorem dX1_looseWordsOf_75 : decode cX1_looseWordsOf 75 = .ok (.iconst 0, 1) := by decide +kernel
theorem dX1_looseWordsOf_76 : decode cX1_looseWordsOf 76 = .ok (.istore 4, 2) := by decide +kernel
theorem dX1_looseWordsOf_78 : decode cX1_looseWordsOf 78 = .ok (.iload 4, 2) := by decide +kernel
theorem dX1_looseWordsOf_80 : decode cX1_looseWordsOf 80 = .ok (.aload_n 0, 1) := by decide +kernel
theorem dX1_looseWordsOf_81 : decode cX1_looseWordsOf 81 = .ok (.getfield 52, 3) := by decide +kernel
theorem dX1_looseWordsOf_84 : decode cX1_looseWordsOf 84 = .ok (.if_icmp .ge 65, 3) := by decide +kernel
theorem dX1_looseWordsOf_87 : decode cX1_looseWordsOf 87 = .ok (.aload_n 0, 1) := by decide +kernel
theorem dX1_looseWordsOf_88 : decode cX1_looseWordsOf 88 = .ok (.getfield 27, 3) := by decide +kernel
theorem dX1_looseWordsOf_91 : decode cX1_looseWordsOf 91 = .ok (.iload 4, 2) := by decide +kernel
theorem dX1_looseWordsOf_93 : decode cX1_looseWordsOf 93 = .ok (.iaload, 1) := by decide +kernel
theorem dX1_looseWordsOf_94 : decode cX1_looseWordsOf 94 = .ok (.iload_n 1, 1) := by decide +kernel
theorem dX1_looseWordsOf_95 : decode cX1_looseWordsOf 95 = .ok (.if_icmp .ne 48, 3) := by decide +kernel
theorem dX1_looseWordsOf_98 : decode cX1_looseWordsOf 98 = .ok (.aload_n 0, 1) := by decide +kernel
theorem dX1_looseWordsOf_99 : decode cX1_looseWordsOf 99 = .ok (.iload 4, 2) := by decide +kernel
theorem dX1_looseWordsOf_101 : decode cX1_looseWordsOf 101 = .ok (.invokevirtual 90, 3) := by decide +kernel
theorem dX1_looseWordsOf_104 : decode cX1_looseWordsOf 104 = .ok (.ifCond .eq 39, 3) := by decide +kernel
theorem dX1_looseWordsOf_107 : decode cX1_looseWordsOf 107 = .ok (.aload_n 0, 1) := by decide +kernel
theorem dX1_looseWordsOf_108 : decode cX1_looseWordsOf 108 = .ok (.getfield 33, 3) := by decide +kernel
theorem dX1_looseWordsOf_111 : decode cX1_looseWordsOf 111 = .ok (.iload 4, 2) := by decide +kernel
theorem dX1_looseWordsOf_113 : decode cX1_looseWordsOf 113 = .ok (.iaload, 1) := by decide +kernel
theorem dX1_looseWordsOf_114 : decode cX1_looseWordsOf 114 = .ok (.aload_n 0, 1) := by decide +kernel
theorem dX1_looseWordsOf_115 : decode cX1_looseWordsOf 115 = .ok (.getfield 39, 3) := by decide +kernel
theorem dX1_looseWordsOf_118 : decode cX1_looseWordsOf 118 = .ok (.aload_n 0, 1) := by decide +kernel
theorem dX1_looseWordsOf_119 : decode cX1_looseWordsOf 119 = .ok (.getfield 30, 3) := by decide +kernel
theorem dX1_looseWordsOf_122 : decode cX1_looseWordsOf 122 = .ok (.iload 4, 2) := by decide +kernel
theorem dX1_looseWordsOf_124 : decode cX1_looseWordsOf 124 = .ok (.iaload, 1) := by decide +kernel
theorem dX1_looseWordsOf_125 : decode cX1_looseWordsOf 125 = .ok (.iaload, 1) := by decide +kernel
theorem dX1_looseWordsOf_126 : decode cX1_looseWordsOf 126 = .ok (.aload_n 0, 1) := by decide +kernel
theorem dX1_looseWordsOf_127 : decode cX1_looseWordsOf 127 = .ok (.getfield 9, 3) := by decide +kernel
theorem dX1_looseWordsOf_130 : decode cX1_looseWordsOf 130 = .ok (.iload_n 1, 1) := by decide +kernel
theorem dX1_looseWordsOf_131 : decode cX1_looseWordsOf 131 = .ok (.iaload, 1) := by decide +kernel
theorem dX1_looseWordsOf_132 : decode cX1_looseWordsOf 132 = .ok (.iadd, 1) := by decide +kernel
theorem dX1_looseWordsOf_133 : decode cX1_looseWordsOf 133 = .ok (.if_icmp .le 10, 3) := by decide +kernel
theorem dX1_looseWordsOf_136 : decode cX1_looseWordsOf 136 = .ok (.iload_n 3, 1) := by decide +kernel
theorem dX1_looseWordsOf_137 : decode cX1_looseWordsOf 137 = .ok (.iconst 1, 1) := by decide +kernel
theorem dX1_looseWordsOf_138 : decode cX1_looseWordsOf 138 = .ok (.iload 4, 2) := by decide +kernel
theorem dX1_looseWordsOf_140 : decode cX1_looseWordsOf 140 = .ok (.ishl, 1) := by decide +kernel
theorem dX1_looseWordsOf_141 : decode cX1_looseWordsOf 141 = .ok (.ior, 1) := by decide +kernel
theorem dX1_looseWordsOf_142 : decode cX1_looseWordsOf 142 = .ok (.istore_n 3, 1) := by decide +kernel
theorem dX1_looseWordsOf_143 : decode cX1_looseWordsOf 143 = .ok (.iinc 4 1, 3) := by decide +kernel
theorem dX1_looseWordsOf_146 : decode cX1_looseWordsOf 146 = .ok (.goto (-68), 3) := by decide +kernel
theorem dX1_looseWordsOf_149 : decode cX1_looseWordsOf 149 = .ok (.iload_n 3, 1) := by decide +kernel
theorem dX1_looseWordsOf_150 : decode cX1_looseWordsOf 150 = .ok (.ireturn, 1) := by decide +kernel
theorem dX1_pactPays_0 : decode cX1_pactPays 0 = .ok (.iconst 0, 1) := by decide +kernel
theorem dX1_pactPays_1 : decode cX1_pactPays 1 = .ok (.istore_n 3, 1) := by decide +kernel
theorem dX1_pactPays_2 : decode cX1_pactPays 2 = .ok (.iconst 0, 1) := by decide +kernel
theorem dX1_pactPays_3 : decode cX1_pactPays 3 = .ok (.istore 4, 2) := by decide +kernel
theorem dX1_pactPays_5 : decode cX1_pactPays 5 = .ok (.iload 4, 2) := by decide +kernel
theorem dX1_pactPays_7 : decode cX1_pactPays 7 = .ok (.aload_n 0, 1) := by decide +kernel
theorem dX1_pactPays_8 : decode cX1_pactPays 8 = .ok (.getfield 52, 3) := by decide +kernel
theorem dX1_pactPays_11 : decode cX1_pactPays 11 = .ok (.if_icmp .ge 58, 3) := by decide +kernel
theorem dX1_pactPays_14 : decode cX1_pactPays 14 = .ok (.aload_n 0, 1) := by decide +kernel
theorem dX1_pactPays_15 : decode cX1_pactPays 15 = .ok (.iload 4, 2) := by decide +kernel
theorem dX1_pactPays_17 : decode cX1_pactPays 17 = .ok (.invokevirtual 90, 3) := by decide +kernel
theorem dX1_pactPays_20 : decode cX1_pactPays 20 = .ok (.ifCond .eq 43, 3) := by decide +kernel
theorem dX1_pactPays_23 : decode cX1_pactPays 23 = .ok (.aload_n 0, 1) := by decide +kernel
theorem dX1_pactPays_24 : decode cX1_pactPays 24 = .ok (.getfield 27, 3) := by decide +kernel
theorem dX1_pactPays_27 : decode cX1_pactPays 27 = .ok (.iload 4, 2) := by decide +kernel
theorem dX1_pactPays_29 : decode cX1_pactPays 29 = .ok (.iaload, 1) := by decide +kernel
theorem dX1_pactPays_30 : decode cX1_pactPays 30 = .ok (.iload_n 1, 1) := by decide +kernel
theorem dX1_pactPays_31 : decode cX1_pactPays 31 = .ok (.iload_n 2, 1) := by decide +kernel
theorem dX1_pactPays_32 : decode cX1_pactPays 32 = .ok (.invokestatic 99, 3) := by decide +kernel
theorem dX1_pactPays_35 : decode cX1_pactPays 35 = .ok (.ifCond .eq 28, 3) := by decide +kernel
theorem dX1_pactPays_38 : decode cX1_pactPays 38 = .ok (.aload_n 0, 1) := by decide +kernel
theorem dX1_pactPays_39 : decode cX1_pactPays 39 = .ok (.getfield 30, 3) := by decide +kernel
theorem dX1_pactPays_42 : decode cX1_pactPays 42 = .ok (.iload 4, 2) := by decide +kernel
theorem dX1_pactPays_44 : decode cX1_pactPays 44 = .ok (.iaload, 1) := by decide +kernel
theorem dX1_pactPays_45 : decode cX1_pactPays 45 = .ok (.iload_n 1, 1) := by decide +kernel
theorem dX1_pactPays_46 : decode cX1_pactPays 46 = .ok (.iload_n 2, 1) := by decide +kernel
theorem dX1_pactPays_47 : decode cX1_pactPays 47 = .ok (.invokestatic 99, 3) := by decide +kernel
theorem dX1_pactPays_50 : decode cX1_pactPays 50 = .ok (.ifCond .ne 13, 3) := by decide +kernel
theorem dX1_pactPays_53 : decode cX1_pactPays 53 = .ok (.iload_n 3, 1) := by decide +kernel
theorem dX1_pactPays_54 : decode cX1_pactPays 54 = .ok (.aload_n 0, 1) := by decide +kernel
theorem dX1_pactPays_55 : decode cX1_pactPays 55 = .ok (.getfield 33, 3) := by decide +kernel
theorem dX1_pactPays_58 : decode cX1_pactPays 58 = .ok (.iload 4, 2) := by decide +kernel
theorem dX1_pactPays_60 : decode cX1_pactPays 60 = .ok (.iaload, 1) := by decide +kernel
theorem dX1_pactPays_61 : decode cX1_pactPays 61 = .ok (.iadd, 1) := by decide +kernel
theorem dX1_pactPays_62 : decode cX1_pactPays 62 = .ok (.istore_n 3, 1) := by decide +kernel
theorem dX1_pactPays_63 : decode cX1_pactPays 63 = .ok (.iinc 4 1, 3) := by decide +kernel
theorem dX1_pactPays_66 : decode cX1_pactPays 66 = .ok (.goto (-61), 3) := by decide +kernel
theorem dX1_pactPays_69 : decode cX1_pactPays 69 = .ok (.aload_n 0, 1) := by decide +kernel
theorem dX1_pactPays_70 : decode cX1_pactPays 70 = .ok (.getfield 9, 3) := by decide +kernel
theorem dX1_pactPays_73 : decode cX1_pactPays 73 = .ok (.iload_n 1, 1) := by decide +kernel
theorem dX1_pactPays_74 : decode cX1_pactPays 74 = .ok (.iaload, 1) := by decide +kernel
theorem dX1_pactPays_75 : decode cX1_pactPays 75 = .ok (.aload_n 0, 1) := by decide +kernel
theorem dX1_pactPays_76 : decode cX1_pactPays 76 = .ok (.getfield 9, 3) := by decide +kernel
theorem dX1_pactPays_79 : decode cX1_pactPays 79 = .ok (.iload_n 2, 1) := by decide +kernel
theorem dX1_pactPays_80 : decode cX1_pactPays 80 = .ok (.iaload, 1) := by decide +kernel
theorem dX1_pactPays_81 : decode cX1_pactPays 81 = .ok (.iadd, 1) := by decide +kernel
theorem dX1_pactPays_82 : decode cX1_pactPays 82 = .ok (.istore 4, 2) := by decide +kernel
theorem dX1_pactPays_84 : decode cX1_pactPays 84 = .ok (.iconst 0, 1) := by decide +kernel
theorem dX1_pactPays_85 : decode cX1_pactPays 85 = .ok (.istore 5, 2) := by decide +kernel
theorem dX1_pactPays_87 : decode cX1_pactPays 87 = .ok (.iload 5, 2) := by decide +kernel
theorem dX1_pactPays_89 : decode cX1_pactPays 89 = .ok (.aload_n 0, 1) := by decide +kernel
theorem dX1_pactPays_90 : decode cX1_pactPays 90 = .ok (.getfield 48, 3) := by decide +kernel
theorem dX1_pactPays_93 : decode cX1_pactPays 93 = .ok (.if_icmp .ge 50, 3) := by decide +kernel
theorem dX1_pactPays_96 : decode cX1_pactPays 96 = .ok (.aload_n 0, 1) := by decide +kernel
theorem dX1_pactPays_97 : decode cX1_pactPays 97 = .ok (.getfield 18, 3) := by decide +kernel
theorem dX1_pactPays_100 : decode cX1_pactPays 100 = .ok (.iload 5, 2) := by decide +kernel
theorem dX1_pactPays_102 : decode cX1_pactPays 102 = .ok (.iaload, 1) := by decide +kernel
theorem dX1_pactPays_103 : decode cX1_pactPays 103 = .ok (.iload_n 1, 1) := by decide +kernel
theorem dX1_pactPays_104 : decode cX1_pactPays 104 = .ok (.iload_n 2, 1) := by decide +kernel
theorem dX1_pactPays_105 : decode cX1_pactPays 105 = .ok (.invokestatic 99, 3) := by decide +kernel
theorem dX1_pactPays_108 : decode cX1_pactPays 108 = .ok (.ifCond .eq 29, 3) := by decide +kernel
theorem dX1_pactPays_111 : decode cX1_pactPays 111 = .ok (.aload_n 0, 1) := by decide +kernel
theorem dX1_pactPays_112 : decode cX1_pactPays 112 = .ok (.getfield 21, 3) := by decide +kernel
theorem dX1_pactPays_115 : decode cX1_pactPays 115 = .ok (.iload 5, 2) := by decide +kernel
theorem dX1_pactPays_117 : decode cX1_pactPays 117 = .ok (.iaload, 1) := by decide +kernel
theorem dX1_pactPays_118 : decode cX1_pactPays 118 = .ok (.iload_n 1, 1) := by decide +kernel
theorem dX1_pactPays_119 : decode cX1_pactPays 119 = .ok (.iload_n 2, 1) := by decide +kernel
theorem dX1_pactPays_120 : decode cX1_pactPays 120 = .ok (.invokestatic 99, 3) := by decide +kernel
theorem dX1_pactPays_123 : decode cX1_pactPays 123 = .ok (.ifCond .ne 14, 3) := by decide +kernel
theorem dX1_pactPays_126 : decode cX1_pactPays 126 = .ok (.iload 4, 2) := by decide +kernel
theorem dX1_pactPays_128 : decode cX1_pactPays 128 = .ok (.aload_n 0, 1) := by decide +kernel
theorem dX1_pactPays_129 : decode cX1_pactPays 129 = .ok (.iload 5, 2) := by decide +kernel
theorem dX1_pactPays_131 : decode cX1_pactPays 131 = .ok (.invokevirtual 87, 3) := by decide +kernel
theorem dX1_pactPays_134 : decode cX1_pactPays 134 = .ok (.iadd, 1) := by decide +kernel
theorem dX1_pactPays_135 : decode cX1_pactPays 135 = .ok (.istore 4, 2) := by decide +kernel
theorem dX1_pactPays_137 : decode cX1_pactPays 137 = .ok (.iinc 5 1, 3) := by decide +kernel
theorem dX1_pactPays_140 : decode cX1_pactPays 140 = .ok (.goto (-53), 3) := by decide +kernel
theorem dX1_pactPays_143 : decode cX1_pactPays 143 = .ok (.iload_n 3, 1) := by decide +kernel
theorem dX1_pactPays_144 : decode cX1_pactPays 144 = .ok (.iload 4, 2) := by decide +kernel
theorem dX1_pactPays_146 : decode cX1_pactPays 146 = .ok (.if_icmp .le 7, 3) := by decide +kernel
theorem dX1_pactPays_149 : decode cX1_pactPays 149 = .ok (.iconst 1, 1) := by decide +kernel
theorem dX1_pactPays_150 : decode cX1_pactPays 150 = .ok (.goto 4, 3) := by decide +kernel
theorem dX1_pactPays_153 : decode cX1_pactPays 153 = .ok (.iconst 0, 1) := by decide +kernel
theorem dX1_pactPays_154 : decode cX1_pactPays 154 = .ok (.ireturn, 1) := by decide +kernel
theorem dX1_isOneOf_0 : decode cX1_isOneOf 0 = .ok (.iload_n 0, 1) := by decide +kernel
theorem dX1_isOneOf_1 : decode cX1_isOneOf 1 = .ok (.iload_n 1, 1) := by decide +kernel
theorem dX1_isOneOf_2 : decode cX1_isOneOf 2 = .ok (.if_icmp .eq 8, 3) := by decide +kernel
theorem dX1_isOneOf_5 : decode cX1_isOneOf 5 = .ok (.iload_n 0, 1) := by decide +kernel
theorem dX1_isOneOf_6 : decode cX1_isOneOf 6 = .ok (.iload_n 2, 1) := by decide +kernel
theorem dX1_isOneOf_7 : decode cX1_isOneOf 7 = .ok (.if_icmp .ne 7, 3) := by decide +kernel
theorem dX1_isOneOf_10 : decode cX1_isOneOf 10 = .ok (.iconst 1, 1) := by decide +kernel
theorem dX1_isOneOf_11 : decode cX1_isOneOf 11 = .ok (.goto 4, 3) := by decide +kernel
theorem dX1_isOneOf_14 : decode cX1_isOneOf 14 = .ok (.iconst 0, 1) := by decide +kernel
theorem dX1_isOneOf_15 : decode cX1_isOneOf 15 = .ok (.ireturn, 1) := by decide +kernel
theorem dX1_breakWords_0 : decode cX1_breakWords 0 = .ok (.aload_n 0, 1) := by decide +kernel
theorem dX1_breakWords_1 : decode cX1_breakWords 1 = .ok (.dup, 1) := by decide +kernel
theorem dX1_breakWords_2 : decode cX1_breakWords 2 = .ok (.getfield 58, 3) := by decide +kernel
theorem dX1_breakWords_5 : decode cX1_breakWords 5 = .ok (.iload_n 1, 1) := by decide +kernel
theorem dX1_breakWords_6 : decode cX1_breakWords 6 = .ok (.ior, 1) := by decide +kernel
theorem dX1_breakWords_7 : decode cX1_breakWords 7 = .ok (.putfield 58, 3) := by decide +kernel
theorem dX1_breakWords_10 : decode cX1_breakWords 10 = .ok (.iconst 0, 1) := by decide +kernel
theorem dX1_breakWords_11 : decode cX1_breakWords 11 = .ok (.istore_n 2, 1) := by decide +kernel
theorem dX1_breakWords_12 : decode cX1_breakWords 12 = .ok (.iload_n 2, 1) := by decide +kernel
theorem dX1_breakWords_13 : decode cX1_breakWords 13 = .ok (.aload_n 0, 1) := by decide +kernel
theorem dX1_breakWords_14 : decode cX1_breakWords 14 = .ok (.getfield 52, 3) := by decide +kernel
theorem dX1_breakWords_17 : decode cX1_breakWords 17 = .ok (.if_icmp .ge 42, 3) := by decide +kernel
theorem dX1_breakWords_20 : decode cX1_breakWords 20 = .ok (.iload_n 1, 1) := by decide +kernel
theorem dX1_breakWords_21 : decode cX1_breakWords 21 = .ok (.iload_n 2, 1) := by decide +kernel
theorem dX1_breakWords_22 : decode cX1_breakWords 22 = .ok (.ishr, 1) := by decide +kernel
theorem dX1_breakWords_23 : decode cX1_breakWords 23 = .ok (.iconst 1, 1) := by decide +kernel
theorem dX1_breakWords_24 : decode cX1_breakWords 24 = .ok (.iand, 1) := by decide +kernel
theorem dX1_breakWords_25 : decode cX1_breakWords 25 = .ok (.ifCond .eq 28, 3) := by decide +kernel
theorem dX1_breakWords_28 : decode cX1_breakWords 28 = .ok (.aload_n 0, 1) := by decide +kernel
theorem dX1_breakWords_29 : decode cX1_breakWords 29 = .ok (.dup, 1) := by decide +kernel
theorem dX1_breakWords_30 : decode cX1_breakWords 30 = .ok (.getfield 55, 3) := by decide +kernel
theorem dX1_breakWords_33 : decode cX1_breakWords 33 = .ok (.aload_n 0, 1) := by decide +kernel
theorem dX1_breakWords_34 : decode cX1_breakWords 34 = .ok (.aload_n 0, 1) := by decide +kernel
theorem dX1_breakWords_35 : decode cX1_breakWords 35 = .ok (.getfield 30, 3) := by decide +kernel
theorem dX1_breakWords_38 : decode cX1_breakWords 38 = .ok (.iload_n 2, 1) := by decide +kernel
theorem dX1_breakWords_39 : decode cX1_breakWords 39 = .ok (.iaload, 1) := by decide +kernel
theorem dX1_breakWords_40 : decode cX1_breakWords 40 = .ok (.aload_n 0, 1) := by decide +kernel
theorem dX1_breakWords_41 : decode cX1_breakWords 41 = .ok (.getfield 27, 3) := by decide +kernel
theorem dX1_breakWords_44 : decode cX1_breakWords 44 = .ok (.iload_n 2, 1) := by decide +kernel
theorem dX1_breakWords_45 : decode cX1_breakWords 45 = .ok (.iaload, 1) := by decide +kernel
theorem dX1_breakWords_46 : decode cX1_breakWords 46 = .ok (.invokevirtual 84, 3) := by decide +kernel
theorem dX1_breakWords_49 : decode cX1_breakWords 49 = .ok (.ior, 1) := by decide +kernel
theorem dX1_breakWords_50 : decode cX1_breakWords 50 = .ok (.putfield 55, 3) := by decide +kernel
theorem dX1_breakWords_53 : decode cX1_breakWords 53 = .ok (.iinc 2 1, 3) := by decide +kernel
theorem dX1_breakWords_56 : decode cX1_breakWords 56 = .ok (.goto (-44), 3) := by decide +kernel
theorem dX1_breakWords_59 : decode cX1_breakWords 59 = .ok (.return_, 1) := by decide +kernel
theorem dX1_bringDown_0 : decode cX1_bringDown 0 = .ok (.iconst 0, 1) := by decide +kernel
theorem dX1_bringDown_1 : decode cX1_bringDown 1 = .ok (.istore_n 1, 1) := by decide +kernel
theorem dX1_bringDown_2 : decode cX1_bringDown 2 = .ok (.iload_n 1, 1) := by decide +kernel
theorem dX1_bringDown_3 : decode cX1_bringDown 3 = .ok (.bipush 12, 2) := by decide +kernel
theorem dX1_bringDown_5 : decode cX1_bringDown 5 = .ok (.if_icmp .ge 25, 3) := by decide +kernel
theorem dX1_bringDown_8 : decode cX1_bringDown 8 = .ok (.aload_n 0, 1) := by decide +kernel
theorem dX1_bringDown_9 : decode cX1_bringDown 9 = .ok (.invokevirtual 103, 3) := by decide +kernel
theorem dX1_bringDown_12 : decode cX1_bringDown 12 = .ok (.istore_n 2, 1) := by decide +kernel
theorem dX1_bringDown_13 : decode cX1_bringDown 13 = .ok (.iload_n 2, 1) := by decide +kernel
theorem dX1_bringDown_14 : decode cX1_bringDown 14 = .ok (.ifCond .ne 5, 3) := by decide +kernel
theorem dX1_bringDown_17 : decode cX1_bringDown 17 = .ok (.iload_n 1, 1) := by decide +kernel
theorem dX1_bringDown_18 : decode cX1_bringDown 18 = .ok (.ireturn, 1) := by decide +kernel
theorem dX1_bringDown_19 : decode cX1_bringDown 19 = .ok (.aload_n 0, 1) := by decide +kernel
theorem dX1_bringDown_20 : decode cX1_bringDown 20 = .ok (.iload_n 2, 1) := by decide +kernel
theorem dX1_bringDown_21 : decode cX1_bringDown 21 = .ok (.invokevirtual 107, 3) := by decide +kernel
theorem dX1_bringDown_24 : decode cX1_bringDown 24 = .ok (.iinc 1 1, 3) := by decide +kernel
theorem dX1_bringDown_27 : decode cX1_bringDown 27 = .ok (.goto (-25), 3) := by decide +kernel
theorem dX1_bringDown_30 : decode cX1_bringDown 30 = .ok (.bipush 12, 2) := by decide +kernel
theorem dX1_bringDown_32 : decode cX1_bringDown 32 = .ok (.ireturn, 1) := by decide +kernel
theorem dX1_pass_0 : decode cX1_pass 0 = .ok (.iload_n 1, 1) := by decide +kernel
theorem dX1_pass_1 : decode cX1_pass 1 = .ok (.ifCond .le 18, 3) := by decide +kernel
theorem dX1_pass_4 : decode cX1_pass 4 = .ok (.aload_n 0, 1) := by decide +kernel
theorem dX1_pass_5 : decode cX1_pass 5 = .ok (.invokevirtual 111, 3) := by decide +kernel
theorem dX1_pass_8 : decode cX1_pass 8 = .ok (.pop, 1) := by decide +kernel
theorem dX1_pass_9 : decode cX1_pass 9 = .ok (.aload_n 0, 1) := by decide +kernel
theorem dX1_pass_10 : decode cX1_pass 10 = .ok (.dup, 1) := by decide +kernel
theorem dX1_pass_11 : decode cX1_pass 11 = .ok (.getfield 61, 3) := by decide +kernel
theorem dX1_pass_14 : decode cX1_pass 14 = .ok (.iload_n 1, 1) := by decide +kernel
theorem dX1_pass_15 : decode cX1_pass 15 = .ok (.iadd, 1) := by decide +kernel
theorem dX1_pass_16 : decode cX1_pass 16 = .ok (.putfield 61, 3) := by decide +kernel
theorem dX1_pass_19 : decode cX1_pass 19 = .ok (.return_, 1) := by decide +kernel
theorem dX2_init_0 : decode cX2_init 0 = .ok (.aload_n 0, 1) := by decide +kernel
theorem dX2_init_1 : decode cX2_init 1 = .ok (.invokespecial 3, 3) := by decide +kernel
theorem dX2_init_4 : decode cX2_init 4 = .ok (.aload_n 0, 1) := by decide +kernel
theorem dX2_init_5 : decode cX2_init 5 = .ok (.new 9, 3) := by decide +kernel
theorem dX2_init_8 : decode cX2_init 8 = .ok (.dup, 1) := by decide +kernel
theorem dX2_init_9 : decode cX2_init 9 = .ok (.invokespecial 11, 3) := by decide +kernel
theorem dX2_init_12 : decode cX2_init 12 = .ok (.putfield 12, 3) := by decide +kernel
theorem dX2_init_15 : decode cX2_init 15 = .ok (.aload_n 0, 1) := by decide +kernel
theorem dX2_init_16 : decode cX2_init 16 = .ok (.bipush 14, 2) := by decide +kernel
theorem dX2_init_18 : decode cX2_init 18 = .ok (.newarray .int, 2) := by decide +kernel
theorem dX2_init_20 : decode cX2_init 20 = .ok (.putfield 18, 3) := by decide +kernel
theorem dX2_init_23 : decode cX2_init 23 = .ok (.aload_n 0, 1) := by decide +kernel
theorem dX2_init_24 : decode cX2_init 24 = .ok (.bipush 14, 2) := by decide +kernel
theorem dX2_init_26 : decode cX2_init 26 = .ok (.newarray .int, 2) := by decide +kernel
theorem dX2_init_28 : decode cX2_init 28 = .ok (.putfield 22, 3) := by decide +kernel
theorem dX2_init_31 : decode cX2_init 31 = .ok (.aload_n 0, 1) := by decide +kernel
theorem dX2_init_32 : decode cX2_init 32 = .ok (.sipush 256, 3) := by decide +kernel
theorem dX2_init_35 : decode cX2_init 35 = .ok (.newarray .boolean, 2) := by decide +kernel
theorem dX2_init_37 : decode cX2_init 37 = .ok (.putfield 25, 3) := by decide +kernel
theorem dX2_init_40 : decode cX2_init 40 = .ok (.aload_n 0, 1) := by decide +kernel
theorem dX2_init_41 : decode cX2_init 41 = .ok (.bipush 8, 2) := by decide +kernel
theorem dX2_init_43 : decode cX2_init 43 = .ok (.newarray .int, 2) := by decide +kernel
theorem dX2_init_45 : decode cX2_init 45 = .ok (.putfield 29, 3) := by decide +kernel
theorem dX2_init_48 : decode cX2_init 48 = .ok (.return_, 1) := by decide +kernel
theorem dX2_aim_0 : decode cX2_aim 0 = .ok (.aload_n 0, 1) := by decide +kernel
theorem dX2_aim_1 : decode cX2_aim 1 = .ok (.iconst 0, 1) := by decide +kernel
theorem dX2_aim_2 : decode cX2_aim 2 = .ok (.putfield 32, 3) := by decide +kernel
theorem dX2_aim_5 : decode cX2_aim 5 = .ok (.iconst 0, 1) := by decide +kernel
theorem dX2_aim_6 : decode cX2_aim 6 = .ok (.istore_n 3, 1) := by decide +kernel
theorem dX2_aim_7 : decode cX2_aim 7 = .ok (.iload_n 3, 1) := by decide +kernel
theorem dX2_aim_8 : decode cX2_aim 8 = .ok (.aload_n 1, 1) := by decide +kernel
theorem dX2_aim_9 : decode cX2_aim 9 = .ok (.getfield 36, 3) := by decide +kernel
theorem dX2_aim_12 : decode cX2_aim 12 = .ok (.if_icmp .ge 71, 3) := by decide +kernel
theorem dX2_aim_15 : decode cX2_aim 15 = .ok (.iload_n 3, 1) := by decide +kernel
theorem dX2_aim_16 : decode cX2_aim 16 = .ok (.aload_n 2, 1) := by decide +kernel
theorem dX2_aim_17 : decode cX2_aim 17 = .ok (.getfield 39, 3) := by decide +kernel
theorem dX2_aim_20 : decode cX2_aim 20 = .ok (.if_icmp .ge 63, 3) := by decide +kernel
theorem dX2_aim_23 : decode cX2_aim 23 = .ok (.aload_n 2, 1) := by decide +kernel
theorem dX2_aim_24 : decode cX2_aim 24 = .ok (.iload_n 3, 1) := by decide +kernel
theorem dX2_aim_25 : decode cX2_aim 25 = .ok (.invokevirtual 44, 3) := by decide +kernel
theorem dX2_aim_28 : decode cX2_aim 28 = .ok (.istore 4, 2) := by decide +kernel
theorem dX2_aim_30 : decode cX2_aim 30 = .ok (.iload 4, 2) := by decide +kernel
theorem dX2_aim_32 : decode cX2_aim 32 = .ok (.ifCond .lt 45, 3) := by decide +kernel
theorem dX2_aim_35 : decode cX2_aim 35 = .ok (.iload 4, 2) := by decide +kernel
theorem dX2_aim_37 : decode cX2_aim 37 = .ok (.aload_n 1, 1) := by decide +kernel
theorem dX2_aim_38 : decode cX2_aim 38 = .ok (.getfield 48, 3) := by decide +kernel
theorem dX2_aim_41 : decode cX2_aim 41 = .ok (.iload_n 3, 1) := by decide +kernel
theorem dX2_aim_42 : decode cX2_aim 42 = .ok (.iaload, 1) := by decide +kernel
theorem dX2_aim_43 : decode cX2_aim 43 = .ok (.if_icmp .eq 34, 3) := by decide +kernel
theorem dX2_aim_46 : decode cX2_aim 46 = .ok (.aload_n 0, 1) := by decide +kernel
theorem dX2_aim_47 : decode cX2_aim 47 = .ok (.getfield 18, 3) := by decide +kernel
theorem dX2_aim_50 : decode cX2_aim 50 = .ok (.aload_n 0, 1) := by decide +kernel
theorem dX2_aim_51 : decode cX2_aim 51 = .ok (.getfield 32, 3) := by decide +kernel
theorem dX2_aim_54 : decode cX2_aim 54 = .ok (.iload_n 3, 1) := by decide +kernel
theorem dX2_aim_55 : decode cX2_aim 55 = .ok (.iastore, 1) := by decide +kernel
theorem dX2_aim_56 : decode cX2_aim 56 = .ok (.aload_n 0, 1) := by decide +kernel
theorem dX2_aim_57 : decode cX2_aim 57 = .ok (.getfield 22, 3) := by decide +kernel
theorem dX2_aim_60 : decode cX2_aim 60 = .ok (.aload_n 0, 1) := by decide +kernel
theorem dX2_aim_61 : decode cX2_aim 61 = .ok (.getfield 32, 3) := by decide +kernel
theorem dX2_aim_64 : decode cX2_aim 64 = .ok (.iload 4, 2) := by decide +kernel
theorem dX2_aim_66 : decode cX2_aim 66 = .ok (.iastore, 1) := by decide +kernel
theorem dX2_aim_67 : decode cX2_aim 67 = .ok (.aload_n 0, 1) := by decide +kernel
theorem dX2_aim_68 : decode cX2_aim 68 = .ok (.dup, 1) := by decide +kernel
theorem dX2_aim_69 : decode cX2_aim 69 = .ok (.getfield 32, 3) := by decide +kernel
theorem dX2_aim_72 : decode cX2_aim 72 = .ok (.iconst 1, 1) := by decide +kernel
theorem dX2_aim_73 : decode cX2_aim 73 = .ok (.iadd, 1) := by decide +kernel
theorem dX2_aim_74 : decode cX2_aim 74 = .ok (.putfield 32, 3) := by decide +kernel
theorem dX2_aim_77 : decode cX2_aim 77 = .ok (.iinc 3 1, 3) := by decide +kernel
theorem dX2_aim_80 : decode cX2_aim 80 = .ok (.goto (-73), 3) := by decide +kernel
theorem dX2_aim_83 : decode cX2_aim 83 = .ok (.return_, 1) := by decide +kernel
theorem dX2_movesDead_0 : decode cX2_movesDead 0 = .ok (.iconst 0, 1) := by decide +kernel
theorem dX2_movesDead_1 : decode cX2_movesDead 1 = .ok (.istore_n 2, 1) := by decide +kernel
theorem dX2_movesDead_2 : decode cX2_movesDead 2 = .ok (.iload_n 2, 1) := by decide +kernel
theorem dX2_movesDead_3 : decode cX2_movesDead 3 = .ok (.aload_n 0, 1) := by decide +kernel
theorem dX2_movesDead_4 : decode cX2_movesDead 4 = .ok (.getfield 32, 3) := by decide +kernel
theorem dX2_movesDead_7 : decode cX2_movesDead 7 = .ok (.if_icmp .ge 24, 3) := by decide +kernel
theorem dX2_movesDead_10 : decode cX2_movesDead 10 = .ok (.aload_n 1, 1) := by decide +kernel
theorem dX2_movesDead_11 : decode cX2_movesDead 11 = .ok (.aload_n 0, 1) := by decide +kernel
theorem dX2_movesDead_12 : decode cX2_movesDead 12 = .ok (.getfield 18, 3) := by decide +kernel
theorem dX2_movesDead_15 : decode cX2_movesDead 15 = .ok (.iload_n 2, 1) := by decide +kernel
theorem dX2_movesDead_16 : decode cX2_movesDead 16 = .ok (.iaload, 1) := by decide +kernel
theorem dX2_movesDead_17 : decode cX2_movesDead 17 = .ok (.invokevirtual 51, 3) := by decide +kernel
theorem dX2_movesDead_20 : decode cX2_movesDead 20 = .ok (.ifCond .eq 5, 3) := by decide +kernel
theorem dX2_movesDead_23 : decode cX2_movesDead 23 = .ok (.iconst 1, 1) := by decide +kernel
theorem dX2_movesDead_24 : decode cX2_movesDead 24 = .ok (.ireturn, 1) := by decide +kernel
theorem dX2_movesDead_25 : decode cX2_movesDead 25 = .ok (.iinc 2 1, 3) := by decide +kernel
theorem dX2_movesDead_28 : decode cX2_movesDead 28 = .ok (.goto (-26), 3) := by decide +kernel
theorem dX2_movesDead_31 : decode cX2_movesDead 31 = .ok (.iconst 0, 1) := by decide +kernel
theorem dX2_movesDead_32 : decode cX2_movesDead 32 = .ok (.ireturn, 1) := by decide +kernel
theorem dX2_find_0 : decode cX2_find 0 = .ok (.aload_n 0, 1) := by decide +kernel
theorem dX2_find_1 : decode cX2_find 1 = .ok (.getfield 12, 3) := by decide +kernel
theorem dX2_find_4 : decode cX2_find 4 = .ok (.aload_n 1, 1) := by decide +kernel
theorem dX2_find_5 : decode cX2_find 5 = .ok (.invokevirtual 55, 3) := by decide +kernel
theorem dX2_find_8 : decode cX2_find 8 = .ok (.iconst 1, 1) := by decide +kernel
theorem dX2_find_9 : decode cX2_find 9 = .ok (.aload_n 0, 1) := by decide +kernel
theorem dX2_find_10 : decode cX2_find 10 = .ok (.getfield 32, 3) := by decide +kernel
theorem dX2_find_13 : decode cX2_find 13 = .ok (.ishl, 1) := by decide +kernel
theorem dX2_find_14 : decode cX2_find 14 = .ok (.iconst 1, 1) := by decide +kernel
theorem dX2_find_15 : decode cX2_find 15 = .ok (.isub, 1) := by decide +kernel
theorem dX2_find_16 : decode cX2_find 16 = .ok (.istore_n 2, 1) := by decide +kernel
theorem dX2_find_17 : decode cX2_find 17 = .ok (.iload_n 2, 1) := by decide +kernel
theorem dX2_find_18 : decode cX2_find 18 = .ok (.istore_n 3, 1) := by decide +kernel
theorem dX2_find_19 : decode cX2_find 19 = .ok (.iload_n 3, 1) := by decide +kernel
theorem dX2_find_20 : decode cX2_find 20 = .ok (.ifCond .le 42, 3) := by decide +kernel
theorem dX2_find_23 : decode cX2_find 23 = .ok (.aload_n 0, 1) := by decide +kernel
theorem dX2_find_24 : decode cX2_find 24 = .ok (.getfield 25, 3) := by decide +kernel
theorem dX2_find_27 : decode cX2_find 27 = .ok (.iload_n 3, 1) := by decide +kernel
theorem dX2_find_28 : decode cX2_find 28 = .ok (.iload_n 3, 1) := by decide +kernel
theorem dX2_find_29 : decode cX2_find 29 = .ok (.iload_n 2, 1) := by decide +kernel
theorem dX2_find_30 : decode cX2_find 30 = .ok (.if_icmp .eq 11, 3) := by decide +kernel
theorem dX2_find_33 : decode cX2_find 33 = .ok (.aload_n 0, 1) := by decide +kernel
theorem dX2_find_34 : decode cX2_find 34 = .ok (.iload_n 3, 1) := by decide +kernel
theorem dX2_find_35 : decode cX2_find 35 = .ok (.invokevirtual 59, 3) := by decide +kernel
theorem dX2_find_38 : decode cX2_find 38 = .ok (.ifCond .lt 16, 3) := by decide +kernel
theorem dX2_find_41 : decode cX2_find 41 = .ok (.aload_n 0, 1) := by decide +kernel
theorem dX2_find_42 : decode cX2_find 42 = .ok (.aload_n 1, 1) := by decide +kernel
theorem dX2_find_43 : decode cX2_find 43 = .ok (.iload_n 3, 1) := by decide +kernel
theorem dX2_find_44 : decode cX2_find 44 = .ok (.invokevirtual 62, 3) := by decide +kernel
theorem dX2_find_47 : decode cX2_find 47 = .ok (.ifCond .eq 7, 3) := by decide +kernel
theorem dX2_find_50 : decode cX2_find 50 = .ok (.iconst 1, 1) := by decide +kernel
theorem dX2_find_51 : decode cX2_find 51 = .ok (.goto 4, 3) := by decide +kernel
theorem dX2_find_54 : decode cX2_find 54 = .ok (.iconst 0, 1) := by decide +kernel
theorem dX2_find_55 : decode cX2_find 55 = .ok (.bastore, 1) := by decide +kernel
theorem dX2_find_56 : decode cX2_find 56 = .ok (.iinc 3 (-1), 3) := by decide +kernel
theorem dX2_find_59 : decode cX2_find 59 = .ok (.goto (-40), 3) := by decide +kernel
theorem dX2_find_62 : decode cX2_find 62 = .ok (.iconst 0, 1) := by decide +kernel
theorem dX2_find_63 : decode cX2_find 63 = .ok (.istore_n 3, 1) := by decide +kernel
theorem dX2_find_64 : decode cX2_find 64 = .ok (.iconst 0, 1) := by decide +kernel
theorem dX2_find_65 : decode cX2_find 65 = .ok (.istore 4, 2) := by decide +kernel
theorem dX2_find_67 : decode cX2_find 67 = .ok (.iload 4, 2) := by decide +kernel
theorem dX2_find_69 : decode cX2_find 69 = .ok (.aload_n 0, 1) := by decide +kernel
theorem dX2_find_70 : decode cX2_find 70 = .ok (.getfield 32, 3) := by decide +kernel
theorem dX2_find_73 : decode cX2_find 73 = .ok (.if_icmp .ge 44, 3) := by decide +kernel
theorem dX2_find_76 : decode cX2_find 76 = .ok (.aload_n 0, 1) := by decide +kernel
theorem dX2_find_77 : decode cX2_find 77 = .ok (.iload_n 3, 1) := by decide +kernel
theorem dX2_find_78 : decode cX2_find 78 = .ok (.invokevirtual 59, 3) := by decide +kernel
theorem dX2_find_81 : decode cX2_find 81 = .ok (.istore 5, 2) := by decide +kernel
theorem dX2_find_83 : decode cX2_find 83 = .ok (.iload 5, 2) := by decide +kernel
theorem dX2_find_85 : decode cX2_find 85 = .ok (.ifCond .ge 5, 3) := by decide +kernel
theorem dX2_find_88 : decode cX2_find 88 = .ok (.iconst 0, 1) := by decide +kernel
theorem dX2_find_89 : decode cX2_find 89 = .ok (.ireturn, 1) := by decide +kernel
theorem dX2_find_90 : decode cX2_find 90 = .ok (.aload_n 0, 1) := by decide +kernel
theorem dX2_find_91 : decode cX2_find 91 = .ok (.getfield 29, 3) := by decide +kernel
theorem dX2_find_94 : decode cX2_find 94 = .ok (.iload 4, 2) := by decide +kernel
theorem dX2_find_96 : decode cX2_find 96 = .ok (.aload_n 0, 1) := by decide +kernel
theorem dX2_find_97 : decode cX2_find 97 = .ok (.getfield 18, 3) := by decide +kernel
theorem dX2_find_100 : decode cX2_find 100 = .ok (.iload 5, 2) := by decide +kernel
theorem dX2_find_102 : decode cX2_find 102 = .ok (.iaload, 1) := by decide +kernel
theorem dX2_find_103 : decode cX2_find 103 = .ok (.iastore, 1) := by decide +kernel
theorem dX2_find_104 : decode cX2_find 104 = .ok (.iload_n 3, 1) := by decide +kernel
theorem dX2_find_105 : decode cX2_find 105 = .ok (.iconst 1, 1) := by decide +kernel
theorem dX2_find_106 : decode cX2_find 106 = .ok (.iload 5, 2) := by decide +kernel
theorem dX2_find_108 : decode cX2_find 108 = .ok (.ishl, 1) := by decide +kernel
theorem dX2_find_109 : decode cX2_find 109 = .ok (.ior, 1) := by decide +kernel
theorem dX2_find_110 : decode cX2_find 110 = .ok (.istore_n 3, 1) := by decide +kernel
theorem dX2_find_111 : decode cX2_find 111 = .ok (.iinc 4 1, 3) := by decide +kernel
theorem dX2_find_114 : decode cX2_find 114 = .ok (.goto (-47), 3) := by decide +kernel
theorem dX2_find_117 : decode cX2_find 117 = .ok (.iconst 1, 1) := by decide +kernel
theorem dX2_find_118 : decode cX2_find 118 = .ok (.ireturn, 1) := by decide +kernel
theorem dX2_firstStep_0 : decode cX2_firstStep 0 = .ok (.iconst 0, 1) := by decide +kernel
theorem dX2_firstStep_1 : decode cX2_firstStep 1 = .ok (.istore_n 2, 1) := by decide +kernel
theorem dX2_firstStep_2 : decode cX2_firstStep 2 = .ok (.iload_n 2, 1) := by decide +kernel
theorem dX2_firstStep_3 : decode cX2_firstStep 3 = .ok (.aload_n 0, 1) := by decide +kernel
theorem dX2_firstStep_4 : decode cX2_firstStep 4 = .ok (.getfield 32, 3) := by decide +kernel
theorem dX2_firstStep_7 : decode cX2_firstStep 7 = .ok (.if_icmp .ge 32, 3) := by decide +kernel
theorem dX2_firstStep_10 : decode cX2_firstStep 10 = .ok (.iload_n 1, 1) := by decide +kernel
theorem dX2_firstStep_11 : decode cX2_firstStep 11 = .ok (.iload_n 2, 1) := by decide +kernel
theorem dX2_firstStep_12 : decode cX2_firstStep 12 = .ok (.ishr, 1) := by decide +kernel
theorem dX2_firstStep_13 : decode cX2_firstStep 13 = .ok (.iconst 1, 1) := by decide +kernel
theorem dX2_firstStep_14 : decode cX2_firstStep 14 = .ok (.iand, 1) := by decide +kernel
theorem dX2_firstStep_15 : decode cX2_firstStep 15 = .ok (.ifCond .ne 18, 3) := by decide +kernel
theorem dX2_firstStep_18 : decode cX2_firstStep 18 = .ok (.aload_n 0, 1) := by decide +kernel
theorem dX2_firstStep_19 : decode cX2_firstStep 19 = .ok (.getfield 25, 3) := by decide +kernel
theorem dX2_firstStep_22 : decode cX2_firstStep 22 = .ok (.iload_n 1, 1) := by decide +kernel
theorem dX2_firstStep_23 : decode cX2_firstStep 23 = .ok (.iconst 1, 1) := by decide +kernel
theorem dX2_firstStep_24 : decode cX2_firstStep 24 = .ok (.iload_n 2, 1) := by decide +kernel
theorem dX2_firstStep_25 : decode cX2_firstStep 25 = .ok (.ishl, 1) := by decide +kernel
theorem dX2_firstStep_26 : decode cX2_firstStep 26 = .ok (.ior, 1) := by decide +kernel
theorem dX2_firstStep_27 : decode cX2_firstStep 27 = .ok (.baload, 1) := by decide +kernel
theorem dX2_firstStep_28 : decode cX2_firstStep 28 = .ok (.ifCond .eq 5, 3) := by decide +kernel
theorem dX2_firstStep_31 : decode cX2_firstStep 31 = .ok (.iload_n 2, 1) := by decide +kernel
theorem dX2_firstStep_32 : decode cX2_firstStep 32 = .ok (.ireturn, 1) := by decide +kernel
theorem dX2_firstStep_33 : decode cX2_firstStep 33 = .ok (.iinc 2 1, 3) := by decide +kernel
theorem dX2_firstStep_36 : decode cX2_firstStep 36 = .ok (.goto (-34), 3) := by decide +kernel
theorem dX2_firstStep_39 : decode cX2_firstStep 39 = .ok (.iconst (-1), 1) := by decide +kernel
theorem dX2_firstStep_40 : decode cX2_firstStep 40 = .ok (.ireturn, 1) := by decide +kernel
theorem dX2_holdsAt_0 : decode cX2_holdsAt 0 = .ok (.iconst 0, 1) := by decide +kernel
theorem dX2_holdsAt_1 : decode cX2_holdsAt 1 = .ok (.istore_n 3, 1) := by decide +kernel
theorem dX2_holdsAt_2 : decode cX2_holdsAt 2 = .ok (.iload_n 3, 1) := by decide +kernel
theorem dX2_holdsAt_3 : decode cX2_holdsAt 3 = .ok (.aload_n 0, 1) := by decide +kernel
theorem dX2_holdsAt_4 : decode cX2_holdsAt 4 = .ok (.getfield 32, 3) := by decide +kernel
theorem dX2_holdsAt_7 : decode cX2_holdsAt 7 = .ok (.if_icmp .ge 51, 3) := by decide +kernel
theorem dX2_holdsAt_10 : decode cX2_holdsAt 10 = .ok (.aload_n 0, 1) := by decide +kernel
theorem dX2_holdsAt_11 : decode cX2_holdsAt 11 = .ok (.getfield 18, 3) := by decide +kernel
theorem dX2_holdsAt_14 : decode cX2_holdsAt 14 = .ok (.iload_n 3, 1) := by decide +kernel
theorem dX2_holdsAt_15 : decode cX2_holdsAt 15 = .ok (.iaload, 1) := by decide +kernel
theorem dX2_holdsAt_16 : decode cX2_holdsAt 16 = .ok (.istore 4, 2) := by decide +kernel
theorem dX2_holdsAt_18 : decode cX2_holdsAt 18 = .ok (.aload_n 0, 1) := by decide +kernel
theorem dX2_holdsAt_19 : decode cX2_holdsAt 19 = .ok (.getfield 12, 3) := by decide +kernel
theorem dX2_holdsAt_22 : decode cX2_holdsAt 22 = .ok (.getfield 48, 3) := by decide +kernel
theorem dX2_holdsAt_25 : decode cX2_holdsAt 25 = .ok (.iload 4, 2) := by decide +kernel
theorem dX2_holdsAt_27 : decode cX2_holdsAt 27 = .ok (.iload_n 2, 1) := by decide +kernel
theorem dX2_holdsAt_28 : decode cX2_holdsAt 28 = .ok (.iload_n 3, 1) := by decide +kernel
theorem dX2_holdsAt_29 : decode cX2_holdsAt 29 = .ok (.ishr, 1) := by decide +kernel
theorem dX2_holdsAt_30 : decode cX2_holdsAt 30 = .ok (.iconst 1, 1) := by decide +kernel
theorem dX2_holdsAt_31 : decode cX2_holdsAt 31 = .ok (.iand, 1) := by decide +kernel
theorem dX2_holdsAt_32 : decode cX2_holdsAt 32 = .ok (.ifCond .eq 12, 3) := by decide +kernel
theorem dX2_holdsAt_35 : decode cX2_holdsAt 35 = .ok (.aload_n 0, 1) := by decide +kernel
theorem dX2_holdsAt_36 : decode cX2_holdsAt 36 = .ok (.getfield 22, 3) := by decide +kernel
theorem dX2_holdsAt_39 : decode cX2_holdsAt 39 = .ok (.iload_n 3, 1) := by decide +kernel
theorem dX2_holdsAt_40 : decode cX2_holdsAt 40 = .ok (.iaload, 1) := by decide +kernel
theorem dX2_holdsAt_41 : decode cX2_holdsAt 41 = .ok (.goto 10, 3) := by decide +kernel
theorem dX2_holdsAt_44 : decode cX2_holdsAt 44 = .ok (.aload_n 1, 1) := by decide +kernel
theorem dX2_holdsAt_45 : decode cX2_holdsAt 45 = .ok (.getfield 48, 3) := by decide +kernel
theorem dX2_holdsAt_48 : decode cX2_holdsAt 48 = .ok (.iload 4, 2) := by decide +kernel
theorem dX2_holdsAt_50 : decode cX2_holdsAt 50 = .ok (.iaload, 1) := by decide +kernel
theorem dX2_holdsAt_51 : decode cX2_holdsAt 51 = .ok (.iastore, 1) := by decide +kernel
theorem dX2_holdsAt_52 : decode cX2_holdsAt 52 = .ok (.iinc 3 1, 3) := by decide +kernel
theorem dX2_holdsAt_55 : decode cX2_holdsAt 55 = .ok (.goto (-53), 3) := by decide +kernel
theorem dX2_holdsAt_58 : decode cX2_holdsAt 58 = .ok (.aload_n 0, 1) := by decide +kernel
theorem dX2_holdsAt_59 : decode cX2_holdsAt 59 = .ok (.getfield 12, 3) := by decide +kernel
theorem dX2_holdsAt_62 : decode cX2_holdsAt 62 = .ok (.invokevirtual 66, 3) := by decide +kernel
theorem dX2_holdsAt_65 : decode cX2_holdsAt 65 = .ok (.ifCond .ne 7, 3) := by decide +kernel
theorem dX2_holdsAt_68 : decode cX2_holdsAt 68 = .ok (.iconst 1, 1) := by decide +kernel
theorem dX2_holdsAt_69 : decode cX2_holdsAt 69 = .ok (.goto 4, 3) := by decide +kernel
theorem dX2_holdsAt_72 : decode cX2_holdsAt 72 = .ok (.iconst 0, 1) := by decide +kernel
theorem dX2_holdsAt_73 : decode cX2_holdsAt 73 = .ok (.ireturn, 1) := by decide +kernel
theorem dX3_init_0 : decode cX3_init 0 = .ok (.aload_n 0, 1) := by decide +kernel
theorem dX3_init_1 : decode cX3_init 1 = .ok (.invokespecial 3, 3) := by decide +kernel
theorem dX3_init_4 : decode cX3_init 4 = .ok (.aload_n 0, 1) := by decide +kernel
theorem dX3_init_5 : decode cX3_init 5 = .ok (.bipush 40, 2) := by decide +kernel
theorem dX3_init_7 : decode cX3_init 7 = .ok (.newarray .long, 2) := by decide +kernel
theorem dX3_init_9 : decode cX3_init 9 = .ok (.putfield 9, 3) := by decide +kernel
theorem dX3_init_12 : decode cX3_init 12 = .ok (.return_, 1) := by decide +kernel
theorem dX3_isMissing_0 : decode cX3_isMissing 0 = .ok (.aload_n 0, 1) := by decide +kernel
theorem dX3_isMissing_1 : decode cX3_isMissing 1 = .ok (.getfield 15, 3) := by decide +kernel
theorem dX3_isMissing_4 : decode cX3_isMissing 4 = .ok (.ifCond .ne 7, 3) := by decide +kernel
theorem dX3_isMissing_7 : decode cX3_isMissing 7 = .ok (.iconst 1, 1) := by decide +kernel
theorem dX3_isMissing_8 : decode cX3_isMissing 8 = .ok (.goto 4, 3) := by decide +kernel
theorem dX3_isMissing_11 : decode cX3_isMissing 11 = .ok (.iconst 0, 1) := by decide +kernel
theorem dX3_isMissing_12 : decode cX3_isMissing 12 = .ok (.ireturn, 1) := by decide +kernel
theorem dX3_lay_0 : decode cX3_lay 0 = .ok (.aload_n 0, 1) := by decide +kernel
theorem dX3_lay_1 : decode cX3_lay 1 = .ok (.iload_n 1, 1) := by decide +kernel
theorem dX3_lay_2 : decode cX3_lay 2 = .ok (.putfield 15, 3) := by decide +kernel
theorem dX3_lay_5 : decode cX3_lay 5 = .ok (.aload_n 0, 1) := by decide +kernel
theorem dX3_lay_6 : decode cX3_lay 6 = .ok (.iload_n 2, 1) := by decide +kernel
theorem dX3_lay_7 : decode cX3_lay 7 = .ok (.putfield 19, 3) := by decide +kernel
theorem dX3_lay_10 : decode cX3_lay 10 = .ok (.iconst 0, 1) := by decide +kernel
theorem dX3_lay_11 : decode cX3_lay 11 = .ok (.istore_n 3, 1) := by decide +kernel
theorem dX3_lay_12 : decode cX3_lay 12 = .ok (.iload_n 3, 1) := by decide +kernel
theorem dX3_lay_13 : decode cX3_lay 13 = .ok (.bipush 40, 2) := by decide +kernel
theorem dX3_lay_15 : decode cX3_lay 15 = .ok (.if_icmp .ge 16, 3) := by decide +kernel
theorem dX3_lay_18 : decode cX3_lay 18 = .ok (.aload_n 0, 1) := by decide +kernel
theorem dX3_lay_19 : decode cX3_lay 19 = .ok (.getfield 9, 3) := by decide +kernel
theorem dX3_lay_22 : decode cX3_lay 22 = .ok (.iload_n 3, 1) := by decide +kernel
theorem dX3_lay_23 : decode cX3_lay 23 = .ok (.lconst 0, 1) := by decide +kernel
theorem dX3_lay_24 : decode cX3_lay 24 = .ok (.lastore, 1) := by decide +kernel
theorem dX3_lay_25 : decode cX3_lay 25 = .ok (.iinc 3 1, 3) := by decide +kernel
theorem dX3_lay_28 : decode cX3_lay 28 = .ok (.goto (-16), 3) := by decide +kernel
theorem dX3_lay_31 : decode cX3_lay 31 = .ok (.return_, 1) := by decide +kernel
theorem dX3_put_0 : decode cX3_put 0 = .ok (.aload_n 0, 1) := by decide +kernel
theorem dX3_put_1 : decode cX3_put 1 = .ok (.getfield 15, 3) := by decide +kernel
theorem dX3_put_4 : decode cX3_put 4 = .ok (.bipush 8, 2) := by decide +kernel
theorem dX3_put_6 : decode cX3_put 6 = .ok (.if_icmp .ne 16, 3) := by decide +kernel
theorem dX3_put_9 : decode cX3_put 9 = .ok (.aload_n 0, 1) := by decide +kernel
theorem dX3_put_10 : decode cX3_put 10 = .ok (.getfield 9, 3) := by decide +kernel
theorem dX3_put_13 : decode cX3_put 13 = .ok (.iload_n 1, 1) := by decide +kernel
theorem dX3_put_14 : decode cX3_put 14 = .ok (.lload_n 2, 1) := by decide +kernel
theorem dX3_put_15 : decode cX3_put 15 = .ok (.l2i, 1) := by decide +kernel
theorem dX3_put_16 : decode cX3_put 16 = .ok (.i2b, 1) := by decide +kernel
theorem dX3_put_17 : decode cX3_put 17 = .ok (.i2l, 1) := by decide +kernel
theorem dX3_put_18 : decode cX3_put 18 = .ok (.lastore, 1) := by decide +kernel
theorem dX3_put_19 : decode cX3_put 19 = .ok (.goto 32, 3) := by decide +kernel
theorem dX3_put_22 : decode cX3_put 22 = .ok (.aload_n 0, 1) := by decide +kernel
theorem dX3_put_23 : decode cX3_put 23 = .ok (.getfield 15, 3) := by decide +kernel
theorem dX3_put_26 : decode cX3_put 26 = .ok (.bipush 16, 2) := by decide +kernel
theorem dX3_put_28 : decode cX3_put 28 = .ok (.if_icmp .ne 16, 3) := by decide +kernel
theorem dX3_put_31 : decode cX3_put 31 = .ok (.aload_n 0, 1) := by decide +kernel
theorem dX3_put_32 : decode cX3_put 32 = .ok (.getfield 9, 3) := by decide +kernel
theorem dX3_put_35 : decode cX3_put 35 = .ok (.iload_n 1, 1) := by decide +kernel
theorem dX3_put_36 : decode cX3_put 36 = .ok (.lload_n 2, 1) := by decide +kernel
theorem dX3_put_37 : decode cX3_put 37 = .ok (.l2i, 1) := by decide +kernel
theorem dX3_put_38 : decode cX3_put 38 = .ok (.i2s, 1) := by decide +kernel
theorem dX3_put_39 : decode cX3_put 39 = .ok (.i2l, 1) := by decide +kernel
theorem dX3_put_40 : decode cX3_put 40 = .ok (.lastore, 1) := by decide +kernel
theorem dX3_put_41 : decode cX3_put 41 = .ok (.goto 10, 3) := by decide +kernel
theorem dX3_put_44 : decode cX3_put 44 = .ok (.aload_n 0, 1) := by decide +kernel
theorem dX3_put_45 : decode cX3_put 45 = .ok (.getfield 9, 3) := by decide +kernel
theorem dX3_put_48 : decode cX3_put 48 = .ok (.iload_n 1, 1) := by decide +kernel
theorem dX3_put_49 : decode cX3_put 49 = .ok (.lload_n 2, 1) := by decide +kernel
theorem dX3_put_50 : decode cX3_put 50 = .ok (.lastore, 1) := by decide +kernel
theorem dX3_put_51 : decode cX3_put 51 = .ok (.return_, 1) := by decide +kernel
theorem dX3_hasRow_0 : decode cX3_hasRow 0 = .ok (.iload_n 1, 1) := by decide +kernel
theorem dX3_hasRow_1 : decode cX3_hasRow 1 = .ok (.ifCond .lt 25, 3) := by decide +kernel
theorem dX3_hasRow_4 : decode cX3_hasRow 4 = .ok (.iload_n 2, 1) := by decide +kernel
theorem dX3_hasRow_5 : decode cX3_hasRow 5 = .ok (.ifCond .lt 21, 3) := by decide +kernel
theorem dX3_hasRow_8 : decode cX3_hasRow 8 = .ok (.iload_n 1, 1) := by decide +kernel
theorem dX3_hasRow_9 : decode cX3_hasRow 9 = .ok (.i2l, 1) := by decide +kernel
theorem dX3_hasRow_10 : decode cX3_hasRow 10 = .ok (.iload_n 2, 1) := by decide +kernel
theorem dX3_hasRow_11 : decode cX3_hasRow 11 = .ok (.i2l, 1) := by decide +kernel
theorem dX3_hasRow_12 : decode cX3_hasRow 12 = .ok (.ladd, 1) := by decide +kernel
theorem dX3_hasRow_13 : decode cX3_hasRow 13 = .ok (.aload_n 0, 1) := by decide +kernel
theorem dX3_hasRow_14 : decode cX3_hasRow 14 = .ok (.getfield 19, 3) := by decide +kernel
theorem dX3_hasRow_17 : decode cX3_hasRow 17 = .ok (.i2l, 1) := by decide +kernel
theorem dX3_hasRow_18 : decode cX3_hasRow 18 = .ok (.lcmp, 1) := by decide +kernel
theorem dX3_hasRow_19 : decode cX3_hasRow 19 = .ok (.ifCond .gt 7, 3) := by decide +kernel
theorem dX3_hasRow_22 : decode cX3_hasRow 22 = .ok (.iconst 1, 1) := by decide +kernel
theorem dX3_hasRow_23 : decode cX3_hasRow 23 = .ok (.goto 4, 3) := by decide +kernel
theorem dX3_hasRow_26 : decode cX3_hasRow 26 = .ok (.iconst 0, 1) := by decide +kernel
theorem dX3_hasRow_27 : decode cX3_hasRow 27 = .ok (.ireturn, 1) := by decide +kernel
theorem dX3_holderAt_0 : decode cX3_holderAt 0 = .ok (.aload_n 0, 1) := by decide +kernel
theorem dX3_holderAt_1 : decode cX3_holderAt 1 = .ok (.getfield 9, 3) := by decide +kernel
theorem dX3_holderAt_4 : decode cX3_holderAt 4 = .ok (.iload_n 1, 1) := by decide +kernel
theorem dX3_holderAt_5 : decode cX3_holderAt 5 = .ok (.laload, 1) := by decide +kernel
theorem dX3_holderAt_6 : decode cX3_holderAt 6 = .ok (.lstore_n 2, 1) := by decide +kernel
theorem dX3_holderAt_7 : decode cX3_holderAt 7 = .ok (.lload_n 2, 1) := by decide +kernel
theorem dX3_holderAt_8 : decode cX3_holderAt 8 = .ok (.lconst 0, 1) := by decide +kernel
theorem dX3_holderAt_9 : decode cX3_holderAt 9 = .ok (.lcmp, 1) := by decide +kernel
theorem dX3_holderAt_10 : decode cX3_holderAt 10 = .ok (.ifCond .lt 16, 3) := by decide +kernel
theorem dX3_holderAt_13 : decode cX3_holderAt 13 = .ok (.lload_n 2, 1) := by decide +kernel
theorem dX3_holderAt_14 : decode cX3_holderAt 14 = .ok (.ldc2_w 22, 3) := by decide +kernel
theorem dX3_holderAt_17 : decode cX3_holderAt 17 = .ok (.lcmp, 1) := by decide +kernel
theorem dX3_holderAt_18 : decode cX3_holderAt 18 = .ok (.ifCond .ge 8, 3) := by decide +kernel
theorem dX3_holderAt_21 : decode cX3_holderAt 21 = .ok (.lload_n 2, 1) := by decide +kernel
theorem dX3_holderAt_22 : decode cX3_holderAt 22 = .ok (.l2i, 1) := by decide +kernel
theorem dX3_holderAt_23 : decode cX3_holderAt 23 = .ok (.goto 4, 3) := by decide +kernel
theorem dX3_holderAt_26 : decode cX3_holderAt 26 = .ok (.iconst (-1), 1) := by decide +kernel
theorem dX3_holderAt_27 : decode cX3_holderAt 27 = .ok (.ireturn, 1) := by decide +kernel
theorem dX4_init_0 : decode cX4_init 0 = .ok (.aload_n 0, 1) := by decide +kernel
theorem dX4_init_1 : decode cX4_init 1 = .ok (.invokespecial 3, 3) := by decide +kernel
theorem dX4_init_4 : decode cX4_init 4 = .ok (.aload_n 0, 1) := by decide +kernel
theorem dX4_init_5 : decode cX4_init 5 = .ok (.bipush 120, 2) := by decide +kernel
theorem dX4_init_7 : decode cX4_init 7 = .ok (.newarray .int, 2) := by decide +kernel
theorem dX4_init_9 : decode cX4_init 9 = .ok (.putfield 9, 3) := by decide +kernel
theorem dX4_init_12 : decode cX4_init 12 = .ok (.return_, 1) := by decide +kernel
theorem dX4_add_0 : decode cX4_add 0 = .ok (.aload_n 0, 1) := by decide +kernel
theorem dX4_add_1 : decode cX4_add 1 = .ok (.getfield 9, 3) := by decide +kernel
theorem dX4_add_4 : decode cX4_add 4 = .ok (.aload_n 0, 1) := by decide +kernel
theorem dX4_add_5 : decode cX4_add 5 = .ok (.getfield 15, 3) := by decide +kernel
theorem dX4_add_8 : decode cX4_add 8 = .ok (.iload_n 1, 1) := by decide +kernel
theorem dX4_add_9 : decode cX4_add 9 = .ok (.iastore, 1) := by decide +kernel
theorem dX4_add_10 : decode cX4_add 10 = .ok (.aload_n 0, 1) := by decide +kernel
theorem dX4_add_11 : decode cX4_add 11 = .ok (.dup, 1) := by decide +kernel
theorem dX4_add_12 : decode cX4_add 12 = .ok (.getfield 15, 3) := by decide +kernel
theorem dX4_add_15 : decode cX4_add 15 = .ok (.iconst 1, 1) := by decide +kernel
theorem dX4_add_16 : decode cX4_add 16 = .ok (.iadd, 1) := by decide +kernel
theorem dX4_add_17 : decode cX4_add 17 = .ok (.putfield 15, 3) := by decide +kernel
theorem dX4_add_20 : decode cX4_add 20 = .ok (.return_, 1) := by decide +kernel
theorem dX4_readInto_0 : decode cX4_readInto 0 = .ok (.aload_n 0, 1) := by decide +kernel
theorem dX4_readInto_1 : decode cX4_readInto 1 = .ok (.iconst 0, 1) := by decide +kernel
theorem dX4_readInto_2 : decode cX4_readInto 2 = .ok (.putfield 19, 3) := by decide +kernel
theorem dX4_readInto_5 : decode cX4_readInto 5 = .ok (.aload_n 0, 1) := by decide +kernel
theorem dX4_readInto_6 : decode cX4_readInto 6 = .ok (.invokevirtual 22, 3) := by decide +kernel
theorem dX4_readInto_9 : decode cX4_readInto 9 = .ok (.iconst 1, 1) := by decide +kernel
theorem dX4_readInto_10 : decode cX4_readInto 10 = .ok (.istore_n 2, 1) := by decide +kernel
theorem dX4_readInto_11 : decode cX4_readInto 11 = .ok (.iload_n 2, 1) := by decide +kernel
theorem dX4_readInto_12 : decode cX4_readInto 12 = .ok (.bipush 120, 2) := by decide +kernel
theorem dX4_readInto_14 : decode cX4_readInto 14 = .ok (.if_icmp .gt 42, 3) := by decide +kernel
theorem dX4_readInto_17 : decode cX4_readInto 17 = .ok (.aload_n 0, 1) := by decide +kernel
theorem dX4_readInto_18 : decode cX4_readInto 18 = .ok (.aload_n 1, 1) := by decide +kernel
theorem dX4_readInto_19 : decode cX4_readInto 19 = .ok (.invokevirtual 25, 3) := by decide +kernel
theorem dX4_readInto_22 : decode cX4_readInto 22 = .ok (.ifCond .ne 5, 3) := by decide +kernel
theorem dX4_readInto_25 : decode cX4_readInto 25 = .ok (.iconst (-1), 1) := by decide +kernel
theorem dX4_readInto_26 : decode cX4_readInto 26 = .ok (.ireturn, 1) := by decide +kernel
theorem dX4_readInto_27 : decode cX4_readInto 27 = .ok (.aload_n 0, 1) := by decide +kernel
theorem dX4_readInto_28 : decode cX4_readInto 28 = .ok (.getfield 29, 3) := by decide +kernel
theorem dX4_readInto_31 : decode cX4_readInto 31 = .ok (.ifCond .ne 5, 3) := by decide +kernel
theorem dX4_readInto_34 : decode cX4_readInto 34 = .ok (.iload_n 2, 1) := by decide +kernel
theorem dX4_readInto_35 : decode cX4_readInto 35 = .ok (.ireturn, 1) := by decide +kernel
theorem dX4_readInto_36 : decode cX4_readInto 36 = .ok (.aload_n 0, 1) := by decide +kernel
theorem dX4_readInto_37 : decode cX4_readInto 37 = .ok (.getfield 29, 3) := by decide +kernel
theorem dX4_readInto_40 : decode cX4_readInto 40 = .ok (.iconst 3, 1) := by decide +kernel
theorem dX4_readInto_41 : decode cX4_readInto 41 = .ok (.if_icmp .eq 5, 3) := by decide +kernel
theorem dX4_readInto_44 : decode cX4_readInto 44 = .ok (.iconst (-1), 1) := by decide +kernel
theorem dX4_readInto_45 : decode cX4_readInto 45 = .ok (.ireturn, 1) := by decide +kernel
theorem dX4_readInto_46 : decode cX4_readInto 46 = .ok (.aload_n 0, 1) := by decide +kernel
theorem dX4_readInto_47 : decode cX4_readInto 47 = .ok (.invokevirtual 22, 3) := by decide +kernel
theorem dX4_readInto_50 : decode cX4_readInto 50 = .ok (.iinc 2 1, 3) := by decide +kernel
theorem dX4_readInto_53 : decode cX4_readInto 53 = .ok (.goto (-42), 3) := by decide +kernel
theorem dX4_readInto_56 : decode cX4_readInto 56 = .ok (.iconst (-1), 1) := by decide +kernel
theorem dX4_readInto_57 : decode cX4_readInto 57 = .ok (.ireturn, 1) := by decide +kernel
theorem dX4_readItem_0 : decode cX4_readItem 0 = .ok (.aload_n 0, 1) := by decide +kernel
theorem dX4_readItem_1 : decode cX4_readItem 1 = .ok (.ldc 32, 2) := by decide +kernel
theorem dX4_readItem_3 : decode cX4_readItem 3 = .ok (.invokevirtual 34, 3) := by decide +kernel
theorem dX4_readItem_6 : decode cX4_readItem 6 = .ok (.ifCond .eq 9, 3) := by decide +kernel
theorem dX4_readItem_9 : decode cX4_readItem 9 = .ok (.aload_n 0, 1) := by decide +kernel
theorem dX4_readItem_10 : decode cX4_readItem 10 = .ok (.aload_n 1, 1) := by decide +kernel
theorem dX4_readItem_11 : decode cX4_readItem 11 = .ok (.invokevirtual 38, 3) := by decide +kernel
theorem dX4_readItem_14 : decode cX4_readItem 14 = .ok (.ireturn, 1) := by decide +kernel
theorem dX4_readItem_15 : decode cX4_readItem 15 = .ok (.aload_n 0, 1) := by decide +kernel
theorem dX4_readItem_16 : decode cX4_readItem 16 = .ok (.ldc 41, 2) := by decide +kernel
theorem dX4_readItem_18 : decode cX4_readItem 18 = .ok (.invokevirtual 34, 3) := by decide +kernel
theorem dX4_readItem_21 : decode cX4_readItem 21 = .ok (.ifCond .eq 9, 3) := by decide +kernel
theorem dX4_readItem_24 : decode cX4_readItem 24 = .ok (.aload_n 0, 1) := by decide +kernel
theorem dX4_readItem_25 : decode cX4_readItem 25 = .ok (.aload_n 1, 1) := by decide +kernel
theorem dX4_readItem_26 : decode cX4_readItem 26 = .ok (.invokevirtual 43, 3) := by decide +kernel
theorem dX4_readItem_29 : decode cX4_readItem 29 = .ok (.ireturn, 1) := by decide +kernel
theorem dX4_readItem_30 : decode cX4_readItem 30 = .ok (.iconst 0, 1) := by decide +kernel
theorem dX4_readItem_31 : decode cX4_readItem 31 = .ok (.istore_n 2, 1) := by decide +kernel
theorem dX4_readItem_32 : decode cX4_readItem 32 = .ok (.iload_n 2, 1) := by decide +kernel
theorem dX4_readItem_33 : decode cX4_readItem 33 = .ok (.bipush 6, 2) := by decide +kernel
theorem dX4_readItem_35 : decode cX4_readItem 35 = .ok (.if_icmp .ge 27, 3) := by decide +kernel
theorem dX4_readItem_38 : decode cX4_readItem 38 = .ok (.aload_n 0, 1) := by decide +kernel
theorem dX4_readItem_39 : decode cX4_readItem 39 = .ok (.iload_n 2, 1) := by decide +kernel
theorem dX4_readItem_40 : decode cX4_readItem 40 = .ok (.invokestatic 46, 3) := by decide +kernel
theorem dX4_readItem_43 : decode cX4_readItem 43 = .ok (.invokevirtual 34, 3) := by decide +kernel
theorem dX4_readItem_46 : decode cX4_readItem 46 = .ok (.ifCond .eq 10, 3) := by decide +kernel
theorem dX4_readItem_49 : decode cX4_readItem 49 = .ok (.aload_n 0, 1) := by decide +kernel
theorem dX4_readItem_50 : decode cX4_readItem 50 = .ok (.aload_n 1, 1) := by decide +kernel
theorem dX4_readItem_51 : decode cX4_readItem 51 = .ok (.iload_n 2, 1) := by decide +kernel
theorem dX4_readItem_52 : decode cX4_readItem 52 = .ok (.invokevirtual 50, 3) := by decide +kernel
theorem dX4_readItem_55 : decode cX4_readItem 55 = .ok (.ireturn, 1) := by decide +kernel
theorem dX4_readItem_56 : decode cX4_readItem 56 = .ok (.iinc 2 1, 3) := by decide +kernel
theorem dX4_readItem_59 : decode cX4_readItem 59 = .ok (.goto (-27), 3) := by decide +kernel
theorem dX4_readItem_62 : decode cX4_readItem 62 = .ok (.iconst 0, 1) := by decide +kernel
theorem dX4_readItem_63 : decode cX4_readItem 63 = .ok (.ireturn, 1) := by decide +kernel
theorem dX4_readFear_0 : decode cX4_readFear 0 = .ok (.aload_n 0, 1) := by decide +kernel
theorem dX4_readFear_1 : decode cX4_readFear 1 = .ok (.invokevirtual 22, 3) := by decide +kernel
theorem dX4_readFear_4 : decode cX4_readFear 4 = .ok (.aload_n 0, 1) := by decide +kernel
theorem dX4_readFear_5 : decode cX4_readFear 5 = .ok (.iconst 5, 1) := by decide +kernel
theorem dX4_readFear_6 : decode cX4_readFear 6 = .ok (.invokevirtual 54, 3) := by decide +kernel
theorem dX4_readFear_9 : decode cX4_readFear 9 = .ok (.istore_n 2, 1) := by decide +kernel
theorem dX4_readFear_10 : decode cX4_readFear 10 = .ok (.iload_n 2, 1) := by decide +kernel
theorem dX4_readFear_11 : decode cX4_readFear 11 = .ok (.ifCond .lt 12, 3) := by decide +kernel
theorem dX4_readFear_14 : decode cX4_readFear 14 = .ok (.aload_n 0, 1) := by decide +kernel
theorem dX4_readFear_15 : decode cX4_readFear 15 = .ok (.ldc 58, 2) := by decide +kernel
theorem dX4_readFear_17 : decode cX4_readFear 17 = .ok (.invokevirtual 60, 3) := by decide +kernel
theorem dX4_readFear_20 : decode cX4_readFear 20 = .ok (.ifCond .ne 5, 3) := by decide +kernel
theorem dX4_readFear_23 : decode cX4_readFear 23 = .ok (.iconst 0, 1) := by decide +kernel
theorem dX4_readFear_24 : decode cX4_readFear 24 = .ok (.ireturn, 1) := by decide +kernel
theorem dX4_readFear_25 : decode cX4_readFear 25 = .ok (.aload_n 0, 1) := by decide +kernel
theorem dX4_readFear_26 : decode cX4_readFear 26 = .ok (.bipush 99, 2) := by decide +kernel
theorem dX4_readFear_28 : decode cX4_readFear 28 = .ok (.invokevirtual 54, 3) := by decide +kernel
theorem dX4_readFear_31 : decode cX4_readFear 31 = .ok (.istore_n 3, 1) := by decide +kernel
theorem dX4_readFear_32 : decode cX4_readFear 32 = .ok (.iload_n 3, 1) := by decide +kernel
theorem dX4_readFear_33 : decode cX4_readFear 33 = .ok (.ifCond .ge 5, 3) := by decide +kernel
theorem dX4_readFear_36 : decode cX4_readFear 36 = .ok (.iconst 0, 1) := by decide +kernel
theorem dX4_readFear_37 : decode cX4_readFear 37 = .ok (.ireturn, 1) := by decide +kernel
theorem dX4_readFear_38 : decode cX4_readFear 38 = .ok (.aload_n 1, 1) := by decide +kernel
theorem dX4_readFear_39 : decode cX4_readFear 39 = .ok (.getfield 63, 3) := by decide +kernel
theorem dX4_readFear_42 : decode cX4_readFear 42 = .ok (.iload_n 2, 1) := by decide +kernel
theorem dX4_readFear_43 : decode cX4_readFear 43 = .ok (.iload_n 3, 1) := by decide +kernel
theorem dX4_readFear_44 : decode cX4_readFear 44 = .ok (.iastore, 1) := by decide +kernel
theorem dX4_readFear_45 : decode cX4_readFear 45 = .ok (.iconst 1, 1) := by decide +kernel
theorem dX4_readFear_46 : decode cX4_readFear 46 = .ok (.ireturn, 1) := by decide +kernel
theorem dX4_readChild_0 : decode cX4_readChild 0 = .ok (.aload_n 1, 1) := by decide +kernel
theorem dX4_readChild_1 : decode cX4_readChild 1 = .ok (.getfield 68, 3) := by decide +kernel
theorem dX4_readChild_4 : decode cX4_readChild 4 = .ok (.bipush 14, 2) := by decide +kernel
theorem dX4_readChild_6 : decode cX4_readChild 6 = .ok (.if_icmp .lt 5, 3) := by decide +kernel
theorem dX4_readChild_9 : decode cX4_readChild 9 = .ok (.iconst 0, 1) := by decide +kernel
theorem dX4_readChild_10 : decode cX4_readChild 10 = .ok (.ireturn, 1) := by decide +kernel
theorem dX4_readChild_11 : decode cX4_readChild 11 = .ok (.aload_n 0, 1) := by decide +kernel
theorem dX4_readChild_12 : decode cX4_readChild 12 = .ok (.invokevirtual 22, 3) := by decide +kernel
theorem dX4_readChild_15 : decode cX4_readChild 15 = .ok (.aload_n 0, 1) := by decide +kernel
theorem dX4_readChild_16 : decode cX4_readChild 16 = .ok (.ldc 71, 2) := by decide +kernel
theorem dX4_readChild_18 : decode cX4_readChild 18 = .ok (.invokevirtual 60, 3) := by decide +kernel
theorem dX4_readChild_21 : decode cX4_readChild 21 = .ok (.ifCond .ne 5, 3) := by decide +kernel
theorem dX4_readChild_24 : decode cX4_readChild 24 = .ok (.iconst 0, 1) := by decide +kernel
theorem dX4_readChild_25 : decode cX4_readChild 25 = .ok (.ireturn, 1) := by decide +kernel
theorem dX4_readChild_26 : decode cX4_readChild 26 = .ok (.aload_n 0, 1) := by decide +kernel
theorem dX4_readChild_27 : decode cX4_readChild 27 = .ok (.iconst 5, 1) := by decide +kernel
theorem dX4_readChild_28 : decode cX4_readChild 28 = .ok (.invokevirtual 54, 3) := by decide +kernel
theorem dX4_readChild_31 : decode cX4_readChild 31 = .ok (.istore_n 3, 1) := by decide +kernel
theorem dX4_readChild_32 : decode cX4_readChild 32 = .ok (.iload_n 3, 1) := by decide +kernel
theorem dX4_readChild_33 : decode cX4_readChild 33 = .ok (.ifCond .ge 5, 3) := by decide +kernel
theorem dX4_readChild_36 : decode cX4_readChild 36 = .ok (.iconst 0, 1) := by decide +kernel
theorem dX4_readChild_37 : decode cX4_readChild 37 = .ok (.ireturn, 1) := by decide +kernel
theorem dX4_readChild_38 : decode cX4_readChild 38 = .ok (.aload_n 0, 1) := by decide +kernel
theorem dX4_readChild_39 : decode cX4_readChild 39 = .ok (.ldc 73, 2) := by decide +kernel
theorem dX4_readChild_41 : decode cX4_readChild 41 = .ok (.invokevirtual 60, 3) := by decide +kernel
theorem dX4_readChild_44 : decode cX4_readChild 44 = .ok (.ifCond .eq 11, 3) := by decide +kernel
theorem dX4_readChild_47 : decode cX4_readChild 47 = .ok (.aload_n 0, 1) := by decide +kernel
theorem dX4_readChild_48 : decode cX4_readChild 48 = .ok (.iconst 5, 1) := by decide +kernel
theorem dX4_readChild_49 : decode cX4_readChild 49 = .ok (.invokevirtual 54, 3) := by decide +kernel
theorem dX4_readChild_52 : decode cX4_readChild 52 = .ok (.goto 4, 3) := by decide +kernel
theorem dX4_readChild_55 : decode cX4_readChild 55 = .ok (.iload_n 3, 1) := by decide +kernel
theorem dX4_readChild_56 : decode cX4_readChild 56 = .ok (.istore 4, 2) := by decide +kernel
theorem dX4_readChild_58 : decode cX4_readChild 58 = .ok (.iload 4, 2) := by decide +kernel
theorem dX4_readChild_60 : decode cX4_readChild 60 = .ok (.ifCond .ge 5, 3) := by decide +kernel
theorem dX4_readChild_63 : decode cX4_readChild 63 = .ok (.iconst 0, 1) := by decide +kernel
theorem dX4_readChild_64 : decode cX4_readChild 64 = .ok (.ireturn, 1) := by decide +kernel
theorem dX4_readChild_65 : decode cX4_readChild 65 = .ok (.aload_n 0, 1) := by decide +kernel
theorem dX4_readChild_66 : decode cX4_readChild 66 = .ok (.ldc 75, 2) := by decide +kernel
theorem dX4_readChild_68 : decode cX4_readChild 68 = .ok (.invokevirtual 60, 3) := by decide +kernel
theorem dX4_readChild_71 : decode cX4_readChild 71 = .ok (.ifCond .eq 12, 3) := by decide +kernel
theorem dX4_readChild_74 : decode cX4_readChild 74 = .ok (.aload_n 0, 1) := by decide +kernel
theorem dX4_readChild_75 : decode cX4_readChild 75 = .ok (.bipush 99, 2) := by decide +kernel
theorem dX4_readChild_77 : decode cX4_readChild 77 = .ok (.invokevirtual 54, 3) := by decide +kernel
theorem dX4_readChild_80 : decode cX4_readChild 80 = .ok (.goto 5, 3) := by decide +kernel
theorem dX4_readChild_83 : decode cX4_readChild 83 = .ok (.bipush 10, 2) := by decide +kernel
theorem dX4_readChild_85 : decode cX4_readChild 85 = .ok (.istore 5, 2) := by decide +kernel
theorem dX4_readChild_87 : decode cX4_readChild 87 = .ok (.iload 5, 2) := by decide +kernel
theorem dX4_readChild_89 : decode cX4_readChild 89 = .ok (.ifCond .ge 5, 3) := by decide +kernel
theorem dX4_readChild_92 : decode cX4_readChild 92 = .ok (.iconst 0, 1) := by decide +kernel
theorem dX4_readChild_93 : decode cX4_readChild 93 = .ok (.ireturn, 1) := by decide +kernel
theorem dX4_readChild_94 : decode cX4_readChild 94 = .ok (.aload_n 1, 1) := by decide +kernel
theorem dX4_readChild_95 : decode cX4_readChild 95 = .ok (.iload_n 2, 1) := by decide +kernel
theorem dX4_readChild_96 : decode cX4_readChild 96 = .ok (.iload_n 3, 1) := by decide +kernel
theorem dX4_readChild_97 : decode cX4_readChild 97 = .ok (.iload 4, 2) := by decide +kernel
theorem dX4_readChild_99 : decode cX4_readChild 99 = .ok (.iload 5, 2) := by decide +kernel
theorem dX4_readChild_101 : decode cX4_readChild 101 = .ok (.invokevirtual 77, 3) := by decide +kernel
theorem dX4_readChild_104 : decode cX4_readChild 104 = .ok (.pop, 1) := by decide +kernel
theorem dX4_readChild_105 : decode cX4_readChild 105 = .ok (.iconst 1, 1) := by decide +kernel
theorem dX4_readChild_106 : decode cX4_readChild 106 = .ok (.ireturn, 1) := by decide +kernel
theorem dX4_readTreaty_0 : decode cX4_readTreaty 0 = .ok (.aload_n 1, 1) := by decide +kernel
theorem dX4_readTreaty_1 : decode cX4_readTreaty 1 = .ok (.getfield 81, 3) := by decide +kernel
theorem dX4_readTreaty_4 : decode cX4_readTreaty 4 = .ok (.bipush 12, 2) := by decide +kernel
theorem dX4_readTreaty_6 : decode cX4_readTreaty 6 = .ok (.if_icmp .lt 5, 3) := by decide +kernel
theorem dX4_readTreaty_9 : decode cX4_readTreaty 9 = .ok (.iconst 0, 1) := by decide +kernel
theorem dX4_readTreaty_10 : decode cX4_readTreaty 10 = .ok (.ireturn, 1) := by decide +kernel
theorem dX4_readTreaty_11 : decode cX4_readTreaty 11 = .ok (.aload_n 0, 1) := by decide +kernel
theorem dX4_readTreaty_12 : decode cX4_readTreaty 12 = .ok (.invokevirtual 22, 3) := by decide +kernel
theorem dX4_readTreaty_15 : decode cX4_readTreaty 15 = .ok (.aload_n 0, 1) := by decide +kernel
theorem dX4_readTreaty_16 : decode cX4_readTreaty 16 = .ok (.iconst 5, 1) := by decide +kernel
theorem dX4_readTreaty_17 : decode cX4_readTreaty 17 = .ok (.invokevirtual 54, 3) := by decide +kernel
theorem dX4_readTreaty_20 : decode cX4_readTreaty 20 = .ok (.istore_n 2, 1) := by decide +kernel
theorem dX4_readTreaty_21 : decode cX4_readTreaty 21 = .ok (.iload_n 2, 1) := by decide +kernel
theorem dX4_readTreaty_22 : decode cX4_readTreaty 22 = .ok (.ifCond .lt 28, 3) := by decide +kernel
theorem dX4_readTreaty_25 : decode cX4_readTreaty 25 = .ok (.aload_n 0, 1) := by decide +kernel
theorem dX4_readTreaty_26 : decode cX4_readTreaty 26 = .ok (.ldc 84, 2) := by decide +kernel
theorem dX4_readTreaty_28 : decode cX4_readTreaty 28 = .ok (.invokevirtual 60, 3) := by decide +kernel
theorem dX4_readTreaty_31 : decode cX4_readTreaty 31 = .ok (.ifCond .eq 19, 3) := by decide +kernel
theorem dX4_readTreaty_34 : decode cX4_readTreaty 34 = .ok (.aload_n 0, 1) := by decide +kernel
theorem dX4_readTreaty_35 : decode cX4_readTreaty 35 = .ok (.getfield 29, 3) := by decide +kernel
theorem dX4_readTreaty_38 : decode cX4_readTreaty 38 = .ok (.iconst 2, 1) := by decide +kernel
theorem dX4_readTreaty_39 : decode cX4_readTreaty 39 = .ok (.if_icmp .ne 13, 3) := by decide +kernel
theorem dX4_readTreaty_42 : decode cX4_readTreaty 42 = .ok (.aload_n 0, 1) := by decide +kernel
theorem dX4_readTreaty_43 : decode cX4_readTreaty 43 = .ok (.getfield 86, 3) := by decide +kernel
theorem dX4_readTreaty_46 : decode cX4_readTreaty 46 = .ok (.iload_n 2, 1) := by decide +kernel
theorem dX4_readTreaty_47 : decode cX4_readTreaty 47 = .ok (.if_icmp .ne 5, 3) := by decide +kernel
theorem dX4_readTreaty_50 : decode cX4_readTreaty 50 = .ok (.iconst 0, 1) := by decide +kernel
theorem dX4_readTreaty_51 : decode cX4_readTreaty 51 = .ok (.ireturn, 1) := by decide +kernel
theorem dX4_readTreaty_52 : decode cX4_readTreaty 52 = .ok (.aload_n 0, 1) := by decide +kernel
theorem dX4_readTreaty_53 : decode cX4_readTreaty 53 = .ok (.iconst 5, 1) := by decide +kernel
theorem dX4_readTreaty_54 : decode cX4_readTreaty 54 = .ok (.invokevirtual 54, 3) := by decide +kernel
theorem dX4_readTreaty_57 : decode cX4_readTreaty 57 = .ok (.istore_n 3, 1) := by decide +kernel
theorem dX4_readTreaty_58 : decode cX4_readTreaty 58 = .ok (.iload_n 3, 1) := by decide +kernel
theorem dX4_readTreaty_59 : decode cX4_readTreaty 59 = .ok (.ifCond .lt 12, 3) := by decide +kernel
theorem dX4_readTreaty_62 : decode cX4_readTreaty 62 = .ok (.aload_n 0, 1) := by decide +kernel
theorem dX4_readTreaty_63 : decode cX4_readTreaty 63 = .ok (.ldc 89, 2) := by decide +kernel
theorem dX4_readTreaty_65 : decode cX4_readTreaty 65 = .ok (.invokevirtual 60, 3) := by decide +kernel
theorem dX4_readTreaty_68 : decode cX4_readTreaty 68 = .ok (.ifCond .ne 5, 3) := by decide +kernel
theorem dX4_readTreaty_71 : decode cX4_readTreaty 71 = .ok (.iconst 0, 1) := by decide +kernel
theorem dX4_readTreaty_72 : decode cX4_readTreaty 72 = .ok (.ireturn, 1) := by decide +kernel
theorem dX4_readTreaty_73 : decode cX4_readTreaty 73 = .ok (.aload_n 0, 1) := by decide +kernel
theorem dX4_readTreaty_74 : decode cX4_readTreaty 74 = .ok (.sipush 999, 3) := by decide +kernel
theorem dX4_readTreaty_77 : decode cX4_readTreaty 77 = .ok (.invokevirtual 54, 3) := by decide +kernel
theorem dX4_readTreaty_80 : decode cX4_readTreaty 80 = .ok (.istore 4, 2) := by decide +kernel
theorem dX4_readTreaty_82 : decode cX4_readTreaty 82 = .ok (.iload 4, 2) := by decide +kernel
theorem dX4_readTreaty_84 : decode cX4_readTreaty 84 = .ok (.ifCond .ge 5, 3) := by decide +kernel
theorem dX4_readTreaty_87 : decode cX4_readTreaty 87 = .ok (.iconst 0, 1) := by decide +kernel
theorem dX4_readTreaty_88 : decode cX4_readTreaty 88 = .ok (.ireturn, 1) := by decide +kernel
theorem dX4_readTreaty_89 : decode cX4_readTreaty 89 = .ok (.aload_n 0, 1) := by decide +kernel
theorem dX4_readTreaty_90 : decode cX4_readTreaty 90 = .ok (.ldc 91, 2) := by decide +kernel
theorem dX4_readTreaty_92 : decode cX4_readTreaty 92 = .ok (.invokevirtual 60, 3) := by decide +kernel
theorem dX4_readTreaty_95 : decode cX4_readTreaty 95 = .ok (.ifCond .eq 13, 3) := by decide +kernel
theorem dX4_readTreaty_98 : decode cX4_readTreaty 98 = .ok (.aload_n 0, 1) := by decide +kernel
theorem dX4_readTreaty_99 : decode cX4_readTreaty 99 = .ok (.sipush 999, 3) := by decide +kernel
theorem dX4_readTreaty_102 : decode cX4_readTreaty 102 = .ok (.invokevirtual 54, 3) := by decide +kernel
theorem dX4_readTreaty_105 : decode cX4_readTreaty 105 = .ok (.goto 6, 3) := by decide +kernel
theorem dX4_readTreaty_108 : decode cX4_readTreaty 108 = .ok (.sipush 999, 3) := by decide +kernel
theorem dX4_readTreaty_111 : decode cX4_readTreaty 111 = .ok (.istore 5, 2) := by decide +kernel
theorem dX4_readTreaty_113 : decode cX4_readTreaty 113 = .ok (.iload 5, 2) := by decide +kernel
theorem dX4_readTreaty_115 : decode cX4_readTreaty 115 = .ok (.ifCond .ge 5, 3) := by decide +kernel
theorem dX4_readTreaty_118 : decode cX4_readTreaty 118 = .ok (.iconst 0, 1) := by decide +kernel
theorem dX4_readTreaty_119 : decode cX4_readTreaty 119 = .ok (.ireturn, 1) := by decide +kernel
theorem dX4_readTreaty_120 : decode cX4_readTreaty 120 = .ok (.aload_n 1, 1) := by decide +kernel
theorem dX4_readTreaty_121 : decode cX4_readTreaty 121 = .ok (.iload_n 2, 1) := by decide +kernel
theorem dX4_readTreaty_122 : decode cX4_readTreaty 122 = .ok (.iload_n 3, 1) := by decide +kernel
theorem dX4_readTreaty_123 : decode cX4_readTreaty 123 = .ok (.iload 4, 2) := by decide +kernel
theorem dX4_readTreaty_125 : decode cX4_readTreaty 125 = .ok (.iload 5, 2) := by decide +kernel
theorem dX4_readTreaty_127 : decode cX4_readTreaty 127 = .ok (.invokevirtual 93, 3) := by decide +kernel
theorem dX4_readTreaty_130 : decode cX4_readTreaty 130 = .ok (.pop, 1) := by decide +kernel
theorem dX4_readTreaty_131 : decode cX4_readTreaty 131 = .ok (.iconst 1, 1) := by decide +kernel
theorem dX4_readTreaty_132 : decode cX4_readTreaty 132 = .ok (.ireturn, 1) := by decide +kernel
theorem dX4_takeWord_0 : decode cX4_takeWord 0 = .ok (.aload_n 0, 1) := by decide +kernel
theorem dX4_takeWord_1 : decode cX4_takeWord 1 = .ok (.aload_n 1, 1) := by decide +kernel
theorem dX4_takeWord_2 : decode cX4_takeWord 2 = .ok (.invokevirtual 34, 3) := by decide +kernel
theorem dX4_takeWord_5 : decode cX4_takeWord 5 = .ok (.ifCond .ne 5, 3) := by decide +kernel
theorem dX4_takeWord_8 : decode cX4_takeWord 8 = .ok (.iconst 0, 1) := by decide +kernel
theorem dX4_takeWord_9 : decode cX4_takeWord 9 = .ok (.ireturn, 1) := by decide +kernel
theorem dX4_takeWord_10 : decode cX4_takeWord 10 = .ok (.aload_n 0, 1) := by decide +kernel
theorem dX4_takeWord_11 : decode cX4_takeWord 11 = .ok (.invokevirtual 22, 3) := by decide +kernel
theorem dX4_takeWord_14 : decode cX4_takeWord 14 = .ok (.iconst 1, 1) := by decide +kernel
theorem dX4_takeWord_15 : decode cX4_takeWord 15 = .ok (.ireturn, 1) := by decide +kernel
theorem dX4_takeNumber_0 : decode cX4_takeNumber 0 = .ok (.aload_n 0, 1) := by decide +kernel
theorem dX4_takeNumber_1 : decode cX4_takeNumber 1 = .ok (.getfield 29, 3) := by decide +kernel
theorem dX4_takeNumber_4 : decode cX4_takeNumber 4 = .ok (.iconst 2, 1) := by decide +kernel
theorem dX4_takeNumber_5 : decode cX4_takeNumber 5 = .ok (.if_icmp .ne 11, 3) := by decide +kernel
theorem dX4_takeNumber_8 : decode cX4_takeNumber 8 = .ok (.aload_n 0, 1) := by decide +kernel
theorem dX4_takeNumber_9 : decode cX4_takeNumber 9 = .ok (.getfield 86, 3) := by decide +kernel
theorem dX4_takeNumber_12 : decode cX4_takeNumber 12 = .ok (.iload_n 1, 1) := by decide +kernel
theorem dX4_takeNumber_13 : decode cX4_takeNumber 13 = .ok (.if_icmp .le 5, 3) := by decide +kernel
theorem dX4_takeNumber_16 : decode cX4_takeNumber 16 = .ok (.iconst (-1), 1) := by decide +kernel
theorem dX4_takeNumber_17 : decode cX4_takeNumber 17 = .ok (.ireturn, 1) := by decide +kernel
theorem dX4_takeNumber_18 : decode cX4_takeNumber 18 = .ok (.aload_n 0, 1) := by decide +kernel
theorem dX4_takeNumber_19 : decode cX4_takeNumber 19 = .ok (.getfield 86, 3) := by decide +kernel
theorem dX4_takeNumber_22 : decode cX4_takeNumber 22 = .ok (.istore_n 2, 1) := by decide +kernel
theorem dX4_takeNumber_23 : decode cX4_takeNumber 23 = .ok (.aload_n 0, 1) := by decide +kernel
theorem dX4_takeNumber_24 : decode cX4_takeNumber 24 = .ok (.invokevirtual 22, 3) := by decide +kernel
theorem dX4_takeNumber_27 : decode cX4_takeNumber 27 = .ok (.iload_n 2, 1) := by decide +kernel
theorem dX4_takeNumber_28 : decode cX4_takeNumber 28 = .ok (.ireturn, 1) := by decide +kernel
theorem dX4_isWord_0 : decode cX4_isWord 0 = .ok (.aload_n 0, 1) := by decide +kernel
theorem dX4_isWord_1 : decode cX4_isWord 1 = .ok (.getfield 29, 3) := by decide +kernel
theorem dX4_isWord_4 : decode cX4_isWord 4 = .ok (.iconst 1, 1) := by decide +kernel
theorem dX4_isWord_5 : decode cX4_isWord 5 = .ok (.if_icmp .ne 19, 3) := by decide +kernel
theorem dX4_isWord_8 : decode cX4_isWord 8 = .ok (.aload_n 0, 1) := by decide +kernel
theorem dX4_isWord_9 : decode cX4_isWord 9 = .ok (.getfield 19, 3) := by decide +kernel
theorem dX4_isWord_12 : decode cX4_isWord 12 = .ok (.aload_n 0, 1) := by decide +kernel
theorem dX4_isWord_13 : decode cX4_isWord 13 = .ok (.getfield 96, 3) := by decide +kernel
theorem dX4_isWord_16 : decode cX4_isWord 16 = .ok (.isub, 1) := by decide +kernel
theorem dX4_isWord_17 : decode cX4_isWord 17 = .ok (.aload_n 1, 1) := by decide +kernel
theorem dX4_isWord_18 : decode cX4_isWord 18 = .ok (.invokevirtual 99, 3) := by decide +kernel
theorem dX4_isWord_21 : decode cX4_isWord 21 = .ok (.if_icmp .eq 5, 3) := by decide +kernel
theorem dX4_isWord_24 : decode cX4_isWord 24 = .ok (.iconst 0, 1) := by decide +kernel
theorem dX4_isWord_25 : decode cX4_isWord 25 = .ok (.ireturn, 1) := by decide +kernel
theorem dX4_isWord_26 : decode cX4_isWord 26 = .ok (.iconst 0, 1) := by decide +kernel
theorem dX4_isWord_27 : decode cX4_isWord 27 = .ok (.istore_n 2, 1) := by decide +kernel
theorem dX4_isWord_28 : decode cX4_isWord 28 = .ok (.iload_n 2, 1) := by decide +kernel
theorem dX4_isWord_29 : decode cX4_isWord 29 = .ok (.aload_n 1, 1) := by decide +kernel
theorem dX4_isWord_30 : decode cX4_isWord 30 = .ok (.invokevirtual 99, 3) := by decide +kernel
theorem dX4_isWord_33 : decode cX4_isWord 33 = .ok (.if_icmp .ge 30, 3) := by decide +kernel
theorem dX4_isWord_36 : decode cX4_isWord 36 = .ok (.aload_n 0, 1) := by decide +kernel
theorem dX4_isWord_37 : decode cX4_isWord 37 = .ok (.getfield 9, 3) := by decide +kernel
theorem dX4_isWord_40 : decode cX4_isWord 40 = .ok (.aload_n 0, 1) := by decide +kernel
theorem dX4_isWord_41 : decode cX4_isWord 41 = .ok (.getfield 96, 3) := by decide +kernel
theorem dX4_isWord_44 : decode cX4_isWord 44 = .ok (.iload_n 2, 1) := by decide +kernel
theorem dX4_isWord_45 : decode cX4_isWord 45 = .ok (.iadd, 1) := by decide +kernel
theorem dX4_isWord_46 : decode cX4_isWord 46 = .ok (.iaload, 1) := by decide +kernel
theorem dX4_isWord_47 : decode cX4_isWord 47 = .ok (.aload_n 1, 1) := by decide +kernel
theorem dX4_isWord_48 : decode cX4_isWord 48 = .ok (.iload_n 2, 1) := by decide +kernel
theorem dX4_isWord_49 : decode cX4_isWord 49 = .ok (.invokevirtual 105, 3) := by decide +kernel
theorem dX4_isWord_52 : decode cX4_isWord 52 = .ok (.if_icmp .eq 5, 3) := by decide +kernel
theorem dX4_isWord_55 : decode cX4_isWord 55 = .ok (.iconst 0, 1) := by decide +kernel
theorem dX4_isWord_56 : decode cX4_isWord 56 = .ok (.ireturn, 1) := by decide +kernel
theorem dX4_isWord_57 : decode cX4_isWord 57 = .ok (.iinc 2 1, 3) := by decide +kernel
theorem dX4_isWord_60 : decode cX4_isWord 60 = .ok (.goto (-32), 3) := by decide +kernel
theorem dX4_isWord_63 : decode cX4_isWord 63 = .ok (.iconst 1, 1) := by decide +kernel
theorem dX4_isWord_64 : decode cX4_isWord 64 = .ok (.ireturn, 1) := by decide +kernel
theorem dX4_advance_0 : decode cX4_advance 0 = .ok (.aload_n 0, 1) := by decide +kernel
theorem dX4_advance_1 : decode cX4_advance 1 = .ok (.aload_n 0, 1) := by decide +kernel
theorem dX4_advance_2 : decode cX4_advance 2 = .ok (.getfield 19, 3) := by decide +kernel
theorem dX4_advance_5 : decode cX4_advance 5 = .ok (.putfield 96, 3) := by decide +kernel
theorem dX4_advance_8 : decode cX4_advance 8 = .ok (.aload_n 0, 1) := by decide +kernel
theorem dX4_advance_9 : decode cX4_advance 9 = .ok (.getfield 96, 3) := by decide +kernel
theorem dX4_advance_12 : decode cX4_advance 12 = .ok (.aload_n 0, 1) := by decide +kernel
theorem dX4_advance_13 : decode cX4_advance 13 = .ok (.getfield 15, 3) := by decide +kernel
theorem dX4_advance_16 : decode cX4_advance 16 = .ok (.if_icmp .ge 30, 3) := by decide +kernel
theorem dX4_advance_19 : decode cX4_advance 19 = .ok (.aload_n 0, 1) := by decide +kernel
theorem dX4_advance_20 : decode cX4_advance 20 = .ok (.getfield 9, 3) := by decide +kernel
theorem dX4_advance_23 : decode cX4_advance 23 = .ok (.aload_n 0, 1) := by decide +kernel
theorem dX4_advance_24 : decode cX4_advance 24 = .ok (.getfield 96, 3) := by decide +kernel
theorem dX4_advance_27 : decode cX4_advance 27 = .ok (.iaload, 1) := by decide +kernel
theorem dX4_advance_28 : decode cX4_advance 28 = .ok (.bipush 32, 2) := by decide +kernel
theorem dX4_advance_30 : decode cX4_advance 30 = .ok (.if_icmp .ne 16, 3) := by decide +kernel
theorem dX4_advance_33 : decode cX4_advance 33 = .ok (.aload_n 0, 1) := by decide +kernel
theorem dX4_advance_34 : decode cX4_advance 34 = .ok (.dup, 1) := by decide +kernel
theorem dX4_advance_35 : decode cX4_advance 35 = .ok (.getfield 96, 3) := by decide +kernel
theorem dX4_advance_38 : decode cX4_advance 38 = .ok (.iconst 1, 1) := by decide +kernel
theorem dX4_advance_39 : decode cX4_advance 39 = .ok (.iadd, 1) := by decide +kernel
theorem dX4_advance_40 : decode cX4_advance 40 = .ok (.putfield 96, 3) := by decide +kernel
theorem dX4_advance_43 : decode cX4_advance 43 = .ok (.goto (-35), 3) := by decide +kernel
theorem dX4_advance_46 : decode cX4_advance 46 = .ok (.aload_n 0, 1) := by decide +kernel
theorem dX4_advance_47 : decode cX4_advance 47 = .ok (.aload_n 0, 1) := by decide +kernel
theorem dX4_advance_48 : decode cX4_advance 48 = .ok (.getfield 96, 3) := by decide +kernel
theorem dX4_advance_51 : decode cX4_advance 51 = .ok (.putfield 19, 3) := by decide +kernel
theorem dX4_advance_54 : decode cX4_advance 54 = .ok (.aload_n 0, 1) := by decide +kernel
theorem dX4_advance_55 : decode cX4_advance 55 = .ok (.iconst 0, 1) := by decide +kernel
theorem dX4_advance_56 : decode cX4_advance 56 = .ok (.putfield 86, 3) := by decide +kernel
theorem dX4_advance_59 : decode cX4_advance 59 = .ok (.aload_n 0, 1) := by decide +kernel
theorem dX4_advance_60 : decode cX4_advance 60 = .ok (.getfield 96, 3) := by decide +kernel
theorem dX4_advance_63 : decode cX4_advance 63 = .ok (.aload_n 0, 1) := by decide +kernel
theorem dX4_advance_64 : decode cX4_advance 64 = .ok (.getfield 15, 3) := by decide +kernel
theorem dX4_advance_67 : decode cX4_advance 67 = .ok (.if_icmp .lt 11, 3) := by decide +kernel
theorem dX4_advance_70 : decode cX4_advance 70 = .ok (.aload_n 0, 1) := by decide +kernel
theorem dX4_advance_71 : decode cX4_advance 71 = .ok (.iconst 0, 1) := by decide +kernel
theorem dX4_advance_72 : decode cX4_advance 72 = .ok (.putfield 29, 3) := by decide +kernel
theorem dX4_advance_75 : decode cX4_advance 75 = .ok (.goto 184, 3) := by decide +kernel
theorem dX4_advance_78 : decode cX4_advance 78 = .ok (.aload_n 0, 1) := by decide +kernel
theorem dX4_advance_79 : decode cX4_advance 79 = .ok (.getfield 9, 3) := by decide +kernel
theorem dX4_advance_82 : decode cX4_advance 82 = .ok (.aload_n 0, 1) := by decide +kernel
theorem dX4_advance_83 : decode cX4_advance 83 = .ok (.getfield 96, 3) := by decide +kernel
theorem dX4_advance_86 : decode cX4_advance 86 = .ok (.iaload, 1) := by decide +kernel
theorem dX4_advance_87 : decode cX4_advance 87 = .ok (.invokestatic 109, 3) := by decide +kernel
theorem dX4_advance_90 : decode cX4_advance 90 = .ok (.ifCond .eq 47, 3) := by decide +kernel
theorem dX4_advance_93 : decode cX4_advance 93 = .ok (.aload_n 0, 1) := by decide +kernel
theorem dX4_advance_94 : decode cX4_advance 94 = .ok (.iconst 1, 1) := by decide +kernel
theorem dX4_advance_95 : decode cX4_advance 95 = .ok (.putfield 29, 3) := by decide +kernel
theorem dX4_advance_98 : decode cX4_advance 98 = .ok (.aload_n 0, 1) := by decide +kernel
theorem dX4_advance_99 : decode cX4_advance 99 = .ok (.getfield 19, 3) := by decide +kernel
theorem dX4_advance_102 : decode cX4_advance 102 = .ok (.aload_n 0, 1) := by decide +kernel
theorem dX4_advance_103 : decode cX4_advance 103 = .ok (.getfield 15, 3) := by decide +kernel
theorem dX4_advance_106 : decode cX4_advance 106 = .ok (.if_icmp .ge 153, 3) := by decide +kernel
theorem dX4_advance_109 : decode cX4_advance 109 = .ok (.aload_n 0, 1) := by decide +kernel
theorem dX4_advance_110 : decode cX4_advance 110 = .ok (.getfield 9, 3) := by decide +kernel
theorem dX4_advance_113 : decode cX4_advance 113 = .ok (.aload_n 0, 1) := by decide +kernel
theorem dX4_advance_114 : decode cX4_advance 114 = .ok (.getfield 19, 3) := by decide +kernel
theorem dX4_advance_117 : decode cX4_advance 117 = .ok (.iaload, 1) := by decide +kernel
theorem dX4_advance_118 : decode cX4_advance 118 = .ok (.invokestatic 109, 3) := by decide +kernel
theorem dX4_advance_121 : decode cX4_advance 121 = .ok (.ifCond .eq 138, 3) := by decide +kernel
theorem dX4_advance_124 : decode cX4_advance 124 = .ok (.aload_n 0, 1) := by decide +kernel
theorem dX4_advance_125 : decode cX4_advance 125 = .ok (.dup, 1) := by decide +kernel
theorem dX4_advance_126 : decode cX4_advance 126 = .ok (.getfield 19, 3) := by decide +kernel
theorem dX4_advance_129 : decode cX4_advance 129 = .ok (.iconst 1, 1) := by decide +kernel
theorem dX4_advance_130 : decode cX4_advance 130 = .ok (.iadd, 1) := by decide +kernel
theorem dX4_advance_131 : decode cX4_advance 131 = .ok (.putfield 19, 3) := by decide +kernel
theorem dX4_advance_134 : decode cX4_advance 134 = .ok (.goto (-36), 3) := by decide +kernel
theorem dX4_advance_137 : decode cX4_advance 137 = .ok (.aload_n 0, 1) := by decide +kernel
theorem dX4_advance_138 : decode cX4_advance 138 = .ok (.getfield 9, 3) := by decide +kernel
theorem dX4_advance_141 : decode cX4_advance 141 = .ok (.aload_n 0, 1) := by decide +kernel
theorem dX4_advance_142 : decode cX4_advance 142 = .ok (.getfield 96, 3) := by decide +kernel
theorem dX4_advance_145 : decode cX4_advance 145 = .ok (.iaload, 1) := by decide +kernel
theorem dX4_advance_146 : decode cX4_advance 146 = .ok (.invokestatic 113, 3) := by decide +kernel
theorem dX4_advance_149 : decode cX4_advance 149 = .ok (.ifCond .eq 77, 3) := by decide +kernel
theorem dX4_advance_152 : decode cX4_advance 152 = .ok (.aload_n 0, 1) := by decide +kernel
theorem dX4_advance_153 : decode cX4_advance 153 = .ok (.iconst 2, 1) := by decide +kernel
theorem dX4_advance_154 : decode cX4_advance 154 = .ok (.putfield 29, 3) := by decide +kernel
theorem dX4_advance_157 : decode cX4_advance 157 = .ok (.aload_n 0, 1) := by decide +kernel
theorem dX4_advance_158 : decode cX4_advance 158 = .ok (.getfield 19, 3) := by decide +kernel
theorem dX4_advance_161 : decode cX4_advance 161 = .ok (.aload_n 0, 1) := by decide +kernel
theorem dX4_advance_162 : decode cX4_advance 162 = .ok (.getfield 15, 3) := by decide +kernel
theorem dX4_advance_165 : decode cX4_advance 165 = .ok (.if_icmp .ge 94, 3) := by decide +kernel
theorem dX4_advance_168 : decode cX4_advance 168 = .ok (.aload_n 0, 1) := by decide +kernel
theorem dX4_advance_169 : decode cX4_advance 169 = .ok (.getfield 9, 3) := by decide +kernel
theorem dX4_advance_172 : decode cX4_advance 172 = .ok (.aload_n 0, 1) := by decide +kernel
theorem dX4_advance_173 : decode cX4_advance 173 = .ok (.getfield 19, 3) := by decide +kernel
theorem dX4_advance_176 : decode cX4_advance 176 = .ok (.iaload, 1) := by decide +kernel
theorem dX4_advance_177 : decode cX4_advance 177 = .ok (.invokestatic 113, 3) := by decide +kernel
theorem dX4_advance_180 : decode cX4_advance 180 = .ok (.ifCond .eq 79, 3) := by decide +kernel
theorem dX4_advance_183 : decode cX4_advance 183 = .ok (.aload_n 0, 1) := by decide +kernel
theorem dX4_advance_184 : decode cX4_advance 184 = .ok (.bipush 10, 2) := by decide +kernel
theorem dX4_advance_186 : decode cX4_advance 186 = .ok (.aload_n 0, 1) := by decide +kernel
theorem dX4_advance_187 : decode cX4_advance 187 = .ok (.getfield 86, 3) := by decide +kernel
theorem dX4_advance_190 : decode cX4_advance 190 = .ok (.imul, 1) := by decide +kernel
theorem dX4_advance_191 : decode cX4_advance 191 = .ok (.aload_n 0, 1) := by decide +kernel
theorem dX4_advance_192 : decode cX4_advance 192 = .ok (.getfield 9, 3) := by decide +kernel
theorem dX4_advance_195 : decode cX4_advance 195 = .ok (.aload_n 0, 1) := by decide +kernel
theorem dX4_advance_196 : decode cX4_advance 196 = .ok (.getfield 19, 3) := by decide +kernel
theorem dX4_advance_199 : decode cX4_advance 199 = .ok (.iaload, 1) := by decide +kernel
theorem dX4_advance_200 : decode cX4_advance 200 = .ok (.iadd, 1) := by decide +kernel
theorem dX4_advance_201 : decode cX4_advance 201 = .ok (.bipush 48, 2) := by decide +kernel
theorem dX4_advance_203 : decode cX4_advance 203 = .ok (.isub, 1) := by decide +kernel
theorem dX4_advance_204 : decode cX4_advance 204 = .ok (.sipush 1000, 3) := by decide +kernel
theorem dX4_advance_207 : decode cX4_advance 207 = .ok (.invokestatic 116, 3) := by decide +kernel
theorem dX4_advance_210 : decode cX4_advance 210 = .ok (.putfield 86, 3) := by decide +kernel
theorem dX4_advance_213 : decode cX4_advance 213 = .ok (.aload_n 0, 1) := by decide +kernel
theorem dX4_advance_214 : decode cX4_advance 214 = .ok (.dup, 1) := by decide +kernel
theorem dX4_advance_215 : decode cX4_advance 215 = .ok (.getfield 19, 3) := by decide +kernel
theorem dX4_advance_218 : decode cX4_advance 218 = .ok (.iconst 1, 1) := by decide +kernel
theorem dX4_advance_219 : decode cX4_advance 219 = .ok (.iadd, 1) := by decide +kernel
theorem dX4_advance_220 : decode cX4_advance 220 = .ok (.putfield 19, 3) := by decide +kernel
theorem dX4_advance_223 : decode cX4_advance 223 = .ok (.goto (-66), 3) := by decide +kernel
theorem dX4_advance_226 : decode cX4_advance 226 = .ok (.aload_n 0, 1) := by decide +kernel
theorem dX4_advance_227 : decode cX4_advance 227 = .ok (.aload_n 0, 1) := by decide +kernel
theorem dX4_advance_228 : decode cX4_advance 228 = .ok (.getfield 9, 3) := by decide +kernel
theorem dX4_advance_231 : decode cX4_advance 231 = .ok (.aload_n 0, 1) := by decide +kernel
theorem dX4_advance_232 : decode cX4_advance 232 = .ok (.getfield 96, 3) := by decide +kernel
theorem dX4_advance_235 : decode cX4_advance 235 = .ok (.iaload, 1) := by decide +kernel
theorem dX4_advance_236 : decode cX4_advance 236 = .ok (.bipush 59, 2) := by decide +kernel
theorem dX4_advance_238 : decode cX4_advance 238 = .ok (.if_icmp .ne 7, 3) := by decide +kernel
theorem dX4_advance_241 : decode cX4_advance 241 = .ok (.iconst 3, 1) := by decide +kernel
theorem dX4_advance_242 : decode cX4_advance 242 = .ok (.goto 4, 3) := by decide +kernel
theorem dX4_advance_245 : decode cX4_advance 245 = .ok (.iconst 4, 1) := by decide +kernel
theorem dX4_advance_246 : decode cX4_advance 246 = .ok (.putfield 29, 3) := by decide +kernel
theorem dX4_advance_249 : decode cX4_advance 249 = .ok (.aload_n 0, 1) := by decide +kernel
theorem dX4_advance_250 : decode cX4_advance 250 = .ok (.aload_n 0, 1) := by decide +kernel
theorem dX4_advance_251 : decode cX4_advance 251 = .ok (.getfield 96, 3) := by decide +kernel
theorem dX4_advance_254 : decode cX4_advance 254 = .ok (.iconst 1, 1) := by decide +kernel
theorem dX4_advance_255 : decode cX4_advance 255 = .ok (.iadd, 1) := by decide +kernel
theorem dX4_advance_256 : decode cX4_advance 256 = .ok (.putfield 19, 3) := by decide +kernel
theorem dX4_advance_259 : decode cX4_advance 259 = .ok (.return_, 1) := by decide +kernel
theorem dX4_isLetter_0 : decode cX4_isLetter 0 = .ok (.iload_n 0, 1) := by decide +kernel
theorem dX4_isLetter_1 : decode cX4_isLetter 1 = .ok (.bipush 97, 2) := by decide +kernel
theorem dX4_isLetter_3 : decode cX4_isLetter 3 = .ok (.if_icmp .lt 13, 3) := by decide +kernel
theorem dX4_isLetter_6 : decode cX4_isLetter 6 = .ok (.iload_n 0, 1) := by decide +kernel
theorem dX4_isLetter_7 : decode cX4_isLetter 7 = .ok (.bipush 122, 2) := by decide +kernel
theorem dX4_isLetter_9 : decode cX4_isLetter 9 = .ok (.if_icmp .gt 7, 3) := by decide +kernel
theorem dX4_isLetter_12 : decode cX4_isLetter 12 = .ok (.iconst 1, 1) := by decide +kernel
theorem dX4_isLetter_13 : decode cX4_isLetter 13 = .ok (.goto 4, 3) := by decide +kernel
theorem dX4_isLetter_16 : decode cX4_isLetter 16 = .ok (.iconst 0, 1) := by decide +kernel
theorem dX4_isLetter_17 : decode cX4_isLetter 17 = .ok (.ireturn, 1) := by decide +kernel
theorem dX4_isDigit_0 : decode cX4_isDigit 0 = .ok (.iload_n 0, 1) := by decide +kernel
theorem dX4_isDigit_1 : decode cX4_isDigit 1 = .ok (.bipush 48, 2) := by decide +kernel
theorem dX4_isDigit_3 : decode cX4_isDigit 3 = .ok (.if_icmp .lt 13, 3) := by decide +kernel
theorem dX4_isDigit_6 : decode cX4_isDigit 6 = .ok (.iload_n 0, 1) := by decide +kernel
theorem dX4_isDigit_7 : decode cX4_isDigit 7 = .ok (.bipush 57, 2) := by decide +kernel
theorem dX4_isDigit_9 : decode cX4_isDigit 9 = .ok (.if_icmp .gt 7, 3) := by decide +kernel
theorem dX4_isDigit_12 : decode cX4_isDigit 12 = .ok (.iconst 1, 1) := by decide +kernel
theorem dX4_isDigit_13 : decode cX4_isDigit 13 = .ok (.goto 4, 3) := by decide +kernel
theorem dX4_isDigit_16 : decode cX4_isDigit 16 = .ok (.iconst 0, 1) := by decide +kernel
theorem dX4_isDigit_17 : decode cX4_isDigit 17 = .ok (.ireturn, 1) := by decide +kernel
theorem dX4_nameOfKind_0 : decode cX4_nameOfKind 0 = .ok (.iload_n 0, 1) := by decide +kernel
theorem dX4_nameOfKind_1 : decode cX4_nameOfKind 1 = .ok (.tableswitch 50 1 5 #[35, 38, 41, 44, 47], 35) := by decide +kernel
theorem dX4_nameOfKind_36 : decode cX4_nameOfKind 36 = .ok (.ldc 122, 2) := by decide +kernel
theorem dX4_nameOfKind_38 : decode cX4_nameOfKind 38 = .ok (.areturn, 1) := by decide +kernel
theorem dX4_nameOfKind_39 : decode cX4_nameOfKind 39 = .ok (.ldc 124, 2) := by decide +kernel
theorem dX4_nameOfKind_41 : decode cX4_nameOfKind 41 = .ok (.areturn, 1) := by decide +kernel
theorem dX4_nameOfKind_42 : decode cX4_nameOfKind 42 = .ok (.ldc 126, 2) := by decide +kernel
theorem dX4_nameOfKind_44 : decode cX4_nameOfKind 44 = .ok (.areturn, 1) := by decide +kernel
theorem dX4_nameOfKind_45 : decode cX4_nameOfKind 45 = .ok (.ldc 128, 2) := by decide +kernel
theorem dX4_nameOfKind_47 : decode cX4_nameOfKind 47 = .ok (.areturn, 1) := by decide +kernel
theorem dX4_nameOfKind_48 : decode cX4_nameOfKind 48 = .ok (.ldc 130, 2) := by decide +kernel
theorem dX4_nameOfKind_50 : decode cX4_nameOfKind 50 = .ok (.areturn, 1) := by decide +kernel
theorem dX4_nameOfKind_51 : decode cX4_nameOfKind 51 = .ok (.ldc 132, 2) := by decide +kernel
theorem dX4_nameOfKind_53 : decode cX4_nameOfKind 53 = .ok (.areturn, 1) := by decide +kernel
theorem dJ6_bitCount_0f7a4_0 : decode cJ6_bitCount_0f7a4 0 = .ok (.iload_n 0, 1) := by decide +kernel
theorem dJ6_bitCount_0f7a4_1 : decode cJ6_bitCount_0f7a4 1 = .ok (.iload_n 0, 1) := by decide +kernel
theorem dJ6_bitCount_0f7a4_2 : decode cJ6_bitCount_0f7a4 2 = .ok (.iconst 1, 1) := by decide +kernel
theorem dJ6_bitCount_0f7a4_3 : decode cJ6_bitCount_0f7a4 3 = .ok (.iushr, 1) := by decide +kernel
theorem dJ6_bitCount_0f7a4_4 : decode cJ6_bitCount_0f7a4 4 = .ok (.ldc_w 265, 3) := by decide +kernel
theorem dJ6_bitCount_0f7a4_7 : decode cJ6_bitCount_0f7a4 7 = .ok (.iand, 1) := by decide +kernel
theorem dJ6_bitCount_0f7a4_8 : decode cJ6_bitCount_0f7a4 8 = .ok (.isub, 1) := by decide +kernel
theorem dJ6_bitCount_0f7a4_9 : decode cJ6_bitCount_0f7a4 9 = .ok (.istore_n 0, 1) := by decide +kernel
theorem dJ6_bitCount_0f7a4_10 : decode cJ6_bitCount_0f7a4 10 = .ok (.iload_n 0, 1) := by decide +kernel
theorem dJ6_bitCount_0f7a4_11 : decode cJ6_bitCount_0f7a4 11 = .ok (.ldc_w 266, 3) := by decide +kernel
theorem dJ6_bitCount_0f7a4_14 : decode cJ6_bitCount_0f7a4 14 = .ok (.iand, 1) := by decide +kernel
theorem dJ6_bitCount_0f7a4_15 : decode cJ6_bitCount_0f7a4 15 = .ok (.iload_n 0, 1) := by decide +kernel
theorem dJ6_bitCount_0f7a4_16 : decode cJ6_bitCount_0f7a4 16 = .ok (.iconst 2, 1) := by decide +kernel
theorem dJ6_bitCount_0f7a4_17 : decode cJ6_bitCount_0f7a4 17 = .ok (.iushr, 1) := by decide +kernel
theorem dJ6_bitCount_0f7a4_18 : decode cJ6_bitCount_0f7a4 18 = .ok (.ldc_w 266, 3) := by decide +kernel
theorem dJ6_bitCount_0f7a4_21 : decode cJ6_bitCount_0f7a4 21 = .ok (.iand, 1) := by decide +kernel
theorem dJ6_bitCount_0f7a4_22 : decode cJ6_bitCount_0f7a4 22 = .ok (.iadd, 1) := by decide +kernel
theorem dJ6_bitCount_0f7a4_23 : decode cJ6_bitCount_0f7a4 23 = .ok (.istore_n 0, 1) := by decide +kernel
theorem dJ6_bitCount_0f7a4_24 : decode cJ6_bitCount_0f7a4 24 = .ok (.iload_n 0, 1) := by decide +kernel
theorem dJ6_bitCount_0f7a4_25 : decode cJ6_bitCount_0f7a4 25 = .ok (.iload_n 0, 1) := by decide +kernel
theorem dJ6_bitCount_0f7a4_26 : decode cJ6_bitCount_0f7a4 26 = .ok (.iconst 4, 1) := by decide +kernel
theorem dJ6_bitCount_0f7a4_27 : decode cJ6_bitCount_0f7a4 27 = .ok (.iushr, 1) := by decide +kernel
theorem dJ6_bitCount_0f7a4_28 : decode cJ6_bitCount_0f7a4 28 = .ok (.iadd, 1) := by decide +kernel
theorem dJ6_bitCount_0f7a4_29 : decode cJ6_bitCount_0f7a4 29 = .ok (.ldc_w 267, 3) := by decide +kernel
theorem dJ6_bitCount_0f7a4_32 : decode cJ6_bitCount_0f7a4 32 = .ok (.iand, 1) := by decide +kernel
theorem dJ6_bitCount_0f7a4_33 : decode cJ6_bitCount_0f7a4 33 = .ok (.istore_n 0, 1) := by decide +kernel
theorem dJ6_bitCount_0f7a4_34 : decode cJ6_bitCount_0f7a4 34 = .ok (.iload_n 0, 1) := by decide +kernel
theorem dJ6_bitCount_0f7a4_35 : decode cJ6_bitCount_0f7a4 35 = .ok (.iload_n 0, 1) := by decide +kernel
theorem dJ6_bitCount_0f7a4_36 : decode cJ6_bitCount_0f7a4 36 = .ok (.bipush 8, 2) := by decide +kernel
theorem dJ6_bitCount_0f7a4_38 : decode cJ6_bitCount_0f7a4 38 = .ok (.iushr, 1) := by decide +kernel
theorem dJ6_bitCount_0f7a4_39 : decode cJ6_bitCount_0f7a4 39 = .ok (.iadd, 1) := by decide +kernel
theorem dJ6_bitCount_0f7a4_40 : decode cJ6_bitCount_0f7a4 40 = .ok (.istore_n 0, 1) := by decide +kernel
theorem dJ6_bitCount_0f7a4_41 : decode cJ6_bitCount_0f7a4 41 = .ok (.iload_n 0, 1) := by decide +kernel
theorem dJ6_bitCount_0f7a4_42 : decode cJ6_bitCount_0f7a4 42 = .ok (.iload_n 0, 1) := by decide +kernel
theorem dJ6_bitCount_0f7a4_43 : decode cJ6_bitCount_0f7a4 43 = .ok (.bipush 16, 2) := by decide +kernel
theorem dJ6_bitCount_0f7a4_45 : decode cJ6_bitCount_0f7a4 45 = .ok (.iushr, 1) := by decide +kernel
theorem dJ6_bitCount_0f7a4_46 : decode cJ6_bitCount_0f7a4 46 = .ok (.iadd, 1) := by decide +kernel
theorem dJ6_bitCount_0f7a4_47 : decode cJ6_bitCount_0f7a4 47 = .ok (.istore_n 0, 1) := by decide +kernel
theorem dJ6_bitCount_0f7a4_48 : decode cJ6_bitCount_0f7a4 48 = .ok (.iload_n 0, 1) := by decide +kernel
theorem dJ6_bitCount_0f7a4_49 : decode cJ6_bitCount_0f7a4 49 = .ok (.bipush 63, 2) := by decide +kernel
theorem dJ6_bitCount_0f7a4_51 : decode cJ6_bitCount_0f7a4 51 = .ok (.iand, 1) := by decide +kernel
theorem dJ6_bitCount_0f7a4_52 : decode cJ6_bitCount_0f7a4 52 = .ok (.ireturn, 1) := by decide +kernel
theorem dJ9_max_7cf53_0 : decode cJ9_max_7cf53 0 = .ok (.iload_n 0, 1) := by decide +kernel
theorem dJ9_max_7cf53_1 : decode cJ9_max_7cf53 1 = .ok (.iload_n 1, 1) := by decide +kernel
theorem dJ9_max_7cf53_2 : decode cJ9_max_7cf53 2 = .ok (.if_icmp .lt 7, 3) := by decide +kernel
theorem dJ9_max_7cf53_5 : decode cJ9_max_7cf53 5 = .ok (.iload_n 0, 1) := by decide +kernel
theorem dJ9_max_7cf53_6 : decode cJ9_max_7cf53 6 = .ok (.goto 4, 3) := by decide +kernel
theorem dJ9_max_7cf53_9 : decode cJ9_max_7cf53 9 = .ok (.iload_n 1, 1) := by decide +kernel
theorem dJ9_max_7cf53_10 : decode cJ9_max_7cf53 10 = .ok (.ireturn, 1) := by decide +kernel
theorem dJ9_min_7cf53_0 : decode cJ9_min_7cf53 0 = .ok (.iload_n 0, 1) := by decide +kernel
theorem dJ9_min_7cf53_1 : decode cJ9_min_7cf53 1 = .ok (.iload_n 1, 1) := by decide +kernel
theorem dJ9_min_7cf53_2 : decode cJ9_min_7cf53 2 = .ok (.if_icmp .gt 7, 3) := by decide +kernel
theorem dJ9_min_7cf53_5 : decode cJ9_min_7cf53 5 = .ok (.iload_n 0, 1) := by decide +kernel
theorem dJ9_min_7cf53_6 : decode cJ9_min_7cf53 6 = .ok (.goto 4, 3) := by decide +kernel
theorem dJ9_min_7cf53_9 : decode cJ9_min_7cf53 9 = .ok (.iload_n 1, 1) := by decide +kernel
theorem dJ9_min_7cf53_10 : decode cJ9_min_7cf53 10 = .ok (.ireturn, 1) := by decide +kernel
theorem dJ0_length_8abf5_0 : decode cJ0_length_8abf5 0 = .ok (.aload_n 0, 1) := by decide +kernel
theorem dJ0_length_8abf5_1 : decode cJ0_length_8abf5 1 = .ok (.getfield 9, 3) := by decide +kernel
theorem dJ0_length_8abf5_4 : decode cJ0_length_8abf5 4 = .ok (.arraylength, 1) := by decide +kernel
theorem dJ0_length_8abf5_5 : decode cJ0_length_8abf5 5 = .ok (.aload_n 0, 1) := by decide +kernel
theorem dJ0_length_8abf5_6 : decode cJ0_length_8abf5 6 = .ok (.invokevirtual 335, 3) := by decide +kernel
theorem dJ0_length_8abf5_9 : decode cJ0_length_8abf5 9 = .ok (.ishr, 1) := by decide +kernel
theorem dJ0_length_8abf5_10 : decode cJ0_length_8abf5 10 = .ok (.ireturn, 1) := by decide +kernel
theorem dJ0_charAt_5068e_0 : decode cJ0_charAt_5068e 0 = .ok (.aload_n 0, 1) := by decide +kernel
theorem dJ0_charAt_5068e_1 : decode cJ0_charAt_5068e 1 = .ok (.invokevirtual 492, 3) := by decide +kernel
theorem dJ0_charAt_5068e_4 : decode cJ0_charAt_5068e 4 = .ok (.ifCond .eq 12, 3) := by decide +kernel
theorem dJ0_charAt_5068e_7 : decode cJ0_charAt_5068e 7 = .ok (.aload_n 0, 1) := by decide +kernel
theorem dJ0_charAt_5068e_8 : decode cJ0_charAt_5068e 8 = .ok (.getfield 9, 3) := by decide +kernel
theorem dJ0_charAt_5068e_11 : decode cJ0_charAt_5068e 11 = .ok (.iload_n 1, 1) := by decide +kernel
theorem dJ0_charAt_5068e_12 : decode cJ0_charAt_5068e 12 = .ok (.invokestatic 495, 3) := by decide +kernel
theorem dJ0_charAt_5068e_15 : decode cJ0_charAt_5068e 15 = .ok (.ireturn, 1) := by decide +kernel
theorem dJ0_charAt_5068e_16 : decode cJ0_charAt_5068e 16 = .ok (.aload_n 0, 1) := by decide +kernel
theorem dJ0_charAt_5068e_17 : decode cJ0_charAt_5068e 17 = .ok (.getfield 9, 3) := by decide +kernel
theorem dJ0_charAt_5068e_20 : decode cJ0_charAt_5068e 20 = .ok (.iload_n 1, 1) := by decide +kernel
theorem dJ0_charAt_5068e_21 : decode cJ0_charAt_5068e 21 = .ok (.invokestatic 498, 3) := by decide +kernel
theorem dJ0_charAt_5068e_24 : decode cJ0_charAt_5068e 24 = .ok (.ireturn, 1) := by decide +kernel
theorem dJ0_coder_7d493_0 : decode cJ0_coder_7d493 0 = .ok (.getstatic 38, 3) := by decide +kernel
theorem dJ0_coder_7d493_3 : decode cJ0_coder_7d493 3 = .ok (.ifCond .eq 10, 3) := by decide +kernel
theorem dJ0_coder_7d493_6 : decode cJ0_coder_7d493 6 = .ok (.aload_n 0, 1) := by decide +kernel
theorem dJ0_coder_7d493_7 : decode cJ0_coder_7d493 7 = .ok (.getfield 15, 3) := by decide +kernel
theorem dJ0_coder_7d493_10 : decode cJ0_coder_7d493 10 = .ok (.goto 4, 3) := by decide +kernel
theorem dJ0_coder_7d493_13 : decode cJ0_coder_7d493 13 = .ok (.iconst 1, 1) := by decide +kernel
theorem dJ0_coder_7d493_14 : decode cJ0_coder_7d493 14 = .ok (.ireturn, 1) := by decide +kernel
theorem dJ0_isLatin1_aae02_0 : decode cJ0_isLatin1_aae02 0 = .ok (.getstatic 38, 3) := by decide +kernel
theorem dJ0_isLatin1_aae02_3 : decode cJ0_isLatin1_aae02 3 = .ok (.ifCond .eq 14, 3) := by decide +kernel
theorem dJ0_isLatin1_aae02_6 : decode cJ0_isLatin1_aae02 6 = .ok (.aload_n 0, 1) := by decide +kernel
theorem dJ0_isLatin1_aae02_7 : decode cJ0_isLatin1_aae02 7 = .ok (.getfield 15, 3) := by decide +kernel
theorem dJ0_isLatin1_aae02_10 : decode cJ0_isLatin1_aae02 10 = .ok (.ifCond .ne 7, 3) := by decide +kernel
theorem dJ0_isLatin1_aae02_13 : decode cJ0_isLatin1_aae02 13 = .ok (.iconst 1, 1) := by decide +kernel
theorem dJ0_isLatin1_aae02_14 : decode cJ0_isLatin1_aae02 14 = .ok (.goto 4, 3) := by decide +kernel
theorem dJ0_isLatin1_aae02_17 : decode cJ0_isLatin1_aae02 17 = .ok (.iconst 0, 1) := by decide +kernel
theorem dJ0_isLatin1_aae02_18 : decode cJ0_isLatin1_aae02 18 = .ok (.ireturn, 1) := by decide +kernel
theorem dJ0_checkIndex_df160_0 : decode cJ0_checkIndex_df160 0 = .ok (.iload_n 0, 1) := by decide +kernel
theorem dJ0_checkIndex_df160_1 : decode cJ0_checkIndex_df160 1 = .ok (.iload_n 1, 1) := by decide +kernel
theorem dJ0_checkIndex_df160_2 : decode cJ0_checkIndex_df160 2 = .ok (.getstatic 1053, 3) := by decide +kernel
theorem dJ0_checkIndex_df160_5 : decode cJ0_checkIndex_df160 5 = .ok (.invokestatic 1059, 3) := by decide +kernel
theorem dJ0_checkIndex_df160_8 : decode cJ0_checkIndex_df160 8 = .ok (.pop, 1) := by decide +kernel
theorem dJ0_checkIndex_df160_9 : decode cJ0_checkIndex_df160 9 = .ok (.return_, 1) := by decide +kernel
theorem dJ1_charAt_3b067_0 : decode cJ1_charAt_3b067 0 = .ok (.iload_n 1, 1) := by decide +kernel
theorem dJ1_charAt_3b067_1 : decode cJ1_charAt_3b067 1 = .ok (.aload_n 0, 1) := by decide +kernel
theorem dJ1_charAt_3b067_2 : decode cJ1_charAt_3b067 2 = .ok (.arraylength, 1) := by decide +kernel
theorem dJ1_charAt_3b067_3 : decode cJ1_charAt_3b067 3 = .ok (.invokestatic 9, 3) := by decide +kernel
theorem dJ1_charAt_3b067_6 : decode cJ1_charAt_3b067 6 = .ok (.aload_n 0, 1) := by decide +kernel
theorem dJ1_charAt_3b067_7 : decode cJ1_charAt_3b067 7 = .ok (.iload_n 1, 1) := by decide +kernel
theorem dJ1_charAt_3b067_8 : decode cJ1_charAt_3b067 8 = .ok (.baload, 1) := by decide +kernel
theorem dJ1_charAt_3b067_9 : decode cJ1_charAt_3b067 9 = .ok (.sipush 255, 3) := by decide +kernel
theorem dJ1_charAt_3b067_12 : decode cJ1_charAt_3b067 12 = .ok (.iand, 1) := by decide +kernel
theorem dJ1_charAt_3b067_13 : decode cJ1_charAt_3b067 13 = .ok (.i2c, 1) := by decide +kernel
theorem dJ1_charAt_3b067_14 : decode cJ1_charAt_3b067 14 = .ok (.ireturn, 1) := by decide +kernel
theorem dJ2_getChar_3b067_0 : decode cJ2_getChar_3b067 0 = .ok (.getstatic 44, 3) := by decide +kernel
theorem dJ2_getChar_3b067_3 : decode cJ2_getChar_3b067 3 = .ok (.ifCond .ne 25, 3) := by decide +kernel
theorem dJ2_getChar_3b067_6 : decode cJ2_getChar_3b067 6 = .ok (.iload_n 1, 1) := by decide +kernel
theorem dJ2_getChar_3b067_7 : decode cJ2_getChar_3b067 7 = .ok (.ifCond .lt 11, 3) := by decide +kernel
theorem dJ2_getChar_3b067_10 : decode cJ2_getChar_3b067 10 = .ok (.iload_n 1, 1) := by decide +kernel
theorem dJ2_getChar_3b067_11 : decode cJ2_getChar_3b067 11 = .ok (.aload_n 0, 1) := by decide +kernel
theorem dJ2_getChar_3b067_12 : decode cJ2_getChar_3b067 12 = .ok (.invokestatic 48, 3) := by decide +kernel
theorem dJ2_getChar_3b067_15 : decode cJ2_getChar_3b067 15 = .ok (.if_icmp .lt 13, 3) := by decide +kernel
theorem dJ2_getChar_3b067_18 : decode cJ2_getChar_3b067 18 = .ok (.new 52, 3) := by decide +kernel
theorem dJ2_getChar_3b067_21 : decode cJ2_getChar_3b067 21 = .ok (.dup, 1) := by decide +kernel
theorem dJ2_getChar_3b067_22 : decode cJ2_getChar_3b067 22 = .ok (.ldc 54, 2) := by decide +kernel
theorem dJ2_getChar_3b067_24 : decode cJ2_getChar_3b067 24 = .ok (.invokespecial 56, 3) := by decide +kernel
theorem dJ2_getChar_3b067_27 : decode cJ2_getChar_3b067 27 = .ok (.athrow, 1) := by decide +kernel
theorem dJ2_getChar_3b067_28 : decode cJ2_getChar_3b067 28 = .ok (.iload_n 1, 1) := by decide +kernel
theorem dJ2_getChar_3b067_29 : decode cJ2_getChar_3b067 29 = .ok (.iconst 1, 1) := by decide +kernel
theorem dJ2_getChar_3b067_30 : decode cJ2_getChar_3b067 30 = .ok (.ishl, 1) := by decide +kernel
theorem dJ2_getChar_3b067_31 : decode cJ2_getChar_3b067 31 = .ok (.istore_n 1, 1) := by decide +kernel
theorem dJ2_getChar_3b067_32 : decode cJ2_getChar_3b067 32 = .ok (.aload_n 0, 1) := by decide +kernel
theorem dJ2_getChar_3b067_33 : decode cJ2_getChar_3b067 33 = .ok (.iload_n 1, 1) := by decide +kernel
theorem dJ2_getChar_3b067_34 : decode cJ2_getChar_3b067 34 = .ok (.iinc 1 1, 3) := by decide +kernel
theorem dJ2_getChar_3b067_37 : decode cJ2_getChar_3b067 37 = .ok (.baload, 1) := by decide +kernel
theorem dJ2_getChar_3b067_38 : decode cJ2_getChar_3b067 38 = .ok (.sipush 255, 3) := by decide +kernel
theorem dJ2_getChar_3b067_41 : decode cJ2_getChar_3b067 41 = .ok (.iand, 1) := by decide +kernel
theorem dJ2_getChar_3b067_42 : decode cJ2_getChar_3b067 42 = .ok (.getstatic 59, 3) := by decide +kernel
theorem dJ2_getChar_3b067_45 : decode cJ2_getChar_3b067 45 = .ok (.ishl, 1) := by decide +kernel
theorem dJ2_getChar_3b067_46 : decode cJ2_getChar_3b067 46 = .ok (.aload_n 0, 1) := by decide +kernel
theorem dJ2_getChar_3b067_47 : decode cJ2_getChar_3b067 47 = .ok (.iload_n 1, 1) := by decide +kernel
theorem dJ2_getChar_3b067_48 : decode cJ2_getChar_3b067 48 = .ok (.baload, 1) := by decide +kernel
theorem dJ2_getChar_3b067_49 : decode cJ2_getChar_3b067 49 = .ok (.sipush 255, 3) := by decide +kernel
theorem dJ2_getChar_3b067_52 : decode cJ2_getChar_3b067 52 = .ok (.iand, 1) := by decide +kernel
theorem dJ2_getChar_3b067_53 : decode cJ2_getChar_3b067 53 = .ok (.getstatic 63, 3) := by decide +kernel
theorem dJ2_getChar_3b067_56 : decode cJ2_getChar_3b067 56 = .ok (.ishl, 1) := by decide +kernel
theorem dJ2_getChar_3b067_57 : decode cJ2_getChar_3b067 57 = .ok (.ior, 1) := by decide +kernel
theorem dJ2_getChar_3b067_58 : decode cJ2_getChar_3b067 58 = .ok (.i2c, 1) := by decide +kernel
theorem dJ2_getChar_3b067_59 : decode cJ2_getChar_3b067 59 = .ok (.ireturn, 1) := by decide +kernel
theorem dJ2_length_9d52b_0 : decode cJ2_length_9d52b 0 = .ok (.aload_n 0, 1) := by decide +kernel
theorem dJ2_length_9d52b_1 : decode cJ2_length_9d52b 1 = .ok (.arraylength, 1) := by decide +kernel
theorem dJ2_length_9d52b_2 : decode cJ2_length_9d52b 2 = .ok (.iconst 1, 1) := by decide +kernel
theorem dJ2_length_9d52b_3 : decode cJ2_length_9d52b 3 = .ok (.ishr, 1) := by decide +kernel
theorem dJ2_length_9d52b_4 : decode cJ2_length_9d52b 4 = .ok (.ireturn, 1) := by decide +kernel
theorem dJ2_charAt_3b067_0 : decode cJ2_charAt_3b067 0 = .ok (.iload_n 1, 1) := by decide +kernel
theorem dJ2_charAt_3b067_1 : decode cJ2_charAt_3b067 1 = .ok (.aload_n 0, 1) := by decide +kernel
theorem dJ2_charAt_3b067_2 : decode cJ2_charAt_3b067 2 = .ok (.invokestatic 67, 3) := by decide +kernel
theorem dJ2_charAt_3b067_5 : decode cJ2_charAt_3b067 5 = .ok (.aload_n 0, 1) := by decide +kernel
theorem dJ2_charAt_3b067_6 : decode cJ2_charAt_3b067 6 = .ok (.iload_n 1, 1) := by decide +kernel
theorem dJ2_charAt_3b067_7 : decode cJ2_charAt_3b067 7 = .ok (.invokestatic 71, 3) := by decide +kernel
theorem dJ2_charAt_3b067_10 : decode cJ2_charAt_3b067 10 = .ok (.ireturn, 1) := by decide +kernel
theorem dJ2_checkIndex_2214a_0 : decode cJ2_checkIndex_2214a 0 = .ok (.iload_n 0, 1) := by decide +kernel
theorem dJ2_checkIndex_2214a_1 : decode cJ2_checkIndex_2214a 1 = .ok (.aload_n 1, 1) := by decide +kernel
theorem dJ2_checkIndex_2214a_2 : decode cJ2_checkIndex_2214a 2 = .ok (.invokestatic 48, 3) := by decide +kernel
theorem dJ2_checkIndex_2214a_5 : decode cJ2_checkIndex_2214a 5 = .ok (.invokestatic 414, 3) := by decide +kernel
theorem dJ2_checkIndex_2214a_8 : decode cJ2_checkIndex_2214a 8 = .ok (.return_, 1) := by decide +kernel
theorem dJ3_checkIndex_8e157_0 : decode cJ3_checkIndex_8e157 0 = .ok (.iload_n 0, 1) := by decide +kernel
theorem dJ3_checkIndex_8e157_1 : decode cJ3_checkIndex_8e157 1 = .ok (.ifCond .lt 8, 3) := by decide +kernel
theorem dJ3_checkIndex_8e157_4 : decode cJ3_checkIndex_8e157 4 = .ok (.iload_n 0, 1) := by decide +kernel
theorem dJ3_checkIndex_8e157_5 : decode cJ3_checkIndex_8e157 5 = .ok (.iload_n 1, 1) := by decide +kernel
theorem dJ3_checkIndex_8e157_6 : decode cJ3_checkIndex_8e157 6 = .ok (.if_icmp .lt 10, 3) := by decide +kernel
theorem dJ3_checkIndex_8e157_9 : decode cJ3_checkIndex_8e157 9 = .ok (.aload_n 2, 1) := by decide +kernel
theorem dJ3_checkIndex_8e157_10 : decode cJ3_checkIndex_8e157 10 = .ok (.iload_n 0, 1) := by decide +kernel
theorem dJ3_checkIndex_8e157_11 : decode cJ3_checkIndex_8e157 11 = .ok (.iload_n 1, 1) := by decide +kernel
theorem dJ3_checkIndex_8e157_12 : decode cJ3_checkIndex_8e157 12 = .ok (.invokestatic 95, 3) := by decide +kernel
theorem dJ3_checkIndex_8e157_15 : decode cJ3_checkIndex_8e157 15 = .ok (.athrow, 1) := by decide +kernel
theorem dJ3_checkIndex_8e157_16 : decode cJ3_checkIndex_8e157 16 = .ok (.iload_n 0, 1) := by decide +kernel
theorem dJ3_checkIndex_8e157_17 : decode cJ3_checkIndex_8e157 17 = .ok (.ireturn, 1) := by decide +kernel
end
section
theorem dX5_init_0 : decode cX5_init 0 = .ok (.aload_n 0, 1) := by decide +kernel
theorem dX5_init_1 : decode cX5_init 1 = .ok (.invokespecial 1, 3) := by decide +kernel
theorem dX5_init_4 : decode cX5_init 4 = .ok (.aload_n 0, 1) := by decide +kernel
theorem dX5_init_5 : decode cX5_init 5 = .ok (.new 7, 3) := by decide +kernel
theorem dX5_init_8 : decode cX5_init 8 = .ok (.dup, 1) := by decide +kernel
theorem dX5_init_9 : decode cX5_init 9 = .ok (.invokespecial 9, 3) := by decide +kernel
theorem dX5_init_12 : decode cX5_init 12 = .ok (.putfield 10, 3) := by decide +kernel
theorem dX5_init_15 : decode cX5_init 15 = .ok (.aload_n 0, 1) := by decide +kernel
theorem dX5_init_16 : decode cX5_init 16 = .ok (.new 7, 3) := by decide +kernel
theorem dX5_init_19 : decode cX5_init 19 = .ok (.dup, 1) := by decide +kernel
theorem dX5_init_20 : decode cX5_init 20 = .ok (.invokespecial 9, 3) := by decide +kernel
theorem dX5_init_23 : decode cX5_init 23 = .ok (.putfield 16, 3) := by decide +kernel
theorem dX5_init_26 : decode cX5_init 26 = .ok (.aload_n 0, 1) := by decide +kernel
theorem dX5_init_27 : decode cX5_init 27 = .ok (.new 7, 3) := by decide +kernel
theorem dX5_init_30 : decode cX5_init 30 = .ok (.dup, 1) := by decide +kernel
theorem dX5_init_31 : decode cX5_init 31 = .ok (.invokespecial 9, 3) := by decide +kernel
theorem dX5_init_34 : decode cX5_init 34 = .ok (.putfield 19, 3) := by decide +kernel
theorem dX5_init_37 : decode cX5_init 37 = .ok (.aload_n 0, 1) := by decide +kernel
theorem dX5_init_38 : decode cX5_init 38 = .ok (.new 22, 3) := by decide +kernel
theorem dX5_init_41 : decode cX5_init 41 = .ok (.dup, 1) := by decide +kernel
theorem dX5_init_42 : decode cX5_init 42 = .ok (.invokespecial 24, 3) := by decide +kernel
theorem dX5_init_45 : decode cX5_init 45 = .ok (.putfield 25, 3) := by decide +kernel
theorem dX5_init_48 : decode cX5_init 48 = .ok (.aload_n 0, 1) := by decide +kernel
theorem dX5_init_49 : decode cX5_init 49 = .ok (.new 29, 3) := by decide +kernel
theorem dX5_init_52 : decode cX5_init 52 = .ok (.dup, 1) := by decide +kernel
theorem dX5_init_53 : decode cX5_init 53 = .ok (.invokespecial 31, 3) := by decide +kernel
theorem dX5_init_56 : decode cX5_init 56 = .ok (.putfield 32, 3) := by decide +kernel
theorem dX5_init_59 : decode cX5_init 59 = .ok (.aload_n 0, 1) := by decide +kernel
theorem dX5_init_60 : decode cX5_init 60 = .ok (.new 36, 3) := by decide +kernel
theorem dX5_init_63 : decode cX5_init 63 = .ok (.dup, 1) := by decide +kernel
theorem dX5_init_64 : decode cX5_init 64 = .ok (.invokespecial 38, 3) := by decide +kernel
theorem dX5_init_67 : decode cX5_init 67 = .ok (.putfield 39, 3) := by decide +kernel
theorem dX5_init_70 : decode cX5_init 70 = .ok (.aload_n 0, 1) := by decide +kernel
theorem dX5_init_71 : decode cX5_init 71 = .ok (.iconst 4, 1) := by decide +kernel
theorem dX5_init_72 : decode cX5_init 72 = .ok (.anewarray 43, 3) := by decide +kernel
theorem dX5_init_75 : decode cX5_init 75 = .ok (.putfield 45, 3) := by decide +kernel
theorem dX5_init_78 : decode cX5_init 78 = .ok (.aload_n 0, 1) := by decide +kernel
theorem dX5_init_79 : decode cX5_init 79 = .ok (.bipush 7, 2) := by decide +kernel
theorem dX5_init_81 : decode cX5_init 81 = .ok (.newarray .int, 2) := by decide +kernel
theorem dX5_init_83 : decode cX5_init 83 = .ok (.putfield 49, 3) := by decide +kernel
theorem dX5_init_86 : decode cX5_init 86 = .ok (.iconst 0, 1) := by decide +kernel
theorem dX5_init_87 : decode cX5_init 87 = .ok (.istore_n 1, 1) := by decide +kernel
theorem dX5_init_88 : decode cX5_init 88 = .ok (.iload_n 1, 1) := by decide +kernel
theorem dX5_init_89 : decode cX5_init 89 = .ok (.iconst 4, 1) := by decide +kernel
theorem dX5_init_90 : decode cX5_init 90 = .ok (.if_icmp .ge 22, 3) := by decide +kernel
theorem dX5_init_93 : decode cX5_init 93 = .ok (.aload_n 0, 1) := by decide +kernel
theorem dX5_init_94 : decode cX5_init 94 = .ok (.getfield 45, 3) := by decide +kernel
theorem dX5_init_97 : decode cX5_init 97 = .ok (.iload_n 1, 1) := by decide +kernel
theorem dX5_init_98 : decode cX5_init 98 = .ok (.new 43, 3) := by decide +kernel
theorem dX5_init_101 : decode cX5_init 101 = .ok (.dup, 1) := by decide +kernel
theorem dX5_init_102 : decode cX5_init 102 = .ok (.invokespecial 53, 3) := by decide +kernel
theorem dX5_init_105 : decode cX5_init 105 = .ok (.aastore, 1) := by decide +kernel
theorem dX5_init_106 : decode cX5_init 106 = .ok (.iinc 1 1, 3) := by decide +kernel
theorem dX5_init_109 : decode cX5_init 109 = .ok (.goto (-21), 3) := by decide +kernel
theorem dX5_init_112 : decode cX5_init 112 = .ok (.return_, 1) := by decide +kernel
theorem dX5_fear_0 : decode cX5_fear 0 = .ok (.iload_n 1, 1) := by decide +kernel
theorem dX5_fear_1 : decode cX5_fear 1 = .ok (.invokestatic 54, 3) := by decide +kernel
theorem dX5_fear_4 : decode cX5_fear 4 = .ok (.ifCond .eq 12, 3) := by decide +kernel
theorem dX5_fear_7 : decode cX5_fear 7 = .ok (.iload_n 2, 1) := by decide +kernel
theorem dX5_fear_8 : decode cX5_fear 8 = .ok (.bipush 99, 2) := by decide +kernel
theorem dX5_fear_10 : decode cX5_fear 10 = .ok (.invokestatic 58, 3) := by decide +kernel
theorem dX5_fear_13 : decode cX5_fear 13 = .ok (.ifCond .ne 9, 3) := by decide +kernel
theorem dX5_fear_16 : decode cX5_fear 16 = .ok (.aload_n 0, 1) := by decide +kernel
theorem dX5_fear_17 : decode cX5_fear 17 = .ok (.iconst 0, 1) := by decide +kernel
theorem dX5_fear_18 : decode cX5_fear 18 = .ok (.invokevirtual 62, 3) := by decide +kernel
theorem dX5_fear_21 : decode cX5_fear 21 = .ok (.ireturn, 1) := by decide +kernel
theorem dX5_fear_22 : decode cX5_fear 22 = .ok (.aload_n 0, 1) := by decide +kernel
theorem dX5_fear_23 : decode cX5_fear 23 = .ok (.getfield 10, 3) := by decide +kernel
theorem dX5_fear_26 : decode cX5_fear 26 = .ok (.getfield 66, 3) := by decide +kernel
theorem dX5_fear_29 : decode cX5_fear 29 = .ok (.iload_n 1, 1) := by decide +kernel
theorem dX5_fear_30 : decode cX5_fear 30 = .ok (.iaload, 1) := by decide +kernel
theorem dX5_fear_31 : decode cX5_fear 31 = .ok (.istore_n 3, 1) := by decide +kernel
theorem dX5_fear_32 : decode cX5_fear 32 = .ok (.aload_n 0, 1) := by decide +kernel
theorem dX5_fear_33 : decode cX5_fear 33 = .ok (.getfield 10, 3) := by decide +kernel
theorem dX5_fear_36 : decode cX5_fear 36 = .ok (.getfield 66, 3) := by decide +kernel
theorem dX5_fear_39 : decode cX5_fear 39 = .ok (.iload_n 1, 1) := by decide +kernel
theorem dX5_fear_40 : decode cX5_fear 40 = .ok (.iload_n 2, 1) := by decide +kernel
theorem dX5_fear_41 : decode cX5_fear 41 = .ok (.iastore, 1) := by decide +kernel
theorem dX5_fear_42 : decode cX5_fear 42 = .ok (.iload_n 3, 1) := by decide +kernel
theorem dX5_fear_43 : decode cX5_fear 43 = .ok (.ireturn, 1) := by decide +kernel
theorem dX5_kingOf_0 : decode cX5_kingOf 0 = .ok (.iload_n 1, 1) := by decide +kernel
theorem dX5_kingOf_1 : decode cX5_kingOf 1 = .ok (.invokestatic 54, 3) := by decide +kernel
theorem dX5_kingOf_4 : decode cX5_kingOf 4 = .ok (.ifCond .ne 9, 3) := by decide +kernel
theorem dX5_kingOf_7 : decode cX5_kingOf 7 = .ok (.aload_n 0, 1) := by decide +kernel
theorem dX5_kingOf_8 : decode cX5_kingOf 8 = .ok (.iconst 0, 1) := by decide +kernel
theorem dX5_kingOf_9 : decode cX5_kingOf 9 = .ok (.invokevirtual 62, 3) := by decide +kernel
theorem dX5_kingOf_12 : decode cX5_kingOf 12 = .ok (.ireturn, 1) := by decide +kernel
theorem dX5_kingOf_13 : decode cX5_kingOf 13 = .ok (.iload_n 2, 1) := by decide +kernel
theorem dX5_kingOf_14 : decode cX5_kingOf 14 = .ok (.tableswitch 67 0 3 #[30, 40, 49, 58], 30) := by decide +kernel
theorem dX5_kingOf_44 : decode cX5_kingOf 44 = .ok (.aload_n 0, 1) := by decide +kernel
theorem dX5_kingOf_45 : decode cX5_kingOf 45 = .ok (.getfield 10, 3) := by decide +kernel
theorem dX5_kingOf_48 : decode cX5_kingOf 48 = .ok (.getfield 66, 3) := by decide +kernel
theorem dX5_kingOf_51 : decode cX5_kingOf 51 = .ok (.iload_n 1, 1) := by decide +kernel
theorem dX5_kingOf_52 : decode cX5_kingOf 52 = .ok (.iaload, 1) := by decide +kernel
theorem dX5_kingOf_53 : decode cX5_kingOf 53 = .ok (.ireturn, 1) := by decide +kernel
theorem dX5_kingOf_54 : decode cX5_kingOf 54 = .ok (.aload_n 0, 1) := by decide +kernel
theorem dX5_kingOf_55 : decode cX5_kingOf 55 = .ok (.getfield 10, 3) := by decide +kernel
theorem dX5_kingOf_58 : decode cX5_kingOf 58 = .ok (.iload_n 1, 1) := by decide +kernel
theorem dX5_kingOf_59 : decode cX5_kingOf 59 = .ok (.invokevirtual 69, 3) := by decide +kernel
theorem dX5_kingOf_62 : decode cX5_kingOf 62 = .ok (.ireturn, 1) := by decide +kernel
theorem dX5_kingOf_63 : decode cX5_kingOf 63 = .ok (.aload_n 0, 1) := by decide +kernel
theorem dX5_kingOf_64 : decode cX5_kingOf 64 = .ok (.getfield 10, 3) := by decide +kernel
theorem dX5_kingOf_67 : decode cX5_kingOf 67 = .ok (.iload_n 1, 1) := by decide +kernel
theorem dX5_kingOf_68 : decode cX5_kingOf 68 = .ok (.invokevirtual 72, 3) := by decide +kernel
theorem dX5_kingOf_71 : decode cX5_kingOf 71 = .ok (.ireturn, 1) := by decide +kernel
theorem dX5_kingOf_72 : decode cX5_kingOf 72 = .ok (.aload_n 0, 1) := by decide +kernel
theorem dX5_kingOf_73 : decode cX5_kingOf 73 = .ok (.getfield 10, 3) := by decide +kernel
theorem dX5_kingOf_76 : decode cX5_kingOf 76 = .ok (.iload_n 1, 1) := by decide +kernel
theorem dX5_kingOf_77 : decode cX5_kingOf 77 = .ok (.invokevirtual 75, 3) := by decide +kernel
theorem dX5_kingOf_80 : decode cX5_kingOf 80 = .ok (.ireturn, 1) := by decide +kernel
theorem dX5_kingOf_81 : decode cX5_kingOf 81 = .ok (.aload_n 0, 1) := by decide +kernel
theorem dX5_kingOf_82 : decode cX5_kingOf 82 = .ok (.iconst 0, 1) := by decide +kernel
theorem dX5_kingOf_83 : decode cX5_kingOf 83 = .ok (.invokevirtual 62, 3) := by decide +kernel
theorem dX5_kingOf_86 : decode cX5_kingOf 86 = .ok (.ireturn, 1) := by decide +kernel
theorem dX5_child_0 : decode cX5_child 0 = .ok (.iload_n 1, 1) := by decide +kernel
theorem dX5_child_1 : decode cX5_child 1 = .ok (.invokestatic 78, 3) := by decide +kernel
theorem dX5_child_4 : decode cX5_child 4 = .ok (.ifCond .eq 19, 3) := by decide +kernel
theorem dX5_child_7 : decode cX5_child 7 = .ok (.iload_n 2, 1) := by decide +kernel
theorem dX5_child_8 : decode cX5_child 8 = .ok (.invokestatic 54, 3) := by decide +kernel
theorem dX5_child_11 : decode cX5_child 11 = .ok (.ifCond .eq 12, 3) := by decide +kernel
theorem dX5_child_14 : decode cX5_child 14 = .ok (.iload_n 3, 1) := by decide +kernel
theorem dX5_child_15 : decode cX5_child 15 = .ok (.bipush 99, 2) := by decide +kernel
theorem dX5_child_17 : decode cX5_child 17 = .ok (.invokestatic 58, 3) := by decide +kernel
theorem dX5_child_20 : decode cX5_child 20 = .ok (.ifCond .ne 9, 3) := by decide +kernel
theorem dX5_child_23 : decode cX5_child 23 = .ok (.aload_n 0, 1) := by decide +kernel
theorem dX5_child_24 : decode cX5_child 24 = .ok (.iconst 0, 1) := by decide +kernel
theorem dX5_child_25 : decode cX5_child 25 = .ok (.invokevirtual 62, 3) := by decide +kernel
theorem dX5_child_28 : decode cX5_child 28 = .ok (.ireturn, 1) := by decide +kernel
theorem dX5_child_29 : decode cX5_child 29 = .ok (.aload_n 0, 1) := by decide +kernel
theorem dX5_child_30 : decode cX5_child 30 = .ok (.getfield 10, 3) := by decide +kernel
theorem dX5_child_33 : decode cX5_child 33 = .ok (.getfield 81, 3) := by decide +kernel
theorem dX5_child_36 : decode cX5_child 36 = .ok (.bipush 14, 2) := by decide +kernel
theorem dX5_child_38 : decode cX5_child 38 = .ok (.if_icmp .lt 9, 3) := by decide +kernel
theorem dX5_child_41 : decode cX5_child 41 = .ok (.aload_n 0, 1) := by decide +kernel
theorem dX5_child_42 : decode cX5_child 42 = .ok (.iconst 1, 1) := by decide +kernel
theorem dX5_child_43 : decode cX5_child 43 = .ok (.invokevirtual 62, 3) := by decide +kernel
theorem dX5_child_46 : decode cX5_child 46 = .ok (.ireturn, 1) := by decide +kernel
theorem dX5_child_47 : decode cX5_child 47 = .ok (.aload_n 0, 1) := by decide +kernel
theorem dX5_child_48 : decode cX5_child 48 = .ok (.getfield 10, 3) := by decide +kernel
theorem dX5_child_51 : decode cX5_child 51 = .ok (.iload_n 1, 1) := by decide +kernel
theorem dX5_child_52 : decode cX5_child 52 = .ok (.iload_n 2, 1) := by decide +kernel
theorem dX5_child_53 : decode cX5_child 53 = .ok (.iload_n 2, 1) := by decide +kernel
theorem dX5_child_54 : decode cX5_child 54 = .ok (.iload_n 3, 1) := by decide +kernel
theorem dX5_child_55 : decode cX5_child 55 = .ok (.invokevirtual 85, 3) := by decide +kernel
theorem dX5_child_58 : decode cX5_child 58 = .ok (.ireturn, 1) := by decide +kernel
theorem dX5_of_0 : decode cX5_of 0 = .ok (.aload_n 0, 1) := by decide +kernel
theorem dX5_of_1 : decode cX5_of 1 = .ok (.iload_n 1, 1) := by decide +kernel
theorem dX5_of_2 : decode cX5_of 2 = .ok (.invokevirtual 89, 3) := by decide +kernel
theorem dX5_of_5 : decode cX5_of 5 = .ok (.ifCond .ne 9, 3) := by decide +kernel
theorem dX5_of_8 : decode cX5_of 8 = .ok (.aload_n 0, 1) := by decide +kernel
theorem dX5_of_9 : decode cX5_of 9 = .ok (.iconst 0, 1) := by decide +kernel
theorem dX5_of_10 : decode cX5_of 10 = .ok (.invokevirtual 62, 3) := by decide +kernel
theorem dX5_of_13 : decode cX5_of 13 = .ok (.ireturn, 1) := by decide +kernel
theorem dX5_of_14 : decode cX5_of 14 = .ok (.iload_n 2, 1) := by decide +kernel
theorem dX5_of_15 : decode cX5_of 15 = .ok (.tableswitch 103 0 5 #[37, 47, 57, 67, 77, 94], 37) := by decide +kernel
theorem dX5_of_52 : decode cX5_of 52 = .ok (.aload_n 0, 1) := by decide +kernel
theorem dX5_of_53 : decode cX5_of 53 = .ok (.getfield 10, 3) := by decide +kernel
theorem dX5_of_56 : decode cX5_of 56 = .ok (.getfield 92, 3) := by decide +kernel
theorem dX5_of_59 : decode cX5_of 59 = .ok (.iload_n 1, 1) := by decide +kernel
theorem dX5_of_60 : decode cX5_of 60 = .ok (.iaload, 1) := by decide +kernel
theorem dX5_of_61 : decode cX5_of 61 = .ok (.ireturn, 1) := by decide +kernel
theorem dX5_of_62 : decode cX5_of 62 = .ok (.aload_n 0, 1) := by decide +kernel
theorem dX5_of_63 : decode cX5_of 63 = .ok (.getfield 10, 3) := by decide +kernel
theorem dX5_of_66 : decode cX5_of 66 = .ok (.getfield 95, 3) := by decide +kernel
theorem dX5_of_69 : decode cX5_of 69 = .ok (.iload_n 1, 1) := by decide +kernel
theorem dX5_of_70 : decode cX5_of 70 = .ok (.iaload, 1) := by decide +kernel
theorem dX5_of_71 : decode cX5_of 71 = .ok (.ireturn, 1) := by decide +kernel
theorem dX5_of_72 : decode cX5_of 72 = .ok (.aload_n 0, 1) := by decide +kernel
theorem dX5_of_73 : decode cX5_of 73 = .ok (.getfield 10, 3) := by decide +kernel
theorem dX5_of_76 : decode cX5_of 76 = .ok (.getfield 98, 3) := by decide +kernel
theorem dX5_of_79 : decode cX5_of 79 = .ok (.iload_n 1, 1) := by decide +kernel
theorem dX5_of_80 : decode cX5_of 80 = .ok (.iaload, 1) := by decide +kernel
theorem dX5_of_81 : decode cX5_of 81 = .ok (.ireturn, 1) := by decide +kernel
theorem dX5_of_82 : decode cX5_of 82 = .ok (.aload_n 0, 1) := by decide +kernel
theorem dX5_of_83 : decode cX5_of 83 = .ok (.getfield 10, 3) := by decide +kernel
theorem dX5_of_86 : decode cX5_of 86 = .ok (.getfield 101, 3) := by decide +kernel
theorem dX5_of_89 : decode cX5_of 89 = .ok (.iload_n 1, 1) := by decide +kernel
theorem dX5_of_90 : decode cX5_of 90 = .ok (.iaload, 1) := by decide +kernel
theorem dX5_of_91 : decode cX5_of 91 = .ok (.ireturn, 1) := by decide +kernel
theorem dX5_of_92 : decode cX5_of 92 = .ok (.aload_n 0, 1) := by decide +kernel
theorem dX5_of_93 : decode cX5_of 93 = .ok (.getfield 10, 3) := by decide +kernel
theorem dX5_of_96 : decode cX5_of 96 = .ok (.iload_n 1, 1) := by decide +kernel
theorem dX5_of_97 : decode cX5_of 97 = .ok (.invokevirtual 104, 3) := by decide +kernel
theorem dX5_of_100 : decode cX5_of 100 = .ok (.ifCond .eq 7, 3) := by decide +kernel
theorem dX5_of_103 : decode cX5_of 103 = .ok (.iconst 1, 1) := by decide +kernel
theorem dX5_of_104 : decode cX5_of 104 = .ok (.goto 4, 3) := by decide +kernel
theorem dX5_of_107 : decode cX5_of 107 = .ok (.iconst 0, 1) := by decide +kernel
theorem dX5_of_108 : decode cX5_of 108 = .ok (.ireturn, 1) := by decide +kernel
theorem dX5_of_109 : decode cX5_of 109 = .ok (.aload_n 0, 1) := by decide +kernel
theorem dX5_of_110 : decode cX5_of 110 = .ok (.getfield 10, 3) := by decide +kernel
theorem dX5_of_113 : decode cX5_of 113 = .ok (.iload_n 1, 1) := by decide +kernel
theorem dX5_of_114 : decode cX5_of 114 = .ok (.invokevirtual 107, 3) := by decide +kernel
theorem dX5_of_117 : decode cX5_of 117 = .ok (.ireturn, 1) := by decide +kernel
theorem dX5_of_118 : decode cX5_of 118 = .ok (.aload_n 0, 1) := by decide +kernel
theorem dX5_of_119 : decode cX5_of 119 = .ok (.iconst 0, 1) := by decide +kernel
theorem dX5_of_120 : decode cX5_of 120 = .ok (.invokevirtual 62, 3) := by decide +kernel
theorem dX5_of_123 : decode cX5_of 123 = .ok (.ireturn, 1) := by decide +kernel
theorem dX5_move_0 : decode cX5_move 0 = .ok (.aload_n 0, 1) := by decide +kernel
theorem dX5_move_1 : decode cX5_move 1 = .ok (.iload_n 1, 1) := by decide +kernel
theorem dX5_move_2 : decode cX5_move 2 = .ok (.invokevirtual 89, 3) := by decide +kernel
theorem dX5_move_5 : decode cX5_move 5 = .ok (.ifCond .eq 10, 3) := by decide +kernel
theorem dX5_move_8 : decode cX5_move 8 = .ok (.iload_n 2, 1) := by decide +kernel
theorem dX5_move_9 : decode cX5_move 9 = .ok (.invokestatic 54, 3) := by decide +kernel
theorem dX5_move_12 : decode cX5_move 12 = .ok (.ifCond .ne 9, 3) := by decide +kernel
theorem dX5_move_15 : decode cX5_move 15 = .ok (.aload_n 0, 1) := by decide +kernel
theorem dX5_move_16 : decode cX5_move 16 = .ok (.iconst 0, 1) := by decide +kernel
theorem dX5_move_17 : decode cX5_move 17 = .ok (.invokevirtual 62, 3) := by decide +kernel
theorem dX5_move_20 : decode cX5_move 20 = .ok (.ireturn, 1) := by decide +kernel
theorem dX5_move_21 : decode cX5_move 21 = .ok (.aload_n 0, 1) := by decide +kernel
theorem dX5_move_22 : decode cX5_move 22 = .ok (.getfield 10, 3) := by decide +kernel
theorem dX5_move_25 : decode cX5_move 25 = .ok (.iload_n 1, 1) := by decide +kernel
theorem dX5_move_26 : decode cX5_move 26 = .ok (.invokevirtual 104, 3) := by decide +kernel
theorem dX5_move_29 : decode cX5_move 29 = .ok (.ifCond .eq 9, 3) := by decide +kernel
theorem dX5_move_32 : decode cX5_move 32 = .ok (.aload_n 0, 1) := by decide +kernel
theorem dX5_move_33 : decode cX5_move 33 = .ok (.iconst 4, 1) := by decide +kernel
theorem dX5_move_34 : decode cX5_move 34 = .ok (.invokevirtual 62, 3) := by decide +kernel
theorem dX5_move_37 : decode cX5_move 37 = .ok (.ireturn, 1) := by decide +kernel
theorem dX5_move_38 : decode cX5_move 38 = .ok (.aload_n 0, 1) := by decide +kernel
theorem dX5_move_39 : decode cX5_move 39 = .ok (.getfield 10, 3) := by decide +kernel
theorem dX5_move_42 : decode cX5_move 42 = .ok (.getfield 98, 3) := by decide +kernel
theorem dX5_move_45 : decode cX5_move 45 = .ok (.iload_n 1, 1) := by decide +kernel
theorem dX5_move_46 : decode cX5_move 46 = .ok (.iaload, 1) := by decide +kernel
theorem dX5_move_47 : decode cX5_move 47 = .ok (.istore_n 3, 1) := by decide +kernel
theorem dX5_move_48 : decode cX5_move 48 = .ok (.aload_n 0, 1) := by decide +kernel
theorem dX5_move_49 : decode cX5_move 49 = .ok (.getfield 10, 3) := by decide +kernel
theorem dX5_move_52 : decode cX5_move 52 = .ok (.getfield 98, 3) := by decide +kernel
theorem dX5_move_55 : decode cX5_move 55 = .ok (.iload_n 1, 1) := by decide +kernel
theorem dX5_move_56 : decode cX5_move 56 = .ok (.iload_n 2, 1) := by decide +kernel
theorem dX5_move_57 : decode cX5_move 57 = .ok (.iastore, 1) := by decide +kernel
theorem dX5_move_58 : decode cX5_move 58 = .ok (.iload_n 3, 1) := by decide +kernel
theorem dX5_move_59 : decode cX5_move 59 = .ok (.ireturn, 1) := by decide +kernel
theorem dX5_worth_0 : decode cX5_worth 0 = .ok (.aload_n 0, 1) := by decide +kernel
theorem dX5_worth_1 : decode cX5_worth 1 = .ok (.iload_n 1, 1) := by decide +kernel
theorem dX5_worth_2 : decode cX5_worth 2 = .ok (.invokevirtual 89, 3) := by decide +kernel
theorem dX5_worth_5 : decode cX5_worth 5 = .ok (.ifCond .eq 12, 3) := by decide +kernel
theorem dX5_worth_8 : decode cX5_worth 8 = .ok (.iload_n 2, 1) := by decide +kernel
theorem dX5_worth_9 : decode cX5_worth 9 = .ok (.bipush 99, 2) := by decide +kernel
theorem dX5_worth_11 : decode cX5_worth 11 = .ok (.invokestatic 58, 3) := by decide +kernel
theorem dX5_worth_14 : decode cX5_worth 14 = .ok (.ifCond .ne 9, 3) := by decide +kernel
theorem dX5_worth_17 : decode cX5_worth 17 = .ok (.aload_n 0, 1) := by decide +kernel
theorem dX5_worth_18 : decode cX5_worth 18 = .ok (.iconst 0, 1) := by decide +kernel
theorem dX5_worth_19 : decode cX5_worth 19 = .ok (.invokevirtual 62, 3) := by decide +kernel
theorem dX5_worth_22 : decode cX5_worth 22 = .ok (.ireturn, 1) := by decide +kernel
theorem dX5_worth_23 : decode cX5_worth 23 = .ok (.aload_n 0, 1) := by decide +kernel
theorem dX5_worth_24 : decode cX5_worth 24 = .ok (.getfield 10, 3) := by decide +kernel
theorem dX5_worth_27 : decode cX5_worth 27 = .ok (.getfield 101, 3) := by decide +kernel
theorem dX5_worth_30 : decode cX5_worth 30 = .ok (.iload_n 1, 1) := by decide +kernel
theorem dX5_worth_31 : decode cX5_worth 31 = .ok (.iaload, 1) := by decide +kernel
theorem dX5_worth_32 : decode cX5_worth 32 = .ok (.istore_n 3, 1) := by decide +kernel
theorem dX5_worth_33 : decode cX5_worth 33 = .ok (.aload_n 0, 1) := by decide +kernel
theorem dX5_worth_34 : decode cX5_worth 34 = .ok (.getfield 10, 3) := by decide +kernel
theorem dX5_worth_37 : decode cX5_worth 37 = .ok (.getfield 101, 3) := by decide +kernel
theorem dX5_worth_40 : decode cX5_worth 40 = .ok (.iload_n 1, 1) := by decide +kernel
theorem dX5_worth_41 : decode cX5_worth 41 = .ok (.iload_n 2, 1) := by decide +kernel
theorem dX5_worth_42 : decode cX5_worth 42 = .ok (.iastore, 1) := by decide +kernel
theorem dX5_worth_43 : decode cX5_worth 43 = .ok (.iload_n 3, 1) := by decide +kernel
theorem dX5_worth_44 : decode cX5_worth 44 = .ok (.ireturn, 1) := by decide +kernel
theorem dX5_turn_0 : decode cX5_turn 0 = .ok (.aload_n 0, 1) := by decide +kernel
theorem dX5_turn_1 : decode cX5_turn 1 = .ok (.iload_n 1, 1) := by decide +kernel
theorem dX5_turn_2 : decode cX5_turn 2 = .ok (.invokevirtual 89, 3) := by decide +kernel
theorem dX5_turn_5 : decode cX5_turn 5 = .ok (.ifCond .eq 10, 3) := by decide +kernel
theorem dX5_turn_8 : decode cX5_turn 8 = .ok (.iload_n 2, 1) := by decide +kernel
theorem dX5_turn_9 : decode cX5_turn 9 = .ok (.invokestatic 78, 3) := by decide +kernel
theorem dX5_turn_12 : decode cX5_turn 12 = .ok (.ifCond .ne 9, 3) := by decide +kernel
theorem dX5_turn_15 : decode cX5_turn 15 = .ok (.aload_n 0, 1) := by decide +kernel
theorem dX5_turn_16 : decode cX5_turn 16 = .ok (.iconst 0, 1) := by decide +kernel
theorem dX5_turn_17 : decode cX5_turn 17 = .ok (.invokevirtual 62, 3) := by decide +kernel
theorem dX5_turn_20 : decode cX5_turn 20 = .ok (.ireturn, 1) := by decide +kernel
theorem dX5_turn_21 : decode cX5_turn 21 = .ok (.aload_n 0, 1) := by decide +kernel
theorem dX5_turn_22 : decode cX5_turn 22 = .ok (.getfield 10, 3) := by decide +kernel
theorem dX5_turn_25 : decode cX5_turn 25 = .ok (.getfield 92, 3) := by decide +kernel
theorem dX5_turn_28 : decode cX5_turn 28 = .ok (.iload_n 1, 1) := by decide +kernel
theorem dX5_turn_29 : decode cX5_turn 29 = .ok (.iaload, 1) := by decide +kernel
theorem dX5_turn_30 : decode cX5_turn 30 = .ok (.istore_n 3, 1) := by decide +kernel
theorem dX5_turn_31 : decode cX5_turn 31 = .ok (.aload_n 0, 1) := by decide +kernel
theorem dX5_turn_32 : decode cX5_turn 32 = .ok (.getfield 10, 3) := by decide +kernel
theorem dX5_turn_35 : decode cX5_turn 35 = .ok (.getfield 92, 3) := by decide +kernel
theorem dX5_turn_38 : decode cX5_turn 38 = .ok (.iload_n 1, 1) := by decide +kernel
theorem dX5_turn_39 : decode cX5_turn 39 = .ok (.iload_n 2, 1) := by decide +kernel
theorem dX5_turn_40 : decode cX5_turn 40 = .ok (.iastore, 1) := by decide +kernel
theorem dX5_turn_41 : decode cX5_turn 41 = .ok (.iload_n 3, 1) := by decide +kernel
theorem dX5_turn_42 : decode cX5_turn 42 = .ok (.ireturn, 1) := by decide +kernel
theorem dX5_as_0 : decode cX5_as 0 = .ok (.aload_n 0, 1) := by decide +kernel
theorem dX5_as_1 : decode cX5_as 1 = .ok (.iload_n 1, 1) := by decide +kernel
theorem dX5_as_2 : decode cX5_as 2 = .ok (.invokevirtual 89, 3) := by decide +kernel
theorem dX5_as_5 : decode cX5_as 5 = .ok (.ifCond .eq 10, 3) := by decide +kernel
theorem dX5_as_8 : decode cX5_as 8 = .ok (.iload_n 2, 1) := by decide +kernel
theorem dX5_as_9 : decode cX5_as 9 = .ok (.invokestatic 78, 3) := by decide +kernel
theorem dX5_as_12 : decode cX5_as 12 = .ok (.ifCond .ne 9, 3) := by decide +kernel
theorem dX5_as_15 : decode cX5_as 15 = .ok (.aload_n 0, 1) := by decide +kernel
theorem dX5_as_16 : decode cX5_as 16 = .ok (.iconst 0, 1) := by decide +kernel
theorem dX5_as_17 : decode cX5_as 17 = .ok (.invokevirtual 62, 3) := by decide +kernel
theorem dX5_as_20 : decode cX5_as 20 = .ok (.ireturn, 1) := by decide +kernel
theorem dX5_as_21 : decode cX5_as 21 = .ok (.aload_n 0, 1) := by decide +kernel
theorem dX5_as_22 : decode cX5_as 22 = .ok (.getfield 10, 3) := by decide +kernel
theorem dX5_as_25 : decode cX5_as 25 = .ok (.getfield 92, 3) := by decide +kernel
theorem dX5_as_28 : decode cX5_as 28 = .ok (.iload_n 1, 1) := by decide +kernel
theorem dX5_as_29 : decode cX5_as 29 = .ok (.iaload, 1) := by decide +kernel
theorem dX5_as_30 : decode cX5_as 30 = .ok (.iload_n 2, 1) := by decide +kernel
theorem dX5_as_31 : decode cX5_as 31 = .ok (.invokestatic 110, 3) := by decide +kernel
theorem dX5_as_34 : decode cX5_as 34 = .ok (.ifCond .ne 9, 3) := by decide +kernel
theorem dX5_as_37 : decode cX5_as 37 = .ok (.aload_n 0, 1) := by decide +kernel
theorem dX5_as_38 : decode cX5_as 38 = .ok (.iconst 2, 1) := by decide +kernel
theorem dX5_as_39 : decode cX5_as 39 = .ok (.invokevirtual 62, 3) := by decide +kernel
theorem dX5_as_42 : decode cX5_as 42 = .ok (.ireturn, 1) := by decide +kernel
theorem dX5_as_43 : decode cX5_as 43 = .ok (.aload_n 0, 1) := by decide +kernel
theorem dX5_as_44 : decode cX5_as 44 = .ok (.getfield 10, 3) := by decide +kernel
theorem dX5_as_47 : decode cX5_as 47 = .ok (.getfield 98, 3) := by decide +kernel
theorem dX5_as_50 : decode cX5_as 50 = .ok (.iload_n 1, 1) := by decide +kernel
theorem dX5_as_51 : decode cX5_as 51 = .ok (.iaload, 1) := by decide +kernel
theorem dX5_as_52 : decode cX5_as 52 = .ok (.ireturn, 1) := by decide +kernel
theorem dX5_dies_0 : decode cX5_dies 0 = .ok (.aload_n 0, 1) := by decide +kernel
theorem dX5_dies_1 : decode cX5_dies 1 = .ok (.iload_n 1, 1) := by decide +kernel
theorem dX5_dies_2 : decode cX5_dies 2 = .ok (.invokevirtual 89, 3) := by decide +kernel
theorem dX5_dies_5 : decode cX5_dies 5 = .ok (.ifCond .ne 9, 3) := by decide +kernel
theorem dX5_dies_8 : decode cX5_dies 8 = .ok (.aload_n 0, 1) := by decide +kernel
theorem dX5_dies_9 : decode cX5_dies 9 = .ok (.iconst 0, 1) := by decide +kernel
theorem dX5_dies_10 : decode cX5_dies 10 = .ok (.invokevirtual 62, 3) := by decide +kernel
theorem dX5_dies_13 : decode cX5_dies 13 = .ok (.ireturn, 1) := by decide +kernel
theorem dX5_dies_14 : decode cX5_dies 14 = .ok (.aload_n 0, 1) := by decide +kernel
theorem dX5_dies_15 : decode cX5_dies 15 = .ok (.getfield 10, 3) := by decide +kernel
theorem dX5_dies_18 : decode cX5_dies 18 = .ok (.iload_n 1, 1) := by decide +kernel
theorem dX5_dies_19 : decode cX5_dies 19 = .ok (.invokevirtual 104, 3) := by decide +kernel
theorem dX5_dies_22 : decode cX5_dies 22 = .ok (.ifCond .eq 9, 3) := by decide +kernel
theorem dX5_dies_25 : decode cX5_dies 25 = .ok (.aload_n 0, 1) := by decide +kernel
theorem dX5_dies_26 : decode cX5_dies 26 = .ok (.iconst 4, 1) := by decide +kernel
theorem dX5_dies_27 : decode cX5_dies 27 = .ok (.invokevirtual 62, 3) := by decide +kernel
theorem dX5_dies_30 : decode cX5_dies 30 = .ok (.ireturn, 1) := by decide +kernel
theorem dX5_dies_31 : decode cX5_dies 31 = .ok (.aload_n 0, 1) := by decide +kernel
theorem dX5_dies_32 : decode cX5_dies 32 = .ok (.getfield 10, 3) := by decide +kernel
theorem dX5_dies_35 : decode cX5_dies 35 = .ok (.invokevirtual 113, 3) := by decide +kernel
theorem dX5_dies_38 : decode cX5_dies 38 = .ok (.istore_n 2, 1) := by decide +kernel
theorem dX5_dies_39 : decode cX5_dies 39 = .ok (.aload_n 0, 1) := by decide +kernel
theorem dX5_dies_40 : decode cX5_dies 40 = .ok (.getfield 10, 3) := by decide +kernel
theorem dX5_dies_43 : decode cX5_dies 43 = .ok (.dup, 1) := by decide +kernel
theorem dX5_dies_44 : decode cX5_dies 44 = .ok (.getfield 117, 3) := by decide +kernel
theorem dX5_dies_47 : decode cX5_dies 47 = .ok (.iconst 1, 1) := by decide +kernel
theorem dX5_dies_48 : decode cX5_dies 48 = .ok (.iload_n 1, 1) := by decide +kernel
theorem dX5_dies_49 : decode cX5_dies 49 = .ok (.ishl, 1) := by decide +kernel
theorem dX5_dies_50 : decode cX5_dies 50 = .ok (.ior, 1) := by decide +kernel
theorem dX5_dies_51 : decode cX5_dies 51 = .ok (.putfield 117, 3) := by decide +kernel
theorem dX5_dies_54 : decode cX5_dies 54 = .ok (.aload_n 0, 1) := by decide +kernel
theorem dX5_dies_55 : decode cX5_dies 55 = .ok (.getfield 10, 3) := by decide +kernel
theorem dX5_dies_58 : decode cX5_dies 58 = .ok (.invokevirtual 113, 3) := by decide +kernel
theorem dX5_dies_61 : decode cX5_dies 61 = .ok (.iload_n 2, 1) := by decide +kernel
theorem dX5_dies_62 : decode cX5_dies 62 = .ok (.iconst (-1), 1) := by decide +kernel
theorem dX5_dies_63 : decode cX5_dies 63 = .ok (.ixor, 1) := by decide +kernel
theorem dX5_dies_64 : decode cX5_dies 64 = .ok (.iand, 1) := by decide +kernel
theorem dX5_dies_65 : decode cX5_dies 65 = .ok (.invokestatic 120, 3) := by decide +kernel
theorem dX5_dies_68 : decode cX5_dies 68 = .ok (.ireturn, 1) := by decide +kernel
theorem dX5_swap_0 : decode cX5_swap 0 = .ok (.aload_n 0, 1) := by decide +kernel
theorem dX5_swap_1 : decode cX5_swap 1 = .ok (.iload_n 1, 1) := by decide +kernel
theorem dX5_swap_2 : decode cX5_swap 2 = .ok (.invokevirtual 89, 3) := by decide +kernel
theorem dX5_swap_5 : decode cX5_swap 5 = .ok (.ifCond .eq 16, 3) := by decide +kernel
theorem dX5_swap_8 : decode cX5_swap 8 = .ok (.aload_n 0, 1) := by decide +kernel
theorem dX5_swap_9 : decode cX5_swap 9 = .ok (.iload_n 2, 1) := by decide +kernel
theorem dX5_swap_10 : decode cX5_swap 10 = .ok (.invokevirtual 89, 3) := by decide +kernel
theorem dX5_swap_13 : decode cX5_swap 13 = .ok (.ifCond .eq 8, 3) := by decide +kernel
theorem dX5_swap_16 : decode cX5_swap 16 = .ok (.iload_n 1, 1) := by decide +kernel
theorem dX5_swap_17 : decode cX5_swap 17 = .ok (.iload_n 2, 1) := by decide +kernel
theorem dX5_swap_18 : decode cX5_swap 18 = .ok (.if_icmp .ne 9, 3) := by decide +kernel
theorem dX5_swap_21 : decode cX5_swap 21 = .ok (.aload_n 0, 1) := by decide +kernel
theorem dX5_swap_22 : decode cX5_swap 22 = .ok (.iconst 0, 1) := by decide +kernel
theorem dX5_swap_23 : decode cX5_swap 23 = .ok (.invokevirtual 62, 3) := by decide +kernel
theorem dX5_swap_26 : decode cX5_swap 26 = .ok (.ireturn, 1) := by decide +kernel
theorem dX5_swap_27 : decode cX5_swap 27 = .ok (.aload_n 0, 1) := by decide +kernel
theorem dX5_swap_28 : decode cX5_swap 28 = .ok (.getfield 10, 3) := by decide +kernel
theorem dX5_swap_31 : decode cX5_swap 31 = .ok (.iload_n 1, 1) := by decide +kernel
theorem dX5_swap_32 : decode cX5_swap 32 = .ok (.invokevirtual 104, 3) := by decide +kernel
theorem dX5_swap_35 : decode cX5_swap 35 = .ok (.ifCond .ne 14, 3) := by decide +kernel
theorem dX5_swap_38 : decode cX5_swap 38 = .ok (.aload_n 0, 1) := by decide +kernel
theorem dX5_swap_39 : decode cX5_swap 39 = .ok (.getfield 10, 3) := by decide +kernel
theorem dX5_swap_42 : decode cX5_swap 42 = .ok (.iload_n 2, 1) := by decide +kernel
theorem dX5_swap_43 : decode cX5_swap 43 = .ok (.invokevirtual 104, 3) := by decide +kernel
theorem dX5_swap_46 : decode cX5_swap 46 = .ok (.ifCond .eq 9, 3) := by decide +kernel
theorem dX5_swap_49 : decode cX5_swap 49 = .ok (.aload_n 0, 1) := by decide +kernel
theorem dX5_swap_50 : decode cX5_swap 50 = .ok (.iconst 4, 1) := by decide +kernel
theorem dX5_swap_51 : decode cX5_swap 51 = .ok (.invokevirtual 62, 3) := by decide +kernel
theorem dX5_swap_54 : decode cX5_swap 54 = .ok (.ireturn, 1) := by decide +kernel
theorem dX5_swap_55 : decode cX5_swap 55 = .ok (.aload_n 0, 1) := by decide +kernel
theorem dX5_swap_56 : decode cX5_swap 56 = .ok (.getfield 10, 3) := by decide +kernel
theorem dX5_swap_59 : decode cX5_swap 59 = .ok (.getfield 98, 3) := by decide +kernel
theorem dX5_swap_62 : decode cX5_swap 62 = .ok (.iload_n 1, 1) := by decide +kernel
theorem dX5_swap_63 : decode cX5_swap 63 = .ok (.iaload, 1) := by decide +kernel
theorem dX5_swap_64 : decode cX5_swap 64 = .ok (.istore_n 3, 1) := by decide +kernel
theorem dX5_swap_65 : decode cX5_swap 65 = .ok (.aload_n 0, 1) := by decide +kernel
theorem dX5_swap_66 : decode cX5_swap 66 = .ok (.getfield 10, 3) := by decide +kernel
theorem dX5_swap_69 : decode cX5_swap 69 = .ok (.getfield 98, 3) := by decide +kernel
theorem dX5_swap_72 : decode cX5_swap 72 = .ok (.iload_n 1, 1) := by decide +kernel
theorem dX5_swap_73 : decode cX5_swap 73 = .ok (.aload_n 0, 1) := by decide +kernel
theorem dX5_swap_74 : decode cX5_swap 74 = .ok (.getfield 10, 3) := by decide +kernel
theorem dX5_swap_77 : decode cX5_swap 77 = .ok (.getfield 98, 3) := by decide +kernel
theorem dX5_swap_80 : decode cX5_swap 80 = .ok (.iload_n 2, 1) := by decide +kernel
theorem dX5_swap_81 : decode cX5_swap 81 = .ok (.iaload, 1) := by decide +kernel
theorem dX5_swap_82 : decode cX5_swap 82 = .ok (.iastore, 1) := by decide +kernel
theorem dX5_swap_83 : decode cX5_swap 83 = .ok (.aload_n 0, 1) := by decide +kernel
theorem dX5_swap_84 : decode cX5_swap 84 = .ok (.getfield 10, 3) := by decide +kernel
theorem dX5_swap_87 : decode cX5_swap 87 = .ok (.getfield 98, 3) := by decide +kernel
theorem dX5_swap_90 : decode cX5_swap 90 = .ok (.iload_n 2, 1) := by decide +kernel
theorem dX5_swap_91 : decode cX5_swap 91 = .ok (.iload_n 3, 1) := by decide +kernel
theorem dX5_swap_92 : decode cX5_swap 92 = .ok (.iastore, 1) := by decide +kernel
theorem dX5_swap_93 : decode cX5_swap 93 = .ok (.iconst 1, 1) := by decide +kernel
theorem dX5_swap_94 : decode cX5_swap 94 = .ok (.ireturn, 1) := by decide +kernel
theorem dX5_treaty_0 : decode cX5_treaty 0 = .ok (.iload_n 1, 1) := by decide +kernel
theorem dX5_treaty_1 : decode cX5_treaty 1 = .ok (.iload_n 2, 1) := by decide +kernel
theorem dX5_treaty_2 : decode cX5_treaty 2 = .ok (.invokestatic 125, 3) := by decide +kernel
theorem dX5_treaty_5 : decode cX5_treaty 5 = .ok (.ifCond .eq 24, 3) := by decide +kernel
theorem dX5_treaty_8 : decode cX5_treaty 8 = .ok (.iload_n 3, 1) := by decide +kernel
theorem dX5_treaty_9 : decode cX5_treaty 9 = .ok (.sipush 999, 3) := by decide +kernel
theorem dX5_treaty_12 : decode cX5_treaty 12 = .ok (.invokestatic 58, 3) := by decide +kernel
theorem dX5_treaty_15 : decode cX5_treaty 15 = .ok (.ifCond .eq 14, 3) := by decide +kernel
theorem dX5_treaty_18 : decode cX5_treaty 18 = .ok (.iload 4, 2) := by decide +kernel
theorem dX5_treaty_20 : decode cX5_treaty 20 = .ok (.sipush 999, 3) := by decide +kernel
theorem dX5_treaty_23 : decode cX5_treaty 23 = .ok (.invokestatic 58, 3) := by decide +kernel
theorem dX5_treaty_26 : decode cX5_treaty 26 = .ok (.ifCond .ne 9, 3) := by decide +kernel
theorem dX5_treaty_29 : decode cX5_treaty 29 = .ok (.aload_n 0, 1) := by decide +kernel
theorem dX5_treaty_30 : decode cX5_treaty 30 = .ok (.iconst 0, 1) := by decide +kernel
theorem dX5_treaty_31 : decode cX5_treaty 31 = .ok (.invokevirtual 62, 3) := by decide +kernel
theorem dX5_treaty_34 : decode cX5_treaty 34 = .ok (.ireturn, 1) := by decide +kernel
theorem dX5_treaty_35 : decode cX5_treaty 35 = .ok (.aload_n 0, 1) := by decide +kernel
theorem dX5_treaty_36 : decode cX5_treaty 36 = .ok (.getfield 10, 3) := by decide +kernel
theorem dX5_treaty_39 : decode cX5_treaty 39 = .ok (.getfield 128, 3) := by decide +kernel
theorem dX5_treaty_42 : decode cX5_treaty 42 = .ok (.bipush 12, 2) := by decide +kernel
theorem dX5_treaty_44 : decode cX5_treaty 44 = .ok (.if_icmp .lt 9, 3) := by decide +kernel
theorem dX5_treaty_47 : decode cX5_treaty 47 = .ok (.aload_n 0, 1) := by decide +kernel
theorem dX5_treaty_48 : decode cX5_treaty 48 = .ok (.iconst 1, 1) := by decide +kernel
theorem dX5_treaty_49 : decode cX5_treaty 49 = .ok (.invokevirtual 62, 3) := by decide +kernel
theorem dX5_treaty_52 : decode cX5_treaty 52 = .ok (.ireturn, 1) := by decide +kernel
theorem dX5_treaty_53 : decode cX5_treaty 53 = .ok (.aload_n 0, 1) := by decide +kernel
theorem dX5_treaty_54 : decode cX5_treaty 54 = .ok (.getfield 10, 3) := by decide +kernel
theorem dX5_treaty_57 : decode cX5_treaty 57 = .ok (.iload_n 1, 1) := by decide +kernel
theorem dX5_treaty_58 : decode cX5_treaty 58 = .ok (.iload_n 2, 1) := by decide +kernel
theorem dX5_treaty_59 : decode cX5_treaty 59 = .ok (.iload_n 3, 1) := by decide +kernel
theorem dX5_treaty_60 : decode cX5_treaty 60 = .ok (.iload 4, 2) := by decide +kernel
theorem dX5_treaty_62 : decode cX5_treaty 62 = .ok (.invokevirtual 131, 3) := by decide +kernel
theorem dX5_treaty_65 : decode cX5_treaty 65 = .ok (.ireturn, 1) := by decide +kernel
theorem dX5_treatyOf_0 : decode cX5_treatyOf 0 = .ok (.aload_n 0, 1) := by decide +kernel
theorem dX5_treatyOf_1 : decode cX5_treatyOf 1 = .ok (.iload_n 1, 1) := by decide +kernel
theorem dX5_treatyOf_2 : decode cX5_treatyOf 2 = .ok (.invokevirtual 134, 3) := by decide +kernel
theorem dX5_treatyOf_5 : decode cX5_treatyOf 5 = .ok (.ifCond .ne 9, 3) := by decide +kernel
theorem dX5_treatyOf_8 : decode cX5_treatyOf 8 = .ok (.aload_n 0, 1) := by decide +kernel
theorem dX5_treatyOf_9 : decode cX5_treatyOf 9 = .ok (.iconst 0, 1) := by decide +kernel
theorem dX5_treatyOf_10 : decode cX5_treatyOf 10 = .ok (.invokevirtual 62, 3) := by decide +kernel
theorem dX5_treatyOf_13 : decode cX5_treatyOf 13 = .ok (.ireturn, 1) := by decide +kernel
theorem dX5_treatyOf_14 : decode cX5_treatyOf 14 = .ok (.iload_n 2, 1) := by decide +kernel
theorem dX5_treatyOf_15 : decode cX5_treatyOf 15 = .ok (.tableswitch 143 0 6 #[41, 51, 61, 71, 81, 98, 115], 41) := by decide +kernel
theorem dX5_treatyOf_56 : decode cX5_treatyOf 56 = .ok (.aload_n 0, 1) := by decide +kernel
theorem dX5_treatyOf_57 : decode cX5_treatyOf 57 = .ok (.getfield 10, 3) := by decide +kernel
theorem dX5_treatyOf_60 : decode cX5_treatyOf 60 = .ok (.getfield 137, 3) := by decide +kernel
theorem dX5_treatyOf_63 : decode cX5_treatyOf 63 = .ok (.iload_n 1, 1) := by decide +kernel
theorem dX5_treatyOf_64 : decode cX5_treatyOf 64 = .ok (.iaload, 1) := by decide +kernel
theorem dX5_treatyOf_65 : decode cX5_treatyOf 65 = .ok (.ireturn, 1) := by decide +kernel
theorem dX5_treatyOf_66 : decode cX5_treatyOf 66 = .ok (.aload_n 0, 1) := by decide +kernel
theorem dX5_treatyOf_67 : decode cX5_treatyOf 67 = .ok (.getfield 10, 3) := by decide +kernel
theorem dX5_treatyOf_70 : decode cX5_treatyOf 70 = .ok (.getfield 140, 3) := by decide +kernel
theorem dX5_treatyOf_73 : decode cX5_treatyOf 73 = .ok (.iload_n 1, 1) := by decide +kernel
theorem dX5_treatyOf_74 : decode cX5_treatyOf 74 = .ok (.iaload, 1) := by decide +kernel
theorem dX5_treatyOf_75 : decode cX5_treatyOf 75 = .ok (.ireturn, 1) := by decide +kernel
theorem dX5_treatyOf_76 : decode cX5_treatyOf 76 = .ok (.aload_n 0, 1) := by decide +kernel
theorem dX5_treatyOf_77 : decode cX5_treatyOf 77 = .ok (.getfield 10, 3) := by decide +kernel
theorem dX5_treatyOf_80 : decode cX5_treatyOf 80 = .ok (.getfield 143, 3) := by decide +kernel
theorem dX5_treatyOf_83 : decode cX5_treatyOf 83 = .ok (.iload_n 1, 1) := by decide +kernel
theorem dX5_treatyOf_84 : decode cX5_treatyOf 84 = .ok (.iaload, 1) := by decide +kernel
theorem dX5_treatyOf_85 : decode cX5_treatyOf 85 = .ok (.ireturn, 1) := by decide +kernel
theorem dX5_treatyOf_86 : decode cX5_treatyOf 86 = .ok (.aload_n 0, 1) := by decide +kernel
theorem dX5_treatyOf_87 : decode cX5_treatyOf 87 = .ok (.getfield 10, 3) := by decide +kernel
theorem dX5_treatyOf_90 : decode cX5_treatyOf 90 = .ok (.getfield 146, 3) := by decide +kernel
theorem dX5_treatyOf_93 : decode cX5_treatyOf 93 = .ok (.iload_n 1, 1) := by decide +kernel
theorem dX5_treatyOf_94 : decode cX5_treatyOf 94 = .ok (.iaload, 1) := by decide +kernel
theorem dX5_treatyOf_95 : decode cX5_treatyOf 95 = .ok (.ireturn, 1) := by decide +kernel
theorem dX5_treatyOf_96 : decode cX5_treatyOf 96 = .ok (.aload_n 0, 1) := by decide +kernel
theorem dX5_treatyOf_97 : decode cX5_treatyOf 97 = .ok (.getfield 10, 3) := by decide +kernel
theorem dX5_treatyOf_100 : decode cX5_treatyOf 100 = .ok (.iload_n 1, 1) := by decide +kernel
theorem dX5_treatyOf_101 : decode cX5_treatyOf 101 = .ok (.invokevirtual 149, 3) := by decide +kernel
theorem dX5_treatyOf_104 : decode cX5_treatyOf 104 = .ok (.ifCond .eq 7, 3) := by decide +kernel
theorem dX5_treatyOf_107 : decode cX5_treatyOf 107 = .ok (.iconst 1, 1) := by decide +kernel
theorem dX5_treatyOf_108 : decode cX5_treatyOf 108 = .ok (.goto 4, 3) := by decide +kernel
theorem dX5_treatyOf_111 : decode cX5_treatyOf 111 = .ok (.iconst 0, 1) := by decide +kernel
theorem dX5_treatyOf_112 : decode cX5_treatyOf 112 = .ok (.ireturn, 1) := by decide +kernel
theorem dX5_treatyOf_113 : decode cX5_treatyOf 113 = .ok (.aload_n 0, 1) := by decide +kernel
theorem dX5_treatyOf_114 : decode cX5_treatyOf 114 = .ok (.getfield 10, 3) := by decide +kernel
theorem dX5_treatyOf_117 : decode cX5_treatyOf 117 = .ok (.iload_n 1, 1) := by decide +kernel
theorem dX5_treatyOf_118 : decode cX5_treatyOf 118 = .ok (.invokevirtual 152, 3) := by decide +kernel
theorem dX5_treatyOf_121 : decode cX5_treatyOf 121 = .ok (.ifCond .eq 7, 3) := by decide +kernel
theorem dX5_treatyOf_124 : decode cX5_treatyOf 124 = .ok (.iconst 1, 1) := by decide +kernel
theorem dX5_treatyOf_125 : decode cX5_treatyOf 125 = .ok (.goto 4, 3) := by decide +kernel
theorem dX5_treatyOf_128 : decode cX5_treatyOf 128 = .ok (.iconst 0, 1) := by decide +kernel
theorem dX5_treatyOf_129 : decode cX5_treatyOf 129 = .ok (.ireturn, 1) := by decide +kernel
theorem dX5_treatyOf_130 : decode cX5_treatyOf 130 = .ok (.aload_n 0, 1) := by decide +kernel
theorem dX5_treatyOf_131 : decode cX5_treatyOf 131 = .ok (.getfield 10, 3) := by decide +kernel
theorem dX5_treatyOf_134 : decode cX5_treatyOf 134 = .ok (.iload_n 1, 1) := by decide +kernel
theorem dX5_treatyOf_135 : decode cX5_treatyOf 135 = .ok (.invokevirtual 152, 3) := by decide +kernel
theorem dX5_treatyOf_138 : decode cX5_treatyOf 138 = .ok (.ifCond .eq 18, 3) := by decide +kernel
theorem dX5_treatyOf_141 : decode cX5_treatyOf 141 = .ok (.aload_n 0, 1) := by decide +kernel
theorem dX5_treatyOf_142 : decode cX5_treatyOf 142 = .ok (.getfield 10, 3) := by decide +kernel
theorem dX5_treatyOf_145 : decode cX5_treatyOf 145 = .ok (.iload_n 1, 1) := by decide +kernel
theorem dX5_treatyOf_146 : decode cX5_treatyOf 146 = .ok (.invokevirtual 155, 3) := by decide +kernel
theorem dX5_treatyOf_149 : decode cX5_treatyOf 149 = .ok (.ifCond .ge 7, 3) := by decide +kernel
theorem dX5_treatyOf_152 : decode cX5_treatyOf 152 = .ok (.iconst 1, 1) := by decide +kernel
theorem dX5_treatyOf_153 : decode cX5_treatyOf 153 = .ok (.goto 4, 3) := by decide +kernel
theorem dX5_treatyOf_156 : decode cX5_treatyOf 156 = .ok (.iconst 0, 1) := by decide +kernel
theorem dX5_treatyOf_157 : decode cX5_treatyOf 157 = .ok (.ireturn, 1) := by decide +kernel
theorem dX5_treatyOf_158 : decode cX5_treatyOf 158 = .ok (.aload_n 0, 1) := by decide +kernel
theorem dX5_treatyOf_159 : decode cX5_treatyOf 159 = .ok (.iconst 0, 1) := by decide +kernel
theorem dX5_treatyOf_160 : decode cX5_treatyOf 160 = .ok (.invokevirtual 62, 3) := by decide +kernel
theorem dX5_treatyOf_163 : decode cX5_treatyOf 163 = .ok (.ireturn, 1) := by decide +kernel
theorem dX5_gain_0 : decode cX5_gain 0 = .ok (.aload_n 0, 1) := by decide +kernel
theorem dX5_gain_1 : decode cX5_gain 1 = .ok (.iload_n 1, 1) := by decide +kernel
theorem dX5_gain_2 : decode cX5_gain 2 = .ok (.invokevirtual 134, 3) := by decide +kernel
theorem dX5_gain_5 : decode cX5_gain 5 = .ok (.ifCond .eq 13, 3) := by decide +kernel
theorem dX5_gain_8 : decode cX5_gain 8 = .ok (.iload_n 2, 1) := by decide +kernel
theorem dX5_gain_9 : decode cX5_gain 9 = .ok (.sipush 999, 3) := by decide +kernel
theorem dX5_gain_12 : decode cX5_gain 12 = .ok (.invokestatic 58, 3) := by decide +kernel
theorem dX5_gain_15 : decode cX5_gain 15 = .ok (.ifCond .ne 9, 3) := by decide +kernel
theorem dX5_gain_18 : decode cX5_gain 18 = .ok (.aload_n 0, 1) := by decide +kernel
theorem dX5_gain_19 : decode cX5_gain 19 = .ok (.iconst 0, 1) := by decide +kernel
theorem dX5_gain_20 : decode cX5_gain 20 = .ok (.invokevirtual 62, 3) := by decide +kernel
theorem dX5_gain_23 : decode cX5_gain 23 = .ok (.ireturn, 1) := by decide +kernel
theorem dX5_gain_24 : decode cX5_gain 24 = .ok (.aload_n 0, 1) := by decide +kernel
theorem dX5_gain_25 : decode cX5_gain 25 = .ok (.getfield 10, 3) := by decide +kernel
theorem dX5_gain_28 : decode cX5_gain 28 = .ok (.getfield 143, 3) := by decide +kernel
theorem dX5_gain_31 : decode cX5_gain 31 = .ok (.iload_n 1, 1) := by decide +kernel
theorem dX5_gain_32 : decode cX5_gain 32 = .ok (.iaload, 1) := by decide +kernel
theorem dX5_gain_33 : decode cX5_gain 33 = .ok (.istore_n 3, 1) := by decide +kernel
theorem dX5_gain_34 : decode cX5_gain 34 = .ok (.aload_n 0, 1) := by decide +kernel
theorem dX5_gain_35 : decode cX5_gain 35 = .ok (.getfield 10, 3) := by decide +kernel
theorem dX5_gain_38 : decode cX5_gain 38 = .ok (.getfield 143, 3) := by decide +kernel
theorem dX5_gain_41 : decode cX5_gain 41 = .ok (.iload_n 1, 1) := by decide +kernel
theorem dX5_gain_42 : decode cX5_gain 42 = .ok (.iload_n 2, 1) := by decide +kernel
theorem dX5_gain_43 : decode cX5_gain 43 = .ok (.iastore, 1) := by decide +kernel
theorem dX5_gain_44 : decode cX5_gain 44 = .ok (.iload_n 3, 1) := by decide +kernel
theorem dX5_gain_45 : decode cX5_gain 45 = .ok (.ireturn, 1) := by decide +kernel
theorem dX5_pledge_0 : decode cX5_pledge 0 = .ok (.iload_n 1, 1) := by decide +kernel
theorem dX5_pledge_1 : decode cX5_pledge 1 = .ok (.iload_n 2, 1) := by decide +kernel
theorem dX5_pledge_2 : decode cX5_pledge 2 = .ok (.invokestatic 125, 3) := by decide +kernel
theorem dX5_pledge_5 : decode cX5_pledge 5 = .ok (.ifCond .ne 9, 3) := by decide +kernel
theorem dX5_pledge_8 : decode cX5_pledge 8 = .ok (.aload_n 0, 1) := by decide +kernel
theorem dX5_pledge_9 : decode cX5_pledge 9 = .ok (.iconst 0, 1) := by decide +kernel
theorem dX5_pledge_10 : decode cX5_pledge 10 = .ok (.invokevirtual 62, 3) := by decide +kernel
theorem dX5_pledge_13 : decode cX5_pledge 13 = .ok (.ireturn, 1) := by decide +kernel
theorem dX5_pledge_14 : decode cX5_pledge 14 = .ok (.aload_n 0, 1) := by decide +kernel
theorem dX5_pledge_15 : decode cX5_pledge 15 = .ok (.getfield 10, 3) := by decide +kernel
theorem dX5_pledge_18 : decode cX5_pledge 18 = .ok (.iload_n 1, 1) := by decide +kernel
theorem dX5_pledge_19 : decode cX5_pledge 19 = .ok (.iload_n 2, 1) := by decide +kernel
theorem dX5_pledge_20 : decode cX5_pledge 20 = .ok (.invokevirtual 158, 3) := by decide +kernel
theorem dX5_pledge_23 : decode cX5_pledge 23 = .ok (.ireturn, 1) := by decide +kernel
theorem dX5_ease_0 : decode cX5_ease 0 = .ok (.aload_n 0, 1) := by decide +kernel
theorem dX5_ease_1 : decode cX5_ease 1 = .ok (.iload_n 1, 1) := by decide +kernel
theorem dX5_ease_2 : decode cX5_ease 2 = .ok (.invokevirtual 134, 3) := by decide +kernel
theorem dX5_ease_5 : decode cX5_ease 5 = .ok (.ifCond .ne 9, 3) := by decide +kernel
theorem dX5_ease_8 : decode cX5_ease 8 = .ok (.aload_n 0, 1) := by decide +kernel
theorem dX5_ease_9 : decode cX5_ease 9 = .ok (.iconst 0, 1) := by decide +kernel
theorem dX5_ease_10 : decode cX5_ease 10 = .ok (.invokevirtual 62, 3) := by decide +kernel
theorem dX5_ease_13 : decode cX5_ease 13 = .ok (.ireturn, 1) := by decide +kernel
theorem dX5_ease_14 : decode cX5_ease 14 = .ok (.aload_n 0, 1) := by decide +kernel
theorem dX5_ease_15 : decode cX5_ease 15 = .ok (.getfield 10, 3) := by decide +kernel
theorem dX5_ease_18 : decode cX5_ease 18 = .ok (.iload_n 1, 1) := by decide +kernel
theorem dX5_ease_19 : decode cX5_ease 19 = .ok (.invokevirtual 152, 3) := by decide +kernel
theorem dX5_ease_22 : decode cX5_ease 22 = .ok (.ifCond .ne 9, 3) := by decide +kernel
theorem dX5_ease_25 : decode cX5_ease 25 = .ok (.aload_n 0, 1) := by decide +kernel
theorem dX5_ease_26 : decode cX5_ease 26 = .ok (.iconst 4, 1) := by decide +kernel
theorem dX5_ease_27 : decode cX5_ease 27 = .ok (.invokevirtual 62, 3) := by decide +kernel
theorem dX5_ease_30 : decode cX5_ease 30 = .ok (.ireturn, 1) := by decide +kernel
theorem dX5_ease_31 : decode cX5_ease 31 = .ok (.aload_n 0, 1) := by decide +kernel
theorem dX5_ease_32 : decode cX5_ease 32 = .ok (.getfield 10, 3) := by decide +kernel
theorem dX5_ease_35 : decode cX5_ease 35 = .ok (.iload_n 1, 1) := by decide +kernel
theorem dX5_ease_36 : decode cX5_ease 36 = .ok (.invokevirtual 155, 3) := by decide +kernel
theorem dX5_ease_39 : decode cX5_ease 39 = .ok (.ireturn, 1) := by decide +kernel
theorem dX5_loose_0 : decode cX5_loose 0 = .ok (.aload_n 0, 1) := by decide +kernel
theorem dX5_loose_1 : decode cX5_loose 1 = .ok (.getfield 10, 3) := by decide +kernel
theorem dX5_loose_4 : decode cX5_loose 4 = .ok (.invokevirtual 113, 3) := by decide +kernel
theorem dX5_loose_7 : decode cX5_loose 7 = .ok (.ireturn, 1) := by decide +kernel
theorem dX5_pact_0 : decode cX5_pact 0 = .ok (.iload_n 1, 1) := by decide +kernel
theorem dX5_pact_1 : decode cX5_pact 1 = .ok (.iload_n 2, 1) := by decide +kernel
theorem dX5_pact_2 : decode cX5_pact 2 = .ok (.invokestatic 125, 3) := by decide +kernel
theorem dX5_pact_5 : decode cX5_pact 5 = .ok (.ifCond .ne 9, 3) := by decide +kernel
theorem dX5_pact_8 : decode cX5_pact 8 = .ok (.aload_n 0, 1) := by decide +kernel
theorem dX5_pact_9 : decode cX5_pact 9 = .ok (.iconst 0, 1) := by decide +kernel
theorem dX5_pact_10 : decode cX5_pact 10 = .ok (.invokevirtual 62, 3) := by decide +kernel
theorem dX5_pact_13 : decode cX5_pact 13 = .ok (.ireturn, 1) := by decide +kernel
theorem dX5_pact_14 : decode cX5_pact 14 = .ok (.aload_n 0, 1) := by decide +kernel
theorem dX5_pact_15 : decode cX5_pact 15 = .ok (.getfield 10, 3) := by decide +kernel
theorem dX5_pact_18 : decode cX5_pact 18 = .ok (.iload_n 1, 1) := by decide +kernel
theorem dX5_pact_19 : decode cX5_pact 19 = .ok (.iload_n 2, 1) := by decide +kernel
theorem dX5_pact_20 : decode cX5_pact 20 = .ok (.invokevirtual 162, 3) := by decide +kernel
theorem dX5_pact_23 : decode cX5_pact 23 = .ok (.ifCond .eq 7, 3) := by decide +kernel
theorem dX5_pact_26 : decode cX5_pact 26 = .ok (.iconst 1, 1) := by decide +kernel
theorem dX5_pact_27 : decode cX5_pact 27 = .ok (.goto 4, 3) := by decide +kernel
theorem dX5_pact_30 : decode cX5_pact 30 = .ok (.iconst 0, 1) := by decide +kernel
theorem dX5_pact_31 : decode cX5_pact 31 = .ok (.ireturn, 1) := by decide +kernel
theorem dX5_plot_0 : decode cX5_plot 0 = .ok (.iconst 0, 1) := by decide +kernel
theorem dX5_plot_1 : decode cX5_plot 1 = .ok (.istore_n 1, 1) := by decide +kernel
theorem dX5_plot_2 : decode cX5_plot 2 = .ok (.iload_n 1, 1) := by decide +kernel
theorem dX5_plot_3 : decode cX5_plot 3 = .ok (.bipush 6, 2) := by decide +kernel
theorem dX5_plot_5 : decode cX5_plot 5 = .ok (.if_icmp .ge 44, 3) := by decide +kernel
theorem dX5_plot_8 : decode cX5_plot 8 = .ok (.iload_n 1, 1) := by decide +kernel
theorem dX5_plot_9 : decode cX5_plot 9 = .ok (.iconst 1, 1) := by decide +kernel
theorem dX5_plot_10 : decode cX5_plot 10 = .ok (.iadd, 1) := by decide +kernel
theorem dX5_plot_11 : decode cX5_plot 11 = .ok (.istore_n 2, 1) := by decide +kernel
theorem dX5_plot_12 : decode cX5_plot 12 = .ok (.iload_n 2, 1) := by decide +kernel
theorem dX5_plot_13 : decode cX5_plot 13 = .ok (.bipush 6, 2) := by decide +kernel
theorem dX5_plot_15 : decode cX5_plot 15 = .ok (.if_icmp .ge 28, 3) := by decide +kernel
theorem dX5_plot_18 : decode cX5_plot 18 = .ok (.aload_n 0, 1) := by decide +kernel
theorem dX5_plot_19 : decode cX5_plot 19 = .ok (.getfield 10, 3) := by decide +kernel
theorem dX5_plot_22 : decode cX5_plot 22 = .ok (.iload_n 1, 1) := by decide +kernel
theorem dX5_plot_23 : decode cX5_plot 23 = .ok (.iload_n 2, 1) := by decide +kernel
theorem dX5_plot_24 : decode cX5_plot 24 = .ok (.invokevirtual 162, 3) := by decide +kernel
theorem dX5_plot_27 : decode cX5_plot 27 = .ok (.ifCond .eq 10, 3) := by decide +kernel
theorem dX5_plot_30 : decode cX5_plot 30 = .ok (.bipush 10, 2) := by decide +kernel
theorem dX5_plot_32 : decode cX5_plot 32 = .ok (.iload_n 1, 1) := by decide +kernel
theorem dX5_plot_33 : decode cX5_plot 33 = .ok (.imul, 1) := by decide +kernel
theorem dX5_plot_34 : decode cX5_plot 34 = .ok (.iload_n 2, 1) := by decide +kernel
theorem dX5_plot_35 : decode cX5_plot 35 = .ok (.iadd, 1) := by decide +kernel
theorem dX5_plot_36 : decode cX5_plot 36 = .ok (.ireturn, 1) := by decide +kernel
theorem dX5_plot_37 : decode cX5_plot 37 = .ok (.iinc 2 1, 3) := by decide +kernel
theorem dX5_plot_40 : decode cX5_plot 40 = .ok (.goto (-28), 3) := by decide +kernel
theorem dX5_plot_43 : decode cX5_plot 43 = .ok (.iinc 1 1, 3) := by decide +kernel
theorem dX5_plot_46 : decode cX5_plot 46 = .ok (.goto (-44), 3) := by decide +kernel
theorem dX5_plot_49 : decode cX5_plot 49 = .ok (.aload_n 0, 1) := by decide +kernel
theorem dX5_plot_50 : decode cX5_plot 50 = .ok (.iconst 3, 1) := by decide +kernel
theorem dX5_plot_51 : decode cX5_plot 51 = .ok (.invokevirtual 62, 3) := by decide +kernel
theorem dX5_plot_54 : decode cX5_plot 54 = .ok (.ireturn, 1) := by decide +kernel
theorem dX5_fall_0 : decode cX5_fall 0 = .ok (.aload_n 0, 1) := by decide +kernel
theorem dX5_fall_1 : decode cX5_fall 1 = .ok (.getfield 10, 3) := by decide +kernel
theorem dX5_fall_4 : decode cX5_fall 4 = .ok (.invokevirtual 165, 3) := by decide +kernel
theorem dX5_fall_7 : decode cX5_fall 7 = .ok (.ireturn, 1) := by decide +kernel
theorem dX5_wouldFall_0 : decode cX5_wouldFall 0 = .ok (.iload_n 1, 1) := by decide +kernel
theorem dX5_wouldFall_1 : decode cX5_wouldFall 1 = .ok (.ifCond .lt 8, 3) := by decide +kernel
theorem dX5_wouldFall_4 : decode cX5_wouldFall 4 = .ok (.iload_n 1, 1) := by decide +kernel
theorem dX5_wouldFall_5 : decode cX5_wouldFall 5 = .ok (.iconst 3, 1) := by decide +kernel
theorem dX5_wouldFall_6 : decode cX5_wouldFall 6 = .ok (.if_icmp .le 9, 3) := by decide +kernel
theorem dX5_wouldFall_9 : decode cX5_wouldFall 9 = .ok (.aload_n 0, 1) := by decide +kernel
theorem dX5_wouldFall_10 : decode cX5_wouldFall 10 = .ok (.iconst 0, 1) := by decide +kernel
theorem dX5_wouldFall_11 : decode cX5_wouldFall 11 = .ok (.invokevirtual 62, 3) := by decide +kernel
theorem dX5_wouldFall_14 : decode cX5_wouldFall 14 = .ok (.ireturn, 1) := by decide +kernel
theorem dX5_wouldFall_15 : decode cX5_wouldFall 15 = .ok (.iload_n 1, 1) := by decide +kernel
theorem dX5_wouldFall_16 : decode cX5_wouldFall 16 = .ok (.iconst 3, 1) := by decide +kernel
theorem dX5_wouldFall_17 : decode cX5_wouldFall 17 = .ok (.if_icmp .ne 11, 3) := by decide +kernel
theorem dX5_wouldFall_20 : decode cX5_wouldFall 20 = .ok (.aload_n 0, 1) := by decide +kernel
theorem dX5_wouldFall_21 : decode cX5_wouldFall 21 = .ok (.getfield 10, 3) := by decide +kernel
theorem dX5_wouldFall_24 : decode cX5_wouldFall 24 = .ok (.invokevirtual 113, 3) := by decide +kernel
theorem dX5_wouldFall_27 : decode cX5_wouldFall 27 = .ok (.ireturn, 1) := by decide +kernel
theorem dX5_wouldFall_28 : decode cX5_wouldFall 28 = .ok (.aload_n 0, 1) := by decide +kernel
theorem dX5_wouldFall_29 : decode cX5_wouldFall 29 = .ok (.getfield 19, 3) := by decide +kernel
theorem dX5_wouldFall_32 : decode cX5_wouldFall 32 = .ok (.aload_n 0, 1) := by decide +kernel
theorem dX5_wouldFall_33 : decode cX5_wouldFall 33 = .ok (.getfield 10, 3) := by decide +kernel
theorem dX5_wouldFall_36 : decode cX5_wouldFall 36 = .ok (.invokevirtual 168, 3) := by decide +kernel
theorem dX5_wouldFall_39 : decode cX5_wouldFall 39 = .ok (.aload_n 0, 1) := by decide +kernel
theorem dX5_wouldFall_40 : decode cX5_wouldFall 40 = .ok (.getfield 19, 3) := by decide +kernel
theorem dX5_wouldFall_43 : decode cX5_wouldFall 43 = .ok (.invokevirtual 165, 3) := by decide +kernel
theorem dX5_wouldFall_46 : decode cX5_wouldFall 46 = .ok (.istore_n 2, 1) := by decide +kernel
theorem dX5_wouldFall_47 : decode cX5_wouldFall 47 = .ok (.iload_n 1, 1) := by decide +kernel
theorem dX5_wouldFall_48 : decode cX5_wouldFall 48 = .ok (.ifCond .ne 5, 3) := by decide +kernel
theorem dX5_wouldFall_51 : decode cX5_wouldFall 51 = .ok (.iload_n 2, 1) := by decide +kernel
theorem dX5_wouldFall_52 : decode cX5_wouldFall 52 = .ok (.ireturn, 1) := by decide +kernel
theorem dX5_wouldFall_53 : decode cX5_wouldFall 53 = .ok (.iload_n 1, 1) := by decide +kernel
theorem dX5_wouldFall_54 : decode cX5_wouldFall 54 = .ok (.iconst 1, 1) := by decide +kernel
theorem dX5_wouldFall_55 : decode cX5_wouldFall 55 = .ok (.if_icmp .ne 23, 3) := by decide +kernel
theorem dX5_wouldFall_58 : decode cX5_wouldFall 58 = .ok (.aload_n 0, 1) := by decide +kernel
theorem dX5_wouldFall_59 : decode cX5_wouldFall 59 = .ok (.getfield 19, 3) := by decide +kernel
theorem dX5_wouldFall_62 : decode cX5_wouldFall 62 = .ok (.getfield 172, 3) := by decide +kernel
theorem dX5_wouldFall_65 : decode cX5_wouldFall 65 = .ok (.aload_n 0, 1) := by decide +kernel
theorem dX5_wouldFall_66 : decode cX5_wouldFall 66 = .ok (.getfield 10, 3) := by decide +kernel
theorem dX5_wouldFall_69 : decode cX5_wouldFall 69 = .ok (.getfield 172, 3) := by decide +kernel
theorem dX5_wouldFall_72 : decode cX5_wouldFall 72 = .ok (.iconst (-1), 1) := by decide +kernel
theorem dX5_wouldFall_73 : decode cX5_wouldFall 73 = .ok (.ixor, 1) := by decide +kernel
theorem dX5_wouldFall_74 : decode cX5_wouldFall 74 = .ok (.iand, 1) := by decide +kernel
theorem dX5_wouldFall_75 : decode cX5_wouldFall 75 = .ok (.goto 20, 3) := by decide +kernel
theorem dX5_wouldFall_78 : decode cX5_wouldFall 78 = .ok (.aload_n 0, 1) := by decide +kernel
theorem dX5_wouldFall_79 : decode cX5_wouldFall 79 = .ok (.getfield 19, 3) := by decide +kernel
theorem dX5_wouldFall_82 : decode cX5_wouldFall 82 = .ok (.getfield 117, 3) := by decide +kernel
theorem dX5_wouldFall_85 : decode cX5_wouldFall 85 = .ok (.aload_n 0, 1) := by decide +kernel
theorem dX5_wouldFall_86 : decode cX5_wouldFall 86 = .ok (.getfield 10, 3) := by decide +kernel
theorem dX5_wouldFall_89 : decode cX5_wouldFall 89 = .ok (.getfield 117, 3) := by decide +kernel
theorem dX5_wouldFall_92 : decode cX5_wouldFall 92 = .ok (.iconst (-1), 1) := by decide +kernel
theorem dX5_wouldFall_93 : decode cX5_wouldFall 93 = .ok (.ixor, 1) := by decide +kernel
theorem dX5_wouldFall_94 : decode cX5_wouldFall 94 = .ok (.iand, 1) := by decide +kernel
theorem dX5_wouldFall_95 : decode cX5_wouldFall 95 = .ok (.ireturn, 1) := by decide +kernel
theorem dX5_pulls_0 : decode cX5_pulls 0 = .ok (.aload_n 0, 1) := by decide +kernel
theorem dX5_pulls_1 : decode cX5_pulls 1 = .ok (.iload_n 1, 1) := by decide +kernel
theorem dX5_pulls_2 : decode cX5_pulls 2 = .ok (.invokevirtual 134, 3) := by decide +kernel
theorem dX5_pulls_5 : decode cX5_pulls 5 = .ok (.ifCond .ne 9, 3) := by decide +kernel
theorem dX5_pulls_8 : decode cX5_pulls 8 = .ok (.aload_n 0, 1) := by decide +kernel
theorem dX5_pulls_9 : decode cX5_pulls 9 = .ok (.iconst 0, 1) := by decide +kernel
theorem dX5_pulls_10 : decode cX5_pulls 10 = .ok (.invokevirtual 62, 3) := by decide +kernel
theorem dX5_pulls_13 : decode cX5_pulls 13 = .ok (.ireturn, 1) := by decide +kernel
theorem dX5_pulls_14 : decode cX5_pulls 14 = .ok (.aload_n 0, 1) := by decide +kernel
theorem dX5_pulls_15 : decode cX5_pulls 15 = .ok (.getfield 10, 3) := by decide +kernel
theorem dX5_pulls_18 : decode cX5_pulls 18 = .ok (.iload_n 1, 1) := by decide +kernel
theorem dX5_pulls_19 : decode cX5_pulls 19 = .ok (.invokevirtual 152, 3) := by decide +kernel
theorem dX5_pulls_22 : decode cX5_pulls 22 = .ok (.ifCond .ne 9, 3) := by decide +kernel
theorem dX5_pulls_25 : decode cX5_pulls 25 = .ok (.aload_n 0, 1) := by decide +kernel
theorem dX5_pulls_26 : decode cX5_pulls 26 = .ok (.iconst 4, 1) := by decide +kernel
theorem dX5_pulls_27 : decode cX5_pulls 27 = .ok (.invokevirtual 62, 3) := by decide +kernel
theorem dX5_pulls_30 : decode cX5_pulls 30 = .ok (.ireturn, 1) := by decide +kernel
theorem dX5_pulls_31 : decode cX5_pulls 31 = .ok (.aload_n 0, 1) := by decide +kernel
theorem dX5_pulls_32 : decode cX5_pulls 32 = .ok (.iload_n 1, 1) := by decide +kernel
theorem dX5_pulls_33 : decode cX5_pulls 33 = .ok (.invokevirtual 175, 3) := by decide +kernel
theorem dX5_pulls_36 : decode cX5_pulls 36 = .ok (.ireturn, 1) := by decide +kernel
theorem dX5_keystone_0 : decode cX5_keystone 0 = .ok (.iconst (-1), 1) := by decide +kernel
theorem dX5_keystone_1 : decode cX5_keystone 1 = .ok (.istore_n 1, 1) := by decide +kernel
theorem dX5_keystone_2 : decode cX5_keystone 2 = .ok (.iconst 0, 1) := by decide +kernel
theorem dX5_keystone_3 : decode cX5_keystone 3 = .ok (.istore_n 2, 1) := by decide +kernel
theorem dX5_keystone_4 : decode cX5_keystone 4 = .ok (.iconst 0, 1) := by decide +kernel
theorem dX5_keystone_5 : decode cX5_keystone 5 = .ok (.istore_n 3, 1) := by decide +kernel
theorem dX5_keystone_6 : decode cX5_keystone 6 = .ok (.iload_n 3, 1) := by decide +kernel
theorem dX5_keystone_7 : decode cX5_keystone 7 = .ok (.aload_n 0, 1) := by decide +kernel
theorem dX5_keystone_8 : decode cX5_keystone 8 = .ok (.getfield 10, 3) := by decide +kernel
theorem dX5_keystone_11 : decode cX5_keystone 11 = .ok (.getfield 128, 3) := by decide +kernel
theorem dX5_keystone_14 : decode cX5_keystone 14 = .ok (.if_icmp .ge 44, 3) := by decide +kernel
theorem dX5_keystone_17 : decode cX5_keystone 17 = .ok (.aload_n 0, 1) := by decide +kernel
theorem dX5_keystone_18 : decode cX5_keystone 18 = .ok (.getfield 10, 3) := by decide +kernel
theorem dX5_keystone_21 : decode cX5_keystone 21 = .ok (.iload_n 3, 1) := by decide +kernel
theorem dX5_keystone_22 : decode cX5_keystone 22 = .ok (.invokevirtual 152, 3) := by decide +kernel
theorem dX5_keystone_25 : decode cX5_keystone 25 = .ok (.ifCond .ne 6, 3) := by decide +kernel
theorem dX5_keystone_28 : decode cX5_keystone 28 = .ok (.goto 24, 3) := by decide +kernel
theorem dX5_keystone_31 : decode cX5_keystone 31 = .ok (.aload_n 0, 1) := by decide +kernel
theorem dX5_keystone_32 : decode cX5_keystone 32 = .ok (.iload_n 3, 1) := by decide +kernel
theorem dX5_keystone_33 : decode cX5_keystone 33 = .ok (.invokevirtual 175, 3) := by decide +kernel
theorem dX5_keystone_36 : decode cX5_keystone 36 = .ok (.invokestatic 120, 3) := by decide +kernel
theorem dX5_keystone_39 : decode cX5_keystone 39 = .ok (.istore 4, 2) := by decide +kernel
theorem dX5_keystone_41 : decode cX5_keystone 41 = .ok (.iload 4, 2) := by decide +kernel
theorem dX5_keystone_43 : decode cX5_keystone 43 = .ok (.iload_n 2, 1) := by decide +kernel
theorem dX5_keystone_44 : decode cX5_keystone 44 = .ok (.if_icmp .le 8, 3) := by decide +kernel
theorem dX5_keystone_47 : decode cX5_keystone 47 = .ok (.iload 4, 2) := by decide +kernel
theorem dX5_keystone_49 : decode cX5_keystone 49 = .ok (.istore_n 2, 1) := by decide +kernel
theorem dX5_keystone_50 : decode cX5_keystone 50 = .ok (.iload_n 3, 1) := by decide +kernel
theorem dX5_keystone_51 : decode cX5_keystone 51 = .ok (.istore_n 1, 1) := by decide +kernel
theorem dX5_keystone_52 : decode cX5_keystone 52 = .ok (.iinc 3 1, 3) := by decide +kernel
theorem dX5_keystone_55 : decode cX5_keystone 55 = .ok (.goto (-49), 3) := by decide +kernel
theorem dX5_keystone_58 : decode cX5_keystone 58 = .ok (.iload_n 1, 1) := by decide +kernel
theorem dX5_keystone_59 : decode cX5_keystone 59 = .ok (.ifCond .ge 11, 3) := by decide +kernel
theorem dX5_keystone_62 : decode cX5_keystone 62 = .ok (.aload_n 0, 1) := by decide +kernel
theorem dX5_keystone_63 : decode cX5_keystone 63 = .ok (.iconst 3, 1) := by decide +kernel
theorem dX5_keystone_64 : decode cX5_keystone 64 = .ok (.invokevirtual 62, 3) := by decide +kernel
theorem dX5_keystone_67 : decode cX5_keystone 67 = .ok (.goto 4, 3) := by decide +kernel
theorem dX5_keystone_70 : decode cX5_keystone 70 = .ok (.iload_n 1, 1) := by decide +kernel
theorem dX5_keystone_71 : decode cX5_keystone 71 = .ok (.ireturn, 1) := by decide +kernel
theorem dX5_months_0 : decode cX5_months 0 = .ok (.iload_n 1, 1) := by decide +kernel
theorem dX5_months_1 : decode cX5_months 1 = .ok (.iconst 1, 1) := by decide +kernel
theorem dX5_months_2 : decode cX5_months 2 = .ok (.if_icmp .lt 9, 3) := by decide +kernel
theorem dX5_months_5 : decode cX5_months 5 = .ok (.iload_n 1, 1) := by decide +kernel
theorem dX5_months_6 : decode cX5_months 6 = .ok (.bipush 60, 2) := by decide +kernel
theorem dX5_months_8 : decode cX5_months 8 = .ok (.if_icmp .le 9, 3) := by decide +kernel
theorem dX5_months_11 : decode cX5_months 11 = .ok (.aload_n 0, 1) := by decide +kernel
theorem dX5_months_12 : decode cX5_months 12 = .ok (.iconst 0, 1) := by decide +kernel
theorem dX5_months_13 : decode cX5_months 13 = .ok (.invokevirtual 62, 3) := by decide +kernel
theorem dX5_months_16 : decode cX5_months 16 = .ok (.ireturn, 1) := by decide +kernel
theorem dX5_months_17 : decode cX5_months 17 = .ok (.aload_n 0, 1) := by decide +kernel
theorem dX5_months_18 : decode cX5_months 18 = .ok (.getfield 10, 3) := by decide +kernel
theorem dX5_months_21 : decode cX5_months 21 = .ok (.getfield 178, 3) := by decide +kernel
theorem dX5_months_24 : decode cX5_months 24 = .ok (.iload_n 1, 1) := by decide +kernel
theorem dX5_months_25 : decode cX5_months 25 = .ok (.iadd, 1) := by decide +kernel
theorem dX5_months_26 : decode cX5_months 26 = .ok (.sipush 999, 3) := by decide +kernel
theorem dX5_months_29 : decode cX5_months 29 = .ok (.if_icmp .le 9, 3) := by decide +kernel
theorem dX5_months_32 : decode cX5_months 32 = .ok (.aload_n 0, 1) := by decide +kernel
theorem dX5_months_33 : decode cX5_months 33 = .ok (.iconst 4, 1) := by decide +kernel
theorem dX5_months_34 : decode cX5_months 34 = .ok (.invokevirtual 62, 3) := by decide +kernel
theorem dX5_months_37 : decode cX5_months 37 = .ok (.ireturn, 1) := by decide +kernel
theorem dX5_months_38 : decode cX5_months 38 = .ok (.aload_n 0, 1) := by decide +kernel
theorem dX5_months_39 : decode cX5_months 39 = .ok (.getfield 10, 3) := by decide +kernel
theorem dX5_months_42 : decode cX5_months 42 = .ok (.getfield 172, 3) := by decide +kernel
theorem dX5_months_45 : decode cX5_months 45 = .ok (.istore_n 2, 1) := by decide +kernel
theorem dX5_months_46 : decode cX5_months 46 = .ok (.aload_n 0, 1) := by decide +kernel
theorem dX5_months_47 : decode cX5_months 47 = .ok (.getfield 10, 3) := by decide +kernel
theorem dX5_months_50 : decode cX5_months 50 = .ok (.iload_n 1, 1) := by decide +kernel
theorem dX5_months_51 : decode cX5_months 51 = .ok (.invokevirtual 181, 3) := by decide +kernel
theorem dX5_months_54 : decode cX5_months 54 = .ok (.aload_n 0, 1) := by decide +kernel
theorem dX5_months_55 : decode cX5_months 55 = .ok (.getfield 10, 3) := by decide +kernel
theorem dX5_months_58 : decode cX5_months 58 = .ok (.getfield 172, 3) := by decide +kernel
theorem dX5_months_61 : decode cX5_months 61 = .ok (.iload_n 2, 1) := by decide +kernel
theorem dX5_months_62 : decode cX5_months 62 = .ok (.iconst (-1), 1) := by decide +kernel
theorem dX5_months_63 : decode cX5_months 63 = .ok (.ixor, 1) := by decide +kernel
theorem dX5_months_64 : decode cX5_months 64 = .ok (.iand, 1) := by decide +kernel
theorem dX5_months_65 : decode cX5_months 65 = .ok (.invokestatic 120, 3) := by decide +kernel
theorem dX5_months_68 : decode cX5_months 68 = .ok (.ireturn, 1) := by decide +kernel
theorem dX5_now_0 : decode cX5_now 0 = .ok (.iload_n 1, 1) := by decide +kernel
theorem dX5_now_1 : decode cX5_now 1 = .ok (.tableswitch 87 0 4 #[35, 43, 54, 65, 76], 35) := by decide +kernel
theorem dX5_now_36 : decode cX5_now 36 = .ok (.aload_n 0, 1) := by decide +kernel
theorem dX5_now_37 : decode cX5_now 37 = .ok (.getfield 10, 3) := by decide +kernel
theorem dX5_now_40 : decode cX5_now 40 = .ok (.getfield 178, 3) := by decide +kernel
theorem dX5_now_43 : decode cX5_now 43 = .ok (.ireturn, 1) := by decide +kernel
theorem dX5_now_44 : decode cX5_now 44 = .ok (.aload_n 0, 1) := by decide +kernel
theorem dX5_now_45 : decode cX5_now 45 = .ok (.getfield 10, 3) := by decide +kernel
theorem dX5_now_48 : decode cX5_now 48 = .ok (.invokevirtual 185, 3) := by decide +kernel
theorem dX5_now_51 : decode cX5_now 51 = .ok (.invokestatic 120, 3) := by decide +kernel
theorem dX5_now_54 : decode cX5_now 54 = .ok (.ireturn, 1) := by decide +kernel
theorem dX5_now_55 : decode cX5_now 55 = .ok (.aload_n 0, 1) := by decide +kernel
theorem dX5_now_56 : decode cX5_now 56 = .ok (.getfield 10, 3) := by decide +kernel
theorem dX5_now_59 : decode cX5_now 59 = .ok (.getfield 172, 3) := by decide +kernel
theorem dX5_now_62 : decode cX5_now 62 = .ok (.invokestatic 120, 3) := by decide +kernel
theorem dX5_now_65 : decode cX5_now 65 = .ok (.ireturn, 1) := by decide +kernel
theorem dX5_now_66 : decode cX5_now 66 = .ok (.aload_n 0, 1) := by decide +kernel
theorem dX5_now_67 : decode cX5_now 67 = .ok (.getfield 10, 3) := by decide +kernel
theorem dX5_now_70 : decode cX5_now 70 = .ok (.invokevirtual 188, 3) := by decide +kernel
theorem dX5_now_73 : decode cX5_now 73 = .ok (.invokestatic 120, 3) := by decide +kernel
theorem dX5_now_76 : decode cX5_now 76 = .ok (.ireturn, 1) := by decide +kernel
theorem dX5_now_77 : decode cX5_now 77 = .ok (.aload_n 0, 1) := by decide +kernel
theorem dX5_now_78 : decode cX5_now 78 = .ok (.getfield 10, 3) := by decide +kernel
theorem dX5_now_81 : decode cX5_now 81 = .ok (.invokevirtual 191, 3) := by decide +kernel
theorem dX5_now_84 : decode cX5_now 84 = .ok (.invokestatic 120, 3) := by decide +kernel
theorem dX5_now_87 : decode cX5_now 87 = .ok (.ireturn, 1) := by decide +kernel
theorem dX5_now_88 : decode cX5_now 88 = .ok (.aload_n 0, 1) := by decide +kernel
theorem dX5_now_89 : decode cX5_now 89 = .ok (.iconst 0, 1) := by decide +kernel
theorem dX5_now_90 : decode cX5_now 90 = .ok (.invokevirtual 62, 3) := by decide +kernel
theorem dX5_now_93 : decode cX5_now 93 = .ok (.ireturn, 1) := by decide +kernel
theorem dX5_on_0 : decode cX5_on 0 = .ok (.iload_n 1, 1) := by decide +kernel
theorem dX5_on_1 : decode cX5_on 1 = .ok (.bipush 120, 2) := by decide +kernel
theorem dX5_on_3 : decode cX5_on 3 = .ok (.invokestatic 58, 3) := by decide +kernel
theorem dX5_on_6 : decode cX5_on 6 = .ok (.ifCond .ne 9, 3) := by decide +kernel
theorem dX5_on_9 : decode cX5_on 9 = .ok (.aload_n 0, 1) := by decide +kernel
theorem dX5_on_10 : decode cX5_on 10 = .ok (.iconst 0, 1) := by decide +kernel
theorem dX5_on_11 : decode cX5_on 11 = .ok (.invokevirtual 62, 3) := by decide +kernel
theorem dX5_on_14 : decode cX5_on 14 = .ok (.ireturn, 1) := by decide +kernel
theorem dX5_on_15 : decode cX5_on 15 = .ok (.aload_n 0, 1) := by decide +kernel
theorem dX5_on_16 : decode cX5_on 16 = .ok (.getfield 10, 3) := by decide +kernel
theorem dX5_on_19 : decode cX5_on 19 = .ok (.getfield 178, 3) := by decide +kernel
theorem dX5_on_22 : decode cX5_on 22 = .ok (.iload_n 1, 1) := by decide +kernel
theorem dX5_on_23 : decode cX5_on 23 = .ok (.iadd, 1) := by decide +kernel
theorem dX5_on_24 : decode cX5_on 24 = .ok (.sipush 999, 3) := by decide +kernel
theorem dX5_on_27 : decode cX5_on 27 = .ok (.if_icmp .le 9, 3) := by decide +kernel
theorem dX5_on_30 : decode cX5_on 30 = .ok (.aload_n 0, 1) := by decide +kernel
theorem dX5_on_31 : decode cX5_on 31 = .ok (.iconst 4, 1) := by decide +kernel
theorem dX5_on_32 : decode cX5_on 32 = .ok (.invokevirtual 62, 3) := by decide +kernel
theorem dX5_on_35 : decode cX5_on 35 = .ok (.ireturn, 1) := by decide +kernel
theorem dX5_on_36 : decode cX5_on 36 = .ok (.aload_n 0, 1) := by decide +kernel
theorem dX5_on_37 : decode cX5_on 37 = .ok (.getfield 19, 3) := by decide +kernel
theorem dX5_on_40 : decode cX5_on 40 = .ok (.aload_n 0, 1) := by decide +kernel
theorem dX5_on_41 : decode cX5_on 41 = .ok (.getfield 10, 3) := by decide +kernel
theorem dX5_on_44 : decode cX5_on 44 = .ok (.invokevirtual 168, 3) := by decide +kernel
theorem dX5_on_47 : decode cX5_on 47 = .ok (.aload_n 0, 1) := by decide +kernel
theorem dX5_on_48 : decode cX5_on 48 = .ok (.getfield 19, 3) := by decide +kernel
theorem dX5_on_51 : decode cX5_on 51 = .ok (.iload_n 1, 1) := by decide +kernel
theorem dX5_on_52 : decode cX5_on 52 = .ok (.invokevirtual 181, 3) := by decide +kernel
theorem dX5_on_55 : decode cX5_on 55 = .ok (.aload_n 0, 1) := by decide +kernel
theorem dX5_on_56 : decode cX5_on 56 = .ok (.getfield 19, 3) := by decide +kernel
theorem dX5_on_59 : decode cX5_on 59 = .ok (.invokevirtual 185, 3) := by decide +kernel
theorem dX5_on_62 : decode cX5_on 62 = .ok (.ireturn, 1) := by decide +kernel
theorem dX5_moves_0 : decode cX5_moves 0 = .ok (.iload_n 1, 1) := by decide +kernel
theorem dX5_moves_1 : decode cX5_moves 1 = .ok (.ifCond .lt 8, 3) := by decide +kernel
theorem dX5_moves_4 : decode cX5_moves 4 = .ok (.iload_n 1, 1) := by decide +kernel
theorem dX5_moves_5 : decode cX5_moves 5 = .ok (.iconst 2, 1) := by decide +kernel
theorem dX5_moves_6 : decode cX5_moves 6 = .ok (.if_icmp .le 9, 3) := by decide +kernel
theorem dX5_moves_9 : decode cX5_moves 9 = .ok (.aload_n 0, 1) := by decide +kernel
theorem dX5_moves_10 : decode cX5_moves 10 = .ok (.iconst 0, 1) := by decide +kernel
theorem dX5_moves_11 : decode cX5_moves 11 = .ok (.invokevirtual 62, 3) := by decide +kernel
theorem dX5_moves_14 : decode cX5_moves 14 = .ok (.ireturn, 1) := by decide +kernel
theorem dX5_moves_15 : decode cX5_moves 15 = .ok (.aload_n 0, 1) := by decide +kernel
theorem dX5_moves_16 : decode cX5_moves 16 = .ok (.getfield 25, 3) := by decide +kernel
theorem dX5_moves_19 : decode cX5_moves 19 = .ok (.aload_n 0, 1) := by decide +kernel
theorem dX5_moves_20 : decode cX5_moves 20 = .ok (.getfield 10, 3) := by decide +kernel
theorem dX5_moves_23 : decode cX5_moves 23 = .ok (.invokevirtual 194, 3) := by decide +kernel
theorem dX5_moves_26 : decode cX5_moves 26 = .ok (.istore_n 2, 1) := by decide +kernel
theorem dX5_moves_27 : decode cX5_moves 27 = .ok (.iload_n 2, 1) := by decide +kernel
theorem dX5_moves_28 : decode cX5_moves 28 = .ok (.ifCond .lt 8, 3) := by decide +kernel
theorem dX5_moves_31 : decode cX5_moves 31 = .ok (.iload_n 1, 1) := by decide +kernel
theorem dX5_moves_32 : decode cX5_moves 32 = .ok (.iload_n 2, 1) := by decide +kernel
theorem dX5_moves_33 : decode cX5_moves 33 = .ok (.if_icmp .le 9, 3) := by decide +kernel
theorem dX5_moves_36 : decode cX5_moves 36 = .ok (.aload_n 0, 1) := by decide +kernel
theorem dX5_moves_37 : decode cX5_moves 37 = .ok (.iconst 3, 1) := by decide +kernel
theorem dX5_moves_38 : decode cX5_moves 38 = .ok (.invokevirtual 62, 3) := by decide +kernel
theorem dX5_moves_41 : decode cX5_moves 41 = .ok (.ireturn, 1) := by decide +kernel
theorem dX5_moves_42 : decode cX5_moves 42 = .ok (.iload_n 1, 1) := by decide +kernel
theorem dX5_moves_43 : decode cX5_moves 43 = .ok (.ifCond .ne 5, 3) := by decide +kernel
theorem dX5_moves_46 : decode cX5_moves 46 = .ok (.iload_n 2, 1) := by decide +kernel
theorem dX5_moves_47 : decode cX5_moves 47 = .ok (.ireturn, 1) := by decide +kernel
theorem dX5_moves_48 : decode cX5_moves 48 = .ok (.iload_n 1, 1) := by decide +kernel
theorem dX5_moves_49 : decode cX5_moves 49 = .ok (.iconst 1, 1) := by decide +kernel
theorem dX5_moves_50 : decode cX5_moves 50 = .ok (.if_icmp .ne 13, 3) := by decide +kernel
theorem dX5_moves_53 : decode cX5_moves 53 = .ok (.aload_n 0, 1) := by decide +kernel
theorem dX5_moves_54 : decode cX5_moves 54 = .ok (.getfield 25, 3) := by decide +kernel
theorem dX5_moves_57 : decode cX5_moves 57 = .ok (.getfield 198, 3) := by decide +kernel
theorem dX5_moves_60 : decode cX5_moves 60 = .ok (.goto 10, 3) := by decide +kernel
theorem dX5_moves_63 : decode cX5_moves 63 = .ok (.aload_n 0, 1) := by decide +kernel
theorem dX5_moves_64 : decode cX5_moves 64 = .ok (.getfield 25, 3) := by decide +kernel
theorem dX5_moves_67 : decode cX5_moves 67 = .ok (.getfield 201, 3) := by decide +kernel
theorem dX5_moves_70 : decode cX5_moves 70 = .ok (.ireturn, 1) := by decide +kernel
theorem dX5_best_0 : decode cX5_best 0 = .ok (.aload_n 0, 1) := by decide +kernel
theorem dX5_best_1 : decode cX5_best 1 = .ok (.iload_n 1, 1) := by decide +kernel
theorem dX5_best_2 : decode cX5_best 2 = .ok (.invokevirtual 89, 3) := by decide +kernel
theorem dX5_best_5 : decode cX5_best 5 = .ok (.ifCond .ne 9, 3) := by decide +kernel
theorem dX5_best_8 : decode cX5_best 8 = .ok (.aload_n 0, 1) := by decide +kernel
theorem dX5_best_9 : decode cX5_best 9 = .ok (.iconst 0, 1) := by decide +kernel
theorem dX5_best_10 : decode cX5_best 10 = .ok (.invokevirtual 62, 3) := by decide +kernel
theorem dX5_best_13 : decode cX5_best 13 = .ok (.ireturn, 1) := by decide +kernel
theorem dX5_best_14 : decode cX5_best 14 = .ok (.aload_n 0, 1) := by decide +kernel
theorem dX5_best_15 : decode cX5_best 15 = .ok (.getfield 10, 3) := by decide +kernel
theorem dX5_best_18 : decode cX5_best 18 = .ok (.iload_n 1, 1) := by decide +kernel
theorem dX5_best_19 : decode cX5_best 19 = .ok (.invokevirtual 104, 3) := by decide +kernel
theorem dX5_best_22 : decode cX5_best 22 = .ok (.ifCond .eq 9, 3) := by decide +kernel
theorem dX5_best_25 : decode cX5_best 25 = .ok (.aload_n 0, 1) := by decide +kernel
theorem dX5_best_26 : decode cX5_best 26 = .ok (.iconst 4, 1) := by decide +kernel
theorem dX5_best_27 : decode cX5_best 27 = .ok (.invokevirtual 62, 3) := by decide +kernel
theorem dX5_best_30 : decode cX5_best 30 = .ok (.ireturn, 1) := by decide +kernel
theorem dX5_best_31 : decode cX5_best 31 = .ok (.aload_n 0, 1) := by decide +kernel
theorem dX5_best_32 : decode cX5_best 32 = .ok (.getfield 19, 3) := by decide +kernel
theorem dX5_best_35 : decode cX5_best 35 = .ok (.aload_n 0, 1) := by decide +kernel
theorem dX5_best_36 : decode cX5_best 36 = .ok (.getfield 10, 3) := by decide +kernel
theorem dX5_best_39 : decode cX5_best 39 = .ok (.invokevirtual 168, 3) := by decide +kernel
theorem dX5_best_42 : decode cX5_best 42 = .ok (.iconst 0, 1) := by decide +kernel
theorem dX5_best_43 : decode cX5_best 43 = .ok (.istore_n 2, 1) := by decide +kernel
theorem dX5_best_44 : decode cX5_best 44 = .ok (.bipush 13, 2) := by decide +kernel
theorem dX5_best_46 : decode cX5_best 46 = .ok (.istore_n 3, 1) := by decide +kernel
theorem dX5_best_47 : decode cX5_best 47 = .ok (.iconst 0, 1) := by decide +kernel
theorem dX5_best_48 : decode cX5_best 48 = .ok (.istore 4, 2) := by decide +kernel
theorem dX5_best_50 : decode cX5_best 50 = .ok (.iload 4, 2) := by decide +kernel
theorem dX5_best_52 : decode cX5_best 52 = .ok (.bipush 6, 2) := by decide +kernel
theorem dX5_best_54 : decode cX5_best 54 = .ok (.if_icmp .ge 44, 3) := by decide +kernel
theorem dX5_best_57 : decode cX5_best 57 = .ok (.aload_n 0, 1) := by decide +kernel
theorem dX5_best_58 : decode cX5_best 58 = .ok (.getfield 19, 3) := by decide +kernel
theorem dX5_best_61 : decode cX5_best 61 = .ok (.getfield 98, 3) := by decide +kernel
theorem dX5_best_64 : decode cX5_best 64 = .ok (.iload_n 1, 1) := by decide +kernel
theorem dX5_best_65 : decode cX5_best 65 = .ok (.iload 4, 2) := by decide +kernel
theorem dX5_best_67 : decode cX5_best 67 = .ok (.iastore, 1) := by decide +kernel
theorem dX5_best_68 : decode cX5_best 68 = .ok (.aload_n 0, 1) := by decide +kernel
theorem dX5_best_69 : decode cX5_best 69 = .ok (.getfield 19, 3) := by decide +kernel
theorem dX5_best_72 : decode cX5_best 72 = .ok (.invokevirtual 113, 3) := by decide +kernel
theorem dX5_best_75 : decode cX5_best 75 = .ok (.invokestatic 120, 3) := by decide +kernel
theorem dX5_best_78 : decode cX5_best 78 = .ok (.istore 5, 2) := by decide +kernel
theorem dX5_best_80 : decode cX5_best 80 = .ok (.iload 5, 2) := by decide +kernel
theorem dX5_best_82 : decode cX5_best 82 = .ok (.iload_n 3, 1) := by decide +kernel
theorem dX5_best_83 : decode cX5_best 83 = .ok (.if_icmp .ge 9, 3) := by decide +kernel
theorem dX5_best_86 : decode cX5_best 86 = .ok (.iload 5, 2) := by decide +kernel
theorem dX5_best_88 : decode cX5_best 88 = .ok (.istore_n 3, 1) := by decide +kernel
theorem dX5_best_89 : decode cX5_best 89 = .ok (.iload 4, 2) := by decide +kernel
theorem dX5_best_91 : decode cX5_best 91 = .ok (.istore_n 2, 1) := by decide +kernel
theorem dX5_best_92 : decode cX5_best 92 = .ok (.iinc 4 1, 3) := by decide +kernel
theorem dX5_best_95 : decode cX5_best 95 = .ok (.goto (-45), 3) := by decide +kernel
theorem dX5_best_98 : decode cX5_best 98 = .ok (.iload_n 2, 1) := by decide +kernel
theorem dX5_best_99 : decode cX5_best 99 = .ok (.ireturn, 1) := by decide +kernel
theorem dX5_key_0 : decode cX5_key 0 = .ok (.iload_n 1, 1) := by decide +kernel
theorem dX5_key_1 : decode cX5_key 1 = .ok (.invokestatic 54, 3) := by decide +kernel
theorem dX5_key_4 : decode cX5_key 4 = .ok (.ifCond .ne 9, 3) := by decide +kernel
theorem dX5_key_7 : decode cX5_key 7 = .ok (.aload_n 0, 1) := by decide +kernel
theorem dX5_key_8 : decode cX5_key 8 = .ok (.iconst 0, 1) := by decide +kernel
theorem dX5_key_9 : decode cX5_key 9 = .ok (.invokevirtual 62, 3) := by decide +kernel
theorem dX5_key_12 : decode cX5_key 12 = .ok (.ireturn, 1) := by decide +kernel
theorem dX5_key_13 : decode cX5_key 13 = .ok (.aload_n 0, 1) := by decide +kernel
theorem dX5_key_14 : decode cX5_key 14 = .ok (.getfield 19, 3) := by decide +kernel
theorem dX5_key_17 : decode cX5_key 17 = .ok (.aload_n 0, 1) := by decide +kernel
theorem dX5_key_18 : decode cX5_key 18 = .ok (.getfield 10, 3) := by decide +kernel
theorem dX5_key_21 : decode cX5_key 21 = .ok (.invokevirtual 168, 3) := by decide +kernel
theorem dX5_key_24 : decode cX5_key 24 = .ok (.aload_n 0, 1) := by decide +kernel
theorem dX5_key_25 : decode cX5_key 25 = .ok (.getfield 10, 3) := by decide +kernel
theorem dX5_key_28 : decode cX5_key 28 = .ok (.invokevirtual 113, 3) := by decide +kernel
theorem dX5_key_31 : decode cX5_key 31 = .ok (.istore_n 2, 1) := by decide +kernel
theorem dX5_key_32 : decode cX5_key 32 = .ok (.iconst (-1), 1) := by decide +kernel
theorem dX5_key_33 : decode cX5_key 33 = .ok (.istore_n 3, 1) := by decide +kernel
theorem dX5_key_34 : decode cX5_key 34 = .ok (.iconst 0, 1) := by decide +kernel
theorem dX5_key_35 : decode cX5_key 35 = .ok (.istore 4, 2) := by decide +kernel
theorem dX5_key_37 : decode cX5_key 37 = .ok (.iconst 0, 1) := by decide +kernel
theorem dX5_key_38 : decode cX5_key 38 = .ok (.istore 5, 2) := by decide +kernel
theorem dX5_key_40 : decode cX5_key 40 = .ok (.iload 5, 2) := by decide +kernel
theorem dX5_key_42 : decode cX5_key 42 = .ok (.aload_n 0, 1) := by decide +kernel
theorem dX5_key_43 : decode cX5_key 43 = .ok (.getfield 10, 3) := by decide +kernel
theorem dX5_key_46 : decode cX5_key 46 = .ok (.getfield 81, 3) := by decide +kernel
theorem dX5_key_49 : decode cX5_key 49 = .ok (.if_icmp .ge 99, 3) := by decide +kernel
theorem dX5_key_52 : decode cX5_key 52 = .ok (.aload_n 0, 1) := by decide +kernel
theorem dX5_key_53 : decode cX5_key 53 = .ok (.getfield 10, 3) := by decide +kernel
theorem dX5_key_56 : decode cX5_key 56 = .ok (.getfield 95, 3) := by decide +kernel
theorem dX5_key_59 : decode cX5_key 59 = .ok (.iload 5, 2) := by decide +kernel
theorem dX5_key_61 : decode cX5_key 61 = .ok (.iaload, 1) := by decide +kernel
theorem dX5_key_62 : decode cX5_key 62 = .ok (.iload_n 1, 1) := by decide +kernel
theorem dX5_key_63 : decode cX5_key 63 = .ok (.if_icmp .ne 79, 3) := by decide +kernel
theorem dX5_key_66 : decode cX5_key 66 = .ok (.aload_n 0, 1) := by decide +kernel
theorem dX5_key_67 : decode cX5_key 67 = .ok (.getfield 10, 3) := by decide +kernel
theorem dX5_key_70 : decode cX5_key 70 = .ok (.iload 5, 2) := by decide +kernel
theorem dX5_key_72 : decode cX5_key 72 = .ok (.invokevirtual 104, 3) := by decide +kernel
theorem dX5_key_75 : decode cX5_key 75 = .ok (.ifCond .eq 6, 3) := by decide +kernel
theorem dX5_key_78 : decode cX5_key 78 = .ok (.goto 64, 3) := by decide +kernel
theorem dX5_key_81 : decode cX5_key 81 = .ok (.aload_n 0, 1) := by decide +kernel
theorem dX5_key_82 : decode cX5_key 82 = .ok (.getfield 19, 3) := by decide +kernel
theorem dX5_key_85 : decode cX5_key 85 = .ok (.getfield 98, 3) := by decide +kernel
theorem dX5_key_88 : decode cX5_key 88 = .ok (.iload 5, 2) := by decide +kernel
theorem dX5_key_90 : decode cX5_key 90 = .ok (.iload_n 1, 1) := by decide +kernel
theorem dX5_key_91 : decode cX5_key 91 = .ok (.iastore, 1) := by decide +kernel
theorem dX5_key_92 : decode cX5_key 92 = .ok (.aload_n 0, 1) := by decide +kernel
theorem dX5_key_93 : decode cX5_key 93 = .ok (.getfield 19, 3) := by decide +kernel
theorem dX5_key_96 : decode cX5_key 96 = .ok (.invokevirtual 113, 3) := by decide +kernel
theorem dX5_key_99 : decode cX5_key 99 = .ok (.iload_n 2, 1) := by decide +kernel
theorem dX5_key_100 : decode cX5_key 100 = .ok (.iconst (-1), 1) := by decide +kernel
theorem dX5_key_101 : decode cX5_key 101 = .ok (.ixor, 1) := by decide +kernel
theorem dX5_key_102 : decode cX5_key 102 = .ok (.iand, 1) := by decide +kernel
theorem dX5_key_103 : decode cX5_key 103 = .ok (.invokestatic 120, 3) := by decide +kernel
theorem dX5_key_106 : decode cX5_key 106 = .ok (.istore 6, 2) := by decide +kernel
theorem dX5_key_108 : decode cX5_key 108 = .ok (.aload_n 0, 1) := by decide +kernel
theorem dX5_key_109 : decode cX5_key 109 = .ok (.getfield 19, 3) := by decide +kernel
theorem dX5_key_112 : decode cX5_key 112 = .ok (.getfield 98, 3) := by decide +kernel
theorem dX5_key_115 : decode cX5_key 115 = .ok (.iload 5, 2) := by decide +kernel
theorem dX5_key_117 : decode cX5_key 117 = .ok (.aload_n 0, 1) := by decide +kernel
theorem dX5_key_118 : decode cX5_key 118 = .ok (.getfield 10, 3) := by decide +kernel
theorem dX5_key_121 : decode cX5_key 121 = .ok (.getfield 98, 3) := by decide +kernel
theorem dX5_key_124 : decode cX5_key 124 = .ok (.iload 5, 2) := by decide +kernel
theorem dX5_key_126 : decode cX5_key 126 = .ok (.iaload, 1) := by decide +kernel
theorem dX5_key_127 : decode cX5_key 127 = .ok (.iastore, 1) := by decide +kernel
theorem dX5_key_128 : decode cX5_key 128 = .ok (.iload 6, 2) := by decide +kernel
theorem dX5_key_130 : decode cX5_key 130 = .ok (.iload 4, 2) := by decide +kernel
theorem dX5_key_132 : decode cX5_key 132 = .ok (.if_icmp .le 10, 3) := by decide +kernel
theorem dX5_key_135 : decode cX5_key 135 = .ok (.iload 6, 2) := by decide +kernel
theorem dX5_key_137 : decode cX5_key 137 = .ok (.istore 4, 2) := by decide +kernel
theorem dX5_key_139 : decode cX5_key 139 = .ok (.iload 5, 2) := by decide +kernel
theorem dX5_key_141 : decode cX5_key 141 = .ok (.istore_n 3, 1) := by decide +kernel
theorem dX5_key_142 : decode cX5_key 142 = .ok (.iinc 5 1, 3) := by decide +kernel
theorem dX5_key_145 : decode cX5_key 145 = .ok (.goto (-105), 3) := by decide +kernel
theorem dX5_key_148 : decode cX5_key 148 = .ok (.iload_n 3, 1) := by decide +kernel
theorem dX5_key_149 : decode cX5_key 149 = .ok (.ifCond .ge 11, 3) := by decide +kernel
theorem dX5_key_152 : decode cX5_key 152 = .ok (.aload_n 0, 1) := by decide +kernel
theorem dX5_key_153 : decode cX5_key 153 = .ok (.iconst 3, 1) := by decide +kernel
theorem dX5_key_154 : decode cX5_key 154 = .ok (.invokevirtual 62, 3) := by decide +kernel
theorem dX5_key_157 : decode cX5_key 157 = .ok (.goto 4, 3) := by decide +kernel
theorem dX5_key_160 : decode cX5_key 160 = .ok (.iload_n 3, 1) := by decide +kernel
theorem dX5_key_161 : decode cX5_key 161 = .ok (.ireturn, 1) := by decide +kernel
theorem dX5_toFree_0 : decode cX5_toFree 0 = .ok (.iload_n 1, 1) := by decide +kernel
theorem dX5_toFree_1 : decode cX5_toFree 1 = .ok (.iload_n 2, 1) := by decide +kernel
theorem dX5_toFree_2 : decode cX5_toFree 2 = .ok (.invokestatic 125, 3) := by decide +kernel
theorem dX5_toFree_5 : decode cX5_toFree 5 = .ok (.ifCond .ne 9, 3) := by decide +kernel
theorem dX5_toFree_8 : decode cX5_toFree 8 = .ok (.aload_n 0, 1) := by decide +kernel
theorem dX5_toFree_9 : decode cX5_toFree 9 = .ok (.iconst 0, 1) := by decide +kernel
theorem dX5_toFree_10 : decode cX5_toFree 10 = .ok (.invokevirtual 62, 3) := by decide +kernel
theorem dX5_toFree_13 : decode cX5_toFree 13 = .ok (.ireturn, 1) := by decide +kernel
theorem dX5_toFree_14 : decode cX5_toFree 14 = .ok (.aload_n 0, 1) := by decide +kernel
theorem dX5_toFree_15 : decode cX5_toFree 15 = .ok (.getfield 10, 3) := by decide +kernel
theorem dX5_toFree_18 : decode cX5_toFree 18 = .ok (.iload_n 1, 1) := by decide +kernel
theorem dX5_toFree_19 : decode cX5_toFree 19 = .ok (.iload_n 2, 1) := by decide +kernel
theorem dX5_toFree_20 : decode cX5_toFree 20 = .ok (.invokevirtual 204, 3) := by decide +kernel
theorem dX5_toFree_23 : decode cX5_toFree 23 = .ok (.ifCond .eq 15, 3) := by decide +kernel
theorem dX5_toFree_26 : decode cX5_toFree 26 = .ok (.aload_n 0, 1) := by decide +kernel
theorem dX5_toFree_27 : decode cX5_toFree 27 = .ok (.getfield 10, 3) := by decide +kernel
theorem dX5_toFree_30 : decode cX5_toFree 30 = .ok (.iload_n 2, 1) := by decide +kernel
theorem dX5_toFree_31 : decode cX5_toFree 31 = .ok (.iload_n 1, 1) := by decide +kernel
theorem dX5_toFree_32 : decode cX5_toFree 32 = .ok (.invokevirtual 207, 3) := by decide +kernel
theorem dX5_toFree_35 : decode cX5_toFree 35 = .ok (.goto 4, 3) := by decide +kernel
theorem dX5_toFree_38 : decode cX5_toFree 38 = .ok (.iconst 0, 1) := by decide +kernel
theorem dX5_toFree_39 : decode cX5_toFree 39 = .ok (.ireturn, 1) := by decide +kernel
theorem dX5_way_0 : decode cX5_way 0 = .ok (.aload_n 0, 1) := by decide +kernel
theorem dX5_way_1 : decode cX5_way 1 = .ok (.iload_n 1, 1) := by decide +kernel
theorem dX5_way_2 : decode cX5_way 2 = .ok (.invokevirtual 210, 3) := by decide +kernel
theorem dX5_way_5 : decode cX5_way 5 = .ok (.astore_n 3, 1) := by decide +kernel
theorem dX5_way_6 : decode cX5_way 6 = .ok (.aload_n 3, 1) := by decide +kernel
theorem dX5_way_7 : decode cX5_way 7 = .ok (.ifnonnull 9, 3) := by decide +kernel
theorem dX5_way_10 : decode cX5_way 10 = .ok (.aload_n 0, 1) := by decide +kernel
theorem dX5_way_11 : decode cX5_way 11 = .ok (.iconst 0, 1) := by decide +kernel
theorem dX5_way_12 : decode cX5_way 12 = .ok (.invokevirtual 62, 3) := by decide +kernel
theorem dX5_way_15 : decode cX5_way 15 = .ok (.ireturn, 1) := by decide +kernel
theorem dX5_way_16 : decode cX5_way 16 = .ok (.aload_n 3, 1) := by decide +kernel
theorem dX5_way_17 : decode cX5_way 17 = .ok (.invokevirtual 214, 3) := by decide +kernel
theorem dX5_way_20 : decode cX5_way 20 = .ok (.ifCond .eq 9, 3) := by decide +kernel
theorem dX5_way_23 : decode cX5_way 23 = .ok (.aload_n 0, 1) := by decide +kernel
theorem dX5_way_24 : decode cX5_way 24 = .ok (.iconst 5, 1) := by decide +kernel
theorem dX5_way_25 : decode cX5_way 25 = .ok (.invokevirtual 62, 3) := by decide +kernel
theorem dX5_way_28 : decode cX5_way 28 = .ok (.ireturn, 1) := by decide +kernel
theorem dX5_way_29 : decode cX5_way 29 = .ok (.iload_n 2, 1) := by decide +kernel
theorem dX5_way_30 : decode cX5_way 30 = .ok (.iconst (-1), 1) := by decide +kernel
theorem dX5_way_31 : decode cX5_way 31 = .ok (.if_icmp .lt 9, 3) := by decide +kernel
theorem dX5_way_34 : decode cX5_way 34 = .ok (.iload_n 2, 1) := by decide +kernel
theorem dX5_way_35 : decode cX5_way 35 = .ok (.bipush 8, 2) := by decide +kernel
theorem dX5_way_37 : decode cX5_way 37 = .ok (.if_icmp .lt 9, 3) := by decide +kernel
theorem dX5_way_40 : decode cX5_way 40 = .ok (.aload_n 0, 1) := by decide +kernel
theorem dX5_way_41 : decode cX5_way 41 = .ok (.iconst 0, 1) := by decide +kernel
theorem dX5_way_42 : decode cX5_way 42 = .ok (.invokevirtual 62, 3) := by decide +kernel
theorem dX5_way_45 : decode cX5_way 45 = .ok (.ireturn, 1) := by decide +kernel
theorem dX5_way_46 : decode cX5_way 46 = .ok (.aload_n 0, 1) := by decide +kernel
theorem dX5_way_47 : decode cX5_way 47 = .ok (.getfield 32, 3) := by decide +kernel
theorem dX5_way_50 : decode cX5_way 50 = .ok (.aload_n 0, 1) := by decide +kernel
theorem dX5_way_51 : decode cX5_way 51 = .ok (.getfield 10, 3) := by decide +kernel
theorem dX5_way_54 : decode cX5_way 54 = .ok (.aload_n 3, 1) := by decide +kernel
theorem dX5_way_55 : decode cX5_way 55 = .ok (.invokevirtual 218, 3) := by decide +kernel
theorem dX5_way_58 : decode cX5_way 58 = .ok (.aload_n 0, 1) := by decide +kernel
theorem dX5_way_59 : decode cX5_way 59 = .ok (.getfield 32, 3) := by decide +kernel
theorem dX5_way_62 : decode cX5_way 62 = .ok (.getfield 222, 3) := by decide +kernel
theorem dX5_way_65 : decode cX5_way 65 = .ok (.bipush 8, 2) := by decide +kernel
theorem dX5_way_67 : decode cX5_way 67 = .ok (.if_icmp .le 10, 3) := by decide +kernel
theorem dX5_way_70 : decode cX5_way 70 = .ok (.aload_n 0, 1) := by decide +kernel
theorem dX5_way_71 : decode cX5_way 71 = .ok (.bipush 6, 2) := by decide +kernel
theorem dX5_way_73 : decode cX5_way 73 = .ok (.invokevirtual 62, 3) := by decide +kernel
theorem dX5_way_76 : decode cX5_way 76 = .ok (.ireturn, 1) := by decide +kernel
theorem dX5_way_77 : decode cX5_way 77 = .ok (.aload_n 0, 1) := by decide +kernel
theorem dX5_way_78 : decode cX5_way 78 = .ok (.getfield 32, 3) := by decide +kernel
theorem dX5_way_81 : decode cX5_way 81 = .ok (.aload_n 0, 1) := by decide +kernel
theorem dX5_way_82 : decode cX5_way 82 = .ok (.getfield 10, 3) := by decide +kernel
theorem dX5_way_85 : decode cX5_way 85 = .ok (.invokevirtual 225, 3) := by decide +kernel
theorem dX5_way_88 : decode cX5_way 88 = .ok (.ifCond .eq 9, 3) := by decide +kernel
theorem dX5_way_91 : decode cX5_way 91 = .ok (.aload_n 0, 1) := by decide +kernel
theorem dX5_way_92 : decode cX5_way 92 = .ok (.iconst 4, 1) := by decide +kernel
theorem dX5_way_93 : decode cX5_way 93 = .ok (.invokevirtual 62, 3) := by decide +kernel
theorem dX5_way_96 : decode cX5_way 96 = .ok (.ireturn, 1) := by decide +kernel
theorem dX5_way_97 : decode cX5_way 97 = .ok (.aload_n 0, 1) := by decide +kernel
theorem dX5_way_98 : decode cX5_way 98 = .ok (.getfield 32, 3) := by decide +kernel
theorem dX5_way_101 : decode cX5_way 101 = .ok (.aload_n 0, 1) := by decide +kernel
theorem dX5_way_102 : decode cX5_way 102 = .ok (.getfield 10, 3) := by decide +kernel
theorem dX5_way_105 : decode cX5_way 105 = .ok (.invokevirtual 229, 3) := by decide +kernel
theorem dX5_way_108 : decode cX5_way 108 = .ok (.ifCond .eq 14, 3) := by decide +kernel
theorem dX5_way_111 : decode cX5_way 111 = .ok (.iload_n 2, 1) := by decide +kernel
theorem dX5_way_112 : decode cX5_way 112 = .ok (.aload_n 0, 1) := by decide +kernel
theorem dX5_way_113 : decode cX5_way 113 = .ok (.getfield 32, 3) := by decide +kernel
theorem dX5_way_116 : decode cX5_way 116 = .ok (.getfield 222, 3) := by decide +kernel
theorem dX5_way_119 : decode cX5_way 119 = .ok (.if_icmp .lt 9, 3) := by decide +kernel
theorem dX5_way_122 : decode cX5_way 122 = .ok (.aload_n 0, 1) := by decide +kernel
theorem dX5_way_123 : decode cX5_way 123 = .ok (.iconst 3, 1) := by decide +kernel
theorem dX5_way_124 : decode cX5_way 124 = .ok (.invokevirtual 62, 3) := by decide +kernel
theorem dX5_way_127 : decode cX5_way 127 = .ok (.ireturn, 1) := by decide +kernel
theorem dX5_way_128 : decode cX5_way 128 = .ok (.iload_n 2, 1) := by decide +kernel
theorem dX5_way_129 : decode cX5_way 129 = .ok (.ifCond .ge 13, 3) := by decide +kernel
theorem dX5_way_132 : decode cX5_way 132 = .ok (.aload_n 0, 1) := by decide +kernel
theorem dX5_way_133 : decode cX5_way 133 = .ok (.getfield 32, 3) := by decide +kernel
theorem dX5_way_136 : decode cX5_way 136 = .ok (.getfield 222, 3) := by decide +kernel
theorem dX5_way_139 : decode cX5_way 139 = .ok (.goto 12, 3) := by decide +kernel
theorem dX5_way_142 : decode cX5_way 142 = .ok (.aload_n 0, 1) := by decide +kernel
theorem dX5_way_143 : decode cX5_way 143 = .ok (.getfield 32, 3) := by decide +kernel
theorem dX5_way_146 : decode cX5_way 146 = .ok (.getfield 232, 3) := by decide +kernel
theorem dX5_way_149 : decode cX5_way 149 = .ok (.iload_n 2, 1) := by decide +kernel
theorem dX5_way_150 : decode cX5_way 150 = .ok (.iaload, 1) := by decide +kernel
theorem dX5_way_151 : decode cX5_way 151 = .ok (.ireturn, 1) := by decide +kernel
theorem dX5_feed_0 : decode cX5_feed 0 = .ok (.iload_n 2, 1) := by decide +kernel
theorem dX5_feed_1 : decode cX5_feed 1 = .ok (.iconst 1, 1) := by decide +kernel
theorem dX5_feed_2 : decode cX5_feed 2 = .ok (.if_icmp .lt 8, 3) := by decide +kernel
theorem dX5_feed_5 : decode cX5_feed 5 = .ok (.iload_n 2, 1) := by decide +kernel
theorem dX5_feed_6 : decode cX5_feed 6 = .ok (.iconst 4, 1) := by decide +kernel
theorem dX5_feed_7 : decode cX5_feed 7 = .ok (.if_icmp .le 9, 3) := by decide +kernel
theorem dX5_feed_10 : decode cX5_feed 10 = .ok (.aload_n 0, 1) := by decide +kernel
theorem dX5_feed_11 : decode cX5_feed 11 = .ok (.iconst 0, 1) := by decide +kernel
theorem dX5_feed_12 : decode cX5_feed 12 = .ok (.invokevirtual 62, 3) := by decide +kernel
theorem dX5_feed_15 : decode cX5_feed 15 = .ok (.ireturn, 1) := by decide +kernel
theorem dX5_feed_16 : decode cX5_feed 16 = .ok (.aload_n 0, 1) := by decide +kernel
theorem dX5_feed_17 : decode cX5_feed 17 = .ok (.getfield 39, 3) := by decide +kernel
theorem dX5_feed_20 : decode cX5_feed 20 = .ok (.getfield 235, 3) := by decide +kernel
theorem dX5_feed_23 : decode cX5_feed 23 = .ok (.iload_n 2, 1) := by decide +kernel
theorem dX5_feed_24 : decode cX5_feed 24 = .ok (.iadd, 1) := by decide +kernel
theorem dX5_feed_25 : decode cX5_feed 25 = .ok (.bipush 120, 2) := by decide +kernel
theorem dX5_feed_27 : decode cX5_feed 27 = .ok (.if_icmp .le 9, 3) := by decide +kernel
theorem dX5_feed_30 : decode cX5_feed 30 = .ok (.aload_n 0, 1) := by decide +kernel
theorem dX5_feed_31 : decode cX5_feed 31 = .ok (.iconst 1, 1) := by decide +kernel
theorem dX5_feed_32 : decode cX5_feed 32 = .ok (.invokevirtual 62, 3) := by decide +kernel
theorem dX5_feed_35 : decode cX5_feed 35 = .ok (.ireturn, 1) := by decide +kernel
theorem dX5_feed_36 : decode cX5_feed 36 = .ok (.iload_n 2, 1) := by decide +kernel
theorem dX5_feed_37 : decode cX5_feed 37 = .ok (.iconst 1, 1) := by decide +kernel
theorem dX5_feed_38 : decode cX5_feed 38 = .ok (.isub, 1) := by decide +kernel
theorem dX5_feed_39 : decode cX5_feed 39 = .ok (.istore_n 3, 1) := by decide +kernel
theorem dX5_feed_40 : decode cX5_feed 40 = .ok (.iload_n 3, 1) := by decide +kernel
theorem dX5_feed_41 : decode cX5_feed 41 = .ok (.ifCond .lt 26, 3) := by decide +kernel
theorem dX5_feed_44 : decode cX5_feed 44 = .ok (.aload_n 0, 1) := by decide +kernel
theorem dX5_feed_45 : decode cX5_feed 45 = .ok (.getfield 39, 3) := by decide +kernel
theorem dX5_feed_48 : decode cX5_feed 48 = .ok (.iload_n 1, 1) := by decide +kernel
theorem dX5_feed_49 : decode cX5_feed 49 = .ok (.bipush 8, 2) := by decide +kernel
theorem dX5_feed_51 : decode cX5_feed 51 = .ok (.iload_n 3, 1) := by decide +kernel
theorem dX5_feed_52 : decode cX5_feed 52 = .ok (.imul, 1) := by decide +kernel
theorem dX5_feed_53 : decode cX5_feed 53 = .ok (.iushr, 1) := by decide +kernel
theorem dX5_feed_54 : decode cX5_feed 54 = .ok (.sipush 255, 3) := by decide +kernel
theorem dX5_feed_57 : decode cX5_feed 57 = .ok (.iand, 1) := by decide +kernel
theorem dX5_feed_58 : decode cX5_feed 58 = .ok (.invokevirtual 238, 3) := by decide +kernel
theorem dX5_feed_61 : decode cX5_feed 61 = .ok (.iinc 3 (-1), 3) := by decide +kernel
theorem dX5_feed_64 : decode cX5_feed 64 = .ok (.goto (-24), 3) := by decide +kernel
theorem dX5_feed_67 : decode cX5_feed 67 = .ok (.aload_n 0, 1) := by decide +kernel
theorem dX5_feed_68 : decode cX5_feed 68 = .ok (.getfield 39, 3) := by decide +kernel
theorem dX5_feed_71 : decode cX5_feed 71 = .ok (.getfield 235, 3) := by decide +kernel
theorem dX5_feed_74 : decode cX5_feed 74 = .ok (.ireturn, 1) := by decide +kernel
theorem dX5_wipe_0 : decode cX5_wipe 0 = .ok (.aload_n 0, 1) := by decide +kernel
theorem dX5_wipe_1 : decode cX5_wipe 1 = .ok (.getfield 39, 3) := by decide +kernel
theorem dX5_wipe_4 : decode cX5_wipe 4 = .ok (.getfield 235, 3) := by decide +kernel
theorem dX5_wipe_7 : decode cX5_wipe 7 = .ok (.istore_n 1, 1) := by decide +kernel
theorem dX5_wipe_8 : decode cX5_wipe 8 = .ok (.aload_n 0, 1) := by decide +kernel
theorem dX5_wipe_9 : decode cX5_wipe 9 = .ok (.getfield 39, 3) := by decide +kernel
theorem dX5_wipe_12 : decode cX5_wipe 12 = .ok (.iconst 0, 1) := by decide +kernel
theorem dX5_wipe_13 : decode cX5_wipe 13 = .ok (.putfield 235, 3) := by decide +kernel
theorem dX5_wipe_16 : decode cX5_wipe 16 = .ok (.iload_n 1, 1) := by decide +kernel
theorem dX5_wipe_17 : decode cX5_wipe 17 = .ok (.ireturn, 1) := by decide +kernel
theorem dX5_court_0 : decode cX5_court 0 = .ok (.aload_n 0, 1) := by decide +kernel
theorem dX5_court_1 : decode cX5_court 1 = .ok (.getfield 19, 3) := by decide +kernel
theorem dX5_court_4 : decode cX5_court 4 = .ok (.aload_n 0, 1) := by decide +kernel
theorem dX5_court_5 : decode cX5_court 5 = .ok (.getfield 10, 3) := by decide +kernel
theorem dX5_court_8 : decode cX5_court 8 = .ok (.invokevirtual 168, 3) := by decide +kernel
theorem dX5_court_11 : decode cX5_court 11 = .ok (.aload_n 0, 1) := by decide +kernel
theorem dX5_court_12 : decode cX5_court 12 = .ok (.getfield 39, 3) := by decide +kernel
theorem dX5_court_15 : decode cX5_court 15 = .ok (.aload_n 0, 1) := by decide +kernel
theorem dX5_court_16 : decode cX5_court 16 = .ok (.getfield 19, 3) := by decide +kernel
theorem dX5_court_19 : decode cX5_court 19 = .ok (.invokevirtual 241, 3) := by decide +kernel
theorem dX5_court_22 : decode cX5_court 22 = .ok (.istore_n 1, 1) := by decide +kernel
theorem dX5_court_23 : decode cX5_court 23 = .ok (.aload_n 0, 1) := by decide +kernel
theorem dX5_court_24 : decode cX5_court 24 = .ok (.getfield 39, 3) := by decide +kernel
theorem dX5_court_27 : decode cX5_court 27 = .ok (.iconst 0, 1) := by decide +kernel
theorem dX5_court_28 : decode cX5_court 28 = .ok (.putfield 235, 3) := by decide +kernel
theorem dX5_court_31 : decode cX5_court 31 = .ok (.iload_n 1, 1) := by decide +kernel
theorem dX5_court_32 : decode cX5_court 32 = .ok (.ifCond .ge 13, 3) := by decide +kernel
theorem dX5_court_35 : decode cX5_court 35 = .ok (.iconst (-1), 1) := by decide +kernel
theorem dX5_court_36 : decode cX5_court 36 = .ok (.aload_n 0, 1) := by decide +kernel
theorem dX5_court_37 : decode cX5_court 37 = .ok (.getfield 39, 3) := by decide +kernel
theorem dX5_court_40 : decode cX5_court 40 = .ok (.getfield 244, 3) := by decide +kernel
theorem dX5_court_43 : decode cX5_court 43 = .ok (.isub, 1) := by decide +kernel
theorem dX5_court_44 : decode cX5_court 44 = .ok (.ireturn, 1) := by decide +kernel
theorem dX5_court_45 : decode cX5_court 45 = .ok (.aload_n 0, 1) := by decide +kernel
theorem dX5_court_46 : decode cX5_court 46 = .ok (.getfield 10, 3) := by decide +kernel
theorem dX5_court_49 : decode cX5_court 49 = .ok (.aload_n 0, 1) := by decide +kernel
theorem dX5_court_50 : decode cX5_court 50 = .ok (.getfield 19, 3) := by decide +kernel
theorem dX5_court_53 : decode cX5_court 53 = .ok (.invokevirtual 168, 3) := by decide +kernel
theorem dX5_court_56 : decode cX5_court 56 = .ok (.iload_n 1, 1) := by decide +kernel
theorem dX5_court_57 : decode cX5_court 57 = .ok (.ireturn, 1) := by decide +kernel
theorem dX5_sheet_0 : decode cX5_sheet 0 = .ok (.aload_n 0, 1) := by decide +kernel
theorem dX5_sheet_1 : decode cX5_sheet 1 = .ok (.iload_n 1, 1) := by decide +kernel
theorem dX5_sheet_2 : decode cX5_sheet 2 = .ok (.invokevirtual 210, 3) := by decide +kernel
theorem dX5_sheet_5 : decode cX5_sheet 5 = .ok (.astore 4, 2) := by decide +kernel
theorem dX5_sheet_7 : decode cX5_sheet 7 = .ok (.aload 4, 2) := by decide +kernel
theorem dX5_sheet_9 : decode cX5_sheet 9 = .ok (.ifnull 25, 3) := by decide +kernel
theorem dX5_sheet_12 : decode cX5_sheet 12 = .ok (.iload_n 2, 1) := by decide +kernel
theorem dX5_sheet_13 : decode cX5_sheet 13 = .ok (.ifCond .eq 27, 3) := by decide +kernel
theorem dX5_sheet_16 : decode cX5_sheet 16 = .ok (.iload_n 2, 1) := by decide +kernel
theorem dX5_sheet_17 : decode cX5_sheet 17 = .ok (.bipush 8, 2) := by decide +kernel
theorem dX5_sheet_19 : decode cX5_sheet 19 = .ok (.if_icmp .eq 21, 3) := by decide +kernel
theorem dX5_sheet_22 : decode cX5_sheet 22 = .ok (.iload_n 2, 1) := by decide +kernel
theorem dX5_sheet_23 : decode cX5_sheet 23 = .ok (.bipush 16, 2) := by decide +kernel
theorem dX5_sheet_25 : decode cX5_sheet 25 = .ok (.if_icmp .eq 15, 3) := by decide +kernel
theorem dX5_sheet_28 : decode cX5_sheet 28 = .ok (.iload_n 2, 1) := by decide +kernel
theorem dX5_sheet_29 : decode cX5_sheet 29 = .ok (.bipush 64, 2) := by decide +kernel
theorem dX5_sheet_31 : decode cX5_sheet 31 = .ok (.if_icmp .eq 9, 3) := by decide +kernel
theorem dX5_sheet_34 : decode cX5_sheet 34 = .ok (.aload_n 0, 1) := by decide +kernel
theorem dX5_sheet_35 : decode cX5_sheet 35 = .ok (.iconst 0, 1) := by decide +kernel
theorem dX5_sheet_36 : decode cX5_sheet 36 = .ok (.invokevirtual 62, 3) := by decide +kernel
theorem dX5_sheet_39 : decode cX5_sheet 39 = .ok (.ireturn, 1) := by decide +kernel
theorem dX5_sheet_40 : decode cX5_sheet 40 = .ok (.iload_n 3, 1) := by decide +kernel
theorem dX5_sheet_41 : decode cX5_sheet 41 = .ok (.ifCond .ge 10, 3) := by decide +kernel
theorem dX5_sheet_44 : decode cX5_sheet 44 = .ok (.aload_n 0, 1) := by decide +kernel
theorem dX5_sheet_45 : decode cX5_sheet 45 = .ok (.bipush 6, 2) := by decide +kernel
theorem dX5_sheet_47 : decode cX5_sheet 47 = .ok (.invokevirtual 62, 3) := by decide +kernel
theorem dX5_sheet_50 : decode cX5_sheet 50 = .ok (.ireturn, 1) := by decide +kernel
theorem dX5_sheet_51 : decode cX5_sheet 51 = .ok (.iload_n 3, 1) := by decide +kernel
theorem dX5_sheet_52 : decode cX5_sheet 52 = .ok (.bipush 40, 2) := by decide +kernel
theorem dX5_sheet_54 : decode cX5_sheet 54 = .ok (.if_icmp .le 9, 3) := by decide +kernel
theorem dX5_sheet_57 : decode cX5_sheet 57 = .ok (.aload_n 0, 1) := by decide +kernel
theorem dX5_sheet_58 : decode cX5_sheet 58 = .ok (.iconst 0, 1) := by decide +kernel
theorem dX5_sheet_59 : decode cX5_sheet 59 = .ok (.invokevirtual 62, 3) := by decide +kernel
theorem dX5_sheet_62 : decode cX5_sheet 62 = .ok (.ireturn, 1) := by decide +kernel
theorem dX5_sheet_63 : decode cX5_sheet 63 = .ok (.aload 4, 2) := by decide +kernel
theorem dX5_sheet_65 : decode cX5_sheet 65 = .ok (.iload_n 2, 1) := by decide +kernel
theorem dX5_sheet_66 : decode cX5_sheet 66 = .ok (.iload_n 2, 1) := by decide +kernel
theorem dX5_sheet_67 : decode cX5_sheet 67 = .ok (.ifCond .ne 7, 3) := by decide +kernel
theorem dX5_sheet_70 : decode cX5_sheet 70 = .ok (.iconst 0, 1) := by decide +kernel
theorem dX5_sheet_71 : decode cX5_sheet 71 = .ok (.goto 4, 3) := by decide +kernel
theorem dX5_sheet_74 : decode cX5_sheet 74 = .ok (.iload_n 3, 1) := by decide +kernel
theorem dX5_sheet_75 : decode cX5_sheet 75 = .ok (.invokevirtual 247, 3) := by decide +kernel
theorem dX5_sheet_78 : decode cX5_sheet 78 = .ok (.aload 4, 2) := by decide +kernel
theorem dX5_sheet_80 : decode cX5_sheet 80 = .ok (.getfield 251, 3) := by decide +kernel
theorem dX5_sheet_83 : decode cX5_sheet 83 = .ok (.ireturn, 1) := by decide +kernel
theorem dX5_write_0 : decode cX5_write 0 = .ok (.aload_n 0, 1) := by decide +kernel
theorem dX5_write_1 : decode cX5_write 1 = .ok (.iload_n 1, 1) := by decide +kernel
theorem dX5_write_2 : decode cX5_write 2 = .ok (.invokevirtual 210, 3) := by decide +kernel
theorem dX5_write_5 : decode cX5_write 5 = .ok (.astore 5, 2) := by decide +kernel
theorem dX5_write_7 : decode cX5_write 7 = .ok (.aload 5, 2) := by decide +kernel
theorem dX5_write_9 : decode cX5_write 9 = .ok (.ifnonnull 10, 3) := by decide +kernel
theorem dX5_write_12 : decode cX5_write 12 = .ok (.aload_n 0, 1) := by decide +kernel
theorem dX5_write_13 : decode cX5_write 13 = .ok (.iconst 0, 1) := by decide +kernel
theorem dX5_write_14 : decode cX5_write 14 = .ok (.invokevirtual 62, 3) := by decide +kernel
theorem dX5_write_17 : decode cX5_write 17 = .ok (.i2l, 1) := by decide +kernel
theorem dX5_write_18 : decode cX5_write 18 = .ok (.lreturn, 1) := by decide +kernel
theorem dX5_write_19 : decode cX5_write 19 = .ok (.aload 5, 2) := by decide +kernel
theorem dX5_write_21 : decode cX5_write 21 = .ok (.invokevirtual 214, 3) := by decide +kernel
theorem dX5_write_24 : decode cX5_write 24 = .ok (.ifCond .eq 10, 3) := by decide +kernel
theorem dX5_write_27 : decode cX5_write 27 = .ok (.aload_n 0, 1) := by decide +kernel
theorem dX5_write_28 : decode cX5_write 28 = .ok (.iconst 5, 1) := by decide +kernel
theorem dX5_write_29 : decode cX5_write 29 = .ok (.invokevirtual 62, 3) := by decide +kernel
theorem dX5_write_32 : decode cX5_write 32 = .ok (.i2l, 1) := by decide +kernel
theorem dX5_write_33 : decode cX5_write 33 = .ok (.lreturn, 1) := by decide +kernel
theorem dX5_write_34 : decode cX5_write 34 = .ok (.iload_n 2, 1) := by decide +kernel
theorem dX5_write_35 : decode cX5_write 35 = .ok (.ifCond .lt 12, 3) := by decide +kernel
theorem dX5_write_38 : decode cX5_write 38 = .ok (.iload_n 2, 1) := by decide +kernel
theorem dX5_write_39 : decode cX5_write 39 = .ok (.aload 5, 2) := by decide +kernel
theorem dX5_write_41 : decode cX5_write 41 = .ok (.getfield 251, 3) := by decide +kernel
theorem dX5_write_44 : decode cX5_write 44 = .ok (.if_icmp .lt 10, 3) := by decide +kernel
theorem dX5_write_47 : decode cX5_write 47 = .ok (.aload_n 0, 1) := by decide +kernel
theorem dX5_write_48 : decode cX5_write 48 = .ok (.iconst 0, 1) := by decide +kernel
theorem dX5_write_49 : decode cX5_write 49 = .ok (.invokevirtual 62, 3) := by decide +kernel
theorem dX5_write_52 : decode cX5_write 52 = .ok (.i2l, 1) := by decide +kernel
theorem dX5_write_53 : decode cX5_write 53 = .ok (.lreturn, 1) := by decide +kernel
theorem dX5_write_54 : decode cX5_write 54 = .ok (.aload 5, 2) := by decide +kernel
theorem dX5_write_56 : decode cX5_write 56 = .ok (.getfield 252, 3) := by decide +kernel
theorem dX5_write_59 : decode cX5_write 59 = .ok (.iload_n 2, 1) := by decide +kernel
theorem dX5_write_60 : decode cX5_write 60 = .ok (.laload, 1) := by decide +kernel
theorem dX5_write_61 : decode cX5_write 61 = .ok (.lstore 6, 2) := by decide +kernel
theorem dX5_write_63 : decode cX5_write 63 = .ok (.aload 5, 2) := by decide +kernel
theorem dX5_write_65 : decode cX5_write 65 = .ok (.iload_n 2, 1) := by decide +kernel
theorem dX5_write_66 : decode cX5_write 66 = .ok (.lload_n 3, 1) := by decide +kernel
theorem dX5_write_67 : decode cX5_write 67 = .ok (.invokevirtual 256, 3) := by decide +kernel
theorem dX5_write_70 : decode cX5_write 70 = .ok (.lload 6, 2) := by decide +kernel
theorem dX5_write_72 : decode cX5_write 72 = .ok (.lreturn, 1) := by decide +kernel
theorem dX5_copy_0 : decode cX5_copy 0 = .ok (.aload_n 0, 1) := by decide +kernel
theorem dX5_copy_1 : decode cX5_copy 1 = .ok (.iload_n 1, 1) := by decide +kernel
theorem dX5_copy_2 : decode cX5_copy 2 = .ok (.invokevirtual 210, 3) := by decide +kernel
theorem dX5_copy_5 : decode cX5_copy 5 = .ok (.astore 6, 2) := by decide +kernel
theorem dX5_copy_7 : decode cX5_copy 7 = .ok (.aload_n 0, 1) := by decide +kernel
theorem dX5_copy_8 : decode cX5_copy 8 = .ok (.iload_n 3, 1) := by decide +kernel
theorem dX5_copy_9 : decode cX5_copy 9 = .ok (.invokevirtual 210, 3) := by decide +kernel
theorem dX5_copy_12 : decode cX5_copy 12 = .ok (.astore 7, 2) := by decide +kernel
theorem dX5_copy_14 : decode cX5_copy 14 = .ok (.aload 6, 2) := by decide +kernel
theorem dX5_copy_16 : decode cX5_copy 16 = .ok (.ifnull 8, 3) := by decide +kernel
theorem dX5_copy_19 : decode cX5_copy 19 = .ok (.aload 7, 2) := by decide +kernel
theorem dX5_copy_21 : decode cX5_copy 21 = .ok (.ifnonnull 9, 3) := by decide +kernel
theorem dX5_copy_24 : decode cX5_copy 24 = .ok (.aload_n 0, 1) := by decide +kernel
theorem dX5_copy_25 : decode cX5_copy 25 = .ok (.iconst 0, 1) := by decide +kernel
theorem dX5_copy_26 : decode cX5_copy 26 = .ok (.invokevirtual 62, 3) := by decide +kernel
theorem dX5_copy_29 : decode cX5_copy 29 = .ok (.ireturn, 1) := by decide +kernel
theorem dX5_copy_30 : decode cX5_copy 30 = .ok (.aload 6, 2) := by decide +kernel
theorem dX5_copy_32 : decode cX5_copy 32 = .ok (.invokevirtual 214, 3) := by decide +kernel
theorem dX5_copy_35 : decode cX5_copy 35 = .ok (.ifCond .ne 11, 3) := by decide +kernel
theorem dX5_copy_38 : decode cX5_copy 38 = .ok (.aload 7, 2) := by decide +kernel
theorem dX5_copy_40 : decode cX5_copy 40 = .ok (.invokevirtual 214, 3) := by decide +kernel
theorem dX5_copy_43 : decode cX5_copy 43 = .ok (.ifCond .eq 9, 3) := by decide +kernel
theorem dX5_copy_46 : decode cX5_copy 46 = .ok (.aload_n 0, 1) := by decide +kernel
theorem dX5_copy_47 : decode cX5_copy 47 = .ok (.iconst 5, 1) := by decide +kernel
theorem dX5_copy_48 : decode cX5_copy 48 = .ok (.invokevirtual 62, 3) := by decide +kernel
theorem dX5_copy_51 : decode cX5_copy 51 = .ok (.ireturn, 1) := by decide +kernel
theorem dX5_copy_52 : decode cX5_copy 52 = .ok (.aload 6, 2) := by decide +kernel
theorem dX5_copy_54 : decode cX5_copy 54 = .ok (.getfield 260, 3) := by decide +kernel
theorem dX5_copy_57 : decode cX5_copy 57 = .ok (.aload 7, 2) := by decide +kernel
theorem dX5_copy_59 : decode cX5_copy 59 = .ok (.getfield 260, 3) := by decide +kernel
theorem dX5_copy_62 : decode cX5_copy 62 = .ok (.if_icmp .eq 9, 3) := by decide +kernel
theorem dX5_copy_65 : decode cX5_copy 65 = .ok (.aload_n 0, 1) := by decide +kernel
theorem dX5_copy_66 : decode cX5_copy 66 = .ok (.iconst 2, 1) := by decide +kernel
theorem dX5_copy_67 : decode cX5_copy 67 = .ok (.invokevirtual 62, 3) := by decide +kernel
theorem dX5_copy_70 : decode cX5_copy 70 = .ok (.ireturn, 1) := by decide +kernel
theorem dX5_copy_71 : decode cX5_copy 71 = .ok (.aload 6, 2) := by decide +kernel
theorem dX5_copy_73 : decode cX5_copy 73 = .ok (.iload_n 2, 1) := by decide +kernel
theorem dX5_copy_74 : decode cX5_copy 74 = .ok (.iload 5, 2) := by decide +kernel
theorem dX5_copy_76 : decode cX5_copy 76 = .ok (.invokevirtual 263, 3) := by decide +kernel
theorem dX5_copy_79 : decode cX5_copy 79 = .ok (.ifCond .eq 15, 3) := by decide +kernel
theorem dX5_copy_82 : decode cX5_copy 82 = .ok (.aload 7, 2) := by decide +kernel
theorem dX5_copy_84 : decode cX5_copy 84 = .ok (.iload 4, 2) := by decide +kernel
theorem dX5_copy_86 : decode cX5_copy 86 = .ok (.iload 5, 2) := by decide +kernel
theorem dX5_copy_88 : decode cX5_copy 88 = .ok (.invokevirtual 263, 3) := by decide +kernel
theorem dX5_copy_91 : decode cX5_copy 91 = .ok (.ifCond .ne 9, 3) := by decide +kernel
theorem dX5_copy_94 : decode cX5_copy 94 = .ok (.aload_n 0, 1) := by decide +kernel
theorem dX5_copy_95 : decode cX5_copy 95 = .ok (.iconst 0, 1) := by decide +kernel
theorem dX5_copy_96 : decode cX5_copy 96 = .ok (.invokevirtual 62, 3) := by decide +kernel
theorem dX5_copy_99 : decode cX5_copy 99 = .ok (.ireturn, 1) := by decide +kernel
theorem dX5_copy_100 : decode cX5_copy 100 = .ok (.aload 6, 2) := by decide +kernel
theorem dX5_copy_102 : decode cX5_copy 102 = .ok (.getfield 252, 3) := by decide +kernel
theorem dX5_copy_105 : decode cX5_copy 105 = .ok (.iload_n 2, 1) := by decide +kernel
theorem dX5_copy_106 : decode cX5_copy 106 = .ok (.aload 7, 2) := by decide +kernel
theorem dX5_copy_108 : decode cX5_copy 108 = .ok (.getfield 252, 3) := by decide +kernel
theorem dX5_copy_111 : decode cX5_copy 111 = .ok (.iload 4, 2) := by decide +kernel
theorem dX5_copy_113 : decode cX5_copy 113 = .ok (.iload 5, 2) := by decide +kernel
theorem dX5_copy_115 : decode cX5_copy 115 = .ok (.invokestatic 266, 3) := by decide +kernel
theorem dX5_copy_118 : decode cX5_copy 118 = .ok (.iload 5, 2) := by decide +kernel
theorem dX5_copy_120 : decode cX5_copy 120 = .ok (.ireturn, 1) := by decide +kernel
theorem dX5_lays_0 : decode cX5_lays 0 = .ok (.aload_n 0, 1) := by decide +kernel
theorem dX5_lays_1 : decode cX5_lays 1 = .ok (.iload_n 1, 1) := by decide +kernel
theorem dX5_lays_2 : decode cX5_lays 2 = .ok (.invokevirtual 210, 3) := by decide +kernel
theorem dX5_lays_5 : decode cX5_lays 5 = .ok (.astore_n 2, 1) := by decide +kernel
theorem dX5_lays_6 : decode cX5_lays 6 = .ok (.aload_n 2, 1) := by decide +kernel
theorem dX5_lays_7 : decode cX5_lays 7 = .ok (.ifnonnull 9, 3) := by decide +kernel
theorem dX5_lays_10 : decode cX5_lays 10 = .ok (.aload_n 0, 1) := by decide +kernel
theorem dX5_lays_11 : decode cX5_lays 11 = .ok (.iconst 0, 1) := by decide +kernel
theorem dX5_lays_12 : decode cX5_lays 12 = .ok (.invokevirtual 62, 3) := by decide +kernel
theorem dX5_lays_15 : decode cX5_lays 15 = .ok (.ireturn, 1) := by decide +kernel
theorem dX5_lays_16 : decode cX5_lays 16 = .ok (.aload_n 2, 1) := by decide +kernel
theorem dX5_lays_17 : decode cX5_lays 17 = .ok (.invokevirtual 214, 3) := by decide +kernel
theorem dX5_lays_20 : decode cX5_lays 20 = .ok (.ifCond .eq 9, 3) := by decide +kernel
theorem dX5_lays_23 : decode cX5_lays 23 = .ok (.aload_n 0, 1) := by decide +kernel
theorem dX5_lays_24 : decode cX5_lays 24 = .ok (.iconst 5, 1) := by decide +kernel
theorem dX5_lays_25 : decode cX5_lays 25 = .ok (.invokevirtual 62, 3) := by decide +kernel
theorem dX5_lays_28 : decode cX5_lays 28 = .ok (.ireturn, 1) := by decide +kernel
theorem dX5_lays_29 : decode cX5_lays 29 = .ok (.iconst 0, 1) := by decide +kernel
theorem dX5_lays_30 : decode cX5_lays 30 = .ok (.istore_n 3, 1) := by decide +kernel
theorem dX5_lays_31 : decode cX5_lays 31 = .ok (.iconst 0, 1) := by decide +kernel
theorem dX5_lays_32 : decode cX5_lays 32 = .ok (.istore 4, 2) := by decide +kernel
theorem dX5_lays_34 : decode cX5_lays 34 = .ok (.iload 4, 2) := by decide +kernel
theorem dX5_lays_36 : decode cX5_lays 36 = .ok (.aload_n 0, 1) := by decide +kernel
theorem dX5_lays_37 : decode cX5_lays 37 = .ok (.getfield 10, 3) := by decide +kernel
theorem dX5_lays_40 : decode cX5_lays 40 = .ok (.getfield 81, 3) := by decide +kernel
theorem dX5_lays_43 : decode cX5_lays 43 = .ok (.if_icmp .ge 58, 3) := by decide +kernel
theorem dX5_lays_46 : decode cX5_lays 46 = .ok (.iload 4, 2) := by decide +kernel
theorem dX5_lays_48 : decode cX5_lays 48 = .ok (.aload_n 2, 1) := by decide +kernel
theorem dX5_lays_49 : decode cX5_lays 49 = .ok (.getfield 251, 3) := by decide +kernel
theorem dX5_lays_52 : decode cX5_lays 52 = .ok (.if_icmp .ge 49, 3) := by decide +kernel
theorem dX5_lays_55 : decode cX5_lays 55 = .ok (.aload_n 2, 1) := by decide +kernel
theorem dX5_lays_56 : decode cX5_lays 56 = .ok (.iload 4, 2) := by decide +kernel
theorem dX5_lays_58 : decode cX5_lays 58 = .ok (.invokevirtual 272, 3) := by decide +kernel
theorem dX5_lays_61 : decode cX5_lays 61 = .ok (.istore 5, 2) := by decide +kernel
theorem dX5_lays_63 : decode cX5_lays 63 = .ok (.iload 5, 2) := by decide +kernel
theorem dX5_lays_65 : decode cX5_lays 65 = .ok (.ifCond .lt 30, 3) := by decide +kernel
theorem dX5_lays_68 : decode cX5_lays 68 = .ok (.aload_n 0, 1) := by decide +kernel
theorem dX5_lays_69 : decode cX5_lays 69 = .ok (.getfield 10, 3) := by decide +kernel
theorem dX5_lays_72 : decode cX5_lays 72 = .ok (.iload 4, 2) := by decide +kernel
theorem dX5_lays_74 : decode cX5_lays 74 = .ok (.invokevirtual 104, 3) := by decide +kernel
theorem dX5_lays_77 : decode cX5_lays 77 = .ok (.ifCond .ne 18, 3) := by decide +kernel
theorem dX5_lays_80 : decode cX5_lays 80 = .ok (.aload_n 0, 1) := by decide +kernel
theorem dX5_lays_81 : decode cX5_lays 81 = .ok (.getfield 10, 3) := by decide +kernel
theorem dX5_lays_84 : decode cX5_lays 84 = .ok (.getfield 98, 3) := by decide +kernel
theorem dX5_lays_87 : decode cX5_lays 87 = .ok (.iload 4, 2) := by decide +kernel
theorem dX5_lays_89 : decode cX5_lays 89 = .ok (.iload 5, 2) := by decide +kernel
theorem dX5_lays_91 : decode cX5_lays 91 = .ok (.iastore, 1) := by decide +kernel
theorem dX5_lays_92 : decode cX5_lays 92 = .ok (.iinc 3 1, 3) := by decide +kernel
theorem dX5_lays_95 : decode cX5_lays 95 = .ok (.iinc 4 1, 3) := by decide +kernel
theorem dX5_lays_98 : decode cX5_lays 98 = .ok (.goto (-64), 3) := by decide +kernel
theorem dX5_lays_101 : decode cX5_lays 101 = .ok (.iload_n 3, 1) := by decide +kernel
theorem dX5_lays_102 : decode cX5_lays 102 = .ok (.ireturn, 1) := by decide +kernel
theorem dX5_roll_0 : decode cX5_roll 0 = .ok (.aload_n 0, 1) := by decide +kernel
theorem dX5_roll_1 : decode cX5_roll 1 = .ok (.iload_n 1, 1) := by decide +kernel
theorem dX5_roll_2 : decode cX5_roll 2 = .ok (.invokevirtual 210, 3) := by decide +kernel
theorem dX5_roll_5 : decode cX5_roll 5 = .ok (.astore_n 2, 1) := by decide +kernel
theorem dX5_roll_6 : decode cX5_roll 6 = .ok (.aload_n 2, 1) := by decide +kernel
theorem dX5_roll_7 : decode cX5_roll 7 = .ok (.ifnonnull 9, 3) := by decide +kernel
theorem dX5_roll_10 : decode cX5_roll 10 = .ok (.aload_n 0, 1) := by decide +kernel
theorem dX5_roll_11 : decode cX5_roll 11 = .ok (.iconst 0, 1) := by decide +kernel
theorem dX5_roll_12 : decode cX5_roll 12 = .ok (.invokevirtual 62, 3) := by decide +kernel
theorem dX5_roll_15 : decode cX5_roll 15 = .ok (.ireturn, 1) := by decide +kernel
theorem dX5_roll_16 : decode cX5_roll 16 = .ok (.aload_n 2, 1) := by decide +kernel
theorem dX5_roll_17 : decode cX5_roll 17 = .ok (.invokevirtual 214, 3) := by decide +kernel
theorem dX5_roll_20 : decode cX5_roll 20 = .ok (.ifCond .eq 9, 3) := by decide +kernel
theorem dX5_roll_23 : decode cX5_roll 23 = .ok (.aload_n 0, 1) := by decide +kernel
theorem dX5_roll_24 : decode cX5_roll 24 = .ok (.iconst 5, 1) := by decide +kernel
theorem dX5_roll_25 : decode cX5_roll 25 = .ok (.invokevirtual 62, 3) := by decide +kernel
theorem dX5_roll_28 : decode cX5_roll 28 = .ok (.ireturn, 1) := by decide +kernel
theorem dX5_roll_29 : decode cX5_roll 29 = .ok (.aload_n 0, 1) := by decide +kernel
theorem dX5_roll_30 : decode cX5_roll 30 = .ok (.getfield 10, 3) := by decide +kernel
theorem dX5_roll_33 : decode cX5_roll 33 = .ok (.getfield 81, 3) := by decide +kernel
theorem dX5_roll_36 : decode cX5_roll 36 = .ok (.aload_n 2, 1) := by decide +kernel
theorem dX5_roll_37 : decode cX5_roll 37 = .ok (.getfield 251, 3) := by decide +kernel
theorem dX5_roll_40 : decode cX5_roll 40 = .ok (.invokestatic 275, 3) := by decide +kernel
theorem dX5_roll_43 : decode cX5_roll 43 = .ok (.istore_n 3, 1) := by decide +kernel
theorem dX5_roll_44 : decode cX5_roll 44 = .ok (.iconst 0, 1) := by decide +kernel
theorem dX5_roll_45 : decode cX5_roll 45 = .ok (.istore 4, 2) := by decide +kernel
theorem dX5_roll_47 : decode cX5_roll 47 = .ok (.iload 4, 2) := by decide +kernel
theorem dX5_roll_49 : decode cX5_roll 49 = .ok (.iload_n 3, 1) := by decide +kernel
theorem dX5_roll_50 : decode cX5_roll 50 = .ok (.if_icmp .ge 25, 3) := by decide +kernel
theorem dX5_roll_53 : decode cX5_roll 53 = .ok (.aload_n 2, 1) := by decide +kernel
theorem dX5_roll_54 : decode cX5_roll 54 = .ok (.iload 4, 2) := by decide +kernel
theorem dX5_roll_56 : decode cX5_roll 56 = .ok (.aload_n 0, 1) := by decide +kernel
theorem dX5_roll_57 : decode cX5_roll 57 = .ok (.getfield 10, 3) := by decide +kernel
theorem dX5_roll_60 : decode cX5_roll 60 = .ok (.iload 4, 2) := by decide +kernel
theorem dX5_roll_62 : decode cX5_roll 62 = .ok (.invokevirtual 280, 3) := by decide +kernel
theorem dX5_roll_65 : decode cX5_roll 65 = .ok (.i2l, 1) := by decide +kernel
theorem dX5_roll_66 : decode cX5_roll 66 = .ok (.invokevirtual 256, 3) := by decide +kernel
theorem dX5_roll_69 : decode cX5_roll 69 = .ok (.iinc 4 1, 3) := by decide +kernel
theorem dX5_roll_72 : decode cX5_roll 72 = .ok (.goto (-25), 3) := by decide +kernel
theorem dX5_roll_75 : decode cX5_roll 75 = .ok (.iload_n 3, 1) := by decide +kernel
theorem dX5_roll_76 : decode cX5_roll 76 = .ok (.ireturn, 1) := by decide +kernel
theorem dX5_read_0 : decode cX5_read 0 = .ok (.aload_n 0, 1) := by decide +kernel
theorem dX5_read_1 : decode cX5_read 1 = .ok (.iload_n 1, 1) := by decide +kernel
theorem dX5_read_2 : decode cX5_read 2 = .ok (.invokevirtual 210, 3) := by decide +kernel
theorem dX5_read_5 : decode cX5_read 5 = .ok (.astore_n 2, 1) := by decide +kernel
theorem dX5_read_6 : decode cX5_read 6 = .ok (.aload_n 2, 1) := by decide +kernel
theorem dX5_read_7 : decode cX5_read 7 = .ok (.ifnonnull 9, 3) := by decide +kernel
theorem dX5_read_10 : decode cX5_read 10 = .ok (.aload_n 0, 1) := by decide +kernel
theorem dX5_read_11 : decode cX5_read 11 = .ok (.iconst 0, 1) := by decide +kernel
theorem dX5_read_12 : decode cX5_read 12 = .ok (.invokevirtual 62, 3) := by decide +kernel
theorem dX5_read_15 : decode cX5_read 15 = .ok (.ireturn, 1) := by decide +kernel
theorem dX5_read_16 : decode cX5_read 16 = .ok (.aload_n 2, 1) := by decide +kernel
theorem dX5_read_17 : decode cX5_read 17 = .ok (.invokevirtual 214, 3) := by decide +kernel
theorem dX5_read_20 : decode cX5_read 20 = .ok (.ifCond .eq 9, 3) := by decide +kernel
theorem dX5_read_23 : decode cX5_read 23 = .ok (.aload_n 0, 1) := by decide +kernel
theorem dX5_read_24 : decode cX5_read 24 = .ok (.iconst 5, 1) := by decide +kernel
theorem dX5_read_25 : decode cX5_read 25 = .ok (.invokevirtual 62, 3) := by decide +kernel
theorem dX5_read_28 : decode cX5_read 28 = .ok (.ireturn, 1) := by decide +kernel
theorem dX5_read_29 : decode cX5_read 29 = .ok (.aload_n 0, 1) := by decide +kernel
theorem dX5_read_30 : decode cX5_read 30 = .ok (.getfield 10, 3) := by decide +kernel
theorem dX5_read_33 : decode cX5_read 33 = .ok (.getfield 81, 3) := by decide +kernel
theorem dX5_read_36 : decode cX5_read 36 = .ok (.aload_n 2, 1) := by decide +kernel
theorem dX5_read_37 : decode cX5_read 37 = .ok (.getfield 251, 3) := by decide +kernel
theorem dX5_read_40 : decode cX5_read 40 = .ok (.invokestatic 275, 3) := by decide +kernel
theorem dX5_read_43 : decode cX5_read 43 = .ok (.istore_n 3, 1) := by decide +kernel
theorem dX5_read_44 : decode cX5_read 44 = .ok (.iconst 0, 1) := by decide +kernel
theorem dX5_read_45 : decode cX5_read 45 = .ok (.istore 4, 2) := by decide +kernel
theorem dX5_read_47 : decode cX5_read 47 = .ok (.iload 4, 2) := by decide +kernel
theorem dX5_read_49 : decode cX5_read 49 = .ok (.iload_n 3, 1) := by decide +kernel
theorem dX5_read_50 : decode cX5_read 50 = .ok (.if_icmp .ge 35, 3) := by decide +kernel
theorem dX5_read_53 : decode cX5_read 53 = .ok (.aload_n 2, 1) := by decide +kernel
theorem dX5_read_54 : decode cX5_read 54 = .ok (.getfield 252, 3) := by decide +kernel
theorem dX5_read_57 : decode cX5_read 57 = .ok (.iload 4, 2) := by decide +kernel
theorem dX5_read_59 : decode cX5_read 59 = .ok (.laload, 1) := by decide +kernel
theorem dX5_read_60 : decode cX5_read 60 = .ok (.aload_n 0, 1) := by decide +kernel
theorem dX5_read_61 : decode cX5_read 61 = .ok (.getfield 10, 3) := by decide +kernel
theorem dX5_read_64 : decode cX5_read 64 = .ok (.iload 4, 2) := by decide +kernel
theorem dX5_read_66 : decode cX5_read 66 = .ok (.invokevirtual 280, 3) := by decide +kernel
theorem dX5_read_69 : decode cX5_read 69 = .ok (.i2l, 1) := by decide +kernel
theorem dX5_read_70 : decode cX5_read 70 = .ok (.lcmp, 1) := by decide +kernel
theorem dX5_read_71 : decode cX5_read 71 = .ok (.ifCond .eq 8, 3) := by decide +kernel
theorem dX5_read_74 : decode cX5_read 74 = .ok (.iconst 1, 1) := by decide +kernel
theorem dX5_read_75 : decode cX5_read 75 = .ok (.iload 4, 2) := by decide +kernel
theorem dX5_read_77 : decode cX5_read 77 = .ok (.iadd, 1) := by decide +kernel
theorem dX5_read_78 : decode cX5_read 78 = .ok (.ireturn, 1) := by decide +kernel
theorem dX5_read_79 : decode cX5_read 79 = .ok (.iinc 4 1, 3) := by decide +kernel
theorem dX5_read_82 : decode cX5_read 82 = .ok (.goto (-35), 3) := by decide +kernel
theorem dX5_read_85 : decode cX5_read 85 = .ok (.aload_n 0, 1) := by decide +kernel
theorem dX5_read_86 : decode cX5_read 86 = .ok (.getfield 10, 3) := by decide +kernel
theorem dX5_read_89 : decode cX5_read 89 = .ok (.getfield 81, 3) := by decide +kernel
theorem dX5_read_92 : decode cX5_read 92 = .ok (.aload_n 2, 1) := by decide +kernel
theorem dX5_read_93 : decode cX5_read 93 = .ok (.getfield 251, 3) := by decide +kernel
theorem dX5_read_96 : decode cX5_read 96 = .ok (.if_icmp .ne 7, 3) := by decide +kernel
theorem dX5_read_99 : decode cX5_read 99 = .ok (.iconst 0, 1) := by decide +kernel
theorem dX5_read_100 : decode cX5_read 100 = .ok (.goto 6, 3) := by decide +kernel
theorem dX5_read_103 : decode cX5_read 103 = .ok (.iconst 1, 1) := by decide +kernel
theorem dX5_read_104 : decode cX5_read 104 = .ok (.iload_n 3, 1) := by decide +kernel
theorem dX5_read_105 : decode cX5_read 105 = .ok (.iadd, 1) := by decide +kernel
theorem dX5_read_106 : decode cX5_read 106 = .ok (.ireturn, 1) := by decide +kernel
theorem dX5_image_0 : decode cX5_image 0 = .ok (.aload_n 0, 1) := by decide +kernel
theorem dX5_image_1 : decode cX5_image 1 = .ok (.getfield 16, 3) := by decide +kernel
theorem dX5_image_4 : decode cX5_image 4 = .ok (.aload_n 0, 1) := by decide +kernel
theorem dX5_image_5 : decode cX5_image 5 = .ok (.getfield 10, 3) := by decide +kernel
theorem dX5_image_8 : decode cX5_image 8 = .ok (.invokevirtual 168, 3) := by decide +kernel
theorem dX5_image_11 : decode cX5_image 11 = .ok (.aload_n 0, 1) := by decide +kernel
theorem dX5_image_12 : decode cX5_image 12 = .ok (.iconst 1, 1) := by decide +kernel
theorem dX5_image_13 : decode cX5_image 13 = .ok (.putfield 283, 3) := by decide +kernel
theorem dX5_image_16 : decode cX5_image 16 = .ok (.iconst 1, 1) := by decide +kernel
theorem dX5_image_17 : decode cX5_image 17 = .ok (.ireturn, 1) := by decide +kernel
theorem dX5_undo_0 : decode cX5_undo 0 = .ok (.aload_n 0, 1) := by decide +kernel
theorem dX5_undo_1 : decode cX5_undo 1 = .ok (.getfield 283, 3) := by decide +kernel
theorem dX5_undo_4 : decode cX5_undo 4 = .ok (.ifCond .ne 9, 3) := by decide +kernel
theorem dX5_undo_7 : decode cX5_undo 7 = .ok (.aload_n 0, 1) := by decide +kernel
theorem dX5_undo_8 : decode cX5_undo 8 = .ok (.iconst 3, 1) := by decide +kernel
theorem dX5_undo_9 : decode cX5_undo 9 = .ok (.invokevirtual 62, 3) := by decide +kernel
theorem dX5_undo_12 : decode cX5_undo 12 = .ok (.ireturn, 1) := by decide +kernel
theorem dX5_undo_13 : decode cX5_undo 13 = .ok (.aload_n 0, 1) := by decide +kernel
theorem dX5_undo_14 : decode cX5_undo 14 = .ok (.getfield 10, 3) := by decide +kernel
theorem dX5_undo_17 : decode cX5_undo 17 = .ok (.aload_n 0, 1) := by decide +kernel
theorem dX5_undo_18 : decode cX5_undo 18 = .ok (.getfield 16, 3) := by decide +kernel
theorem dX5_undo_21 : decode cX5_undo 21 = .ok (.invokevirtual 168, 3) := by decide +kernel
theorem dX5_undo_24 : decode cX5_undo 24 = .ok (.aload_n 0, 1) := by decide +kernel
theorem dX5_undo_25 : decode cX5_undo 25 = .ok (.getfield 10, 3) := by decide +kernel
theorem dX5_undo_28 : decode cX5_undo 28 = .ok (.getfield 81, 3) := by decide +kernel
theorem dX5_undo_31 : decode cX5_undo 31 = .ok (.ireturn, 1) := by decide +kernel
theorem dX5_tear_0 : decode cX5_tear 0 = .ok (.aload_n 0, 1) := by decide +kernel
theorem dX5_tear_1 : decode cX5_tear 1 = .ok (.getfield 283, 3) := by decide +kernel
theorem dX5_tear_4 : decode cX5_tear 4 = .ok (.ifCond .eq 7, 3) := by decide +kernel
theorem dX5_tear_7 : decode cX5_tear 7 = .ok (.iconst 1, 1) := by decide +kernel
theorem dX5_tear_8 : decode cX5_tear 8 = .ok (.goto 4, 3) := by decide +kernel
theorem dX5_tear_11 : decode cX5_tear 11 = .ok (.iconst 0, 1) := by decide +kernel
theorem dX5_tear_12 : decode cX5_tear 12 = .ok (.istore_n 1, 1) := by decide +kernel
theorem dX5_tear_13 : decode cX5_tear 13 = .ok (.aload_n 0, 1) := by decide +kernel
theorem dX5_tear_14 : decode cX5_tear 14 = .ok (.iconst 0, 1) := by decide +kernel
theorem dX5_tear_15 : decode cX5_tear 15 = .ok (.putfield 283, 3) := by decide +kernel
theorem dX5_tear_18 : decode cX5_tear 18 = .ok (.iload_n 1, 1) := by decide +kernel
theorem dX5_tear_19 : decode cX5_tear 19 = .ok (.ireturn, 1) := by decide +kernel
theorem dX5_count_0 : decode cX5_count 0 = .ok (.iload_n 1, 1) := by decide +kernel
theorem dX5_count_1 : decode cX5_count 1 = .ok (.tableswitch 63 0 3 #[31, 39, 47, 55], 31) := by decide +kernel
theorem dX5_count_32 : decode cX5_count 32 = .ok (.aload_n 0, 1) := by decide +kernel
theorem dX5_count_33 : decode cX5_count 33 = .ok (.getfield 10, 3) := by decide +kernel
theorem dX5_count_36 : decode cX5_count 36 = .ok (.getfield 81, 3) := by decide +kernel
theorem dX5_count_39 : decode cX5_count 39 = .ok (.ireturn, 1) := by decide +kernel
theorem dX5_count_40 : decode cX5_count 40 = .ok (.aload_n 0, 1) := by decide +kernel
theorem dX5_count_41 : decode cX5_count 41 = .ok (.getfield 10, 3) := by decide +kernel
theorem dX5_count_44 : decode cX5_count 44 = .ok (.getfield 128, 3) := by decide +kernel
theorem dX5_count_47 : decode cX5_count 47 = .ok (.ireturn, 1) := by decide +kernel
theorem dX5_count_48 : decode cX5_count 48 = .ok (.aload_n 0, 1) := by decide +kernel
theorem dX5_count_49 : decode cX5_count 49 = .ok (.getfield 39, 3) := by decide +kernel
theorem dX5_count_52 : decode cX5_count 52 = .ok (.getfield 235, 3) := by decide +kernel
theorem dX5_count_55 : decode cX5_count 55 = .ok (.ireturn, 1) := by decide +kernel
theorem dX5_count_56 : decode cX5_count 56 = .ok (.aload_n 0, 1) := by decide +kernel
theorem dX5_count_57 : decode cX5_count 57 = .ok (.getfield 10, 3) := by decide +kernel
theorem dX5_count_60 : decode cX5_count 60 = .ok (.invokevirtual 287, 3) := by decide +kernel
theorem dX5_count_63 : decode cX5_count 63 = .ok (.ireturn, 1) := by decide +kernel
theorem dX5_count_64 : decode cX5_count 64 = .ok (.aload_n 0, 1) := by decide +kernel
theorem dX5_count_65 : decode cX5_count 65 = .ok (.iconst 0, 1) := by decide +kernel
theorem dX5_count_66 : decode cX5_count 66 = .ok (.invokevirtual 62, 3) := by decide +kernel
theorem dX5_count_69 : decode cX5_count 69 = .ok (.ireturn, 1) := by decide +kernel
theorem dX5_status_0 : decode cX5_status 0 = .ok (.iload_n 1, 1) := by decide +kernel
theorem dX5_status_1 : decode cX5_status 1 = .ok (.iconst (-1), 1) := by decide +kernel
theorem dX5_status_2 : decode cX5_status 2 = .ok (.if_icmp .lt 9, 3) := by decide +kernel
theorem dX5_status_5 : decode cX5_status 5 = .ok (.iload_n 1, 1) := by decide +kernel
theorem dX5_status_6 : decode cX5_status 6 = .ok (.bipush 7, 2) := by decide +kernel
theorem dX5_status_8 : decode cX5_status 8 = .ok (.if_icmp .lt 9, 3) := by decide +kernel
theorem dX5_status_11 : decode cX5_status 11 = .ok (.aload_n 0, 1) := by decide +kernel
theorem dX5_status_12 : decode cX5_status 12 = .ok (.iconst 0, 1) := by decide +kernel
theorem dX5_status_13 : decode cX5_status 13 = .ok (.invokevirtual 62, 3) := by decide +kernel
theorem dX5_status_16 : decode cX5_status 16 = .ok (.ireturn, 1) := by decide +kernel
theorem dX5_status_17 : decode cX5_status 17 = .ok (.iload_n 1, 1) := by decide +kernel
theorem dX5_status_18 : decode cX5_status 18 = .ok (.ifCond .lt 10, 3) := by decide +kernel
theorem dX5_status_21 : decode cX5_status 21 = .ok (.aload_n 0, 1) := by decide +kernel
theorem dX5_status_22 : decode cX5_status 22 = .ok (.getfield 49, 3) := by decide +kernel
theorem dX5_status_25 : decode cX5_status 25 = .ok (.iload_n 1, 1) := by decide +kernel
theorem dX5_status_26 : decode cX5_status 26 = .ok (.iaload, 1) := by decide +kernel
theorem dX5_status_27 : decode cX5_status 27 = .ok (.ireturn, 1) := by decide +kernel
theorem dX5_status_28 : decode cX5_status 28 = .ok (.iconst 0, 1) := by decide +kernel
theorem dX5_status_29 : decode cX5_status 29 = .ok (.istore_n 2, 1) := by decide +kernel
theorem dX5_status_30 : decode cX5_status 30 = .ok (.iconst 0, 1) := by decide +kernel
theorem dX5_status_31 : decode cX5_status 31 = .ok (.istore_n 3, 1) := by decide +kernel
theorem dX5_status_32 : decode cX5_status 32 = .ok (.iload_n 3, 1) := by decide +kernel
theorem dX5_status_33 : decode cX5_status 33 = .ok (.bipush 7, 2) := by decide +kernel
theorem dX5_status_35 : decode cX5_status 35 = .ok (.if_icmp .ge 18, 3) := by decide +kernel
theorem dX5_status_38 : decode cX5_status 38 = .ok (.iload_n 2, 1) := by decide +kernel
theorem dX5_status_39 : decode cX5_status 39 = .ok (.aload_n 0, 1) := by decide +kernel
theorem dX5_status_40 : decode cX5_status 40 = .ok (.getfield 49, 3) := by decide +kernel
theorem dX5_status_43 : decode cX5_status 43 = .ok (.iload_n 3, 1) := by decide +kernel
theorem dX5_status_44 : decode cX5_status 44 = .ok (.iaload, 1) := by decide +kernel
theorem dX5_status_45 : decode cX5_status 45 = .ok (.iadd, 1) := by decide +kernel
theorem dX5_status_46 : decode cX5_status 46 = .ok (.istore_n 2, 1) := by decide +kernel
theorem dX5_status_47 : decode cX5_status 47 = .ok (.iinc 3 1, 3) := by decide +kernel
theorem dX5_status_50 : decode cX5_status 50 = .ok (.goto (-18), 3) := by decide +kernel
theorem dX5_status_53 : decode cX5_status 53 = .ok (.iload_n 2, 1) := by decide +kernel
theorem dX5_status_54 : decode cX5_status 54 = .ok (.ireturn, 1) := by decide +kernel
theorem dX5_finding_0 : decode cX5_finding 0 = .ok (.aload_n 0, 1) := by decide +kernel
theorem dX5_finding_1 : decode cX5_finding 1 = .ok (.getfield 49, 3) := by decide +kernel
theorem dX5_finding_4 : decode cX5_finding 4 = .ok (.iload_n 1, 1) := by decide +kernel
theorem dX5_finding_5 : decode cX5_finding 5 = .ok (.dup2, 1) := by decide +kernel
theorem dX5_finding_6 : decode cX5_finding 6 = .ok (.iaload, 1) := by decide +kernel
theorem dX5_finding_7 : decode cX5_finding 7 = .ok (.iconst 1, 1) := by decide +kernel
theorem dX5_finding_8 : decode cX5_finding 8 = .ok (.iadd, 1) := by decide +kernel
theorem dX5_finding_9 : decode cX5_finding 9 = .ok (.iastore, 1) := by decide +kernel
theorem dX5_finding_10 : decode cX5_finding 10 = .ok (.ldc_w 290, 3) := by decide +kernel
theorem dX5_finding_13 : decode cX5_finding 13 = .ok (.iload_n 1, 1) := by decide +kernel
theorem dX5_finding_14 : decode cX5_finding 14 = .ok (.isub, 1) := by decide +kernel
theorem dX5_finding_15 : decode cX5_finding 15 = .ok (.ireturn, 1) := by decide +kernel
theorem dX5_isWithin_0 : decode cX5_isWithin 0 = .ok (.iload_n 0, 1) := by decide +kernel
theorem dX5_isWithin_1 : decode cX5_isWithin 1 = .ok (.ifCond .lt 12, 3) := by decide +kernel
theorem dX5_isWithin_4 : decode cX5_isWithin 4 = .ok (.iload_n 0, 1) := by decide +kernel
theorem dX5_isWithin_5 : decode cX5_isWithin 5 = .ok (.iload_n 1, 1) := by decide +kernel
theorem dX5_isWithin_6 : decode cX5_isWithin 6 = .ok (.if_icmp .gt 7, 3) := by decide +kernel
theorem dX5_isWithin_9 : decode cX5_isWithin 9 = .ok (.iconst 1, 1) := by decide +kernel
theorem dX5_isWithin_10 : decode cX5_isWithin 10 = .ok (.goto 4, 3) := by decide +kernel
theorem dX5_isWithin_13 : decode cX5_isWithin 13 = .ok (.iconst 0, 1) := by decide +kernel
theorem dX5_isWithin_14 : decode cX5_isWithin 14 = .ok (.ireturn, 1) := by decide +kernel
theorem dX5_isKing_0 : decode cX5_isKing 0 = .ok (.iload_n 0, 1) := by decide +kernel
theorem dX5_isKing_1 : decode cX5_isKing 1 = .ok (.ifCond .lt 13, 3) := by decide +kernel
theorem dX5_isKing_4 : decode cX5_isKing 4 = .ok (.iload_n 0, 1) := by decide +kernel
theorem dX5_isKing_5 : decode cX5_isKing 5 = .ok (.bipush 6, 2) := by decide +kernel
theorem dX5_isKing_7 : decode cX5_isKing 7 = .ok (.if_icmp .ge 7, 3) := by decide +kernel
theorem dX5_isKing_10 : decode cX5_isKing 10 = .ok (.iconst 1, 1) := by decide +kernel
theorem dX5_isKing_11 : decode cX5_isKing 11 = .ok (.goto 4, 3) := by decide +kernel
theorem dX5_isKing_14 : decode cX5_isKing 14 = .ok (.iconst 0, 1) := by decide +kernel
theorem dX5_isKing_15 : decode cX5_isKing 15 = .ok (.ireturn, 1) := by decide +kernel
theorem dX5_areTwoKings_0 : decode cX5_areTwoKings 0 = .ok (.iload_n 0, 1) := by decide +kernel
theorem dX5_areTwoKings_1 : decode cX5_areTwoKings 1 = .ok (.invokestatic 54, 3) := by decide +kernel
theorem dX5_areTwoKings_4 : decode cX5_areTwoKings 4 = .ok (.ifCond .eq 19, 3) := by decide +kernel
theorem dX5_areTwoKings_7 : decode cX5_areTwoKings 7 = .ok (.iload_n 1, 1) := by decide +kernel
theorem dX5_areTwoKings_8 : decode cX5_areTwoKings 8 = .ok (.invokestatic 54, 3) := by decide +kernel
theorem dX5_areTwoKings_11 : decode cX5_areTwoKings 11 = .ok (.ifCond .eq 12, 3) := by decide +kernel
theorem dX5_areTwoKings_14 : decode cX5_areTwoKings 14 = .ok (.iload_n 0, 1) := by decide +kernel
theorem dX5_areTwoKings_15 : decode cX5_areTwoKings 15 = .ok (.iload_n 1, 1) := by decide +kernel
theorem dX5_areTwoKings_16 : decode cX5_areTwoKings 16 = .ok (.if_icmp .eq 7, 3) := by decide +kernel
theorem dX5_areTwoKings_19 : decode cX5_areTwoKings 19 = .ok (.iconst 1, 1) := by decide +kernel
theorem dX5_areTwoKings_20 : decode cX5_areTwoKings 20 = .ok (.goto 4, 3) := by decide +kernel
theorem dX5_areTwoKings_23 : decode cX5_areTwoKings 23 = .ok (.iconst 0, 1) := by decide +kernel
theorem dX5_areTwoKings_24 : decode cX5_areTwoKings 24 = .ok (.ireturn, 1) := by decide +kernel
theorem dX5_isKind_0 : decode cX5_isKind 0 = .ok (.iload_n 0, 1) := by decide +kernel
theorem dX5_isKind_1 : decode cX5_isKind 1 = .ok (.ifCond .lt 13, 3) := by decide +kernel
theorem dX5_isKind_4 : decode cX5_isKind 4 = .ok (.iload_n 0, 1) := by decide +kernel
theorem dX5_isKind_5 : decode cX5_isKind 5 = .ok (.bipush 6, 2) := by decide +kernel
theorem dX5_isKind_7 : decode cX5_isKind 7 = .ok (.if_icmp .ge 7, 3) := by decide +kernel
theorem dX5_isKind_10 : decode cX5_isKind 10 = .ok (.iconst 1, 1) := by decide +kernel
theorem dX5_isKind_11 : decode cX5_isKind 11 = .ok (.goto 4, 3) := by decide +kernel
theorem dX5_isKind_14 : decode cX5_isKind 14 = .ok (.iconst 0, 1) := by decide +kernel
theorem dX5_isKind_15 : decode cX5_isKind 15 = .ok (.ireturn, 1) := by decide +kernel
theorem dX5_isChild_0 : decode cX5_isChild 0 = .ok (.iload_n 1, 1) := by decide +kernel
theorem dX5_isChild_1 : decode cX5_isChild 1 = .ok (.ifCond .lt 18, 3) := by decide +kernel
theorem dX5_isChild_4 : decode cX5_isChild 4 = .ok (.iload_n 1, 1) := by decide +kernel
theorem dX5_isChild_5 : decode cX5_isChild 5 = .ok (.aload_n 0, 1) := by decide +kernel
theorem dX5_isChild_6 : decode cX5_isChild 6 = .ok (.getfield 10, 3) := by decide +kernel
theorem dX5_isChild_9 : decode cX5_isChild 9 = .ok (.getfield 81, 3) := by decide +kernel
theorem dX5_isChild_12 : decode cX5_isChild 12 = .ok (.if_icmp .ge 7, 3) := by decide +kernel
theorem dX5_isChild_15 : decode cX5_isChild 15 = .ok (.iconst 1, 1) := by decide +kernel
theorem dX5_isChild_16 : decode cX5_isChild 16 = .ok (.goto 4, 3) := by decide +kernel
theorem dX5_isChild_19 : decode cX5_isChild 19 = .ok (.iconst 0, 1) := by decide +kernel
theorem dX5_isChild_20 : decode cX5_isChild 20 = .ok (.ireturn, 1) := by decide +kernel
theorem dX5_isTreaty_0 : decode cX5_isTreaty 0 = .ok (.iload_n 1, 1) := by decide +kernel
theorem dX5_isTreaty_1 : decode cX5_isTreaty 1 = .ok (.ifCond .lt 18, 3) := by decide +kernel
theorem dX5_isTreaty_4 : decode cX5_isTreaty 4 = .ok (.iload_n 1, 1) := by decide +kernel
theorem dX5_isTreaty_5 : decode cX5_isTreaty 5 = .ok (.aload_n 0, 1) := by decide +kernel
theorem dX5_isTreaty_6 : decode cX5_isTreaty 6 = .ok (.getfield 10, 3) := by decide +kernel
theorem dX5_isTreaty_9 : decode cX5_isTreaty 9 = .ok (.getfield 128, 3) := by decide +kernel
theorem dX5_isTreaty_12 : decode cX5_isTreaty 12 = .ok (.if_icmp .ge 7, 3) := by decide +kernel
theorem dX5_isTreaty_15 : decode cX5_isTreaty 15 = .ok (.iconst 1, 1) := by decide +kernel
theorem dX5_isTreaty_16 : decode cX5_isTreaty 16 = .ok (.goto 4, 3) := by decide +kernel
theorem dX5_isTreaty_19 : decode cX5_isTreaty 19 = .ok (.iconst 0, 1) := by decide +kernel
theorem dX5_isTreaty_20 : decode cX5_isTreaty 20 = .ok (.ireturn, 1) := by decide +kernel
theorem dX5_isKindUnder_0 : decode cX5_isKindUnder 0 = .ok (.iload_n 0, 1) := by decide +kernel
theorem dX5_isKindUnder_1 : decode cX5_isKindUnder 1 = .ok (.istore_n 2, 1) := by decide +kernel
theorem dX5_isKindUnder_2 : decode cX5_isKindUnder 2 = .ok (.iconst 0, 1) := by decide +kernel
theorem dX5_isKindUnder_3 : decode cX5_isKindUnder 3 = .ok (.istore_n 3, 1) := by decide +kernel
theorem dX5_isKindUnder_4 : decode cX5_isKindUnder 4 = .ok (.iload_n 3, 1) := by decide +kernel
theorem dX5_isKindUnder_5 : decode cX5_isKindUnder 5 = .ok (.bipush 6, 2) := by decide +kernel
theorem dX5_isKindUnder_7 : decode cX5_isKindUnder 7 = .ok (.if_icmp .ge 26, 3) := by decide +kernel
theorem dX5_isKindUnder_10 : decode cX5_isKindUnder 10 = .ok (.iload_n 2, 1) := by decide +kernel
theorem dX5_isKindUnder_11 : decode cX5_isKindUnder 11 = .ok (.ifCond .lt 22, 3) := by decide +kernel
theorem dX5_isKindUnder_14 : decode cX5_isKindUnder 14 = .ok (.iload_n 2, 1) := by decide +kernel
theorem dX5_isKindUnder_15 : decode cX5_isKindUnder 15 = .ok (.iload_n 1, 1) := by decide +kernel
theorem dX5_isKindUnder_16 : decode cX5_isKindUnder 16 = .ok (.if_icmp .ne 5, 3) := by decide +kernel
theorem dX5_isKindUnder_19 : decode cX5_isKindUnder 19 = .ok (.iconst 1, 1) := by decide +kernel
theorem dX5_isKindUnder_20 : decode cX5_isKindUnder 20 = .ok (.ireturn, 1) := by decide +kernel
theorem dX5_isKindUnder_21 : decode cX5_isKindUnder 21 = .ok (.getstatic 291, 3) := by decide +kernel
theorem dX5_isKindUnder_24 : decode cX5_isKindUnder 24 = .ok (.iload_n 2, 1) := by decide +kernel
theorem dX5_isKindUnder_25 : decode cX5_isKindUnder 25 = .ok (.iaload, 1) := by decide +kernel
theorem dX5_isKindUnder_26 : decode cX5_isKindUnder 26 = .ok (.istore_n 2, 1) := by decide +kernel
theorem dX5_isKindUnder_27 : decode cX5_isKindUnder 27 = .ok (.iinc 3 1, 3) := by decide +kernel
theorem dX5_isKindUnder_30 : decode cX5_isKindUnder 30 = .ok (.goto (-26), 3) := by decide +kernel
theorem dX5_isKindUnder_33 : decode cX5_isKindUnder 33 = .ok (.iconst 0, 1) := by decide +kernel
theorem dX5_isKindUnder_34 : decode cX5_isKindUnder 34 = .ok (.ireturn, 1) := by decide +kernel
theorem dX5_sheetAt_0 : decode cX5_sheetAt 0 = .ok (.iload_n 1, 1) := by decide +kernel
theorem dX5_sheetAt_1 : decode cX5_sheetAt 1 = .ok (.ifCond .lt 17, 3) := by decide +kernel
theorem dX5_sheetAt_4 : decode cX5_sheetAt 4 = .ok (.iload_n 1, 1) := by decide +kernel
theorem dX5_sheetAt_5 : decode cX5_sheetAt 5 = .ok (.iconst 4, 1) := by decide +kernel
theorem dX5_sheetAt_6 : decode cX5_sheetAt 6 = .ok (.if_icmp .ge 12, 3) := by decide +kernel
theorem dX5_sheetAt_9 : decode cX5_sheetAt 9 = .ok (.aload_n 0, 1) := by decide +kernel
theorem dX5_sheetAt_10 : decode cX5_sheetAt 10 = .ok (.getfield 45, 3) := by decide +kernel
theorem dX5_sheetAt_13 : decode cX5_sheetAt 13 = .ok (.iload_n 1, 1) := by decide +kernel
theorem dX5_sheetAt_14 : decode cX5_sheetAt 14 = .ok (.aaload, 1) := by decide +kernel
theorem dX5_sheetAt_15 : decode cX5_sheetAt 15 = .ok (.goto 4, 3) := by decide +kernel
theorem dX5_sheetAt_18 : decode cX5_sheetAt 18 = .ok (.aconst_null, 1) := by decide +kernel
theorem dX5_sheetAt_19 : decode cX5_sheetAt 19 = .ok (.areturn, 1) := by decide +kernel
theorem dX5_broughtDownWith_0 : decode cX5_broughtDownWith 0 = .ok (.aload_n 0, 1) := by decide +kernel
theorem dX5_broughtDownWith_1 : decode cX5_broughtDownWith 1 = .ok (.getfield 19, 3) := by decide +kernel
theorem dX5_broughtDownWith_4 : decode cX5_broughtDownWith 4 = .ok (.aload_n 0, 1) := by decide +kernel
theorem dX5_broughtDownWith_5 : decode cX5_broughtDownWith 5 = .ok (.getfield 10, 3) := by decide +kernel
theorem dX5_broughtDownWith_8 : decode cX5_broughtDownWith 8 = .ok (.invokevirtual 168, 3) := by decide +kernel
theorem dX5_broughtDownWith_11 : decode cX5_broughtDownWith 11 = .ok (.aload_n 0, 1) := by decide +kernel
theorem dX5_broughtDownWith_12 : decode cX5_broughtDownWith 12 = .ok (.getfield 19, 3) := by decide +kernel
theorem dX5_broughtDownWith_15 : decode cX5_broughtDownWith 15 = .ok (.iconst 1, 1) := by decide +kernel
theorem dX5_broughtDownWith_16 : decode cX5_broughtDownWith 16 = .ok (.iload_n 1, 1) := by decide +kernel
theorem dX5_broughtDownWith_17 : decode cX5_broughtDownWith 17 = .ok (.ishl, 1) := by decide +kernel
theorem dX5_broughtDownWith_18 : decode cX5_broughtDownWith 18 = .ok (.invokevirtual 294, 3) := by decide +kernel
theorem dX5_broughtDownWith_21 : decode cX5_broughtDownWith 21 = .ok (.aload_n 0, 1) := by decide +kernel
theorem dX5_broughtDownWith_22 : decode cX5_broughtDownWith 22 = .ok (.getfield 19, 3) := by decide +kernel
theorem dX5_broughtDownWith_25 : decode cX5_broughtDownWith 25 = .ok (.invokevirtual 165, 3) := by decide +kernel
theorem dX5_broughtDownWith_28 : decode cX5_broughtDownWith 28 = .ok (.pop, 1) := by decide +kernel
theorem dX5_broughtDownWith_29 : decode cX5_broughtDownWith 29 = .ok (.aload_n 0, 1) := by decide +kernel
theorem dX5_broughtDownWith_30 : decode cX5_broughtDownWith 30 = .ok (.getfield 19, 3) := by decide +kernel
theorem dX5_broughtDownWith_33 : decode cX5_broughtDownWith 33 = .ok (.getfield 172, 3) := by decide +kernel
theorem dX5_broughtDownWith_36 : decode cX5_broughtDownWith 36 = .ok (.aload_n 0, 1) := by decide +kernel
theorem dX5_broughtDownWith_37 : decode cX5_broughtDownWith 37 = .ok (.getfield 10, 3) := by decide +kernel
theorem dX5_broughtDownWith_40 : decode cX5_broughtDownWith 40 = .ok (.getfield 172, 3) := by decide +kernel
theorem dX5_broughtDownWith_43 : decode cX5_broughtDownWith 43 = .ok (.iconst (-1), 1) := by decide +kernel
theorem dX5_broughtDownWith_44 : decode cX5_broughtDownWith 44 = .ok (.ixor, 1) := by decide +kernel
theorem dX5_broughtDownWith_45 : decode cX5_broughtDownWith 45 = .ok (.iand, 1) := by decide +kernel
theorem dX5_broughtDownWith_46 : decode cX5_broughtDownWith 46 = .ok (.ireturn, 1) := by decide +kernel
end
section
theorem dX6_init_0 : decode cX6_init 0 = .ok (.aload_n 0, 1) := by decide +kernel
theorem dX6_init_1 : decode cX6_init 1 = .ok (.invokespecial 1, 3) := by decide +kernel
theorem dX6_init_4 : decode cX6_init 4 = .ok (.aload_n 0, 1) := by decide +kernel
theorem dX6_init_5 : decode cX6_init 5 = .ok (.bipush 6, 2) := by decide +kernel
theorem dX6_init_7 : decode cX6_init 7 = .ok (.newarray .int, 2) := by decide +kernel
theorem dX6_init_9 : decode cX6_init 9 = .ok (.putfield 7, 3) := by decide +kernel
theorem dX6_init_12 : decode cX6_init 12 = .ok (.aload_n 0, 1) := by decide +kernel
theorem dX6_init_13 : decode cX6_init 13 = .ok (.bipush 14, 2) := by decide +kernel
theorem dX6_init_15 : decode cX6_init 15 = .ok (.newarray .int, 2) := by decide +kernel
theorem dX6_init_17 : decode cX6_init 17 = .ok (.putfield 13, 3) := by decide +kernel
theorem dX6_init_20 : decode cX6_init 20 = .ok (.aload_n 0, 1) := by decide +kernel
theorem dX6_init_21 : decode cX6_init 21 = .ok (.bipush 14, 2) := by decide +kernel
theorem dX6_init_23 : decode cX6_init 23 = .ok (.newarray .int, 2) := by decide +kernel
theorem dX6_init_25 : decode cX6_init 25 = .ok (.putfield 16, 3) := by decide +kernel
theorem dX6_init_28 : decode cX6_init 28 = .ok (.aload_n 0, 1) := by decide +kernel
theorem dX6_init_29 : decode cX6_init 29 = .ok (.bipush 14, 2) := by decide +kernel
theorem dX6_init_31 : decode cX6_init 31 = .ok (.newarray .int, 2) := by decide +kernel
theorem dX6_init_33 : decode cX6_init 33 = .ok (.putfield 19, 3) := by decide +kernel
theorem dX6_init_36 : decode cX6_init 36 = .ok (.aload_n 0, 1) := by decide +kernel
theorem dX6_init_37 : decode cX6_init 37 = .ok (.bipush 12, 2) := by decide +kernel
theorem dX6_init_39 : decode cX6_init 39 = .ok (.newarray .int, 2) := by decide +kernel
theorem dX6_init_41 : decode cX6_init 41 = .ok (.putfield 22, 3) := by decide +kernel
theorem dX6_init_44 : decode cX6_init 44 = .ok (.aload_n 0, 1) := by decide +kernel
theorem dX6_init_45 : decode cX6_init 45 = .ok (.bipush 12, 2) := by decide +kernel
theorem dX6_init_47 : decode cX6_init 47 = .ok (.newarray .int, 2) := by decide +kernel
theorem dX6_init_49 : decode cX6_init 49 = .ok (.putfield 25, 3) := by decide +kernel
theorem dX6_init_52 : decode cX6_init 52 = .ok (.aload_n 0, 1) := by decide +kernel
theorem dX6_init_53 : decode cX6_init 53 = .ok (.bipush 12, 2) := by decide +kernel
theorem dX6_init_55 : decode cX6_init 55 = .ok (.newarray .int, 2) := by decide +kernel
theorem dX6_init_57 : decode cX6_init 57 = .ok (.putfield 28, 3) := by decide +kernel
theorem dX6_init_60 : decode cX6_init 60 = .ok (.aload_n 0, 1) := by decide +kernel
theorem dX6_init_61 : decode cX6_init 61 = .ok (.bipush 12, 2) := by decide +kernel
theorem dX6_init_63 : decode cX6_init 63 = .ok (.newarray .int, 2) := by decide +kernel
theorem dX6_init_65 : decode cX6_init 65 = .ok (.putfield 31, 3) := by decide +kernel
theorem dX6_init_68 : decode cX6_init 68 = .ok (.aload_n 0, 1) := by decide +kernel
theorem dX6_init_69 : decode cX6_init 69 = .ok (.bipush 82, 2) := by decide +kernel
theorem dX6_init_71 : decode cX6_init 71 = .ok (.newarray .int, 2) := by decide +kernel
theorem dX6_init_73 : decode cX6_init 73 = .ok (.putfield 34, 3) := by decide +kernel
theorem dX6_init_76 : decode cX6_init 76 = .ok (.aload_n 0, 1) := by decide +kernel
theorem dX6_init_77 : decode cX6_init 77 = .ok (.bipush 7, 2) := by decide +kernel
theorem dX6_init_79 : decode cX6_init 79 = .ok (.newarray .int, 2) := by decide +kernel
theorem dX6_init_81 : decode cX6_init 81 = .ok (.putfield 37, 3) := by decide +kernel
theorem dX6_init_84 : decode cX6_init 84 = .ok (.aload_n 0, 1) := by decide +kernel
theorem dX6_init_85 : decode cX6_init 85 = .ok (.bipush 36, 2) := by decide +kernel
theorem dX6_init_87 : decode cX6_init 87 = .ok (.newarray .int, 2) := by decide +kernel
theorem dX6_init_89 : decode cX6_init 89 = .ok (.putfield 40, 3) := by decide +kernel
theorem dX6_init_92 : decode cX6_init 92 = .ok (.aload_n 0, 1) := by decide +kernel
theorem dX6_init_93 : decode cX6_init 93 = .ok (.bipush 8, 2) := by decide +kernel
theorem dX6_init_95 : decode cX6_init 95 = .ok (.newarray .int, 2) := by decide +kernel
theorem dX6_init_97 : decode cX6_init 97 = .ok (.putfield 43, 3) := by decide +kernel
theorem dX6_init_100 : decode cX6_init 100 = .ok (.aload_n 0, 1) := by decide +kernel
theorem dX6_init_101 : decode cX6_init 101 = .ok (.bipush 8, 2) := by decide +kernel
theorem dX6_init_103 : decode cX6_init 103 = .ok (.newarray .int, 2) := by decide +kernel
theorem dX6_init_105 : decode cX6_init 105 = .ok (.putfield 46, 3) := by decide +kernel
theorem dX6_init_108 : decode cX6_init 108 = .ok (.aload_n 0, 1) := by decide +kernel
theorem dX6_init_109 : decode cX6_init 109 = .ok (.sipush 256, 3) := by decide +kernel
theorem dX6_init_112 : decode cX6_init 112 = .ok (.newarray .boolean, 2) := by decide +kernel
theorem dX6_init_114 : decode cX6_init 114 = .ok (.putfield 49, 3) := by decide +kernel
theorem dX6_init_117 : decode cX6_init 117 = .ok (.aload_n 0, 1) := by decide +kernel
theorem dX6_init_118 : decode cX6_init 118 = .ok (.bipush 120, 2) := by decide +kernel
theorem dX6_init_120 : decode cX6_init 120 = .ok (.newarray .int, 2) := by decide +kernel
theorem dX6_init_122 : decode cX6_init 122 = .ok (.putfield 53, 3) := by decide +kernel
theorem dX6_init_125 : decode cX6_init 125 = .ok (.aload_n 0, 1) := by decide +kernel
theorem dX6_init_126 : decode cX6_init 126 = .ok (.iconst 4, 1) := by decide +kernel
theorem dX6_init_127 : decode cX6_init 127 = .ok (.newarray .int, 2) := by decide +kernel
theorem dX6_init_129 : decode cX6_init 129 = .ok (.putfield 56, 3) := by decide +kernel
theorem dX6_init_132 : decode cX6_init 132 = .ok (.aload_n 0, 1) := by decide +kernel
theorem dX6_init_133 : decode cX6_init 133 = .ok (.iconst 4, 1) := by decide +kernel
theorem dX6_init_134 : decode cX6_init 134 = .ok (.newarray .int, 2) := by decide +kernel
theorem dX6_init_136 : decode cX6_init 136 = .ok (.putfield 59, 3) := by decide +kernel
theorem dX6_init_139 : decode cX6_init 139 = .ok (.aload_n 0, 1) := by decide +kernel
theorem dX6_init_140 : decode cX6_init 140 = .ok (.sipush 160, 3) := by decide +kernel
theorem dX6_init_143 : decode cX6_init 143 = .ok (.newarray .long, 2) := by decide +kernel
theorem dX6_init_145 : decode cX6_init 145 = .ok (.putfield 62, 3) := by decide +kernel
theorem dX6_init_148 : decode cX6_init 148 = .ok (.aload_n 0, 1) := by decide +kernel
theorem dX6_init_149 : decode cX6_init 149 = .ok (.bipush 40, 2) := by decide +kernel
theorem dX6_init_151 : decode cX6_init 151 = .ok (.newarray .long, 2) := by decide +kernel
theorem dX6_init_153 : decode cX6_init 153 = .ok (.putfield 66, 3) := by decide +kernel
theorem dX6_init_156 : decode cX6_init 156 = .ok (.aload_n 0, 1) := by decide +kernel
theorem dX6_init_157 : decode cX6_init 157 = .ok (.sipush 150, 3) := by decide +kernel
theorem dX6_init_160 : decode cX6_init 160 = .ok (.newarray .int, 2) := by decide +kernel
theorem dX6_init_162 : decode cX6_init 162 = .ok (.putfield 69, 3) := by decide +kernel
theorem dX6_init_165 : decode cX6_init 165 = .ok (.aload_n 0, 1) := by decide +kernel
theorem dX6_init_166 : decode cX6_init 166 = .ok (.sipush 150, 3) := by decide +kernel
theorem dX6_init_169 : decode cX6_init 169 = .ok (.newarray .int, 2) := by decide +kernel
theorem dX6_init_171 : decode cX6_init 171 = .ok (.putfield 72, 3) := by decide +kernel
theorem dX6_init_174 : decode cX6_init 174 = .ok (.aload_n 0, 1) := by decide +kernel
theorem dX6_init_175 : decode cX6_init 175 = .ok (.iconst 2, 1) := by decide +kernel
theorem dX6_init_176 : decode cX6_init 176 = .ok (.newarray .int, 2) := by decide +kernel
theorem dX6_init_178 : decode cX6_init 178 = .ok (.putfield 75, 3) := by decide +kernel
theorem dX6_init_181 : decode cX6_init 181 = .ok (.return_, 1) := by decide +kernel
theorem dX6_in_0 : decode cX6_in 0 = .ok (.iload_n 0, 1) := by decide +kernel
theorem dX6_in_1 : decode cX6_in 1 = .ok (.iload_n 1, 1) := by decide +kernel
theorem dX6_in_2 : decode cX6_in 2 = .ok (.if_icmp .lt 12, 3) := by decide +kernel
theorem dX6_in_5 : decode cX6_in 5 = .ok (.iload_n 0, 1) := by decide +kernel
theorem dX6_in_6 : decode cX6_in 6 = .ok (.iload_n 2, 1) := by decide +kernel
theorem dX6_in_7 : decode cX6_in 7 = .ok (.if_icmp .gt 7, 3) := by decide +kernel
theorem dX6_in_10 : decode cX6_in 10 = .ok (.iconst 1, 1) := by decide +kernel
theorem dX6_in_11 : decode cX6_in 11 = .ok (.goto 4, 3) := by decide +kernel
theorem dX6_in_14 : decode cX6_in 14 = .ok (.iconst 0, 1) := by decide +kernel
theorem dX6_in_15 : decode cX6_in 15 = .ok (.ireturn, 1) := by decide +kernel
theorem dX6_finds_0 : decode cX6_finds 0 = .ok (.aload_n 0, 1) := by decide +kernel
theorem dX6_finds_1 : decode cX6_finds 1 = .ok (.getfield 37, 3) := by decide +kernel
theorem dX6_finds_4 : decode cX6_finds 4 = .ok (.ldc 78, 2) := by decide +kernel
theorem dX6_finds_6 : decode cX6_finds 6 = .ok (.iload_n 1, 1) := by decide +kernel
theorem dX6_finds_7 : decode cX6_finds 7 = .ok (.isub, 1) := by decide +kernel
theorem dX6_finds_8 : decode cX6_finds 8 = .ok (.dup2, 1) := by decide +kernel
theorem dX6_finds_9 : decode cX6_finds 9 = .ok (.iaload, 1) := by decide +kernel
theorem dX6_finds_10 : decode cX6_finds 10 = .ok (.iconst 1, 1) := by decide +kernel
theorem dX6_finds_11 : decode cX6_finds 11 = .ok (.iadd, 1) := by decide +kernel
theorem dX6_finds_12 : decode cX6_finds 12 = .ok (.iastore, 1) := by decide +kernel
theorem dX6_finds_13 : decode cX6_finds 13 = .ok (.iload_n 1, 1) := by decide +kernel
theorem dX6_finds_14 : decode cX6_finds 14 = .ok (.ireturn, 1) := by decide +kernel
theorem dX6_isKing_0 : decode cX6_isKing 0 = .ok (.iload_n 0, 1) := by decide +kernel
theorem dX6_isKing_1 : decode cX6_isKing 1 = .ok (.iconst 0, 1) := by decide +kernel
theorem dX6_isKing_2 : decode cX6_isKing 2 = .ok (.iconst 5, 1) := by decide +kernel
theorem dX6_isKing_3 : decode cX6_isKing 3 = .ok (.invokestatic 79, 3) := by decide +kernel
theorem dX6_isKing_6 : decode cX6_isKing 6 = .ok (.ireturn, 1) := by decide +kernel
theorem dX6_isChild_0 : decode cX6_isChild 0 = .ok (.iload_n 1, 1) := by decide +kernel
theorem dX6_isChild_1 : decode cX6_isChild 1 = .ok (.iconst 0, 1) := by decide +kernel
theorem dX6_isChild_2 : decode cX6_isChild 2 = .ok (.aload_n 0, 1) := by decide +kernel
theorem dX6_isChild_3 : decode cX6_isChild 3 = .ok (.getfield 83, 3) := by decide +kernel
theorem dX6_isChild_6 : decode cX6_isChild 6 = .ok (.iconst 1, 1) := by decide +kernel
theorem dX6_isChild_7 : decode cX6_isChild 7 = .ok (.isub, 1) := by decide +kernel
theorem dX6_isChild_8 : decode cX6_isChild 8 = .ok (.invokestatic 79, 3) := by decide +kernel
theorem dX6_isChild_11 : decode cX6_isChild 11 = .ok (.ireturn, 1) := by decide +kernel
theorem dX6_isKind_0 : decode cX6_isKind 0 = .ok (.iload_n 0, 1) := by decide +kernel
theorem dX6_isKind_1 : decode cX6_isKind 1 = .ok (.iconst 0, 1) := by decide +kernel
theorem dX6_isKind_2 : decode cX6_isKind 2 = .ok (.iconst 5, 1) := by decide +kernel
theorem dX6_isKind_3 : decode cX6_isKind 3 = .ok (.invokestatic 79, 3) := by decide +kernel
theorem dX6_isKind_6 : decode cX6_isKind 6 = .ok (.ireturn, 1) := by decide +kernel
theorem dX6_isTold_0 : decode cX6_isTold 0 = .ok (.iload_n 0, 1) := by decide +kernel
theorem dX6_isTold_1 : decode cX6_isTold 1 = .ok (.iconst 0, 1) := by decide +kernel
theorem dX6_isTold_2 : decode cX6_isTold 2 = .ok (.bipush 99, 2) := by decide +kernel
theorem dX6_isTold_4 : decode cX6_isTold 4 = .ok (.invokestatic 79, 3) := by decide +kernel
theorem dX6_isTold_7 : decode cX6_isTold 7 = .ok (.ireturn, 1) := by decide +kernel
theorem dX6_isLong_0 : decode cX6_isLong 0 = .ok (.iload_n 0, 1) := by decide +kernel
theorem dX6_isLong_1 : decode cX6_isLong 1 = .ok (.iconst 0, 1) := by decide +kernel
theorem dX6_isLong_2 : decode cX6_isLong 2 = .ok (.sipush 999, 3) := by decide +kernel
theorem dX6_isLong_5 : decode cX6_isLong 5 = .ok (.invokestatic 79, 3) := by decide +kernel
theorem dX6_isLong_8 : decode cX6_isLong 8 = .ok (.ireturn, 1) := by decide +kernel
theorem dX6_isTreaty_0 : decode cX6_isTreaty 0 = .ok (.iload_n 1, 1) := by decide +kernel
theorem dX6_isTreaty_1 : decode cX6_isTreaty 1 = .ok (.iconst 0, 1) := by decide +kernel
theorem dX6_isTreaty_2 : decode cX6_isTreaty 2 = .ok (.aload_n 0, 1) := by decide +kernel
theorem dX6_isTreaty_3 : decode cX6_isTreaty 3 = .ok (.getfield 87, 3) := by decide +kernel
theorem dX6_isTreaty_6 : decode cX6_isTreaty 6 = .ok (.iconst 1, 1) := by decide +kernel
theorem dX6_isTreaty_7 : decode cX6_isTreaty 7 = .ok (.isub, 1) := by decide +kernel
theorem dX6_isTreaty_8 : decode cX6_isTreaty 8 = .ok (.invokestatic 79, 3) := by decide +kernel
theorem dX6_isTreaty_11 : decode cX6_isTreaty 11 = .ok (.ireturn, 1) := by decide +kernel
theorem dX6_has_0 : decode cX6_has 0 = .ok (.iload_n 0, 1) := by decide +kernel
theorem dX6_has_1 : decode cX6_has 1 = .ok (.iload_n 1, 1) := by decide +kernel
theorem dX6_has_2 : decode cX6_has 2 = .ok (.ishr, 1) := by decide +kernel
theorem dX6_has_3 : decode cX6_has 3 = .ok (.iconst 1, 1) := by decide +kernel
theorem dX6_has_4 : decode cX6_has 4 = .ok (.iand, 1) := by decide +kernel
theorem dX6_has_5 : decode cX6_has 5 = .ok (.iconst 1, 1) := by decide +kernel
theorem dX6_has_6 : decode cX6_has 6 = .ok (.if_icmp .ne 7, 3) := by decide +kernel
theorem dX6_has_9 : decode cX6_has 9 = .ok (.iconst 1, 1) := by decide +kernel
theorem dX6_has_10 : decode cX6_has 10 = .ok (.goto 4, 3) := by decide +kernel
theorem dX6_has_13 : decode cX6_has 13 = .ok (.iconst 0, 1) := by decide +kernel
theorem dX6_has_14 : decode cX6_has 14 = .ok (.ireturn, 1) := by decide +kernel
theorem dX6_ones_0 : decode cX6_ones 0 = .ok (.iconst 0, 1) := by decide +kernel
theorem dX6_ones_1 : decode cX6_ones 1 = .ok (.istore_n 1, 1) := by decide +kernel
theorem dX6_ones_2 : decode cX6_ones 2 = .ok (.iload_n 0, 1) := by decide +kernel
theorem dX6_ones_3 : decode cX6_ones 3 = .ok (.istore_n 2, 1) := by decide +kernel
theorem dX6_ones_4 : decode cX6_ones 4 = .ok (.iload_n 2, 1) := by decide +kernel
theorem dX6_ones_5 : decode cX6_ones 5 = .ok (.ifCond .eq 15, 3) := by decide +kernel
theorem dX6_ones_8 : decode cX6_ones 8 = .ok (.iinc 1 1, 3) := by decide +kernel
theorem dX6_ones_11 : decode cX6_ones 11 = .ok (.iload_n 2, 1) := by decide +kernel
theorem dX6_ones_12 : decode cX6_ones 12 = .ok (.iload_n 2, 1) := by decide +kernel
theorem dX6_ones_13 : decode cX6_ones 13 = .ok (.iconst 1, 1) := by decide +kernel
theorem dX6_ones_14 : decode cX6_ones 14 = .ok (.isub, 1) := by decide +kernel
theorem dX6_ones_15 : decode cX6_ones 15 = .ok (.iand, 1) := by decide +kernel
theorem dX6_ones_16 : decode cX6_ones 16 = .ok (.istore_n 2, 1) := by decide +kernel
theorem dX6_ones_17 : decode cX6_ones 17 = .ok (.goto (-13), 3) := by decide +kernel
theorem dX6_ones_20 : decode cX6_ones 20 = .ok (.iload_n 1, 1) := by decide +kernel
theorem dX6_ones_21 : decode cX6_ones 21 = .ok (.ireturn, 1) := by decide +kernel
theorem dX6_lives_0 : decode cX6_lives 0 = .ok (.aload_n 0, 1) := by decide +kernel
theorem dX6_lives_1 : decode cX6_lives 1 = .ok (.getfield 34, 3) := by decide +kernel
theorem dX6_lives_4 : decode cX6_lives 4 = .ok (.aload_n 0, 1) := by decide +kernel
theorem dX6_lives_5 : decode cX6_lives 5 = .ok (.getfield 90, 3) := by decide +kernel
theorem dX6_lives_8 : decode cX6_lives 8 = .ok (.bipush 15, 2) := by decide +kernel
theorem dX6_lives_10 : decode cX6_lives 10 = .ok (.iadd, 1) := by decide +kernel
theorem dX6_lives_11 : decode cX6_lives 11 = .ok (.iload_n 1, 1) := by decide +kernel
theorem dX6_lives_12 : decode cX6_lives 12 = .ok (.iadd, 1) := by decide +kernel
theorem dX6_lives_13 : decode cX6_lives 13 = .ok (.iaload, 1) := by decide +kernel
theorem dX6_lives_14 : decode cX6_lives 14 = .ok (.ifCond .ne 7, 3) := by decide +kernel
theorem dX6_lives_17 : decode cX6_lives 17 = .ok (.iconst 1, 1) := by decide +kernel
theorem dX6_lives_18 : decode cX6_lives 18 = .ok (.goto 4, 3) := by decide +kernel
theorem dX6_lives_21 : decode cX6_lives 21 = .ok (.iconst 0, 1) := by decide +kernel
theorem dX6_lives_22 : decode cX6_lives 22 = .ok (.ireturn, 1) := by decide +kernel
theorem dX6_holder_0 : decode cX6_holder 0 = .ok (.aload_n 0, 1) := by decide +kernel
theorem dX6_holder_1 : decode cX6_holder 1 = .ok (.getfield 34, 3) := by decide +kernel
theorem dX6_holder_4 : decode cX6_holder 4 = .ok (.aload_n 0, 1) := by decide +kernel
theorem dX6_holder_5 : decode cX6_holder 5 = .ok (.getfield 90, 3) := by decide +kernel
theorem dX6_holder_8 : decode cX6_holder 8 = .ok (.iconst 1, 1) := by decide +kernel
theorem dX6_holder_9 : decode cX6_holder 9 = .ok (.iadd, 1) := by decide +kernel
theorem dX6_holder_10 : decode cX6_holder 10 = .ok (.iload_n 1, 1) := by decide +kernel
theorem dX6_holder_11 : decode cX6_holder 11 = .ok (.iadd, 1) := by decide +kernel
theorem dX6_holder_12 : decode cX6_holder 12 = .ok (.iaload, 1) := by decide +kernel
theorem dX6_holder_13 : decode cX6_holder 13 = .ok (.ireturn, 1) := by decide +kernel
theorem dX6_isHome_0 : decode cX6_isHome 0 = .ok (.aload_n 0, 1) := by decide +kernel
theorem dX6_isHome_1 : decode cX6_isHome 1 = .ok (.iload_n 1, 1) := by decide +kernel
theorem dX6_isHome_2 : decode cX6_isHome 2 = .ok (.invokevirtual 93, 3) := by decide +kernel
theorem dX6_isHome_5 : decode cX6_isHome 5 = .ok (.aload_n 0, 1) := by decide +kernel
theorem dX6_isHome_6 : decode cX6_isHome 6 = .ok (.getfield 16, 3) := by decide +kernel
theorem dX6_isHome_9 : decode cX6_isHome 9 = .ok (.iload_n 1, 1) := by decide +kernel
theorem dX6_isHome_10 : decode cX6_isHome 10 = .ok (.iaload, 1) := by decide +kernel
theorem dX6_isHome_11 : decode cX6_isHome 11 = .ok (.if_icmp .ne 7, 3) := by decide +kernel
theorem dX6_isHome_14 : decode cX6_isHome 14 = .ok (.iconst 1, 1) := by decide +kernel
theorem dX6_isHome_15 : decode cX6_isHome 15 = .ok (.goto 4, 3) := by decide +kernel
theorem dX6_isHome_18 : decode cX6_isHome 18 = .ok (.iconst 0, 1) := by decide +kernel
theorem dX6_isHome_19 : decode cX6_isHome 19 = .ok (.ireturn, 1) := by decide +kernel
theorem dX6_isInForce_0 : decode cX6_isInForce 0 = .ok (.aload_n 0, 1) := by decide +kernel
theorem dX6_isInForce_1 : decode cX6_isInForce 1 = .ok (.getfield 34, 3) := by decide +kernel
theorem dX6_isInForce_4 : decode cX6_isInForce 4 = .ok (.aload_n 0, 1) := by decide +kernel
theorem dX6_isInForce_5 : decode cX6_isInForce 5 = .ok (.getfield 90, 3) := by decide +kernel
theorem dX6_isInForce_8 : decode cX6_isInForce 8 = .ok (.bipush 29, 2) := by decide +kernel
theorem dX6_isInForce_10 : decode cX6_isInForce 10 = .ok (.iadd, 1) := by decide +kernel
theorem dX6_isInForce_11 : decode cX6_isInForce 11 = .ok (.iload_n 1, 1) := by decide +kernel
theorem dX6_isInForce_12 : decode cX6_isInForce 12 = .ok (.iadd, 1) := by decide +kernel
theorem dX6_isInForce_13 : decode cX6_isInForce 13 = .ok (.iaload, 1) := by decide +kernel
theorem dX6_isInForce_14 : decode cX6_isInForce 14 = .ok (.ifCond .ne 27, 3) := by decide +kernel
theorem dX6_isInForce_17 : decode cX6_isInForce 17 = .ok (.aload_n 0, 1) := by decide +kernel
theorem dX6_isInForce_18 : decode cX6_isInForce 18 = .ok (.getfield 34, 3) := by decide +kernel
theorem dX6_isInForce_21 : decode cX6_isInForce 21 = .ok (.aload_n 0, 1) := by decide +kernel
theorem dX6_isInForce_22 : decode cX6_isInForce 22 = .ok (.getfield 90, 3) := by decide +kernel
theorem dX6_isInForce_25 : decode cX6_isInForce 25 = .ok (.iconst 0, 1) := by decide +kernel
theorem dX6_isInForce_26 : decode cX6_isInForce 26 = .ok (.iadd, 1) := by decide +kernel
theorem dX6_isInForce_27 : decode cX6_isInForce 27 = .ok (.iaload, 1) := by decide +kernel
theorem dX6_isInForce_28 : decode cX6_isInForce 28 = .ok (.aload_n 0, 1) := by decide +kernel
theorem dX6_isInForce_29 : decode cX6_isInForce 29 = .ok (.getfield 31, 3) := by decide +kernel
theorem dX6_isInForce_32 : decode cX6_isInForce 32 = .ok (.iload_n 1, 1) := by decide +kernel
theorem dX6_isInForce_33 : decode cX6_isInForce 33 = .ok (.iaload, 1) := by decide +kernel
theorem dX6_isInForce_34 : decode cX6_isInForce 34 = .ok (.if_icmp .gt 7, 3) := by decide +kernel
theorem dX6_isInForce_37 : decode cX6_isInForce 37 = .ok (.iconst 1, 1) := by decide +kernel
theorem dX6_isInForce_38 : decode cX6_isInForce 38 = .ok (.goto 4, 3) := by decide +kernel
theorem dX6_isInForce_41 : decode cX6_isInForce 41 = .ok (.iconst 0, 1) := by decide +kernel
theorem dX6_isInForce_42 : decode cX6_isInForce 42 = .ok (.ireturn, 1) := by decide +kernel
theorem dX6_hasTwinAtHome_0 : decode cX6_hasTwinAtHome 0 = .ok (.iconst 0, 1) := by decide +kernel
theorem dX6_hasTwinAtHome_1 : decode cX6_hasTwinAtHome 1 = .ok (.istore_n 2, 1) := by decide +kernel
theorem dX6_hasTwinAtHome_2 : decode cX6_hasTwinAtHome 2 = .ok (.iconst 0, 1) := by decide +kernel
theorem dX6_hasTwinAtHome_3 : decode cX6_hasTwinAtHome 3 = .ok (.istore_n 3, 1) := by decide +kernel
theorem dX6_hasTwinAtHome_4 : decode cX6_hasTwinAtHome 4 = .ok (.iload_n 3, 1) := by decide +kernel
theorem dX6_hasTwinAtHome_5 : decode cX6_hasTwinAtHome 5 = .ok (.aload_n 0, 1) := by decide +kernel
theorem dX6_hasTwinAtHome_6 : decode cX6_hasTwinAtHome 6 = .ok (.getfield 83, 3) := by decide +kernel
theorem dX6_hasTwinAtHome_9 : decode cX6_hasTwinAtHome 9 = .ok (.if_icmp .ge 65, 3) := by decide +kernel
theorem dX6_hasTwinAtHome_12 : decode cX6_hasTwinAtHome 12 = .ok (.iload_n 2, 1) := by decide +kernel
theorem dX6_hasTwinAtHome_13 : decode cX6_hasTwinAtHome 13 = .ok (.ifCond .ne 49, 3) := by decide +kernel
theorem dX6_hasTwinAtHome_16 : decode cX6_hasTwinAtHome 16 = .ok (.iload_n 3, 1) := by decide +kernel
theorem dX6_hasTwinAtHome_17 : decode cX6_hasTwinAtHome 17 = .ok (.iload_n 1, 1) := by decide +kernel
theorem dX6_hasTwinAtHome_18 : decode cX6_hasTwinAtHome 18 = .ok (.if_icmp .eq 48, 3) := by decide +kernel
theorem dX6_hasTwinAtHome_21 : decode cX6_hasTwinAtHome 21 = .ok (.aload_n 0, 1) := by decide +kernel
theorem dX6_hasTwinAtHome_22 : decode cX6_hasTwinAtHome 22 = .ok (.getfield 13, 3) := by decide +kernel
theorem dX6_hasTwinAtHome_25 : decode cX6_hasTwinAtHome 25 = .ok (.iload_n 3, 1) := by decide +kernel
theorem dX6_hasTwinAtHome_26 : decode cX6_hasTwinAtHome 26 = .ok (.iaload, 1) := by decide +kernel
theorem dX6_hasTwinAtHome_27 : decode cX6_hasTwinAtHome 27 = .ok (.iconst 5, 1) := by decide +kernel
theorem dX6_hasTwinAtHome_28 : decode cX6_hasTwinAtHome 28 = .ok (.if_icmp .ne 38, 3) := by decide +kernel
theorem dX6_hasTwinAtHome_31 : decode cX6_hasTwinAtHome 31 = .ok (.aload_n 0, 1) := by decide +kernel
theorem dX6_hasTwinAtHome_32 : decode cX6_hasTwinAtHome 32 = .ok (.getfield 16, 3) := by decide +kernel
theorem dX6_hasTwinAtHome_35 : decode cX6_hasTwinAtHome 35 = .ok (.iload_n 3, 1) := by decide +kernel
theorem dX6_hasTwinAtHome_36 : decode cX6_hasTwinAtHome 36 = .ok (.iaload, 1) := by decide +kernel
theorem dX6_hasTwinAtHome_37 : decode cX6_hasTwinAtHome 37 = .ok (.aload_n 0, 1) := by decide +kernel
theorem dX6_hasTwinAtHome_38 : decode cX6_hasTwinAtHome 38 = .ok (.getfield 16, 3) := by decide +kernel
theorem dX6_hasTwinAtHome_41 : decode cX6_hasTwinAtHome 41 = .ok (.iload_n 1, 1) := by decide +kernel
theorem dX6_hasTwinAtHome_42 : decode cX6_hasTwinAtHome 42 = .ok (.iaload, 1) := by decide +kernel
theorem dX6_hasTwinAtHome_43 : decode cX6_hasTwinAtHome 43 = .ok (.if_icmp .ne 23, 3) := by decide +kernel
theorem dX6_hasTwinAtHome_46 : decode cX6_hasTwinAtHome 46 = .ok (.aload_n 0, 1) := by decide +kernel
theorem dX6_hasTwinAtHome_47 : decode cX6_hasTwinAtHome 47 = .ok (.iload_n 3, 1) := by decide +kernel
theorem dX6_hasTwinAtHome_48 : decode cX6_hasTwinAtHome 48 = .ok (.invokevirtual 97, 3) := by decide +kernel
theorem dX6_hasTwinAtHome_51 : decode cX6_hasTwinAtHome 51 = .ok (.ifCond .eq 15, 3) := by decide +kernel
theorem dX6_hasTwinAtHome_54 : decode cX6_hasTwinAtHome 54 = .ok (.aload_n 0, 1) := by decide +kernel
theorem dX6_hasTwinAtHome_55 : decode cX6_hasTwinAtHome 55 = .ok (.iload_n 3, 1) := by decide +kernel
theorem dX6_hasTwinAtHome_56 : decode cX6_hasTwinAtHome 56 = .ok (.invokevirtual 101, 3) := by decide +kernel
theorem dX6_hasTwinAtHome_59 : decode cX6_hasTwinAtHome 59 = .ok (.ifCond .eq 7, 3) := by decide +kernel
theorem dX6_hasTwinAtHome_62 : decode cX6_hasTwinAtHome 62 = .ok (.iconst 1, 1) := by decide +kernel
theorem dX6_hasTwinAtHome_63 : decode cX6_hasTwinAtHome 63 = .ok (.goto 4, 3) := by decide +kernel
theorem dX6_hasTwinAtHome_66 : decode cX6_hasTwinAtHome 66 = .ok (.iconst 0, 1) := by decide +kernel
theorem dX6_hasTwinAtHome_67 : decode cX6_hasTwinAtHome 67 = .ok (.istore_n 2, 1) := by decide +kernel
theorem dX6_hasTwinAtHome_68 : decode cX6_hasTwinAtHome 68 = .ok (.iinc 3 1, 3) := by decide +kernel
theorem dX6_hasTwinAtHome_71 : decode cX6_hasTwinAtHome 71 = .ok (.goto (-67), 3) := by decide +kernel
theorem dX6_hasTwinAtHome_74 : decode cX6_hasTwinAtHome 74 = .ok (.iload_n 2, 1) := by decide +kernel
theorem dX6_hasTwinAtHome_75 : decode cX6_hasTwinAtHome 75 = .ok (.ireturn, 1) := by decide +kernel
theorem dX6_loss_0 : decode cX6_loss 0 = .ok (.aload_n 0, 1) := by decide +kernel
theorem dX6_loss_1 : decode cX6_loss 1 = .ok (.getfield 19, 3) := by decide +kernel
theorem dX6_loss_4 : decode cX6_loss 4 = .ok (.iload_n 1, 1) := by decide +kernel
theorem dX6_loss_5 : decode cX6_loss 5 = .ok (.iaload, 1) := by decide +kernel
theorem dX6_loss_6 : decode cX6_loss 6 = .ok (.istore_n 2, 1) := by decide +kernel
theorem dX6_loss_7 : decode cX6_loss 7 = .ok (.aload_n 0, 1) := by decide +kernel
theorem dX6_loss_8 : decode cX6_loss 8 = .ok (.getfield 13, 3) := by decide +kernel
theorem dX6_loss_11 : decode cX6_loss 11 = .ok (.iload_n 1, 1) := by decide +kernel
theorem dX6_loss_12 : decode cX6_loss 12 = .ok (.iaload, 1) := by decide +kernel
theorem dX6_loss_13 : decode cX6_loss 13 = .ok (.tableswitch 83 1 5 #[35, 39, 43, 50, 67], 35) := by decide +kernel
theorem dX6_loss_48 : decode cX6_loss 48 = .ok (.iconst 2, 1) := by decide +kernel
theorem dX6_loss_49 : decode cX6_loss 49 = .ok (.iload_n 2, 1) := by decide +kernel
theorem dX6_loss_50 : decode cX6_loss 50 = .ok (.imul, 1) := by decide +kernel
theorem dX6_loss_51 : decode cX6_loss 51 = .ok (.ireturn, 1) := by decide +kernel
theorem dX6_loss_52 : decode cX6_loss 52 = .ok (.iload_n 2, 1) := by decide +kernel
theorem dX6_loss_53 : decode cX6_loss 53 = .ok (.iconst 2, 1) := by decide +kernel
theorem dX6_loss_54 : decode cX6_loss 54 = .ok (.idiv, 1) := by decide +kernel
theorem dX6_loss_55 : decode cX6_loss 55 = .ok (.ireturn, 1) := by decide +kernel
theorem dX6_loss_56 : decode cX6_loss 56 = .ok (.iconst 2, 1) := by decide +kernel
theorem dX6_loss_57 : decode cX6_loss 57 = .ok (.iload_n 2, 1) := by decide +kernel
theorem dX6_loss_58 : decode cX6_loss 58 = .ok (.imul, 1) := by decide +kernel
theorem dX6_loss_59 : decode cX6_loss 59 = .ok (.bipush 20, 2) := by decide +kernel
theorem dX6_loss_61 : decode cX6_loss 61 = .ok (.iadd, 1) := by decide +kernel
theorem dX6_loss_62 : decode cX6_loss 62 = .ok (.ireturn, 1) := by decide +kernel
theorem dX6_loss_63 : decode cX6_loss 63 = .ok (.iload_n 2, 1) := by decide +kernel
theorem dX6_loss_64 : decode cX6_loss 64 = .ok (.iconst 2, 1) := by decide +kernel
theorem dX6_loss_65 : decode cX6_loss 65 = .ok (.idiv, 1) := by decide +kernel
theorem dX6_loss_66 : decode cX6_loss 66 = .ok (.iconst 5, 1) := by decide +kernel
theorem dX6_loss_67 : decode cX6_loss 67 = .ok (.if_icmp .ge 7, 3) := by decide +kernel
theorem dX6_loss_70 : decode cX6_loss 70 = .ok (.iconst 0, 1) := by decide +kernel
theorem dX6_loss_71 : decode cX6_loss 71 = .ok (.goto 8, 3) := by decide +kernel
theorem dX6_loss_74 : decode cX6_loss 74 = .ok (.iload_n 2, 1) := by decide +kernel
theorem dX6_loss_75 : decode cX6_loss 75 = .ok (.iconst 2, 1) := by decide +kernel
theorem dX6_loss_76 : decode cX6_loss 76 = .ok (.idiv, 1) := by decide +kernel
theorem dX6_loss_77 : decode cX6_loss 77 = .ok (.iconst 5, 1) := by decide +kernel
theorem dX6_loss_78 : decode cX6_loss 78 = .ok (.isub, 1) := by decide +kernel
theorem dX6_loss_79 : decode cX6_loss 79 = .ok (.ireturn, 1) := by decide +kernel
theorem dX6_loss_80 : decode cX6_loss 80 = .ok (.aload_n 0, 1) := by decide +kernel
theorem dX6_loss_81 : decode cX6_loss 81 = .ok (.iload_n 1, 1) := by decide +kernel
theorem dX6_loss_82 : decode cX6_loss 82 = .ok (.invokevirtual 104, 3) := by decide +kernel
theorem dX6_loss_85 : decode cX6_loss 85 = .ok (.ifCond .eq 7, 3) := by decide +kernel
theorem dX6_loss_88 : decode cX6_loss 88 = .ok (.iload_n 2, 1) := by decide +kernel
theorem dX6_loss_89 : decode cX6_loss 89 = .ok (.goto 6, 3) := by decide +kernel
theorem dX6_loss_92 : decode cX6_loss 92 = .ok (.iconst 2, 1) := by decide +kernel
theorem dX6_loss_93 : decode cX6_loss 93 = .ok (.iload_n 2, 1) := by decide +kernel
theorem dX6_loss_94 : decode cX6_loss 94 = .ok (.imul, 1) := by decide +kernel
theorem dX6_loss_95 : decode cX6_loss 95 = .ok (.ireturn, 1) := by decide +kernel
theorem dX6_loss_96 : decode cX6_loss 96 = .ok (.iload_n 2, 1) := by decide +kernel
theorem dX6_loss_97 : decode cX6_loss 97 = .ok (.ireturn, 1) := by decide +kernel
theorem dX6_findPledges_0 : decode cX6_findPledges 0 = .ok (.iconst 0, 1) := by decide +kernel
theorem dX6_findPledges_1 : decode cX6_findPledges 1 = .ok (.istore_n 1, 1) := by decide +kernel
theorem dX6_findPledges_2 : decode cX6_findPledges 2 = .ok (.iload_n 1, 1) := by decide +kernel
theorem dX6_findPledges_3 : decode cX6_findPledges 3 = .ok (.bipush 36, 2) := by decide +kernel
theorem dX6_findPledges_5 : decode cX6_findPledges 5 = .ok (.if_icmp .ge 16, 3) := by decide +kernel
theorem dX6_findPledges_8 : decode cX6_findPledges 8 = .ok (.aload_n 0, 1) := by decide +kernel
theorem dX6_findPledges_9 : decode cX6_findPledges 9 = .ok (.getfield 40, 3) := by decide +kernel
theorem dX6_findPledges_12 : decode cX6_findPledges 12 = .ok (.iload_n 1, 1) := by decide +kernel
theorem dX6_findPledges_13 : decode cX6_findPledges 13 = .ok (.iconst 0, 1) := by decide +kernel
theorem dX6_findPledges_14 : decode cX6_findPledges 14 = .ok (.iastore, 1) := by decide +kernel
theorem dX6_findPledges_15 : decode cX6_findPledges 15 = .ok (.iinc 1 1, 3) := by decide +kernel
theorem dX6_findPledges_18 : decode cX6_findPledges 18 = .ok (.goto (-16), 3) := by decide +kernel
theorem dX6_findPledges_21 : decode cX6_findPledges 21 = .ok (.iconst 0, 1) := by decide +kernel
theorem dX6_findPledges_22 : decode cX6_findPledges 22 = .ok (.istore_n 1, 1) := by decide +kernel
theorem dX6_findPledges_23 : decode cX6_findPledges 23 = .ok (.iload_n 1, 1) := by decide +kernel
theorem dX6_findPledges_24 : decode cX6_findPledges 24 = .ok (.aload_n 0, 1) := by decide +kernel
theorem dX6_findPledges_25 : decode cX6_findPledges 25 = .ok (.getfield 83, 3) := by decide +kernel
theorem dX6_findPledges_28 : decode cX6_findPledges 28 = .ok (.if_icmp .ge 53, 3) := by decide +kernel
theorem dX6_findPledges_31 : decode cX6_findPledges 31 = .ok (.aload_n 0, 1) := by decide +kernel
theorem dX6_findPledges_32 : decode cX6_findPledges 32 = .ok (.iload_n 1, 1) := by decide +kernel
theorem dX6_findPledges_33 : decode cX6_findPledges 33 = .ok (.invokevirtual 97, 3) := by decide +kernel
theorem dX6_findPledges_36 : decode cX6_findPledges 36 = .ok (.ifCond .eq 39, 3) := by decide +kernel
theorem dX6_findPledges_39 : decode cX6_findPledges 39 = .ok (.aload_n 0, 1) := by decide +kernel
theorem dX6_findPledges_40 : decode cX6_findPledges 40 = .ok (.iload_n 1, 1) := by decide +kernel
theorem dX6_findPledges_41 : decode cX6_findPledges 41 = .ok (.invokevirtual 101, 3) := by decide +kernel
theorem dX6_findPledges_44 : decode cX6_findPledges 44 = .ok (.ifCond .ne 31, 3) := by decide +kernel
theorem dX6_findPledges_47 : decode cX6_findPledges 47 = .ok (.aload_n 0, 1) := by decide +kernel
theorem dX6_findPledges_48 : decode cX6_findPledges 48 = .ok (.getfield 40, 3) := by decide +kernel
theorem dX6_findPledges_51 : decode cX6_findPledges 51 = .ok (.bipush 6, 2) := by decide +kernel
theorem dX6_findPledges_53 : decode cX6_findPledges 53 = .ok (.aload_n 0, 1) := by decide +kernel
theorem dX6_findPledges_54 : decode cX6_findPledges 54 = .ok (.iload_n 1, 1) := by decide +kernel
theorem dX6_findPledges_55 : decode cX6_findPledges 55 = .ok (.invokevirtual 93, 3) := by decide +kernel
theorem dX6_findPledges_58 : decode cX6_findPledges 58 = .ok (.imul, 1) := by decide +kernel
theorem dX6_findPledges_59 : decode cX6_findPledges 59 = .ok (.aload_n 0, 1) := by decide +kernel
theorem dX6_findPledges_60 : decode cX6_findPledges 60 = .ok (.getfield 16, 3) := by decide +kernel
theorem dX6_findPledges_63 : decode cX6_findPledges 63 = .ok (.iload_n 1, 1) := by decide +kernel
theorem dX6_findPledges_64 : decode cX6_findPledges 64 = .ok (.iaload, 1) := by decide +kernel
theorem dX6_findPledges_65 : decode cX6_findPledges 65 = .ok (.iadd, 1) := by decide +kernel
theorem dX6_findPledges_66 : decode cX6_findPledges 66 = .ok (.dup2, 1) := by decide +kernel
theorem dX6_findPledges_67 : decode cX6_findPledges 67 = .ok (.iaload, 1) := by decide +kernel
theorem dX6_findPledges_68 : decode cX6_findPledges 68 = .ok (.aload_n 0, 1) := by decide +kernel
theorem dX6_findPledges_69 : decode cX6_findPledges 69 = .ok (.iload_n 1, 1) := by decide +kernel
theorem dX6_findPledges_70 : decode cX6_findPledges 70 = .ok (.invokevirtual 107, 3) := by decide +kernel
theorem dX6_findPledges_73 : decode cX6_findPledges 73 = .ok (.iadd, 1) := by decide +kernel
theorem dX6_findPledges_74 : decode cX6_findPledges 74 = .ok (.iastore, 1) := by decide +kernel
theorem dX6_findPledges_75 : decode cX6_findPledges 75 = .ok (.iinc 1 1, 3) := by decide +kernel
theorem dX6_findPledges_78 : decode cX6_findPledges 78 = .ok (.goto (-55), 3) := by decide +kernel
theorem dX6_findPledges_81 : decode cX6_findPledges 81 = .ok (.return_, 1) := by decide +kernel
theorem dX6_easeOf_0 : decode cX6_easeOf 0 = .ok (.aload_n 0, 1) := by decide +kernel
theorem dX6_easeOf_1 : decode cX6_easeOf 1 = .ok (.getfield 40, 3) := by decide +kernel
theorem dX6_easeOf_4 : decode cX6_easeOf 4 = .ok (.bipush 6, 2) := by decide +kernel
theorem dX6_easeOf_6 : decode cX6_easeOf 6 = .ok (.aload_n 0, 1) := by decide +kernel
theorem dX6_easeOf_7 : decode cX6_easeOf 7 = .ok (.getfield 25, 3) := by decide +kernel
theorem dX6_easeOf_10 : decode cX6_easeOf 10 = .ok (.iload_n 1, 1) := by decide +kernel
theorem dX6_easeOf_11 : decode cX6_easeOf 11 = .ok (.iaload, 1) := by decide +kernel
theorem dX6_easeOf_12 : decode cX6_easeOf 12 = .ok (.imul, 1) := by decide +kernel
theorem dX6_easeOf_13 : decode cX6_easeOf 13 = .ok (.aload_n 0, 1) := by decide +kernel
theorem dX6_easeOf_14 : decode cX6_easeOf 14 = .ok (.getfield 22, 3) := by decide +kernel
theorem dX6_easeOf_17 : decode cX6_easeOf 17 = .ok (.iload_n 1, 1) := by decide +kernel
theorem dX6_easeOf_18 : decode cX6_easeOf 18 = .ok (.iaload, 1) := by decide +kernel
theorem dX6_easeOf_19 : decode cX6_easeOf 19 = .ok (.iadd, 1) := by decide +kernel
theorem dX6_easeOf_20 : decode cX6_easeOf 20 = .ok (.iaload, 1) := by decide +kernel
theorem dX6_easeOf_21 : decode cX6_easeOf 21 = .ok (.aload_n 0, 1) := by decide +kernel
theorem dX6_easeOf_22 : decode cX6_easeOf 22 = .ok (.getfield 7, 3) := by decide +kernel
theorem dX6_easeOf_25 : decode cX6_easeOf 25 = .ok (.aload_n 0, 1) := by decide +kernel
theorem dX6_easeOf_26 : decode cX6_easeOf 26 = .ok (.getfield 22, 3) := by decide +kernel
theorem dX6_easeOf_29 : decode cX6_easeOf 29 = .ok (.iload_n 1, 1) := by decide +kernel
theorem dX6_easeOf_30 : decode cX6_easeOf 30 = .ok (.iaload, 1) := by decide +kernel
theorem dX6_easeOf_31 : decode cX6_easeOf 31 = .ok (.iaload, 1) := by decide +kernel
theorem dX6_easeOf_32 : decode cX6_easeOf 32 = .ok (.iadd, 1) := by decide +kernel
theorem dX6_easeOf_33 : decode cX6_easeOf 33 = .ok (.aload_n 0, 1) := by decide +kernel
theorem dX6_easeOf_34 : decode cX6_easeOf 34 = .ok (.getfield 28, 3) := by decide +kernel
theorem dX6_easeOf_37 : decode cX6_easeOf 37 = .ok (.iload_n 1, 1) := by decide +kernel
theorem dX6_easeOf_38 : decode cX6_easeOf 38 = .ok (.iaload, 1) := by decide +kernel
theorem dX6_easeOf_39 : decode cX6_easeOf 39 = .ok (.isub, 1) := by decide +kernel
theorem dX6_easeOf_40 : decode cX6_easeOf 40 = .ok (.ireturn, 1) := by decide +kernel
theorem dX6_looseSet_0 : decode cX6_looseSet 0 = .ok (.aload_n 0, 1) := by decide +kernel
theorem dX6_looseSet_1 : decode cX6_looseSet 1 = .ok (.invokevirtual 110, 3) := by decide +kernel
theorem dX6_looseSet_4 : decode cX6_looseSet 4 = .ok (.iconst 0, 1) := by decide +kernel
theorem dX6_looseSet_5 : decode cX6_looseSet 5 = .ok (.istore_n 1, 1) := by decide +kernel
theorem dX6_looseSet_6 : decode cX6_looseSet 6 = .ok (.iconst 0, 1) := by decide +kernel
theorem dX6_looseSet_7 : decode cX6_looseSet 7 = .ok (.istore_n 2, 1) := by decide +kernel
theorem dX6_looseSet_8 : decode cX6_looseSet 8 = .ok (.iload_n 2, 1) := by decide +kernel
theorem dX6_looseSet_9 : decode cX6_looseSet 9 = .ok (.aload_n 0, 1) := by decide +kernel
theorem dX6_looseSet_10 : decode cX6_looseSet 10 = .ok (.getfield 87, 3) := by decide +kernel
theorem dX6_looseSet_13 : decode cX6_looseSet 13 = .ok (.if_icmp .ge 35, 3) := by decide +kernel
theorem dX6_looseSet_16 : decode cX6_looseSet 16 = .ok (.iload_n 1, 1) := by decide +kernel
theorem dX6_looseSet_17 : decode cX6_looseSet 17 = .ok (.aload_n 0, 1) := by decide +kernel
theorem dX6_looseSet_18 : decode cX6_looseSet 18 = .ok (.iload_n 2, 1) := by decide +kernel
theorem dX6_looseSet_19 : decode cX6_looseSet 19 = .ok (.invokevirtual 113, 3) := by decide +kernel
theorem dX6_looseSet_22 : decode cX6_looseSet 22 = .ok (.ifCond .eq 17, 3) := by decide +kernel
theorem dX6_looseSet_25 : decode cX6_looseSet 25 = .ok (.aload_n 0, 1) := by decide +kernel
theorem dX6_looseSet_26 : decode cX6_looseSet 26 = .ok (.iload_n 2, 1) := by decide +kernel
theorem dX6_looseSet_27 : decode cX6_looseSet 27 = .ok (.invokevirtual 116, 3) := by decide +kernel
theorem dX6_looseSet_30 : decode cX6_looseSet 30 = .ok (.ifCond .ge 9, 3) := by decide +kernel
theorem dX6_looseSet_33 : decode cX6_looseSet 33 = .ok (.iconst 1, 1) := by decide +kernel
theorem dX6_looseSet_34 : decode cX6_looseSet 34 = .ok (.iload_n 2, 1) := by decide +kernel
theorem dX6_looseSet_35 : decode cX6_looseSet 35 = .ok (.ishl, 1) := by decide +kernel
theorem dX6_looseSet_36 : decode cX6_looseSet 36 = .ok (.goto 4, 3) := by decide +kernel
theorem dX6_looseSet_39 : decode cX6_looseSet 39 = .ok (.iconst 0, 1) := by decide +kernel
theorem dX6_looseSet_40 : decode cX6_looseSet 40 = .ok (.ior, 1) := by decide +kernel
theorem dX6_looseSet_41 : decode cX6_looseSet 41 = .ok (.istore_n 1, 1) := by decide +kernel
theorem dX6_looseSet_42 : decode cX6_looseSet 42 = .ok (.iinc 2 1, 3) := by decide +kernel
theorem dX6_looseSet_45 : decode cX6_looseSet 45 = .ok (.goto (-37), 3) := by decide +kernel
theorem dX6_looseSet_48 : decode cX6_looseSet 48 = .ok (.iload_n 1, 1) := by decide +kernel
theorem dX6_looseSet_49 : decode cX6_looseSet 49 = .ok (.ireturn, 1) := by decide +kernel
theorem dX6_forceSet_0 : decode cX6_forceSet 0 = .ok (.iconst 0, 1) := by decide +kernel
theorem dX6_forceSet_1 : decode cX6_forceSet 1 = .ok (.istore_n 1, 1) := by decide +kernel
theorem dX6_forceSet_2 : decode cX6_forceSet 2 = .ok (.iconst 0, 1) := by decide +kernel
theorem dX6_forceSet_3 : decode cX6_forceSet 3 = .ok (.istore_n 2, 1) := by decide +kernel
theorem dX6_forceSet_4 : decode cX6_forceSet 4 = .ok (.iload_n 2, 1) := by decide +kernel
theorem dX6_forceSet_5 : decode cX6_forceSet 5 = .ok (.aload_n 0, 1) := by decide +kernel
theorem dX6_forceSet_6 : decode cX6_forceSet 6 = .ok (.getfield 87, 3) := by decide +kernel
theorem dX6_forceSet_9 : decode cX6_forceSet 9 = .ok (.if_icmp .ge 27, 3) := by decide +kernel
theorem dX6_forceSet_12 : decode cX6_forceSet 12 = .ok (.iload_n 1, 1) := by decide +kernel
theorem dX6_forceSet_13 : decode cX6_forceSet 13 = .ok (.aload_n 0, 1) := by decide +kernel
theorem dX6_forceSet_14 : decode cX6_forceSet 14 = .ok (.iload_n 2, 1) := by decide +kernel
theorem dX6_forceSet_15 : decode cX6_forceSet 15 = .ok (.invokevirtual 113, 3) := by decide +kernel
theorem dX6_forceSet_18 : decode cX6_forceSet 18 = .ok (.ifCond .eq 9, 3) := by decide +kernel
theorem dX6_forceSet_21 : decode cX6_forceSet 21 = .ok (.iconst 1, 1) := by decide +kernel
theorem dX6_forceSet_22 : decode cX6_forceSet 22 = .ok (.iload_n 2, 1) := by decide +kernel
theorem dX6_forceSet_23 : decode cX6_forceSet 23 = .ok (.ishl, 1) := by decide +kernel
theorem dX6_forceSet_24 : decode cX6_forceSet 24 = .ok (.goto 4, 3) := by decide +kernel
theorem dX6_forceSet_27 : decode cX6_forceSet 27 = .ok (.iconst 0, 1) := by decide +kernel
theorem dX6_forceSet_28 : decode cX6_forceSet 28 = .ok (.ior, 1) := by decide +kernel
theorem dX6_forceSet_29 : decode cX6_forceSet 29 = .ok (.istore_n 1, 1) := by decide +kernel
theorem dX6_forceSet_30 : decode cX6_forceSet 30 = .ok (.iinc 2 1, 3) := by decide +kernel
theorem dX6_forceSet_33 : decode cX6_forceSet 33 = .ok (.goto (-29), 3) := by decide +kernel
theorem dX6_forceSet_36 : decode cX6_forceSet 36 = .ok (.iload_n 1, 1) := by decide +kernel
theorem dX6_forceSet_37 : decode cX6_forceSet 37 = .ok (.ireturn, 1) := by decide +kernel
theorem dX6_held_0 : decode cX6_held 0 = .ok (.iconst 0, 1) := by decide +kernel
theorem dX6_held_1 : decode cX6_held 1 = .ok (.istore_n 3, 1) := by decide +kernel
theorem dX6_held_2 : decode cX6_held 2 = .ok (.iconst 0, 1) := by decide +kernel
theorem dX6_held_3 : decode cX6_held 3 = .ok (.istore 4, 2) := by decide +kernel
theorem dX6_held_5 : decode cX6_held 5 = .ok (.iload 4, 2) := by decide +kernel
theorem dX6_held_7 : decode cX6_held 7 = .ok (.aload_n 0, 1) := by decide +kernel
theorem dX6_held_8 : decode cX6_held 8 = .ok (.getfield 83, 3) := by decide +kernel
theorem dX6_held_11 : decode cX6_held 11 = .ok (.if_icmp .ge 50, 3) := by decide +kernel
theorem dX6_held_14 : decode cX6_held 14 = .ok (.iload_n 3, 1) := by decide +kernel
theorem dX6_held_15 : decode cX6_held 15 = .ok (.aload_n 0, 1) := by decide +kernel
theorem dX6_held_16 : decode cX6_held 16 = .ok (.iload 4, 2) := by decide +kernel
theorem dX6_held_18 : decode cX6_held 18 = .ok (.invokevirtual 97, 3) := by decide +kernel
theorem dX6_held_21 : decode cX6_held 21 = .ok (.ifCond .eq 31, 3) := by decide +kernel
theorem dX6_held_24 : decode cX6_held 24 = .ok (.aload_n 0, 1) := by decide +kernel
theorem dX6_held_25 : decode cX6_held 25 = .ok (.getfield 16, 3) := by decide +kernel
theorem dX6_held_28 : decode cX6_held 28 = .ok (.iload 4, 2) := by decide +kernel
theorem dX6_held_30 : decode cX6_held 30 = .ok (.iaload, 1) := by decide +kernel
theorem dX6_held_31 : decode cX6_held 31 = .ok (.iload_n 2, 1) := by decide +kernel
theorem dX6_held_32 : decode cX6_held 32 = .ok (.if_icmp .ne 20, 3) := by decide +kernel
theorem dX6_held_35 : decode cX6_held 35 = .ok (.aload_n 0, 1) := by decide +kernel
theorem dX6_held_36 : decode cX6_held 36 = .ok (.iload 4, 2) := by decide +kernel
theorem dX6_held_38 : decode cX6_held 38 = .ok (.invokevirtual 93, 3) := by decide +kernel
theorem dX6_held_41 : decode cX6_held 41 = .ok (.iload_n 1, 1) := by decide +kernel
theorem dX6_held_42 : decode cX6_held 42 = .ok (.if_icmp .ne 10, 3) := by decide +kernel
theorem dX6_held_45 : decode cX6_held 45 = .ok (.iconst 1, 1) := by decide +kernel
theorem dX6_held_46 : decode cX6_held 46 = .ok (.iload 4, 2) := by decide +kernel
theorem dX6_held_48 : decode cX6_held 48 = .ok (.ishl, 1) := by decide +kernel
theorem dX6_held_49 : decode cX6_held 49 = .ok (.goto 4, 3) := by decide +kernel
theorem dX6_held_52 : decode cX6_held 52 = .ok (.iconst 0, 1) := by decide +kernel
theorem dX6_held_53 : decode cX6_held 53 = .ok (.ior, 1) := by decide +kernel
theorem dX6_held_54 : decode cX6_held 54 = .ok (.istore_n 3, 1) := by decide +kernel
theorem dX6_held_55 : decode cX6_held 55 = .ok (.iinc 4 1, 3) := by decide +kernel
theorem dX6_held_58 : decode cX6_held 58 = .ok (.goto (-53), 3) := by decide +kernel
theorem dX6_held_61 : decode cX6_held 61 = .ok (.iload_n 3, 1) := by decide +kernel
theorem dX6_held_62 : decode cX6_held 62 = .ok (.ireturn, 1) := by decide +kernel
theorem dX6_deadSet_0 : decode cX6_deadSet 0 = .ok (.iconst 0, 1) := by decide +kernel
theorem dX6_deadSet_1 : decode cX6_deadSet 1 = .ok (.istore_n 1, 1) := by decide +kernel
theorem dX6_deadSet_2 : decode cX6_deadSet 2 = .ok (.iconst 0, 1) := by decide +kernel
theorem dX6_deadSet_3 : decode cX6_deadSet 3 = .ok (.istore_n 2, 1) := by decide +kernel
theorem dX6_deadSet_4 : decode cX6_deadSet 4 = .ok (.iload_n 2, 1) := by decide +kernel
theorem dX6_deadSet_5 : decode cX6_deadSet 5 = .ok (.aload_n 0, 1) := by decide +kernel
theorem dX6_deadSet_6 : decode cX6_deadSet 6 = .ok (.getfield 83, 3) := by decide +kernel
theorem dX6_deadSet_9 : decode cX6_deadSet 9 = .ok (.if_icmp .ge 27, 3) := by decide +kernel
theorem dX6_deadSet_12 : decode cX6_deadSet 12 = .ok (.iload_n 1, 1) := by decide +kernel
theorem dX6_deadSet_13 : decode cX6_deadSet 13 = .ok (.aload_n 0, 1) := by decide +kernel
theorem dX6_deadSet_14 : decode cX6_deadSet 14 = .ok (.iload_n 2, 1) := by decide +kernel
theorem dX6_deadSet_15 : decode cX6_deadSet 15 = .ok (.invokevirtual 97, 3) := by decide +kernel
theorem dX6_deadSet_18 : decode cX6_deadSet 18 = .ok (.ifCond .eq 7, 3) := by decide +kernel
theorem dX6_deadSet_21 : decode cX6_deadSet 21 = .ok (.iconst 0, 1) := by decide +kernel
theorem dX6_deadSet_22 : decode cX6_deadSet 22 = .ok (.goto 6, 3) := by decide +kernel
theorem dX6_deadSet_25 : decode cX6_deadSet 25 = .ok (.iconst 1, 1) := by decide +kernel
theorem dX6_deadSet_26 : decode cX6_deadSet 26 = .ok (.iload_n 2, 1) := by decide +kernel
theorem dX6_deadSet_27 : decode cX6_deadSet 27 = .ok (.ishl, 1) := by decide +kernel
theorem dX6_deadSet_28 : decode cX6_deadSet 28 = .ok (.ior, 1) := by decide +kernel
theorem dX6_deadSet_29 : decode cX6_deadSet 29 = .ok (.istore_n 1, 1) := by decide +kernel
theorem dX6_deadSet_30 : decode cX6_deadSet 30 = .ok (.iinc 2 1, 3) := by decide +kernel
theorem dX6_deadSet_33 : decode cX6_deadSet 33 = .ok (.goto (-29), 3) := by decide +kernel
theorem dX6_deadSet_36 : decode cX6_deadSet 36 = .ok (.iload_n 1, 1) := by decide +kernel
theorem dX6_deadSet_37 : decode cX6_deadSet 37 = .ok (.ireturn, 1) := by decide +kernel
theorem dX6_fear_0 : decode cX6_fear 0 = .ok (.iload_n 1, 1) := by decide +kernel
theorem dX6_fear_1 : decode cX6_fear 1 = .ok (.invokestatic 119, 3) := by decide +kernel
theorem dX6_fear_4 : decode cX6_fear 4 = .ok (.ifCond .eq 10, 3) := by decide +kernel
theorem dX6_fear_7 : decode cX6_fear 7 = .ok (.iload_n 2, 1) := by decide +kernel
theorem dX6_fear_8 : decode cX6_fear 8 = .ok (.invokestatic 122, 3) := by decide +kernel
theorem dX6_fear_11 : decode cX6_fear 11 = .ok (.ifCond .ne 10, 3) := by decide +kernel
theorem dX6_fear_14 : decode cX6_fear 14 = .ok (.aload_n 0, 1) := by decide +kernel
theorem dX6_fear_15 : decode cX6_fear 15 = .ok (.ldc 78, 2) := by decide +kernel
theorem dX6_fear_17 : decode cX6_fear 17 = .ok (.invokevirtual 125, 3) := by decide +kernel
theorem dX6_fear_20 : decode cX6_fear 20 = .ok (.ireturn, 1) := by decide +kernel
theorem dX6_fear_21 : decode cX6_fear 21 = .ok (.aload_n 0, 1) := by decide +kernel
theorem dX6_fear_22 : decode cX6_fear 22 = .ok (.getfield 7, 3) := by decide +kernel
theorem dX6_fear_25 : decode cX6_fear 25 = .ok (.iload_n 1, 1) := by decide +kernel
theorem dX6_fear_26 : decode cX6_fear 26 = .ok (.iaload, 1) := by decide +kernel
theorem dX6_fear_27 : decode cX6_fear 27 = .ok (.istore_n 3, 1) := by decide +kernel
theorem dX6_fear_28 : decode cX6_fear 28 = .ok (.aload_n 0, 1) := by decide +kernel
theorem dX6_fear_29 : decode cX6_fear 29 = .ok (.getfield 7, 3) := by decide +kernel
theorem dX6_fear_32 : decode cX6_fear 32 = .ok (.iload_n 1, 1) := by decide +kernel
theorem dX6_fear_33 : decode cX6_fear 33 = .ok (.iload_n 2, 1) := by decide +kernel
theorem dX6_fear_34 : decode cX6_fear 34 = .ok (.iastore, 1) := by decide +kernel
theorem dX6_fear_35 : decode cX6_fear 35 = .ok (.iload_n 3, 1) := by decide +kernel
theorem dX6_fear_36 : decode cX6_fear 36 = .ok (.ireturn, 1) := by decide +kernel
theorem dX6_kingOf_0 : decode cX6_kingOf 0 = .ok (.iload_n 1, 1) := by decide +kernel
theorem dX6_kingOf_1 : decode cX6_kingOf 1 = .ok (.invokestatic 119, 3) := by decide +kernel
theorem dX6_kingOf_4 : decode cX6_kingOf 4 = .ok (.ifCond .eq 12, 3) := by decide +kernel
theorem dX6_kingOf_7 : decode cX6_kingOf 7 = .ok (.iload_n 2, 1) := by decide +kernel
theorem dX6_kingOf_8 : decode cX6_kingOf 8 = .ok (.iconst 0, 1) := by decide +kernel
theorem dX6_kingOf_9 : decode cX6_kingOf 9 = .ok (.iconst 3, 1) := by decide +kernel
theorem dX6_kingOf_10 : decode cX6_kingOf 10 = .ok (.invokestatic 79, 3) := by decide +kernel
theorem dX6_kingOf_13 : decode cX6_kingOf 13 = .ok (.ifCond .ne 10, 3) := by decide +kernel
theorem dX6_kingOf_16 : decode cX6_kingOf 16 = .ok (.aload_n 0, 1) := by decide +kernel
theorem dX6_kingOf_17 : decode cX6_kingOf 17 = .ok (.ldc 78, 2) := by decide +kernel
theorem dX6_kingOf_19 : decode cX6_kingOf 19 = .ok (.invokevirtual 125, 3) := by decide +kernel
theorem dX6_kingOf_22 : decode cX6_kingOf 22 = .ok (.ireturn, 1) := by decide +kernel
theorem dX6_kingOf_23 : decode cX6_kingOf 23 = .ok (.iconst 0, 1) := by decide +kernel
theorem dX6_kingOf_24 : decode cX6_kingOf 24 = .ok (.istore_n 3, 1) := by decide +kernel
theorem dX6_kingOf_25 : decode cX6_kingOf 25 = .ok (.iload_n 2, 1) := by decide +kernel
theorem dX6_kingOf_26 : decode cX6_kingOf 26 = .ok (.lookupswitch 84 #[(0, 26), (3, 33)], 26) := by decide +kernel
theorem dX6_kingOf_52 : decode cX6_kingOf 52 = .ok (.aload_n 0, 1) := by decide +kernel
theorem dX6_kingOf_53 : decode cX6_kingOf 53 = .ok (.getfield 7, 3) := by decide +kernel
theorem dX6_kingOf_56 : decode cX6_kingOf 56 = .ok (.iload_n 1, 1) := by decide +kernel
theorem dX6_kingOf_57 : decode cX6_kingOf 57 = .ok (.iaload, 1) := by decide +kernel
theorem dX6_kingOf_58 : decode cX6_kingOf 58 = .ok (.ireturn, 1) := by decide +kernel
theorem dX6_kingOf_59 : decode cX6_kingOf 59 = .ok (.iconst 0, 1) := by decide +kernel
theorem dX6_kingOf_60 : decode cX6_kingOf 60 = .ok (.istore 4, 2) := by decide +kernel
theorem dX6_kingOf_62 : decode cX6_kingOf 62 = .ok (.iload 4, 2) := by decide +kernel
theorem dX6_kingOf_64 : decode cX6_kingOf 64 = .ok (.aload_n 0, 1) := by decide +kernel
theorem dX6_kingOf_65 : decode cX6_kingOf 65 = .ok (.getfield 87, 3) := by decide +kernel
theorem dX6_kingOf_68 : decode cX6_kingOf 68 = .ok (.if_icmp .ge 40, 3) := by decide +kernel
theorem dX6_kingOf_71 : decode cX6_kingOf 71 = .ok (.iload_n 3, 1) := by decide +kernel
theorem dX6_kingOf_72 : decode cX6_kingOf 72 = .ok (.aload_n 0, 1) := by decide +kernel
theorem dX6_kingOf_73 : decode cX6_kingOf 73 = .ok (.getfield 22, 3) := by decide +kernel
theorem dX6_kingOf_76 : decode cX6_kingOf 76 = .ok (.iload 4, 2) := by decide +kernel
theorem dX6_kingOf_78 : decode cX6_kingOf 78 = .ok (.iaload, 1) := by decide +kernel
theorem dX6_kingOf_79 : decode cX6_kingOf 79 = .ok (.iload_n 1, 1) := by decide +kernel
theorem dX6_kingOf_80 : decode cX6_kingOf 80 = .ok (.if_icmp .ne 19, 3) := by decide +kernel
theorem dX6_kingOf_83 : decode cX6_kingOf 83 = .ok (.aload_n 0, 1) := by decide +kernel
theorem dX6_kingOf_84 : decode cX6_kingOf 84 = .ok (.iload 4, 2) := by decide +kernel
theorem dX6_kingOf_86 : decode cX6_kingOf 86 = .ok (.invokevirtual 113, 3) := by decide +kernel
theorem dX6_kingOf_89 : decode cX6_kingOf 89 = .ok (.ifCond .eq 10, 3) := by decide +kernel
theorem dX6_kingOf_92 : decode cX6_kingOf 92 = .ok (.iconst 1, 1) := by decide +kernel
theorem dX6_kingOf_93 : decode cX6_kingOf 93 = .ok (.iload 4, 2) := by decide +kernel
theorem dX6_kingOf_95 : decode cX6_kingOf 95 = .ok (.ishl, 1) := by decide +kernel
theorem dX6_kingOf_96 : decode cX6_kingOf 96 = .ok (.goto 4, 3) := by decide +kernel
theorem dX6_kingOf_99 : decode cX6_kingOf 99 = .ok (.iconst 0, 1) := by decide +kernel
theorem dX6_kingOf_100 : decode cX6_kingOf 100 = .ok (.ior, 1) := by decide +kernel
theorem dX6_kingOf_101 : decode cX6_kingOf 101 = .ok (.istore_n 3, 1) := by decide +kernel
theorem dX6_kingOf_102 : decode cX6_kingOf 102 = .ok (.iinc 4 1, 3) := by decide +kernel
theorem dX6_kingOf_105 : decode cX6_kingOf 105 = .ok (.goto (-43), 3) := by decide +kernel
theorem dX6_kingOf_108 : decode cX6_kingOf 108 = .ok (.iload_n 3, 1) := by decide +kernel
theorem dX6_kingOf_109 : decode cX6_kingOf 109 = .ok (.ireturn, 1) := by decide +kernel
theorem dX6_kingOf_110 : decode cX6_kingOf 110 = .ok (.iconst 0, 1) := by decide +kernel
theorem dX6_kingOf_111 : decode cX6_kingOf 111 = .ok (.istore 4, 2) := by decide +kernel
theorem dX6_kingOf_113 : decode cX6_kingOf 113 = .ok (.iload 4, 2) := by decide +kernel
theorem dX6_kingOf_115 : decode cX6_kingOf 115 = .ok (.aload_n 0, 1) := by decide +kernel
theorem dX6_kingOf_116 : decode cX6_kingOf 116 = .ok (.getfield 83, 3) := by decide +kernel
theorem dX6_kingOf_119 : decode cX6_kingOf 119 = .ok (.if_icmp .ge 84, 3) := by decide +kernel
theorem dX6_kingOf_122 : decode cX6_kingOf 122 = .ok (.iload_n 2, 1) := by decide +kernel
theorem dX6_kingOf_123 : decode cX6_kingOf 123 = .ok (.iconst 1, 1) := by decide +kernel
theorem dX6_kingOf_124 : decode cX6_kingOf 124 = .ok (.if_icmp .ne 22, 3) := by decide +kernel
theorem dX6_kingOf_127 : decode cX6_kingOf 127 = .ok (.aload_n 0, 1) := by decide +kernel
theorem dX6_kingOf_128 : decode cX6_kingOf 128 = .ok (.getfield 16, 3) := by decide +kernel
theorem dX6_kingOf_131 : decode cX6_kingOf 131 = .ok (.iload 4, 2) := by decide +kernel
theorem dX6_kingOf_133 : decode cX6_kingOf 133 = .ok (.iaload, 1) := by decide +kernel
theorem dX6_kingOf_134 : decode cX6_kingOf 134 = .ok (.iload_n 1, 1) := by decide +kernel
theorem dX6_kingOf_135 : decode cX6_kingOf 135 = .ok (.if_icmp .ne 7, 3) := by decide +kernel
theorem dX6_kingOf_138 : decode cX6_kingOf 138 = .ok (.iconst 1, 1) := by decide +kernel
theorem dX6_kingOf_139 : decode cX6_kingOf 139 = .ok (.goto 31, 3) := by decide +kernel
theorem dX6_kingOf_142 : decode cX6_kingOf 142 = .ok (.iconst 0, 1) := by decide +kernel
theorem dX6_kingOf_143 : decode cX6_kingOf 143 = .ok (.goto 27, 3) := by decide +kernel
theorem dX6_kingOf_146 : decode cX6_kingOf 146 = .ok (.aload_n 0, 1) := by decide +kernel
theorem dX6_kingOf_147 : decode cX6_kingOf 147 = .ok (.iload 4, 2) := by decide +kernel
theorem dX6_kingOf_149 : decode cX6_kingOf 149 = .ok (.invokevirtual 93, 3) := by decide +kernel
theorem dX6_kingOf_152 : decode cX6_kingOf 152 = .ok (.iload_n 1, 1) := by decide +kernel
theorem dX6_kingOf_153 : decode cX6_kingOf 153 = .ok (.if_icmp .ne 16, 3) := by decide +kernel
theorem dX6_kingOf_156 : decode cX6_kingOf 156 = .ok (.aload_n 0, 1) := by decide +kernel
theorem dX6_kingOf_157 : decode cX6_kingOf 157 = .ok (.iload 4, 2) := by decide +kernel
theorem dX6_kingOf_159 : decode cX6_kingOf 159 = .ok (.invokevirtual 101, 3) := by decide +kernel
theorem dX6_kingOf_162 : decode cX6_kingOf 162 = .ok (.ifCond .ne 7, 3) := by decide +kernel
theorem dX6_kingOf_165 : decode cX6_kingOf 165 = .ok (.iconst 1, 1) := by decide +kernel
theorem dX6_kingOf_166 : decode cX6_kingOf 166 = .ok (.goto 4, 3) := by decide +kernel
theorem dX6_kingOf_169 : decode cX6_kingOf 169 = .ok (.iconst 0, 1) := by decide +kernel
theorem dX6_kingOf_170 : decode cX6_kingOf 170 = .ok (.istore 5, 2) := by decide +kernel
theorem dX6_kingOf_172 : decode cX6_kingOf 172 = .ok (.iload_n 3, 1) := by decide +kernel
theorem dX6_kingOf_173 : decode cX6_kingOf 173 = .ok (.iload 5, 2) := by decide +kernel
theorem dX6_kingOf_175 : decode cX6_kingOf 175 = .ok (.ifCond .eq 19, 3) := by decide +kernel
theorem dX6_kingOf_178 : decode cX6_kingOf 178 = .ok (.aload_n 0, 1) := by decide +kernel
theorem dX6_kingOf_179 : decode cX6_kingOf 179 = .ok (.iload 4, 2) := by decide +kernel
theorem dX6_kingOf_181 : decode cX6_kingOf 181 = .ok (.invokevirtual 97, 3) := by decide +kernel
theorem dX6_kingOf_184 : decode cX6_kingOf 184 = .ok (.ifCond .eq 10, 3) := by decide +kernel
theorem dX6_kingOf_187 : decode cX6_kingOf 187 = .ok (.iconst 1, 1) := by decide +kernel
theorem dX6_kingOf_188 : decode cX6_kingOf 188 = .ok (.iload 4, 2) := by decide +kernel
theorem dX6_kingOf_190 : decode cX6_kingOf 190 = .ok (.ishl, 1) := by decide +kernel
theorem dX6_kingOf_191 : decode cX6_kingOf 191 = .ok (.goto 4, 3) := by decide +kernel
theorem dX6_kingOf_194 : decode cX6_kingOf 194 = .ok (.iconst 0, 1) := by decide +kernel
theorem dX6_kingOf_195 : decode cX6_kingOf 195 = .ok (.ior, 1) := by decide +kernel
theorem dX6_kingOf_196 : decode cX6_kingOf 196 = .ok (.istore_n 3, 1) := by decide +kernel
theorem dX6_kingOf_197 : decode cX6_kingOf 197 = .ok (.iinc 4 1, 3) := by decide +kernel
theorem dX6_kingOf_200 : decode cX6_kingOf 200 = .ok (.goto (-87), 3) := by decide +kernel
theorem dX6_kingOf_203 : decode cX6_kingOf 203 = .ok (.iload_n 3, 1) := by decide +kernel
theorem dX6_kingOf_204 : decode cX6_kingOf 204 = .ok (.ireturn, 1) := by decide +kernel
theorem dX6_addChild_0 : decode cX6_addChild 0 = .ok (.aload_n 0, 1) := by decide +kernel
theorem dX6_addChild_1 : decode cX6_addChild 1 = .ok (.getfield 13, 3) := by decide +kernel
theorem dX6_addChild_4 : decode cX6_addChild 4 = .ok (.aload_n 0, 1) := by decide +kernel
theorem dX6_addChild_5 : decode cX6_addChild 5 = .ok (.getfield 83, 3) := by decide +kernel
theorem dX6_addChild_8 : decode cX6_addChild 8 = .ok (.iload_n 1, 1) := by decide +kernel
theorem dX6_addChild_9 : decode cX6_addChild 9 = .ok (.iastore, 1) := by decide +kernel
theorem dX6_addChild_10 : decode cX6_addChild 10 = .ok (.aload_n 0, 1) := by decide +kernel
theorem dX6_addChild_11 : decode cX6_addChild 11 = .ok (.getfield 16, 3) := by decide +kernel
theorem dX6_addChild_14 : decode cX6_addChild 14 = .ok (.aload_n 0, 1) := by decide +kernel
theorem dX6_addChild_15 : decode cX6_addChild 15 = .ok (.getfield 83, 3) := by decide +kernel
theorem dX6_addChild_18 : decode cX6_addChild 18 = .ok (.iload_n 2, 1) := by decide +kernel
theorem dX6_addChild_19 : decode cX6_addChild 19 = .ok (.iastore, 1) := by decide +kernel
theorem dX6_addChild_20 : decode cX6_addChild 20 = .ok (.aload_n 0, 1) := by decide +kernel
theorem dX6_addChild_21 : decode cX6_addChild 21 = .ok (.getfield 19, 3) := by decide +kernel
theorem dX6_addChild_24 : decode cX6_addChild 24 = .ok (.aload_n 0, 1) := by decide +kernel
theorem dX6_addChild_25 : decode cX6_addChild 25 = .ok (.getfield 83, 3) := by decide +kernel
theorem dX6_addChild_28 : decode cX6_addChild 28 = .ok (.iload 4, 2) := by decide +kernel
theorem dX6_addChild_30 : decode cX6_addChild 30 = .ok (.iastore, 1) := by decide +kernel
theorem dX6_addChild_31 : decode cX6_addChild 31 = .ok (.aload_n 0, 1) := by decide +kernel
theorem dX6_addChild_32 : decode cX6_addChild 32 = .ok (.getfield 34, 3) := by decide +kernel
theorem dX6_addChild_35 : decode cX6_addChild 35 = .ok (.iconst 1, 1) := by decide +kernel
theorem dX6_addChild_36 : decode cX6_addChild 36 = .ok (.aload_n 0, 1) := by decide +kernel
theorem dX6_addChild_37 : decode cX6_addChild 37 = .ok (.getfield 83, 3) := by decide +kernel
theorem dX6_addChild_40 : decode cX6_addChild 40 = .ok (.iadd, 1) := by decide +kernel
theorem dX6_addChild_41 : decode cX6_addChild 41 = .ok (.iload_n 3, 1) := by decide +kernel
theorem dX6_addChild_42 : decode cX6_addChild 42 = .ok (.iastore, 1) := by decide +kernel
theorem dX6_addChild_43 : decode cX6_addChild 43 = .ok (.aload_n 0, 1) := by decide +kernel
theorem dX6_addChild_44 : decode cX6_addChild 44 = .ok (.getfield 34, 3) := by decide +kernel
theorem dX6_addChild_47 : decode cX6_addChild 47 = .ok (.bipush 15, 2) := by decide +kernel
theorem dX6_addChild_49 : decode cX6_addChild 49 = .ok (.aload_n 0, 1) := by decide +kernel
theorem dX6_addChild_50 : decode cX6_addChild 50 = .ok (.getfield 83, 3) := by decide +kernel
theorem dX6_addChild_53 : decode cX6_addChild 53 = .ok (.iadd, 1) := by decide +kernel
theorem dX6_addChild_54 : decode cX6_addChild 54 = .ok (.iconst 0, 1) := by decide +kernel
theorem dX6_addChild_55 : decode cX6_addChild 55 = .ok (.iastore, 1) := by decide +kernel
theorem dX6_addChild_56 : decode cX6_addChild 56 = .ok (.aload_n 0, 1) := by decide +kernel
theorem dX6_addChild_57 : decode cX6_addChild 57 = .ok (.dup, 1) := by decide +kernel
theorem dX6_addChild_58 : decode cX6_addChild 58 = .ok (.getfield 83, 3) := by decide +kernel
theorem dX6_addChild_61 : decode cX6_addChild 61 = .ok (.iconst 1, 1) := by decide +kernel
theorem dX6_addChild_62 : decode cX6_addChild 62 = .ok (.iadd, 1) := by decide +kernel
theorem dX6_addChild_63 : decode cX6_addChild 63 = .ok (.putfield 83, 3) := by decide +kernel
theorem dX6_addChild_66 : decode cX6_addChild 66 = .ok (.return_, 1) := by decide +kernel
theorem dX6_child_0 : decode cX6_child 0 = .ok (.iload_n 1, 1) := by decide +kernel
theorem dX6_child_1 : decode cX6_child 1 = .ok (.invokestatic 128, 3) := by decide +kernel
theorem dX6_child_4 : decode cX6_child 4 = .ok (.ifCond .eq 17, 3) := by decide +kernel
theorem dX6_child_7 : decode cX6_child 7 = .ok (.iload_n 2, 1) := by decide +kernel
theorem dX6_child_8 : decode cX6_child 8 = .ok (.invokestatic 119, 3) := by decide +kernel
theorem dX6_child_11 : decode cX6_child 11 = .ok (.ifCond .eq 10, 3) := by decide +kernel
theorem dX6_child_14 : decode cX6_child 14 = .ok (.iload_n 3, 1) := by decide +kernel
theorem dX6_child_15 : decode cX6_child 15 = .ok (.invokestatic 122, 3) := by decide +kernel
theorem dX6_child_18 : decode cX6_child 18 = .ok (.ifCond .ne 10, 3) := by decide +kernel
theorem dX6_child_21 : decode cX6_child 21 = .ok (.aload_n 0, 1) := by decide +kernel
theorem dX6_child_22 : decode cX6_child 22 = .ok (.ldc 78, 2) := by decide +kernel
theorem dX6_child_24 : decode cX6_child 24 = .ok (.invokevirtual 125, 3) := by decide +kernel
theorem dX6_child_27 : decode cX6_child 27 = .ok (.ireturn, 1) := by decide +kernel
theorem dX6_child_28 : decode cX6_child 28 = .ok (.aload_n 0, 1) := by decide +kernel
theorem dX6_child_29 : decode cX6_child 29 = .ok (.getfield 83, 3) := by decide +kernel
theorem dX6_child_32 : decode cX6_child 32 = .ok (.bipush 14, 2) := by decide +kernel
theorem dX6_child_34 : decode cX6_child 34 = .ok (.if_icmp .ne 10, 3) := by decide +kernel
theorem dX6_child_37 : decode cX6_child 37 = .ok (.aload_n 0, 1) := by decide +kernel
theorem dX6_child_38 : decode cX6_child 38 = .ok (.ldc 131, 2) := by decide +kernel
theorem dX6_child_40 : decode cX6_child 40 = .ok (.invokevirtual 125, 3) := by decide +kernel
theorem dX6_child_43 : decode cX6_child 43 = .ok (.ireturn, 1) := by decide +kernel
theorem dX6_child_44 : decode cX6_child 44 = .ok (.aload_n 0, 1) := by decide +kernel
theorem dX6_child_45 : decode cX6_child 45 = .ok (.iload_n 1, 1) := by decide +kernel
theorem dX6_child_46 : decode cX6_child 46 = .ok (.iload_n 2, 1) := by decide +kernel
theorem dX6_child_47 : decode cX6_child 47 = .ok (.iload_n 2, 1) := by decide +kernel
theorem dX6_child_48 : decode cX6_child 48 = .ok (.iload_n 3, 1) := by decide +kernel
theorem dX6_child_49 : decode cX6_child 49 = .ok (.invokevirtual 132, 3) := by decide +kernel
theorem dX6_child_52 : decode cX6_child 52 = .ok (.aload_n 0, 1) := by decide +kernel
theorem dX6_child_53 : decode cX6_child 53 = .ok (.getfield 83, 3) := by decide +kernel
theorem dX6_child_56 : decode cX6_child 56 = .ok (.iconst 1, 1) := by decide +kernel
theorem dX6_child_57 : decode cX6_child 57 = .ok (.isub, 1) := by decide +kernel
theorem dX6_child_58 : decode cX6_child 58 = .ok (.ireturn, 1) := by decide +kernel
theorem dX6_of_0 : decode cX6_of 0 = .ok (.aload_n 0, 1) := by decide +kernel
theorem dX6_of_1 : decode cX6_of 1 = .ok (.iload_n 1, 1) := by decide +kernel
theorem dX6_of_2 : decode cX6_of 2 = .ok (.invokevirtual 136, 3) := by decide +kernel
theorem dX6_of_5 : decode cX6_of 5 = .ok (.ifCond .eq 12, 3) := by decide +kernel
theorem dX6_of_8 : decode cX6_of 8 = .ok (.iload_n 2, 1) := by decide +kernel
theorem dX6_of_9 : decode cX6_of 9 = .ok (.iconst 0, 1) := by decide +kernel
theorem dX6_of_10 : decode cX6_of 10 = .ok (.iconst 5, 1) := by decide +kernel
theorem dX6_of_11 : decode cX6_of 11 = .ok (.invokestatic 79, 3) := by decide +kernel
theorem dX6_of_14 : decode cX6_of 14 = .ok (.ifCond .ne 10, 3) := by decide +kernel
theorem dX6_of_17 : decode cX6_of 17 = .ok (.aload_n 0, 1) := by decide +kernel
theorem dX6_of_18 : decode cX6_of 18 = .ok (.ldc 78, 2) := by decide +kernel
theorem dX6_of_20 : decode cX6_of 20 = .ok (.invokevirtual 125, 3) := by decide +kernel
theorem dX6_of_23 : decode cX6_of 23 = .ok (.ireturn, 1) := by decide +kernel
theorem dX6_of_24 : decode cX6_of 24 = .ok (.iload_n 2, 1) := by decide +kernel
theorem dX6_of_25 : decode cX6_of 25 = .ok (.tableswitch 76 0 4 #[35, 42, 49, 55, 62], 35) := by decide +kernel
theorem dX6_of_60 : decode cX6_of 60 = .ok (.aload_n 0, 1) := by decide +kernel
theorem dX6_of_61 : decode cX6_of 61 = .ok (.getfield 13, 3) := by decide +kernel
theorem dX6_of_64 : decode cX6_of 64 = .ok (.iload_n 1, 1) := by decide +kernel
theorem dX6_of_65 : decode cX6_of 65 = .ok (.iaload, 1) := by decide +kernel
theorem dX6_of_66 : decode cX6_of 66 = .ok (.ireturn, 1) := by decide +kernel
theorem dX6_of_67 : decode cX6_of 67 = .ok (.aload_n 0, 1) := by decide +kernel
theorem dX6_of_68 : decode cX6_of 68 = .ok (.getfield 16, 3) := by decide +kernel
theorem dX6_of_71 : decode cX6_of 71 = .ok (.iload_n 1, 1) := by decide +kernel
theorem dX6_of_72 : decode cX6_of 72 = .ok (.iaload, 1) := by decide +kernel
theorem dX6_of_73 : decode cX6_of 73 = .ok (.ireturn, 1) := by decide +kernel
theorem dX6_of_74 : decode cX6_of 74 = .ok (.aload_n 0, 1) := by decide +kernel
theorem dX6_of_75 : decode cX6_of 75 = .ok (.iload_n 1, 1) := by decide +kernel
theorem dX6_of_76 : decode cX6_of 76 = .ok (.invokevirtual 93, 3) := by decide +kernel
theorem dX6_of_79 : decode cX6_of 79 = .ok (.ireturn, 1) := by decide +kernel
theorem dX6_of_80 : decode cX6_of 80 = .ok (.aload_n 0, 1) := by decide +kernel
theorem dX6_of_81 : decode cX6_of 81 = .ok (.getfield 19, 3) := by decide +kernel
theorem dX6_of_84 : decode cX6_of 84 = .ok (.iload_n 1, 1) := by decide +kernel
theorem dX6_of_85 : decode cX6_of 85 = .ok (.iaload, 1) := by decide +kernel
theorem dX6_of_86 : decode cX6_of 86 = .ok (.ireturn, 1) := by decide +kernel
theorem dX6_of_87 : decode cX6_of 87 = .ok (.aload_n 0, 1) := by decide +kernel
theorem dX6_of_88 : decode cX6_of 88 = .ok (.iload_n 1, 1) := by decide +kernel
theorem dX6_of_89 : decode cX6_of 89 = .ok (.invokevirtual 97, 3) := by decide +kernel
theorem dX6_of_92 : decode cX6_of 92 = .ok (.ifCond .eq 7, 3) := by decide +kernel
theorem dX6_of_95 : decode cX6_of 95 = .ok (.iconst 0, 1) := by decide +kernel
theorem dX6_of_96 : decode cX6_of 96 = .ok (.goto 4, 3) := by decide +kernel
theorem dX6_of_99 : decode cX6_of 99 = .ok (.iconst 1, 1) := by decide +kernel
theorem dX6_of_100 : decode cX6_of 100 = .ok (.ireturn, 1) := by decide +kernel
theorem dX6_of_101 : decode cX6_of 101 = .ok (.aload_n 0, 1) := by decide +kernel
theorem dX6_of_102 : decode cX6_of 102 = .ok (.iload_n 1, 1) := by decide +kernel
theorem dX6_of_103 : decode cX6_of 103 = .ok (.invokevirtual 97, 3) := by decide +kernel
theorem dX6_of_106 : decode cX6_of 106 = .ok (.ifCond .eq 11, 3) := by decide +kernel
theorem dX6_of_109 : decode cX6_of 109 = .ok (.aload_n 0, 1) := by decide +kernel
theorem dX6_of_110 : decode cX6_of 110 = .ok (.iload_n 1, 1) := by decide +kernel
theorem dX6_of_111 : decode cX6_of 111 = .ok (.invokevirtual 107, 3) := by decide +kernel
theorem dX6_of_114 : decode cX6_of 114 = .ok (.goto 4, 3) := by decide +kernel
theorem dX6_of_117 : decode cX6_of 117 = .ok (.iconst 0, 1) := by decide +kernel
theorem dX6_of_118 : decode cX6_of 118 = .ok (.ireturn, 1) := by decide +kernel
theorem dX6_move_0 : decode cX6_move 0 = .ok (.aload_n 0, 1) := by decide +kernel
theorem dX6_move_1 : decode cX6_move 1 = .ok (.iload_n 1, 1) := by decide +kernel
theorem dX6_move_2 : decode cX6_move 2 = .ok (.invokevirtual 136, 3) := by decide +kernel
theorem dX6_move_5 : decode cX6_move 5 = .ok (.ifCond .eq 10, 3) := by decide +kernel
theorem dX6_move_8 : decode cX6_move 8 = .ok (.iload_n 2, 1) := by decide +kernel
theorem dX6_move_9 : decode cX6_move 9 = .ok (.invokestatic 119, 3) := by decide +kernel
theorem dX6_move_12 : decode cX6_move 12 = .ok (.ifCond .ne 10, 3) := by decide +kernel
theorem dX6_move_15 : decode cX6_move 15 = .ok (.aload_n 0, 1) := by decide +kernel
theorem dX6_move_16 : decode cX6_move 16 = .ok (.ldc 78, 2) := by decide +kernel
theorem dX6_move_18 : decode cX6_move 18 = .ok (.invokevirtual 125, 3) := by decide +kernel
theorem dX6_move_21 : decode cX6_move 21 = .ok (.ireturn, 1) := by decide +kernel
theorem dX6_move_22 : decode cX6_move 22 = .ok (.aload_n 0, 1) := by decide +kernel
theorem dX6_move_23 : decode cX6_move 23 = .ok (.iload_n 1, 1) := by decide +kernel
theorem dX6_move_24 : decode cX6_move 24 = .ok (.invokevirtual 97, 3) := by decide +kernel
theorem dX6_move_27 : decode cX6_move 27 = .ok (.ifCond .ne 10, 3) := by decide +kernel
theorem dX6_move_30 : decode cX6_move 30 = .ok (.aload_n 0, 1) := by decide +kernel
theorem dX6_move_31 : decode cX6_move 31 = .ok (.ldc 139, 2) := by decide +kernel
theorem dX6_move_33 : decode cX6_move 33 = .ok (.invokevirtual 125, 3) := by decide +kernel
theorem dX6_move_36 : decode cX6_move 36 = .ok (.ireturn, 1) := by decide +kernel
theorem dX6_move_37 : decode cX6_move 37 = .ok (.aload_n 0, 1) := by decide +kernel
theorem dX6_move_38 : decode cX6_move 38 = .ok (.getfield 34, 3) := by decide +kernel
theorem dX6_move_41 : decode cX6_move 41 = .ok (.iconst 1, 1) := by decide +kernel
theorem dX6_move_42 : decode cX6_move 42 = .ok (.iload_n 1, 1) := by decide +kernel
theorem dX6_move_43 : decode cX6_move 43 = .ok (.iadd, 1) := by decide +kernel
theorem dX6_move_44 : decode cX6_move 44 = .ok (.iaload, 1) := by decide +kernel
theorem dX6_move_45 : decode cX6_move 45 = .ok (.istore_n 3, 1) := by decide +kernel
theorem dX6_move_46 : decode cX6_move 46 = .ok (.aload_n 0, 1) := by decide +kernel
theorem dX6_move_47 : decode cX6_move 47 = .ok (.getfield 34, 3) := by decide +kernel
theorem dX6_move_50 : decode cX6_move 50 = .ok (.iconst 1, 1) := by decide +kernel
theorem dX6_move_51 : decode cX6_move 51 = .ok (.iload_n 1, 1) := by decide +kernel
theorem dX6_move_52 : decode cX6_move 52 = .ok (.iadd, 1) := by decide +kernel
theorem dX6_move_53 : decode cX6_move 53 = .ok (.iload_n 2, 1) := by decide +kernel
theorem dX6_move_54 : decode cX6_move 54 = .ok (.iastore, 1) := by decide +kernel
theorem dX6_move_55 : decode cX6_move 55 = .ok (.iload_n 3, 1) := by decide +kernel
theorem dX6_move_56 : decode cX6_move 56 = .ok (.ireturn, 1) := by decide +kernel
theorem dX6_worth_0 : decode cX6_worth 0 = .ok (.aload_n 0, 1) := by decide +kernel
theorem dX6_worth_1 : decode cX6_worth 1 = .ok (.iload_n 1, 1) := by decide +kernel
theorem dX6_worth_2 : decode cX6_worth 2 = .ok (.invokevirtual 136, 3) := by decide +kernel
theorem dX6_worth_5 : decode cX6_worth 5 = .ok (.ifCond .eq 10, 3) := by decide +kernel
theorem dX6_worth_8 : decode cX6_worth 8 = .ok (.iload_n 2, 1) := by decide +kernel
theorem dX6_worth_9 : decode cX6_worth 9 = .ok (.invokestatic 122, 3) := by decide +kernel
theorem dX6_worth_12 : decode cX6_worth 12 = .ok (.ifCond .ne 10, 3) := by decide +kernel
theorem dX6_worth_15 : decode cX6_worth 15 = .ok (.aload_n 0, 1) := by decide +kernel
theorem dX6_worth_16 : decode cX6_worth 16 = .ok (.ldc 78, 2) := by decide +kernel
theorem dX6_worth_18 : decode cX6_worth 18 = .ok (.invokevirtual 125, 3) := by decide +kernel
theorem dX6_worth_21 : decode cX6_worth 21 = .ok (.ireturn, 1) := by decide +kernel
theorem dX6_worth_22 : decode cX6_worth 22 = .ok (.aload_n 0, 1) := by decide +kernel
theorem dX6_worth_23 : decode cX6_worth 23 = .ok (.getfield 19, 3) := by decide +kernel
theorem dX6_worth_26 : decode cX6_worth 26 = .ok (.iload_n 1, 1) := by decide +kernel
theorem dX6_worth_27 : decode cX6_worth 27 = .ok (.iaload, 1) := by decide +kernel
theorem dX6_worth_28 : decode cX6_worth 28 = .ok (.istore_n 3, 1) := by decide +kernel
theorem dX6_worth_29 : decode cX6_worth 29 = .ok (.aload_n 0, 1) := by decide +kernel
theorem dX6_worth_30 : decode cX6_worth 30 = .ok (.getfield 19, 3) := by decide +kernel
theorem dX6_worth_33 : decode cX6_worth 33 = .ok (.iload_n 1, 1) := by decide +kernel
theorem dX6_worth_34 : decode cX6_worth 34 = .ok (.iload_n 2, 1) := by decide +kernel
theorem dX6_worth_35 : decode cX6_worth 35 = .ok (.iastore, 1) := by decide +kernel
theorem dX6_worth_36 : decode cX6_worth 36 = .ok (.iload_n 3, 1) := by decide +kernel
theorem dX6_worth_37 : decode cX6_worth 37 = .ok (.ireturn, 1) := by decide +kernel
theorem dX6_turn_0 : decode cX6_turn 0 = .ok (.aload_n 0, 1) := by decide +kernel
theorem dX6_turn_1 : decode cX6_turn 1 = .ok (.iload_n 1, 1) := by decide +kernel
theorem dX6_turn_2 : decode cX6_turn 2 = .ok (.invokevirtual 136, 3) := by decide +kernel
theorem dX6_turn_5 : decode cX6_turn 5 = .ok (.ifCond .eq 10, 3) := by decide +kernel
theorem dX6_turn_8 : decode cX6_turn 8 = .ok (.iload_n 2, 1) := by decide +kernel
theorem dX6_turn_9 : decode cX6_turn 9 = .ok (.invokestatic 128, 3) := by decide +kernel
theorem dX6_turn_12 : decode cX6_turn 12 = .ok (.ifCond .ne 10, 3) := by decide +kernel
theorem dX6_turn_15 : decode cX6_turn 15 = .ok (.aload_n 0, 1) := by decide +kernel
theorem dX6_turn_16 : decode cX6_turn 16 = .ok (.ldc 78, 2) := by decide +kernel
theorem dX6_turn_18 : decode cX6_turn 18 = .ok (.invokevirtual 125, 3) := by decide +kernel
theorem dX6_turn_21 : decode cX6_turn 21 = .ok (.ireturn, 1) := by decide +kernel
theorem dX6_turn_22 : decode cX6_turn 22 = .ok (.aload_n 0, 1) := by decide +kernel
theorem dX6_turn_23 : decode cX6_turn 23 = .ok (.getfield 13, 3) := by decide +kernel
theorem dX6_turn_26 : decode cX6_turn 26 = .ok (.iload_n 1, 1) := by decide +kernel
theorem dX6_turn_27 : decode cX6_turn 27 = .ok (.iaload, 1) := by decide +kernel
theorem dX6_turn_28 : decode cX6_turn 28 = .ok (.istore_n 3, 1) := by decide +kernel
theorem dX6_turn_29 : decode cX6_turn 29 = .ok (.aload_n 0, 1) := by decide +kernel
theorem dX6_turn_30 : decode cX6_turn 30 = .ok (.getfield 13, 3) := by decide +kernel
theorem dX6_turn_33 : decode cX6_turn 33 = .ok (.iload_n 1, 1) := by decide +kernel
theorem dX6_turn_34 : decode cX6_turn 34 = .ok (.iload_n 2, 1) := by decide +kernel
theorem dX6_turn_35 : decode cX6_turn 35 = .ok (.iastore, 1) := by decide +kernel
theorem dX6_turn_36 : decode cX6_turn 36 = .ok (.iload_n 3, 1) := by decide +kernel
theorem dX6_turn_37 : decode cX6_turn 37 = .ok (.ireturn, 1) := by decide +kernel
theorem dX6_isUnder_0 : decode cX6_isUnder 0 = .ok (.iload_n 1, 1) := by decide +kernel
theorem dX6_isUnder_1 : decode cX6_isUnder 1 = .ok (.ifCond .eq 33, 3) := by decide +kernel
theorem dX6_isUnder_4 : decode cX6_isUnder 4 = .ok (.iload_n 1, 1) := by decide +kernel
theorem dX6_isUnder_5 : decode cX6_isUnder 5 = .ok (.iload_n 0, 1) := by decide +kernel
theorem dX6_isUnder_6 : decode cX6_isUnder 6 = .ok (.if_icmp .eq 28, 3) := by decide +kernel
theorem dX6_isUnder_9 : decode cX6_isUnder 9 = .ok (.iload_n 1, 1) := by decide +kernel
theorem dX6_isUnder_10 : decode cX6_isUnder 10 = .ok (.iconst 1, 1) := by decide +kernel
theorem dX6_isUnder_11 : decode cX6_isUnder 11 = .ok (.if_icmp .ne 13, 3) := by decide +kernel
theorem dX6_isUnder_14 : decode cX6_isUnder 14 = .ok (.iload_n 0, 1) := by decide +kernel
theorem dX6_isUnder_15 : decode cX6_isUnder 15 = .ok (.iconst 3, 1) := by decide +kernel
theorem dX6_isUnder_16 : decode cX6_isUnder 16 = .ok (.if_icmp .eq 18, 3) := by decide +kernel
theorem dX6_isUnder_19 : decode cX6_isUnder 19 = .ok (.iload_n 0, 1) := by decide +kernel
theorem dX6_isUnder_20 : decode cX6_isUnder 20 = .ok (.iconst 5, 1) := by decide +kernel
theorem dX6_isUnder_21 : decode cX6_isUnder 21 = .ok (.if_icmp .eq 13, 3) := by decide +kernel
theorem dX6_isUnder_24 : decode cX6_isUnder 24 = .ok (.iload_n 1, 1) := by decide +kernel
theorem dX6_isUnder_25 : decode cX6_isUnder 25 = .ok (.iconst 2, 1) := by decide +kernel
theorem dX6_isUnder_26 : decode cX6_isUnder 26 = .ok (.if_icmp .ne 12, 3) := by decide +kernel
theorem dX6_isUnder_29 : decode cX6_isUnder 29 = .ok (.iload_n 0, 1) := by decide +kernel
theorem dX6_isUnder_30 : decode cX6_isUnder 30 = .ok (.iconst 4, 1) := by decide +kernel
theorem dX6_isUnder_31 : decode cX6_isUnder 31 = .ok (.if_icmp .ne 7, 3) := by decide +kernel
theorem dX6_isUnder_34 : decode cX6_isUnder 34 = .ok (.iconst 1, 1) := by decide +kernel
theorem dX6_isUnder_35 : decode cX6_isUnder 35 = .ok (.goto 4, 3) := by decide +kernel
theorem dX6_isUnder_38 : decode cX6_isUnder 38 = .ok (.iconst 0, 1) := by decide +kernel
theorem dX6_isUnder_39 : decode cX6_isUnder 39 = .ok (.ireturn, 1) := by decide +kernel
theorem dX6_as_0 : decode cX6_as 0 = .ok (.aload_n 0, 1) := by decide +kernel
theorem dX6_as_1 : decode cX6_as 1 = .ok (.iload_n 1, 1) := by decide +kernel
theorem dX6_as_2 : decode cX6_as 2 = .ok (.invokevirtual 136, 3) := by decide +kernel
theorem dX6_as_5 : decode cX6_as 5 = .ok (.ifCond .eq 10, 3) := by decide +kernel
theorem dX6_as_8 : decode cX6_as 8 = .ok (.iload_n 2, 1) := by decide +kernel
theorem dX6_as_9 : decode cX6_as 9 = .ok (.invokestatic 128, 3) := by decide +kernel
theorem dX6_as_12 : decode cX6_as 12 = .ok (.ifCond .ne 10, 3) := by decide +kernel
theorem dX6_as_15 : decode cX6_as 15 = .ok (.aload_n 0, 1) := by decide +kernel
theorem dX6_as_16 : decode cX6_as 16 = .ok (.ldc 78, 2) := by decide +kernel
theorem dX6_as_18 : decode cX6_as 18 = .ok (.invokevirtual 125, 3) := by decide +kernel
theorem dX6_as_21 : decode cX6_as 21 = .ok (.ireturn, 1) := by decide +kernel
theorem dX6_as_22 : decode cX6_as 22 = .ok (.aload_n 0, 1) := by decide +kernel
theorem dX6_as_23 : decode cX6_as 23 = .ok (.getfield 13, 3) := by decide +kernel
theorem dX6_as_26 : decode cX6_as 26 = .ok (.iload_n 1, 1) := by decide +kernel
theorem dX6_as_27 : decode cX6_as 27 = .ok (.iaload, 1) := by decide +kernel
theorem dX6_as_28 : decode cX6_as 28 = .ok (.iload_n 2, 1) := by decide +kernel
theorem dX6_as_29 : decode cX6_as 29 = .ok (.invokestatic 140, 3) := by decide +kernel
theorem dX6_as_32 : decode cX6_as 32 = .ok (.ifCond .eq 11, 3) := by decide +kernel
theorem dX6_as_35 : decode cX6_as 35 = .ok (.aload_n 0, 1) := by decide +kernel
theorem dX6_as_36 : decode cX6_as 36 = .ok (.iload_n 1, 1) := by decide +kernel
theorem dX6_as_37 : decode cX6_as 37 = .ok (.invokevirtual 93, 3) := by decide +kernel
theorem dX6_as_40 : decode cX6_as 40 = .ok (.goto 9, 3) := by decide +kernel
theorem dX6_as_43 : decode cX6_as 43 = .ok (.aload_n 0, 1) := by decide +kernel
theorem dX6_as_44 : decode cX6_as 44 = .ok (.ldc 144, 2) := by decide +kernel
theorem dX6_as_46 : decode cX6_as 46 = .ok (.invokevirtual 125, 3) := by decide +kernel
theorem dX6_as_49 : decode cX6_as 49 = .ok (.ireturn, 1) := by decide +kernel
theorem dX6_dies_0 : decode cX6_dies 0 = .ok (.aload_n 0, 1) := by decide +kernel
theorem dX6_dies_1 : decode cX6_dies 1 = .ok (.iload_n 1, 1) := by decide +kernel
theorem dX6_dies_2 : decode cX6_dies 2 = .ok (.invokevirtual 136, 3) := by decide +kernel
theorem dX6_dies_5 : decode cX6_dies 5 = .ok (.ifCond .ne 10, 3) := by decide +kernel
theorem dX6_dies_8 : decode cX6_dies 8 = .ok (.aload_n 0, 1) := by decide +kernel
theorem dX6_dies_9 : decode cX6_dies 9 = .ok (.ldc 78, 2) := by decide +kernel
theorem dX6_dies_11 : decode cX6_dies 11 = .ok (.invokevirtual 125, 3) := by decide +kernel
theorem dX6_dies_14 : decode cX6_dies 14 = .ok (.ireturn, 1) := by decide +kernel
theorem dX6_dies_15 : decode cX6_dies 15 = .ok (.aload_n 0, 1) := by decide +kernel
theorem dX6_dies_16 : decode cX6_dies 16 = .ok (.iload_n 1, 1) := by decide +kernel
theorem dX6_dies_17 : decode cX6_dies 17 = .ok (.invokevirtual 97, 3) := by decide +kernel
theorem dX6_dies_20 : decode cX6_dies 20 = .ok (.ifCond .ne 10, 3) := by decide +kernel
theorem dX6_dies_23 : decode cX6_dies 23 = .ok (.aload_n 0, 1) := by decide +kernel
theorem dX6_dies_24 : decode cX6_dies 24 = .ok (.ldc 139, 2) := by decide +kernel
theorem dX6_dies_26 : decode cX6_dies 26 = .ok (.invokevirtual 125, 3) := by decide +kernel
theorem dX6_dies_29 : decode cX6_dies 29 = .ok (.ireturn, 1) := by decide +kernel
theorem dX6_dies_30 : decode cX6_dies 30 = .ok (.aload_n 0, 1) := by decide +kernel
theorem dX6_dies_31 : decode cX6_dies 31 = .ok (.invokevirtual 145, 3) := by decide +kernel
theorem dX6_dies_34 : decode cX6_dies 34 = .ok (.istore_n 2, 1) := by decide +kernel
theorem dX6_dies_35 : decode cX6_dies 35 = .ok (.aload_n 0, 1) := by decide +kernel
theorem dX6_dies_36 : decode cX6_dies 36 = .ok (.getfield 34, 3) := by decide +kernel
theorem dX6_dies_39 : decode cX6_dies 39 = .ok (.bipush 15, 2) := by decide +kernel
theorem dX6_dies_41 : decode cX6_dies 41 = .ok (.iload_n 1, 1) := by decide +kernel
theorem dX6_dies_42 : decode cX6_dies 42 = .ok (.iadd, 1) := by decide +kernel
theorem dX6_dies_43 : decode cX6_dies 43 = .ok (.iconst 1, 1) := by decide +kernel
theorem dX6_dies_44 : decode cX6_dies 44 = .ok (.iastore, 1) := by decide +kernel
theorem dX6_dies_45 : decode cX6_dies 45 = .ok (.aload_n 0, 1) := by decide +kernel
theorem dX6_dies_46 : decode cX6_dies 46 = .ok (.invokevirtual 145, 3) := by decide +kernel
theorem dX6_dies_49 : decode cX6_dies 49 = .ok (.iload_n 2, 1) := by decide +kernel
theorem dX6_dies_50 : decode cX6_dies 50 = .ok (.iconst (-1), 1) := by decide +kernel
theorem dX6_dies_51 : decode cX6_dies 51 = .ok (.ixor, 1) := by decide +kernel
theorem dX6_dies_52 : decode cX6_dies 52 = .ok (.iand, 1) := by decide +kernel
theorem dX6_dies_53 : decode cX6_dies 53 = .ok (.invokestatic 149, 3) := by decide +kernel
theorem dX6_dies_56 : decode cX6_dies 56 = .ok (.ireturn, 1) := by decide +kernel
theorem dX6_swap_0 : decode cX6_swap 0 = .ok (.aload_n 0, 1) := by decide +kernel
theorem dX6_swap_1 : decode cX6_swap 1 = .ok (.iload_n 1, 1) := by decide +kernel
theorem dX6_swap_2 : decode cX6_swap 2 = .ok (.invokevirtual 136, 3) := by decide +kernel
theorem dX6_swap_5 : decode cX6_swap 5 = .ok (.ifCond .eq 16, 3) := by decide +kernel
theorem dX6_swap_8 : decode cX6_swap 8 = .ok (.aload_n 0, 1) := by decide +kernel
theorem dX6_swap_9 : decode cX6_swap 9 = .ok (.iload_n 2, 1) := by decide +kernel
theorem dX6_swap_10 : decode cX6_swap 10 = .ok (.invokevirtual 136, 3) := by decide +kernel
theorem dX6_swap_13 : decode cX6_swap 13 = .ok (.ifCond .eq 8, 3) := by decide +kernel
theorem dX6_swap_16 : decode cX6_swap 16 = .ok (.iload_n 1, 1) := by decide +kernel
theorem dX6_swap_17 : decode cX6_swap 17 = .ok (.iload_n 2, 1) := by decide +kernel
theorem dX6_swap_18 : decode cX6_swap 18 = .ok (.if_icmp .ne 10, 3) := by decide +kernel
theorem dX6_swap_21 : decode cX6_swap 21 = .ok (.aload_n 0, 1) := by decide +kernel
theorem dX6_swap_22 : decode cX6_swap 22 = .ok (.ldc 78, 2) := by decide +kernel
theorem dX6_swap_24 : decode cX6_swap 24 = .ok (.invokevirtual 125, 3) := by decide +kernel
theorem dX6_swap_27 : decode cX6_swap 27 = .ok (.ireturn, 1) := by decide +kernel
theorem dX6_swap_28 : decode cX6_swap 28 = .ok (.aload_n 0, 1) := by decide +kernel
theorem dX6_swap_29 : decode cX6_swap 29 = .ok (.iload_n 1, 1) := by decide +kernel
theorem dX6_swap_30 : decode cX6_swap 30 = .ok (.invokevirtual 97, 3) := by decide +kernel
theorem dX6_swap_33 : decode cX6_swap 33 = .ok (.ifCond .eq 11, 3) := by decide +kernel
theorem dX6_swap_36 : decode cX6_swap 36 = .ok (.aload_n 0, 1) := by decide +kernel
theorem dX6_swap_37 : decode cX6_swap 37 = .ok (.iload_n 2, 1) := by decide +kernel
theorem dX6_swap_38 : decode cX6_swap 38 = .ok (.invokevirtual 97, 3) := by decide +kernel
theorem dX6_swap_41 : decode cX6_swap 41 = .ok (.ifCond .ne 10, 3) := by decide +kernel
theorem dX6_swap_44 : decode cX6_swap 44 = .ok (.aload_n 0, 1) := by decide +kernel
theorem dX6_swap_45 : decode cX6_swap 45 = .ok (.ldc 139, 2) := by decide +kernel
theorem dX6_swap_47 : decode cX6_swap 47 = .ok (.invokevirtual 125, 3) := by decide +kernel
theorem dX6_swap_50 : decode cX6_swap 50 = .ok (.ireturn, 1) := by decide +kernel
theorem dX6_swap_51 : decode cX6_swap 51 = .ok (.aload_n 0, 1) := by decide +kernel
theorem dX6_swap_52 : decode cX6_swap 52 = .ok (.getfield 34, 3) := by decide +kernel
theorem dX6_swap_55 : decode cX6_swap 55 = .ok (.iconst 1, 1) := by decide +kernel
theorem dX6_swap_56 : decode cX6_swap 56 = .ok (.iload_n 1, 1) := by decide +kernel
theorem dX6_swap_57 : decode cX6_swap 57 = .ok (.iadd, 1) := by decide +kernel
theorem dX6_swap_58 : decode cX6_swap 58 = .ok (.iaload, 1) := by decide +kernel
theorem dX6_swap_59 : decode cX6_swap 59 = .ok (.istore_n 3, 1) := by decide +kernel
theorem dX6_swap_60 : decode cX6_swap 60 = .ok (.aload_n 0, 1) := by decide +kernel
theorem dX6_swap_61 : decode cX6_swap 61 = .ok (.getfield 34, 3) := by decide +kernel
theorem dX6_swap_64 : decode cX6_swap 64 = .ok (.iconst 1, 1) := by decide +kernel
theorem dX6_swap_65 : decode cX6_swap 65 = .ok (.iload_n 1, 1) := by decide +kernel
theorem dX6_swap_66 : decode cX6_swap 66 = .ok (.iadd, 1) := by decide +kernel
theorem dX6_swap_67 : decode cX6_swap 67 = .ok (.aload_n 0, 1) := by decide +kernel
theorem dX6_swap_68 : decode cX6_swap 68 = .ok (.getfield 34, 3) := by decide +kernel
theorem dX6_swap_71 : decode cX6_swap 71 = .ok (.iconst 1, 1) := by decide +kernel
theorem dX6_swap_72 : decode cX6_swap 72 = .ok (.iload_n 2, 1) := by decide +kernel
theorem dX6_swap_73 : decode cX6_swap 73 = .ok (.iadd, 1) := by decide +kernel
theorem dX6_swap_74 : decode cX6_swap 74 = .ok (.iaload, 1) := by decide +kernel
theorem dX6_swap_75 : decode cX6_swap 75 = .ok (.iastore, 1) := by decide +kernel
theorem dX6_swap_76 : decode cX6_swap 76 = .ok (.aload_n 0, 1) := by decide +kernel
theorem dX6_swap_77 : decode cX6_swap 77 = .ok (.getfield 34, 3) := by decide +kernel
theorem dX6_swap_80 : decode cX6_swap 80 = .ok (.iconst 1, 1) := by decide +kernel
theorem dX6_swap_81 : decode cX6_swap 81 = .ok (.iload_n 2, 1) := by decide +kernel
theorem dX6_swap_82 : decode cX6_swap 82 = .ok (.iadd, 1) := by decide +kernel
theorem dX6_swap_83 : decode cX6_swap 83 = .ok (.iload_n 3, 1) := by decide +kernel
theorem dX6_swap_84 : decode cX6_swap 84 = .ok (.iastore, 1) := by decide +kernel
theorem dX6_swap_85 : decode cX6_swap 85 = .ok (.iconst 1, 1) := by decide +kernel
theorem dX6_swap_86 : decode cX6_swap 86 = .ok (.ireturn, 1) := by decide +kernel
theorem dX6_addTreaty_0 : decode cX6_addTreaty 0 = .ok (.aload_n 0, 1) := by decide +kernel
theorem dX6_addTreaty_1 : decode cX6_addTreaty 1 = .ok (.getfield 22, 3) := by decide +kernel
theorem dX6_addTreaty_4 : decode cX6_addTreaty 4 = .ok (.aload_n 0, 1) := by decide +kernel
theorem dX6_addTreaty_5 : decode cX6_addTreaty 5 = .ok (.getfield 87, 3) := by decide +kernel
theorem dX6_addTreaty_8 : decode cX6_addTreaty 8 = .ok (.iload_n 1, 1) := by decide +kernel
theorem dX6_addTreaty_9 : decode cX6_addTreaty 9 = .ok (.iastore, 1) := by decide +kernel
theorem dX6_addTreaty_10 : decode cX6_addTreaty 10 = .ok (.aload_n 0, 1) := by decide +kernel
theorem dX6_addTreaty_11 : decode cX6_addTreaty 11 = .ok (.getfield 25, 3) := by decide +kernel
theorem dX6_addTreaty_14 : decode cX6_addTreaty 14 = .ok (.aload_n 0, 1) := by decide +kernel
theorem dX6_addTreaty_15 : decode cX6_addTreaty 15 = .ok (.getfield 87, 3) := by decide +kernel
theorem dX6_addTreaty_18 : decode cX6_addTreaty 18 = .ok (.iload_n 2, 1) := by decide +kernel
theorem dX6_addTreaty_19 : decode cX6_addTreaty 19 = .ok (.iastore, 1) := by decide +kernel
theorem dX6_addTreaty_20 : decode cX6_addTreaty 20 = .ok (.aload_n 0, 1) := by decide +kernel
theorem dX6_addTreaty_21 : decode cX6_addTreaty 21 = .ok (.getfield 28, 3) := by decide +kernel
theorem dX6_addTreaty_24 : decode cX6_addTreaty 24 = .ok (.aload_n 0, 1) := by decide +kernel
theorem dX6_addTreaty_25 : decode cX6_addTreaty 25 = .ok (.getfield 87, 3) := by decide +kernel
theorem dX6_addTreaty_28 : decode cX6_addTreaty 28 = .ok (.iload_n 3, 1) := by decide +kernel
theorem dX6_addTreaty_29 : decode cX6_addTreaty 29 = .ok (.iastore, 1) := by decide +kernel
theorem dX6_addTreaty_30 : decode cX6_addTreaty 30 = .ok (.aload_n 0, 1) := by decide +kernel
theorem dX6_addTreaty_31 : decode cX6_addTreaty 31 = .ok (.getfield 31, 3) := by decide +kernel
theorem dX6_addTreaty_34 : decode cX6_addTreaty 34 = .ok (.aload_n 0, 1) := by decide +kernel
theorem dX6_addTreaty_35 : decode cX6_addTreaty 35 = .ok (.getfield 87, 3) := by decide +kernel
theorem dX6_addTreaty_38 : decode cX6_addTreaty 38 = .ok (.iload 4, 2) := by decide +kernel
theorem dX6_addTreaty_40 : decode cX6_addTreaty 40 = .ok (.iastore, 1) := by decide +kernel
theorem dX6_addTreaty_41 : decode cX6_addTreaty 41 = .ok (.aload_n 0, 1) := by decide +kernel
theorem dX6_addTreaty_42 : decode cX6_addTreaty 42 = .ok (.getfield 34, 3) := by decide +kernel
theorem dX6_addTreaty_45 : decode cX6_addTreaty 45 = .ok (.bipush 29, 2) := by decide +kernel
theorem dX6_addTreaty_47 : decode cX6_addTreaty 47 = .ok (.aload_n 0, 1) := by decide +kernel
theorem dX6_addTreaty_48 : decode cX6_addTreaty 48 = .ok (.getfield 87, 3) := by decide +kernel
theorem dX6_addTreaty_51 : decode cX6_addTreaty 51 = .ok (.iadd, 1) := by decide +kernel
theorem dX6_addTreaty_52 : decode cX6_addTreaty 52 = .ok (.iconst 0, 1) := by decide +kernel
theorem dX6_addTreaty_53 : decode cX6_addTreaty 53 = .ok (.iastore, 1) := by decide +kernel
theorem dX6_addTreaty_54 : decode cX6_addTreaty 54 = .ok (.aload_n 0, 1) := by decide +kernel
theorem dX6_addTreaty_55 : decode cX6_addTreaty 55 = .ok (.dup, 1) := by decide +kernel
theorem dX6_addTreaty_56 : decode cX6_addTreaty 56 = .ok (.getfield 87, 3) := by decide +kernel
theorem dX6_addTreaty_59 : decode cX6_addTreaty 59 = .ok (.iconst 1, 1) := by decide +kernel
theorem dX6_addTreaty_60 : decode cX6_addTreaty 60 = .ok (.iadd, 1) := by decide +kernel
theorem dX6_addTreaty_61 : decode cX6_addTreaty 61 = .ok (.putfield 87, 3) := by decide +kernel
theorem dX6_addTreaty_64 : decode cX6_addTreaty 64 = .ok (.return_, 1) := by decide +kernel
theorem dX6_treaty_0 : decode cX6_treaty 0 = .ok (.iload_n 1, 1) := by decide +kernel
theorem dX6_treaty_1 : decode cX6_treaty 1 = .ok (.invokestatic 119, 3) := by decide +kernel
theorem dX6_treaty_4 : decode cX6_treaty 4 = .ok (.ifCond .eq 30, 3) := by decide +kernel
theorem dX6_treaty_7 : decode cX6_treaty 7 = .ok (.iload_n 2, 1) := by decide +kernel
theorem dX6_treaty_8 : decode cX6_treaty 8 = .ok (.invokestatic 119, 3) := by decide +kernel
theorem dX6_treaty_11 : decode cX6_treaty 11 = .ok (.ifCond .eq 23, 3) := by decide +kernel
theorem dX6_treaty_14 : decode cX6_treaty 14 = .ok (.iload_n 1, 1) := by decide +kernel
theorem dX6_treaty_15 : decode cX6_treaty 15 = .ok (.iload_n 2, 1) := by decide +kernel
theorem dX6_treaty_16 : decode cX6_treaty 16 = .ok (.if_icmp .eq 18, 3) := by decide +kernel
theorem dX6_treaty_19 : decode cX6_treaty 19 = .ok (.iload_n 3, 1) := by decide +kernel
theorem dX6_treaty_20 : decode cX6_treaty 20 = .ok (.invokestatic 152, 3) := by decide +kernel
theorem dX6_treaty_23 : decode cX6_treaty 23 = .ok (.ifCond .eq 11, 3) := by decide +kernel
theorem dX6_treaty_26 : decode cX6_treaty 26 = .ok (.iload 4, 2) := by decide +kernel
theorem dX6_treaty_28 : decode cX6_treaty 28 = .ok (.invokestatic 152, 3) := by decide +kernel
theorem dX6_treaty_31 : decode cX6_treaty 31 = .ok (.ifCond .ne 10, 3) := by decide +kernel
theorem dX6_treaty_34 : decode cX6_treaty 34 = .ok (.aload_n 0, 1) := by decide +kernel
theorem dX6_treaty_35 : decode cX6_treaty 35 = .ok (.ldc 78, 2) := by decide +kernel
theorem dX6_treaty_37 : decode cX6_treaty 37 = .ok (.invokevirtual 125, 3) := by decide +kernel
theorem dX6_treaty_40 : decode cX6_treaty 40 = .ok (.ireturn, 1) := by decide +kernel
theorem dX6_treaty_41 : decode cX6_treaty 41 = .ok (.aload_n 0, 1) := by decide +kernel
theorem dX6_treaty_42 : decode cX6_treaty 42 = .ok (.getfield 87, 3) := by decide +kernel
theorem dX6_treaty_45 : decode cX6_treaty 45 = .ok (.bipush 12, 2) := by decide +kernel
theorem dX6_treaty_47 : decode cX6_treaty 47 = .ok (.if_icmp .ne 10, 3) := by decide +kernel
theorem dX6_treaty_50 : decode cX6_treaty 50 = .ok (.aload_n 0, 1) := by decide +kernel
theorem dX6_treaty_51 : decode cX6_treaty 51 = .ok (.ldc 131, 2) := by decide +kernel
theorem dX6_treaty_53 : decode cX6_treaty 53 = .ok (.invokevirtual 125, 3) := by decide +kernel
theorem dX6_treaty_56 : decode cX6_treaty 56 = .ok (.ireturn, 1) := by decide +kernel
theorem dX6_treaty_57 : decode cX6_treaty 57 = .ok (.aload_n 0, 1) := by decide +kernel
theorem dX6_treaty_58 : decode cX6_treaty 58 = .ok (.iload_n 1, 1) := by decide +kernel
theorem dX6_treaty_59 : decode cX6_treaty 59 = .ok (.iload_n 2, 1) := by decide +kernel
theorem dX6_treaty_60 : decode cX6_treaty 60 = .ok (.iload_n 3, 1) := by decide +kernel
theorem dX6_treaty_61 : decode cX6_treaty 61 = .ok (.iload 4, 2) := by decide +kernel
theorem dX6_treaty_63 : decode cX6_treaty 63 = .ok (.invokevirtual 155, 3) := by decide +kernel
theorem dX6_treaty_66 : decode cX6_treaty 66 = .ok (.aload_n 0, 1) := by decide +kernel
theorem dX6_treaty_67 : decode cX6_treaty 67 = .ok (.getfield 87, 3) := by decide +kernel
theorem dX6_treaty_70 : decode cX6_treaty 70 = .ok (.iconst 1, 1) := by decide +kernel
theorem dX6_treaty_71 : decode cX6_treaty 71 = .ok (.isub, 1) := by decide +kernel
theorem dX6_treaty_72 : decode cX6_treaty 72 = .ok (.ireturn, 1) := by decide +kernel
theorem dX6_treatyOf_0 : decode cX6_treatyOf 0 = .ok (.aload_n 0, 1) := by decide +kernel
theorem dX6_treatyOf_1 : decode cX6_treatyOf 1 = .ok (.iload_n 1, 1) := by decide +kernel
theorem dX6_treatyOf_2 : decode cX6_treatyOf 2 = .ok (.invokevirtual 158, 3) := by decide +kernel
theorem dX6_treatyOf_5 : decode cX6_treatyOf 5 = .ok (.ifCond .eq 13, 3) := by decide +kernel
theorem dX6_treatyOf_8 : decode cX6_treatyOf 8 = .ok (.iload_n 2, 1) := by decide +kernel
theorem dX6_treatyOf_9 : decode cX6_treatyOf 9 = .ok (.iconst 0, 1) := by decide +kernel
theorem dX6_treatyOf_10 : decode cX6_treatyOf 10 = .ok (.bipush 6, 2) := by decide +kernel
theorem dX6_treatyOf_12 : decode cX6_treatyOf 12 = .ok (.invokestatic 79, 3) := by decide +kernel
theorem dX6_treatyOf_15 : decode cX6_treatyOf 15 = .ok (.ifCond .ne 10, 3) := by decide +kernel
theorem dX6_treatyOf_18 : decode cX6_treatyOf 18 = .ok (.aload_n 0, 1) := by decide +kernel
theorem dX6_treatyOf_19 : decode cX6_treatyOf 19 = .ok (.ldc 78, 2) := by decide +kernel
theorem dX6_treatyOf_21 : decode cX6_treatyOf 21 = .ok (.invokevirtual 125, 3) := by decide +kernel
theorem dX6_treatyOf_24 : decode cX6_treatyOf 24 = .ok (.ireturn, 1) := by decide +kernel
theorem dX6_treatyOf_25 : decode cX6_treatyOf 25 = .ok (.iload_n 2, 1) := by decide +kernel
theorem dX6_treatyOf_26 : decode cX6_treatyOf 26 = .ok (.tableswitch 90 0 5 #[38, 45, 52, 59, 66, 76], 38) := by decide +kernel
theorem dX6_treatyOf_64 : decode cX6_treatyOf 64 = .ok (.aload_n 0, 1) := by decide +kernel
theorem dX6_treatyOf_65 : decode cX6_treatyOf 65 = .ok (.getfield 22, 3) := by decide +kernel
theorem dX6_treatyOf_68 : decode cX6_treatyOf 68 = .ok (.iload_n 1, 1) := by decide +kernel
theorem dX6_treatyOf_69 : decode cX6_treatyOf 69 = .ok (.iaload, 1) := by decide +kernel
theorem dX6_treatyOf_70 : decode cX6_treatyOf 70 = .ok (.ireturn, 1) := by decide +kernel
theorem dX6_treatyOf_71 : decode cX6_treatyOf 71 = .ok (.aload_n 0, 1) := by decide +kernel
theorem dX6_treatyOf_72 : decode cX6_treatyOf 72 = .ok (.getfield 25, 3) := by decide +kernel
theorem dX6_treatyOf_75 : decode cX6_treatyOf 75 = .ok (.iload_n 1, 1) := by decide +kernel
theorem dX6_treatyOf_76 : decode cX6_treatyOf 76 = .ok (.iaload, 1) := by decide +kernel
theorem dX6_treatyOf_77 : decode cX6_treatyOf 77 = .ok (.ireturn, 1) := by decide +kernel
theorem dX6_treatyOf_78 : decode cX6_treatyOf 78 = .ok (.aload_n 0, 1) := by decide +kernel
theorem dX6_treatyOf_79 : decode cX6_treatyOf 79 = .ok (.getfield 28, 3) := by decide +kernel
theorem dX6_treatyOf_82 : decode cX6_treatyOf 82 = .ok (.iload_n 1, 1) := by decide +kernel
theorem dX6_treatyOf_83 : decode cX6_treatyOf 83 = .ok (.iaload, 1) := by decide +kernel
theorem dX6_treatyOf_84 : decode cX6_treatyOf 84 = .ok (.ireturn, 1) := by decide +kernel
theorem dX6_treatyOf_85 : decode cX6_treatyOf 85 = .ok (.aload_n 0, 1) := by decide +kernel
theorem dX6_treatyOf_86 : decode cX6_treatyOf 86 = .ok (.getfield 31, 3) := by decide +kernel
theorem dX6_treatyOf_89 : decode cX6_treatyOf 89 = .ok (.iload_n 1, 1) := by decide +kernel
theorem dX6_treatyOf_90 : decode cX6_treatyOf 90 = .ok (.iaload, 1) := by decide +kernel
theorem dX6_treatyOf_91 : decode cX6_treatyOf 91 = .ok (.ireturn, 1) := by decide +kernel
theorem dX6_treatyOf_92 : decode cX6_treatyOf 92 = .ok (.aload_n 0, 1) := by decide +kernel
theorem dX6_treatyOf_93 : decode cX6_treatyOf 93 = .ok (.getfield 34, 3) := by decide +kernel
theorem dX6_treatyOf_96 : decode cX6_treatyOf 96 = .ok (.bipush 29, 2) := by decide +kernel
theorem dX6_treatyOf_98 : decode cX6_treatyOf 98 = .ok (.iload_n 1, 1) := by decide +kernel
theorem dX6_treatyOf_99 : decode cX6_treatyOf 99 = .ok (.iadd, 1) := by decide +kernel
theorem dX6_treatyOf_100 : decode cX6_treatyOf 100 = .ok (.iaload, 1) := by decide +kernel
theorem dX6_treatyOf_101 : decode cX6_treatyOf 101 = .ok (.ireturn, 1) := by decide +kernel
theorem dX6_treatyOf_102 : decode cX6_treatyOf 102 = .ok (.aload_n 0, 1) := by decide +kernel
theorem dX6_treatyOf_103 : decode cX6_treatyOf 103 = .ok (.iload_n 1, 1) := by decide +kernel
theorem dX6_treatyOf_104 : decode cX6_treatyOf 104 = .ok (.invokevirtual 113, 3) := by decide +kernel
theorem dX6_treatyOf_107 : decode cX6_treatyOf 107 = .ok (.ifCond .eq 7, 3) := by decide +kernel
theorem dX6_treatyOf_110 : decode cX6_treatyOf 110 = .ok (.iconst 1, 1) := by decide +kernel
theorem dX6_treatyOf_111 : decode cX6_treatyOf 111 = .ok (.goto 4, 3) := by decide +kernel
theorem dX6_treatyOf_114 : decode cX6_treatyOf 114 = .ok (.iconst 0, 1) := by decide +kernel
theorem dX6_treatyOf_115 : decode cX6_treatyOf 115 = .ok (.ireturn, 1) := by decide +kernel
theorem dX6_treatyOf_116 : decode cX6_treatyOf 116 = .ok (.aload_n 0, 1) := by decide +kernel
theorem dX6_treatyOf_117 : decode cX6_treatyOf 117 = .ok (.invokevirtual 145, 3) := by decide +kernel
theorem dX6_treatyOf_120 : decode cX6_treatyOf 120 = .ok (.iload_n 1, 1) := by decide +kernel
theorem dX6_treatyOf_121 : decode cX6_treatyOf 121 = .ok (.invokestatic 161, 3) := by decide +kernel
theorem dX6_treatyOf_124 : decode cX6_treatyOf 124 = .ok (.ifCond .eq 7, 3) := by decide +kernel
theorem dX6_treatyOf_127 : decode cX6_treatyOf 127 = .ok (.iconst 1, 1) := by decide +kernel
theorem dX6_treatyOf_128 : decode cX6_treatyOf 128 = .ok (.goto 4, 3) := by decide +kernel
theorem dX6_treatyOf_131 : decode cX6_treatyOf 131 = .ok (.iconst 0, 1) := by decide +kernel
theorem dX6_treatyOf_132 : decode cX6_treatyOf 132 = .ok (.ireturn, 1) := by decide +kernel
theorem dX6_gain_0 : decode cX6_gain 0 = .ok (.aload_n 0, 1) := by decide +kernel
theorem dX6_gain_1 : decode cX6_gain 1 = .ok (.iload_n 1, 1) := by decide +kernel
theorem dX6_gain_2 : decode cX6_gain 2 = .ok (.invokevirtual 158, 3) := by decide +kernel
theorem dX6_gain_5 : decode cX6_gain 5 = .ok (.ifCond .eq 10, 3) := by decide +kernel
theorem dX6_gain_8 : decode cX6_gain 8 = .ok (.iload_n 2, 1) := by decide +kernel
theorem dX6_gain_9 : decode cX6_gain 9 = .ok (.invokestatic 152, 3) := by decide +kernel
theorem dX6_gain_12 : decode cX6_gain 12 = .ok (.ifCond .ne 10, 3) := by decide +kernel
theorem dX6_gain_15 : decode cX6_gain 15 = .ok (.aload_n 0, 1) := by decide +kernel
theorem dX6_gain_16 : decode cX6_gain 16 = .ok (.ldc 78, 2) := by decide +kernel
theorem dX6_gain_18 : decode cX6_gain 18 = .ok (.invokevirtual 125, 3) := by decide +kernel
theorem dX6_gain_21 : decode cX6_gain 21 = .ok (.ireturn, 1) := by decide +kernel
theorem dX6_gain_22 : decode cX6_gain 22 = .ok (.aload_n 0, 1) := by decide +kernel
theorem dX6_gain_23 : decode cX6_gain 23 = .ok (.getfield 28, 3) := by decide +kernel
theorem dX6_gain_26 : decode cX6_gain 26 = .ok (.iload_n 1, 1) := by decide +kernel
theorem dX6_gain_27 : decode cX6_gain 27 = .ok (.iaload, 1) := by decide +kernel
theorem dX6_gain_28 : decode cX6_gain 28 = .ok (.istore_n 3, 1) := by decide +kernel
theorem dX6_gain_29 : decode cX6_gain 29 = .ok (.aload_n 0, 1) := by decide +kernel
theorem dX6_gain_30 : decode cX6_gain 30 = .ok (.getfield 28, 3) := by decide +kernel
theorem dX6_gain_33 : decode cX6_gain 33 = .ok (.iload_n 1, 1) := by decide +kernel
theorem dX6_gain_34 : decode cX6_gain 34 = .ok (.iload_n 2, 1) := by decide +kernel
theorem dX6_gain_35 : decode cX6_gain 35 = .ok (.iastore, 1) := by decide +kernel
theorem dX6_gain_36 : decode cX6_gain 36 = .ok (.iload_n 3, 1) := by decide +kernel
theorem dX6_gain_37 : decode cX6_gain 37 = .ok (.ireturn, 1) := by decide +kernel
theorem dX6_areTwo_0 : decode cX6_areTwo 0 = .ok (.iload_n 0, 1) := by decide +kernel
theorem dX6_areTwo_1 : decode cX6_areTwo 1 = .ok (.invokestatic 119, 3) := by decide +kernel
theorem dX6_areTwo_4 : decode cX6_areTwo 4 = .ok (.ifCond .eq 19, 3) := by decide +kernel
theorem dX6_areTwo_7 : decode cX6_areTwo 7 = .ok (.iload_n 1, 1) := by decide +kernel
theorem dX6_areTwo_8 : decode cX6_areTwo 8 = .ok (.invokestatic 119, 3) := by decide +kernel
theorem dX6_areTwo_11 : decode cX6_areTwo 11 = .ok (.ifCond .eq 12, 3) := by decide +kernel
theorem dX6_areTwo_14 : decode cX6_areTwo 14 = .ok (.iload_n 0, 1) := by decide +kernel
theorem dX6_areTwo_15 : decode cX6_areTwo 15 = .ok (.iload_n 1, 1) := by decide +kernel
theorem dX6_areTwo_16 : decode cX6_areTwo 16 = .ok (.if_icmp .eq 7, 3) := by decide +kernel
theorem dX6_areTwo_19 : decode cX6_areTwo 19 = .ok (.iconst 1, 1) := by decide +kernel
theorem dX6_areTwo_20 : decode cX6_areTwo 20 = .ok (.goto 4, 3) := by decide +kernel
theorem dX6_areTwo_23 : decode cX6_areTwo 23 = .ok (.iconst 0, 1) := by decide +kernel
theorem dX6_areTwo_24 : decode cX6_areTwo 24 = .ok (.ireturn, 1) := by decide +kernel
theorem dX6_pledge_0 : decode cX6_pledge 0 = .ok (.iload_n 1, 1) := by decide +kernel
theorem dX6_pledge_1 : decode cX6_pledge 1 = .ok (.iload_n 2, 1) := by decide +kernel
theorem dX6_pledge_2 : decode cX6_pledge 2 = .ok (.invokestatic 164, 3) := by decide +kernel
theorem dX6_pledge_5 : decode cX6_pledge 5 = .ok (.ifCond .ne 10, 3) := by decide +kernel
theorem dX6_pledge_8 : decode cX6_pledge 8 = .ok (.aload_n 0, 1) := by decide +kernel
theorem dX6_pledge_9 : decode cX6_pledge 9 = .ok (.ldc 78, 2) := by decide +kernel
theorem dX6_pledge_11 : decode cX6_pledge 11 = .ok (.invokevirtual 125, 3) := by decide +kernel
theorem dX6_pledge_14 : decode cX6_pledge 14 = .ok (.ireturn, 1) := by decide +kernel
theorem dX6_pledge_15 : decode cX6_pledge 15 = .ok (.aload_n 0, 1) := by decide +kernel
theorem dX6_pledge_16 : decode cX6_pledge 16 = .ok (.invokevirtual 110, 3) := by decide +kernel
theorem dX6_pledge_19 : decode cX6_pledge 19 = .ok (.aload_n 0, 1) := by decide +kernel
theorem dX6_pledge_20 : decode cX6_pledge 20 = .ok (.getfield 40, 3) := by decide +kernel
theorem dX6_pledge_23 : decode cX6_pledge 23 = .ok (.bipush 6, 2) := by decide +kernel
theorem dX6_pledge_25 : decode cX6_pledge 25 = .ok (.iload_n 1, 1) := by decide +kernel
theorem dX6_pledge_26 : decode cX6_pledge 26 = .ok (.imul, 1) := by decide +kernel
theorem dX6_pledge_27 : decode cX6_pledge 27 = .ok (.iload_n 2, 1) := by decide +kernel
theorem dX6_pledge_28 : decode cX6_pledge 28 = .ok (.iadd, 1) := by decide +kernel
theorem dX6_pledge_29 : decode cX6_pledge 29 = .ok (.iaload, 1) := by decide +kernel
theorem dX6_pledge_30 : decode cX6_pledge 30 = .ok (.ireturn, 1) := by decide +kernel
theorem dX6_ease_0 : decode cX6_ease 0 = .ok (.aload_n 0, 1) := by decide +kernel
theorem dX6_ease_1 : decode cX6_ease 1 = .ok (.iload_n 1, 1) := by decide +kernel
theorem dX6_ease_2 : decode cX6_ease 2 = .ok (.invokevirtual 158, 3) := by decide +kernel
theorem dX6_ease_5 : decode cX6_ease 5 = .ok (.ifCond .ne 10, 3) := by decide +kernel
theorem dX6_ease_8 : decode cX6_ease 8 = .ok (.aload_n 0, 1) := by decide +kernel
theorem dX6_ease_9 : decode cX6_ease 9 = .ok (.ldc 78, 2) := by decide +kernel
theorem dX6_ease_11 : decode cX6_ease 11 = .ok (.invokevirtual 125, 3) := by decide +kernel
theorem dX6_ease_14 : decode cX6_ease 14 = .ok (.ireturn, 1) := by decide +kernel
theorem dX6_ease_15 : decode cX6_ease 15 = .ok (.aload_n 0, 1) := by decide +kernel
theorem dX6_ease_16 : decode cX6_ease 16 = .ok (.iload_n 1, 1) := by decide +kernel
theorem dX6_ease_17 : decode cX6_ease 17 = .ok (.invokevirtual 113, 3) := by decide +kernel
theorem dX6_ease_20 : decode cX6_ease 20 = .ok (.ifCond .ne 10, 3) := by decide +kernel
theorem dX6_ease_23 : decode cX6_ease 23 = .ok (.aload_n 0, 1) := by decide +kernel
theorem dX6_ease_24 : decode cX6_ease 24 = .ok (.ldc 139, 2) := by decide +kernel
theorem dX6_ease_26 : decode cX6_ease 26 = .ok (.invokevirtual 125, 3) := by decide +kernel
theorem dX6_ease_29 : decode cX6_ease 29 = .ok (.ireturn, 1) := by decide +kernel
theorem dX6_ease_30 : decode cX6_ease 30 = .ok (.aload_n 0, 1) := by decide +kernel
theorem dX6_ease_31 : decode cX6_ease 31 = .ok (.invokevirtual 110, 3) := by decide +kernel
theorem dX6_ease_34 : decode cX6_ease 34 = .ok (.aload_n 0, 1) := by decide +kernel
theorem dX6_ease_35 : decode cX6_ease 35 = .ok (.iload_n 1, 1) := by decide +kernel
theorem dX6_ease_36 : decode cX6_ease 36 = .ok (.invokevirtual 116, 3) := by decide +kernel
theorem dX6_ease_39 : decode cX6_ease 39 = .ok (.ireturn, 1) := by decide +kernel
theorem dX6_loose_0 : decode cX6_loose 0 = .ok (.aload_n 0, 1) := by decide +kernel
theorem dX6_loose_1 : decode cX6_loose 1 = .ok (.invokevirtual 145, 3) := by decide +kernel
theorem dX6_loose_4 : decode cX6_loose 4 = .ok (.ireturn, 1) := by decide +kernel
theorem dX6_pays_0 : decode cX6_pays 0 = .ok (.iconst 0, 1) := by decide +kernel
theorem dX6_pays_1 : decode cX6_pays 1 = .ok (.aload_n 0, 1) := by decide +kernel
theorem dX6_pays_2 : decode cX6_pays 2 = .ok (.getfield 7, 3) := by decide +kernel
theorem dX6_pays_5 : decode cX6_pays 5 = .ok (.iload_n 1, 1) := by decide +kernel
theorem dX6_pays_6 : decode cX6_pays 6 = .ok (.iaload, 1) := by decide +kernel
theorem dX6_pays_7 : decode cX6_pays 7 = .ok (.isub, 1) := by decide +kernel
theorem dX6_pays_8 : decode cX6_pays 8 = .ok (.aload_n 0, 1) := by decide +kernel
theorem dX6_pays_9 : decode cX6_pays 9 = .ok (.getfield 7, 3) := by decide +kernel
theorem dX6_pays_12 : decode cX6_pays 12 = .ok (.iload_n 2, 1) := by decide +kernel
theorem dX6_pays_13 : decode cX6_pays 13 = .ok (.iaload, 1) := by decide +kernel
theorem dX6_pays_14 : decode cX6_pays 14 = .ok (.isub, 1) := by decide +kernel
theorem dX6_pays_15 : decode cX6_pays 15 = .ok (.istore_n 3, 1) := by decide +kernel
theorem dX6_pays_16 : decode cX6_pays 16 = .ok (.iconst 0, 1) := by decide +kernel
theorem dX6_pays_17 : decode cX6_pays 17 = .ok (.istore 4, 2) := by decide +kernel
theorem dX6_pays_19 : decode cX6_pays 19 = .ok (.iload 4, 2) := by decide +kernel
theorem dX6_pays_21 : decode cX6_pays 21 = .ok (.aload_n 0, 1) := by decide +kernel
theorem dX6_pays_22 : decode cX6_pays 22 = .ok (.getfield 87, 3) := by decide +kernel
theorem dX6_pays_25 : decode cX6_pays 25 = .ok (.if_icmp .ge 88, 3) := by decide +kernel
theorem dX6_pays_28 : decode cX6_pays 28 = .ok (.aload_n 0, 1) := by decide +kernel
theorem dX6_pays_29 : decode cX6_pays 29 = .ok (.getfield 22, 3) := by decide +kernel
theorem dX6_pays_32 : decode cX6_pays 32 = .ok (.iload 4, 2) := by decide +kernel
theorem dX6_pays_34 : decode cX6_pays 34 = .ok (.iaload, 1) := by decide +kernel
theorem dX6_pays_35 : decode cX6_pays 35 = .ok (.iload_n 1, 1) := by decide +kernel
theorem dX6_pays_36 : decode cX6_pays 36 = .ok (.if_icmp .eq 14, 3) := by decide +kernel
theorem dX6_pays_39 : decode cX6_pays 39 = .ok (.aload_n 0, 1) := by decide +kernel
theorem dX6_pays_40 : decode cX6_pays 40 = .ok (.getfield 22, 3) := by decide +kernel
theorem dX6_pays_43 : decode cX6_pays 43 = .ok (.iload 4, 2) := by decide +kernel
theorem dX6_pays_45 : decode cX6_pays 45 = .ok (.iaload, 1) := by decide +kernel
theorem dX6_pays_46 : decode cX6_pays 46 = .ok (.iload_n 2, 1) := by decide +kernel
theorem dX6_pays_47 : decode cX6_pays 47 = .ok (.if_icmp .ne 7, 3) := by decide +kernel
theorem dX6_pays_50 : decode cX6_pays 50 = .ok (.iconst 1, 1) := by decide +kernel
theorem dX6_pays_51 : decode cX6_pays 51 = .ok (.goto 4, 3) := by decide +kernel
theorem dX6_pays_54 : decode cX6_pays 54 = .ok (.iconst 0, 1) := by decide +kernel
theorem dX6_pays_55 : decode cX6_pays 55 = .ok (.istore 5, 2) := by decide +kernel
theorem dX6_pays_57 : decode cX6_pays 57 = .ok (.iload_n 3, 1) := by decide +kernel
theorem dX6_pays_58 : decode cX6_pays 58 = .ok (.iload 5, 2) := by decide +kernel
theorem dX6_pays_60 : decode cX6_pays 60 = .ok (.ifCond .eq 44, 3) := by decide +kernel
theorem dX6_pays_63 : decode cX6_pays 63 = .ok (.aload_n 0, 1) := by decide +kernel
theorem dX6_pays_64 : decode cX6_pays 64 = .ok (.getfield 25, 3) := by decide +kernel
theorem dX6_pays_67 : decode cX6_pays 67 = .ok (.iload 4, 2) := by decide +kernel
theorem dX6_pays_69 : decode cX6_pays 69 = .ok (.iaload, 1) := by decide +kernel
theorem dX6_pays_70 : decode cX6_pays 70 = .ok (.iload_n 1, 1) := by decide +kernel
theorem dX6_pays_71 : decode cX6_pays 71 = .ok (.if_icmp .eq 33, 3) := by decide +kernel
theorem dX6_pays_74 : decode cX6_pays 74 = .ok (.aload_n 0, 1) := by decide +kernel
theorem dX6_pays_75 : decode cX6_pays 75 = .ok (.getfield 25, 3) := by decide +kernel
theorem dX6_pays_78 : decode cX6_pays 78 = .ok (.iload 4, 2) := by decide +kernel
theorem dX6_pays_80 : decode cX6_pays 80 = .ok (.iaload, 1) := by decide +kernel
theorem dX6_pays_81 : decode cX6_pays 81 = .ok (.iload_n 2, 1) := by decide +kernel
theorem dX6_pays_82 : decode cX6_pays 82 = .ok (.if_icmp .eq 22, 3) := by decide +kernel
theorem dX6_pays_85 : decode cX6_pays 85 = .ok (.aload_n 0, 1) := by decide +kernel
theorem dX6_pays_86 : decode cX6_pays 86 = .ok (.iload 4, 2) := by decide +kernel
theorem dX6_pays_88 : decode cX6_pays 88 = .ok (.invokevirtual 113, 3) := by decide +kernel
theorem dX6_pays_91 : decode cX6_pays 91 = .ok (.ifCond .eq 13, 3) := by decide +kernel
theorem dX6_pays_94 : decode cX6_pays 94 = .ok (.aload_n 0, 1) := by decide +kernel
theorem dX6_pays_95 : decode cX6_pays 95 = .ok (.getfield 28, 3) := by decide +kernel
theorem dX6_pays_98 : decode cX6_pays 98 = .ok (.iload 4, 2) := by decide +kernel
theorem dX6_pays_100 : decode cX6_pays 100 = .ok (.iaload, 1) := by decide +kernel
theorem dX6_pays_101 : decode cX6_pays 101 = .ok (.goto 4, 3) := by decide +kernel
theorem dX6_pays_104 : decode cX6_pays 104 = .ok (.iconst 0, 1) := by decide +kernel
theorem dX6_pays_105 : decode cX6_pays 105 = .ok (.iadd, 1) := by decide +kernel
theorem dX6_pays_106 : decode cX6_pays 106 = .ok (.istore_n 3, 1) := by decide +kernel
theorem dX6_pays_107 : decode cX6_pays 107 = .ok (.iinc 4 1, 3) := by decide +kernel
theorem dX6_pays_110 : decode cX6_pays 110 = .ok (.goto (-91), 3) := by decide +kernel
theorem dX6_pays_113 : decode cX6_pays 113 = .ok (.iconst 0, 1) := by decide +kernel
theorem dX6_pays_114 : decode cX6_pays 114 = .ok (.istore 4, 2) := by decide +kernel
theorem dX6_pays_116 : decode cX6_pays 116 = .ok (.iload 4, 2) := by decide +kernel
theorem dX6_pays_118 : decode cX6_pays 118 = .ok (.bipush 6, 2) := by decide +kernel
theorem dX6_pays_120 : decode cX6_pays 120 = .ok (.if_icmp .ge 53, 3) := by decide +kernel
theorem dX6_pays_123 : decode cX6_pays 123 = .ok (.iload_n 3, 1) := by decide +kernel
theorem dX6_pays_124 : decode cX6_pays 124 = .ok (.iload 4, 2) := by decide +kernel
theorem dX6_pays_126 : decode cX6_pays 126 = .ok (.iload_n 1, 1) := by decide +kernel
theorem dX6_pays_127 : decode cX6_pays 127 = .ok (.if_icmp .eq 37, 3) := by decide +kernel
theorem dX6_pays_130 : decode cX6_pays 130 = .ok (.iload 4, 2) := by decide +kernel
theorem dX6_pays_132 : decode cX6_pays 132 = .ok (.iload_n 2, 1) := by decide +kernel
theorem dX6_pays_133 : decode cX6_pays 133 = .ok (.if_icmp .eq 31, 3) := by decide +kernel
theorem dX6_pays_136 : decode cX6_pays 136 = .ok (.aload_n 0, 1) := by decide +kernel
theorem dX6_pays_137 : decode cX6_pays 137 = .ok (.getfield 40, 3) := by decide +kernel
theorem dX6_pays_140 : decode cX6_pays 140 = .ok (.bipush 6, 2) := by decide +kernel
theorem dX6_pays_142 : decode cX6_pays 142 = .ok (.iload 4, 2) := by decide +kernel
theorem dX6_pays_144 : decode cX6_pays 144 = .ok (.imul, 1) := by decide +kernel
theorem dX6_pays_145 : decode cX6_pays 145 = .ok (.iload_n 1, 1) := by decide +kernel
theorem dX6_pays_146 : decode cX6_pays 146 = .ok (.iadd, 1) := by decide +kernel
theorem dX6_pays_147 : decode cX6_pays 147 = .ok (.iaload, 1) := by decide +kernel
theorem dX6_pays_148 : decode cX6_pays 148 = .ok (.aload_n 0, 1) := by decide +kernel
theorem dX6_pays_149 : decode cX6_pays 149 = .ok (.getfield 40, 3) := by decide +kernel
theorem dX6_pays_152 : decode cX6_pays 152 = .ok (.bipush 6, 2) := by decide +kernel
theorem dX6_pays_154 : decode cX6_pays 154 = .ok (.iload 4, 2) := by decide +kernel
theorem dX6_pays_156 : decode cX6_pays 156 = .ok (.imul, 1) := by decide +kernel
theorem dX6_pays_157 : decode cX6_pays 157 = .ok (.iload_n 2, 1) := by decide +kernel
theorem dX6_pays_158 : decode cX6_pays 158 = .ok (.iadd, 1) := by decide +kernel
theorem dX6_pays_159 : decode cX6_pays 159 = .ok (.iaload, 1) := by decide +kernel
theorem dX6_pays_160 : decode cX6_pays 160 = .ok (.iadd, 1) := by decide +kernel
theorem dX6_pays_161 : decode cX6_pays 161 = .ok (.goto 4, 3) := by decide +kernel
theorem dX6_pays_164 : decode cX6_pays 164 = .ok (.iconst 0, 1) := by decide +kernel
theorem dX6_pays_165 : decode cX6_pays 165 = .ok (.isub, 1) := by decide +kernel
theorem dX6_pays_166 : decode cX6_pays 166 = .ok (.istore_n 3, 1) := by decide +kernel
theorem dX6_pays_167 : decode cX6_pays 167 = .ok (.iinc 4 1, 3) := by decide +kernel
theorem dX6_pays_170 : decode cX6_pays 170 = .ok (.goto (-54), 3) := by decide +kernel
theorem dX6_pays_173 : decode cX6_pays 173 = .ok (.iload_n 3, 1) := by decide +kernel
theorem dX6_pays_174 : decode cX6_pays 174 = .ok (.ifCond .le 7, 3) := by decide +kernel
theorem dX6_pays_177 : decode cX6_pays 177 = .ok (.iconst 1, 1) := by decide +kernel
theorem dX6_pays_178 : decode cX6_pays 178 = .ok (.goto 4, 3) := by decide +kernel
theorem dX6_pays_181 : decode cX6_pays 181 = .ok (.iconst 0, 1) := by decide +kernel
theorem dX6_pays_182 : decode cX6_pays 182 = .ok (.ireturn, 1) := by decide +kernel
theorem dX6_pact_0 : decode cX6_pact 0 = .ok (.iload_n 1, 1) := by decide +kernel
theorem dX6_pact_1 : decode cX6_pact 1 = .ok (.iload_n 2, 1) := by decide +kernel
theorem dX6_pact_2 : decode cX6_pact 2 = .ok (.invokestatic 164, 3) := by decide +kernel
theorem dX6_pact_5 : decode cX6_pact 5 = .ok (.ifCond .ne 10, 3) := by decide +kernel
theorem dX6_pact_8 : decode cX6_pact 8 = .ok (.aload_n 0, 1) := by decide +kernel
theorem dX6_pact_9 : decode cX6_pact 9 = .ok (.ldc 78, 2) := by decide +kernel
theorem dX6_pact_11 : decode cX6_pact 11 = .ok (.invokevirtual 125, 3) := by decide +kernel
theorem dX6_pact_14 : decode cX6_pact 14 = .ok (.ireturn, 1) := by decide +kernel
theorem dX6_pact_15 : decode cX6_pact 15 = .ok (.aload_n 0, 1) := by decide +kernel
theorem dX6_pact_16 : decode cX6_pact 16 = .ok (.invokevirtual 110, 3) := by decide +kernel
theorem dX6_pact_19 : decode cX6_pact 19 = .ok (.aload_n 0, 1) := by decide +kernel
theorem dX6_pact_20 : decode cX6_pact 20 = .ok (.iload_n 1, 1) := by decide +kernel
theorem dX6_pact_21 : decode cX6_pact 21 = .ok (.iload_n 2, 1) := by decide +kernel
theorem dX6_pact_22 : decode cX6_pact 22 = .ok (.invokevirtual 167, 3) := by decide +kernel
theorem dX6_pact_25 : decode cX6_pact 25 = .ok (.ifCond .eq 7, 3) := by decide +kernel
theorem dX6_pact_28 : decode cX6_pact 28 = .ok (.iconst 1, 1) := by decide +kernel
theorem dX6_pact_29 : decode cX6_pact 29 = .ok (.goto 4, 3) := by decide +kernel
theorem dX6_pact_32 : decode cX6_pact 32 = .ok (.iconst 0, 1) := by decide +kernel
theorem dX6_pact_33 : decode cX6_pact 33 = .ok (.ireturn, 1) := by decide +kernel
theorem dX6_plot_0 : decode cX6_plot 0 = .ok (.aload_n 0, 1) := by decide +kernel
theorem dX6_plot_1 : decode cX6_plot 1 = .ok (.invokevirtual 110, 3) := by decide +kernel
theorem dX6_plot_4 : decode cX6_plot 4 = .ok (.iconst 0, 1) := by decide +kernel
theorem dX6_plot_5 : decode cX6_plot 5 = .ok (.istore_n 1, 1) := by decide +kernel
theorem dX6_plot_6 : decode cX6_plot 6 = .ok (.iload_n 1, 1) := by decide +kernel
theorem dX6_plot_7 : decode cX6_plot 7 = .ok (.bipush 6, 2) := by decide +kernel
theorem dX6_plot_9 : decode cX6_plot 9 = .ok (.if_icmp .ge 41, 3) := by decide +kernel
theorem dX6_plot_12 : decode cX6_plot 12 = .ok (.iload_n 1, 1) := by decide +kernel
theorem dX6_plot_13 : decode cX6_plot 13 = .ok (.iconst 1, 1) := by decide +kernel
theorem dX6_plot_14 : decode cX6_plot 14 = .ok (.iadd, 1) := by decide +kernel
theorem dX6_plot_15 : decode cX6_plot 15 = .ok (.istore_n 2, 1) := by decide +kernel
theorem dX6_plot_16 : decode cX6_plot 16 = .ok (.iload_n 2, 1) := by decide +kernel
theorem dX6_plot_17 : decode cX6_plot 17 = .ok (.bipush 6, 2) := by decide +kernel
theorem dX6_plot_19 : decode cX6_plot 19 = .ok (.if_icmp .ge 25, 3) := by decide +kernel
theorem dX6_plot_22 : decode cX6_plot 22 = .ok (.aload_n 0, 1) := by decide +kernel
theorem dX6_plot_23 : decode cX6_plot 23 = .ok (.iload_n 1, 1) := by decide +kernel
theorem dX6_plot_24 : decode cX6_plot 24 = .ok (.iload_n 2, 1) := by decide +kernel
theorem dX6_plot_25 : decode cX6_plot 25 = .ok (.invokevirtual 167, 3) := by decide +kernel
theorem dX6_plot_28 : decode cX6_plot 28 = .ok (.ifCond .eq 10, 3) := by decide +kernel
theorem dX6_plot_31 : decode cX6_plot 31 = .ok (.bipush 10, 2) := by decide +kernel
theorem dX6_plot_33 : decode cX6_plot 33 = .ok (.iload_n 1, 1) := by decide +kernel
theorem dX6_plot_34 : decode cX6_plot 34 = .ok (.imul, 1) := by decide +kernel
theorem dX6_plot_35 : decode cX6_plot 35 = .ok (.iload_n 2, 1) := by decide +kernel
theorem dX6_plot_36 : decode cX6_plot 36 = .ok (.iadd, 1) := by decide +kernel
theorem dX6_plot_37 : decode cX6_plot 37 = .ok (.ireturn, 1) := by decide +kernel
theorem dX6_plot_38 : decode cX6_plot 38 = .ok (.iinc 2 1, 3) := by decide +kernel
theorem dX6_plot_41 : decode cX6_plot 41 = .ok (.goto (-25), 3) := by decide +kernel
theorem dX6_plot_44 : decode cX6_plot 44 = .ok (.iinc 1 1, 3) := by decide +kernel
theorem dX6_plot_47 : decode cX6_plot 47 = .ok (.goto (-41), 3) := by decide +kernel
theorem dX6_plot_50 : decode cX6_plot 50 = .ok (.aload_n 0, 1) := by decide +kernel
theorem dX6_plot_51 : decode cX6_plot 51 = .ok (.ldc 170, 2) := by decide +kernel
theorem dX6_plot_53 : decode cX6_plot 53 = .ok (.invokevirtual 125, 3) := by decide +kernel
theorem dX6_plot_56 : decode cX6_plot 56 = .ok (.ireturn, 1) := by decide +kernel
theorem dX6_breaks_0 : decode cX6_breaks 0 = .ok (.aload_n 0, 1) := by decide +kernel
theorem dX6_breaks_1 : decode cX6_breaks 1 = .ok (.getfield 34, 3) := by decide +kernel
theorem dX6_breaks_4 : decode cX6_breaks 4 = .ok (.aload_n 0, 1) := by decide +kernel
theorem dX6_breaks_5 : decode cX6_breaks 5 = .ok (.getfield 90, 3) := by decide +kernel
theorem dX6_breaks_8 : decode cX6_breaks 8 = .ok (.bipush 29, 2) := by decide +kernel
theorem dX6_breaks_10 : decode cX6_breaks 10 = .ok (.iadd, 1) := by decide +kernel
theorem dX6_breaks_11 : decode cX6_breaks 11 = .ok (.iload_n 1, 1) := by decide +kernel
theorem dX6_breaks_12 : decode cX6_breaks 12 = .ok (.iadd, 1) := by decide +kernel
theorem dX6_breaks_13 : decode cX6_breaks 13 = .ok (.iconst 1, 1) := by decide +kernel
theorem dX6_breaks_14 : decode cX6_breaks 14 = .ok (.iastore, 1) := by decide +kernel
theorem dX6_breaks_15 : decode cX6_breaks 15 = .ok (.iconst 0, 1) := by decide +kernel
theorem dX6_breaks_16 : decode cX6_breaks 16 = .ok (.istore_n 2, 1) := by decide +kernel
theorem dX6_breaks_17 : decode cX6_breaks 17 = .ok (.iload_n 2, 1) := by decide +kernel
theorem dX6_breaks_18 : decode cX6_breaks 18 = .ok (.aload_n 0, 1) := by decide +kernel
theorem dX6_breaks_19 : decode cX6_breaks 19 = .ok (.getfield 83, 3) := by decide +kernel
theorem dX6_breaks_22 : decode cX6_breaks 22 = .ok (.if_icmp .ge 53, 3) := by decide +kernel
theorem dX6_breaks_25 : decode cX6_breaks 25 = .ok (.aload_n 0, 1) := by decide +kernel
theorem dX6_breaks_26 : decode cX6_breaks 26 = .ok (.getfield 16, 3) := by decide +kernel
theorem dX6_breaks_29 : decode cX6_breaks 29 = .ok (.iload_n 2, 1) := by decide +kernel
theorem dX6_breaks_30 : decode cX6_breaks 30 = .ok (.iaload, 1) := by decide +kernel
theorem dX6_breaks_31 : decode cX6_breaks 31 = .ok (.aload_n 0, 1) := by decide +kernel
theorem dX6_breaks_32 : decode cX6_breaks 32 = .ok (.getfield 22, 3) := by decide +kernel
theorem dX6_breaks_35 : decode cX6_breaks 35 = .ok (.iload_n 1, 1) := by decide +kernel
theorem dX6_breaks_36 : decode cX6_breaks 36 = .ok (.iaload, 1) := by decide +kernel
theorem dX6_breaks_37 : decode cX6_breaks 37 = .ok (.if_icmp .ne 32, 3) := by decide +kernel
theorem dX6_breaks_40 : decode cX6_breaks 40 = .ok (.aload_n 0, 1) := by decide +kernel
theorem dX6_breaks_41 : decode cX6_breaks 41 = .ok (.iload_n 2, 1) := by decide +kernel
theorem dX6_breaks_42 : decode cX6_breaks 42 = .ok (.invokevirtual 93, 3) := by decide +kernel
theorem dX6_breaks_45 : decode cX6_breaks 45 = .ok (.aload_n 0, 1) := by decide +kernel
theorem dX6_breaks_46 : decode cX6_breaks 46 = .ok (.getfield 25, 3) := by decide +kernel
theorem dX6_breaks_49 : decode cX6_breaks 49 = .ok (.iload_n 1, 1) := by decide +kernel
theorem dX6_breaks_50 : decode cX6_breaks 50 = .ok (.iaload, 1) := by decide +kernel
theorem dX6_breaks_51 : decode cX6_breaks 51 = .ok (.if_icmp .ne 18, 3) := by decide +kernel
theorem dX6_breaks_54 : decode cX6_breaks 54 = .ok (.aload_n 0, 1) := by decide +kernel
theorem dX6_breaks_55 : decode cX6_breaks 55 = .ok (.getfield 34, 3) := by decide +kernel
theorem dX6_breaks_58 : decode cX6_breaks 58 = .ok (.aload_n 0, 1) := by decide +kernel
theorem dX6_breaks_59 : decode cX6_breaks 59 = .ok (.getfield 90, 3) := by decide +kernel
theorem dX6_breaks_62 : decode cX6_breaks 62 = .ok (.bipush 15, 2) := by decide +kernel
theorem dX6_breaks_64 : decode cX6_breaks 64 = .ok (.iadd, 1) := by decide +kernel
theorem dX6_breaks_65 : decode cX6_breaks 65 = .ok (.iload_n 2, 1) := by decide +kernel
theorem dX6_breaks_66 : decode cX6_breaks 66 = .ok (.iadd, 1) := by decide +kernel
theorem dX6_breaks_67 : decode cX6_breaks 67 = .ok (.iconst 1, 1) := by decide +kernel
theorem dX6_breaks_68 : decode cX6_breaks 68 = .ok (.iastore, 1) := by decide +kernel
theorem dX6_breaks_69 : decode cX6_breaks 69 = .ok (.iinc 2 1, 3) := by decide +kernel
theorem dX6_breaks_72 : decode cX6_breaks 72 = .ok (.goto (-55), 3) := by decide +kernel
theorem dX6_breaks_75 : decode cX6_breaks 75 = .ok (.return_, 1) := by decide +kernel
theorem dX6_falls_0 : decode cX6_falls 0 = .ok (.aload_n 0, 1) := by decide +kernel
theorem dX6_falls_1 : decode cX6_falls 1 = .ok (.iconst 0, 1) := by decide +kernel
theorem dX6_falls_2 : decode cX6_falls 2 = .ok (.putfield 171, 3) := by decide +kernel
theorem dX6_falls_5 : decode cX6_falls 5 = .ok (.aload_n 0, 1) := by decide +kernel
theorem dX6_falls_6 : decode cX6_falls 6 = .ok (.iconst 0, 1) := by decide +kernel
theorem dX6_falls_7 : decode cX6_falls 7 = .ok (.putfield 174, 3) := by decide +kernel
theorem dX6_falls_10 : decode cX6_falls 10 = .ok (.aload_n 0, 1) := by decide +kernel
theorem dX6_falls_11 : decode cX6_falls 11 = .ok (.iconst 0, 1) := by decide +kernel
theorem dX6_falls_12 : decode cX6_falls 12 = .ok (.putfield 177, 3) := by decide +kernel
theorem dX6_falls_15 : decode cX6_falls 15 = .ok (.aload_n 0, 1) := by decide +kernel
theorem dX6_falls_16 : decode cX6_falls 16 = .ok (.invokevirtual 145, 3) := by decide +kernel
theorem dX6_falls_19 : decode cX6_falls 19 = .ok (.istore_n 1, 1) := by decide +kernel
theorem dX6_falls_20 : decode cX6_falls 20 = .ok (.iload_n 1, 1) := by decide +kernel
theorem dX6_falls_21 : decode cX6_falls 21 = .ok (.ifCond .eq 80, 3) := by decide +kernel
theorem dX6_falls_24 : decode cX6_falls 24 = .ok (.aload_n 0, 1) := by decide +kernel
theorem dX6_falls_25 : decode cX6_falls 25 = .ok (.dup, 1) := by decide +kernel
theorem dX6_falls_26 : decode cX6_falls 26 = .ok (.getfield 171, 3) := by decide +kernel
theorem dX6_falls_29 : decode cX6_falls 29 = .ok (.iconst 1, 1) := by decide +kernel
theorem dX6_falls_30 : decode cX6_falls 30 = .ok (.iadd, 1) := by decide +kernel
theorem dX6_falls_31 : decode cX6_falls 31 = .ok (.putfield 171, 3) := by decide +kernel
theorem dX6_falls_34 : decode cX6_falls 34 = .ok (.aload_n 0, 1) := by decide +kernel
theorem dX6_falls_35 : decode cX6_falls 35 = .ok (.aload_n 0, 1) := by decide +kernel
theorem dX6_falls_36 : decode cX6_falls 36 = .ok (.getfield 171, 3) := by decide +kernel
theorem dX6_falls_39 : decode cX6_falls 39 = .ok (.iconst 1, 1) := by decide +kernel
theorem dX6_falls_40 : decode cX6_falls 40 = .ok (.if_icmp .ne 7, 3) := by decide +kernel
theorem dX6_falls_43 : decode cX6_falls 43 = .ok (.iload_n 1, 1) := by decide +kernel
theorem dX6_falls_44 : decode cX6_falls 44 = .ok (.goto 7, 3) := by decide +kernel
theorem dX6_falls_47 : decode cX6_falls 47 = .ok (.aload_n 0, 1) := by decide +kernel
theorem dX6_falls_48 : decode cX6_falls 48 = .ok (.getfield 174, 3) := by decide +kernel
theorem dX6_falls_51 : decode cX6_falls 51 = .ok (.putfield 174, 3) := by decide +kernel
theorem dX6_falls_54 : decode cX6_falls 54 = .ok (.aload_n 0, 1) := by decide +kernel
theorem dX6_falls_55 : decode cX6_falls 55 = .ok (.dup, 1) := by decide +kernel
theorem dX6_falls_56 : decode cX6_falls 56 = .ok (.getfield 177, 3) := by decide +kernel
theorem dX6_falls_59 : decode cX6_falls 59 = .ok (.iload_n 1, 1) := by decide +kernel
theorem dX6_falls_60 : decode cX6_falls 60 = .ok (.ior, 1) := by decide +kernel
theorem dX6_falls_61 : decode cX6_falls 61 = .ok (.putfield 177, 3) := by decide +kernel
theorem dX6_falls_64 : decode cX6_falls 64 = .ok (.iconst 0, 1) := by decide +kernel
theorem dX6_falls_65 : decode cX6_falls 65 = .ok (.istore_n 2, 1) := by decide +kernel
theorem dX6_falls_66 : decode cX6_falls 66 = .ok (.iload_n 2, 1) := by decide +kernel
theorem dX6_falls_67 : decode cX6_falls 67 = .ok (.aload_n 0, 1) := by decide +kernel
theorem dX6_falls_68 : decode cX6_falls 68 = .ok (.getfield 87, 3) := by decide +kernel
theorem dX6_falls_71 : decode cX6_falls 71 = .ok (.if_icmp .ge 22, 3) := by decide +kernel
theorem dX6_falls_74 : decode cX6_falls 74 = .ok (.iload_n 1, 1) := by decide +kernel
theorem dX6_falls_75 : decode cX6_falls 75 = .ok (.iload_n 2, 1) := by decide +kernel
theorem dX6_falls_76 : decode cX6_falls 76 = .ok (.invokestatic 161, 3) := by decide +kernel
theorem dX6_falls_79 : decode cX6_falls 79 = .ok (.ifCond .eq 8, 3) := by decide +kernel
theorem dX6_falls_82 : decode cX6_falls 82 = .ok (.aload_n 0, 1) := by decide +kernel
theorem dX6_falls_83 : decode cX6_falls 83 = .ok (.iload_n 2, 1) := by decide +kernel
theorem dX6_falls_84 : decode cX6_falls 84 = .ok (.invokevirtual 180, 3) := by decide +kernel
theorem dX6_falls_87 : decode cX6_falls 87 = .ok (.iinc 2 1, 3) := by decide +kernel
theorem dX6_falls_90 : decode cX6_falls 90 = .ok (.goto (-24), 3) := by decide +kernel
theorem dX6_falls_93 : decode cX6_falls 93 = .ok (.aload_n 0, 1) := by decide +kernel
theorem dX6_falls_94 : decode cX6_falls 94 = .ok (.invokevirtual 145, 3) := by decide +kernel
theorem dX6_falls_97 : decode cX6_falls 97 = .ok (.istore_n 1, 1) := by decide +kernel
theorem dX6_falls_98 : decode cX6_falls 98 = .ok (.goto (-78), 3) := by decide +kernel
theorem dX6_falls_101 : decode cX6_falls 101 = .ok (.return_, 1) := by decide +kernel
theorem dX6_lends_0 : decode cX6_lends 0 = .ok (.aload_n 0, 1) := by decide +kernel
theorem dX6_lends_1 : decode cX6_lends 1 = .ok (.iconst 0, 1) := by decide +kernel
theorem dX6_lends_2 : decode cX6_lends 2 = .ok (.putfield 90, 3) := by decide +kernel
theorem dX6_lends_5 : decode cX6_lends 5 = .ok (.iconst 0, 1) := by decide +kernel
theorem dX6_lends_6 : decode cX6_lends 6 = .ok (.istore_n 1, 1) := by decide +kernel
theorem dX6_lends_7 : decode cX6_lends 7 = .ok (.iload_n 1, 1) := by decide +kernel
theorem dX6_lends_8 : decode cX6_lends 8 = .ok (.bipush 41, 2) := by decide +kernel
theorem dX6_lends_10 : decode cX6_lends 10 = .ok (.if_icmp .ge 24, 3) := by decide +kernel
theorem dX6_lends_13 : decode cX6_lends 13 = .ok (.aload_n 0, 1) := by decide +kernel
theorem dX6_lends_14 : decode cX6_lends 14 = .ok (.getfield 34, 3) := by decide +kernel
theorem dX6_lends_17 : decode cX6_lends 17 = .ok (.bipush 41, 2) := by decide +kernel
theorem dX6_lends_19 : decode cX6_lends 19 = .ok (.iload_n 1, 1) := by decide +kernel
theorem dX6_lends_20 : decode cX6_lends 20 = .ok (.iadd, 1) := by decide +kernel
theorem dX6_lends_21 : decode cX6_lends 21 = .ok (.aload_n 0, 1) := by decide +kernel
theorem dX6_lends_22 : decode cX6_lends 22 = .ok (.getfield 34, 3) := by decide +kernel
theorem dX6_lends_25 : decode cX6_lends 25 = .ok (.iload_n 1, 1) := by decide +kernel
theorem dX6_lends_26 : decode cX6_lends 26 = .ok (.iaload, 1) := by decide +kernel
theorem dX6_lends_27 : decode cX6_lends 27 = .ok (.iastore, 1) := by decide +kernel
theorem dX6_lends_28 : decode cX6_lends 28 = .ok (.iinc 1 1, 3) := by decide +kernel
theorem dX6_lends_31 : decode cX6_lends 31 = .ok (.goto (-24), 3) := by decide +kernel
theorem dX6_lends_34 : decode cX6_lends 34 = .ok (.aload_n 0, 1) := by decide +kernel
theorem dX6_lends_35 : decode cX6_lends 35 = .ok (.bipush 41, 2) := by decide +kernel
theorem dX6_lends_37 : decode cX6_lends 37 = .ok (.putfield 90, 3) := by decide +kernel
theorem dX6_lends_40 : decode cX6_lends 40 = .ok (.return_, 1) := by decide +kernel
theorem dX6_fall_0 : decode cX6_fall 0 = .ok (.aload_n 0, 1) := by decide +kernel
theorem dX6_fall_1 : decode cX6_fall 1 = .ok (.invokevirtual 184, 3) := by decide +kernel
theorem dX6_fall_4 : decode cX6_fall 4 = .ok (.aload_n 0, 1) := by decide +kernel
theorem dX6_fall_5 : decode cX6_fall 5 = .ok (.getfield 171, 3) := by decide +kernel
theorem dX6_fall_8 : decode cX6_fall 8 = .ok (.ireturn, 1) := by decide +kernel
theorem dX6_wouldFall_0 : decode cX6_wouldFall 0 = .ok (.iload_n 1, 1) := by decide +kernel
theorem dX6_wouldFall_1 : decode cX6_wouldFall 1 = .ok (.iconst 0, 1) := by decide +kernel
theorem dX6_wouldFall_2 : decode cX6_wouldFall 2 = .ok (.iconst 3, 1) := by decide +kernel
theorem dX6_wouldFall_3 : decode cX6_wouldFall 3 = .ok (.invokestatic 79, 3) := by decide +kernel
theorem dX6_wouldFall_6 : decode cX6_wouldFall 6 = .ok (.ifCond .ne 10, 3) := by decide +kernel
theorem dX6_wouldFall_9 : decode cX6_wouldFall 9 = .ok (.aload_n 0, 1) := by decide +kernel
theorem dX6_wouldFall_10 : decode cX6_wouldFall 10 = .ok (.ldc 78, 2) := by decide +kernel
theorem dX6_wouldFall_12 : decode cX6_wouldFall 12 = .ok (.invokevirtual 125, 3) := by decide +kernel
theorem dX6_wouldFall_15 : decode cX6_wouldFall 15 = .ok (.ireturn, 1) := by decide +kernel
theorem dX6_wouldFall_16 : decode cX6_wouldFall 16 = .ok (.aload_n 0, 1) := by decide +kernel
theorem dX6_wouldFall_17 : decode cX6_wouldFall 17 = .ok (.invokevirtual 187, 3) := by decide +kernel
theorem dX6_wouldFall_20 : decode cX6_wouldFall 20 = .ok (.istore_n 2, 1) := by decide +kernel
theorem dX6_wouldFall_21 : decode cX6_wouldFall 21 = .ok (.aload_n 0, 1) := by decide +kernel
theorem dX6_wouldFall_22 : decode cX6_wouldFall 22 = .ok (.invokevirtual 190, 3) := by decide +kernel
theorem dX6_wouldFall_25 : decode cX6_wouldFall 25 = .ok (.aload_n 0, 1) := by decide +kernel
theorem dX6_wouldFall_26 : decode cX6_wouldFall 26 = .ok (.invokevirtual 184, 3) := by decide +kernel
theorem dX6_wouldFall_29 : decode cX6_wouldFall 29 = .ok (.aload_n 0, 1) := by decide +kernel
theorem dX6_wouldFall_30 : decode cX6_wouldFall 30 = .ok (.invokevirtual 187, 3) := by decide +kernel
theorem dX6_wouldFall_33 : decode cX6_wouldFall 33 = .ok (.iload_n 2, 1) := by decide +kernel
theorem dX6_wouldFall_34 : decode cX6_wouldFall 34 = .ok (.iconst (-1), 1) := by decide +kernel
theorem dX6_wouldFall_35 : decode cX6_wouldFall 35 = .ok (.ixor, 1) := by decide +kernel
theorem dX6_wouldFall_36 : decode cX6_wouldFall 36 = .ok (.iand, 1) := by decide +kernel
theorem dX6_wouldFall_37 : decode cX6_wouldFall 37 = .ok (.istore_n 3, 1) := by decide +kernel
theorem dX6_wouldFall_38 : decode cX6_wouldFall 38 = .ok (.aload_n 0, 1) := by decide +kernel
theorem dX6_wouldFall_39 : decode cX6_wouldFall 39 = .ok (.iconst 0, 1) := by decide +kernel
theorem dX6_wouldFall_40 : decode cX6_wouldFall 40 = .ok (.putfield 90, 3) := by decide +kernel
theorem dX6_wouldFall_43 : decode cX6_wouldFall 43 = .ok (.iload_n 1, 1) := by decide +kernel
theorem dX6_wouldFall_44 : decode cX6_wouldFall 44 = .ok (.ifCond .ne 10, 3) := by decide +kernel
theorem dX6_wouldFall_47 : decode cX6_wouldFall 47 = .ok (.aload_n 0, 1) := by decide +kernel
theorem dX6_wouldFall_48 : decode cX6_wouldFall 48 = .ok (.getfield 171, 3) := by decide +kernel
theorem dX6_wouldFall_51 : decode cX6_wouldFall 51 = .ok (.goto 28, 3) := by decide +kernel
theorem dX6_wouldFall_54 : decode cX6_wouldFall 54 = .ok (.iload_n 1, 1) := by decide +kernel
theorem dX6_wouldFall_55 : decode cX6_wouldFall 55 = .ok (.iconst 1, 1) := by decide +kernel
theorem dX6_wouldFall_56 : decode cX6_wouldFall 56 = .ok (.if_icmp .ne 10, 3) := by decide +kernel
theorem dX6_wouldFall_59 : decode cX6_wouldFall 59 = .ok (.aload_n 0, 1) := by decide +kernel
theorem dX6_wouldFall_60 : decode cX6_wouldFall 60 = .ok (.getfield 177, 3) := by decide +kernel
theorem dX6_wouldFall_63 : decode cX6_wouldFall 63 = .ok (.goto 16, 3) := by decide +kernel
theorem dX6_wouldFall_66 : decode cX6_wouldFall 66 = .ok (.iload_n 1, 1) := by decide +kernel
theorem dX6_wouldFall_67 : decode cX6_wouldFall 67 = .ok (.iconst 2, 1) := by decide +kernel
theorem dX6_wouldFall_68 : decode cX6_wouldFall 68 = .ok (.if_icmp .ne 7, 3) := by decide +kernel
theorem dX6_wouldFall_71 : decode cX6_wouldFall 71 = .ok (.iload_n 3, 1) := by decide +kernel
theorem dX6_wouldFall_72 : decode cX6_wouldFall 72 = .ok (.goto 7, 3) := by decide +kernel
theorem dX6_wouldFall_75 : decode cX6_wouldFall 75 = .ok (.aload_n 0, 1) := by decide +kernel
theorem dX6_wouldFall_76 : decode cX6_wouldFall 76 = .ok (.getfield 174, 3) := by decide +kernel
theorem dX6_wouldFall_79 : decode cX6_wouldFall 79 = .ok (.ireturn, 1) := by decide +kernel
theorem dX6_pullsDown_0 : decode cX6_pullsDown 0 = .ok (.aload_n 0, 1) := by decide +kernel
theorem dX6_pullsDown_1 : decode cX6_pullsDown 1 = .ok (.invokevirtual 190, 3) := by decide +kernel
theorem dX6_pullsDown_4 : decode cX6_pullsDown 4 = .ok (.aload_n 0, 1) := by decide +kernel
theorem dX6_pullsDown_5 : decode cX6_pullsDown 5 = .ok (.iload_n 1, 1) := by decide +kernel
theorem dX6_pullsDown_6 : decode cX6_pullsDown 6 = .ok (.invokevirtual 180, 3) := by decide +kernel
theorem dX6_pullsDown_9 : decode cX6_pullsDown 9 = .ok (.aload_n 0, 1) := by decide +kernel
theorem dX6_pullsDown_10 : decode cX6_pullsDown 10 = .ok (.invokevirtual 184, 3) := by decide +kernel
theorem dX6_pullsDown_13 : decode cX6_pullsDown 13 = .ok (.aload_n 0, 1) := by decide +kernel
theorem dX6_pullsDown_14 : decode cX6_pullsDown 14 = .ok (.iconst 0, 1) := by decide +kernel
theorem dX6_pullsDown_15 : decode cX6_pullsDown 15 = .ok (.putfield 90, 3) := by decide +kernel
theorem dX6_pullsDown_18 : decode cX6_pullsDown 18 = .ok (.aload_n 0, 1) := by decide +kernel
theorem dX6_pullsDown_19 : decode cX6_pullsDown 19 = .ok (.getfield 177, 3) := by decide +kernel
theorem dX6_pullsDown_22 : decode cX6_pullsDown 22 = .ok (.iconst 1, 1) := by decide +kernel
theorem dX6_pullsDown_23 : decode cX6_pullsDown 23 = .ok (.iload_n 1, 1) := by decide +kernel
theorem dX6_pullsDown_24 : decode cX6_pullsDown 24 = .ok (.ishl, 1) := by decide +kernel
theorem dX6_pullsDown_25 : decode cX6_pullsDown 25 = .ok (.ior, 1) := by decide +kernel
theorem dX6_pullsDown_26 : decode cX6_pullsDown 26 = .ok (.ireturn, 1) := by decide +kernel
theorem dX6_pulls_0 : decode cX6_pulls 0 = .ok (.aload_n 0, 1) := by decide +kernel
theorem dX6_pulls_1 : decode cX6_pulls 1 = .ok (.iload_n 1, 1) := by decide +kernel
theorem dX6_pulls_2 : decode cX6_pulls 2 = .ok (.invokevirtual 158, 3) := by decide +kernel
theorem dX6_pulls_5 : decode cX6_pulls 5 = .ok (.ifCond .ne 10, 3) := by decide +kernel
theorem dX6_pulls_8 : decode cX6_pulls 8 = .ok (.aload_n 0, 1) := by decide +kernel
theorem dX6_pulls_9 : decode cX6_pulls 9 = .ok (.ldc 78, 2) := by decide +kernel
theorem dX6_pulls_11 : decode cX6_pulls 11 = .ok (.invokevirtual 125, 3) := by decide +kernel
theorem dX6_pulls_14 : decode cX6_pulls 14 = .ok (.ireturn, 1) := by decide +kernel
theorem dX6_pulls_15 : decode cX6_pulls 15 = .ok (.aload_n 0, 1) := by decide +kernel
theorem dX6_pulls_16 : decode cX6_pulls 16 = .ok (.iload_n 1, 1) := by decide +kernel
theorem dX6_pulls_17 : decode cX6_pulls 17 = .ok (.invokevirtual 113, 3) := by decide +kernel
theorem dX6_pulls_20 : decode cX6_pulls 20 = .ok (.ifCond .eq 11, 3) := by decide +kernel
theorem dX6_pulls_23 : decode cX6_pulls 23 = .ok (.aload_n 0, 1) := by decide +kernel
theorem dX6_pulls_24 : decode cX6_pulls 24 = .ok (.iload_n 1, 1) := by decide +kernel
theorem dX6_pulls_25 : decode cX6_pulls 25 = .ok (.invokevirtual 193, 3) := by decide +kernel
theorem dX6_pulls_28 : decode cX6_pulls 28 = .ok (.goto 9, 3) := by decide +kernel
theorem dX6_pulls_31 : decode cX6_pulls 31 = .ok (.aload_n 0, 1) := by decide +kernel
theorem dX6_pulls_32 : decode cX6_pulls 32 = .ok (.ldc 139, 2) := by decide +kernel
theorem dX6_pulls_34 : decode cX6_pulls 34 = .ok (.invokevirtual 125, 3) := by decide +kernel
theorem dX6_pulls_37 : decode cX6_pulls 37 = .ok (.ireturn, 1) := by decide +kernel
theorem dX6_keystone_0 : decode cX6_keystone 0 = .ok (.iconst (-1), 1) := by decide +kernel
theorem dX6_keystone_1 : decode cX6_keystone 1 = .ok (.istore_n 1, 1) := by decide +kernel
theorem dX6_keystone_2 : decode cX6_keystone 2 = .ok (.iconst 0, 1) := by decide +kernel
theorem dX6_keystone_3 : decode cX6_keystone 3 = .ok (.istore_n 2, 1) := by decide +kernel
theorem dX6_keystone_4 : decode cX6_keystone 4 = .ok (.iconst 0, 1) := by decide +kernel
theorem dX6_keystone_5 : decode cX6_keystone 5 = .ok (.istore_n 3, 1) := by decide +kernel
theorem dX6_keystone_6 : decode cX6_keystone 6 = .ok (.iload_n 3, 1) := by decide +kernel
theorem dX6_keystone_7 : decode cX6_keystone 7 = .ok (.aload_n 0, 1) := by decide +kernel
theorem dX6_keystone_8 : decode cX6_keystone 8 = .ok (.getfield 87, 3) := by decide +kernel
theorem dX6_keystone_11 : decode cX6_keystone 11 = .ok (.if_icmp .ge 56, 3) := by decide +kernel
theorem dX6_keystone_14 : decode cX6_keystone 14 = .ok (.aload_n 0, 1) := by decide +kernel
theorem dX6_keystone_15 : decode cX6_keystone 15 = .ok (.iload_n 3, 1) := by decide +kernel
theorem dX6_keystone_16 : decode cX6_keystone 16 = .ok (.invokevirtual 113, 3) := by decide +kernel
theorem dX6_keystone_19 : decode cX6_keystone 19 = .ok (.ifCond .eq 14, 3) := by decide +kernel
theorem dX6_keystone_22 : decode cX6_keystone 22 = .ok (.aload_n 0, 1) := by decide +kernel
theorem dX6_keystone_23 : decode cX6_keystone 23 = .ok (.iload_n 3, 1) := by decide +kernel
theorem dX6_keystone_24 : decode cX6_keystone 24 = .ok (.invokevirtual 193, 3) := by decide +kernel
theorem dX6_keystone_27 : decode cX6_keystone 27 = .ok (.invokestatic 149, 3) := by decide +kernel
theorem dX6_keystone_30 : decode cX6_keystone 30 = .ok (.goto 4, 3) := by decide +kernel
theorem dX6_keystone_33 : decode cX6_keystone 33 = .ok (.iconst 0, 1) := by decide +kernel
theorem dX6_keystone_34 : decode cX6_keystone 34 = .ok (.istore 4, 2) := by decide +kernel
theorem dX6_keystone_36 : decode cX6_keystone 36 = .ok (.iload 4, 2) := by decide +kernel
theorem dX6_keystone_38 : decode cX6_keystone 38 = .ok (.iload_n 2, 1) := by decide +kernel
theorem dX6_keystone_39 : decode cX6_keystone 39 = .ok (.if_icmp .le 7, 3) := by decide +kernel
theorem dX6_keystone_42 : decode cX6_keystone 42 = .ok (.iload_n 3, 1) := by decide +kernel
theorem dX6_keystone_43 : decode cX6_keystone 43 = .ok (.goto 4, 3) := by decide +kernel
theorem dX6_keystone_46 : decode cX6_keystone 46 = .ok (.iload_n 1, 1) := by decide +kernel
theorem dX6_keystone_47 : decode cX6_keystone 47 = .ok (.istore_n 1, 1) := by decide +kernel
theorem dX6_keystone_48 : decode cX6_keystone 48 = .ok (.iload 4, 2) := by decide +kernel
theorem dX6_keystone_50 : decode cX6_keystone 50 = .ok (.iload_n 2, 1) := by decide +kernel
theorem dX6_keystone_51 : decode cX6_keystone 51 = .ok (.if_icmp .le 8, 3) := by decide +kernel
theorem dX6_keystone_54 : decode cX6_keystone 54 = .ok (.iload 4, 2) := by decide +kernel
theorem dX6_keystone_56 : decode cX6_keystone 56 = .ok (.goto 4, 3) := by decide +kernel
theorem dX6_keystone_59 : decode cX6_keystone 59 = .ok (.iload_n 2, 1) := by decide +kernel
theorem dX6_keystone_60 : decode cX6_keystone 60 = .ok (.istore_n 2, 1) := by decide +kernel
theorem dX6_keystone_61 : decode cX6_keystone 61 = .ok (.iinc 3 1, 3) := by decide +kernel
theorem dX6_keystone_64 : decode cX6_keystone 64 = .ok (.goto (-58), 3) := by decide +kernel
theorem dX6_keystone_67 : decode cX6_keystone 67 = .ok (.iload_n 1, 1) := by decide +kernel
theorem dX6_keystone_68 : decode cX6_keystone 68 = .ok (.ifCond .ge 12, 3) := by decide +kernel
theorem dX6_keystone_71 : decode cX6_keystone 71 = .ok (.aload_n 0, 1) := by decide +kernel
theorem dX6_keystone_72 : decode cX6_keystone 72 = .ok (.ldc 170, 2) := by decide +kernel
theorem dX6_keystone_74 : decode cX6_keystone 74 = .ok (.invokevirtual 125, 3) := by decide +kernel
theorem dX6_keystone_77 : decode cX6_keystone 77 = .ok (.goto 4, 3) := by decide +kernel
theorem dX6_keystone_80 : decode cX6_keystone 80 = .ok (.iload_n 1, 1) := by decide +kernel
theorem dX6_keystone_81 : decode cX6_keystone 81 = .ok (.ireturn, 1) := by decide +kernel
theorem dX6_brokenMany_0 : decode cX6_brokenMany 0 = .ok (.iconst 0, 1) := by decide +kernel
theorem dX6_brokenMany_1 : decode cX6_brokenMany 1 = .ok (.istore_n 1, 1) := by decide +kernel
theorem dX6_brokenMany_2 : decode cX6_brokenMany 2 = .ok (.iconst 0, 1) := by decide +kernel
theorem dX6_brokenMany_3 : decode cX6_brokenMany 3 = .ok (.istore_n 2, 1) := by decide +kernel
theorem dX6_brokenMany_4 : decode cX6_brokenMany 4 = .ok (.iload_n 2, 1) := by decide +kernel
theorem dX6_brokenMany_5 : decode cX6_brokenMany 5 = .ok (.aload_n 0, 1) := by decide +kernel
theorem dX6_brokenMany_6 : decode cX6_brokenMany 6 = .ok (.getfield 87, 3) := by decide +kernel
theorem dX6_brokenMany_9 : decode cX6_brokenMany 9 = .ok (.if_icmp .ge 26, 3) := by decide +kernel
theorem dX6_brokenMany_12 : decode cX6_brokenMany 12 = .ok (.iload_n 1, 1) := by decide +kernel
theorem dX6_brokenMany_13 : decode cX6_brokenMany 13 = .ok (.aload_n 0, 1) := by decide +kernel
theorem dX6_brokenMany_14 : decode cX6_brokenMany 14 = .ok (.getfield 34, 3) := by decide +kernel
theorem dX6_brokenMany_17 : decode cX6_brokenMany 17 = .ok (.aload_n 0, 1) := by decide +kernel
theorem dX6_brokenMany_18 : decode cX6_brokenMany 18 = .ok (.getfield 90, 3) := by decide +kernel
theorem dX6_brokenMany_21 : decode cX6_brokenMany 21 = .ok (.bipush 29, 2) := by decide +kernel
theorem dX6_brokenMany_23 : decode cX6_brokenMany 23 = .ok (.iadd, 1) := by decide +kernel
theorem dX6_brokenMany_24 : decode cX6_brokenMany 24 = .ok (.iload_n 2, 1) := by decide +kernel
theorem dX6_brokenMany_25 : decode cX6_brokenMany 25 = .ok (.iadd, 1) := by decide +kernel
theorem dX6_brokenMany_26 : decode cX6_brokenMany 26 = .ok (.iaload, 1) := by decide +kernel
theorem dX6_brokenMany_27 : decode cX6_brokenMany 27 = .ok (.iadd, 1) := by decide +kernel
theorem dX6_brokenMany_28 : decode cX6_brokenMany 28 = .ok (.istore_n 1, 1) := by decide +kernel
theorem dX6_brokenMany_29 : decode cX6_brokenMany 29 = .ok (.iinc 2 1, 3) := by decide +kernel
theorem dX6_brokenMany_32 : decode cX6_brokenMany 32 = .ok (.goto (-28), 3) := by decide +kernel
theorem dX6_brokenMany_35 : decode cX6_brokenMany 35 = .ok (.iload_n 1, 1) := by decide +kernel
theorem dX6_brokenMany_36 : decode cX6_brokenMany 36 = .ok (.ireturn, 1) := by decide +kernel
theorem dX6_go_0 : decode cX6_go 0 = .ok (.iconst 0, 1) := by decide +kernel
theorem dX6_go_1 : decode cX6_go 1 = .ok (.istore_n 2, 1) := by decide +kernel
theorem dX6_go_2 : decode cX6_go 2 = .ok (.iload_n 2, 1) := by decide +kernel
theorem dX6_go_3 : decode cX6_go 3 = .ok (.iload_n 1, 1) := by decide +kernel
theorem dX6_go_4 : decode cX6_go 4 = .ok (.if_icmp .ge 28, 3) := by decide +kernel
theorem dX6_go_7 : decode cX6_go 7 = .ok (.aload_n 0, 1) := by decide +kernel
theorem dX6_go_8 : decode cX6_go 8 = .ok (.invokevirtual 184, 3) := by decide +kernel
theorem dX6_go_11 : decode cX6_go 11 = .ok (.aload_n 0, 1) := by decide +kernel
theorem dX6_go_12 : decode cX6_go 12 = .ok (.getfield 34, 3) := by decide +kernel
theorem dX6_go_15 : decode cX6_go 15 = .ok (.aload_n 0, 1) := by decide +kernel
theorem dX6_go_16 : decode cX6_go 16 = .ok (.getfield 90, 3) := by decide +kernel
theorem dX6_go_19 : decode cX6_go 19 = .ok (.iconst 0, 1) := by decide +kernel
theorem dX6_go_20 : decode cX6_go 20 = .ok (.iadd, 1) := by decide +kernel
theorem dX6_go_21 : decode cX6_go 21 = .ok (.dup2, 1) := by decide +kernel
theorem dX6_go_22 : decode cX6_go 22 = .ok (.iaload, 1) := by decide +kernel
theorem dX6_go_23 : decode cX6_go 23 = .ok (.iconst 1, 1) := by decide +kernel
theorem dX6_go_24 : decode cX6_go 24 = .ok (.iadd, 1) := by decide +kernel
theorem dX6_go_25 : decode cX6_go 25 = .ok (.iastore, 1) := by decide +kernel
theorem dX6_go_26 : decode cX6_go 26 = .ok (.iinc 2 1, 3) := by decide +kernel
theorem dX6_go_29 : decode cX6_go 29 = .ok (.goto (-27), 3) := by decide +kernel
theorem dX6_go_32 : decode cX6_go 32 = .ok (.return_, 1) := by decide +kernel
theorem dX6_isLate_0 : decode cX6_isLate 0 = .ok (.aload_n 0, 1) := by decide +kernel
theorem dX6_isLate_1 : decode cX6_isLate 1 = .ok (.getfield 34, 3) := by decide +kernel
theorem dX6_isLate_4 : decode cX6_isLate 4 = .ok (.iconst 0, 1) := by decide +kernel
theorem dX6_isLate_5 : decode cX6_isLate 5 = .ok (.iaload, 1) := by decide +kernel
theorem dX6_isLate_6 : decode cX6_isLate 6 = .ok (.iload_n 1, 1) := by decide +kernel
theorem dX6_isLate_7 : decode cX6_isLate 7 = .ok (.iadd, 1) := by decide +kernel
theorem dX6_isLate_8 : decode cX6_isLate 8 = .ok (.sipush 999, 3) := by decide +kernel
theorem dX6_isLate_11 : decode cX6_isLate 11 = .ok (.if_icmp .le 7, 3) := by decide +kernel
theorem dX6_isLate_14 : decode cX6_isLate 14 = .ok (.iconst 1, 1) := by decide +kernel
theorem dX6_isLate_15 : decode cX6_isLate 15 = .ok (.goto 4, 3) := by decide +kernel
theorem dX6_isLate_18 : decode cX6_isLate 18 = .ok (.iconst 0, 1) := by decide +kernel
theorem dX6_isLate_19 : decode cX6_isLate 19 = .ok (.ireturn, 1) := by decide +kernel
theorem dX6_months_0 : decode cX6_months 0 = .ok (.iload_n 1, 1) := by decide +kernel
theorem dX6_months_1 : decode cX6_months 1 = .ok (.iconst 1, 1) := by decide +kernel
theorem dX6_months_2 : decode cX6_months 2 = .ok (.bipush 60, 2) := by decide +kernel
theorem dX6_months_4 : decode cX6_months 4 = .ok (.invokestatic 79, 3) := by decide +kernel
theorem dX6_months_7 : decode cX6_months 7 = .ok (.ifCond .ne 10, 3) := by decide +kernel
theorem dX6_months_10 : decode cX6_months 10 = .ok (.aload_n 0, 1) := by decide +kernel
theorem dX6_months_11 : decode cX6_months 11 = .ok (.ldc 78, 2) := by decide +kernel
theorem dX6_months_13 : decode cX6_months 13 = .ok (.invokevirtual 125, 3) := by decide +kernel
theorem dX6_months_16 : decode cX6_months 16 = .ok (.ireturn, 1) := by decide +kernel
theorem dX6_months_17 : decode cX6_months 17 = .ok (.aload_n 0, 1) := by decide +kernel
theorem dX6_months_18 : decode cX6_months 18 = .ok (.iload_n 1, 1) := by decide +kernel
theorem dX6_months_19 : decode cX6_months 19 = .ok (.invokevirtual 196, 3) := by decide +kernel
theorem dX6_months_22 : decode cX6_months 22 = .ok (.ifCond .eq 10, 3) := by decide +kernel
theorem dX6_months_25 : decode cX6_months 25 = .ok (.aload_n 0, 1) := by decide +kernel
theorem dX6_months_26 : decode cX6_months 26 = .ok (.ldc 139, 2) := by decide +kernel
theorem dX6_months_28 : decode cX6_months 28 = .ok (.invokevirtual 125, 3) := by decide +kernel
theorem dX6_months_31 : decode cX6_months 31 = .ok (.ireturn, 1) := by decide +kernel
theorem dX6_months_32 : decode cX6_months 32 = .ok (.aload_n 0, 1) := by decide +kernel
theorem dX6_months_33 : decode cX6_months 33 = .ok (.invokevirtual 199, 3) := by decide +kernel
theorem dX6_months_36 : decode cX6_months 36 = .ok (.istore_n 2, 1) := by decide +kernel
theorem dX6_months_37 : decode cX6_months 37 = .ok (.aload_n 0, 1) := by decide +kernel
theorem dX6_months_38 : decode cX6_months 38 = .ok (.iload_n 1, 1) := by decide +kernel
theorem dX6_months_39 : decode cX6_months 39 = .ok (.invokevirtual 202, 3) := by decide +kernel
theorem dX6_months_42 : decode cX6_months 42 = .ok (.aload_n 0, 1) := by decide +kernel
theorem dX6_months_43 : decode cX6_months 43 = .ok (.invokevirtual 199, 3) := by decide +kernel
theorem dX6_months_46 : decode cX6_months 46 = .ok (.iload_n 2, 1) := by decide +kernel
theorem dX6_months_47 : decode cX6_months 47 = .ok (.isub, 1) := by decide +kernel
theorem dX6_months_48 : decode cX6_months 48 = .ok (.ireturn, 1) := by decide +kernel
theorem dX6_now_0 : decode cX6_now 0 = .ok (.iconst 0, 1) := by decide +kernel
theorem dX6_now_1 : decode cX6_now 1 = .ok (.istore_n 2, 1) := by decide +kernel
theorem dX6_now_2 : decode cX6_now 2 = .ok (.iload_n 1, 1) := by decide +kernel
theorem dX6_now_3 : decode cX6_now 3 = .ok (.tableswitch 108 0 4 #[33, 40, 48, 53, 66], 33) := by decide +kernel
theorem dX6_now_36 : decode cX6_now 36 = .ok (.aload_n 0, 1) := by decide +kernel
theorem dX6_now_37 : decode cX6_now 37 = .ok (.getfield 34, 3) := by decide +kernel
theorem dX6_now_40 : decode cX6_now 40 = .ok (.iconst 0, 1) := by decide +kernel
theorem dX6_now_41 : decode cX6_now 41 = .ok (.iaload, 1) := by decide +kernel
theorem dX6_now_42 : decode cX6_now 42 = .ok (.ireturn, 1) := by decide +kernel
theorem dX6_now_43 : decode cX6_now 43 = .ok (.aload_n 0, 1) := by decide +kernel
theorem dX6_now_44 : decode cX6_now 44 = .ok (.invokevirtual 205, 3) := by decide +kernel
theorem dX6_now_47 : decode cX6_now 47 = .ok (.invokestatic 149, 3) := by decide +kernel
theorem dX6_now_50 : decode cX6_now 50 = .ok (.ireturn, 1) := by decide +kernel
theorem dX6_now_51 : decode cX6_now 51 = .ok (.aload_n 0, 1) := by decide +kernel
theorem dX6_now_52 : decode cX6_now 52 = .ok (.invokevirtual 199, 3) := by decide +kernel
theorem dX6_now_55 : decode cX6_now 55 = .ok (.ireturn, 1) := by decide +kernel
theorem dX6_now_56 : decode cX6_now 56 = .ok (.aload_n 0, 1) := by decide +kernel
theorem dX6_now_57 : decode cX6_now 57 = .ok (.getfield 83, 3) := by decide +kernel
theorem dX6_now_60 : decode cX6_now 60 = .ok (.aload_n 0, 1) := by decide +kernel
theorem dX6_now_61 : decode cX6_now 61 = .ok (.invokevirtual 187, 3) := by decide +kernel
theorem dX6_now_64 : decode cX6_now 64 = .ok (.invokestatic 149, 3) := by decide +kernel
theorem dX6_now_67 : decode cX6_now 67 = .ok (.isub, 1) := by decide +kernel
theorem dX6_now_68 : decode cX6_now 68 = .ok (.ireturn, 1) := by decide +kernel
theorem dX6_now_69 : decode cX6_now 69 = .ok (.iconst 0, 1) := by decide +kernel
theorem dX6_now_70 : decode cX6_now 70 = .ok (.istore_n 3, 1) := by decide +kernel
theorem dX6_now_71 : decode cX6_now 71 = .ok (.iload_n 3, 1) := by decide +kernel
theorem dX6_now_72 : decode cX6_now 72 = .ok (.aload_n 0, 1) := by decide +kernel
theorem dX6_now_73 : decode cX6_now 73 = .ok (.getfield 83, 3) := by decide +kernel
theorem dX6_now_76 : decode cX6_now 76 = .ok (.if_icmp .ge 33, 3) := by decide +kernel
theorem dX6_now_79 : decode cX6_now 79 = .ok (.iload_n 2, 1) := by decide +kernel
theorem dX6_now_80 : decode cX6_now 80 = .ok (.aload_n 0, 1) := by decide +kernel
theorem dX6_now_81 : decode cX6_now 81 = .ok (.iload_n 3, 1) := by decide +kernel
theorem dX6_now_82 : decode cX6_now 82 = .ok (.invokevirtual 97, 3) := by decide +kernel
theorem dX6_now_85 : decode cX6_now 85 = .ok (.ifCond .eq 15, 3) := by decide +kernel
theorem dX6_now_88 : decode cX6_now 88 = .ok (.aload_n 0, 1) := by decide +kernel
theorem dX6_now_89 : decode cX6_now 89 = .ok (.iload_n 3, 1) := by decide +kernel
theorem dX6_now_90 : decode cX6_now 90 = .ok (.invokevirtual 101, 3) := by decide +kernel
theorem dX6_now_93 : decode cX6_now 93 = .ok (.ifCond .eq 7, 3) := by decide +kernel
theorem dX6_now_96 : decode cX6_now 96 = .ok (.iconst 1, 1) := by decide +kernel
theorem dX6_now_97 : decode cX6_now 97 = .ok (.goto 4, 3) := by decide +kernel
theorem dX6_now_100 : decode cX6_now 100 = .ok (.iconst 0, 1) := by decide +kernel
theorem dX6_now_101 : decode cX6_now 101 = .ok (.iadd, 1) := by decide +kernel
theorem dX6_now_102 : decode cX6_now 102 = .ok (.istore_n 2, 1) := by decide +kernel
theorem dX6_now_103 : decode cX6_now 103 = .ok (.iinc 3 1, 3) := by decide +kernel
theorem dX6_now_106 : decode cX6_now 106 = .ok (.goto (-35), 3) := by decide +kernel
theorem dX6_now_109 : decode cX6_now 109 = .ok (.iload_n 2, 1) := by decide +kernel
theorem dX6_now_110 : decode cX6_now 110 = .ok (.ireturn, 1) := by decide +kernel
theorem dX6_now_111 : decode cX6_now 111 = .ok (.aload_n 0, 1) := by decide +kernel
theorem dX6_now_112 : decode cX6_now 112 = .ok (.ldc 78, 2) := by decide +kernel
theorem dX6_now_114 : decode cX6_now 114 = .ok (.invokevirtual 125, 3) := by decide +kernel
theorem dX6_now_117 : decode cX6_now 117 = .ok (.ireturn, 1) := by decide +kernel
theorem dX6_on_0 : decode cX6_on 0 = .ok (.iload_n 1, 1) := by decide +kernel
theorem dX6_on_1 : decode cX6_on 1 = .ok (.iconst 0, 1) := by decide +kernel
theorem dX6_on_2 : decode cX6_on 2 = .ok (.bipush 120, 2) := by decide +kernel
theorem dX6_on_4 : decode cX6_on 4 = .ok (.invokestatic 79, 3) := by decide +kernel
theorem dX6_on_7 : decode cX6_on 7 = .ok (.ifCond .ne 10, 3) := by decide +kernel
theorem dX6_on_10 : decode cX6_on 10 = .ok (.aload_n 0, 1) := by decide +kernel
theorem dX6_on_11 : decode cX6_on 11 = .ok (.ldc 78, 2) := by decide +kernel
theorem dX6_on_13 : decode cX6_on 13 = .ok (.invokevirtual 125, 3) := by decide +kernel
theorem dX6_on_16 : decode cX6_on 16 = .ok (.ireturn, 1) := by decide +kernel
theorem dX6_on_17 : decode cX6_on 17 = .ok (.aload_n 0, 1) := by decide +kernel
theorem dX6_on_18 : decode cX6_on 18 = .ok (.iload_n 1, 1) := by decide +kernel
theorem dX6_on_19 : decode cX6_on 19 = .ok (.invokevirtual 196, 3) := by decide +kernel
theorem dX6_on_22 : decode cX6_on 22 = .ok (.ifCond .eq 10, 3) := by decide +kernel
theorem dX6_on_25 : decode cX6_on 25 = .ok (.aload_n 0, 1) := by decide +kernel
theorem dX6_on_26 : decode cX6_on 26 = .ok (.ldc 139, 2) := by decide +kernel
theorem dX6_on_28 : decode cX6_on 28 = .ok (.invokevirtual 125, 3) := by decide +kernel
theorem dX6_on_31 : decode cX6_on 31 = .ok (.ireturn, 1) := by decide +kernel
theorem dX6_on_32 : decode cX6_on 32 = .ok (.aload_n 0, 1) := by decide +kernel
theorem dX6_on_33 : decode cX6_on 33 = .ok (.invokevirtual 190, 3) := by decide +kernel
theorem dX6_on_36 : decode cX6_on 36 = .ok (.aload_n 0, 1) := by decide +kernel
theorem dX6_on_37 : decode cX6_on 37 = .ok (.iload_n 1, 1) := by decide +kernel
theorem dX6_on_38 : decode cX6_on 38 = .ok (.invokevirtual 202, 3) := by decide +kernel
theorem dX6_on_41 : decode cX6_on 41 = .ok (.aload_n 0, 1) := by decide +kernel
theorem dX6_on_42 : decode cX6_on 42 = .ok (.invokevirtual 205, 3) := by decide +kernel
theorem dX6_on_45 : decode cX6_on 45 = .ok (.istore_n 2, 1) := by decide +kernel
theorem dX6_on_46 : decode cX6_on 46 = .ok (.aload_n 0, 1) := by decide +kernel
theorem dX6_on_47 : decode cX6_on 47 = .ok (.iconst 0, 1) := by decide +kernel
theorem dX6_on_48 : decode cX6_on 48 = .ok (.putfield 90, 3) := by decide +kernel
theorem dX6_on_51 : decode cX6_on 51 = .ok (.iload_n 2, 1) := by decide +kernel
theorem dX6_on_52 : decode cX6_on 52 = .ok (.ireturn, 1) := by decide +kernel
theorem dX6_findsOne_0 : decode cX6_findsOne 0 = .ok (.iconst 0, 1) := by decide +kernel
theorem dX6_findsOne_1 : decode cX6_findsOne 1 = .ok (.istore_n 1, 1) := by decide +kernel
theorem dX6_findsOne_2 : decode cX6_findsOne 2 = .ok (.iload_n 1, 1) := by decide +kernel
theorem dX6_findsOne_3 : decode cX6_findsOne 3 = .ok (.bipush 6, 2) := by decide +kernel
theorem dX6_findsOne_5 : decode cX6_findsOne 5 = .ok (.aload_n 0, 1) := by decide +kernel
theorem dX6_findsOne_6 : decode cX6_findsOne 6 = .ok (.getfield 83, 3) := by decide +kernel
theorem dX6_findsOne_9 : decode cX6_findsOne 9 = .ok (.imul, 1) := by decide +kernel
theorem dX6_findsOne_10 : decode cX6_findsOne 10 = .ok (.if_icmp .ge 93, 3) := by decide +kernel
theorem dX6_findsOne_13 : decode cX6_findsOne 13 = .ok (.iload_n 1, 1) := by decide +kernel
theorem dX6_findsOne_14 : decode cX6_findsOne 14 = .ok (.bipush 6, 2) := by decide +kernel
theorem dX6_findsOne_16 : decode cX6_findsOne 16 = .ok (.idiv, 1) := by decide +kernel
theorem dX6_findsOne_17 : decode cX6_findsOne 17 = .ok (.istore_n 2, 1) := by decide +kernel
theorem dX6_findsOne_18 : decode cX6_findsOne 18 = .ok (.aload_n 0, 1) := by decide +kernel
theorem dX6_findsOne_19 : decode cX6_findsOne 19 = .ok (.iload_n 2, 1) := by decide +kernel
theorem dX6_findsOne_20 : decode cX6_findsOne 20 = .ok (.invokevirtual 93, 3) := by decide +kernel
theorem dX6_findsOne_23 : decode cX6_findsOne 23 = .ok (.istore_n 3, 1) := by decide +kernel
theorem dX6_findsOne_24 : decode cX6_findsOne 24 = .ok (.aload_n 0, 1) := by decide +kernel
theorem dX6_findsOne_25 : decode cX6_findsOne 25 = .ok (.iload_n 2, 1) := by decide +kernel
theorem dX6_findsOne_26 : decode cX6_findsOne 26 = .ok (.invokevirtual 97, 3) := by decide +kernel
theorem dX6_findsOne_29 : decode cX6_findsOne 29 = .ok (.ifCond .eq 68, 3) := by decide +kernel
theorem dX6_findsOne_32 : decode cX6_findsOne 32 = .ok (.iload_n 1, 1) := by decide +kernel
theorem dX6_findsOne_33 : decode cX6_findsOne 33 = .ok (.bipush 6, 2) := by decide +kernel
theorem dX6_findsOne_35 : decode cX6_findsOne 35 = .ok (.irem, 1) := by decide +kernel
theorem dX6_findsOne_36 : decode cX6_findsOne 36 = .ok (.iload_n 3, 1) := by decide +kernel
theorem dX6_findsOne_37 : decode cX6_findsOne 37 = .ok (.if_icmp .eq 60, 3) := by decide +kernel
theorem dX6_findsOne_40 : decode cX6_findsOne 40 = .ok (.aload_n 0, 1) := by decide +kernel
theorem dX6_findsOne_41 : decode cX6_findsOne 41 = .ok (.getfield 34, 3) := by decide +kernel
theorem dX6_findsOne_44 : decode cX6_findsOne 44 = .ok (.aload_n 0, 1) := by decide +kernel
theorem dX6_findsOne_45 : decode cX6_findsOne 45 = .ok (.getfield 90, 3) := by decide +kernel
theorem dX6_findsOne_48 : decode cX6_findsOne 48 = .ok (.iconst 1, 1) := by decide +kernel
theorem dX6_findsOne_49 : decode cX6_findsOne 49 = .ok (.iadd, 1) := by decide +kernel
theorem dX6_findsOne_50 : decode cX6_findsOne 50 = .ok (.iload_n 2, 1) := by decide +kernel
theorem dX6_findsOne_51 : decode cX6_findsOne 51 = .ok (.iadd, 1) := by decide +kernel
theorem dX6_findsOne_52 : decode cX6_findsOne 52 = .ok (.iload_n 1, 1) := by decide +kernel
theorem dX6_findsOne_53 : decode cX6_findsOne 53 = .ok (.bipush 6, 2) := by decide +kernel
theorem dX6_findsOne_55 : decode cX6_findsOne 55 = .ok (.irem, 1) := by decide +kernel
theorem dX6_findsOne_56 : decode cX6_findsOne 56 = .ok (.iastore, 1) := by decide +kernel
theorem dX6_findsOne_57 : decode cX6_findsOne 57 = .ok (.aload_n 0, 1) := by decide +kernel
theorem dX6_findsOne_58 : decode cX6_findsOne 58 = .ok (.invokevirtual 145, 3) := by decide +kernel
theorem dX6_findsOne_61 : decode cX6_findsOne 61 = .ok (.ifCond .ne 7, 3) := by decide +kernel
theorem dX6_findsOne_64 : decode cX6_findsOne 64 = .ok (.iconst 1, 1) := by decide +kernel
theorem dX6_findsOne_65 : decode cX6_findsOne 65 = .ok (.goto 4, 3) := by decide +kernel
theorem dX6_findsOne_68 : decode cX6_findsOne 68 = .ok (.iconst 0, 1) := by decide +kernel
theorem dX6_findsOne_69 : decode cX6_findsOne 69 = .ok (.istore 4, 2) := by decide +kernel
theorem dX6_findsOne_71 : decode cX6_findsOne 71 = .ok (.aload_n 0, 1) := by decide +kernel
theorem dX6_findsOne_72 : decode cX6_findsOne 72 = .ok (.getfield 34, 3) := by decide +kernel
theorem dX6_findsOne_75 : decode cX6_findsOne 75 = .ok (.aload_n 0, 1) := by decide +kernel
theorem dX6_findsOne_76 : decode cX6_findsOne 76 = .ok (.getfield 90, 3) := by decide +kernel
theorem dX6_findsOne_79 : decode cX6_findsOne 79 = .ok (.iconst 1, 1) := by decide +kernel
theorem dX6_findsOne_80 : decode cX6_findsOne 80 = .ok (.iadd, 1) := by decide +kernel
theorem dX6_findsOne_81 : decode cX6_findsOne 81 = .ok (.iload_n 2, 1) := by decide +kernel
theorem dX6_findsOne_82 : decode cX6_findsOne 82 = .ok (.iadd, 1) := by decide +kernel
theorem dX6_findsOne_83 : decode cX6_findsOne 83 = .ok (.iload_n 3, 1) := by decide +kernel
theorem dX6_findsOne_84 : decode cX6_findsOne 84 = .ok (.iastore, 1) := by decide +kernel
theorem dX6_findsOne_85 : decode cX6_findsOne 85 = .ok (.iload 4, 2) := by decide +kernel
theorem dX6_findsOne_87 : decode cX6_findsOne 87 = .ok (.ifCond .eq 10, 3) := by decide +kernel
theorem dX6_findsOne_90 : decode cX6_findsOne 90 = .ok (.aload_n 0, 1) := by decide +kernel
theorem dX6_findsOne_91 : decode cX6_findsOne 91 = .ok (.iload_n 1, 1) := by decide +kernel
theorem dX6_findsOne_92 : decode cX6_findsOne 92 = .ok (.putfield 208, 3) := by decide +kernel
theorem dX6_findsOne_95 : decode cX6_findsOne 95 = .ok (.iconst 1, 1) := by decide +kernel
theorem dX6_findsOne_96 : decode cX6_findsOne 96 = .ok (.ireturn, 1) := by decide +kernel
theorem dX6_findsOne_97 : decode cX6_findsOne 97 = .ok (.iinc 1 1, 3) := by decide +kernel
theorem dX6_findsOne_100 : decode cX6_findsOne 100 = .ok (.goto (-98), 3) := by decide +kernel
theorem dX6_findsOne_103 : decode cX6_findsOne 103 = .ok (.iconst 0, 1) := by decide +kernel
theorem dX6_findsOne_104 : decode cX6_findsOne 104 = .ok (.ireturn, 1) := by decide +kernel
theorem dX6_findsBehind_0 : decode cX6_findsBehind 0 = .ok (.bipush 6, 2) := by decide +kernel
theorem dX6_findsBehind_2 : decode cX6_findsBehind 2 = .ok (.iload_n 1, 1) := by decide +kernel
theorem dX6_findsBehind_3 : decode cX6_findsBehind 3 = .ok (.iconst 1, 1) := by decide +kernel
theorem dX6_findsBehind_4 : decode cX6_findsBehind 4 = .ok (.iadd, 1) := by decide +kernel
theorem dX6_findsBehind_5 : decode cX6_findsBehind 5 = .ok (.imul, 1) := by decide +kernel
theorem dX6_findsBehind_6 : decode cX6_findsBehind 6 = .ok (.istore_n 2, 1) := by decide +kernel
theorem dX6_findsBehind_7 : decode cX6_findsBehind 7 = .ok (.iload_n 2, 1) := by decide +kernel
theorem dX6_findsBehind_8 : decode cX6_findsBehind 8 = .ok (.bipush 6, 2) := by decide +kernel
theorem dX6_findsBehind_10 : decode cX6_findsBehind 10 = .ok (.aload_n 0, 1) := by decide +kernel
theorem dX6_findsBehind_11 : decode cX6_findsBehind 11 = .ok (.getfield 83, 3) := by decide +kernel
theorem dX6_findsBehind_14 : decode cX6_findsBehind 14 = .ok (.imul, 1) := by decide +kernel
theorem dX6_findsBehind_15 : decode cX6_findsBehind 15 = .ok (.if_icmp .ge 96, 3) := by decide +kernel
theorem dX6_findsBehind_18 : decode cX6_findsBehind 18 = .ok (.iload_n 2, 1) := by decide +kernel
theorem dX6_findsBehind_19 : decode cX6_findsBehind 19 = .ok (.bipush 6, 2) := by decide +kernel
theorem dX6_findsBehind_21 : decode cX6_findsBehind 21 = .ok (.idiv, 1) := by decide +kernel
theorem dX6_findsBehind_22 : decode cX6_findsBehind 22 = .ok (.istore_n 3, 1) := by decide +kernel
theorem dX6_findsBehind_23 : decode cX6_findsBehind 23 = .ok (.aload_n 0, 1) := by decide +kernel
theorem dX6_findsBehind_24 : decode cX6_findsBehind 24 = .ok (.iload_n 3, 1) := by decide +kernel
theorem dX6_findsBehind_25 : decode cX6_findsBehind 25 = .ok (.invokevirtual 93, 3) := by decide +kernel
theorem dX6_findsBehind_28 : decode cX6_findsBehind 28 = .ok (.istore 4, 2) := by decide +kernel
theorem dX6_findsBehind_30 : decode cX6_findsBehind 30 = .ok (.aload_n 0, 1) := by decide +kernel
theorem dX6_findsBehind_31 : decode cX6_findsBehind 31 = .ok (.iload_n 3, 1) := by decide +kernel
theorem dX6_findsBehind_32 : decode cX6_findsBehind 32 = .ok (.invokevirtual 97, 3) := by decide +kernel
theorem dX6_findsBehind_35 : decode cX6_findsBehind 35 = .ok (.ifCond .eq 70, 3) := by decide +kernel
theorem dX6_findsBehind_38 : decode cX6_findsBehind 38 = .ok (.iload_n 2, 1) := by decide +kernel
theorem dX6_findsBehind_39 : decode cX6_findsBehind 39 = .ok (.bipush 6, 2) := by decide +kernel
theorem dX6_findsBehind_41 : decode cX6_findsBehind 41 = .ok (.irem, 1) := by decide +kernel
theorem dX6_findsBehind_42 : decode cX6_findsBehind 42 = .ok (.iload 4, 2) := by decide +kernel
theorem dX6_findsBehind_44 : decode cX6_findsBehind 44 = .ok (.if_icmp .eq 61, 3) := by decide +kernel
theorem dX6_findsBehind_47 : decode cX6_findsBehind 47 = .ok (.aload_n 0, 1) := by decide +kernel
theorem dX6_findsBehind_48 : decode cX6_findsBehind 48 = .ok (.getfield 34, 3) := by decide +kernel
theorem dX6_findsBehind_51 : decode cX6_findsBehind 51 = .ok (.aload_n 0, 1) := by decide +kernel
theorem dX6_findsBehind_52 : decode cX6_findsBehind 52 = .ok (.getfield 90, 3) := by decide +kernel
theorem dX6_findsBehind_55 : decode cX6_findsBehind 55 = .ok (.iconst 1, 1) := by decide +kernel
theorem dX6_findsBehind_56 : decode cX6_findsBehind 56 = .ok (.iadd, 1) := by decide +kernel
theorem dX6_findsBehind_57 : decode cX6_findsBehind 57 = .ok (.iload_n 3, 1) := by decide +kernel
theorem dX6_findsBehind_58 : decode cX6_findsBehind 58 = .ok (.iadd, 1) := by decide +kernel
theorem dX6_findsBehind_59 : decode cX6_findsBehind 59 = .ok (.iload_n 2, 1) := by decide +kernel
theorem dX6_findsBehind_60 : decode cX6_findsBehind 60 = .ok (.bipush 6, 2) := by decide +kernel
theorem dX6_findsBehind_62 : decode cX6_findsBehind 62 = .ok (.irem, 1) := by decide +kernel
theorem dX6_findsBehind_63 : decode cX6_findsBehind 63 = .ok (.iastore, 1) := by decide +kernel
theorem dX6_findsBehind_64 : decode cX6_findsBehind 64 = .ok (.aload_n 0, 1) := by decide +kernel
theorem dX6_findsBehind_65 : decode cX6_findsBehind 65 = .ok (.invokevirtual 145, 3) := by decide +kernel
theorem dX6_findsBehind_68 : decode cX6_findsBehind 68 = .ok (.ifCond .ne 7, 3) := by decide +kernel
theorem dX6_findsBehind_71 : decode cX6_findsBehind 71 = .ok (.iconst 1, 1) := by decide +kernel
theorem dX6_findsBehind_72 : decode cX6_findsBehind 72 = .ok (.goto 4, 3) := by decide +kernel
theorem dX6_findsBehind_75 : decode cX6_findsBehind 75 = .ok (.iconst 0, 1) := by decide +kernel
theorem dX6_findsBehind_76 : decode cX6_findsBehind 76 = .ok (.istore 5, 2) := by decide +kernel
theorem dX6_findsBehind_78 : decode cX6_findsBehind 78 = .ok (.aload_n 0, 1) := by decide +kernel
theorem dX6_findsBehind_79 : decode cX6_findsBehind 79 = .ok (.getfield 34, 3) := by decide +kernel
theorem dX6_findsBehind_82 : decode cX6_findsBehind 82 = .ok (.aload_n 0, 1) := by decide +kernel
theorem dX6_findsBehind_83 : decode cX6_findsBehind 83 = .ok (.getfield 90, 3) := by decide +kernel
theorem dX6_findsBehind_86 : decode cX6_findsBehind 86 = .ok (.iconst 1, 1) := by decide +kernel
end
section
theorem dX6_findsBehind_87 : decode cX6_findsBehind 87 = .ok (.iadd, 1) := by decide +kernel
theorem dX6_findsBehind_88 : decode cX6_findsBehind 88 = .ok (.iload_n 3, 1) := by decide +kernel
theorem dX6_findsBehind_89 : decode cX6_findsBehind 89 = .ok (.iadd, 1) := by decide +kernel
theorem dX6_findsBehind_90 : decode cX6_findsBehind 90 = .ok (.iload 4, 2) := by decide +kernel
theorem dX6_findsBehind_92 : decode cX6_findsBehind 92 = .ok (.iastore, 1) := by decide +kernel
theorem dX6_findsBehind_93 : decode cX6_findsBehind 93 = .ok (.iload 5, 2) := by decide +kernel
theorem dX6_findsBehind_95 : decode cX6_findsBehind 95 = .ok (.ifCond .eq 10, 3) := by decide +kernel
theorem dX6_findsBehind_98 : decode cX6_findsBehind 98 = .ok (.aload_n 0, 1) := by decide +kernel
theorem dX6_findsBehind_99 : decode cX6_findsBehind 99 = .ok (.iload_n 2, 1) := by decide +kernel
theorem dX6_findsBehind_100 : decode cX6_findsBehind 100 = .ok (.putfield 211, 3) := by decide +kernel
theorem dX6_findsBehind_103 : decode cX6_findsBehind 103 = .ok (.iconst 1, 1) := by decide +kernel
theorem dX6_findsBehind_104 : decode cX6_findsBehind 104 = .ok (.ireturn, 1) := by decide +kernel
theorem dX6_findsBehind_105 : decode cX6_findsBehind 105 = .ok (.iinc 2 1, 3) := by decide +kernel
theorem dX6_findsBehind_108 : decode cX6_findsBehind 108 = .ok (.goto (-101), 3) := by decide +kernel
theorem dX6_findsBehind_111 : decode cX6_findsBehind 111 = .ok (.iconst 0, 1) := by decide +kernel
theorem dX6_findsBehind_112 : decode cX6_findsBehind 112 = .ok (.ireturn, 1) := by decide +kernel
theorem dX6_findsTwo_0 : decode cX6_findsTwo 0 = .ok (.iconst 0, 1) := by decide +kernel
theorem dX6_findsTwo_1 : decode cX6_findsTwo 1 = .ok (.istore_n 1, 1) := by decide +kernel
theorem dX6_findsTwo_2 : decode cX6_findsTwo 2 = .ok (.iload_n 1, 1) := by decide +kernel
theorem dX6_findsTwo_3 : decode cX6_findsTwo 3 = .ok (.bipush 6, 2) := by decide +kernel
theorem dX6_findsTwo_5 : decode cX6_findsTwo 5 = .ok (.aload_n 0, 1) := by decide +kernel
theorem dX6_findsTwo_6 : decode cX6_findsTwo 6 = .ok (.getfield 83, 3) := by decide +kernel
theorem dX6_findsTwo_9 : decode cX6_findsTwo 9 = .ok (.imul, 1) := by decide +kernel
theorem dX6_findsTwo_10 : decode cX6_findsTwo 10 = .ok (.if_icmp .ge 86, 3) := by decide +kernel
theorem dX6_findsTwo_13 : decode cX6_findsTwo 13 = .ok (.iload_n 1, 1) := by decide +kernel
theorem dX6_findsTwo_14 : decode cX6_findsTwo 14 = .ok (.bipush 6, 2) := by decide +kernel
theorem dX6_findsTwo_16 : decode cX6_findsTwo 16 = .ok (.idiv, 1) := by decide +kernel
theorem dX6_findsTwo_17 : decode cX6_findsTwo 17 = .ok (.istore_n 2, 1) := by decide +kernel
theorem dX6_findsTwo_18 : decode cX6_findsTwo 18 = .ok (.aload_n 0, 1) := by decide +kernel
theorem dX6_findsTwo_19 : decode cX6_findsTwo 19 = .ok (.iload_n 2, 1) := by decide +kernel
theorem dX6_findsTwo_20 : decode cX6_findsTwo 20 = .ok (.invokevirtual 93, 3) := by decide +kernel
theorem dX6_findsTwo_23 : decode cX6_findsTwo 23 = .ok (.istore_n 3, 1) := by decide +kernel
theorem dX6_findsTwo_24 : decode cX6_findsTwo 24 = .ok (.aload_n 0, 1) := by decide +kernel
theorem dX6_findsTwo_25 : decode cX6_findsTwo 25 = .ok (.iload_n 2, 1) := by decide +kernel
theorem dX6_findsTwo_26 : decode cX6_findsTwo 26 = .ok (.invokevirtual 97, 3) := by decide +kernel
theorem dX6_findsTwo_29 : decode cX6_findsTwo 29 = .ok (.ifCond .eq 61, 3) := by decide +kernel
theorem dX6_findsTwo_32 : decode cX6_findsTwo 32 = .ok (.iload_n 1, 1) := by decide +kernel
theorem dX6_findsTwo_33 : decode cX6_findsTwo 33 = .ok (.bipush 6, 2) := by decide +kernel
theorem dX6_findsTwo_35 : decode cX6_findsTwo 35 = .ok (.irem, 1) := by decide +kernel
theorem dX6_findsTwo_36 : decode cX6_findsTwo 36 = .ok (.iload_n 3, 1) := by decide +kernel
theorem dX6_findsTwo_37 : decode cX6_findsTwo 37 = .ok (.if_icmp .eq 53, 3) := by decide +kernel
theorem dX6_findsTwo_40 : decode cX6_findsTwo 40 = .ok (.aload_n 0, 1) := by decide +kernel
theorem dX6_findsTwo_41 : decode cX6_findsTwo 41 = .ok (.getfield 34, 3) := by decide +kernel
theorem dX6_findsTwo_44 : decode cX6_findsTwo 44 = .ok (.aload_n 0, 1) := by decide +kernel
theorem dX6_findsTwo_45 : decode cX6_findsTwo 45 = .ok (.getfield 90, 3) := by decide +kernel
theorem dX6_findsTwo_48 : decode cX6_findsTwo 48 = .ok (.iconst 1, 1) := by decide +kernel
theorem dX6_findsTwo_49 : decode cX6_findsTwo 49 = .ok (.iadd, 1) := by decide +kernel
theorem dX6_findsTwo_50 : decode cX6_findsTwo 50 = .ok (.iload_n 2, 1) := by decide +kernel
theorem dX6_findsTwo_51 : decode cX6_findsTwo 51 = .ok (.iadd, 1) := by decide +kernel
theorem dX6_findsTwo_52 : decode cX6_findsTwo 52 = .ok (.iload_n 1, 1) := by decide +kernel
theorem dX6_findsTwo_53 : decode cX6_findsTwo 53 = .ok (.bipush 6, 2) := by decide +kernel
theorem dX6_findsTwo_55 : decode cX6_findsTwo 55 = .ok (.irem, 1) := by decide +kernel
theorem dX6_findsTwo_56 : decode cX6_findsTwo 56 = .ok (.iastore, 1) := by decide +kernel
theorem dX6_findsTwo_57 : decode cX6_findsTwo 57 = .ok (.aload_n 0, 1) := by decide +kernel
theorem dX6_findsTwo_58 : decode cX6_findsTwo 58 = .ok (.iload_n 2, 1) := by decide +kernel
theorem dX6_findsTwo_59 : decode cX6_findsTwo 59 = .ok (.invokevirtual 214, 3) := by decide +kernel
theorem dX6_findsTwo_62 : decode cX6_findsTwo 62 = .ok (.istore 4, 2) := by decide +kernel
theorem dX6_findsTwo_64 : decode cX6_findsTwo 64 = .ok (.aload_n 0, 1) := by decide +kernel
theorem dX6_findsTwo_65 : decode cX6_findsTwo 65 = .ok (.getfield 34, 3) := by decide +kernel
theorem dX6_findsTwo_68 : decode cX6_findsTwo 68 = .ok (.aload_n 0, 1) := by decide +kernel
theorem dX6_findsTwo_69 : decode cX6_findsTwo 69 = .ok (.getfield 90, 3) := by decide +kernel
theorem dX6_findsTwo_72 : decode cX6_findsTwo 72 = .ok (.iconst 1, 1) := by decide +kernel
theorem dX6_findsTwo_73 : decode cX6_findsTwo 73 = .ok (.iadd, 1) := by decide +kernel
theorem dX6_findsTwo_74 : decode cX6_findsTwo 74 = .ok (.iload_n 2, 1) := by decide +kernel
theorem dX6_findsTwo_75 : decode cX6_findsTwo 75 = .ok (.iadd, 1) := by decide +kernel
theorem dX6_findsTwo_76 : decode cX6_findsTwo 76 = .ok (.iload_n 3, 1) := by decide +kernel
theorem dX6_findsTwo_77 : decode cX6_findsTwo 77 = .ok (.iastore, 1) := by decide +kernel
theorem dX6_findsTwo_78 : decode cX6_findsTwo 78 = .ok (.iload 4, 2) := by decide +kernel
theorem dX6_findsTwo_80 : decode cX6_findsTwo 80 = .ok (.ifCond .eq 10, 3) := by decide +kernel
theorem dX6_findsTwo_83 : decode cX6_findsTwo 83 = .ok (.aload_n 0, 1) := by decide +kernel
theorem dX6_findsTwo_84 : decode cX6_findsTwo 84 = .ok (.iload_n 1, 1) := by decide +kernel
theorem dX6_findsTwo_85 : decode cX6_findsTwo 85 = .ok (.putfield 208, 3) := by decide +kernel
theorem dX6_findsTwo_88 : decode cX6_findsTwo 88 = .ok (.iconst 1, 1) := by decide +kernel
theorem dX6_findsTwo_89 : decode cX6_findsTwo 89 = .ok (.ireturn, 1) := by decide +kernel
theorem dX6_findsTwo_90 : decode cX6_findsTwo 90 = .ok (.iinc 1 1, 3) := by decide +kernel
theorem dX6_findsTwo_93 : decode cX6_findsTwo 93 = .ok (.goto (-91), 3) := by decide +kernel
theorem dX6_findsTwo_96 : decode cX6_findsTwo 96 = .ok (.iconst 0, 1) := by decide +kernel
theorem dX6_findsTwo_97 : decode cX6_findsTwo 97 = .ok (.ireturn, 1) := by decide +kernel
theorem dX6_moves_0 : decode cX6_moves 0 = .ok (.iload_n 1, 1) := by decide +kernel
theorem dX6_moves_1 : decode cX6_moves 1 = .ok (.iconst 0, 1) := by decide +kernel
theorem dX6_moves_2 : decode cX6_moves 2 = .ok (.iconst 2, 1) := by decide +kernel
theorem dX6_moves_3 : decode cX6_moves 3 = .ok (.invokestatic 79, 3) := by decide +kernel
theorem dX6_moves_6 : decode cX6_moves 6 = .ok (.ifCond .ne 10, 3) := by decide +kernel
theorem dX6_moves_9 : decode cX6_moves 9 = .ok (.aload_n 0, 1) := by decide +kernel
theorem dX6_moves_10 : decode cX6_moves 10 = .ok (.ldc 78, 2) := by decide +kernel
theorem dX6_moves_12 : decode cX6_moves 12 = .ok (.invokevirtual 125, 3) := by decide +kernel
theorem dX6_moves_15 : decode cX6_moves 15 = .ok (.ireturn, 1) := by decide +kernel
theorem dX6_moves_16 : decode cX6_moves 16 = .ok (.aload_n 0, 1) := by decide +kernel
theorem dX6_moves_17 : decode cX6_moves 17 = .ok (.invokevirtual 190, 3) := by decide +kernel
theorem dX6_moves_20 : decode cX6_moves 20 = .ok (.aload_n 0, 1) := by decide +kernel
theorem dX6_moves_21 : decode cX6_moves 21 = .ok (.aload_n 0, 1) := by decide +kernel
theorem dX6_moves_22 : decode cX6_moves 22 = .ok (.invokevirtual 145, 3) := by decide +kernel
theorem dX6_moves_25 : decode cX6_moves 25 = .ok (.ifCond .ne 7, 3) := by decide +kernel
theorem dX6_moves_28 : decode cX6_moves 28 = .ok (.iconst 0, 1) := by decide +kernel
theorem dX6_moves_29 : decode cX6_moves 29 = .ok (.goto 26, 3) := by decide +kernel
theorem dX6_moves_32 : decode cX6_moves 32 = .ok (.aload_n 0, 1) := by decide +kernel
theorem dX6_moves_33 : decode cX6_moves 33 = .ok (.invokevirtual 217, 3) := by decide +kernel
theorem dX6_moves_36 : decode cX6_moves 36 = .ok (.ifCond .eq 7, 3) := by decide +kernel
theorem dX6_moves_39 : decode cX6_moves 39 = .ok (.iconst 1, 1) := by decide +kernel
theorem dX6_moves_40 : decode cX6_moves 40 = .ok (.goto 15, 3) := by decide +kernel
theorem dX6_moves_43 : decode cX6_moves 43 = .ok (.aload_n 0, 1) := by decide +kernel
theorem dX6_moves_44 : decode cX6_moves 44 = .ok (.invokevirtual 221, 3) := by decide +kernel
theorem dX6_moves_47 : decode cX6_moves 47 = .ok (.ifCond .eq 7, 3) := by decide +kernel
theorem dX6_moves_50 : decode cX6_moves 50 = .ok (.iconst 2, 1) := by decide +kernel
theorem dX6_moves_51 : decode cX6_moves 51 = .ok (.goto 4, 3) := by decide +kernel
theorem dX6_moves_54 : decode cX6_moves 54 = .ok (.iconst 3, 1) := by decide +kernel
theorem dX6_moves_55 : decode cX6_moves 55 = .ok (.putfield 224, 3) := by decide +kernel
theorem dX6_moves_58 : decode cX6_moves 58 = .ok (.aload_n 0, 1) := by decide +kernel
theorem dX6_moves_59 : decode cX6_moves 59 = .ok (.iconst 0, 1) := by decide +kernel
theorem dX6_moves_60 : decode cX6_moves 60 = .ok (.putfield 90, 3) := by decide +kernel
theorem dX6_moves_63 : decode cX6_moves 63 = .ok (.aload_n 0, 1) := by decide +kernel
theorem dX6_moves_64 : decode cX6_moves 64 = .ok (.getfield 224, 3) := by decide +kernel
theorem dX6_moves_67 : decode cX6_moves 67 = .ok (.iconst 3, 1) := by decide +kernel
theorem dX6_moves_68 : decode cX6_moves 68 = .ok (.if_icmp .eq 11, 3) := by decide +kernel
theorem dX6_moves_71 : decode cX6_moves 71 = .ok (.iload_n 1, 1) := by decide +kernel
theorem dX6_moves_72 : decode cX6_moves 72 = .ok (.aload_n 0, 1) := by decide +kernel
theorem dX6_moves_73 : decode cX6_moves 73 = .ok (.getfield 224, 3) := by decide +kernel
theorem dX6_moves_76 : decode cX6_moves 76 = .ok (.if_icmp .le 10, 3) := by decide +kernel
theorem dX6_moves_79 : decode cX6_moves 79 = .ok (.aload_n 0, 1) := by decide +kernel
theorem dX6_moves_80 : decode cX6_moves 80 = .ok (.ldc 170, 2) := by decide +kernel
theorem dX6_moves_82 : decode cX6_moves 82 = .ok (.invokevirtual 125, 3) := by decide +kernel
theorem dX6_moves_85 : decode cX6_moves 85 = .ok (.ireturn, 1) := by decide +kernel
theorem dX6_moves_86 : decode cX6_moves 86 = .ok (.iload_n 1, 1) := by decide +kernel
theorem dX6_moves_87 : decode cX6_moves 87 = .ok (.ifCond .ne 10, 3) := by decide +kernel
theorem dX6_moves_90 : decode cX6_moves 90 = .ok (.aload_n 0, 1) := by decide +kernel
theorem dX6_moves_91 : decode cX6_moves 91 = .ok (.getfield 224, 3) := by decide +kernel
theorem dX6_moves_94 : decode cX6_moves 94 = .ok (.goto 19, 3) := by decide +kernel
theorem dX6_moves_97 : decode cX6_moves 97 = .ok (.iload_n 1, 1) := by decide +kernel
theorem dX6_moves_98 : decode cX6_moves 98 = .ok (.iconst 1, 1) := by decide +kernel
theorem dX6_moves_99 : decode cX6_moves 99 = .ok (.if_icmp .ne 10, 3) := by decide +kernel
theorem dX6_moves_102 : decode cX6_moves 102 = .ok (.aload_n 0, 1) := by decide +kernel
theorem dX6_moves_103 : decode cX6_moves 103 = .ok (.getfield 208, 3) := by decide +kernel
theorem dX6_moves_106 : decode cX6_moves 106 = .ok (.goto 7, 3) := by decide +kernel
theorem dX6_moves_109 : decode cX6_moves 109 = .ok (.aload_n 0, 1) := by decide +kernel
theorem dX6_moves_110 : decode cX6_moves 110 = .ok (.getfield 211, 3) := by decide +kernel
theorem dX6_moves_113 : decode cX6_moves 113 = .ok (.ireturn, 1) := by decide +kernel
theorem dX6_looseWith_0 : decode cX6_looseWith 0 = .ok (.aload_n 0, 1) := by decide +kernel
theorem dX6_looseWith_1 : decode cX6_looseWith 1 = .ok (.invokevirtual 190, 3) := by decide +kernel
theorem dX6_looseWith_4 : decode cX6_looseWith 4 = .ok (.aload_n 0, 1) := by decide +kernel
theorem dX6_looseWith_5 : decode cX6_looseWith 5 = .ok (.getfield 34, 3) := by decide +kernel
theorem dX6_looseWith_8 : decode cX6_looseWith 8 = .ok (.aload_n 0, 1) := by decide +kernel
theorem dX6_looseWith_9 : decode cX6_looseWith 9 = .ok (.getfield 90, 3) := by decide +kernel
theorem dX6_looseWith_12 : decode cX6_looseWith 12 = .ok (.iconst 1, 1) := by decide +kernel
theorem dX6_looseWith_13 : decode cX6_looseWith 13 = .ok (.iadd, 1) := by decide +kernel
theorem dX6_looseWith_14 : decode cX6_looseWith 14 = .ok (.iload_n 1, 1) := by decide +kernel
theorem dX6_looseWith_15 : decode cX6_looseWith 15 = .ok (.iadd, 1) := by decide +kernel
theorem dX6_looseWith_16 : decode cX6_looseWith 16 = .ok (.iload_n 2, 1) := by decide +kernel
theorem dX6_looseWith_17 : decode cX6_looseWith 17 = .ok (.iastore, 1) := by decide +kernel
theorem dX6_looseWith_18 : decode cX6_looseWith 18 = .ok (.aload_n 0, 1) := by decide +kernel
theorem dX6_looseWith_19 : decode cX6_looseWith 19 = .ok (.invokevirtual 145, 3) := by decide +kernel
theorem dX6_looseWith_22 : decode cX6_looseWith 22 = .ok (.istore_n 3, 1) := by decide +kernel
theorem dX6_looseWith_23 : decode cX6_looseWith 23 = .ok (.aload_n 0, 1) := by decide +kernel
theorem dX6_looseWith_24 : decode cX6_looseWith 24 = .ok (.iconst 0, 1) := by decide +kernel
theorem dX6_looseWith_25 : decode cX6_looseWith 25 = .ok (.putfield 90, 3) := by decide +kernel
theorem dX6_looseWith_28 : decode cX6_looseWith 28 = .ok (.iload_n 3, 1) := by decide +kernel
theorem dX6_looseWith_29 : decode cX6_looseWith 29 = .ok (.ireturn, 1) := by decide +kernel
theorem dX6_best_0 : decode cX6_best 0 = .ok (.aload_n 0, 1) := by decide +kernel
theorem dX6_best_1 : decode cX6_best 1 = .ok (.iload_n 1, 1) := by decide +kernel
theorem dX6_best_2 : decode cX6_best 2 = .ok (.invokevirtual 136, 3) := by decide +kernel
theorem dX6_best_5 : decode cX6_best 5 = .ok (.ifCond .ne 10, 3) := by decide +kernel
theorem dX6_best_8 : decode cX6_best 8 = .ok (.aload_n 0, 1) := by decide +kernel
theorem dX6_best_9 : decode cX6_best 9 = .ok (.ldc 78, 2) := by decide +kernel
theorem dX6_best_11 : decode cX6_best 11 = .ok (.invokevirtual 125, 3) := by decide +kernel
theorem dX6_best_14 : decode cX6_best 14 = .ok (.ireturn, 1) := by decide +kernel
theorem dX6_best_15 : decode cX6_best 15 = .ok (.aload_n 0, 1) := by decide +kernel
theorem dX6_best_16 : decode cX6_best 16 = .ok (.iload_n 1, 1) := by decide +kernel
theorem dX6_best_17 : decode cX6_best 17 = .ok (.invokevirtual 97, 3) := by decide +kernel
theorem dX6_best_20 : decode cX6_best 20 = .ok (.ifCond .ne 10, 3) := by decide +kernel
theorem dX6_best_23 : decode cX6_best 23 = .ok (.aload_n 0, 1) := by decide +kernel
theorem dX6_best_24 : decode cX6_best 24 = .ok (.ldc 139, 2) := by decide +kernel
theorem dX6_best_26 : decode cX6_best 26 = .ok (.invokevirtual 125, 3) := by decide +kernel
theorem dX6_best_29 : decode cX6_best 29 = .ok (.ireturn, 1) := by decide +kernel
theorem dX6_best_30 : decode cX6_best 30 = .ok (.iconst 0, 1) := by decide +kernel
theorem dX6_best_31 : decode cX6_best 31 = .ok (.istore_n 2, 1) := by decide +kernel
theorem dX6_best_32 : decode cX6_best 32 = .ok (.bipush 13, 2) := by decide +kernel
theorem dX6_best_34 : decode cX6_best 34 = .ok (.istore_n 3, 1) := by decide +kernel
theorem dX6_best_35 : decode cX6_best 35 = .ok (.iconst 0, 1) := by decide +kernel
theorem dX6_best_36 : decode cX6_best 36 = .ok (.istore 4, 2) := by decide +kernel
theorem dX6_best_38 : decode cX6_best 38 = .ok (.iload 4, 2) := by decide +kernel
theorem dX6_best_40 : decode cX6_best 40 = .ok (.bipush 6, 2) := by decide +kernel
theorem dX6_best_42 : decode cX6_best 42 = .ok (.if_icmp .ge 47, 3) := by decide +kernel
theorem dX6_best_45 : decode cX6_best 45 = .ok (.aload_n 0, 1) := by decide +kernel
theorem dX6_best_46 : decode cX6_best 46 = .ok (.iload_n 1, 1) := by decide +kernel
theorem dX6_best_47 : decode cX6_best 47 = .ok (.iload 4, 2) := by decide +kernel
theorem dX6_best_49 : decode cX6_best 49 = .ok (.invokevirtual 227, 3) := by decide +kernel
theorem dX6_best_52 : decode cX6_best 52 = .ok (.invokestatic 149, 3) := by decide +kernel
theorem dX6_best_55 : decode cX6_best 55 = .ok (.istore 5, 2) := by decide +kernel
theorem dX6_best_57 : decode cX6_best 57 = .ok (.iload 5, 2) := by decide +kernel
theorem dX6_best_59 : decode cX6_best 59 = .ok (.iload_n 3, 1) := by decide +kernel
theorem dX6_best_60 : decode cX6_best 60 = .ok (.if_icmp .ge 8, 3) := by decide +kernel
theorem dX6_best_63 : decode cX6_best 63 = .ok (.iload 4, 2) := by decide +kernel
theorem dX6_best_65 : decode cX6_best 65 = .ok (.goto 4, 3) := by decide +kernel
theorem dX6_best_68 : decode cX6_best 68 = .ok (.iload_n 2, 1) := by decide +kernel
theorem dX6_best_69 : decode cX6_best 69 = .ok (.istore_n 2, 1) := by decide +kernel
theorem dX6_best_70 : decode cX6_best 70 = .ok (.iload 5, 2) := by decide +kernel
theorem dX6_best_72 : decode cX6_best 72 = .ok (.iload_n 3, 1) := by decide +kernel
theorem dX6_best_73 : decode cX6_best 73 = .ok (.if_icmp .ge 8, 3) := by decide +kernel
theorem dX6_best_76 : decode cX6_best 76 = .ok (.iload 5, 2) := by decide +kernel
theorem dX6_best_78 : decode cX6_best 78 = .ok (.goto 4, 3) := by decide +kernel
theorem dX6_best_81 : decode cX6_best 81 = .ok (.iload_n 3, 1) := by decide +kernel
theorem dX6_best_82 : decode cX6_best 82 = .ok (.istore_n 3, 1) := by decide +kernel
theorem dX6_best_83 : decode cX6_best 83 = .ok (.iinc 4 1, 3) := by decide +kernel
theorem dX6_best_86 : decode cX6_best 86 = .ok (.goto (-48), 3) := by decide +kernel
theorem dX6_best_89 : decode cX6_best 89 = .ok (.iload_n 2, 1) := by decide +kernel
theorem dX6_best_90 : decode cX6_best 90 = .ok (.ireturn, 1) := by decide +kernel
theorem dX6_key_0 : decode cX6_key 0 = .ok (.iload_n 1, 1) := by decide +kernel
theorem dX6_key_1 : decode cX6_key 1 = .ok (.invokestatic 119, 3) := by decide +kernel
theorem dX6_key_4 : decode cX6_key 4 = .ok (.ifCond .ne 10, 3) := by decide +kernel
theorem dX6_key_7 : decode cX6_key 7 = .ok (.aload_n 0, 1) := by decide +kernel
theorem dX6_key_8 : decode cX6_key 8 = .ok (.ldc 78, 2) := by decide +kernel
theorem dX6_key_10 : decode cX6_key 10 = .ok (.invokevirtual 125, 3) := by decide +kernel
theorem dX6_key_13 : decode cX6_key 13 = .ok (.ireturn, 1) := by decide +kernel
theorem dX6_key_14 : decode cX6_key 14 = .ok (.aload_n 0, 1) := by decide +kernel
theorem dX6_key_15 : decode cX6_key 15 = .ok (.invokevirtual 145, 3) := by decide +kernel
theorem dX6_key_18 : decode cX6_key 18 = .ok (.istore_n 2, 1) := by decide +kernel
theorem dX6_key_19 : decode cX6_key 19 = .ok (.iconst (-1), 1) := by decide +kernel
theorem dX6_key_20 : decode cX6_key 20 = .ok (.istore_n 3, 1) := by decide +kernel
theorem dX6_key_21 : decode cX6_key 21 = .ok (.iconst 0, 1) := by decide +kernel
theorem dX6_key_22 : decode cX6_key 22 = .ok (.istore 4, 2) := by decide +kernel
theorem dX6_key_24 : decode cX6_key 24 = .ok (.iconst 0, 1) := by decide +kernel
theorem dX6_key_25 : decode cX6_key 25 = .ok (.istore 5, 2) := by decide +kernel
theorem dX6_key_27 : decode cX6_key 27 = .ok (.iload 5, 2) := by decide +kernel
theorem dX6_key_29 : decode cX6_key 29 = .ok (.aload_n 0, 1) := by decide +kernel
theorem dX6_key_30 : decode cX6_key 30 = .ok (.getfield 83, 3) := by decide +kernel
theorem dX6_key_33 : decode cX6_key 33 = .ok (.if_icmp .ge 75, 3) := by decide +kernel
theorem dX6_key_36 : decode cX6_key 36 = .ok (.aload_n 0, 1) := by decide +kernel
theorem dX6_key_37 : decode cX6_key 37 = .ok (.getfield 16, 3) := by decide +kernel
theorem dX6_key_40 : decode cX6_key 40 = .ok (.iload 5, 2) := by decide +kernel
theorem dX6_key_42 : decode cX6_key 42 = .ok (.iaload, 1) := by decide +kernel
theorem dX6_key_43 : decode cX6_key 43 = .ok (.iload_n 1, 1) := by decide +kernel
theorem dX6_key_44 : decode cX6_key 44 = .ok (.if_icmp .ne 58, 3) := by decide +kernel
theorem dX6_key_47 : decode cX6_key 47 = .ok (.aload_n 0, 1) := by decide +kernel
theorem dX6_key_48 : decode cX6_key 48 = .ok (.iload 5, 2) := by decide +kernel
theorem dX6_key_50 : decode cX6_key 50 = .ok (.invokevirtual 97, 3) := by decide +kernel
theorem dX6_key_53 : decode cX6_key 53 = .ok (.ifCond .eq 49, 3) := by decide +kernel
theorem dX6_key_56 : decode cX6_key 56 = .ok (.aload_n 0, 1) := by decide +kernel
theorem dX6_key_57 : decode cX6_key 57 = .ok (.iload 5, 2) := by decide +kernel
theorem dX6_key_59 : decode cX6_key 59 = .ok (.iload_n 1, 1) := by decide +kernel
theorem dX6_key_60 : decode cX6_key 60 = .ok (.invokevirtual 227, 3) := by decide +kernel
theorem dX6_key_63 : decode cX6_key 63 = .ok (.iload_n 2, 1) := by decide +kernel
theorem dX6_key_64 : decode cX6_key 64 = .ok (.iconst (-1), 1) := by decide +kernel
theorem dX6_key_65 : decode cX6_key 65 = .ok (.ixor, 1) := by decide +kernel
theorem dX6_key_66 : decode cX6_key 66 = .ok (.iand, 1) := by decide +kernel
theorem dX6_key_67 : decode cX6_key 67 = .ok (.invokestatic 149, 3) := by decide +kernel
theorem dX6_key_70 : decode cX6_key 70 = .ok (.istore 6, 2) := by decide +kernel
theorem dX6_key_72 : decode cX6_key 72 = .ok (.iload 6, 2) := by decide +kernel
theorem dX6_key_74 : decode cX6_key 74 = .ok (.iload 4, 2) := by decide +kernel
theorem dX6_key_76 : decode cX6_key 76 = .ok (.if_icmp .le 8, 3) := by decide +kernel
theorem dX6_key_79 : decode cX6_key 79 = .ok (.iload 5, 2) := by decide +kernel
theorem dX6_key_81 : decode cX6_key 81 = .ok (.goto 4, 3) := by decide +kernel
theorem dX6_key_84 : decode cX6_key 84 = .ok (.iload_n 3, 1) := by decide +kernel
theorem dX6_key_85 : decode cX6_key 85 = .ok (.istore_n 3, 1) := by decide +kernel
theorem dX6_key_86 : decode cX6_key 86 = .ok (.iload 6, 2) := by decide +kernel
theorem dX6_key_88 : decode cX6_key 88 = .ok (.iload 4, 2) := by decide +kernel
theorem dX6_key_90 : decode cX6_key 90 = .ok (.if_icmp .le 8, 3) := by decide +kernel
theorem dX6_key_93 : decode cX6_key 93 = .ok (.iload 6, 2) := by decide +kernel
theorem dX6_key_95 : decode cX6_key 95 = .ok (.goto 5, 3) := by decide +kernel
theorem dX6_key_98 : decode cX6_key 98 = .ok (.iload 4, 2) := by decide +kernel
theorem dX6_key_100 : decode cX6_key 100 = .ok (.istore 4, 2) := by decide +kernel
theorem dX6_key_102 : decode cX6_key 102 = .ok (.iinc 5 1, 3) := by decide +kernel
theorem dX6_key_105 : decode cX6_key 105 = .ok (.goto (-78), 3) := by decide +kernel
theorem dX6_key_108 : decode cX6_key 108 = .ok (.iload_n 3, 1) := by decide +kernel
theorem dX6_key_109 : decode cX6_key 109 = .ok (.ifCond .ge 12, 3) := by decide +kernel
theorem dX6_key_112 : decode cX6_key 112 = .ok (.aload_n 0, 1) := by decide +kernel
theorem dX6_key_113 : decode cX6_key 113 = .ok (.ldc 170, 2) := by decide +kernel
theorem dX6_key_115 : decode cX6_key 115 = .ok (.invokevirtual 125, 3) := by decide +kernel
theorem dX6_key_118 : decode cX6_key 118 = .ok (.goto 4, 3) := by decide +kernel
theorem dX6_key_121 : decode cX6_key 121 = .ok (.iload_n 3, 1) := by decide +kernel
theorem dX6_key_122 : decode cX6_key 122 = .ok (.ireturn, 1) := by decide +kernel
theorem dX6_toFree_0 : decode cX6_toFree 0 = .ok (.iload_n 1, 1) := by decide +kernel
theorem dX6_toFree_1 : decode cX6_toFree 1 = .ok (.iload_n 2, 1) := by decide +kernel
theorem dX6_toFree_2 : decode cX6_toFree 2 = .ok (.invokestatic 164, 3) := by decide +kernel
theorem dX6_toFree_5 : decode cX6_toFree 5 = .ok (.ifCond .ne 10, 3) := by decide +kernel
theorem dX6_toFree_8 : decode cX6_toFree 8 = .ok (.aload_n 0, 1) := by decide +kernel
theorem dX6_toFree_9 : decode cX6_toFree 9 = .ok (.ldc 78, 2) := by decide +kernel
theorem dX6_toFree_11 : decode cX6_toFree 11 = .ok (.invokevirtual 125, 3) := by decide +kernel
theorem dX6_toFree_14 : decode cX6_toFree 14 = .ok (.ireturn, 1) := by decide +kernel
theorem dX6_toFree_15 : decode cX6_toFree 15 = .ok (.iconst 0, 1) := by decide +kernel
theorem dX6_toFree_16 : decode cX6_toFree 16 = .ok (.istore_n 3, 1) := by decide +kernel
theorem dX6_toFree_17 : decode cX6_toFree 17 = .ok (.iconst 0, 1) := by decide +kernel
theorem dX6_toFree_18 : decode cX6_toFree 18 = .ok (.istore 4, 2) := by decide +kernel
theorem dX6_toFree_20 : decode cX6_toFree 20 = .ok (.iload 4, 2) := by decide +kernel
theorem dX6_toFree_22 : decode cX6_toFree 22 = .ok (.aload_n 0, 1) := by decide +kernel
theorem dX6_toFree_23 : decode cX6_toFree 23 = .ok (.getfield 87, 3) := by decide +kernel
theorem dX6_toFree_26 : decode cX6_toFree 26 = .ok (.if_icmp .ge 50, 3) := by decide +kernel
theorem dX6_toFree_29 : decode cX6_toFree 29 = .ok (.iload_n 3, 1) := by decide +kernel
theorem dX6_toFree_30 : decode cX6_toFree 30 = .ok (.ifCond .ne 34, 3) := by decide +kernel
theorem dX6_toFree_33 : decode cX6_toFree 33 = .ok (.aload_n 0, 1) := by decide +kernel
theorem dX6_toFree_34 : decode cX6_toFree 34 = .ok (.getfield 22, 3) := by decide +kernel
theorem dX6_toFree_37 : decode cX6_toFree 37 = .ok (.iload 4, 2) := by decide +kernel
theorem dX6_toFree_39 : decode cX6_toFree 39 = .ok (.iaload, 1) := by decide +kernel
theorem dX6_toFree_40 : decode cX6_toFree 40 = .ok (.iload_n 1, 1) := by decide +kernel
theorem dX6_toFree_41 : decode cX6_toFree 41 = .ok (.if_icmp .ne 27, 3) := by decide +kernel
theorem dX6_toFree_44 : decode cX6_toFree 44 = .ok (.aload_n 0, 1) := by decide +kernel
theorem dX6_toFree_45 : decode cX6_toFree 45 = .ok (.getfield 25, 3) := by decide +kernel
theorem dX6_toFree_48 : decode cX6_toFree 48 = .ok (.iload 4, 2) := by decide +kernel
theorem dX6_toFree_50 : decode cX6_toFree 50 = .ok (.iaload, 1) := by decide +kernel
theorem dX6_toFree_51 : decode cX6_toFree 51 = .ok (.iload_n 2, 1) := by decide +kernel
theorem dX6_toFree_52 : decode cX6_toFree 52 = .ok (.if_icmp .ne 16, 3) := by decide +kernel
theorem dX6_toFree_55 : decode cX6_toFree 55 = .ok (.aload_n 0, 1) := by decide +kernel
theorem dX6_toFree_56 : decode cX6_toFree 56 = .ok (.iload 4, 2) := by decide +kernel
theorem dX6_toFree_58 : decode cX6_toFree 58 = .ok (.invokevirtual 113, 3) := by decide +kernel
theorem dX6_toFree_61 : decode cX6_toFree 61 = .ok (.ifCond .eq 7, 3) := by decide +kernel
theorem dX6_toFree_64 : decode cX6_toFree 64 = .ok (.iconst 1, 1) := by decide +kernel
theorem dX6_toFree_65 : decode cX6_toFree 65 = .ok (.goto 4, 3) := by decide +kernel
theorem dX6_toFree_68 : decode cX6_toFree 68 = .ok (.iconst 0, 1) := by decide +kernel
theorem dX6_toFree_69 : decode cX6_toFree 69 = .ok (.istore_n 3, 1) := by decide +kernel
theorem dX6_toFree_70 : decode cX6_toFree 70 = .ok (.iinc 4 1, 3) := by decide +kernel
theorem dX6_toFree_73 : decode cX6_toFree 73 = .ok (.goto (-53), 3) := by decide +kernel
theorem dX6_toFree_76 : decode cX6_toFree 76 = .ok (.iload_n 3, 1) := by decide +kernel
theorem dX6_toFree_77 : decode cX6_toFree 77 = .ok (.ifCond .eq 12, 3) := by decide +kernel
theorem dX6_toFree_80 : decode cX6_toFree 80 = .ok (.aload_n 0, 1) := by decide +kernel
theorem dX6_toFree_81 : decode cX6_toFree 81 = .ok (.iload_n 2, 1) := by decide +kernel
theorem dX6_toFree_82 : decode cX6_toFree 82 = .ok (.iload_n 1, 1) := by decide +kernel
theorem dX6_toFree_83 : decode cX6_toFree 83 = .ok (.invokevirtual 231, 3) := by decide +kernel
theorem dX6_toFree_86 : decode cX6_toFree 86 = .ok (.goto 4, 3) := by decide +kernel
theorem dX6_toFree_89 : decode cX6_toFree 89 = .ok (.iconst 0, 1) := by decide +kernel
theorem dX6_toFree_90 : decode cX6_toFree 90 = .ok (.ireturn, 1) := by decide +kernel
theorem dX6_holdsWith_0 : decode cX6_holdsWith 0 = .ok (.aload_n 0, 1) := by decide +kernel
theorem dX6_holdsWith_1 : decode cX6_holdsWith 1 = .ok (.invokevirtual 190, 3) := by decide +kernel
theorem dX6_holdsWith_4 : decode cX6_holdsWith 4 = .ok (.iconst 0, 1) := by decide +kernel
theorem dX6_holdsWith_5 : decode cX6_holdsWith 5 = .ok (.istore_n 2, 1) := by decide +kernel
theorem dX6_holdsWith_6 : decode cX6_holdsWith 6 = .ok (.iload_n 2, 1) := by decide +kernel
theorem dX6_holdsWith_7 : decode cX6_holdsWith 7 = .ok (.aload_n 0, 1) := by decide +kernel
theorem dX6_holdsWith_8 : decode cX6_holdsWith 8 = .ok (.getfield 234, 3) := by decide +kernel
theorem dX6_holdsWith_11 : decode cX6_holdsWith 11 = .ok (.if_icmp .ge 41, 3) := by decide +kernel
theorem dX6_holdsWith_14 : decode cX6_holdsWith 14 = .ok (.iload_n 1, 1) := by decide +kernel
theorem dX6_holdsWith_15 : decode cX6_holdsWith 15 = .ok (.iload_n 2, 1) := by decide +kernel
theorem dX6_holdsWith_16 : decode cX6_holdsWith 16 = .ok (.invokestatic 161, 3) := by decide +kernel
theorem dX6_holdsWith_19 : decode cX6_holdsWith 19 = .ok (.ifCond .eq 27, 3) := by decide +kernel
theorem dX6_holdsWith_22 : decode cX6_holdsWith 22 = .ok (.aload_n 0, 1) := by decide +kernel
theorem dX6_holdsWith_23 : decode cX6_holdsWith 23 = .ok (.getfield 34, 3) := by decide +kernel
theorem dX6_holdsWith_26 : decode cX6_holdsWith 26 = .ok (.aload_n 0, 1) := by decide +kernel
theorem dX6_holdsWith_27 : decode cX6_holdsWith 27 = .ok (.getfield 90, 3) := by decide +kernel
theorem dX6_holdsWith_30 : decode cX6_holdsWith 30 = .ok (.iconst 1, 1) := by decide +kernel
theorem dX6_holdsWith_31 : decode cX6_holdsWith 31 = .ok (.iadd, 1) := by decide +kernel
theorem dX6_holdsWith_32 : decode cX6_holdsWith 32 = .ok (.aload_n 0, 1) := by decide +kernel
theorem dX6_holdsWith_33 : decode cX6_holdsWith 33 = .ok (.getfield 43, 3) := by decide +kernel
theorem dX6_holdsWith_36 : decode cX6_holdsWith 36 = .ok (.iload_n 2, 1) := by decide +kernel
theorem dX6_holdsWith_37 : decode cX6_holdsWith 37 = .ok (.iaload, 1) := by decide +kernel
theorem dX6_holdsWith_38 : decode cX6_holdsWith 38 = .ok (.iadd, 1) := by decide +kernel
theorem dX6_holdsWith_39 : decode cX6_holdsWith 39 = .ok (.aload_n 0, 1) := by decide +kernel
theorem dX6_holdsWith_40 : decode cX6_holdsWith 40 = .ok (.getfield 46, 3) := by decide +kernel
theorem dX6_holdsWith_43 : decode cX6_holdsWith 43 = .ok (.iload_n 2, 1) := by decide +kernel
theorem dX6_holdsWith_44 : decode cX6_holdsWith 44 = .ok (.iaload, 1) := by decide +kernel
theorem dX6_holdsWith_45 : decode cX6_holdsWith 45 = .ok (.iastore, 1) := by decide +kernel
theorem dX6_holdsWith_46 : decode cX6_holdsWith 46 = .ok (.iinc 2 1, 3) := by decide +kernel
theorem dX6_holdsWith_49 : decode cX6_holdsWith 49 = .ok (.goto (-43), 3) := by decide +kernel
theorem dX6_holdsWith_52 : decode cX6_holdsWith 52 = .ok (.aload_n 0, 1) := by decide +kernel
theorem dX6_holdsWith_53 : decode cX6_holdsWith 53 = .ok (.invokevirtual 145, 3) := by decide +kernel
theorem dX6_holdsWith_56 : decode cX6_holdsWith 56 = .ok (.ifCond .ne 7, 3) := by decide +kernel
theorem dX6_holdsWith_59 : decode cX6_holdsWith 59 = .ok (.iconst 1, 1) := by decide +kernel
theorem dX6_holdsWith_60 : decode cX6_holdsWith 60 = .ok (.goto 4, 3) := by decide +kernel
theorem dX6_holdsWith_63 : decode cX6_holdsWith 63 = .ok (.iconst 0, 1) := by decide +kernel
theorem dX6_holdsWith_64 : decode cX6_holdsWith 64 = .ok (.istore_n 2, 1) := by decide +kernel
theorem dX6_holdsWith_65 : decode cX6_holdsWith 65 = .ok (.aload_n 0, 1) := by decide +kernel
theorem dX6_holdsWith_66 : decode cX6_holdsWith 66 = .ok (.iconst 0, 1) := by decide +kernel
theorem dX6_holdsWith_67 : decode cX6_holdsWith 67 = .ok (.putfield 90, 3) := by decide +kernel
theorem dX6_holdsWith_70 : decode cX6_holdsWith 70 = .ok (.iload_n 2, 1) := by decide +kernel
theorem dX6_holdsWith_71 : decode cX6_holdsWith 71 = .ok (.ireturn, 1) := by decide +kernel
theorem dX6_findWay_0 : decode cX6_findWay 0 = .ok (.iconst 1, 1) := by decide +kernel
theorem dX6_findWay_1 : decode cX6_findWay 1 = .ok (.aload_n 0, 1) := by decide +kernel
theorem dX6_findWay_2 : decode cX6_findWay 2 = .ok (.getfield 234, 3) := by decide +kernel
theorem dX6_findWay_5 : decode cX6_findWay 5 = .ok (.ishl, 1) := by decide +kernel
theorem dX6_findWay_6 : decode cX6_findWay 6 = .ok (.iconst 1, 1) := by decide +kernel
theorem dX6_findWay_7 : decode cX6_findWay 7 = .ok (.isub, 1) := by decide +kernel
theorem dX6_findWay_8 : decode cX6_findWay 8 = .ok (.istore_n 1, 1) := by decide +kernel
theorem dX6_findWay_9 : decode cX6_findWay 9 = .ok (.iload_n 1, 1) := by decide +kernel
theorem dX6_findWay_10 : decode cX6_findWay 10 = .ok (.istore_n 2, 1) := by decide +kernel
theorem dX6_findWay_11 : decode cX6_findWay 11 = .ok (.iload_n 2, 1) := by decide +kernel
theorem dX6_findWay_12 : decode cX6_findWay 12 = .ok (.ifCond .lt 98, 3) := by decide +kernel
theorem dX6_findWay_15 : decode cX6_findWay 15 = .ok (.iload_n 2, 1) := by decide +kernel
theorem dX6_findWay_16 : decode cX6_findWay 16 = .ok (.iload_n 1, 1) := by decide +kernel
theorem dX6_findWay_17 : decode cX6_findWay 17 = .ok (.if_icmp .ne 7, 3) := by decide +kernel
theorem dX6_findWay_20 : decode cX6_findWay 20 = .ok (.iconst 1, 1) := by decide +kernel
theorem dX6_findWay_21 : decode cX6_findWay 21 = .ok (.goto 4, 3) := by decide +kernel
theorem dX6_findWay_24 : decode cX6_findWay 24 = .ok (.iconst 0, 1) := by decide +kernel
theorem dX6_findWay_25 : decode cX6_findWay 25 = .ok (.istore_n 3, 1) := by decide +kernel
theorem dX6_findWay_26 : decode cX6_findWay 26 = .ok (.iconst 0, 1) := by decide +kernel
theorem dX6_findWay_27 : decode cX6_findWay 27 = .ok (.istore 4, 2) := by decide +kernel
theorem dX6_findWay_29 : decode cX6_findWay 29 = .ok (.iload 4, 2) := by decide +kernel
theorem dX6_findWay_31 : decode cX6_findWay 31 = .ok (.aload_n 0, 1) := by decide +kernel
theorem dX6_findWay_32 : decode cX6_findWay 32 = .ok (.getfield 234, 3) := by decide +kernel
theorem dX6_findWay_35 : decode cX6_findWay 35 = .ok (.if_icmp .ge 42, 3) := by decide +kernel
theorem dX6_findWay_38 : decode cX6_findWay 38 = .ok (.iload_n 3, 1) := by decide +kernel
theorem dX6_findWay_39 : decode cX6_findWay 39 = .ok (.ifCond .ne 26, 3) := by decide +kernel
theorem dX6_findWay_42 : decode cX6_findWay 42 = .ok (.iload_n 2, 1) := by decide +kernel
theorem dX6_findWay_43 : decode cX6_findWay 43 = .ok (.iload 4, 2) := by decide +kernel
theorem dX6_findWay_45 : decode cX6_findWay 45 = .ok (.invokestatic 161, 3) := by decide +kernel
theorem dX6_findWay_48 : decode cX6_findWay 48 = .ok (.ifCond .ne 21, 3) := by decide +kernel
theorem dX6_findWay_51 : decode cX6_findWay 51 = .ok (.aload_n 0, 1) := by decide +kernel
theorem dX6_findWay_52 : decode cX6_findWay 52 = .ok (.getfield 49, 3) := by decide +kernel
theorem dX6_findWay_55 : decode cX6_findWay 55 = .ok (.iload_n 2, 1) := by decide +kernel
theorem dX6_findWay_56 : decode cX6_findWay 56 = .ok (.iconst 1, 1) := by decide +kernel
theorem dX6_findWay_57 : decode cX6_findWay 57 = .ok (.iload 4, 2) := by decide +kernel
theorem dX6_findWay_59 : decode cX6_findWay 59 = .ok (.ishl, 1) := by decide +kernel
theorem dX6_findWay_60 : decode cX6_findWay 60 = .ok (.ior, 1) := by decide +kernel
theorem dX6_findWay_61 : decode cX6_findWay 61 = .ok (.baload, 1) := by decide +kernel
theorem dX6_findWay_62 : decode cX6_findWay 62 = .ok (.ifCond .eq 7, 3) := by decide +kernel
theorem dX6_findWay_65 : decode cX6_findWay 65 = .ok (.iconst 1, 1) := by decide +kernel
theorem dX6_findWay_66 : decode cX6_findWay 66 = .ok (.goto 4, 3) := by decide +kernel
theorem dX6_findWay_69 : decode cX6_findWay 69 = .ok (.iconst 0, 1) := by decide +kernel
theorem dX6_findWay_70 : decode cX6_findWay 70 = .ok (.istore_n 3, 1) := by decide +kernel
theorem dX6_findWay_71 : decode cX6_findWay 71 = .ok (.iinc 4 1, 3) := by decide +kernel
theorem dX6_findWay_74 : decode cX6_findWay 74 = .ok (.goto (-45), 3) := by decide +kernel
theorem dX6_findWay_77 : decode cX6_findWay 77 = .ok (.aload_n 0, 1) := by decide +kernel
theorem dX6_findWay_78 : decode cX6_findWay 78 = .ok (.getfield 49, 3) := by decide +kernel
theorem dX6_findWay_81 : decode cX6_findWay 81 = .ok (.iload_n 2, 1) := by decide +kernel
theorem dX6_findWay_82 : decode cX6_findWay 82 = .ok (.iload_n 3, 1) := by decide +kernel
theorem dX6_findWay_83 : decode cX6_findWay 83 = .ok (.ifCond .eq 19, 3) := by decide +kernel
theorem dX6_findWay_86 : decode cX6_findWay 86 = .ok (.iload_n 2, 1) := by decide +kernel
theorem dX6_findWay_87 : decode cX6_findWay 87 = .ok (.ifCond .eq 11, 3) := by decide +kernel
theorem dX6_findWay_90 : decode cX6_findWay 90 = .ok (.aload_n 0, 1) := by decide +kernel
theorem dX6_findWay_91 : decode cX6_findWay 91 = .ok (.iload_n 2, 1) := by decide +kernel
theorem dX6_findWay_92 : decode cX6_findWay 92 = .ok (.invokevirtual 237, 3) := by decide +kernel
theorem dX6_findWay_95 : decode cX6_findWay 95 = .ok (.ifCond .eq 7, 3) := by decide +kernel
theorem dX6_findWay_98 : decode cX6_findWay 98 = .ok (.iconst 1, 1) := by decide +kernel
theorem dX6_findWay_99 : decode cX6_findWay 99 = .ok (.goto 4, 3) := by decide +kernel
theorem dX6_findWay_102 : decode cX6_findWay 102 = .ok (.iconst 0, 1) := by decide +kernel
theorem dX6_findWay_103 : decode cX6_findWay 103 = .ok (.bastore, 1) := by decide +kernel
theorem dX6_findWay_104 : decode cX6_findWay 104 = .ok (.iinc 2 (-1), 3) := by decide +kernel
theorem dX6_findWay_107 : decode cX6_findWay 107 = .ok (.goto (-96), 3) := by decide +kernel
theorem dX6_findWay_110 : decode cX6_findWay 110 = .ok (.return_, 1) := by decide +kernel
theorem dX6_movedAs_0 : decode cX6_movedAs 0 = .ok (.iconst 0, 1) := by decide +kernel
theorem dX6_movedAs_1 : decode cX6_movedAs 1 = .ok (.istore_n 2, 1) := by decide +kernel
theorem dX6_movedAs_2 : decode cX6_movedAs 2 = .ok (.iconst 0, 1) := by decide +kernel
theorem dX6_movedAs_3 : decode cX6_movedAs 3 = .ok (.istore_n 3, 1) := by decide +kernel
theorem dX6_movedAs_4 : decode cX6_movedAs 4 = .ok (.iconst 0, 1) := by decide +kernel
theorem dX6_movedAs_5 : decode cX6_movedAs 5 = .ok (.istore 4, 2) := by decide +kernel
theorem dX6_movedAs_7 : decode cX6_movedAs 7 = .ok (.iload 4, 2) := by decide +kernel
theorem dX6_movedAs_9 : decode cX6_movedAs 9 = .ok (.iload_n 1, 1) := by decide +kernel
theorem dX6_movedAs_10 : decode cX6_movedAs 10 = .ok (.if_icmp .gt 56, 3) := by decide +kernel
theorem dX6_movedAs_13 : decode cX6_movedAs 13 = .ok (.iconst 0, 1) := by decide +kernel
theorem dX6_movedAs_14 : decode cX6_movedAs 14 = .ok (.istore 5, 2) := by decide +kernel
theorem dX6_movedAs_16 : decode cX6_movedAs 16 = .ok (.iload_n 2, 1) := by decide +kernel
theorem dX6_movedAs_17 : decode cX6_movedAs 17 = .ok (.iload 5, 2) := by decide +kernel
theorem dX6_movedAs_19 : decode cX6_movedAs 19 = .ok (.invokestatic 161, 3) := by decide +kernel
theorem dX6_movedAs_22 : decode cX6_movedAs 22 = .ok (.ifCond .ne 17, 3) := by decide +kernel
theorem dX6_movedAs_25 : decode cX6_movedAs 25 = .ok (.aload_n 0, 1) := by decide +kernel
theorem dX6_movedAs_26 : decode cX6_movedAs 26 = .ok (.getfield 49, 3) := by decide +kernel
theorem dX6_movedAs_29 : decode cX6_movedAs 29 = .ok (.iload_n 2, 1) := by decide +kernel
theorem dX6_movedAs_30 : decode cX6_movedAs 30 = .ok (.iconst 1, 1) := by decide +kernel
theorem dX6_movedAs_31 : decode cX6_movedAs 31 = .ok (.iload 5, 2) := by decide +kernel
theorem dX6_movedAs_33 : decode cX6_movedAs 33 = .ok (.ishl, 1) := by decide +kernel
theorem dX6_movedAs_34 : decode cX6_movedAs 34 = .ok (.ior, 1) := by decide +kernel
theorem dX6_movedAs_35 : decode cX6_movedAs 35 = .ok (.baload, 1) := by decide +kernel
theorem dX6_movedAs_36 : decode cX6_movedAs 36 = .ok (.ifCond .ne 9, 3) := by decide +kernel
theorem dX6_movedAs_39 : decode cX6_movedAs 39 = .ok (.iinc 5 1, 3) := by decide +kernel
theorem dX6_movedAs_42 : decode cX6_movedAs 42 = .ok (.goto (-26), 3) := by decide +kernel
theorem dX6_movedAs_45 : decode cX6_movedAs 45 = .ok (.iload_n 2, 1) := by decide +kernel
theorem dX6_movedAs_46 : decode cX6_movedAs 46 = .ok (.iconst 1, 1) := by decide +kernel
theorem dX6_movedAs_47 : decode cX6_movedAs 47 = .ok (.iload 5, 2) := by decide +kernel
theorem dX6_movedAs_49 : decode cX6_movedAs 49 = .ok (.ishl, 1) := by decide +kernel
theorem dX6_movedAs_50 : decode cX6_movedAs 50 = .ok (.ior, 1) := by decide +kernel
theorem dX6_movedAs_51 : decode cX6_movedAs 51 = .ok (.istore_n 2, 1) := by decide +kernel
theorem dX6_movedAs_52 : decode cX6_movedAs 52 = .ok (.aload_n 0, 1) := by decide +kernel
theorem dX6_movedAs_53 : decode cX6_movedAs 53 = .ok (.getfield 43, 3) := by decide +kernel
theorem dX6_movedAs_56 : decode cX6_movedAs 56 = .ok (.iload 5, 2) := by decide +kernel
theorem dX6_movedAs_58 : decode cX6_movedAs 58 = .ok (.iaload, 1) := by decide +kernel
theorem dX6_movedAs_59 : decode cX6_movedAs 59 = .ok (.istore_n 3, 1) := by decide +kernel
theorem dX6_movedAs_60 : decode cX6_movedAs 60 = .ok (.iinc 4 1, 3) := by decide +kernel
theorem dX6_movedAs_63 : decode cX6_movedAs 63 = .ok (.goto (-56), 3) := by decide +kernel
theorem dX6_movedAs_66 : decode cX6_movedAs 66 = .ok (.iload_n 3, 1) := by decide +kernel
theorem dX6_movedAs_67 : decode cX6_movedAs 67 = .ok (.ireturn, 1) := by decide +kernel
theorem dX6_way_0 : decode cX6_way 0 = .ok (.iload_n 1, 1) := by decide +kernel
theorem dX6_way_1 : decode cX6_way 1 = .ok (.invokestatic 240, 3) := by decide +kernel
theorem dX6_way_4 : decode cX6_way 4 = .ok (.ifCond .ne 10, 3) := by decide +kernel
theorem dX6_way_7 : decode cX6_way 7 = .ok (.aload_n 0, 1) := by decide +kernel
theorem dX6_way_8 : decode cX6_way 8 = .ok (.ldc 78, 2) := by decide +kernel
theorem dX6_way_10 : decode cX6_way 10 = .ok (.invokevirtual 125, 3) := by decide +kernel
theorem dX6_way_13 : decode cX6_way 13 = .ok (.ireturn, 1) := by decide +kernel
theorem dX6_way_14 : decode cX6_way 14 = .ok (.aload_n 0, 1) := by decide +kernel
theorem dX6_way_15 : decode cX6_way 15 = .ok (.getfield 56, 3) := by decide +kernel
theorem dX6_way_18 : decode cX6_way 18 = .ok (.iload_n 1, 1) := by decide +kernel
theorem dX6_way_19 : decode cX6_way 19 = .ok (.iaload, 1) := by decide +kernel
theorem dX6_way_20 : decode cX6_way 20 = .ok (.ifCond .ne 10, 3) := by decide +kernel
theorem dX6_way_23 : decode cX6_way 23 = .ok (.aload_n 0, 1) := by decide +kernel
theorem dX6_way_24 : decode cX6_way 24 = .ok (.ldc 243, 2) := by decide +kernel
theorem dX6_way_26 : decode cX6_way 26 = .ok (.invokevirtual 125, 3) := by decide +kernel
theorem dX6_way_29 : decode cX6_way 29 = .ok (.ireturn, 1) := by decide +kernel
theorem dX6_way_30 : decode cX6_way 30 = .ok (.iload_n 2, 1) := by decide +kernel
theorem dX6_way_31 : decode cX6_way 31 = .ok (.iconst (-1), 1) := by decide +kernel
theorem dX6_way_32 : decode cX6_way 32 = .ok (.bipush 7, 2) := by decide +kernel
theorem dX6_way_34 : decode cX6_way 34 = .ok (.invokestatic 79, 3) := by decide +kernel
theorem dX6_way_37 : decode cX6_way 37 = .ok (.ifCond .ne 10, 3) := by decide +kernel
theorem dX6_way_40 : decode cX6_way 40 = .ok (.aload_n 0, 1) := by decide +kernel
theorem dX6_way_41 : decode cX6_way 41 = .ok (.ldc 78, 2) := by decide +kernel
theorem dX6_way_43 : decode cX6_way 43 = .ok (.invokevirtual 125, 3) := by decide +kernel
theorem dX6_way_46 : decode cX6_way 46 = .ok (.ireturn, 1) := by decide +kernel
theorem dX6_way_47 : decode cX6_way 47 = .ok (.iconst 0, 1) := by decide +kernel
theorem dX6_way_48 : decode cX6_way 48 = .ok (.istore_n 3, 1) := by decide +kernel
theorem dX6_way_49 : decode cX6_way 49 = .ok (.iconst 0, 1) := by decide +kernel
theorem dX6_way_50 : decode cX6_way 50 = .ok (.istore 4, 2) := by decide +kernel
theorem dX6_way_52 : decode cX6_way 52 = .ok (.iconst 0, 1) := by decide +kernel
theorem dX6_way_53 : decode cX6_way 53 = .ok (.istore 5, 2) := by decide +kernel
theorem dX6_way_55 : decode cX6_way 55 = .ok (.iload 5, 2) := by decide +kernel
theorem dX6_way_57 : decode cX6_way 57 = .ok (.aload_n 0, 1) := by decide +kernel
theorem dX6_way_58 : decode cX6_way 58 = .ok (.getfield 83, 3) := by decide +kernel
theorem dX6_way_61 : decode cX6_way 61 = .ok (.if_icmp .ge 110, 3) := by decide +kernel
theorem dX6_way_64 : decode cX6_way 64 = .ok (.iload 5, 2) := by decide +kernel
theorem dX6_way_66 : decode cX6_way 66 = .ok (.aload_n 0, 1) := by decide +kernel
theorem dX6_way_67 : decode cX6_way 67 = .ok (.getfield 59, 3) := by decide +kernel
theorem dX6_way_70 : decode cX6_way 70 = .ok (.iload_n 1, 1) := by decide +kernel
theorem dX6_way_71 : decode cX6_way 71 = .ok (.iaload, 1) := by decide +kernel
theorem dX6_way_72 : decode cX6_way 72 = .ok (.if_icmp .ge 99, 3) := by decide +kernel
theorem dX6_way_75 : decode cX6_way 75 = .ok (.aload_n 0, 1) := by decide +kernel
theorem dX6_way_76 : decode cX6_way 76 = .ok (.getfield 62, 3) := by decide +kernel
theorem dX6_way_79 : decode cX6_way 79 = .ok (.bipush 40, 2) := by decide +kernel
theorem dX6_way_81 : decode cX6_way 81 = .ok (.iload_n 1, 1) := by decide +kernel
theorem dX6_way_82 : decode cX6_way 82 = .ok (.imul, 1) := by decide +kernel
theorem dX6_way_83 : decode cX6_way 83 = .ok (.iload 5, 2) := by decide +kernel
theorem dX6_way_85 : decode cX6_way 85 = .ok (.iadd, 1) := by decide +kernel
theorem dX6_way_86 : decode cX6_way 86 = .ok (.laload, 1) := by decide +kernel
theorem dX6_way_87 : decode cX6_way 87 = .ok (.lstore 6, 2) := by decide +kernel
theorem dX6_way_89 : decode cX6_way 89 = .ok (.lload 6, 2) := by decide +kernel
theorem dX6_way_91 : decode cX6_way 91 = .ok (.lconst 0, 1) := by decide +kernel
theorem dX6_way_92 : decode cX6_way 92 = .ok (.lcmp, 1) := by decide +kernel
theorem dX6_way_93 : decode cX6_way 93 = .ok (.ifCond .lt 72, 3) := by decide +kernel
theorem dX6_way_96 : decode cX6_way 96 = .ok (.lload 6, 2) := by decide +kernel
theorem dX6_way_98 : decode cX6_way 98 = .ok (.ldc2_w 244, 3) := by decide +kernel
theorem dX6_way_101 : decode cX6_way 101 = .ok (.lcmp, 1) := by decide +kernel
theorem dX6_way_102 : decode cX6_way 102 = .ok (.ifCond .gt 63, 3) := by decide +kernel
theorem dX6_way_105 : decode cX6_way 105 = .ok (.lload 6, 2) := by decide +kernel
theorem dX6_way_107 : decode cX6_way 107 = .ok (.aload_n 0, 1) := by decide +kernel
theorem dX6_way_108 : decode cX6_way 108 = .ok (.iload 5, 2) := by decide +kernel
theorem dX6_way_110 : decode cX6_way 110 = .ok (.invokevirtual 93, 3) := by decide +kernel
theorem dX6_way_113 : decode cX6_way 113 = .ok (.i2l, 1) := by decide +kernel
theorem dX6_way_114 : decode cX6_way 114 = .ok (.lcmp, 1) := by decide +kernel
theorem dX6_way_115 : decode cX6_way 115 = .ok (.ifCond .eq 50, 3) := by decide +kernel
theorem dX6_way_118 : decode cX6_way 118 = .ok (.iload_n 3, 1) := by decide +kernel
theorem dX6_way_119 : decode cX6_way 119 = .ok (.bipush 8, 2) := by decide +kernel
theorem dX6_way_121 : decode cX6_way 121 = .ok (.if_icmp .ge 20, 3) := by decide +kernel
theorem dX6_way_124 : decode cX6_way 124 = .ok (.aload_n 0, 1) := by decide +kernel
theorem dX6_way_125 : decode cX6_way 125 = .ok (.getfield 43, 3) := by decide +kernel
theorem dX6_way_128 : decode cX6_way 128 = .ok (.iload_n 3, 1) := by decide +kernel
theorem dX6_way_129 : decode cX6_way 129 = .ok (.iload 5, 2) := by decide +kernel
theorem dX6_way_131 : decode cX6_way 131 = .ok (.iastore, 1) := by decide +kernel
theorem dX6_way_132 : decode cX6_way 132 = .ok (.aload_n 0, 1) := by decide +kernel
theorem dX6_way_133 : decode cX6_way 133 = .ok (.getfield 46, 3) := by decide +kernel
theorem dX6_way_136 : decode cX6_way 136 = .ok (.iload_n 3, 1) := by decide +kernel
theorem dX6_way_137 : decode cX6_way 137 = .ok (.lload 6, 2) := by decide +kernel
theorem dX6_way_139 : decode cX6_way 139 = .ok (.l2i, 1) := by decide +kernel
theorem dX6_way_140 : decode cX6_way 140 = .ok (.iastore, 1) := by decide +kernel
theorem dX6_way_141 : decode cX6_way 141 = .ok (.iinc 3 1, 3) := by decide +kernel
theorem dX6_way_144 : decode cX6_way 144 = .ok (.iload 4, 2) := by decide +kernel
theorem dX6_way_146 : decode cX6_way 146 = .ok (.ifCond .ne 12, 3) := by decide +kernel
theorem dX6_way_149 : decode cX6_way 149 = .ok (.aload_n 0, 1) := by decide +kernel
theorem dX6_way_150 : decode cX6_way 150 = .ok (.iload 5, 2) := by decide +kernel
theorem dX6_way_152 : decode cX6_way 152 = .ok (.invokevirtual 97, 3) := by decide +kernel
theorem dX6_way_155 : decode cX6_way 155 = .ok (.ifCond .ne 7, 3) := by decide +kernel
theorem dX6_way_158 : decode cX6_way 158 = .ok (.iconst 1, 1) := by decide +kernel
theorem dX6_way_159 : decode cX6_way 159 = .ok (.goto 4, 3) := by decide +kernel
theorem dX6_way_162 : decode cX6_way 162 = .ok (.iconst 0, 1) := by decide +kernel
theorem dX6_way_163 : decode cX6_way 163 = .ok (.istore 4, 2) := by decide +kernel
theorem dX6_way_165 : decode cX6_way 165 = .ok (.iinc 5 1, 3) := by decide +kernel
theorem dX6_way_168 : decode cX6_way 168 = .ok (.goto (-113), 3) := by decide +kernel
theorem dX6_way_171 : decode cX6_way 171 = .ok (.iload_n 3, 1) := by decide +kernel
theorem dX6_way_172 : decode cX6_way 172 = .ok (.bipush 8, 2) := by decide +kernel
theorem dX6_way_174 : decode cX6_way 174 = .ok (.if_icmp .le 10, 3) := by decide +kernel
theorem dX6_way_177 : decode cX6_way 177 = .ok (.aload_n 0, 1) := by decide +kernel
theorem dX6_way_178 : decode cX6_way 178 = .ok (.ldc 246, 2) := by decide +kernel
theorem dX6_way_180 : decode cX6_way 180 = .ok (.invokevirtual 125, 3) := by decide +kernel
theorem dX6_way_183 : decode cX6_way 183 = .ok (.ireturn, 1) := by decide +kernel
theorem dX6_way_184 : decode cX6_way 184 = .ok (.iload 4, 2) := by decide +kernel
theorem dX6_way_186 : decode cX6_way 186 = .ok (.ifCond .eq 10, 3) := by decide +kernel
theorem dX6_way_189 : decode cX6_way 189 = .ok (.aload_n 0, 1) := by decide +kernel
theorem dX6_way_190 : decode cX6_way 190 = .ok (.ldc 139, 2) := by decide +kernel
theorem dX6_way_192 : decode cX6_way 192 = .ok (.invokevirtual 125, 3) := by decide +kernel
theorem dX6_way_195 : decode cX6_way 195 = .ok (.ireturn, 1) := by decide +kernel
theorem dX6_way_196 : decode cX6_way 196 = .ok (.aload_n 0, 1) := by decide +kernel
theorem dX6_way_197 : decode cX6_way 197 = .ok (.iload_n 3, 1) := by decide +kernel
theorem dX6_way_198 : decode cX6_way 198 = .ok (.putfield 234, 3) := by decide +kernel
theorem dX6_way_201 : decode cX6_way 201 = .ok (.aload_n 0, 1) := by decide +kernel
theorem dX6_way_202 : decode cX6_way 202 = .ok (.invokevirtual 247, 3) := by decide +kernel
theorem dX6_way_205 : decode cX6_way 205 = .ok (.aload_n 0, 1) := by decide +kernel
theorem dX6_way_206 : decode cX6_way 206 = .ok (.getfield 49, 3) := by decide +kernel
theorem dX6_way_209 : decode cX6_way 209 = .ok (.iconst 0, 1) := by decide +kernel
theorem dX6_way_210 : decode cX6_way 210 = .ok (.baload, 1) := by decide +kernel
theorem dX6_way_211 : decode cX6_way 211 = .ok (.ifCond .eq 8, 3) := by decide +kernel
theorem dX6_way_214 : decode cX6_way 214 = .ok (.iload_n 2, 1) := by decide +kernel
theorem dX6_way_215 : decode cX6_way 215 = .ok (.iload_n 3, 1) := by decide +kernel
theorem dX6_way_216 : decode cX6_way 216 = .ok (.if_icmp .lt 10, 3) := by decide +kernel
theorem dX6_way_219 : decode cX6_way 219 = .ok (.aload_n 0, 1) := by decide +kernel
theorem dX6_way_220 : decode cX6_way 220 = .ok (.ldc 170, 2) := by decide +kernel
theorem dX6_way_222 : decode cX6_way 222 = .ok (.invokevirtual 125, 3) := by decide +kernel
theorem dX6_way_225 : decode cX6_way 225 = .ok (.ireturn, 1) := by decide +kernel
theorem dX6_way_226 : decode cX6_way 226 = .ok (.iload_n 2, 1) := by decide +kernel
theorem dX6_way_227 : decode cX6_way 227 = .ok (.ifCond .ge 7, 3) := by decide +kernel
theorem dX6_way_230 : decode cX6_way 230 = .ok (.iload_n 3, 1) := by decide +kernel
theorem dX6_way_231 : decode cX6_way 231 = .ok (.goto 8, 3) := by decide +kernel
theorem dX6_way_234 : decode cX6_way 234 = .ok (.aload_n 0, 1) := by decide +kernel
theorem dX6_way_235 : decode cX6_way 235 = .ok (.iload_n 2, 1) := by decide +kernel
theorem dX6_way_236 : decode cX6_way 236 = .ok (.invokevirtual 250, 3) := by decide +kernel
theorem dX6_way_239 : decode cX6_way 239 = .ok (.ireturn, 1) := by decide +kernel
theorem dX6_feed_0 : decode cX6_feed 0 = .ok (.iload_n 2, 1) := by decide +kernel
theorem dX6_feed_1 : decode cX6_feed 1 = .ok (.iconst 1, 1) := by decide +kernel
theorem dX6_feed_2 : decode cX6_feed 2 = .ok (.iconst 4, 1) := by decide +kernel
theorem dX6_feed_3 : decode cX6_feed 3 = .ok (.invokestatic 79, 3) := by decide +kernel
theorem dX6_feed_6 : decode cX6_feed 6 = .ok (.ifCond .ne 10, 3) := by decide +kernel
theorem dX6_feed_9 : decode cX6_feed 9 = .ok (.aload_n 0, 1) := by decide +kernel
theorem dX6_feed_10 : decode cX6_feed 10 = .ok (.ldc 78, 2) := by decide +kernel
theorem dX6_feed_12 : decode cX6_feed 12 = .ok (.invokevirtual 125, 3) := by decide +kernel
theorem dX6_feed_15 : decode cX6_feed 15 = .ok (.ireturn, 1) := by decide +kernel
theorem dX6_feed_16 : decode cX6_feed 16 = .ok (.aload_n 0, 1) := by decide +kernel
theorem dX6_feed_17 : decode cX6_feed 17 = .ok (.getfield 253, 3) := by decide +kernel
theorem dX6_feed_20 : decode cX6_feed 20 = .ok (.iload_n 2, 1) := by decide +kernel
theorem dX6_feed_21 : decode cX6_feed 21 = .ok (.iadd, 1) := by decide +kernel
theorem dX6_feed_22 : decode cX6_feed 22 = .ok (.bipush 120, 2) := by decide +kernel
theorem dX6_feed_24 : decode cX6_feed 24 = .ok (.if_icmp .le 10, 3) := by decide +kernel
theorem dX6_feed_27 : decode cX6_feed 27 = .ok (.aload_n 0, 1) := by decide +kernel
theorem dX6_feed_28 : decode cX6_feed 28 = .ok (.ldc 131, 2) := by decide +kernel
theorem dX6_feed_30 : decode cX6_feed 30 = .ok (.invokevirtual 125, 3) := by decide +kernel
theorem dX6_feed_33 : decode cX6_feed 33 = .ok (.ireturn, 1) := by decide +kernel
theorem dX6_feed_34 : decode cX6_feed 34 = .ok (.iload_n 2, 1) := by decide +kernel
theorem dX6_feed_35 : decode cX6_feed 35 = .ok (.iconst 1, 1) := by decide +kernel
theorem dX6_feed_36 : decode cX6_feed 36 = .ok (.isub, 1) := by decide +kernel
theorem dX6_feed_37 : decode cX6_feed 37 = .ok (.istore_n 3, 1) := by decide +kernel
theorem dX6_feed_38 : decode cX6_feed 38 = .ok (.iload_n 3, 1) := by decide +kernel
theorem dX6_feed_39 : decode cX6_feed 39 = .ok (.ifCond .lt 38, 3) := by decide +kernel
theorem dX6_feed_42 : decode cX6_feed 42 = .ok (.aload_n 0, 1) := by decide +kernel
theorem dX6_feed_43 : decode cX6_feed 43 = .ok (.getfield 53, 3) := by decide +kernel
theorem dX6_feed_46 : decode cX6_feed 46 = .ok (.aload_n 0, 1) := by decide +kernel
theorem dX6_feed_47 : decode cX6_feed 47 = .ok (.getfield 253, 3) := by decide +kernel
theorem dX6_feed_50 : decode cX6_feed 50 = .ok (.iload_n 1, 1) := by decide +kernel
theorem dX6_feed_51 : decode cX6_feed 51 = .ok (.bipush 8, 2) := by decide +kernel
theorem dX6_feed_53 : decode cX6_feed 53 = .ok (.iload_n 3, 1) := by decide +kernel
theorem dX6_feed_54 : decode cX6_feed 54 = .ok (.imul, 1) := by decide +kernel
theorem dX6_feed_55 : decode cX6_feed 55 = .ok (.ishr, 1) := by decide +kernel
theorem dX6_feed_56 : decode cX6_feed 56 = .ok (.sipush 255, 3) := by decide +kernel
theorem dX6_feed_59 : decode cX6_feed 59 = .ok (.iand, 1) := by decide +kernel
theorem dX6_feed_60 : decode cX6_feed 60 = .ok (.iastore, 1) := by decide +kernel
theorem dX6_feed_61 : decode cX6_feed 61 = .ok (.aload_n 0, 1) := by decide +kernel
theorem dX6_feed_62 : decode cX6_feed 62 = .ok (.dup, 1) := by decide +kernel
theorem dX6_feed_63 : decode cX6_feed 63 = .ok (.getfield 253, 3) := by decide +kernel
theorem dX6_feed_66 : decode cX6_feed 66 = .ok (.iconst 1, 1) := by decide +kernel
theorem dX6_feed_67 : decode cX6_feed 67 = .ok (.iadd, 1) := by decide +kernel
theorem dX6_feed_68 : decode cX6_feed 68 = .ok (.putfield 253, 3) := by decide +kernel
theorem dX6_feed_71 : decode cX6_feed 71 = .ok (.iinc 3 (-1), 3) := by decide +kernel
theorem dX6_feed_74 : decode cX6_feed 74 = .ok (.goto (-36), 3) := by decide +kernel
theorem dX6_feed_77 : decode cX6_feed 77 = .ok (.aload_n 0, 1) := by decide +kernel
theorem dX6_feed_78 : decode cX6_feed 78 = .ok (.getfield 253, 3) := by decide +kernel
theorem dX6_feed_81 : decode cX6_feed 81 = .ok (.ireturn, 1) := by decide +kernel
theorem dX6_wipe_0 : decode cX6_wipe 0 = .ok (.aload_n 0, 1) := by decide +kernel
theorem dX6_wipe_1 : decode cX6_wipe 1 = .ok (.getfield 253, 3) := by decide +kernel
theorem dX6_wipe_4 : decode cX6_wipe 4 = .ok (.istore_n 1, 1) := by decide +kernel
theorem dX6_wipe_5 : decode cX6_wipe 5 = .ok (.aload_n 0, 1) := by decide +kernel
theorem dX6_wipe_6 : decode cX6_wipe 6 = .ok (.iconst 0, 1) := by decide +kernel
theorem dX6_wipe_7 : decode cX6_wipe 7 = .ok (.putfield 253, 3) := by decide +kernel
theorem dX6_wipe_10 : decode cX6_wipe 10 = .ok (.iload_n 1, 1) := by decide +kernel
theorem dX6_wipe_11 : decode cX6_wipe 11 = .ok (.ireturn, 1) := by decide +kernel
theorem dX6_byteAt_0 : decode cX6_byteAt 0 = .ok (.iload_n 1, 1) := by decide +kernel
theorem dX6_byteAt_1 : decode cX6_byteAt 1 = .ok (.aload_n 0, 1) := by decide +kernel
theorem dX6_byteAt_2 : decode cX6_byteAt 2 = .ok (.getfield 253, 3) := by decide +kernel
theorem dX6_byteAt_5 : decode cX6_byteAt 5 = .ok (.if_icmp .ge 12, 3) := by decide +kernel
theorem dX6_byteAt_8 : decode cX6_byteAt 8 = .ok (.aload_n 0, 1) := by decide +kernel
theorem dX6_byteAt_9 : decode cX6_byteAt 9 = .ok (.getfield 53, 3) := by decide +kernel
theorem dX6_byteAt_12 : decode cX6_byteAt 12 = .ok (.iload_n 1, 1) := by decide +kernel
theorem dX6_byteAt_13 : decode cX6_byteAt 13 = .ok (.iaload, 1) := by decide +kernel
theorem dX6_byteAt_14 : decode cX6_byteAt 14 = .ok (.goto 4, 3) := by decide +kernel
theorem dX6_byteAt_17 : decode cX6_byteAt 17 = .ok (.iconst (-1), 1) := by decide +kernel
theorem dX6_byteAt_18 : decode cX6_byteAt 18 = .ok (.ireturn, 1) := by decide +kernel
theorem dX6_isLetter_0 : decode cX6_isLetter 0 = .ok (.iload_n 0, 1) := by decide +kernel
theorem dX6_isLetter_1 : decode cX6_isLetter 1 = .ok (.bipush 97, 2) := by decide +kernel
theorem dX6_isLetter_3 : decode cX6_isLetter 3 = .ok (.bipush 122, 2) := by decide +kernel
theorem dX6_isLetter_5 : decode cX6_isLetter 5 = .ok (.invokestatic 79, 3) := by decide +kernel
theorem dX6_isLetter_8 : decode cX6_isLetter 8 = .ok (.ireturn, 1) := by decide +kernel
theorem dX6_isDigit_0 : decode cX6_isDigit 0 = .ok (.iload_n 0, 1) := by decide +kernel
theorem dX6_isDigit_1 : decode cX6_isDigit 1 = .ok (.bipush 48, 2) := by decide +kernel
theorem dX6_isDigit_3 : decode cX6_isDigit 3 = .ok (.bipush 57, 2) := by decide +kernel
theorem dX6_isDigit_5 : decode cX6_isDigit 5 = .ok (.invokestatic 79, 3) := by decide +kernel
theorem dX6_isDigit_8 : decode cX6_isDigit 8 = .ok (.ireturn, 1) := by decide +kernel
theorem dX6_advance_0 : decode cX6_advance 0 = .ok (.aload_n 0, 1) := by decide +kernel
theorem dX6_advance_1 : decode cX6_advance 1 = .ok (.aload_n 0, 1) := by decide +kernel
theorem dX6_advance_2 : decode cX6_advance 2 = .ok (.getfield 256, 3) := by decide +kernel
theorem dX6_advance_5 : decode cX6_advance 5 = .ok (.putfield 259, 3) := by decide +kernel
theorem dX6_advance_8 : decode cX6_advance 8 = .ok (.aload_n 0, 1) := by decide +kernel
theorem dX6_advance_9 : decode cX6_advance 9 = .ok (.aload_n 0, 1) := by decide +kernel
theorem dX6_advance_10 : decode cX6_advance 10 = .ok (.getfield 259, 3) := by decide +kernel
theorem dX6_advance_13 : decode cX6_advance 13 = .ok (.invokevirtual 262, 3) := by decide +kernel
theorem dX6_advance_16 : decode cX6_advance 16 = .ok (.bipush 32, 2) := by decide +kernel
theorem dX6_advance_18 : decode cX6_advance 18 = .ok (.if_icmp .ne 16, 3) := by decide +kernel
theorem dX6_advance_21 : decode cX6_advance 21 = .ok (.aload_n 0, 1) := by decide +kernel
theorem dX6_advance_22 : decode cX6_advance 22 = .ok (.dup, 1) := by decide +kernel
theorem dX6_advance_23 : decode cX6_advance 23 = .ok (.getfield 259, 3) := by decide +kernel
theorem dX6_advance_26 : decode cX6_advance 26 = .ok (.iconst 1, 1) := by decide +kernel
theorem dX6_advance_27 : decode cX6_advance 27 = .ok (.iadd, 1) := by decide +kernel
theorem dX6_advance_28 : decode cX6_advance 28 = .ok (.putfield 259, 3) := by decide +kernel
theorem dX6_advance_31 : decode cX6_advance 31 = .ok (.goto (-23), 3) := by decide +kernel
theorem dX6_advance_34 : decode cX6_advance 34 = .ok (.aload_n 0, 1) := by decide +kernel
theorem dX6_advance_35 : decode cX6_advance 35 = .ok (.aload_n 0, 1) := by decide +kernel
theorem dX6_advance_36 : decode cX6_advance 36 = .ok (.getfield 259, 3) := by decide +kernel
theorem dX6_advance_39 : decode cX6_advance 39 = .ok (.putfield 256, 3) := by decide +kernel
theorem dX6_advance_42 : decode cX6_advance 42 = .ok (.aload_n 0, 1) := by decide +kernel
theorem dX6_advance_43 : decode cX6_advance 43 = .ok (.aload_n 0, 1) := by decide +kernel
theorem dX6_advance_44 : decode cX6_advance 44 = .ok (.getfield 259, 3) := by decide +kernel
theorem dX6_advance_47 : decode cX6_advance 47 = .ok (.invokevirtual 262, 3) := by decide +kernel
theorem dX6_advance_50 : decode cX6_advance 50 = .ok (.istore_n 1, 1) := by decide +kernel
theorem dX6_advance_51 : decode cX6_advance 51 = .ok (.aload_n 0, 1) := by decide +kernel
theorem dX6_advance_52 : decode cX6_advance 52 = .ok (.iload_n 1, 1) := by decide +kernel
theorem dX6_advance_53 : decode cX6_advance 53 = .ok (.ifCond .ge 7, 3) := by decide +kernel
theorem dX6_advance_56 : decode cX6_advance 56 = .ok (.iconst 0, 1) := by decide +kernel
theorem dX6_advance_57 : decode cX6_advance 57 = .ok (.goto 26, 3) := by decide +kernel
theorem dX6_advance_60 : decode cX6_advance 60 = .ok (.iload_n 1, 1) := by decide +kernel
theorem dX6_advance_61 : decode cX6_advance 61 = .ok (.invokestatic 265, 3) := by decide +kernel
theorem dX6_advance_64 : decode cX6_advance 64 = .ok (.ifCond .eq 7, 3) := by decide +kernel
theorem dX6_advance_67 : decode cX6_advance 67 = .ok (.iconst 1, 1) := by decide +kernel
theorem dX6_advance_68 : decode cX6_advance 68 = .ok (.goto 15, 3) := by decide +kernel
theorem dX6_advance_71 : decode cX6_advance 71 = .ok (.iload_n 1, 1) := by decide +kernel
theorem dX6_advance_72 : decode cX6_advance 72 = .ok (.invokestatic 268, 3) := by decide +kernel
theorem dX6_advance_75 : decode cX6_advance 75 = .ok (.ifCond .eq 7, 3) := by decide +kernel
theorem dX6_advance_78 : decode cX6_advance 78 = .ok (.iconst 2, 1) := by decide +kernel
theorem dX6_advance_79 : decode cX6_advance 79 = .ok (.goto 4, 3) := by decide +kernel
theorem dX6_advance_82 : decode cX6_advance 82 = .ok (.iconst 3, 1) := by decide +kernel
theorem dX6_advance_83 : decode cX6_advance 83 = .ok (.putfield 271, 3) := by decide +kernel
theorem dX6_advance_86 : decode cX6_advance 86 = .ok (.aload_n 0, 1) := by decide +kernel
theorem dX6_advance_87 : decode cX6_advance 87 = .ok (.lconst 0, 1) := by decide +kernel
theorem dX6_advance_88 : decode cX6_advance 88 = .ok (.putfield 274, 3) := by decide +kernel
theorem dX6_advance_91 : decode cX6_advance 91 = .ok (.aload_n 0, 1) := by decide +kernel
theorem dX6_advance_92 : decode cX6_advance 92 = .ok (.aload_n 0, 1) := by decide +kernel
theorem dX6_advance_93 : decode cX6_advance 93 = .ok (.getfield 271, 3) := by decide +kernel
theorem dX6_advance_96 : decode cX6_advance 96 = .ok (.iconst 2, 1) := by decide +kernel
theorem dX6_advance_97 : decode cX6_advance 97 = .ok (.if_icmp .ne 7, 3) := by decide +kernel
theorem dX6_advance_100 : decode cX6_advance 100 = .ok (.iconst 0, 1) := by decide +kernel
theorem dX6_advance_101 : decode cX6_advance 101 = .ok (.goto 4, 3) := by decide +kernel
theorem dX6_advance_104 : decode cX6_advance 104 = .ok (.iload_n 1, 1) := by decide +kernel
theorem dX6_advance_105 : decode cX6_advance 105 = .ok (.putfield 278, 3) := by decide +kernel
theorem dX6_advance_108 : decode cX6_advance 108 = .ok (.aload_n 0, 1) := by decide +kernel
theorem dX6_advance_109 : decode cX6_advance 109 = .ok (.getfield 271, 3) := by decide +kernel
theorem dX6_advance_112 : decode cX6_advance 112 = .ok (.iconst 3, 1) := by decide +kernel
theorem dX6_advance_113 : decode cX6_advance 113 = .ok (.if_icmp .ne 13, 3) := by decide +kernel
theorem dX6_advance_116 : decode cX6_advance 116 = .ok (.aload_n 0, 1) := by decide +kernel
theorem dX6_advance_117 : decode cX6_advance 117 = .ok (.dup, 1) := by decide +kernel
theorem dX6_advance_118 : decode cX6_advance 118 = .ok (.getfield 256, 3) := by decide +kernel
theorem dX6_advance_121 : decode cX6_advance 121 = .ok (.iconst 1, 1) := by decide +kernel
theorem dX6_advance_122 : decode cX6_advance 122 = .ok (.iadd, 1) := by decide +kernel
theorem dX6_advance_123 : decode cX6_advance 123 = .ok (.putfield 256, 3) := by decide +kernel
theorem dX6_advance_126 : decode cX6_advance 126 = .ok (.aload_n 0, 1) := by decide +kernel
theorem dX6_advance_127 : decode cX6_advance 127 = .ok (.getfield 271, 3) := by decide +kernel
theorem dX6_advance_130 : decode cX6_advance 130 = .ok (.iconst 1, 1) := by decide +kernel
theorem dX6_advance_131 : decode cX6_advance 131 = .ok (.if_icmp .ne 76, 3) := by decide +kernel
theorem dX6_advance_134 : decode cX6_advance 134 = .ok (.aload_n 0, 1) := by decide +kernel
theorem dX6_advance_135 : decode cX6_advance 135 = .ok (.aload_n 0, 1) := by decide +kernel
theorem dX6_advance_136 : decode cX6_advance 136 = .ok (.getfield 256, 3) := by decide +kernel
theorem dX6_advance_139 : decode cX6_advance 139 = .ok (.invokevirtual 262, 3) := by decide +kernel
theorem dX6_advance_142 : decode cX6_advance 142 = .ok (.invokestatic 265, 3) := by decide +kernel
theorem dX6_advance_145 : decode cX6_advance 145 = .ok (.ifCond .eq 62, 3) := by decide +kernel
theorem dX6_advance_148 : decode cX6_advance 148 = .ok (.aload_n 0, 1) := by decide +kernel
theorem dX6_advance_149 : decode cX6_advance 149 = .ok (.aload_n 0, 1) := by decide +kernel
theorem dX6_advance_150 : decode cX6_advance 150 = .ok (.getfield 256, 3) := by decide +kernel
theorem dX6_advance_153 : decode cX6_advance 153 = .ok (.aload_n 0, 1) := by decide +kernel
theorem dX6_advance_154 : decode cX6_advance 154 = .ok (.getfield 259, 3) := by decide +kernel
theorem dX6_advance_157 : decode cX6_advance 157 = .ok (.isub, 1) := by decide +kernel
theorem dX6_advance_158 : decode cX6_advance 158 = .ok (.bipush 12, 2) := by decide +kernel
theorem dX6_advance_160 : decode cX6_advance 160 = .ok (.if_icmp .ge 28, 3) := by decide +kernel
theorem dX6_advance_163 : decode cX6_advance 163 = .ok (.ldc2_w 281, 3) := by decide +kernel
theorem dX6_advance_166 : decode cX6_advance 166 = .ok (.aload_n 0, 1) := by decide +kernel
theorem dX6_advance_167 : decode cX6_advance 167 = .ok (.getfield 274, 3) := by decide +kernel
theorem dX6_advance_170 : decode cX6_advance 170 = .ok (.lmul, 1) := by decide +kernel
theorem dX6_advance_171 : decode cX6_advance 171 = .ok (.aload_n 0, 1) := by decide +kernel
theorem dX6_advance_172 : decode cX6_advance 172 = .ok (.aload_n 0, 1) := by decide +kernel
theorem dX6_advance_173 : decode cX6_advance 173 = .ok (.getfield 256, 3) := by decide +kernel
theorem dX6_advance_176 : decode cX6_advance 176 = .ok (.invokevirtual 262, 3) := by decide +kernel
theorem dX6_advance_179 : decode cX6_advance 179 = .ok (.i2l, 1) := by decide +kernel
theorem dX6_advance_180 : decode cX6_advance 180 = .ok (.ladd, 1) := by decide +kernel
theorem dX6_advance_181 : decode cX6_advance 181 = .ok (.ldc2_w 283, 3) := by decide +kernel
theorem dX6_advance_184 : decode cX6_advance 184 = .ok (.lsub, 1) := by decide +kernel
theorem dX6_advance_185 : decode cX6_advance 185 = .ok (.goto 6, 3) := by decide +kernel
theorem dX6_advance_188 : decode cX6_advance 188 = .ok (.ldc2_w 285, 3) := by decide +kernel
theorem dX6_advance_191 : decode cX6_advance 191 = .ok (.putfield 274, 3) := by decide +kernel
theorem dX6_advance_194 : decode cX6_advance 194 = .ok (.aload_n 0, 1) := by decide +kernel
theorem dX6_advance_195 : decode cX6_advance 195 = .ok (.dup, 1) := by decide +kernel
theorem dX6_advance_196 : decode cX6_advance 196 = .ok (.getfield 256, 3) := by decide +kernel
theorem dX6_advance_199 : decode cX6_advance 199 = .ok (.iconst 1, 1) := by decide +kernel
theorem dX6_advance_200 : decode cX6_advance 200 = .ok (.iadd, 1) := by decide +kernel
theorem dX6_advance_201 : decode cX6_advance 201 = .ok (.putfield 256, 3) := by decide +kernel
theorem dX6_advance_204 : decode cX6_advance 204 = .ok (.goto (-78), 3) := by decide +kernel
theorem dX6_advance_207 : decode cX6_advance 207 = .ok (.aload_n 0, 1) := by decide +kernel
theorem dX6_advance_208 : decode cX6_advance 208 = .ok (.getfield 271, 3) := by decide +kernel
theorem dX6_advance_211 : decode cX6_advance 211 = .ok (.iconst 2, 1) := by decide +kernel
theorem dX6_advance_212 : decode cX6_advance 212 = .ok (.if_icmp .ne 68, 3) := by decide +kernel
theorem dX6_advance_215 : decode cX6_advance 215 = .ok (.aload_n 0, 1) := by decide +kernel
theorem dX6_advance_216 : decode cX6_advance 216 = .ok (.aload_n 0, 1) := by decide +kernel
theorem dX6_advance_217 : decode cX6_advance 217 = .ok (.getfield 256, 3) := by decide +kernel
theorem dX6_advance_220 : decode cX6_advance 220 = .ok (.invokevirtual 262, 3) := by decide +kernel
theorem dX6_advance_223 : decode cX6_advance 223 = .ok (.invokestatic 268, 3) := by decide +kernel
theorem dX6_advance_226 : decode cX6_advance 226 = .ok (.ifCond .eq 54, 3) := by decide +kernel
theorem dX6_advance_229 : decode cX6_advance 229 = .ok (.aload_n 0, 1) := by decide +kernel
theorem dX6_advance_230 : decode cX6_advance 230 = .ok (.aload_n 0, 1) := by decide +kernel
theorem dX6_advance_231 : decode cX6_advance 231 = .ok (.getfield 278, 3) := by decide +kernel
theorem dX6_advance_234 : decode cX6_advance 234 = .ok (.bipush 99, 2) := by decide +kernel
theorem dX6_advance_236 : decode cX6_advance 236 = .ok (.if_icmp .le 9, 3) := by decide +kernel
theorem dX6_advance_239 : decode cX6_advance 239 = .ok (.sipush 1000, 3) := by decide +kernel
theorem dX6_advance_242 : decode cX6_advance 242 = .ok (.goto 22, 3) := by decide +kernel
theorem dX6_advance_245 : decode cX6_advance 245 = .ok (.bipush 10, 2) := by decide +kernel
theorem dX6_advance_247 : decode cX6_advance 247 = .ok (.aload_n 0, 1) := by decide +kernel
theorem dX6_advance_248 : decode cX6_advance 248 = .ok (.getfield 278, 3) := by decide +kernel
theorem dX6_advance_251 : decode cX6_advance 251 = .ok (.imul, 1) := by decide +kernel
theorem dX6_advance_252 : decode cX6_advance 252 = .ok (.aload_n 0, 1) := by decide +kernel
theorem dX6_advance_253 : decode cX6_advance 253 = .ok (.aload_n 0, 1) := by decide +kernel
theorem dX6_advance_254 : decode cX6_advance 254 = .ok (.getfield 256, 3) := by decide +kernel
theorem dX6_advance_257 : decode cX6_advance 257 = .ok (.invokevirtual 262, 3) := by decide +kernel
theorem dX6_advance_260 : decode cX6_advance 260 = .ok (.iadd, 1) := by decide +kernel
theorem dX6_advance_261 : decode cX6_advance 261 = .ok (.bipush 48, 2) := by decide +kernel
theorem dX6_advance_263 : decode cX6_advance 263 = .ok (.isub, 1) := by decide +kernel
theorem dX6_advance_264 : decode cX6_advance 264 = .ok (.putfield 278, 3) := by decide +kernel
theorem dX6_advance_267 : decode cX6_advance 267 = .ok (.aload_n 0, 1) := by decide +kernel
theorem dX6_advance_268 : decode cX6_advance 268 = .ok (.dup, 1) := by decide +kernel
theorem dX6_advance_269 : decode cX6_advance 269 = .ok (.getfield 256, 3) := by decide +kernel
theorem dX6_advance_272 : decode cX6_advance 272 = .ok (.iconst 1, 1) := by decide +kernel
theorem dX6_advance_273 : decode cX6_advance 273 = .ok (.iadd, 1) := by decide +kernel
theorem dX6_advance_274 : decode cX6_advance 274 = .ok (.putfield 256, 3) := by decide +kernel
theorem dX6_advance_277 : decode cX6_advance 277 = .ok (.goto (-70), 3) := by decide +kernel
theorem dX6_advance_280 : decode cX6_advance 280 = .ok (.return_, 1) := by decide +kernel
theorem dX6_isWord_0 : decode cX6_isWord 0 = .ok (.aload_n 0, 1) := by decide +kernel
theorem dX6_isWord_1 : decode cX6_isWord 1 = .ok (.getfield 271, 3) := by decide +kernel
theorem dX6_isWord_4 : decode cX6_isWord 4 = .ok (.iconst 1, 1) := by decide +kernel
theorem dX6_isWord_5 : decode cX6_isWord 5 = .ok (.if_icmp .ne 16, 3) := by decide +kernel
theorem dX6_isWord_8 : decode cX6_isWord 8 = .ok (.aload_n 0, 1) := by decide +kernel
theorem dX6_isWord_9 : decode cX6_isWord 9 = .ok (.getfield 274, 3) := by decide +kernel
theorem dX6_isWord_12 : decode cX6_isWord 12 = .ok (.lload_n 1, 1) := by decide +kernel
theorem dX6_isWord_13 : decode cX6_isWord 13 = .ok (.lcmp, 1) := by decide +kernel
theorem dX6_isWord_14 : decode cX6_isWord 14 = .ok (.ifCond .ne 7, 3) := by decide +kernel
theorem dX6_isWord_17 : decode cX6_isWord 17 = .ok (.iconst 1, 1) := by decide +kernel
theorem dX6_isWord_18 : decode cX6_isWord 18 = .ok (.goto 4, 3) := by decide +kernel
theorem dX6_isWord_21 : decode cX6_isWord 21 = .ok (.iconst 0, 1) := by decide +kernel
theorem dX6_isWord_22 : decode cX6_isWord 22 = .ok (.ireturn, 1) := by decide +kernel
theorem dX6_kindHere_0 : decode cX6_kindHere 0 = .ok (.aload_n 0, 1) := by decide +kernel
theorem dX6_kindHere_1 : decode cX6_kindHere 1 = .ok (.ldc2_w 287, 3) := by decide +kernel
theorem dX6_kindHere_4 : decode cX6_kindHere 4 = .ok (.invokevirtual 289, 3) := by decide +kernel
theorem dX6_kindHere_7 : decode cX6_kindHere 7 = .ok (.ifCond .eq 7, 3) := by decide +kernel
theorem dX6_kindHere_10 : decode cX6_kindHere 10 = .ok (.iconst 0, 1) := by decide +kernel
theorem dX6_kindHere_11 : decode cX6_kindHere 11 = .ok (.goto 74, 3) := by decide +kernel
theorem dX6_kindHere_14 : decode cX6_kindHere 14 = .ok (.aload_n 0, 1) := by decide +kernel
theorem dX6_kindHere_15 : decode cX6_kindHere 15 = .ok (.ldc2_w 293, 3) := by decide +kernel
theorem dX6_kindHere_18 : decode cX6_kindHere 18 = .ok (.invokevirtual 289, 3) := by decide +kernel
theorem dX6_kindHere_21 : decode cX6_kindHere 21 = .ok (.ifCond .eq 7, 3) := by decide +kernel
theorem dX6_kindHere_24 : decode cX6_kindHere 24 = .ok (.iconst 1, 1) := by decide +kernel
theorem dX6_kindHere_25 : decode cX6_kindHere 25 = .ok (.goto 60, 3) := by decide +kernel
theorem dX6_kindHere_28 : decode cX6_kindHere 28 = .ok (.aload_n 0, 1) := by decide +kernel
theorem dX6_kindHere_29 : decode cX6_kindHere 29 = .ok (.ldc2_w 295, 3) := by decide +kernel
theorem dX6_kindHere_32 : decode cX6_kindHere 32 = .ok (.invokevirtual 289, 3) := by decide +kernel
theorem dX6_kindHere_35 : decode cX6_kindHere 35 = .ok (.ifCond .eq 7, 3) := by decide +kernel
theorem dX6_kindHere_38 : decode cX6_kindHere 38 = .ok (.iconst 2, 1) := by decide +kernel
theorem dX6_kindHere_39 : decode cX6_kindHere 39 = .ok (.goto 46, 3) := by decide +kernel
theorem dX6_kindHere_42 : decode cX6_kindHere 42 = .ok (.aload_n 0, 1) := by decide +kernel
theorem dX6_kindHere_43 : decode cX6_kindHere 43 = .ok (.ldc2_w 297, 3) := by decide +kernel
theorem dX6_kindHere_46 : decode cX6_kindHere 46 = .ok (.invokevirtual 289, 3) := by decide +kernel
theorem dX6_kindHere_49 : decode cX6_kindHere 49 = .ok (.ifCond .eq 7, 3) := by decide +kernel
theorem dX6_kindHere_52 : decode cX6_kindHere 52 = .ok (.iconst 3, 1) := by decide +kernel
theorem dX6_kindHere_53 : decode cX6_kindHere 53 = .ok (.goto 32, 3) := by decide +kernel
theorem dX6_kindHere_56 : decode cX6_kindHere 56 = .ok (.aload_n 0, 1) := by decide +kernel
theorem dX6_kindHere_57 : decode cX6_kindHere 57 = .ok (.ldc2_w 299, 3) := by decide +kernel
theorem dX6_kindHere_60 : decode cX6_kindHere 60 = .ok (.invokevirtual 289, 3) := by decide +kernel
theorem dX6_kindHere_63 : decode cX6_kindHere 63 = .ok (.ifCond .eq 7, 3) := by decide +kernel
theorem dX6_kindHere_66 : decode cX6_kindHere 66 = .ok (.iconst 4, 1) := by decide +kernel
theorem dX6_kindHere_67 : decode cX6_kindHere 67 = .ok (.goto 18, 3) := by decide +kernel
theorem dX6_kindHere_70 : decode cX6_kindHere 70 = .ok (.aload_n 0, 1) := by decide +kernel
theorem dX6_kindHere_71 : decode cX6_kindHere 71 = .ok (.ldc2_w 301, 3) := by decide +kernel
theorem dX6_kindHere_74 : decode cX6_kindHere 74 = .ok (.invokevirtual 289, 3) := by decide +kernel
theorem dX6_kindHere_77 : decode cX6_kindHere 77 = .ok (.ifCond .eq 7, 3) := by decide +kernel
theorem dX6_kindHere_80 : decode cX6_kindHere 80 = .ok (.iconst 5, 1) := by decide +kernel
theorem dX6_kindHere_81 : decode cX6_kindHere 81 = .ok (.goto 4, 3) := by decide +kernel
theorem dX6_kindHere_84 : decode cX6_kindHere 84 = .ok (.iconst (-1), 1) := by decide +kernel
theorem dX6_kindHere_85 : decode cX6_kindHere 85 = .ok (.ireturn, 1) := by decide +kernel
theorem dX6_wantNumber_0 : decode cX6_wantNumber 0 = .ok (.aload_n 0, 1) := by decide +kernel
theorem dX6_wantNumber_1 : decode cX6_wantNumber 1 = .ok (.getfield 278, 3) := by decide +kernel
theorem dX6_wantNumber_4 : decode cX6_wantNumber 4 = .ok (.istore_n 3, 1) := by decide +kernel
theorem dX6_wantNumber_5 : decode cX6_wantNumber 5 = .ok (.aload_n 0, 1) := by decide +kernel
theorem dX6_wantNumber_6 : decode cX6_wantNumber 6 = .ok (.aload_n 0, 1) := by decide +kernel
theorem dX6_wantNumber_7 : decode cX6_wantNumber 7 = .ok (.getfield 303, 3) := by decide +kernel
theorem dX6_wantNumber_10 : decode cX6_wantNumber 10 = .ok (.ifCond .eq 24, 3) := by decide +kernel
theorem dX6_wantNumber_13 : decode cX6_wantNumber 13 = .ok (.aload_n 0, 1) := by decide +kernel
theorem dX6_wantNumber_14 : decode cX6_wantNumber 14 = .ok (.getfield 271, 3) := by decide +kernel
theorem dX6_wantNumber_17 : decode cX6_wantNumber 17 = .ok (.iconst 2, 1) := by decide +kernel
theorem dX6_wantNumber_18 : decode cX6_wantNumber 18 = .ok (.if_icmp .ne 16, 3) := by decide +kernel
theorem dX6_wantNumber_21 : decode cX6_wantNumber 21 = .ok (.iload_n 3, 1) := by decide +kernel
theorem dX6_wantNumber_22 : decode cX6_wantNumber 22 = .ok (.iload_n 1, 1) := by decide +kernel
theorem dX6_wantNumber_23 : decode cX6_wantNumber 23 = .ok (.iload_n 2, 1) := by decide +kernel
theorem dX6_wantNumber_24 : decode cX6_wantNumber 24 = .ok (.invokestatic 79, 3) := by decide +kernel
theorem dX6_wantNumber_27 : decode cX6_wantNumber 27 = .ok (.ifCond .eq 7, 3) := by decide +kernel
theorem dX6_wantNumber_30 : decode cX6_wantNumber 30 = .ok (.iconst 1, 1) := by decide +kernel
theorem dX6_wantNumber_31 : decode cX6_wantNumber 31 = .ok (.goto 4, 3) := by decide +kernel
theorem dX6_wantNumber_34 : decode cX6_wantNumber 34 = .ok (.iconst 0, 1) := by decide +kernel
theorem dX6_wantNumber_35 : decode cX6_wantNumber 35 = .ok (.putfield 303, 3) := by decide +kernel
theorem dX6_wantNumber_38 : decode cX6_wantNumber 38 = .ok (.aload_n 0, 1) := by decide +kernel
theorem dX6_wantNumber_39 : decode cX6_wantNumber 39 = .ok (.getfield 303, 3) := by decide +kernel
theorem dX6_wantNumber_42 : decode cX6_wantNumber 42 = .ok (.ifCond .eq 7, 3) := by decide +kernel
theorem dX6_wantNumber_45 : decode cX6_wantNumber 45 = .ok (.aload_n 0, 1) := by decide +kernel
theorem dX6_wantNumber_46 : decode cX6_wantNumber 46 = .ok (.invokevirtual 307, 3) := by decide +kernel
theorem dX6_wantNumber_49 : decode cX6_wantNumber 49 = .ok (.iload_n 3, 1) := by decide +kernel
theorem dX6_wantNumber_50 : decode cX6_wantNumber 50 = .ok (.ireturn, 1) := by decide +kernel
theorem dX6_mayWant_0 : decode cX6_mayWant 0 = .ok (.aload_n 0, 1) := by decide +kernel
theorem dX6_mayWant_1 : decode cX6_mayWant 1 = .ok (.getfield 303, 3) := by decide +kernel
theorem dX6_mayWant_4 : decode cX6_mayWant 4 = .ok (.ifCond .eq 11, 3) := by decide +kernel
theorem dX6_mayWant_7 : decode cX6_mayWant 7 = .ok (.aload_n 0, 1) := by decide +kernel
theorem dX6_mayWant_8 : decode cX6_mayWant 8 = .ok (.lload_n 1, 1) := by decide +kernel
theorem dX6_mayWant_9 : decode cX6_mayWant 9 = .ok (.invokevirtual 289, 3) := by decide +kernel
theorem dX6_mayWant_12 : decode cX6_mayWant 12 = .ok (.ifCond .ne 6, 3) := by decide +kernel
theorem dX6_mayWant_15 : decode cX6_mayWant 15 = .ok (.iload 5, 2) := by decide +kernel
theorem dX6_mayWant_17 : decode cX6_mayWant 17 = .ok (.ireturn, 1) := by decide +kernel
theorem dX6_mayWant_18 : decode cX6_mayWant 18 = .ok (.aload_n 0, 1) := by decide +kernel
theorem dX6_mayWant_19 : decode cX6_mayWant 19 = .ok (.invokevirtual 307, 3) := by decide +kernel
theorem dX6_mayWant_22 : decode cX6_mayWant 22 = .ok (.aload_n 0, 1) := by decide +kernel
theorem dX6_mayWant_23 : decode cX6_mayWant 23 = .ok (.iload_n 3, 1) := by decide +kernel
theorem dX6_mayWant_24 : decode cX6_mayWant 24 = .ok (.iload 4, 2) := by decide +kernel
theorem dX6_mayWant_26 : decode cX6_mayWant 26 = .ok (.invokevirtual 310, 3) := by decide +kernel
theorem dX6_mayWant_29 : decode cX6_mayWant 29 = .ok (.ireturn, 1) := by decide +kernel
theorem dX6_wantWord_0 : decode cX6_wantWord 0 = .ok (.aload_n 0, 1) := by decide +kernel
theorem dX6_wantWord_1 : decode cX6_wantWord 1 = .ok (.aload_n 0, 1) := by decide +kernel
theorem dX6_wantWord_2 : decode cX6_wantWord 2 = .ok (.getfield 303, 3) := by decide +kernel
theorem dX6_wantWord_5 : decode cX6_wantWord 5 = .ok (.ifCond .eq 15, 3) := by decide +kernel
theorem dX6_wantWord_8 : decode cX6_wantWord 8 = .ok (.aload_n 0, 1) := by decide +kernel
theorem dX6_wantWord_9 : decode cX6_wantWord 9 = .ok (.lload_n 1, 1) := by decide +kernel
theorem dX6_wantWord_10 : decode cX6_wantWord 10 = .ok (.invokevirtual 289, 3) := by decide +kernel
theorem dX6_wantWord_13 : decode cX6_wantWord 13 = .ok (.ifCond .eq 7, 3) := by decide +kernel
theorem dX6_wantWord_16 : decode cX6_wantWord 16 = .ok (.iconst 1, 1) := by decide +kernel
theorem dX6_wantWord_17 : decode cX6_wantWord 17 = .ok (.goto 4, 3) := by decide +kernel
theorem dX6_wantWord_20 : decode cX6_wantWord 20 = .ok (.iconst 0, 1) := by decide +kernel
theorem dX6_wantWord_21 : decode cX6_wantWord 21 = .ok (.putfield 303, 3) := by decide +kernel
theorem dX6_wantWord_24 : decode cX6_wantWord 24 = .ok (.aload_n 0, 1) := by decide +kernel
theorem dX6_wantWord_25 : decode cX6_wantWord 25 = .ok (.getfield 303, 3) := by decide +kernel
theorem dX6_wantWord_28 : decode cX6_wantWord 28 = .ok (.ifCond .eq 7, 3) := by decide +kernel
theorem dX6_wantWord_31 : decode cX6_wantWord 31 = .ok (.aload_n 0, 1) := by decide +kernel
theorem dX6_wantWord_32 : decode cX6_wantWord 32 = .ok (.invokevirtual 307, 3) := by decide +kernel
theorem dX6_wantWord_35 : decode cX6_wantWord 35 = .ok (.return_, 1) := by decide +kernel
theorem dX6_wantKing_0 : decode cX6_wantKing 0 = .ok (.aload_n 0, 1) := by decide +kernel
theorem dX6_wantKing_1 : decode cX6_wantKing 1 = .ok (.invokevirtual 307, 3) := by decide +kernel
theorem dX6_wantKing_4 : decode cX6_wantKing 4 = .ok (.aload_n 0, 1) := by decide +kernel
theorem dX6_wantKing_5 : decode cX6_wantKing 5 = .ok (.iconst 0, 1) := by decide +kernel
theorem dX6_wantKing_6 : decode cX6_wantKing 6 = .ok (.iconst 5, 1) := by decide +kernel
theorem dX6_wantKing_7 : decode cX6_wantKing 7 = .ok (.invokevirtual 310, 3) := by decide +kernel
theorem dX6_wantKing_10 : decode cX6_wantKing 10 = .ok (.istore_n 1, 1) := by decide +kernel
theorem dX6_wantKing_11 : decode cX6_wantKing 11 = .ok (.aload_n 0, 1) := by decide +kernel
theorem dX6_wantKing_12 : decode cX6_wantKing 12 = .ok (.ldc2_w 313, 3) := by decide +kernel
theorem dX6_wantKing_15 : decode cX6_wantKing 15 = .ok (.invokevirtual 315, 3) := by decide +kernel
theorem dX6_wantKing_18 : decode cX6_wantKing 18 = .ok (.aload_n 0, 1) := by decide +kernel
theorem dX6_wantKing_19 : decode cX6_wantKing 19 = .ok (.iconst 0, 1) := by decide +kernel
theorem dX6_wantKing_20 : decode cX6_wantKing 20 = .ok (.bipush 99, 2) := by decide +kernel
theorem dX6_wantKing_22 : decode cX6_wantKing 22 = .ok (.invokevirtual 310, 3) := by decide +kernel
theorem dX6_wantKing_25 : decode cX6_wantKing 25 = .ok (.istore_n 2, 1) := by decide +kernel
theorem dX6_wantKing_26 : decode cX6_wantKing 26 = .ok (.aload_n 0, 1) := by decide +kernel
theorem dX6_wantKing_27 : decode cX6_wantKing 27 = .ok (.getfield 303, 3) := by decide +kernel
theorem dX6_wantKing_30 : decode cX6_wantKing 30 = .ok (.ifCond .eq 10, 3) := by decide +kernel
theorem dX6_wantKing_33 : decode cX6_wantKing 33 = .ok (.aload_n 0, 1) := by decide +kernel
theorem dX6_wantKing_34 : decode cX6_wantKing 34 = .ok (.getfield 7, 3) := by decide +kernel
theorem dX6_wantKing_37 : decode cX6_wantKing 37 = .ok (.iload_n 1, 1) := by decide +kernel
theorem dX6_wantKing_38 : decode cX6_wantKing 38 = .ok (.iload_n 2, 1) := by decide +kernel
theorem dX6_wantKing_39 : decode cX6_wantKing 39 = .ok (.iastore, 1) := by decide +kernel
theorem dX6_wantKing_40 : decode cX6_wantKing 40 = .ok (.return_, 1) := by decide +kernel
theorem dX6_wantChild_0 : decode cX6_wantChild 0 = .ok (.aload_n 0, 1) := by decide +kernel
theorem dX6_wantChild_1 : decode cX6_wantChild 1 = .ok (.aload_n 0, 1) := by decide +kernel
theorem dX6_wantChild_2 : decode cX6_wantChild 2 = .ok (.getfield 83, 3) := by decide +kernel
theorem dX6_wantChild_5 : decode cX6_wantChild 5 = .ok (.bipush 14, 2) := by decide +kernel
theorem dX6_wantChild_7 : decode cX6_wantChild 7 = .ok (.if_icmp .ge 7, 3) := by decide +kernel
theorem dX6_wantChild_10 : decode cX6_wantChild 10 = .ok (.iconst 1, 1) := by decide +kernel
theorem dX6_wantChild_11 : decode cX6_wantChild 11 = .ok (.goto 4, 3) := by decide +kernel
theorem dX6_wantChild_14 : decode cX6_wantChild 14 = .ok (.iconst 0, 1) := by decide +kernel
theorem dX6_wantChild_15 : decode cX6_wantChild 15 = .ok (.putfield 303, 3) := by decide +kernel
theorem dX6_wantChild_18 : decode cX6_wantChild 18 = .ok (.aload_n 0, 1) := by decide +kernel
theorem dX6_wantChild_19 : decode cX6_wantChild 19 = .ok (.getfield 303, 3) := by decide +kernel
theorem dX6_wantChild_22 : decode cX6_wantChild 22 = .ok (.ifCond .eq 7, 3) := by decide +kernel
theorem dX6_wantChild_25 : decode cX6_wantChild 25 = .ok (.aload_n 0, 1) := by decide +kernel
theorem dX6_wantChild_26 : decode cX6_wantChild 26 = .ok (.invokevirtual 307, 3) := by decide +kernel
theorem dX6_wantChild_29 : decode cX6_wantChild 29 = .ok (.aload_n 0, 1) := by decide +kernel
theorem dX6_wantChild_30 : decode cX6_wantChild 30 = .ok (.ldc2_w 319, 3) := by decide +kernel
theorem dX6_wantChild_33 : decode cX6_wantChild 33 = .ok (.invokevirtual 315, 3) := by decide +kernel
theorem dX6_wantChild_36 : decode cX6_wantChild 36 = .ok (.aload_n 0, 1) := by decide +kernel
theorem dX6_wantChild_37 : decode cX6_wantChild 37 = .ok (.iconst 0, 1) := by decide +kernel
theorem dX6_wantChild_38 : decode cX6_wantChild 38 = .ok (.iconst 5, 1) := by decide +kernel
theorem dX6_wantChild_39 : decode cX6_wantChild 39 = .ok (.invokevirtual 310, 3) := by decide +kernel
theorem dX6_wantChild_42 : decode cX6_wantChild 42 = .ok (.istore_n 2, 1) := by decide +kernel
theorem dX6_wantChild_43 : decode cX6_wantChild 43 = .ok (.aload_n 0, 1) := by decide +kernel
theorem dX6_wantChild_44 : decode cX6_wantChild 44 = .ok (.ldc2_w 321, 3) := by decide +kernel
theorem dX6_wantChild_47 : decode cX6_wantChild 47 = .ok (.iconst 0, 1) := by decide +kernel
theorem dX6_wantChild_48 : decode cX6_wantChild 48 = .ok (.iconst 5, 1) := by decide +kernel
theorem dX6_wantChild_49 : decode cX6_wantChild 49 = .ok (.iload_n 2, 1) := by decide +kernel
theorem dX6_wantChild_50 : decode cX6_wantChild 50 = .ok (.invokevirtual 323, 3) := by decide +kernel
theorem dX6_wantChild_53 : decode cX6_wantChild 53 = .ok (.istore_n 3, 1) := by decide +kernel
theorem dX6_wantChild_54 : decode cX6_wantChild 54 = .ok (.aload_n 0, 1) := by decide +kernel
theorem dX6_wantChild_55 : decode cX6_wantChild 55 = .ok (.ldc2_w 327, 3) := by decide +kernel
theorem dX6_wantChild_58 : decode cX6_wantChild 58 = .ok (.iconst 0, 1) := by decide +kernel
theorem dX6_wantChild_59 : decode cX6_wantChild 59 = .ok (.bipush 99, 2) := by decide +kernel
theorem dX6_wantChild_61 : decode cX6_wantChild 61 = .ok (.bipush 10, 2) := by decide +kernel
theorem dX6_wantChild_63 : decode cX6_wantChild 63 = .ok (.invokevirtual 323, 3) := by decide +kernel
theorem dX6_wantChild_66 : decode cX6_wantChild 66 = .ok (.istore 4, 2) := by decide +kernel
theorem dX6_wantChild_68 : decode cX6_wantChild 68 = .ok (.aload_n 0, 1) := by decide +kernel
theorem dX6_wantChild_69 : decode cX6_wantChild 69 = .ok (.getfield 303, 3) := by decide +kernel
theorem dX6_wantChild_72 : decode cX6_wantChild 72 = .ok (.ifCond .eq 12, 3) := by decide +kernel
theorem dX6_wantChild_75 : decode cX6_wantChild 75 = .ok (.aload_n 0, 1) := by decide +kernel
theorem dX6_wantChild_76 : decode cX6_wantChild 76 = .ok (.iload_n 1, 1) := by decide +kernel
theorem dX6_wantChild_77 : decode cX6_wantChild 77 = .ok (.iload_n 2, 1) := by decide +kernel
theorem dX6_wantChild_78 : decode cX6_wantChild 78 = .ok (.iload_n 3, 1) := by decide +kernel
theorem dX6_wantChild_79 : decode cX6_wantChild 79 = .ok (.iload 4, 2) := by decide +kernel
theorem dX6_wantChild_81 : decode cX6_wantChild 81 = .ok (.invokevirtual 132, 3) := by decide +kernel
theorem dX6_wantChild_84 : decode cX6_wantChild 84 = .ok (.return_, 1) := by decide +kernel
theorem dX6_wantTreaty_0 : decode cX6_wantTreaty 0 = .ok (.aload_n 0, 1) := by decide +kernel
theorem dX6_wantTreaty_1 : decode cX6_wantTreaty 1 = .ok (.aload_n 0, 1) := by decide +kernel
theorem dX6_wantTreaty_2 : decode cX6_wantTreaty 2 = .ok (.getfield 87, 3) := by decide +kernel
theorem dX6_wantTreaty_5 : decode cX6_wantTreaty 5 = .ok (.bipush 12, 2) := by decide +kernel
theorem dX6_wantTreaty_7 : decode cX6_wantTreaty 7 = .ok (.if_icmp .ge 7, 3) := by decide +kernel
theorem dX6_wantTreaty_10 : decode cX6_wantTreaty 10 = .ok (.iconst 1, 1) := by decide +kernel
theorem dX6_wantTreaty_11 : decode cX6_wantTreaty 11 = .ok (.goto 4, 3) := by decide +kernel
theorem dX6_wantTreaty_14 : decode cX6_wantTreaty 14 = .ok (.iconst 0, 1) := by decide +kernel
theorem dX6_wantTreaty_15 : decode cX6_wantTreaty 15 = .ok (.putfield 303, 3) := by decide +kernel
theorem dX6_wantTreaty_18 : decode cX6_wantTreaty 18 = .ok (.aload_n 0, 1) := by decide +kernel
theorem dX6_wantTreaty_19 : decode cX6_wantTreaty 19 = .ok (.getfield 303, 3) := by decide +kernel
theorem dX6_wantTreaty_22 : decode cX6_wantTreaty 22 = .ok (.ifCond .eq 7, 3) := by decide +kernel
theorem dX6_wantTreaty_25 : decode cX6_wantTreaty 25 = .ok (.aload_n 0, 1) := by decide +kernel
theorem dX6_wantTreaty_26 : decode cX6_wantTreaty 26 = .ok (.invokevirtual 307, 3) := by decide +kernel
theorem dX6_wantTreaty_29 : decode cX6_wantTreaty 29 = .ok (.aload_n 0, 1) := by decide +kernel
theorem dX6_wantTreaty_30 : decode cX6_wantTreaty 30 = .ok (.iconst 0, 1) := by decide +kernel
theorem dX6_wantTreaty_31 : decode cX6_wantTreaty 31 = .ok (.iconst 5, 1) := by decide +kernel
theorem dX6_wantTreaty_32 : decode cX6_wantTreaty 32 = .ok (.invokevirtual 310, 3) := by decide +kernel
theorem dX6_wantTreaty_35 : decode cX6_wantTreaty 35 = .ok (.istore_n 1, 1) := by decide +kernel
theorem dX6_wantTreaty_36 : decode cX6_wantTreaty 36 = .ok (.aload_n 0, 1) := by decide +kernel
theorem dX6_wantTreaty_37 : decode cX6_wantTreaty 37 = .ok (.ldc2_w 329, 3) := by decide +kernel
theorem dX6_wantTreaty_40 : decode cX6_wantTreaty 40 = .ok (.invokevirtual 315, 3) := by decide +kernel
theorem dX6_wantTreaty_43 : decode cX6_wantTreaty 43 = .ok (.aload_n 0, 1) := by decide +kernel
theorem dX6_wantTreaty_44 : decode cX6_wantTreaty 44 = .ok (.aload_n 0, 1) := by decide +kernel
theorem dX6_wantTreaty_45 : decode cX6_wantTreaty 45 = .ok (.getfield 303, 3) := by decide +kernel
theorem dX6_wantTreaty_48 : decode cX6_wantTreaty 48 = .ok (.ifCond .eq 23, 3) := by decide +kernel
theorem dX6_wantTreaty_51 : decode cX6_wantTreaty 51 = .ok (.aload_n 0, 1) := by decide +kernel
theorem dX6_wantTreaty_52 : decode cX6_wantTreaty 52 = .ok (.getfield 271, 3) := by decide +kernel
theorem dX6_wantTreaty_55 : decode cX6_wantTreaty 55 = .ok (.iconst 2, 1) := by decide +kernel
theorem dX6_wantTreaty_56 : decode cX6_wantTreaty 56 = .ok (.if_icmp .ne 11, 3) := by decide +kernel
theorem dX6_wantTreaty_59 : decode cX6_wantTreaty 59 = .ok (.aload_n 0, 1) := by decide +kernel
theorem dX6_wantTreaty_60 : decode cX6_wantTreaty 60 = .ok (.getfield 278, 3) := by decide +kernel
theorem dX6_wantTreaty_63 : decode cX6_wantTreaty 63 = .ok (.iload_n 1, 1) := by decide +kernel
theorem dX6_wantTreaty_64 : decode cX6_wantTreaty 64 = .ok (.if_icmp .eq 7, 3) := by decide +kernel
theorem dX6_wantTreaty_67 : decode cX6_wantTreaty 67 = .ok (.iconst 1, 1) := by decide +kernel
theorem dX6_wantTreaty_68 : decode cX6_wantTreaty 68 = .ok (.goto 4, 3) := by decide +kernel
theorem dX6_wantTreaty_71 : decode cX6_wantTreaty 71 = .ok (.iconst 0, 1) := by decide +kernel
theorem dX6_wantTreaty_72 : decode cX6_wantTreaty 72 = .ok (.putfield 303, 3) := by decide +kernel
theorem dX6_wantTreaty_75 : decode cX6_wantTreaty 75 = .ok (.aload_n 0, 1) := by decide +kernel
theorem dX6_wantTreaty_76 : decode cX6_wantTreaty 76 = .ok (.iconst 0, 1) := by decide +kernel
theorem dX6_wantTreaty_77 : decode cX6_wantTreaty 77 = .ok (.iconst 5, 1) := by decide +kernel
theorem dX6_wantTreaty_78 : decode cX6_wantTreaty 78 = .ok (.invokevirtual 310, 3) := by decide +kernel
theorem dX6_wantTreaty_81 : decode cX6_wantTreaty 81 = .ok (.istore_n 2, 1) := by decide +kernel
theorem dX6_wantTreaty_82 : decode cX6_wantTreaty 82 = .ok (.aload_n 0, 1) := by decide +kernel
theorem dX6_wantTreaty_83 : decode cX6_wantTreaty 83 = .ok (.ldc2_w 331, 3) := by decide +kernel
theorem dX6_wantTreaty_86 : decode cX6_wantTreaty 86 = .ok (.invokevirtual 315, 3) := by decide +kernel
theorem dX6_wantTreaty_89 : decode cX6_wantTreaty 89 = .ok (.aload_n 0, 1) := by decide +kernel
theorem dX6_wantTreaty_90 : decode cX6_wantTreaty 90 = .ok (.iconst 0, 1) := by decide +kernel
theorem dX6_wantTreaty_91 : decode cX6_wantTreaty 91 = .ok (.sipush 999, 3) := by decide +kernel
theorem dX6_wantTreaty_94 : decode cX6_wantTreaty 94 = .ok (.invokevirtual 310, 3) := by decide +kernel
theorem dX6_wantTreaty_97 : decode cX6_wantTreaty 97 = .ok (.istore_n 3, 1) := by decide +kernel
theorem dX6_wantTreaty_98 : decode cX6_wantTreaty 98 = .ok (.aload_n 0, 1) := by decide +kernel
theorem dX6_wantTreaty_99 : decode cX6_wantTreaty 99 = .ok (.ldc2_w 333, 3) := by decide +kernel
theorem dX6_wantTreaty_102 : decode cX6_wantTreaty 102 = .ok (.iconst 0, 1) := by decide +kernel
theorem dX6_wantTreaty_103 : decode cX6_wantTreaty 103 = .ok (.sipush 999, 3) := by decide +kernel
theorem dX6_wantTreaty_106 : decode cX6_wantTreaty 106 = .ok (.sipush 999, 3) := by decide +kernel
theorem dX6_wantTreaty_109 : decode cX6_wantTreaty 109 = .ok (.invokevirtual 323, 3) := by decide +kernel
theorem dX6_wantTreaty_112 : decode cX6_wantTreaty 112 = .ok (.istore 4, 2) := by decide +kernel
theorem dX6_wantTreaty_114 : decode cX6_wantTreaty 114 = .ok (.aload_n 0, 1) := by decide +kernel
theorem dX6_wantTreaty_115 : decode cX6_wantTreaty 115 = .ok (.getfield 303, 3) := by decide +kernel
theorem dX6_wantTreaty_118 : decode cX6_wantTreaty 118 = .ok (.ifCond .eq 12, 3) := by decide +kernel
theorem dX6_wantTreaty_121 : decode cX6_wantTreaty 121 = .ok (.aload_n 0, 1) := by decide +kernel
theorem dX6_wantTreaty_122 : decode cX6_wantTreaty 122 = .ok (.iload_n 1, 1) := by decide +kernel
theorem dX6_wantTreaty_123 : decode cX6_wantTreaty 123 = .ok (.iload_n 2, 1) := by decide +kernel
theorem dX6_wantTreaty_124 : decode cX6_wantTreaty 124 = .ok (.iload_n 3, 1) := by decide +kernel
theorem dX6_wantTreaty_125 : decode cX6_wantTreaty 125 = .ok (.iload 4, 2) := by decide +kernel
theorem dX6_wantTreaty_127 : decode cX6_wantTreaty 127 = .ok (.invokevirtual 155, 3) := by decide +kernel
theorem dX6_wantTreaty_130 : decode cX6_wantTreaty 130 = .ok (.return_, 1) := by decide +kernel
theorem dX6_wantItem_0 : decode cX6_wantItem 0 = .ok (.aload_n 0, 1) := by decide +kernel
theorem dX6_wantItem_1 : decode cX6_wantItem 1 = .ok (.ldc2_w 335, 3) := by decide +kernel
theorem dX6_wantItem_4 : decode cX6_wantItem 4 = .ok (.invokevirtual 289, 3) := by decide +kernel
theorem dX6_wantItem_7 : decode cX6_wantItem 7 = .ok (.ifCond .eq 10, 3) := by decide +kernel
theorem dX6_wantItem_10 : decode cX6_wantItem 10 = .ok (.aload_n 0, 1) := by decide +kernel
theorem dX6_wantItem_11 : decode cX6_wantItem 11 = .ok (.invokevirtual 337, 3) := by decide +kernel
theorem dX6_wantItem_14 : decode cX6_wantItem 14 = .ok (.goto 43, 3) := by decide +kernel
theorem dX6_wantItem_17 : decode cX6_wantItem 17 = .ok (.aload_n 0, 1) := by decide +kernel
theorem dX6_wantItem_18 : decode cX6_wantItem 18 = .ok (.ldc2_w 340, 3) := by decide +kernel
theorem dX6_wantItem_21 : decode cX6_wantItem 21 = .ok (.invokevirtual 289, 3) := by decide +kernel
theorem dX6_wantItem_24 : decode cX6_wantItem 24 = .ok (.ifCond .eq 10, 3) := by decide +kernel
theorem dX6_wantItem_27 : decode cX6_wantItem 27 = .ok (.aload_n 0, 1) := by decide +kernel
theorem dX6_wantItem_28 : decode cX6_wantItem 28 = .ok (.invokevirtual 342, 3) := by decide +kernel
theorem dX6_wantItem_31 : decode cX6_wantItem 31 = .ok (.goto 26, 3) := by decide +kernel
theorem dX6_wantItem_34 : decode cX6_wantItem 34 = .ok (.aload_n 0, 1) := by decide +kernel
theorem dX6_wantItem_35 : decode cX6_wantItem 35 = .ok (.invokevirtual 345, 3) := by decide +kernel
theorem dX6_wantItem_38 : decode cX6_wantItem 38 = .ok (.ifCond .lt 14, 3) := by decide +kernel
theorem dX6_wantItem_41 : decode cX6_wantItem 41 = .ok (.aload_n 0, 1) := by decide +kernel
theorem dX6_wantItem_42 : decode cX6_wantItem 42 = .ok (.aload_n 0, 1) := by decide +kernel
theorem dX6_wantItem_43 : decode cX6_wantItem 43 = .ok (.invokevirtual 345, 3) := by decide +kernel
theorem dX6_wantItem_46 : decode cX6_wantItem 46 = .ok (.invokevirtual 348, 3) := by decide +kernel
theorem dX6_wantItem_49 : decode cX6_wantItem 49 = .ok (.goto 8, 3) := by decide +kernel
theorem dX6_wantItem_52 : decode cX6_wantItem 52 = .ok (.aload_n 0, 1) := by decide +kernel
theorem dX6_wantItem_53 : decode cX6_wantItem 53 = .ok (.iconst 0, 1) := by decide +kernel
theorem dX6_wantItem_54 : decode cX6_wantItem 54 = .ok (.putfield 303, 3) := by decide +kernel
theorem dX6_wantItem_57 : decode cX6_wantItem 57 = .ok (.return_, 1) := by decide +kernel
theorem dX6_court_0 : decode cX6_court 0 = .ok (.aload_n 0, 1) := by decide +kernel
theorem dX6_court_1 : decode cX6_court 1 = .ok (.iconst 1, 1) := by decide +kernel
theorem dX6_court_2 : decode cX6_court 2 = .ok (.aload_n 0, 1) := by decide +kernel
theorem dX6_court_3 : decode cX6_court 3 = .ok (.getfield 72, 3) := by decide +kernel
theorem dX6_court_6 : decode cX6_court 6 = .ok (.invokevirtual 351, 3) := by decide +kernel
theorem dX6_court_9 : decode cX6_court 9 = .ok (.aload_n 0, 1) := by decide +kernel
theorem dX6_court_10 : decode cX6_court 10 = .ok (.iconst 0, 1) := by decide +kernel
theorem dX6_court_11 : decode cX6_court 11 = .ok (.putfield 256, 3) := by decide +kernel
theorem dX6_court_14 : decode cX6_court 14 = .ok (.aload_n 0, 1) := by decide +kernel
theorem dX6_court_15 : decode cX6_court 15 = .ok (.iconst 1, 1) := by decide +kernel
theorem dX6_court_16 : decode cX6_court 16 = .ok (.putfield 303, 3) := by decide +kernel
theorem dX6_court_19 : decode cX6_court 19 = .ok (.iconst 0, 1) := by decide +kernel
theorem dX6_court_20 : decode cX6_court 20 = .ok (.istore_n 1, 1) := by decide +kernel
theorem dX6_court_21 : decode cX6_court 21 = .ok (.iconst 1, 1) := by decide +kernel
theorem dX6_court_22 : decode cX6_court 22 = .ok (.istore_n 2, 1) := by decide +kernel
theorem dX6_court_23 : decode cX6_court 23 = .ok (.iload_n 2, 1) := by decide +kernel
theorem dX6_court_24 : decode cX6_court 24 = .ok (.ifCond .eq 47, 3) := by decide +kernel
theorem dX6_court_27 : decode cX6_court 27 = .ok (.aload_n 0, 1) := by decide +kernel
theorem dX6_court_28 : decode cX6_court 28 = .ok (.invokevirtual 307, 3) := by decide +kernel
theorem dX6_court_31 : decode cX6_court 31 = .ok (.aload_n 0, 1) := by decide +kernel
theorem dX6_court_32 : decode cX6_court 32 = .ok (.invokevirtual 355, 3) := by decide +kernel
theorem dX6_court_35 : decode cX6_court 35 = .ok (.iinc 1 1, 3) := by decide +kernel
theorem dX6_court_38 : decode cX6_court 38 = .ok (.aload_n 0, 1) := by decide +kernel
theorem dX6_court_39 : decode cX6_court 39 = .ok (.getfield 303, 3) := by decide +kernel
theorem dX6_court_42 : decode cX6_court 42 = .ok (.ifCond .eq 24, 3) := by decide +kernel
theorem dX6_court_45 : decode cX6_court 45 = .ok (.aload_n 0, 1) := by decide +kernel
theorem dX6_court_46 : decode cX6_court 46 = .ok (.getfield 271, 3) := by decide +kernel
theorem dX6_court_49 : decode cX6_court 49 = .ok (.iconst 3, 1) := by decide +kernel
theorem dX6_court_50 : decode cX6_court 50 = .ok (.if_icmp .ne 16, 3) := by decide +kernel
theorem dX6_court_53 : decode cX6_court 53 = .ok (.aload_n 0, 1) := by decide +kernel
theorem dX6_court_54 : decode cX6_court 54 = .ok (.getfield 278, 3) := by decide +kernel
theorem dX6_court_57 : decode cX6_court 57 = .ok (.bipush 59, 2) := by decide +kernel
theorem dX6_court_59 : decode cX6_court 59 = .ok (.if_icmp .ne 7, 3) := by decide +kernel
theorem dX6_court_62 : decode cX6_court 62 = .ok (.iconst 1, 1) := by decide +kernel
theorem dX6_court_63 : decode cX6_court 63 = .ok (.goto 4, 3) := by decide +kernel
theorem dX6_court_66 : decode cX6_court 66 = .ok (.iconst 0, 1) := by decide +kernel
theorem dX6_court_67 : decode cX6_court 67 = .ok (.istore_n 2, 1) := by decide +kernel
theorem dX6_court_68 : decode cX6_court 68 = .ok (.goto (-45), 3) := by decide +kernel
theorem dX6_court_71 : decode cX6_court 71 = .ok (.aload_n 0, 1) := by decide +kernel
theorem dX6_court_72 : decode cX6_court 72 = .ok (.aload_n 0, 1) := by decide +kernel
theorem dX6_court_73 : decode cX6_court 73 = .ok (.getfield 303, 3) := by decide +kernel
theorem dX6_court_76 : decode cX6_court 76 = .ok (.ifCond .eq 14, 3) := by decide +kernel
theorem dX6_court_79 : decode cX6_court 79 = .ok (.aload_n 0, 1) := by decide +kernel
theorem dX6_court_80 : decode cX6_court 80 = .ok (.getfield 271, 3) := by decide +kernel
theorem dX6_court_83 : decode cX6_court 83 = .ok (.ifCond .ne 7, 3) := by decide +kernel
theorem dX6_court_86 : decode cX6_court 86 = .ok (.iconst 1, 1) := by decide +kernel
theorem dX6_court_87 : decode cX6_court 87 = .ok (.goto 4, 3) := by decide +kernel
theorem dX6_court_90 : decode cX6_court 90 = .ok (.iconst 0, 1) := by decide +kernel
theorem dX6_court_91 : decode cX6_court 91 = .ok (.putfield 303, 3) := by decide +kernel
theorem dX6_court_94 : decode cX6_court 94 = .ok (.aload_n 0, 1) := by decide +kernel
theorem dX6_court_95 : decode cX6_court 95 = .ok (.iconst 0, 1) := by decide +kernel
theorem dX6_court_96 : decode cX6_court 96 = .ok (.putfield 253, 3) := by decide +kernel
theorem dX6_court_99 : decode cX6_court 99 = .ok (.aload_n 0, 1) := by decide +kernel
theorem dX6_court_100 : decode cX6_court 100 = .ok (.getfield 303, 3) := by decide +kernel
theorem dX6_court_103 : decode cX6_court 103 = .ok (.ifCond .ne 19, 3) := by decide +kernel
theorem dX6_court_106 : decode cX6_court 106 = .ok (.aload_n 0, 1) := by decide +kernel
theorem dX6_court_107 : decode cX6_court 107 = .ok (.iconst 0, 1) := by decide +kernel
theorem dX6_court_108 : decode cX6_court 108 = .ok (.aload_n 0, 1) := by decide +kernel
theorem dX6_court_109 : decode cX6_court 109 = .ok (.getfield 72, 3) := by decide +kernel
theorem dX6_court_112 : decode cX6_court 112 = .ok (.invokevirtual 351, 3) := by decide +kernel
theorem dX6_court_115 : decode cX6_court 115 = .ok (.iconst (-1), 1) := by decide +kernel
theorem dX6_court_116 : decode cX6_court 116 = .ok (.aload_n 0, 1) := by decide +kernel
theorem dX6_court_117 : decode cX6_court 117 = .ok (.getfield 259, 3) := by decide +kernel
theorem dX6_court_120 : decode cX6_court 120 = .ok (.isub, 1) := by decide +kernel
theorem dX6_court_121 : decode cX6_court 121 = .ok (.ireturn, 1) := by decide +kernel
theorem dX6_court_122 : decode cX6_court 122 = .ok (.iload_n 1, 1) := by decide +kernel
theorem dX6_court_123 : decode cX6_court 123 = .ok (.ireturn, 1) := by decide +kernel
theorem dX6_isSheet_0 : decode cX6_isSheet 0 = .ok (.iload_n 0, 1) := by decide +kernel
theorem dX6_isSheet_1 : decode cX6_isSheet 1 = .ok (.iconst 0, 1) := by decide +kernel
theorem dX6_isSheet_2 : decode cX6_isSheet 2 = .ok (.iconst 3, 1) := by decide +kernel
theorem dX6_isSheet_3 : decode cX6_isSheet 3 = .ok (.invokestatic 79, 3) := by decide +kernel
theorem dX6_isSheet_6 : decode cX6_isSheet 6 = .ok (.ireturn, 1) := by decide +kernel
theorem dX6_narrow_0 : decode cX6_narrow 0 = .ok (.iload_n 0, 1) := by decide +kernel
theorem dX6_narrow_1 : decode cX6_narrow 1 = .ok (.bipush 8, 2) := by decide +kernel
theorem dX6_narrow_3 : decode cX6_narrow 3 = .ok (.if_icmp .ne 13, 3) := by decide +kernel
theorem dX6_narrow_6 : decode cX6_narrow 6 = .ok (.lload_n 1, 1) := by decide +kernel
theorem dX6_narrow_7 : decode cX6_narrow 7 = .ok (.bipush 56, 2) := by decide +kernel
theorem dX6_narrow_9 : decode cX6_narrow 9 = .ok (.lshl, 1) := by decide +kernel
theorem dX6_narrow_10 : decode cX6_narrow 10 = .ok (.bipush 56, 2) := by decide +kernel
theorem dX6_narrow_12 : decode cX6_narrow 12 = .ok (.lshr, 1) := by decide +kernel
theorem dX6_narrow_13 : decode cX6_narrow 13 = .ok (.goto 20, 3) := by decide +kernel
theorem dX6_narrow_16 : decode cX6_narrow 16 = .ok (.iload_n 0, 1) := by decide +kernel
theorem dX6_narrow_17 : decode cX6_narrow 17 = .ok (.bipush 16, 2) := by decide +kernel
theorem dX6_narrow_19 : decode cX6_narrow 19 = .ok (.if_icmp .ne 13, 3) := by decide +kernel
theorem dX6_narrow_22 : decode cX6_narrow 22 = .ok (.lload_n 1, 1) := by decide +kernel
theorem dX6_narrow_23 : decode cX6_narrow 23 = .ok (.bipush 48, 2) := by decide +kernel
theorem dX6_narrow_25 : decode cX6_narrow 25 = .ok (.lshl, 1) := by decide +kernel
theorem dX6_narrow_26 : decode cX6_narrow 26 = .ok (.bipush 48, 2) := by decide +kernel
theorem dX6_narrow_28 : decode cX6_narrow 28 = .ok (.lshr, 1) := by decide +kernel
theorem dX6_narrow_29 : decode cX6_narrow 29 = .ok (.goto 4, 3) := by decide +kernel
theorem dX6_narrow_32 : decode cX6_narrow 32 = .ok (.lload_n 1, 1) := by decide +kernel
theorem dX6_narrow_33 : decode cX6_narrow 33 = .ok (.lreturn, 1) := by decide +kernel
theorem dX6_sheet_0 : decode cX6_sheet 0 = .ok (.iload_n 1, 1) := by decide +kernel
theorem dX6_sheet_1 : decode cX6_sheet 1 = .ok (.invokestatic 240, 3) := by decide +kernel
theorem dX6_sheet_4 : decode cX6_sheet 4 = .ok (.ifCond .eq 25, 3) := by decide +kernel
theorem dX6_sheet_7 : decode cX6_sheet 7 = .ok (.iload_n 2, 1) := by decide +kernel
theorem dX6_sheet_8 : decode cX6_sheet 8 = .ok (.ifCond .eq 28, 3) := by decide +kernel
theorem dX6_sheet_11 : decode cX6_sheet 11 = .ok (.iload_n 2, 1) := by decide +kernel
theorem dX6_sheet_12 : decode cX6_sheet 12 = .ok (.bipush 8, 2) := by decide +kernel
theorem dX6_sheet_14 : decode cX6_sheet 14 = .ok (.if_icmp .eq 22, 3) := by decide +kernel
theorem dX6_sheet_17 : decode cX6_sheet 17 = .ok (.iload_n 2, 1) := by decide +kernel
theorem dX6_sheet_18 : decode cX6_sheet 18 = .ok (.bipush 16, 2) := by decide +kernel
theorem dX6_sheet_20 : decode cX6_sheet 20 = .ok (.if_icmp .eq 16, 3) := by decide +kernel
theorem dX6_sheet_23 : decode cX6_sheet 23 = .ok (.iload_n 2, 1) := by decide +kernel
theorem dX6_sheet_24 : decode cX6_sheet 24 = .ok (.bipush 64, 2) := by decide +kernel
theorem dX6_sheet_26 : decode cX6_sheet 26 = .ok (.if_icmp .eq 10, 3) := by decide +kernel
theorem dX6_sheet_29 : decode cX6_sheet 29 = .ok (.aload_n 0, 1) := by decide +kernel
theorem dX6_sheet_30 : decode cX6_sheet 30 = .ok (.ldc 78, 2) := by decide +kernel
theorem dX6_sheet_32 : decode cX6_sheet 32 = .ok (.invokevirtual 125, 3) := by decide +kernel
theorem dX6_sheet_35 : decode cX6_sheet 35 = .ok (.ireturn, 1) := by decide +kernel
theorem dX6_sheet_36 : decode cX6_sheet 36 = .ok (.iload_n 3, 1) := by decide +kernel
theorem dX6_sheet_37 : decode cX6_sheet 37 = .ok (.ifCond .ge 10, 3) := by decide +kernel
theorem dX6_sheet_40 : decode cX6_sheet 40 = .ok (.aload_n 0, 1) := by decide +kernel
theorem dX6_sheet_41 : decode cX6_sheet 41 = .ok (.ldc 246, 2) := by decide +kernel
theorem dX6_sheet_43 : decode cX6_sheet 43 = .ok (.invokevirtual 125, 3) := by decide +kernel
theorem dX6_sheet_46 : decode cX6_sheet 46 = .ok (.ireturn, 1) := by decide +kernel
theorem dX6_sheet_47 : decode cX6_sheet 47 = .ok (.iload_n 3, 1) := by decide +kernel
theorem dX6_sheet_48 : decode cX6_sheet 48 = .ok (.bipush 40, 2) := by decide +kernel
theorem dX6_sheet_50 : decode cX6_sheet 50 = .ok (.if_icmp .le 10, 3) := by decide +kernel
theorem dX6_sheet_53 : decode cX6_sheet 53 = .ok (.aload_n 0, 1) := by decide +kernel
theorem dX6_sheet_54 : decode cX6_sheet 54 = .ok (.ldc 78, 2) := by decide +kernel
theorem dX6_sheet_56 : decode cX6_sheet 56 = .ok (.invokevirtual 125, 3) := by decide +kernel
theorem dX6_sheet_59 : decode cX6_sheet 59 = .ok (.ireturn, 1) := by decide +kernel
theorem dX6_sheet_60 : decode cX6_sheet 60 = .ok (.aload_n 0, 1) := by decide +kernel
theorem dX6_sheet_61 : decode cX6_sheet 61 = .ok (.getfield 56, 3) := by decide +kernel
theorem dX6_sheet_64 : decode cX6_sheet 64 = .ok (.iload_n 1, 1) := by decide +kernel
theorem dX6_sheet_65 : decode cX6_sheet 65 = .ok (.iload_n 2, 1) := by decide +kernel
theorem dX6_sheet_66 : decode cX6_sheet 66 = .ok (.iastore, 1) := by decide +kernel
theorem dX6_sheet_67 : decode cX6_sheet 67 = .ok (.aload_n 0, 1) := by decide +kernel
theorem dX6_sheet_68 : decode cX6_sheet 68 = .ok (.getfield 59, 3) := by decide +kernel
theorem dX6_sheet_71 : decode cX6_sheet 71 = .ok (.iload_n 1, 1) := by decide +kernel
theorem dX6_sheet_72 : decode cX6_sheet 72 = .ok (.iload_n 2, 1) := by decide +kernel
theorem dX6_sheet_73 : decode cX6_sheet 73 = .ok (.ifCond .ne 7, 3) := by decide +kernel
theorem dX6_sheet_76 : decode cX6_sheet 76 = .ok (.iconst 0, 1) := by decide +kernel
theorem dX6_sheet_77 : decode cX6_sheet 77 = .ok (.goto 4, 3) := by decide +kernel
theorem dX6_sheet_80 : decode cX6_sheet 80 = .ok (.iload_n 3, 1) := by decide +kernel
theorem dX6_sheet_81 : decode cX6_sheet 81 = .ok (.iastore, 1) := by decide +kernel
theorem dX6_sheet_82 : decode cX6_sheet 82 = .ok (.iconst 0, 1) := by decide +kernel
theorem dX6_sheet_83 : decode cX6_sheet 83 = .ok (.istore 4, 2) := by decide +kernel
theorem dX6_sheet_85 : decode cX6_sheet 85 = .ok (.iload 4, 2) := by decide +kernel
theorem dX6_sheet_87 : decode cX6_sheet 87 = .ok (.bipush 40, 2) := by decide +kernel
theorem dX6_sheet_89 : decode cX6_sheet 89 = .ok (.if_icmp .ge 22, 3) := by decide +kernel
theorem dX6_sheet_92 : decode cX6_sheet 92 = .ok (.aload_n 0, 1) := by decide +kernel
theorem dX6_sheet_93 : decode cX6_sheet 93 = .ok (.getfield 62, 3) := by decide +kernel
theorem dX6_sheet_96 : decode cX6_sheet 96 = .ok (.bipush 40, 2) := by decide +kernel
theorem dX6_sheet_98 : decode cX6_sheet 98 = .ok (.iload_n 1, 1) := by decide +kernel
theorem dX6_sheet_99 : decode cX6_sheet 99 = .ok (.imul, 1) := by decide +kernel
theorem dX6_sheet_100 : decode cX6_sheet 100 = .ok (.iload 4, 2) := by decide +kernel
theorem dX6_sheet_102 : decode cX6_sheet 102 = .ok (.iadd, 1) := by decide +kernel
theorem dX6_sheet_103 : decode cX6_sheet 103 = .ok (.lconst 0, 1) := by decide +kernel
theorem dX6_sheet_104 : decode cX6_sheet 104 = .ok (.lastore, 1) := by decide +kernel
theorem dX6_sheet_105 : decode cX6_sheet 105 = .ok (.iinc 4 1, 3) := by decide +kernel
theorem dX6_sheet_108 : decode cX6_sheet 108 = .ok (.goto (-23), 3) := by decide +kernel
theorem dX6_sheet_111 : decode cX6_sheet 111 = .ok (.aload_n 0, 1) := by decide +kernel
theorem dX6_sheet_112 : decode cX6_sheet 112 = .ok (.getfield 59, 3) := by decide +kernel
theorem dX6_sheet_115 : decode cX6_sheet 115 = .ok (.iload_n 1, 1) := by decide +kernel
theorem dX6_sheet_116 : decode cX6_sheet 116 = .ok (.iaload, 1) := by decide +kernel
theorem dX6_sheet_117 : decode cX6_sheet 117 = .ok (.ireturn, 1) := by decide +kernel
theorem dX6_write_0 : decode cX6_write 0 = .ok (.iload_n 1, 1) := by decide +kernel
theorem dX6_write_1 : decode cX6_write 1 = .ok (.invokestatic 240, 3) := by decide +kernel
theorem dX6_write_4 : decode cX6_write 4 = .ok (.ifCond .ne 11, 3) := by decide +kernel
theorem dX6_write_7 : decode cX6_write 7 = .ok (.aload_n 0, 1) := by decide +kernel
theorem dX6_write_8 : decode cX6_write 8 = .ok (.ldc 78, 2) := by decide +kernel
theorem dX6_write_10 : decode cX6_write 10 = .ok (.invokevirtual 125, 3) := by decide +kernel
theorem dX6_write_13 : decode cX6_write 13 = .ok (.i2l, 1) := by decide +kernel
theorem dX6_write_14 : decode cX6_write 14 = .ok (.lreturn, 1) := by decide +kernel
theorem dX6_write_15 : decode cX6_write 15 = .ok (.aload_n 0, 1) := by decide +kernel
theorem dX6_write_16 : decode cX6_write 16 = .ok (.getfield 56, 3) := by decide +kernel
theorem dX6_write_19 : decode cX6_write 19 = .ok (.iload_n 1, 1) := by decide +kernel
theorem dX6_write_20 : decode cX6_write 20 = .ok (.iaload, 1) := by decide +kernel
theorem dX6_write_21 : decode cX6_write 21 = .ok (.ifCond .ne 11, 3) := by decide +kernel
theorem dX6_write_24 : decode cX6_write 24 = .ok (.aload_n 0, 1) := by decide +kernel
theorem dX6_write_25 : decode cX6_write 25 = .ok (.ldc 243, 2) := by decide +kernel
theorem dX6_write_27 : decode cX6_write 27 = .ok (.invokevirtual 125, 3) := by decide +kernel
theorem dX6_write_30 : decode cX6_write 30 = .ok (.i2l, 1) := by decide +kernel
theorem dX6_write_31 : decode cX6_write 31 = .ok (.lreturn, 1) := by decide +kernel
theorem dX6_write_32 : decode cX6_write 32 = .ok (.iload_n 2, 1) := by decide +kernel
theorem dX6_write_33 : decode cX6_write 33 = .ok (.iconst 0, 1) := by decide +kernel
theorem dX6_write_34 : decode cX6_write 34 = .ok (.aload_n 0, 1) := by decide +kernel
theorem dX6_write_35 : decode cX6_write 35 = .ok (.getfield 59, 3) := by decide +kernel
theorem dX6_write_38 : decode cX6_write 38 = .ok (.iload_n 1, 1) := by decide +kernel
theorem dX6_write_39 : decode cX6_write 39 = .ok (.iaload, 1) := by decide +kernel
theorem dX6_write_40 : decode cX6_write 40 = .ok (.iconst 1, 1) := by decide +kernel
theorem dX6_write_41 : decode cX6_write 41 = .ok (.isub, 1) := by decide +kernel
theorem dX6_write_42 : decode cX6_write 42 = .ok (.invokestatic 79, 3) := by decide +kernel
theorem dX6_write_45 : decode cX6_write 45 = .ok (.ifCond .ne 11, 3) := by decide +kernel
theorem dX6_write_48 : decode cX6_write 48 = .ok (.aload_n 0, 1) := by decide +kernel
theorem dX6_write_49 : decode cX6_write 49 = .ok (.ldc 78, 2) := by decide +kernel
theorem dX6_write_51 : decode cX6_write 51 = .ok (.invokevirtual 125, 3) := by decide +kernel
theorem dX6_write_54 : decode cX6_write 54 = .ok (.i2l, 1) := by decide +kernel
theorem dX6_write_55 : decode cX6_write 55 = .ok (.lreturn, 1) := by decide +kernel
theorem dX6_write_56 : decode cX6_write 56 = .ok (.aload_n 0, 1) := by decide +kernel
theorem dX6_write_57 : decode cX6_write 57 = .ok (.getfield 62, 3) := by decide +kernel
theorem dX6_write_60 : decode cX6_write 60 = .ok (.bipush 40, 2) := by decide +kernel
theorem dX6_write_62 : decode cX6_write 62 = .ok (.iload_n 1, 1) := by decide +kernel
theorem dX6_write_63 : decode cX6_write 63 = .ok (.imul, 1) := by decide +kernel
theorem dX6_write_64 : decode cX6_write 64 = .ok (.iload_n 2, 1) := by decide +kernel
theorem dX6_write_65 : decode cX6_write 65 = .ok (.iadd, 1) := by decide +kernel
theorem dX6_write_66 : decode cX6_write 66 = .ok (.laload, 1) := by decide +kernel
theorem dX6_write_67 : decode cX6_write 67 = .ok (.lstore 5, 2) := by decide +kernel
theorem dX6_write_69 : decode cX6_write 69 = .ok (.aload_n 0, 1) := by decide +kernel
theorem dX6_write_70 : decode cX6_write 70 = .ok (.getfield 62, 3) := by decide +kernel
theorem dX6_write_73 : decode cX6_write 73 = .ok (.bipush 40, 2) := by decide +kernel
theorem dX6_write_75 : decode cX6_write 75 = .ok (.iload_n 1, 1) := by decide +kernel
theorem dX6_write_76 : decode cX6_write 76 = .ok (.imul, 1) := by decide +kernel
theorem dX6_write_77 : decode cX6_write 77 = .ok (.iload_n 2, 1) := by decide +kernel
theorem dX6_write_78 : decode cX6_write 78 = .ok (.iadd, 1) := by decide +kernel
theorem dX6_write_79 : decode cX6_write 79 = .ok (.aload_n 0, 1) := by decide +kernel
theorem dX6_write_80 : decode cX6_write 80 = .ok (.getfield 56, 3) := by decide +kernel
theorem dX6_write_83 : decode cX6_write 83 = .ok (.iload_n 1, 1) := by decide +kernel
theorem dX6_write_84 : decode cX6_write 84 = .ok (.iaload, 1) := by decide +kernel
theorem dX6_write_85 : decode cX6_write 85 = .ok (.lload_n 3, 1) := by decide +kernel
theorem dX6_write_86 : decode cX6_write 86 = .ok (.invokestatic 358, 3) := by decide +kernel
theorem dX6_write_89 : decode cX6_write 89 = .ok (.lastore, 1) := by decide +kernel
theorem dX6_write_90 : decode cX6_write 90 = .ok (.lload 5, 2) := by decide +kernel
theorem dX6_write_92 : decode cX6_write 92 = .ok (.lreturn, 1) := by decide +kernel
theorem dX6_isPart_0 : decode cX6_isPart 0 = .ok (.iload_n 2, 1) := by decide +kernel
theorem dX6_isPart_1 : decode cX6_isPart 1 = .ok (.ifCond .lt 33, 3) := by decide +kernel
theorem dX6_isPart_4 : decode cX6_isPart 4 = .ok (.iload_n 3, 1) := by decide +kernel
theorem dX6_isPart_5 : decode cX6_isPart 5 = .ok (.ifCond .lt 29, 3) := by decide +kernel
theorem dX6_isPart_8 : decode cX6_isPart 8 = .ok (.iload_n 3, 1) := by decide +kernel
theorem dX6_isPart_9 : decode cX6_isPart 9 = .ok (.aload_n 0, 1) := by decide +kernel
theorem dX6_isPart_10 : decode cX6_isPart 10 = .ok (.getfield 59, 3) := by decide +kernel
theorem dX6_isPart_13 : decode cX6_isPart 13 = .ok (.iload_n 1, 1) := by decide +kernel
theorem dX6_isPart_14 : decode cX6_isPart 14 = .ok (.iaload, 1) := by decide +kernel
theorem dX6_isPart_15 : decode cX6_isPart 15 = .ok (.if_icmp .gt 19, 3) := by decide +kernel
theorem dX6_isPart_18 : decode cX6_isPart 18 = .ok (.iload_n 2, 1) := by decide +kernel
theorem dX6_isPart_19 : decode cX6_isPart 19 = .ok (.aload_n 0, 1) := by decide +kernel
theorem dX6_isPart_20 : decode cX6_isPart 20 = .ok (.getfield 59, 3) := by decide +kernel
theorem dX6_isPart_23 : decode cX6_isPart 23 = .ok (.iload_n 1, 1) := by decide +kernel
theorem dX6_isPart_24 : decode cX6_isPart 24 = .ok (.iaload, 1) := by decide +kernel
theorem dX6_isPart_25 : decode cX6_isPart 25 = .ok (.iload_n 3, 1) := by decide +kernel
theorem dX6_isPart_26 : decode cX6_isPart 26 = .ok (.isub, 1) := by decide +kernel
theorem dX6_isPart_27 : decode cX6_isPart 27 = .ok (.if_icmp .gt 7, 3) := by decide +kernel
theorem dX6_isPart_30 : decode cX6_isPart 30 = .ok (.iconst 1, 1) := by decide +kernel
theorem dX6_isPart_31 : decode cX6_isPart 31 = .ok (.goto 4, 3) := by decide +kernel
theorem dX6_isPart_34 : decode cX6_isPart 34 = .ok (.iconst 0, 1) := by decide +kernel
theorem dX6_isPart_35 : decode cX6_isPart 35 = .ok (.ireturn, 1) := by decide +kernel
theorem dX6_copy_0 : decode cX6_copy 0 = .ok (.iload_n 1, 1) := by decide +kernel
theorem dX6_copy_1 : decode cX6_copy 1 = .ok (.invokestatic 240, 3) := by decide +kernel
theorem dX6_copy_4 : decode cX6_copy 4 = .ok (.ifCond .eq 10, 3) := by decide +kernel
theorem dX6_copy_7 : decode cX6_copy 7 = .ok (.iload_n 3, 1) := by decide +kernel
theorem dX6_copy_8 : decode cX6_copy 8 = .ok (.invokestatic 240, 3) := by decide +kernel
theorem dX6_copy_11 : decode cX6_copy 11 = .ok (.ifCond .ne 10, 3) := by decide +kernel
theorem dX6_copy_14 : decode cX6_copy 14 = .ok (.aload_n 0, 1) := by decide +kernel
theorem dX6_copy_15 : decode cX6_copy 15 = .ok (.ldc 78, 2) := by decide +kernel
theorem dX6_copy_17 : decode cX6_copy 17 = .ok (.invokevirtual 125, 3) := by decide +kernel
theorem dX6_copy_20 : decode cX6_copy 20 = .ok (.ireturn, 1) := by decide +kernel
theorem dX6_copy_21 : decode cX6_copy 21 = .ok (.aload_n 0, 1) := by decide +kernel
theorem dX6_copy_22 : decode cX6_copy 22 = .ok (.getfield 56, 3) := by decide +kernel
theorem dX6_copy_25 : decode cX6_copy 25 = .ok (.iload_n 1, 1) := by decide +kernel
theorem dX6_copy_26 : decode cX6_copy 26 = .ok (.iaload, 1) := by decide +kernel
theorem dX6_copy_27 : decode cX6_copy 27 = .ok (.ifCond .eq 12, 3) := by decide +kernel
theorem dX6_copy_30 : decode cX6_copy 30 = .ok (.aload_n 0, 1) := by decide +kernel
theorem dX6_copy_31 : decode cX6_copy 31 = .ok (.getfield 56, 3) := by decide +kernel
theorem dX6_copy_34 : decode cX6_copy 34 = .ok (.iload_n 3, 1) := by decide +kernel
theorem dX6_copy_35 : decode cX6_copy 35 = .ok (.iaload, 1) := by decide +kernel
theorem dX6_copy_36 : decode cX6_copy 36 = .ok (.ifCond .ne 10, 3) := by decide +kernel
theorem dX6_copy_39 : decode cX6_copy 39 = .ok (.aload_n 0, 1) := by decide +kernel
theorem dX6_copy_40 : decode cX6_copy 40 = .ok (.ldc 243, 2) := by decide +kernel
theorem dX6_copy_42 : decode cX6_copy 42 = .ok (.invokevirtual 125, 3) := by decide +kernel
theorem dX6_copy_45 : decode cX6_copy 45 = .ok (.ireturn, 1) := by decide +kernel
theorem dX6_copy_46 : decode cX6_copy 46 = .ok (.aload_n 0, 1) := by decide +kernel
theorem dX6_copy_47 : decode cX6_copy 47 = .ok (.getfield 56, 3) := by decide +kernel
theorem dX6_copy_50 : decode cX6_copy 50 = .ok (.iload_n 1, 1) := by decide +kernel
theorem dX6_copy_51 : decode cX6_copy 51 = .ok (.iaload, 1) := by decide +kernel
theorem dX6_copy_52 : decode cX6_copy 52 = .ok (.aload_n 0, 1) := by decide +kernel
theorem dX6_copy_53 : decode cX6_copy 53 = .ok (.getfield 56, 3) := by decide +kernel
theorem dX6_copy_56 : decode cX6_copy 56 = .ok (.iload_n 3, 1) := by decide +kernel
theorem dX6_copy_57 : decode cX6_copy 57 = .ok (.iaload, 1) := by decide +kernel
theorem dX6_copy_58 : decode cX6_copy 58 = .ok (.if_icmp .eq 10, 3) := by decide +kernel
theorem dX6_copy_61 : decode cX6_copy 61 = .ok (.aload_n 0, 1) := by decide +kernel
theorem dX6_copy_62 : decode cX6_copy 62 = .ok (.ldc 144, 2) := by decide +kernel
theorem dX6_copy_64 : decode cX6_copy 64 = .ok (.invokevirtual 125, 3) := by decide +kernel
theorem dX6_copy_67 : decode cX6_copy 67 = .ok (.ireturn, 1) := by decide +kernel
theorem dX6_copy_68 : decode cX6_copy 68 = .ok (.aload_n 0, 1) := by decide +kernel
theorem dX6_copy_69 : decode cX6_copy 69 = .ok (.iload_n 1, 1) := by decide +kernel
theorem dX6_copy_70 : decode cX6_copy 70 = .ok (.iload_n 2, 1) := by decide +kernel
theorem dX6_copy_71 : decode cX6_copy 71 = .ok (.iload 5, 2) := by decide +kernel
theorem dX6_copy_73 : decode cX6_copy 73 = .ok (.invokevirtual 362, 3) := by decide +kernel
theorem dX6_copy_76 : decode cX6_copy 76 = .ok (.ifCond .eq 15, 3) := by decide +kernel
theorem dX6_copy_79 : decode cX6_copy 79 = .ok (.aload_n 0, 1) := by decide +kernel
theorem dX6_copy_80 : decode cX6_copy 80 = .ok (.iload_n 3, 1) := by decide +kernel
theorem dX6_copy_81 : decode cX6_copy 81 = .ok (.iload 4, 2) := by decide +kernel
theorem dX6_copy_83 : decode cX6_copy 83 = .ok (.iload 5, 2) := by decide +kernel
theorem dX6_copy_85 : decode cX6_copy 85 = .ok (.invokevirtual 362, 3) := by decide +kernel
theorem dX6_copy_88 : decode cX6_copy 88 = .ok (.ifCond .ne 10, 3) := by decide +kernel
theorem dX6_copy_91 : decode cX6_copy 91 = .ok (.aload_n 0, 1) := by decide +kernel
theorem dX6_copy_92 : decode cX6_copy 92 = .ok (.ldc 78, 2) := by decide +kernel
theorem dX6_copy_94 : decode cX6_copy 94 = .ok (.invokevirtual 125, 3) := by decide +kernel
theorem dX6_copy_97 : decode cX6_copy 97 = .ok (.ireturn, 1) := by decide +kernel
theorem dX6_copy_98 : decode cX6_copy 98 = .ok (.iconst 0, 1) := by decide +kernel
theorem dX6_copy_99 : decode cX6_copy 99 = .ok (.istore 6, 2) := by decide +kernel
theorem dX6_copy_101 : decode cX6_copy 101 = .ok (.iload 6, 2) := by decide +kernel
theorem dX6_copy_103 : decode cX6_copy 103 = .ok (.iload 5, 2) := by decide +kernel
theorem dX6_copy_105 : decode cX6_copy 105 = .ok (.if_icmp .ge 30, 3) := by decide +kernel
theorem dX6_copy_108 : decode cX6_copy 108 = .ok (.aload_n 0, 1) := by decide +kernel
theorem dX6_copy_109 : decode cX6_copy 109 = .ok (.getfield 66, 3) := by decide +kernel
theorem dX6_copy_112 : decode cX6_copy 112 = .ok (.iload 6, 2) := by decide +kernel
theorem dX6_copy_114 : decode cX6_copy 114 = .ok (.aload_n 0, 1) := by decide +kernel
theorem dX6_copy_115 : decode cX6_copy 115 = .ok (.getfield 62, 3) := by decide +kernel
theorem dX6_copy_118 : decode cX6_copy 118 = .ok (.bipush 40, 2) := by decide +kernel
theorem dX6_copy_120 : decode cX6_copy 120 = .ok (.iload_n 1, 1) := by decide +kernel
theorem dX6_copy_121 : decode cX6_copy 121 = .ok (.imul, 1) := by decide +kernel
theorem dX6_copy_122 : decode cX6_copy 122 = .ok (.iload_n 2, 1) := by decide +kernel
theorem dX6_copy_123 : decode cX6_copy 123 = .ok (.iadd, 1) := by decide +kernel
theorem dX6_copy_124 : decode cX6_copy 124 = .ok (.iload 6, 2) := by decide +kernel
theorem dX6_copy_126 : decode cX6_copy 126 = .ok (.iadd, 1) := by decide +kernel
theorem dX6_copy_127 : decode cX6_copy 127 = .ok (.laload, 1) := by decide +kernel
theorem dX6_copy_128 : decode cX6_copy 128 = .ok (.lastore, 1) := by decide +kernel
theorem dX6_copy_129 : decode cX6_copy 129 = .ok (.iinc 6 1, 3) := by decide +kernel
theorem dX6_copy_132 : decode cX6_copy 132 = .ok (.goto (-31), 3) := by decide +kernel
theorem dX6_copy_135 : decode cX6_copy 135 = .ok (.iconst 0, 1) := by decide +kernel
theorem dX6_copy_136 : decode cX6_copy 136 = .ok (.istore 6, 2) := by decide +kernel
theorem dX6_copy_138 : decode cX6_copy 138 = .ok (.iload 6, 2) := by decide +kernel
theorem dX6_copy_140 : decode cX6_copy 140 = .ok (.iload 5, 2) := by decide +kernel
theorem dX6_copy_142 : decode cX6_copy 142 = .ok (.if_icmp .ge 31, 3) := by decide +kernel
theorem dX6_copy_145 : decode cX6_copy 145 = .ok (.aload_n 0, 1) := by decide +kernel
theorem dX6_copy_146 : decode cX6_copy 146 = .ok (.getfield 62, 3) := by decide +kernel
theorem dX6_copy_149 : decode cX6_copy 149 = .ok (.bipush 40, 2) := by decide +kernel
theorem dX6_copy_151 : decode cX6_copy 151 = .ok (.iload_n 3, 1) := by decide +kernel
theorem dX6_copy_152 : decode cX6_copy 152 = .ok (.imul, 1) := by decide +kernel
theorem dX6_copy_153 : decode cX6_copy 153 = .ok (.iload 4, 2) := by decide +kernel
theorem dX6_copy_155 : decode cX6_copy 155 = .ok (.iadd, 1) := by decide +kernel
theorem dX6_copy_156 : decode cX6_copy 156 = .ok (.iload 6, 2) := by decide +kernel
theorem dX6_copy_158 : decode cX6_copy 158 = .ok (.iadd, 1) := by decide +kernel
theorem dX6_copy_159 : decode cX6_copy 159 = .ok (.aload_n 0, 1) := by decide +kernel
theorem dX6_copy_160 : decode cX6_copy 160 = .ok (.getfield 66, 3) := by decide +kernel
theorem dX6_copy_163 : decode cX6_copy 163 = .ok (.iload 6, 2) := by decide +kernel
theorem dX6_copy_165 : decode cX6_copy 165 = .ok (.laload, 1) := by decide +kernel
theorem dX6_copy_166 : decode cX6_copy 166 = .ok (.lastore, 1) := by decide +kernel
theorem dX6_copy_167 : decode cX6_copy 167 = .ok (.iinc 6 1, 3) := by decide +kernel
theorem dX6_copy_170 : decode cX6_copy 170 = .ok (.goto (-32), 3) := by decide +kernel
theorem dX6_copy_173 : decode cX6_copy 173 = .ok (.iload 5, 2) := by decide +kernel
theorem dX6_copy_175 : decode cX6_copy 175 = .ok (.ireturn, 1) := by decide +kernel
theorem dX6_lays_0 : decode cX6_lays 0 = .ok (.iload_n 1, 1) := by decide +kernel
theorem dX6_lays_1 : decode cX6_lays 1 = .ok (.invokestatic 240, 3) := by decide +kernel
theorem dX6_lays_4 : decode cX6_lays 4 = .ok (.ifCond .ne 10, 3) := by decide +kernel
theorem dX6_lays_7 : decode cX6_lays 7 = .ok (.aload_n 0, 1) := by decide +kernel
theorem dX6_lays_8 : decode cX6_lays 8 = .ok (.ldc 78, 2) := by decide +kernel
theorem dX6_lays_10 : decode cX6_lays 10 = .ok (.invokevirtual 125, 3) := by decide +kernel
theorem dX6_lays_13 : decode cX6_lays 13 = .ok (.ireturn, 1) := by decide +kernel
theorem dX6_lays_14 : decode cX6_lays 14 = .ok (.aload_n 0, 1) := by decide +kernel
theorem dX6_lays_15 : decode cX6_lays 15 = .ok (.getfield 56, 3) := by decide +kernel
theorem dX6_lays_18 : decode cX6_lays 18 = .ok (.iload_n 1, 1) := by decide +kernel
theorem dX6_lays_19 : decode cX6_lays 19 = .ok (.iaload, 1) := by decide +kernel
theorem dX6_lays_20 : decode cX6_lays 20 = .ok (.ifCond .ne 10, 3) := by decide +kernel
theorem dX6_lays_23 : decode cX6_lays 23 = .ok (.aload_n 0, 1) := by decide +kernel
theorem dX6_lays_24 : decode cX6_lays 24 = .ok (.ldc 243, 2) := by decide +kernel
theorem dX6_lays_26 : decode cX6_lays 26 = .ok (.invokevirtual 125, 3) := by decide +kernel
theorem dX6_lays_29 : decode cX6_lays 29 = .ok (.ireturn, 1) := by decide +kernel
theorem dX6_lays_30 : decode cX6_lays 30 = .ok (.iconst 0, 1) := by decide +kernel
theorem dX6_lays_31 : decode cX6_lays 31 = .ok (.istore_n 2, 1) := by decide +kernel
theorem dX6_lays_32 : decode cX6_lays 32 = .ok (.iconst 0, 1) := by decide +kernel
theorem dX6_lays_33 : decode cX6_lays 33 = .ok (.istore_n 3, 1) := by decide +kernel
theorem dX6_lays_34 : decode cX6_lays 34 = .ok (.iload_n 3, 1) := by decide +kernel
theorem dX6_lays_35 : decode cX6_lays 35 = .ok (.aload_n 0, 1) := by decide +kernel
theorem dX6_lays_36 : decode cX6_lays 36 = .ok (.getfield 83, 3) := by decide +kernel
theorem dX6_lays_39 : decode cX6_lays 39 = .ok (.if_icmp .ge 70, 3) := by decide +kernel
theorem dX6_lays_42 : decode cX6_lays 42 = .ok (.iload_n 3, 1) := by decide +kernel
theorem dX6_lays_43 : decode cX6_lays 43 = .ok (.aload_n 0, 1) := by decide +kernel
theorem dX6_lays_44 : decode cX6_lays 44 = .ok (.getfield 59, 3) := by decide +kernel
theorem dX6_lays_47 : decode cX6_lays 47 = .ok (.iload_n 1, 1) := by decide +kernel
theorem dX6_lays_48 : decode cX6_lays 48 = .ok (.iaload, 1) := by decide +kernel
theorem dX6_lays_49 : decode cX6_lays 49 = .ok (.if_icmp .ge 60, 3) := by decide +kernel
theorem dX6_lays_52 : decode cX6_lays 52 = .ok (.aload_n 0, 1) := by decide +kernel
theorem dX6_lays_53 : decode cX6_lays 53 = .ok (.getfield 62, 3) := by decide +kernel
theorem dX6_lays_56 : decode cX6_lays 56 = .ok (.bipush 40, 2) := by decide +kernel
theorem dX6_lays_58 : decode cX6_lays 58 = .ok (.iload_n 1, 1) := by decide +kernel
theorem dX6_lays_59 : decode cX6_lays 59 = .ok (.imul, 1) := by decide +kernel
theorem dX6_lays_60 : decode cX6_lays 60 = .ok (.iload_n 3, 1) := by decide +kernel
theorem dX6_lays_61 : decode cX6_lays 61 = .ok (.iadd, 1) := by decide +kernel
theorem dX6_lays_62 : decode cX6_lays 62 = .ok (.laload, 1) := by decide +kernel
theorem dX6_lays_63 : decode cX6_lays 63 = .ok (.lstore 4, 2) := by decide +kernel
theorem dX6_lays_65 : decode cX6_lays 65 = .ok (.lload 4, 2) := by decide +kernel
theorem dX6_lays_67 : decode cX6_lays 67 = .ok (.lconst 0, 1) := by decide +kernel
theorem dX6_lays_68 : decode cX6_lays 68 = .ok (.lcmp, 1) := by decide +kernel
theorem dX6_lays_69 : decode cX6_lays 69 = .ok (.ifCond .lt 34, 3) := by decide +kernel
theorem dX6_lays_72 : decode cX6_lays 72 = .ok (.lload 4, 2) := by decide +kernel
theorem dX6_lays_74 : decode cX6_lays 74 = .ok (.ldc2_w 244, 3) := by decide +kernel
theorem dX6_lays_77 : decode cX6_lays 77 = .ok (.lcmp, 1) := by decide +kernel
theorem dX6_lays_78 : decode cX6_lays 78 = .ok (.ifCond .gt 25, 3) := by decide +kernel
theorem dX6_lays_81 : decode cX6_lays 81 = .ok (.aload_n 0, 1) := by decide +kernel
theorem dX6_lays_82 : decode cX6_lays 82 = .ok (.iload_n 3, 1) := by decide +kernel
theorem dX6_lays_83 : decode cX6_lays 83 = .ok (.invokevirtual 97, 3) := by decide +kernel
theorem dX6_lays_86 : decode cX6_lays 86 = .ok (.ifCond .eq 17, 3) := by decide +kernel
theorem dX6_lays_89 : decode cX6_lays 89 = .ok (.aload_n 0, 1) := by decide +kernel
theorem dX6_lays_90 : decode cX6_lays 90 = .ok (.getfield 34, 3) := by decide +kernel
theorem dX6_lays_93 : decode cX6_lays 93 = .ok (.iconst 1, 1) := by decide +kernel
theorem dX6_lays_94 : decode cX6_lays 94 = .ok (.iload_n 3, 1) := by decide +kernel
theorem dX6_lays_95 : decode cX6_lays 95 = .ok (.iadd, 1) := by decide +kernel
theorem dX6_lays_96 : decode cX6_lays 96 = .ok (.lload 4, 2) := by decide +kernel
theorem dX6_lays_98 : decode cX6_lays 98 = .ok (.l2i, 1) := by decide +kernel
theorem dX6_lays_99 : decode cX6_lays 99 = .ok (.iastore, 1) := by decide +kernel
theorem dX6_lays_100 : decode cX6_lays 100 = .ok (.iinc 2 1, 3) := by decide +kernel
theorem dX6_lays_103 : decode cX6_lays 103 = .ok (.iinc 3 1, 3) := by decide +kernel
theorem dX6_lays_106 : decode cX6_lays 106 = .ok (.goto (-72), 3) := by decide +kernel
theorem dX6_lays_109 : decode cX6_lays 109 = .ok (.iload_n 2, 1) := by decide +kernel
theorem dX6_lays_110 : decode cX6_lays 110 = .ok (.ireturn, 1) := by decide +kernel
theorem dX6_rolled_0 : decode cX6_rolled 0 = .ok (.aload_n 0, 1) := by decide +kernel
theorem dX6_rolled_1 : decode cX6_rolled 1 = .ok (.iload_n 1, 1) := by decide +kernel
theorem dX6_rolled_2 : decode cX6_rolled 2 = .ok (.invokevirtual 97, 3) := by decide +kernel
theorem dX6_rolled_5 : decode cX6_rolled 5 = .ok (.ifCond .eq 11, 3) := by decide +kernel
theorem dX6_rolled_8 : decode cX6_rolled 8 = .ok (.aload_n 0, 1) := by decide +kernel
theorem dX6_rolled_9 : decode cX6_rolled 9 = .ok (.iload_n 1, 1) := by decide +kernel
theorem dX6_rolled_10 : decode cX6_rolled 10 = .ok (.invokevirtual 93, 3) := by decide +kernel
theorem dX6_rolled_13 : decode cX6_rolled 13 = .ok (.goto 4, 3) := by decide +kernel
theorem dX6_rolled_16 : decode cX6_rolled 16 = .ok (.iconst (-1), 1) := by decide +kernel
theorem dX6_rolled_17 : decode cX6_rolled 17 = .ok (.ireturn, 1) := by decide +kernel
theorem dX6_roll_0 : decode cX6_roll 0 = .ok (.iload_n 1, 1) := by decide +kernel
theorem dX6_roll_1 : decode cX6_roll 1 = .ok (.invokestatic 240, 3) := by decide +kernel
theorem dX6_roll_4 : decode cX6_roll 4 = .ok (.ifCond .ne 10, 3) := by decide +kernel
theorem dX6_roll_7 : decode cX6_roll 7 = .ok (.aload_n 0, 1) := by decide +kernel
theorem dX6_roll_8 : decode cX6_roll 8 = .ok (.ldc 78, 2) := by decide +kernel
theorem dX6_roll_10 : decode cX6_roll 10 = .ok (.invokevirtual 125, 3) := by decide +kernel
theorem dX6_roll_13 : decode cX6_roll 13 = .ok (.ireturn, 1) := by decide +kernel
theorem dX6_roll_14 : decode cX6_roll 14 = .ok (.aload_n 0, 1) := by decide +kernel
theorem dX6_roll_15 : decode cX6_roll 15 = .ok (.getfield 56, 3) := by decide +kernel
theorem dX6_roll_18 : decode cX6_roll 18 = .ok (.iload_n 1, 1) := by decide +kernel
theorem dX6_roll_19 : decode cX6_roll 19 = .ok (.iaload, 1) := by decide +kernel
theorem dX6_roll_20 : decode cX6_roll 20 = .ok (.ifCond .ne 10, 3) := by decide +kernel
theorem dX6_roll_23 : decode cX6_roll 23 = .ok (.aload_n 0, 1) := by decide +kernel
theorem dX6_roll_24 : decode cX6_roll 24 = .ok (.ldc 243, 2) := by decide +kernel
theorem dX6_roll_26 : decode cX6_roll 26 = .ok (.invokevirtual 125, 3) := by decide +kernel
theorem dX6_roll_29 : decode cX6_roll 29 = .ok (.ireturn, 1) := by decide +kernel
theorem dX6_roll_30 : decode cX6_roll 30 = .ok (.iconst 0, 1) := by decide +kernel
theorem dX6_roll_31 : decode cX6_roll 31 = .ok (.istore_n 2, 1) := by decide +kernel
theorem dX6_roll_32 : decode cX6_roll 32 = .ok (.iload_n 2, 1) := by decide +kernel
theorem dX6_roll_33 : decode cX6_roll 33 = .ok (.aload_n 0, 1) := by decide +kernel
theorem dX6_roll_34 : decode cX6_roll 34 = .ok (.getfield 83, 3) := by decide +kernel
theorem dX6_roll_37 : decode cX6_roll 37 = .ok (.if_icmp .ge 36, 3) := by decide +kernel
theorem dX6_roll_40 : decode cX6_roll 40 = .ok (.iload_n 2, 1) := by decide +kernel
theorem dX6_roll_41 : decode cX6_roll 41 = .ok (.aload_n 0, 1) := by decide +kernel
theorem dX6_roll_42 : decode cX6_roll 42 = .ok (.getfield 59, 3) := by decide +kernel
theorem dX6_roll_45 : decode cX6_roll 45 = .ok (.iload_n 1, 1) := by decide +kernel
theorem dX6_roll_46 : decode cX6_roll 46 = .ok (.iaload, 1) := by decide +kernel
theorem dX6_roll_47 : decode cX6_roll 47 = .ok (.if_icmp .ge 26, 3) := by decide +kernel
theorem dX6_roll_50 : decode cX6_roll 50 = .ok (.aload_n 0, 1) := by decide +kernel
theorem dX6_roll_51 : decode cX6_roll 51 = .ok (.getfield 62, 3) := by decide +kernel
theorem dX6_roll_54 : decode cX6_roll 54 = .ok (.bipush 40, 2) := by decide +kernel
theorem dX6_roll_56 : decode cX6_roll 56 = .ok (.iload_n 1, 1) := by decide +kernel
theorem dX6_roll_57 : decode cX6_roll 57 = .ok (.imul, 1) := by decide +kernel
theorem dX6_roll_58 : decode cX6_roll 58 = .ok (.iload_n 2, 1) := by decide +kernel
theorem dX6_roll_59 : decode cX6_roll 59 = .ok (.iadd, 1) := by decide +kernel
theorem dX6_roll_60 : decode cX6_roll 60 = .ok (.aload_n 0, 1) := by decide +kernel
theorem dX6_roll_61 : decode cX6_roll 61 = .ok (.iload_n 2, 1) := by decide +kernel
theorem dX6_roll_62 : decode cX6_roll 62 = .ok (.invokevirtual 365, 3) := by decide +kernel
theorem dX6_roll_65 : decode cX6_roll 65 = .ok (.i2l, 1) := by decide +kernel
theorem dX6_roll_66 : decode cX6_roll 66 = .ok (.lastore, 1) := by decide +kernel
theorem dX6_roll_67 : decode cX6_roll 67 = .ok (.iinc 2 1, 3) := by decide +kernel
theorem dX6_roll_70 : decode cX6_roll 70 = .ok (.goto (-38), 3) := by decide +kernel
theorem dX6_roll_73 : decode cX6_roll 73 = .ok (.iload_n 2, 1) := by decide +kernel
theorem dX6_roll_74 : decode cX6_roll 74 = .ok (.ireturn, 1) := by decide +kernel
theorem dX6_read_0 : decode cX6_read 0 = .ok (.iload_n 1, 1) := by decide +kernel
theorem dX6_read_1 : decode cX6_read 1 = .ok (.invokestatic 240, 3) := by decide +kernel
theorem dX6_read_4 : decode cX6_read 4 = .ok (.ifCond .ne 10, 3) := by decide +kernel
theorem dX6_read_7 : decode cX6_read 7 = .ok (.aload_n 0, 1) := by decide +kernel
theorem dX6_read_8 : decode cX6_read 8 = .ok (.ldc 78, 2) := by decide +kernel
theorem dX6_read_10 : decode cX6_read 10 = .ok (.invokevirtual 125, 3) := by decide +kernel
theorem dX6_read_13 : decode cX6_read 13 = .ok (.ireturn, 1) := by decide +kernel
theorem dX6_read_14 : decode cX6_read 14 = .ok (.aload_n 0, 1) := by decide +kernel
theorem dX6_read_15 : decode cX6_read 15 = .ok (.getfield 56, 3) := by decide +kernel
theorem dX6_read_18 : decode cX6_read 18 = .ok (.iload_n 1, 1) := by decide +kernel
theorem dX6_read_19 : decode cX6_read 19 = .ok (.iaload, 1) := by decide +kernel
theorem dX6_read_20 : decode cX6_read 20 = .ok (.ifCond .ne 10, 3) := by decide +kernel
theorem dX6_read_23 : decode cX6_read 23 = .ok (.aload_n 0, 1) := by decide +kernel
theorem dX6_read_24 : decode cX6_read 24 = .ok (.ldc 243, 2) := by decide +kernel
theorem dX6_read_26 : decode cX6_read 26 = .ok (.invokevirtual 125, 3) := by decide +kernel
theorem dX6_read_29 : decode cX6_read 29 = .ok (.ireturn, 1) := by decide +kernel
theorem dX6_read_30 : decode cX6_read 30 = .ok (.iconst 0, 1) := by decide +kernel
theorem dX6_read_31 : decode cX6_read 31 = .ok (.istore_n 2, 1) := by decide +kernel
theorem dX6_read_32 : decode cX6_read 32 = .ok (.iload_n 2, 1) := by decide +kernel
theorem dX6_read_33 : decode cX6_read 33 = .ok (.aload_n 0, 1) := by decide +kernel
theorem dX6_read_34 : decode cX6_read 34 = .ok (.getfield 59, 3) := by decide +kernel
theorem dX6_read_37 : decode cX6_read 37 = .ok (.iload_n 1, 1) := by decide +kernel
theorem dX6_read_38 : decode cX6_read 38 = .ok (.iaload, 1) := by decide +kernel
theorem dX6_read_39 : decode cX6_read 39 = .ok (.if_icmp .ge 38, 3) := by decide +kernel
theorem dX6_read_42 : decode cX6_read 42 = .ok (.iload_n 2, 1) := by decide +kernel
theorem dX6_read_43 : decode cX6_read 43 = .ok (.aload_n 0, 1) := by decide +kernel
theorem dX6_read_44 : decode cX6_read 44 = .ok (.getfield 83, 3) := by decide +kernel
theorem dX6_read_47 : decode cX6_read 47 = .ok (.if_icmp .ge 30, 3) := by decide +kernel
theorem dX6_read_50 : decode cX6_read 50 = .ok (.aload_n 0, 1) := by decide +kernel
theorem dX6_read_51 : decode cX6_read 51 = .ok (.getfield 62, 3) := by decide +kernel
theorem dX6_read_54 : decode cX6_read 54 = .ok (.bipush 40, 2) := by decide +kernel
theorem dX6_read_56 : decode cX6_read 56 = .ok (.iload_n 1, 1) := by decide +kernel
theorem dX6_read_57 : decode cX6_read 57 = .ok (.imul, 1) := by decide +kernel
theorem dX6_read_58 : decode cX6_read 58 = .ok (.iload_n 2, 1) := by decide +kernel
theorem dX6_read_59 : decode cX6_read 59 = .ok (.iadd, 1) := by decide +kernel
theorem dX6_read_60 : decode cX6_read 60 = .ok (.laload, 1) := by decide +kernel
theorem dX6_read_61 : decode cX6_read 61 = .ok (.aload_n 0, 1) := by decide +kernel
theorem dX6_read_62 : decode cX6_read 62 = .ok (.iload_n 2, 1) := by decide +kernel
theorem dX6_read_63 : decode cX6_read 63 = .ok (.invokevirtual 365, 3) := by decide +kernel
theorem dX6_read_66 : decode cX6_read 66 = .ok (.i2l, 1) := by decide +kernel
theorem dX6_read_67 : decode cX6_read 67 = .ok (.lcmp, 1) := by decide +kernel
theorem dX6_read_68 : decode cX6_read 68 = .ok (.ifCond .ne 9, 3) := by decide +kernel
theorem dX6_read_71 : decode cX6_read 71 = .ok (.iinc 2 1, 3) := by decide +kernel
theorem dX6_read_74 : decode cX6_read 74 = .ok (.goto (-42), 3) := by decide +kernel
theorem dX6_read_77 : decode cX6_read 77 = .ok (.iload_n 2, 1) := by decide +kernel
theorem dX6_read_78 : decode cX6_read 78 = .ok (.aload_n 0, 1) := by decide +kernel
theorem dX6_read_79 : decode cX6_read 79 = .ok (.getfield 59, 3) := by decide +kernel
theorem dX6_read_82 : decode cX6_read 82 = .ok (.iload_n 1, 1) := by decide +kernel
theorem dX6_read_83 : decode cX6_read 83 = .ok (.iaload, 1) := by decide +kernel
theorem dX6_read_84 : decode cX6_read 84 = .ok (.if_icmp .ne 15, 3) := by decide +kernel
theorem dX6_read_87 : decode cX6_read 87 = .ok (.iload_n 2, 1) := by decide +kernel
theorem dX6_read_88 : decode cX6_read 88 = .ok (.aload_n 0, 1) := by decide +kernel
theorem dX6_read_89 : decode cX6_read 89 = .ok (.getfield 83, 3) := by decide +kernel
theorem dX6_read_92 : decode cX6_read 92 = .ok (.if_icmp .ne 7, 3) := by decide +kernel
theorem dX6_read_95 : decode cX6_read 95 = .ok (.iconst 0, 1) := by decide +kernel
theorem dX6_read_96 : decode cX6_read 96 = .ok (.goto 6, 3) := by decide +kernel
theorem dX6_read_99 : decode cX6_read 99 = .ok (.iload_n 2, 1) := by decide +kernel
theorem dX6_read_100 : decode cX6_read 100 = .ok (.iconst 1, 1) := by decide +kernel
theorem dX6_read_101 : decode cX6_read 101 = .ok (.iadd, 1) := by decide +kernel
theorem dX6_read_102 : decode cX6_read 102 = .ok (.ireturn, 1) := by decide +kernel
theorem dX6_moveRow_0 : decode cX6_moveRow 0 = .ok (.iconst 0, 1) := by decide +kernel
theorem dX6_moveRow_1 : decode cX6_moveRow 1 = .ok (.istore 5, 2) := by decide +kernel
theorem dX6_moveRow_3 : decode cX6_moveRow 3 = .ok (.iload 5, 2) := by decide +kernel
theorem dX6_moveRow_5 : decode cX6_moveRow 5 = .ok (.iload_n 2, 1) := by decide +kernel
theorem dX6_moveRow_6 : decode cX6_moveRow 6 = .ok (.if_icmp .ge 48, 3) := by decide +kernel
theorem dX6_moveRow_9 : decode cX6_moveRow 9 = .ok (.iload_n 3, 1) := by decide +kernel
theorem dX6_moveRow_10 : decode cX6_moveRow 10 = .ok (.ifCond .eq 17, 3) := by decide +kernel
theorem dX6_moveRow_13 : decode cX6_moveRow 13 = .ok (.aload 4, 2) := by decide +kernel
theorem dX6_moveRow_15 : decode cX6_moveRow 15 = .ok (.aload_n 0, 1) := by decide +kernel
theorem dX6_moveRow_16 : decode cX6_moveRow 16 = .ok (.getfield 368, 3) := by decide +kernel
theorem dX6_moveRow_19 : decode cX6_moveRow 19 = .ok (.aload_n 1, 1) := by decide +kernel
theorem dX6_moveRow_20 : decode cX6_moveRow 20 = .ok (.iload 5, 2) := by decide +kernel
theorem dX6_moveRow_22 : decode cX6_moveRow 22 = .ok (.iaload, 1) := by decide +kernel
theorem dX6_moveRow_23 : decode cX6_moveRow 23 = .ok (.iastore, 1) := by decide +kernel
theorem dX6_moveRow_24 : decode cX6_moveRow 24 = .ok (.goto 14, 3) := by decide +kernel
theorem dX6_moveRow_27 : decode cX6_moveRow 27 = .ok (.aload_n 1, 1) := by decide +kernel
theorem dX6_moveRow_28 : decode cX6_moveRow 28 = .ok (.iload 5, 2) := by decide +kernel
theorem dX6_moveRow_30 : decode cX6_moveRow 30 = .ok (.aload 4, 2) := by decide +kernel
theorem dX6_moveRow_32 : decode cX6_moveRow 32 = .ok (.aload_n 0, 1) := by decide +kernel
theorem dX6_moveRow_33 : decode cX6_moveRow 33 = .ok (.getfield 368, 3) := by decide +kernel
theorem dX6_moveRow_36 : decode cX6_moveRow 36 = .ok (.iaload, 1) := by decide +kernel
theorem dX6_moveRow_37 : decode cX6_moveRow 37 = .ok (.iastore, 1) := by decide +kernel
theorem dX6_moveRow_38 : decode cX6_moveRow 38 = .ok (.aload_n 0, 1) := by decide +kernel
theorem dX6_moveRow_39 : decode cX6_moveRow 39 = .ok (.dup, 1) := by decide +kernel
theorem dX6_moveRow_40 : decode cX6_moveRow 40 = .ok (.getfield 368, 3) := by decide +kernel
theorem dX6_moveRow_43 : decode cX6_moveRow 43 = .ok (.iconst 1, 1) := by decide +kernel
theorem dX6_moveRow_44 : decode cX6_moveRow 44 = .ok (.iadd, 1) := by decide +kernel
theorem dX6_moveRow_45 : decode cX6_moveRow 45 = .ok (.putfield 368, 3) := by decide +kernel
theorem dX6_moveRow_48 : decode cX6_moveRow 48 = .ok (.iinc 5 1, 3) := by decide +kernel
theorem dX6_moveRow_51 : decode cX6_moveRow 51 = .ok (.goto (-48), 3) := by decide +kernel
theorem dX6_moveRow_54 : decode cX6_moveRow 54 = .ok (.return_, 1) := by decide +kernel
theorem dX6_moveAll_0 : decode cX6_moveAll 0 = .ok (.aload_n 0, 1) := by decide +kernel
theorem dX6_moveAll_1 : decode cX6_moveAll 1 = .ok (.iconst 0, 1) := by decide +kernel
theorem dX6_moveAll_2 : decode cX6_moveAll 2 = .ok (.putfield 368, 3) := by decide +kernel
theorem dX6_moveAll_5 : decode cX6_moveAll 5 = .ok (.aload_n 0, 1) := by decide +kernel
theorem dX6_moveAll_6 : decode cX6_moveAll 6 = .ok (.getfield 75, 3) := by decide +kernel
theorem dX6_moveAll_9 : decode cX6_moveAll 9 = .ok (.iconst 0, 1) := by decide +kernel
theorem dX6_moveAll_10 : decode cX6_moveAll 10 = .ok (.aload_n 0, 1) := by decide +kernel
theorem dX6_moveAll_11 : decode cX6_moveAll 11 = .ok (.getfield 83, 3) := by decide +kernel
theorem dX6_moveAll_14 : decode cX6_moveAll 14 = .ok (.iastore, 1) := by decide +kernel
theorem dX6_moveAll_15 : decode cX6_moveAll 15 = .ok (.aload_n 0, 1) := by decide +kernel
theorem dX6_moveAll_16 : decode cX6_moveAll 16 = .ok (.getfield 75, 3) := by decide +kernel
theorem dX6_moveAll_19 : decode cX6_moveAll 19 = .ok (.iconst 1, 1) := by decide +kernel
theorem dX6_moveAll_20 : decode cX6_moveAll 20 = .ok (.aload_n 0, 1) := by decide +kernel
theorem dX6_moveAll_21 : decode cX6_moveAll 21 = .ok (.getfield 87, 3) := by decide +kernel
theorem dX6_moveAll_24 : decode cX6_moveAll 24 = .ok (.iastore, 1) := by decide +kernel
theorem dX6_moveAll_25 : decode cX6_moveAll 25 = .ok (.aload_n 0, 1) := by decide +kernel
theorem dX6_moveAll_26 : decode cX6_moveAll 26 = .ok (.aload_n 0, 1) := by decide +kernel
theorem dX6_moveAll_27 : decode cX6_moveAll 27 = .ok (.getfield 75, 3) := by decide +kernel
theorem dX6_moveAll_30 : decode cX6_moveAll 30 = .ok (.iconst 2, 1) := by decide +kernel
theorem dX6_moveAll_31 : decode cX6_moveAll 31 = .ok (.iload_n 1, 1) := by decide +kernel
theorem dX6_moveAll_32 : decode cX6_moveAll 32 = .ok (.aload_n 2, 1) := by decide +kernel
theorem dX6_moveAll_33 : decode cX6_moveAll 33 = .ok (.invokevirtual 371, 3) := by decide +kernel
theorem dX6_moveAll_36 : decode cX6_moveAll 36 = .ok (.aload_n 0, 1) := by decide +kernel
theorem dX6_moveAll_37 : decode cX6_moveAll 37 = .ok (.aload_n 0, 1) := by decide +kernel
theorem dX6_moveAll_38 : decode cX6_moveAll 38 = .ok (.getfield 75, 3) := by decide +kernel
theorem dX6_moveAll_41 : decode cX6_moveAll 41 = .ok (.iconst 0, 1) := by decide +kernel
theorem dX6_moveAll_42 : decode cX6_moveAll 42 = .ok (.iaload, 1) := by decide +kernel
theorem dX6_moveAll_43 : decode cX6_moveAll 43 = .ok (.putfield 83, 3) := by decide +kernel
theorem dX6_moveAll_46 : decode cX6_moveAll 46 = .ok (.aload_n 0, 1) := by decide +kernel
theorem dX6_moveAll_47 : decode cX6_moveAll 47 = .ok (.aload_n 0, 1) := by decide +kernel
theorem dX6_moveAll_48 : decode cX6_moveAll 48 = .ok (.getfield 75, 3) := by decide +kernel
theorem dX6_moveAll_51 : decode cX6_moveAll 51 = .ok (.iconst 1, 1) := by decide +kernel
theorem dX6_moveAll_52 : decode cX6_moveAll 52 = .ok (.iaload, 1) := by decide +kernel
theorem dX6_moveAll_53 : decode cX6_moveAll 53 = .ok (.putfield 87, 3) := by decide +kernel
theorem dX6_moveAll_56 : decode cX6_moveAll 56 = .ok (.aload_n 0, 1) := by decide +kernel
theorem dX6_moveAll_57 : decode cX6_moveAll 57 = .ok (.aload_n 0, 1) := by decide +kernel
theorem dX6_moveAll_58 : decode cX6_moveAll 58 = .ok (.getfield 7, 3) := by decide +kernel
theorem dX6_moveAll_61 : decode cX6_moveAll 61 = .ok (.bipush 6, 2) := by decide +kernel
theorem dX6_moveAll_63 : decode cX6_moveAll 63 = .ok (.iload_n 1, 1) := by decide +kernel
theorem dX6_moveAll_64 : decode cX6_moveAll 64 = .ok (.aload_n 2, 1) := by decide +kernel
theorem dX6_moveAll_65 : decode cX6_moveAll 65 = .ok (.invokevirtual 371, 3) := by decide +kernel
theorem dX6_moveAll_68 : decode cX6_moveAll 68 = .ok (.aload_n 0, 1) := by decide +kernel
theorem dX6_moveAll_69 : decode cX6_moveAll 69 = .ok (.aload_n 0, 1) := by decide +kernel
theorem dX6_moveAll_70 : decode cX6_moveAll 70 = .ok (.getfield 13, 3) := by decide +kernel
theorem dX6_moveAll_73 : decode cX6_moveAll 73 = .ok (.bipush 14, 2) := by decide +kernel
theorem dX6_moveAll_75 : decode cX6_moveAll 75 = .ok (.iload_n 1, 1) := by decide +kernel
theorem dX6_moveAll_76 : decode cX6_moveAll 76 = .ok (.aload_n 2, 1) := by decide +kernel
theorem dX6_moveAll_77 : decode cX6_moveAll 77 = .ok (.invokevirtual 371, 3) := by decide +kernel
theorem dX6_moveAll_80 : decode cX6_moveAll 80 = .ok (.aload_n 0, 1) := by decide +kernel
theorem dX6_moveAll_81 : decode cX6_moveAll 81 = .ok (.aload_n 0, 1) := by decide +kernel
theorem dX6_moveAll_82 : decode cX6_moveAll 82 = .ok (.getfield 16, 3) := by decide +kernel
theorem dX6_moveAll_85 : decode cX6_moveAll 85 = .ok (.bipush 14, 2) := by decide +kernel
theorem dX6_moveAll_87 : decode cX6_moveAll 87 = .ok (.iload_n 1, 1) := by decide +kernel
theorem dX6_moveAll_88 : decode cX6_moveAll 88 = .ok (.aload_n 2, 1) := by decide +kernel
theorem dX6_moveAll_89 : decode cX6_moveAll 89 = .ok (.invokevirtual 371, 3) := by decide +kernel
theorem dX6_moveAll_92 : decode cX6_moveAll 92 = .ok (.aload_n 0, 1) := by decide +kernel
theorem dX6_moveAll_93 : decode cX6_moveAll 93 = .ok (.aload_n 0, 1) := by decide +kernel
theorem dX6_moveAll_94 : decode cX6_moveAll 94 = .ok (.getfield 19, 3) := by decide +kernel
theorem dX6_moveAll_97 : decode cX6_moveAll 97 = .ok (.bipush 14, 2) := by decide +kernel
theorem dX6_moveAll_99 : decode cX6_moveAll 99 = .ok (.iload_n 1, 1) := by decide +kernel
theorem dX6_moveAll_100 : decode cX6_moveAll 100 = .ok (.aload_n 2, 1) := by decide +kernel
theorem dX6_moveAll_101 : decode cX6_moveAll 101 = .ok (.invokevirtual 371, 3) := by decide +kernel
theorem dX6_moveAll_104 : decode cX6_moveAll 104 = .ok (.aload_n 0, 1) := by decide +kernel
theorem dX6_moveAll_105 : decode cX6_moveAll 105 = .ok (.aload_n 0, 1) := by decide +kernel
theorem dX6_moveAll_106 : decode cX6_moveAll 106 = .ok (.getfield 22, 3) := by decide +kernel
theorem dX6_moveAll_109 : decode cX6_moveAll 109 = .ok (.bipush 12, 2) := by decide +kernel
theorem dX6_moveAll_111 : decode cX6_moveAll 111 = .ok (.iload_n 1, 1) := by decide +kernel
theorem dX6_moveAll_112 : decode cX6_moveAll 112 = .ok (.aload_n 2, 1) := by decide +kernel
theorem dX6_moveAll_113 : decode cX6_moveAll 113 = .ok (.invokevirtual 371, 3) := by decide +kernel
theorem dX6_moveAll_116 : decode cX6_moveAll 116 = .ok (.aload_n 0, 1) := by decide +kernel
theorem dX6_moveAll_117 : decode cX6_moveAll 117 = .ok (.aload_n 0, 1) := by decide +kernel
theorem dX6_moveAll_118 : decode cX6_moveAll 118 = .ok (.getfield 25, 3) := by decide +kernel
theorem dX6_moveAll_121 : decode cX6_moveAll 121 = .ok (.bipush 12, 2) := by decide +kernel
theorem dX6_moveAll_123 : decode cX6_moveAll 123 = .ok (.iload_n 1, 1) := by decide +kernel
theorem dX6_moveAll_124 : decode cX6_moveAll 124 = .ok (.aload_n 2, 1) := by decide +kernel
theorem dX6_moveAll_125 : decode cX6_moveAll 125 = .ok (.invokevirtual 371, 3) := by decide +kernel
theorem dX6_moveAll_128 : decode cX6_moveAll 128 = .ok (.aload_n 0, 1) := by decide +kernel
theorem dX6_moveAll_129 : decode cX6_moveAll 129 = .ok (.aload_n 0, 1) := by decide +kernel
theorem dX6_moveAll_130 : decode cX6_moveAll 130 = .ok (.getfield 28, 3) := by decide +kernel
theorem dX6_moveAll_133 : decode cX6_moveAll 133 = .ok (.bipush 12, 2) := by decide +kernel
theorem dX6_moveAll_135 : decode cX6_moveAll 135 = .ok (.iload_n 1, 1) := by decide +kernel
theorem dX6_moveAll_136 : decode cX6_moveAll 136 = .ok (.aload_n 2, 1) := by decide +kernel
theorem dX6_moveAll_137 : decode cX6_moveAll 137 = .ok (.invokevirtual 371, 3) := by decide +kernel
theorem dX6_moveAll_140 : decode cX6_moveAll 140 = .ok (.aload_n 0, 1) := by decide +kernel
theorem dX6_moveAll_141 : decode cX6_moveAll 141 = .ok (.aload_n 0, 1) := by decide +kernel
theorem dX6_moveAll_142 : decode cX6_moveAll 142 = .ok (.getfield 31, 3) := by decide +kernel
theorem dX6_moveAll_145 : decode cX6_moveAll 145 = .ok (.bipush 12, 2) := by decide +kernel
theorem dX6_moveAll_147 : decode cX6_moveAll 147 = .ok (.iload_n 1, 1) := by decide +kernel
theorem dX6_moveAll_148 : decode cX6_moveAll 148 = .ok (.aload_n 2, 1) := by decide +kernel
theorem dX6_moveAll_149 : decode cX6_moveAll 149 = .ok (.invokevirtual 371, 3) := by decide +kernel
theorem dX6_moveAll_152 : decode cX6_moveAll 152 = .ok (.aload_n 0, 1) := by decide +kernel
theorem dX6_moveAll_153 : decode cX6_moveAll 153 = .ok (.aload_n 0, 1) := by decide +kernel
theorem dX6_moveAll_154 : decode cX6_moveAll 154 = .ok (.getfield 34, 3) := by decide +kernel
theorem dX6_moveAll_157 : decode cX6_moveAll 157 = .ok (.bipush 41, 2) := by decide +kernel
theorem dX6_moveAll_159 : decode cX6_moveAll 159 = .ok (.iload_n 1, 1) := by decide +kernel
theorem dX6_moveAll_160 : decode cX6_moveAll 160 = .ok (.aload_n 2, 1) := by decide +kernel
theorem dX6_moveAll_161 : decode cX6_moveAll 161 = .ok (.invokevirtual 371, 3) := by decide +kernel
theorem dX6_moveAll_164 : decode cX6_moveAll 164 = .ok (.return_, 1) := by decide +kernel
theorem dX6_image_0 : decode cX6_image 0 = .ok (.aload_n 0, 1) := by decide +kernel
theorem dX6_image_1 : decode cX6_image 1 = .ok (.iconst 1, 1) := by decide +kernel
theorem dX6_image_2 : decode cX6_image 2 = .ok (.aload_n 0, 1) := by decide +kernel
theorem dX6_image_3 : decode cX6_image 3 = .ok (.getfield 69, 3) := by decide +kernel
theorem dX6_image_6 : decode cX6_image 6 = .ok (.invokevirtual 351, 3) := by decide +kernel
theorem dX6_image_9 : decode cX6_image 9 = .ok (.aload_n 0, 1) := by decide +kernel
theorem dX6_image_10 : decode cX6_image 10 = .ok (.iconst 1, 1) := by decide +kernel
theorem dX6_image_11 : decode cX6_image 11 = .ok (.putfield 375, 3) := by decide +kernel
theorem dX6_image_14 : decode cX6_image 14 = .ok (.iconst 1, 1) := by decide +kernel
theorem dX6_image_15 : decode cX6_image 15 = .ok (.ireturn, 1) := by decide +kernel
theorem dX6_undo_0 : decode cX6_undo 0 = .ok (.aload_n 0, 1) := by decide +kernel
theorem dX6_undo_1 : decode cX6_undo 1 = .ok (.getfield 375, 3) := by decide +kernel
theorem dX6_undo_4 : decode cX6_undo 4 = .ok (.ifCond .ne 10, 3) := by decide +kernel
theorem dX6_undo_7 : decode cX6_undo 7 = .ok (.aload_n 0, 1) := by decide +kernel
theorem dX6_undo_8 : decode cX6_undo 8 = .ok (.ldc 170, 2) := by decide +kernel
theorem dX6_undo_10 : decode cX6_undo 10 = .ok (.invokevirtual 125, 3) := by decide +kernel
theorem dX6_undo_13 : decode cX6_undo 13 = .ok (.ireturn, 1) := by decide +kernel
theorem dX6_undo_14 : decode cX6_undo 14 = .ok (.aload_n 0, 1) := by decide +kernel
theorem dX6_undo_15 : decode cX6_undo 15 = .ok (.iconst 0, 1) := by decide +kernel
theorem dX6_undo_16 : decode cX6_undo 16 = .ok (.aload_n 0, 1) := by decide +kernel
theorem dX6_undo_17 : decode cX6_undo 17 = .ok (.getfield 69, 3) := by decide +kernel
theorem dX6_undo_20 : decode cX6_undo 20 = .ok (.invokevirtual 351, 3) := by decide +kernel
theorem dX6_undo_23 : decode cX6_undo 23 = .ok (.aload_n 0, 1) := by decide +kernel
theorem dX6_undo_24 : decode cX6_undo 24 = .ok (.getfield 83, 3) := by decide +kernel
theorem dX6_undo_27 : decode cX6_undo 27 = .ok (.ireturn, 1) := by decide +kernel
theorem dX6_tear_0 : decode cX6_tear 0 = .ok (.aload_n 0, 1) := by decide +kernel
theorem dX6_tear_1 : decode cX6_tear 1 = .ok (.getfield 375, 3) := by decide +kernel
theorem dX6_tear_4 : decode cX6_tear 4 = .ok (.ifCond .eq 7, 3) := by decide +kernel
theorem dX6_tear_7 : decode cX6_tear 7 = .ok (.iconst 1, 1) := by decide +kernel
theorem dX6_tear_8 : decode cX6_tear 8 = .ok (.goto 4, 3) := by decide +kernel
theorem dX6_tear_11 : decode cX6_tear 11 = .ok (.iconst 0, 1) := by decide +kernel
theorem dX6_tear_12 : decode cX6_tear 12 = .ok (.istore_n 1, 1) := by decide +kernel
theorem dX6_tear_13 : decode cX6_tear 13 = .ok (.aload_n 0, 1) := by decide +kernel
theorem dX6_tear_14 : decode cX6_tear 14 = .ok (.iconst 0, 1) := by decide +kernel
theorem dX6_tear_15 : decode cX6_tear 15 = .ok (.putfield 375, 3) := by decide +kernel
theorem dX6_tear_18 : decode cX6_tear 18 = .ok (.iload_n 1, 1) := by decide +kernel
theorem dX6_tear_19 : decode cX6_tear 19 = .ok (.ireturn, 1) := by decide +kernel
theorem dX6_count_0 : decode cX6_count 0 = .ok (.iconst 0, 1) := by decide +kernel
theorem dX6_count_1 : decode cX6_count 1 = .ok (.istore_n 2, 1) := by decide +kernel
theorem dX6_count_2 : decode cX6_count 2 = .ok (.iload_n 1, 1) := by decide +kernel
theorem dX6_count_3 : decode cX6_count 3 = .ok (.tableswitch 90 0 3 #[29, 34, 39, 44], 29) := by decide +kernel
theorem dX6_count_32 : decode cX6_count 32 = .ok (.aload_n 0, 1) := by decide +kernel
theorem dX6_count_33 : decode cX6_count 33 = .ok (.getfield 83, 3) := by decide +kernel
theorem dX6_count_36 : decode cX6_count 36 = .ok (.ireturn, 1) := by decide +kernel
theorem dX6_count_37 : decode cX6_count 37 = .ok (.aload_n 0, 1) := by decide +kernel
theorem dX6_count_38 : decode cX6_count 38 = .ok (.getfield 87, 3) := by decide +kernel
theorem dX6_count_41 : decode cX6_count 41 = .ok (.ireturn, 1) := by decide +kernel
theorem dX6_count_42 : decode cX6_count 42 = .ok (.aload_n 0, 1) := by decide +kernel
theorem dX6_count_43 : decode cX6_count 43 = .ok (.getfield 253, 3) := by decide +kernel
theorem dX6_count_46 : decode cX6_count 46 = .ok (.ireturn, 1) := by decide +kernel
theorem dX6_count_47 : decode cX6_count 47 = .ok (.iconst 0, 1) := by decide +kernel
theorem dX6_count_48 : decode cX6_count 48 = .ok (.istore_n 3, 1) := by decide +kernel
theorem dX6_count_49 : decode cX6_count 49 = .ok (.iload_n 3, 1) := by decide +kernel
theorem dX6_count_50 : decode cX6_count 50 = .ok (.aload_n 0, 1) := by decide +kernel
theorem dX6_count_51 : decode cX6_count 51 = .ok (.getfield 83, 3) := by decide +kernel
theorem dX6_count_54 : decode cX6_count 54 = .ok (.if_icmp .ge 37, 3) := by decide +kernel
theorem dX6_count_57 : decode cX6_count 57 = .ok (.iload_n 2, 1) := by decide +kernel
theorem dX6_count_58 : decode cX6_count 58 = .ok (.aload_n 0, 1) := by decide +kernel
theorem dX6_count_59 : decode cX6_count 59 = .ok (.iload_n 3, 1) := by decide +kernel
theorem dX6_count_60 : decode cX6_count 60 = .ok (.invokevirtual 97, 3) := by decide +kernel
theorem dX6_count_63 : decode cX6_count 63 = .ok (.ifCond .eq 19, 3) := by decide +kernel
theorem dX6_count_66 : decode cX6_count 66 = .ok (.aload_n 0, 1) := by decide +kernel
theorem dX6_count_67 : decode cX6_count 67 = .ok (.iload_n 3, 1) := by decide +kernel
theorem dX6_count_68 : decode cX6_count 68 = .ok (.invokevirtual 101, 3) := by decide +kernel
theorem dX6_count_71 : decode cX6_count 71 = .ok (.ifCond .ne 11, 3) := by decide +kernel
theorem dX6_count_74 : decode cX6_count 74 = .ok (.aload_n 0, 1) := by decide +kernel
theorem dX6_count_75 : decode cX6_count 75 = .ok (.iload_n 3, 1) := by decide +kernel
theorem dX6_count_76 : decode cX6_count 76 = .ok (.invokevirtual 107, 3) := by decide +kernel
theorem dX6_count_79 : decode cX6_count 79 = .ok (.goto 4, 3) := by decide +kernel
theorem dX6_count_82 : decode cX6_count 82 = .ok (.iconst 0, 1) := by decide +kernel
theorem dX6_count_83 : decode cX6_count 83 = .ok (.iadd, 1) := by decide +kernel
theorem dX6_count_84 : decode cX6_count 84 = .ok (.istore_n 2, 1) := by decide +kernel
theorem dX6_count_85 : decode cX6_count 85 = .ok (.iinc 3 1, 3) := by decide +kernel
theorem dX6_count_88 : decode cX6_count 88 = .ok (.goto (-39), 3) := by decide +kernel
theorem dX6_count_91 : decode cX6_count 91 = .ok (.iload_n 2, 1) := by decide +kernel
theorem dX6_count_92 : decode cX6_count 92 = .ok (.ireturn, 1) := by decide +kernel
theorem dX6_count_93 : decode cX6_count 93 = .ok (.aload_n 0, 1) := by decide +kernel
theorem dX6_count_94 : decode cX6_count 94 = .ok (.ldc 78, 2) := by decide +kernel
theorem dX6_count_96 : decode cX6_count 96 = .ok (.invokevirtual 125, 3) := by decide +kernel
theorem dX6_count_99 : decode cX6_count 99 = .ok (.ireturn, 1) := by decide +kernel
theorem dX6_status_0 : decode cX6_status 0 = .ok (.iload_n 1, 1) := by decide +kernel
theorem dX6_status_1 : decode cX6_status 1 = .ok (.iconst (-1), 1) := by decide +kernel
theorem dX6_status_2 : decode cX6_status 2 = .ok (.bipush 6, 2) := by decide +kernel
theorem dX6_status_4 : decode cX6_status 4 = .ok (.invokestatic 79, 3) := by decide +kernel
theorem dX6_status_7 : decode cX6_status 7 = .ok (.ifCond .ne 10, 3) := by decide +kernel
theorem dX6_status_10 : decode cX6_status 10 = .ok (.aload_n 0, 1) := by decide +kernel
theorem dX6_status_11 : decode cX6_status 11 = .ok (.ldc 78, 2) := by decide +kernel
theorem dX6_status_13 : decode cX6_status 13 = .ok (.invokevirtual 125, 3) := by decide +kernel
theorem dX6_status_16 : decode cX6_status 16 = .ok (.ireturn, 1) := by decide +kernel
theorem dX6_status_17 : decode cX6_status 17 = .ok (.iconst 0, 1) := by decide +kernel
theorem dX6_status_18 : decode cX6_status 18 = .ok (.istore_n 2, 1) := by decide +kernel
theorem dX6_status_19 : decode cX6_status 19 = .ok (.iconst 0, 1) := by decide +kernel
theorem dX6_status_20 : decode cX6_status 20 = .ok (.istore_n 3, 1) := by decide +kernel
theorem dX6_status_21 : decode cX6_status 21 = .ok (.iload_n 3, 1) := by decide +kernel
theorem dX6_status_22 : decode cX6_status 22 = .ok (.bipush 7, 2) := by decide +kernel
theorem dX6_status_24 : decode cX6_status 24 = .ok (.if_icmp .ge 18, 3) := by decide +kernel
theorem dX6_status_27 : decode cX6_status 27 = .ok (.iload_n 2, 1) := by decide +kernel
theorem dX6_status_28 : decode cX6_status 28 = .ok (.aload_n 0, 1) := by decide +kernel
theorem dX6_status_29 : decode cX6_status 29 = .ok (.getfield 37, 3) := by decide +kernel
theorem dX6_status_32 : decode cX6_status 32 = .ok (.iload_n 3, 1) := by decide +kernel
theorem dX6_status_33 : decode cX6_status 33 = .ok (.iaload, 1) := by decide +kernel
theorem dX6_status_34 : decode cX6_status 34 = .ok (.iadd, 1) := by decide +kernel
theorem dX6_status_35 : decode cX6_status 35 = .ok (.istore_n 2, 1) := by decide +kernel
theorem dX6_status_36 : decode cX6_status 36 = .ok (.iinc 3 1, 3) := by decide +kernel
theorem dX6_status_39 : decode cX6_status 39 = .ok (.goto (-18), 3) := by decide +kernel
theorem dX6_status_42 : decode cX6_status 42 = .ok (.iload_n 1, 1) := by decide +kernel
theorem dX6_status_43 : decode cX6_status 43 = .ok (.ifCond .ge 7, 3) := by decide +kernel
theorem dX6_status_46 : decode cX6_status 46 = .ok (.iload_n 2, 1) := by decide +kernel
theorem dX6_status_47 : decode cX6_status 47 = .ok (.goto 17, 3) := by decide +kernel
theorem dX6_status_50 : decode cX6_status 50 = .ok (.aload_n 0, 1) := by decide +kernel
theorem dX6_status_51 : decode cX6_status 51 = .ok (.getfield 37, 3) := by decide +kernel
theorem dX6_status_54 : decode cX6_status 54 = .ok (.iload_n 1, 1) := by decide +kernel
theorem dX6_status_55 : decode cX6_status 55 = .ok (.ifCond .ge 7, 3) := by decide +kernel
theorem dX6_status_58 : decode cX6_status 58 = .ok (.iconst 0, 1) := by decide +kernel
theorem dX6_status_59 : decode cX6_status 59 = .ok (.goto 4, 3) := by decide +kernel
theorem dX6_status_62 : decode cX6_status 62 = .ok (.iload_n 1, 1) := by decide +kernel
theorem dX6_status_63 : decode cX6_status 63 = .ok (.iaload, 1) := by decide +kernel
theorem dX6_status_64 : decode cX6_status 64 = .ok (.ireturn, 1) := by decide +kernel
end
section
theorem dL_law_0 : decode cL_law 0 = .ok (.new 7, 3) := by decide +kernel
theorem dL_law_3 : decode cL_law 3 = .ok (.dup, 1) := by decide +kernel
theorem dL_law_4 : decode cL_law 4 = .ok (.invokespecial 9, 3) := by decide +kernel
theorem dL_law_7 : decode cL_law 7 = .ok (.astore_n 1, 1) := by decide +kernel
theorem dL_law_8 : decode cL_law 8 = .ok (.new 10, 3) := by decide +kernel
theorem dL_law_11 : decode cL_law 11 = .ok (.dup, 1) := by decide +kernel
theorem dL_law_12 : decode cL_law 12 = .ok (.invokespecial 12, 3) := by decide +kernel
theorem dL_law_15 : decode cL_law 15 = .ok (.astore_n 2, 1) := by decide +kernel
theorem dL_law_16 : decode cL_law 16 = .ok (.iconst 0, 1) := by decide +kernel
theorem dL_law_17 : decode cL_law 17 = .ok (.istore_n 3, 1) := by decide +kernel
theorem dL_law_18 : decode cL_law 18 = .ok (.iload_n 3, 1) := by decide +kernel
theorem dL_law_19 : decode cL_law 19 = .ok (.aload_n 0, 1) := by decide +kernel
theorem dL_law_20 : decode cL_law 20 = .ok (.arraylength, 1) := by decide +kernel
theorem dL_law_21 : decode cL_law 21 = .ok (.bipush 6, 2) := by decide +kernel
theorem dL_law_23 : decode cL_law 23 = .ok (.isub, 1) := by decide +kernel
theorem dL_law_24 : decode cL_law 24 = .ok (.if_icmp .gt 1439, 3) := by decide +kernel
theorem dL_law_27 : decode cL_law 27 = .ok (.aload_n 0, 1) := by decide +kernel
theorem dL_law_28 : decode cL_law 28 = .ok (.iload_n 3, 1) := by decide +kernel
theorem dL_law_29 : decode cL_law 29 = .ok (.iaload, 1) := by decide +kernel
theorem dL_law_30 : decode cL_law 30 = .ok (.bipush 63, 2) := by decide +kernel
theorem dL_law_32 : decode cL_law 32 = .ok (.iand, 1) := by decide +kernel
theorem dL_law_33 : decode cL_law 33 = .ok (.tableswitch 1424 0 43 #[191, 224, 257, 300, 333, 366, 399, 432, 465, 488, 521, 574, 607, 640, 673, 696, 709, 742, 755, 768, 791, 814, 827, 850, 873, 896, 919, 942, 965, 998, 1031, 1064, 1077, 1090, 1133, 1207, 1270, 1293, 1316, 1339, 1352, 1365, 1378, 1401], 191) := by decide +kernel
theorem dL_law_224 : decode cL_law 224 = .ok (.aload_n 1, 1) := by decide +kernel
theorem dL_law_225 : decode cL_law 225 = .ok (.aload_n 0, 1) := by decide +kernel
theorem dL_law_226 : decode cL_law 226 = .ok (.iload_n 3, 1) := by decide +kernel
theorem dL_law_227 : decode cL_law 227 = .ok (.iconst 1, 1) := by decide +kernel
theorem dL_law_228 : decode cL_law 228 = .ok (.iadd, 1) := by decide +kernel
theorem dL_law_229 : decode cL_law 229 = .ok (.iaload, 1) := by decide +kernel
theorem dL_law_230 : decode cL_law 230 = .ok (.aload_n 0, 1) := by decide +kernel
theorem dL_law_231 : decode cL_law 231 = .ok (.iload_n 3, 1) := by decide +kernel
theorem dL_law_232 : decode cL_law 232 = .ok (.iconst 2, 1) := by decide +kernel
theorem dL_law_233 : decode cL_law 233 = .ok (.iadd, 1) := by decide +kernel
theorem dL_law_234 : decode cL_law 234 = .ok (.iaload, 1) := by decide +kernel
theorem dL_law_235 : decode cL_law 235 = .ok (.invokevirtual 13, 3) := by decide +kernel
theorem dL_law_238 : decode cL_law 238 = .ok (.aload_n 2, 1) := by decide +kernel
theorem dL_law_239 : decode cL_law 239 = .ok (.aload_n 0, 1) := by decide +kernel
theorem dL_law_240 : decode cL_law 240 = .ok (.iload_n 3, 1) := by decide +kernel
theorem dL_law_241 : decode cL_law 241 = .ok (.iconst 1, 1) := by decide +kernel
theorem dL_law_242 : decode cL_law 242 = .ok (.iadd, 1) := by decide +kernel
theorem dL_law_243 : decode cL_law 243 = .ok (.iaload, 1) := by decide +kernel
theorem dL_law_244 : decode cL_law 244 = .ok (.aload_n 0, 1) := by decide +kernel
theorem dL_law_245 : decode cL_law 245 = .ok (.iload_n 3, 1) := by decide +kernel
theorem dL_law_246 : decode cL_law 246 = .ok (.iconst 2, 1) := by decide +kernel
theorem dL_law_247 : decode cL_law 247 = .ok (.iadd, 1) := by decide +kernel
theorem dL_law_248 : decode cL_law 248 = .ok (.iaload, 1) := by decide +kernel
theorem dL_law_249 : decode cL_law 249 = .ok (.invokevirtual 17, 3) := by decide +kernel
theorem dL_law_252 : decode cL_law 252 = .ok (.if_icmp .eq 1205, 3) := by decide +kernel
theorem dL_law_255 : decode cL_law 255 = .ok (.iconst 0, 1) := by decide +kernel
theorem dL_law_256 : decode cL_law 256 = .ok (.ireturn, 1) := by decide +kernel
theorem dL_law_257 : decode cL_law 257 = .ok (.aload_n 1, 1) := by decide +kernel
theorem dL_law_258 : decode cL_law 258 = .ok (.aload_n 0, 1) := by decide +kernel
theorem dL_law_259 : decode cL_law 259 = .ok (.iload_n 3, 1) := by decide +kernel
theorem dL_law_260 : decode cL_law 260 = .ok (.iconst 1, 1) := by decide +kernel
theorem dL_law_261 : decode cL_law 261 = .ok (.iadd, 1) := by decide +kernel
theorem dL_law_262 : decode cL_law 262 = .ok (.iaload, 1) := by decide +kernel
theorem dL_law_263 : decode cL_law 263 = .ok (.aload_n 0, 1) := by decide +kernel
theorem dL_law_264 : decode cL_law 264 = .ok (.iload_n 3, 1) := by decide +kernel
theorem dL_law_265 : decode cL_law 265 = .ok (.iconst 2, 1) := by decide +kernel
theorem dL_law_266 : decode cL_law 266 = .ok (.iadd, 1) := by decide +kernel
theorem dL_law_267 : decode cL_law 267 = .ok (.iaload, 1) := by decide +kernel
theorem dL_law_268 : decode cL_law 268 = .ok (.invokevirtual 18, 3) := by decide +kernel
theorem dL_law_271 : decode cL_law 271 = .ok (.aload_n 2, 1) := by decide +kernel
theorem dL_law_272 : decode cL_law 272 = .ok (.aload_n 0, 1) := by decide +kernel
theorem dL_law_273 : decode cL_law 273 = .ok (.iload_n 3, 1) := by decide +kernel
theorem dL_law_274 : decode cL_law 274 = .ok (.iconst 1, 1) := by decide +kernel
theorem dL_law_275 : decode cL_law 275 = .ok (.iadd, 1) := by decide +kernel
theorem dL_law_276 : decode cL_law 276 = .ok (.iaload, 1) := by decide +kernel
theorem dL_law_277 : decode cL_law 277 = .ok (.aload_n 0, 1) := by decide +kernel
theorem dL_law_278 : decode cL_law 278 = .ok (.iload_n 3, 1) := by decide +kernel
theorem dL_law_279 : decode cL_law 279 = .ok (.iconst 2, 1) := by decide +kernel
theorem dL_law_280 : decode cL_law 280 = .ok (.iadd, 1) := by decide +kernel
theorem dL_law_281 : decode cL_law 281 = .ok (.iaload, 1) := by decide +kernel
theorem dL_law_282 : decode cL_law 282 = .ok (.invokevirtual 21, 3) := by decide +kernel
theorem dL_law_285 : decode cL_law 285 = .ok (.if_icmp .eq 1172, 3) := by decide +kernel
theorem dL_law_288 : decode cL_law 288 = .ok (.iconst 0, 1) := by decide +kernel
theorem dL_law_289 : decode cL_law 289 = .ok (.ireturn, 1) := by decide +kernel
theorem dL_law_290 : decode cL_law 290 = .ok (.aload_n 1, 1) := by decide +kernel
theorem dL_law_291 : decode cL_law 291 = .ok (.aload_n 0, 1) := by decide +kernel
theorem dL_law_292 : decode cL_law 292 = .ok (.iload_n 3, 1) := by decide +kernel
theorem dL_law_293 : decode cL_law 293 = .ok (.iconst 1, 1) := by decide +kernel
theorem dL_law_294 : decode cL_law 294 = .ok (.iadd, 1) := by decide +kernel
theorem dL_law_295 : decode cL_law 295 = .ok (.iaload, 1) := by decide +kernel
theorem dL_law_296 : decode cL_law 296 = .ok (.aload_n 0, 1) := by decide +kernel
theorem dL_law_297 : decode cL_law 297 = .ok (.iload_n 3, 1) := by decide +kernel
theorem dL_law_298 : decode cL_law 298 = .ok (.iconst 2, 1) := by decide +kernel
theorem dL_law_299 : decode cL_law 299 = .ok (.iadd, 1) := by decide +kernel
theorem dL_law_300 : decode cL_law 300 = .ok (.iaload, 1) := by decide +kernel
theorem dL_law_301 : decode cL_law 301 = .ok (.aload_n 0, 1) := by decide +kernel
theorem dL_law_302 : decode cL_law 302 = .ok (.iload_n 3, 1) := by decide +kernel
theorem dL_law_303 : decode cL_law 303 = .ok (.iconst 3, 1) := by decide +kernel
theorem dL_law_304 : decode cL_law 304 = .ok (.iadd, 1) := by decide +kernel
theorem dL_law_305 : decode cL_law 305 = .ok (.iaload, 1) := by decide +kernel
theorem dL_law_306 : decode cL_law 306 = .ok (.invokevirtual 22, 3) := by decide +kernel
theorem dL_law_309 : decode cL_law 309 = .ok (.aload_n 2, 1) := by decide +kernel
theorem dL_law_310 : decode cL_law 310 = .ok (.aload_n 0, 1) := by decide +kernel
theorem dL_law_311 : decode cL_law 311 = .ok (.iload_n 3, 1) := by decide +kernel
theorem dL_law_312 : decode cL_law 312 = .ok (.iconst 1, 1) := by decide +kernel
theorem dL_law_313 : decode cL_law 313 = .ok (.iadd, 1) := by decide +kernel
theorem dL_law_314 : decode cL_law 314 = .ok (.iaload, 1) := by decide +kernel
theorem dL_law_315 : decode cL_law 315 = .ok (.aload_n 0, 1) := by decide +kernel
theorem dL_law_316 : decode cL_law 316 = .ok (.iload_n 3, 1) := by decide +kernel
theorem dL_law_317 : decode cL_law 317 = .ok (.iconst 2, 1) := by decide +kernel
theorem dL_law_318 : decode cL_law 318 = .ok (.iadd, 1) := by decide +kernel
theorem dL_law_319 : decode cL_law 319 = .ok (.iaload, 1) := by decide +kernel
theorem dL_law_320 : decode cL_law 320 = .ok (.aload_n 0, 1) := by decide +kernel
theorem dL_law_321 : decode cL_law 321 = .ok (.iload_n 3, 1) := by decide +kernel
theorem dL_law_322 : decode cL_law 322 = .ok (.iconst 3, 1) := by decide +kernel
theorem dL_law_323 : decode cL_law 323 = .ok (.iadd, 1) := by decide +kernel
theorem dL_law_324 : decode cL_law 324 = .ok (.iaload, 1) := by decide +kernel
theorem dL_law_325 : decode cL_law 325 = .ok (.invokevirtual 26, 3) := by decide +kernel
theorem dL_law_328 : decode cL_law 328 = .ok (.if_icmp .eq 1129, 3) := by decide +kernel
theorem dL_law_331 : decode cL_law 331 = .ok (.iconst 0, 1) := by decide +kernel
theorem dL_law_332 : decode cL_law 332 = .ok (.ireturn, 1) := by decide +kernel
theorem dL_law_333 : decode cL_law 333 = .ok (.aload_n 1, 1) := by decide +kernel
theorem dL_law_334 : decode cL_law 334 = .ok (.aload_n 0, 1) := by decide +kernel
theorem dL_law_335 : decode cL_law 335 = .ok (.iload_n 3, 1) := by decide +kernel
theorem dL_law_336 : decode cL_law 336 = .ok (.iconst 1, 1) := by decide +kernel
theorem dL_law_337 : decode cL_law 337 = .ok (.iadd, 1) := by decide +kernel
theorem dL_law_338 : decode cL_law 338 = .ok (.iaload, 1) := by decide +kernel
theorem dL_law_339 : decode cL_law 339 = .ok (.aload_n 0, 1) := by decide +kernel
theorem dL_law_340 : decode cL_law 340 = .ok (.iload_n 3, 1) := by decide +kernel
theorem dL_law_341 : decode cL_law 341 = .ok (.iconst 2, 1) := by decide +kernel
theorem dL_law_342 : decode cL_law 342 = .ok (.iadd, 1) := by decide +kernel
theorem dL_law_343 : decode cL_law 343 = .ok (.iaload, 1) := by decide +kernel
theorem dL_law_344 : decode cL_law 344 = .ok (.invokevirtual 27, 3) := by decide +kernel
theorem dL_law_347 : decode cL_law 347 = .ok (.aload_n 2, 1) := by decide +kernel
theorem dL_law_348 : decode cL_law 348 = .ok (.aload_n 0, 1) := by decide +kernel
theorem dL_law_349 : decode cL_law 349 = .ok (.iload_n 3, 1) := by decide +kernel
theorem dL_law_350 : decode cL_law 350 = .ok (.iconst 1, 1) := by decide +kernel
theorem dL_law_351 : decode cL_law 351 = .ok (.iadd, 1) := by decide +kernel
theorem dL_law_352 : decode cL_law 352 = .ok (.iaload, 1) := by decide +kernel
theorem dL_law_353 : decode cL_law 353 = .ok (.aload_n 0, 1) := by decide +kernel
theorem dL_law_354 : decode cL_law 354 = .ok (.iload_n 3, 1) := by decide +kernel
theorem dL_law_355 : decode cL_law 355 = .ok (.iconst 2, 1) := by decide +kernel
theorem dL_law_356 : decode cL_law 356 = .ok (.iadd, 1) := by decide +kernel
theorem dL_law_357 : decode cL_law 357 = .ok (.iaload, 1) := by decide +kernel
theorem dL_law_358 : decode cL_law 358 = .ok (.invokevirtual 30, 3) := by decide +kernel
theorem dL_law_361 : decode cL_law 361 = .ok (.if_icmp .eq 1096, 3) := by decide +kernel
theorem dL_law_364 : decode cL_law 364 = .ok (.iconst 0, 1) := by decide +kernel
theorem dL_law_365 : decode cL_law 365 = .ok (.ireturn, 1) := by decide +kernel
theorem dL_law_366 : decode cL_law 366 = .ok (.aload_n 1, 1) := by decide +kernel
theorem dL_law_367 : decode cL_law 367 = .ok (.aload_n 0, 1) := by decide +kernel
theorem dL_law_368 : decode cL_law 368 = .ok (.iload_n 3, 1) := by decide +kernel
theorem dL_law_369 : decode cL_law 369 = .ok (.iconst 1, 1) := by decide +kernel
theorem dL_law_370 : decode cL_law 370 = .ok (.iadd, 1) := by decide +kernel
theorem dL_law_371 : decode cL_law 371 = .ok (.iaload, 1) := by decide +kernel
theorem dL_law_372 : decode cL_law 372 = .ok (.aload_n 0, 1) := by decide +kernel
theorem dL_law_373 : decode cL_law 373 = .ok (.iload_n 3, 1) := by decide +kernel
theorem dL_law_374 : decode cL_law 374 = .ok (.iconst 2, 1) := by decide +kernel
theorem dL_law_375 : decode cL_law 375 = .ok (.iadd, 1) := by decide +kernel
theorem dL_law_376 : decode cL_law 376 = .ok (.iaload, 1) := by decide +kernel
theorem dL_law_377 : decode cL_law 377 = .ok (.invokevirtual 31, 3) := by decide +kernel
theorem dL_law_380 : decode cL_law 380 = .ok (.aload_n 2, 1) := by decide +kernel
theorem dL_law_381 : decode cL_law 381 = .ok (.aload_n 0, 1) := by decide +kernel
theorem dL_law_382 : decode cL_law 382 = .ok (.iload_n 3, 1) := by decide +kernel
theorem dL_law_383 : decode cL_law 383 = .ok (.iconst 1, 1) := by decide +kernel
theorem dL_law_384 : decode cL_law 384 = .ok (.iadd, 1) := by decide +kernel
theorem dL_law_385 : decode cL_law 385 = .ok (.iaload, 1) := by decide +kernel
theorem dL_law_386 : decode cL_law 386 = .ok (.aload_n 0, 1) := by decide +kernel
theorem dL_law_387 : decode cL_law 387 = .ok (.iload_n 3, 1) := by decide +kernel
theorem dL_law_388 : decode cL_law 388 = .ok (.iconst 2, 1) := by decide +kernel
theorem dL_law_389 : decode cL_law 389 = .ok (.iadd, 1) := by decide +kernel
theorem dL_law_390 : decode cL_law 390 = .ok (.iaload, 1) := by decide +kernel
theorem dL_law_391 : decode cL_law 391 = .ok (.invokevirtual 34, 3) := by decide +kernel
theorem dL_law_394 : decode cL_law 394 = .ok (.if_icmp .eq 1063, 3) := by decide +kernel
theorem dL_law_397 : decode cL_law 397 = .ok (.iconst 0, 1) := by decide +kernel
theorem dL_law_398 : decode cL_law 398 = .ok (.ireturn, 1) := by decide +kernel
theorem dL_law_399 : decode cL_law 399 = .ok (.aload_n 1, 1) := by decide +kernel
theorem dL_law_400 : decode cL_law 400 = .ok (.aload_n 0, 1) := by decide +kernel
theorem dL_law_401 : decode cL_law 401 = .ok (.iload_n 3, 1) := by decide +kernel
theorem dL_law_402 : decode cL_law 402 = .ok (.iconst 1, 1) := by decide +kernel
theorem dL_law_403 : decode cL_law 403 = .ok (.iadd, 1) := by decide +kernel
theorem dL_law_404 : decode cL_law 404 = .ok (.iaload, 1) := by decide +kernel
theorem dL_law_405 : decode cL_law 405 = .ok (.aload_n 0, 1) := by decide +kernel
theorem dL_law_406 : decode cL_law 406 = .ok (.iload_n 3, 1) := by decide +kernel
theorem dL_law_407 : decode cL_law 407 = .ok (.iconst 2, 1) := by decide +kernel
theorem dL_law_408 : decode cL_law 408 = .ok (.iadd, 1) := by decide +kernel
theorem dL_law_409 : decode cL_law 409 = .ok (.iaload, 1) := by decide +kernel
theorem dL_law_410 : decode cL_law 410 = .ok (.invokevirtual 35, 3) := by decide +kernel
theorem dL_law_413 : decode cL_law 413 = .ok (.aload_n 2, 1) := by decide +kernel
theorem dL_law_414 : decode cL_law 414 = .ok (.aload_n 0, 1) := by decide +kernel
theorem dL_law_415 : decode cL_law 415 = .ok (.iload_n 3, 1) := by decide +kernel
theorem dL_law_416 : decode cL_law 416 = .ok (.iconst 1, 1) := by decide +kernel
theorem dL_law_417 : decode cL_law 417 = .ok (.iadd, 1) := by decide +kernel
theorem dL_law_418 : decode cL_law 418 = .ok (.iaload, 1) := by decide +kernel
theorem dL_law_419 : decode cL_law 419 = .ok (.aload_n 0, 1) := by decide +kernel
theorem dL_law_420 : decode cL_law 420 = .ok (.iload_n 3, 1) := by decide +kernel
theorem dL_law_421 : decode cL_law 421 = .ok (.iconst 2, 1) := by decide +kernel
theorem dL_law_422 : decode cL_law 422 = .ok (.iadd, 1) := by decide +kernel
theorem dL_law_423 : decode cL_law 423 = .ok (.iaload, 1) := by decide +kernel
theorem dL_law_424 : decode cL_law 424 = .ok (.invokevirtual 38, 3) := by decide +kernel
theorem dL_law_427 : decode cL_law 427 = .ok (.if_icmp .eq 1030, 3) := by decide +kernel
theorem dL_law_430 : decode cL_law 430 = .ok (.iconst 0, 1) := by decide +kernel
theorem dL_law_431 : decode cL_law 431 = .ok (.ireturn, 1) := by decide +kernel
theorem dL_law_432 : decode cL_law 432 = .ok (.aload_n 1, 1) := by decide +kernel
theorem dL_law_433 : decode cL_law 433 = .ok (.aload_n 0, 1) := by decide +kernel
theorem dL_law_434 : decode cL_law 434 = .ok (.iload_n 3, 1) := by decide +kernel
theorem dL_law_435 : decode cL_law 435 = .ok (.iconst 1, 1) := by decide +kernel
theorem dL_law_436 : decode cL_law 436 = .ok (.iadd, 1) := by decide +kernel
theorem dL_law_437 : decode cL_law 437 = .ok (.iaload, 1) := by decide +kernel
theorem dL_law_438 : decode cL_law 438 = .ok (.aload_n 0, 1) := by decide +kernel
theorem dL_law_439 : decode cL_law 439 = .ok (.iload_n 3, 1) := by decide +kernel
theorem dL_law_440 : decode cL_law 440 = .ok (.iconst 2, 1) := by decide +kernel
theorem dL_law_441 : decode cL_law 441 = .ok (.iadd, 1) := by decide +kernel
theorem dL_law_442 : decode cL_law 442 = .ok (.iaload, 1) := by decide +kernel
theorem dL_law_443 : decode cL_law 443 = .ok (.invokevirtual 39, 3) := by decide +kernel
theorem dL_law_446 : decode cL_law 446 = .ok (.aload_n 2, 1) := by decide +kernel
theorem dL_law_447 : decode cL_law 447 = .ok (.aload_n 0, 1) := by decide +kernel
theorem dL_law_448 : decode cL_law 448 = .ok (.iload_n 3, 1) := by decide +kernel
theorem dL_law_449 : decode cL_law 449 = .ok (.iconst 1, 1) := by decide +kernel
theorem dL_law_450 : decode cL_law 450 = .ok (.iadd, 1) := by decide +kernel
theorem dL_law_451 : decode cL_law 451 = .ok (.iaload, 1) := by decide +kernel
theorem dL_law_452 : decode cL_law 452 = .ok (.aload_n 0, 1) := by decide +kernel
theorem dL_law_453 : decode cL_law 453 = .ok (.iload_n 3, 1) := by decide +kernel
theorem dL_law_454 : decode cL_law 454 = .ok (.iconst 2, 1) := by decide +kernel
theorem dL_law_455 : decode cL_law 455 = .ok (.iadd, 1) := by decide +kernel
theorem dL_law_456 : decode cL_law 456 = .ok (.iaload, 1) := by decide +kernel
theorem dL_law_457 : decode cL_law 457 = .ok (.invokevirtual 42, 3) := by decide +kernel
theorem dL_law_460 : decode cL_law 460 = .ok (.if_icmp .eq 997, 3) := by decide +kernel
theorem dL_law_463 : decode cL_law 463 = .ok (.iconst 0, 1) := by decide +kernel
theorem dL_law_464 : decode cL_law 464 = .ok (.ireturn, 1) := by decide +kernel
theorem dL_law_465 : decode cL_law 465 = .ok (.aload_n 1, 1) := by decide +kernel
theorem dL_law_466 : decode cL_law 466 = .ok (.aload_n 0, 1) := by decide +kernel
theorem dL_law_467 : decode cL_law 467 = .ok (.iload_n 3, 1) := by decide +kernel
theorem dL_law_468 : decode cL_law 468 = .ok (.iconst 1, 1) := by decide +kernel
theorem dL_law_469 : decode cL_law 469 = .ok (.iadd, 1) := by decide +kernel
theorem dL_law_470 : decode cL_law 470 = .ok (.iaload, 1) := by decide +kernel
theorem dL_law_471 : decode cL_law 471 = .ok (.aload_n 0, 1) := by decide +kernel
theorem dL_law_472 : decode cL_law 472 = .ok (.iload_n 3, 1) := by decide +kernel
theorem dL_law_473 : decode cL_law 473 = .ok (.iconst 2, 1) := by decide +kernel
theorem dL_law_474 : decode cL_law 474 = .ok (.iadd, 1) := by decide +kernel
theorem dL_law_475 : decode cL_law 475 = .ok (.iaload, 1) := by decide +kernel
theorem dL_law_476 : decode cL_law 476 = .ok (.invokevirtual 43, 3) := by decide +kernel
theorem dL_law_479 : decode cL_law 479 = .ok (.aload_n 2, 1) := by decide +kernel
theorem dL_law_480 : decode cL_law 480 = .ok (.aload_n 0, 1) := by decide +kernel
theorem dL_law_481 : decode cL_law 481 = .ok (.iload_n 3, 1) := by decide +kernel
theorem dL_law_482 : decode cL_law 482 = .ok (.iconst 1, 1) := by decide +kernel
theorem dL_law_483 : decode cL_law 483 = .ok (.iadd, 1) := by decide +kernel
theorem dL_law_484 : decode cL_law 484 = .ok (.iaload, 1) := by decide +kernel
theorem dL_law_485 : decode cL_law 485 = .ok (.aload_n 0, 1) := by decide +kernel
theorem dL_law_486 : decode cL_law 486 = .ok (.iload_n 3, 1) := by decide +kernel
theorem dL_law_487 : decode cL_law 487 = .ok (.iconst 2, 1) := by decide +kernel
theorem dL_law_488 : decode cL_law 488 = .ok (.iadd, 1) := by decide +kernel
theorem dL_law_489 : decode cL_law 489 = .ok (.iaload, 1) := by decide +kernel
theorem dL_law_490 : decode cL_law 490 = .ok (.invokevirtual 46, 3) := by decide +kernel
theorem dL_law_493 : decode cL_law 493 = .ok (.if_icmp .eq 964, 3) := by decide +kernel
theorem dL_law_496 : decode cL_law 496 = .ok (.iconst 0, 1) := by decide +kernel
theorem dL_law_497 : decode cL_law 497 = .ok (.ireturn, 1) := by decide +kernel
theorem dL_law_498 : decode cL_law 498 = .ok (.aload_n 1, 1) := by decide +kernel
theorem dL_law_499 : decode cL_law 499 = .ok (.aload_n 0, 1) := by decide +kernel
theorem dL_law_500 : decode cL_law 500 = .ok (.iload_n 3, 1) := by decide +kernel
theorem dL_law_501 : decode cL_law 501 = .ok (.iconst 1, 1) := by decide +kernel
theorem dL_law_502 : decode cL_law 502 = .ok (.iadd, 1) := by decide +kernel
theorem dL_law_503 : decode cL_law 503 = .ok (.iaload, 1) := by decide +kernel
theorem dL_law_504 : decode cL_law 504 = .ok (.invokevirtual 47, 3) := by decide +kernel
theorem dL_law_507 : decode cL_law 507 = .ok (.aload_n 2, 1) := by decide +kernel
theorem dL_law_508 : decode cL_law 508 = .ok (.aload_n 0, 1) := by decide +kernel
theorem dL_law_509 : decode cL_law 509 = .ok (.iload_n 3, 1) := by decide +kernel
theorem dL_law_510 : decode cL_law 510 = .ok (.iconst 1, 1) := by decide +kernel
theorem dL_law_511 : decode cL_law 511 = .ok (.iadd, 1) := by decide +kernel
theorem dL_law_512 : decode cL_law 512 = .ok (.iaload, 1) := by decide +kernel
theorem dL_law_513 : decode cL_law 513 = .ok (.invokevirtual 51, 3) := by decide +kernel
theorem dL_law_516 : decode cL_law 516 = .ok (.if_icmp .eq 941, 3) := by decide +kernel
theorem dL_law_519 : decode cL_law 519 = .ok (.iconst 0, 1) := by decide +kernel
theorem dL_law_520 : decode cL_law 520 = .ok (.ireturn, 1) := by decide +kernel
theorem dL_law_521 : decode cL_law 521 = .ok (.aload_n 1, 1) := by decide +kernel
theorem dL_law_522 : decode cL_law 522 = .ok (.aload_n 0, 1) := by decide +kernel
theorem dL_law_523 : decode cL_law 523 = .ok (.iload_n 3, 1) := by decide +kernel
theorem dL_law_524 : decode cL_law 524 = .ok (.iconst 1, 1) := by decide +kernel
theorem dL_law_525 : decode cL_law 525 = .ok (.iadd, 1) := by decide +kernel
theorem dL_law_526 : decode cL_law 526 = .ok (.iaload, 1) := by decide +kernel
theorem dL_law_527 : decode cL_law 527 = .ok (.aload_n 0, 1) := by decide +kernel
theorem dL_law_528 : decode cL_law 528 = .ok (.iload_n 3, 1) := by decide +kernel
theorem dL_law_529 : decode cL_law 529 = .ok (.iconst 2, 1) := by decide +kernel
theorem dL_law_530 : decode cL_law 530 = .ok (.iadd, 1) := by decide +kernel
theorem dL_law_531 : decode cL_law 531 = .ok (.iaload, 1) := by decide +kernel
theorem dL_law_532 : decode cL_law 532 = .ok (.invokevirtual 52, 3) := by decide +kernel
theorem dL_law_535 : decode cL_law 535 = .ok (.aload_n 2, 1) := by decide +kernel
theorem dL_law_536 : decode cL_law 536 = .ok (.aload_n 0, 1) := by decide +kernel
theorem dL_law_537 : decode cL_law 537 = .ok (.iload_n 3, 1) := by decide +kernel
theorem dL_law_538 : decode cL_law 538 = .ok (.iconst 1, 1) := by decide +kernel
theorem dL_law_539 : decode cL_law 539 = .ok (.iadd, 1) := by decide +kernel
theorem dL_law_540 : decode cL_law 540 = .ok (.iaload, 1) := by decide +kernel
theorem dL_law_541 : decode cL_law 541 = .ok (.aload_n 0, 1) := by decide +kernel
theorem dL_law_542 : decode cL_law 542 = .ok (.iload_n 3, 1) := by decide +kernel
theorem dL_law_543 : decode cL_law 543 = .ok (.iconst 2, 1) := by decide +kernel
theorem dL_law_544 : decode cL_law 544 = .ok (.iadd, 1) := by decide +kernel
theorem dL_law_545 : decode cL_law 545 = .ok (.iaload, 1) := by decide +kernel
theorem dL_law_546 : decode cL_law 546 = .ok (.invokevirtual 55, 3) := by decide +kernel
theorem dL_law_549 : decode cL_law 549 = .ok (.if_icmp .eq 908, 3) := by decide +kernel
theorem dL_law_552 : decode cL_law 552 = .ok (.iconst 0, 1) := by decide +kernel
theorem dL_law_553 : decode cL_law 553 = .ok (.ireturn, 1) := by decide +kernel
theorem dL_law_554 : decode cL_law 554 = .ok (.aload_n 1, 1) := by decide +kernel
theorem dL_law_555 : decode cL_law 555 = .ok (.aload_n 0, 1) := by decide +kernel
theorem dL_law_556 : decode cL_law 556 = .ok (.iload_n 3, 1) := by decide +kernel
theorem dL_law_557 : decode cL_law 557 = .ok (.iconst 1, 1) := by decide +kernel
theorem dL_law_558 : decode cL_law 558 = .ok (.iadd, 1) := by decide +kernel
theorem dL_law_559 : decode cL_law 559 = .ok (.iaload, 1) := by decide +kernel
theorem dL_law_560 : decode cL_law 560 = .ok (.aload_n 0, 1) := by decide +kernel
theorem dL_law_561 : decode cL_law 561 = .ok (.iload_n 3, 1) := by decide +kernel
theorem dL_law_562 : decode cL_law 562 = .ok (.iconst 2, 1) := by decide +kernel
theorem dL_law_563 : decode cL_law 563 = .ok (.iadd, 1) := by decide +kernel
theorem dL_law_564 : decode cL_law 564 = .ok (.iaload, 1) := by decide +kernel
theorem dL_law_565 : decode cL_law 565 = .ok (.aload_n 0, 1) := by decide +kernel
theorem dL_law_566 : decode cL_law 566 = .ok (.iload_n 3, 1) := by decide +kernel
theorem dL_law_567 : decode cL_law 567 = .ok (.iconst 3, 1) := by decide +kernel
theorem dL_law_568 : decode cL_law 568 = .ok (.iadd, 1) := by decide +kernel
theorem dL_law_569 : decode cL_law 569 = .ok (.iaload, 1) := by decide +kernel
theorem dL_law_570 : decode cL_law 570 = .ok (.aload_n 0, 1) := by decide +kernel
theorem dL_law_571 : decode cL_law 571 = .ok (.iload_n 3, 1) := by decide +kernel
theorem dL_law_572 : decode cL_law 572 = .ok (.iconst 4, 1) := by decide +kernel
theorem dL_law_573 : decode cL_law 573 = .ok (.iadd, 1) := by decide +kernel
theorem dL_law_574 : decode cL_law 574 = .ok (.iaload, 1) := by decide +kernel
theorem dL_law_575 : decode cL_law 575 = .ok (.invokevirtual 56, 3) := by decide +kernel
theorem dL_law_578 : decode cL_law 578 = .ok (.aload_n 2, 1) := by decide +kernel
theorem dL_law_579 : decode cL_law 579 = .ok (.aload_n 0, 1) := by decide +kernel
theorem dL_law_580 : decode cL_law 580 = .ok (.iload_n 3, 1) := by decide +kernel
theorem dL_law_581 : decode cL_law 581 = .ok (.iconst 1, 1) := by decide +kernel
theorem dL_law_582 : decode cL_law 582 = .ok (.iadd, 1) := by decide +kernel
theorem dL_law_583 : decode cL_law 583 = .ok (.iaload, 1) := by decide +kernel
theorem dL_law_584 : decode cL_law 584 = .ok (.aload_n 0, 1) := by decide +kernel
theorem dL_law_585 : decode cL_law 585 = .ok (.iload_n 3, 1) := by decide +kernel
theorem dL_law_586 : decode cL_law 586 = .ok (.iconst 2, 1) := by decide +kernel
theorem dL_law_587 : decode cL_law 587 = .ok (.iadd, 1) := by decide +kernel
theorem dL_law_588 : decode cL_law 588 = .ok (.iaload, 1) := by decide +kernel
theorem dL_law_589 : decode cL_law 589 = .ok (.aload_n 0, 1) := by decide +kernel
theorem dL_law_590 : decode cL_law 590 = .ok (.iload_n 3, 1) := by decide +kernel
theorem dL_law_591 : decode cL_law 591 = .ok (.iconst 3, 1) := by decide +kernel
theorem dL_law_592 : decode cL_law 592 = .ok (.iadd, 1) := by decide +kernel
theorem dL_law_593 : decode cL_law 593 = .ok (.iaload, 1) := by decide +kernel
theorem dL_law_594 : decode cL_law 594 = .ok (.aload_n 0, 1) := by decide +kernel
theorem dL_law_595 : decode cL_law 595 = .ok (.iload_n 3, 1) := by decide +kernel
theorem dL_law_596 : decode cL_law 596 = .ok (.iconst 4, 1) := by decide +kernel
theorem dL_law_597 : decode cL_law 597 = .ok (.iadd, 1) := by decide +kernel
theorem dL_law_598 : decode cL_law 598 = .ok (.iaload, 1) := by decide +kernel
theorem dL_law_599 : decode cL_law 599 = .ok (.invokevirtual 60, 3) := by decide +kernel
theorem dL_law_602 : decode cL_law 602 = .ok (.if_icmp .eq 855, 3) := by decide +kernel
theorem dL_law_605 : decode cL_law 605 = .ok (.iconst 0, 1) := by decide +kernel
theorem dL_law_606 : decode cL_law 606 = .ok (.ireturn, 1) := by decide +kernel
theorem dL_law_607 : decode cL_law 607 = .ok (.aload_n 1, 1) := by decide +kernel
theorem dL_law_608 : decode cL_law 608 = .ok (.aload_n 0, 1) := by decide +kernel
theorem dL_law_609 : decode cL_law 609 = .ok (.iload_n 3, 1) := by decide +kernel
theorem dL_law_610 : decode cL_law 610 = .ok (.iconst 1, 1) := by decide +kernel
theorem dL_law_611 : decode cL_law 611 = .ok (.iadd, 1) := by decide +kernel
theorem dL_law_612 : decode cL_law 612 = .ok (.iaload, 1) := by decide +kernel
theorem dL_law_613 : decode cL_law 613 = .ok (.aload_n 0, 1) := by decide +kernel
theorem dL_law_614 : decode cL_law 614 = .ok (.iload_n 3, 1) := by decide +kernel
theorem dL_law_615 : decode cL_law 615 = .ok (.iconst 2, 1) := by decide +kernel
theorem dL_law_616 : decode cL_law 616 = .ok (.iadd, 1) := by decide +kernel
theorem dL_law_617 : decode cL_law 617 = .ok (.iaload, 1) := by decide +kernel
theorem dL_law_618 : decode cL_law 618 = .ok (.invokevirtual 61, 3) := by decide +kernel
theorem dL_law_621 : decode cL_law 621 = .ok (.aload_n 2, 1) := by decide +kernel
theorem dL_law_622 : decode cL_law 622 = .ok (.aload_n 0, 1) := by decide +kernel
theorem dL_law_623 : decode cL_law 623 = .ok (.iload_n 3, 1) := by decide +kernel
theorem dL_law_624 : decode cL_law 624 = .ok (.iconst 1, 1) := by decide +kernel
theorem dL_law_625 : decode cL_law 625 = .ok (.iadd, 1) := by decide +kernel
theorem dL_law_626 : decode cL_law 626 = .ok (.iaload, 1) := by decide +kernel
theorem dL_law_627 : decode cL_law 627 = .ok (.aload_n 0, 1) := by decide +kernel
theorem dL_law_628 : decode cL_law 628 = .ok (.iload_n 3, 1) := by decide +kernel
theorem dL_law_629 : decode cL_law 629 = .ok (.iconst 2, 1) := by decide +kernel
theorem dL_law_630 : decode cL_law 630 = .ok (.iadd, 1) := by decide +kernel
theorem dL_law_631 : decode cL_law 631 = .ok (.iaload, 1) := by decide +kernel
theorem dL_law_632 : decode cL_law 632 = .ok (.invokevirtual 64, 3) := by decide +kernel
theorem dL_law_635 : decode cL_law 635 = .ok (.if_icmp .eq 822, 3) := by decide +kernel
theorem dL_law_638 : decode cL_law 638 = .ok (.iconst 0, 1) := by decide +kernel
theorem dL_law_639 : decode cL_law 639 = .ok (.ireturn, 1) := by decide +kernel
theorem dL_law_640 : decode cL_law 640 = .ok (.aload_n 1, 1) := by decide +kernel
theorem dL_law_641 : decode cL_law 641 = .ok (.aload_n 0, 1) := by decide +kernel
theorem dL_law_642 : decode cL_law 642 = .ok (.iload_n 3, 1) := by decide +kernel
theorem dL_law_643 : decode cL_law 643 = .ok (.iconst 1, 1) := by decide +kernel
theorem dL_law_644 : decode cL_law 644 = .ok (.iadd, 1) := by decide +kernel
theorem dL_law_645 : decode cL_law 645 = .ok (.iaload, 1) := by decide +kernel
theorem dL_law_646 : decode cL_law 646 = .ok (.aload_n 0, 1) := by decide +kernel
theorem dL_law_647 : decode cL_law 647 = .ok (.iload_n 3, 1) := by decide +kernel
theorem dL_law_648 : decode cL_law 648 = .ok (.iconst 2, 1) := by decide +kernel
theorem dL_law_649 : decode cL_law 649 = .ok (.iadd, 1) := by decide +kernel
theorem dL_law_650 : decode cL_law 650 = .ok (.iaload, 1) := by decide +kernel
theorem dL_law_651 : decode cL_law 651 = .ok (.invokevirtual 65, 3) := by decide +kernel
theorem dL_law_654 : decode cL_law 654 = .ok (.aload_n 2, 1) := by decide +kernel
theorem dL_law_655 : decode cL_law 655 = .ok (.aload_n 0, 1) := by decide +kernel
theorem dL_law_656 : decode cL_law 656 = .ok (.iload_n 3, 1) := by decide +kernel
theorem dL_law_657 : decode cL_law 657 = .ok (.iconst 1, 1) := by decide +kernel
theorem dL_law_658 : decode cL_law 658 = .ok (.iadd, 1) := by decide +kernel
theorem dL_law_659 : decode cL_law 659 = .ok (.iaload, 1) := by decide +kernel
theorem dL_law_660 : decode cL_law 660 = .ok (.aload_n 0, 1) := by decide +kernel
theorem dL_law_661 : decode cL_law 661 = .ok (.iload_n 3, 1) := by decide +kernel
theorem dL_law_662 : decode cL_law 662 = .ok (.iconst 2, 1) := by decide +kernel
theorem dL_law_663 : decode cL_law 663 = .ok (.iadd, 1) := by decide +kernel
theorem dL_law_664 : decode cL_law 664 = .ok (.iaload, 1) := by decide +kernel
theorem dL_law_665 : decode cL_law 665 = .ok (.invokevirtual 68, 3) := by decide +kernel
theorem dL_law_668 : decode cL_law 668 = .ok (.if_icmp .eq 789, 3) := by decide +kernel
theorem dL_law_671 : decode cL_law 671 = .ok (.iconst 0, 1) := by decide +kernel
theorem dL_law_672 : decode cL_law 672 = .ok (.ireturn, 1) := by decide +kernel
theorem dL_law_673 : decode cL_law 673 = .ok (.aload_n 1, 1) := by decide +kernel
theorem dL_law_674 : decode cL_law 674 = .ok (.aload_n 0, 1) := by decide +kernel
theorem dL_law_675 : decode cL_law 675 = .ok (.iload_n 3, 1) := by decide +kernel
theorem dL_law_676 : decode cL_law 676 = .ok (.iconst 1, 1) := by decide +kernel
theorem dL_law_677 : decode cL_law 677 = .ok (.iadd, 1) := by decide +kernel
theorem dL_law_678 : decode cL_law 678 = .ok (.iaload, 1) := by decide +kernel
theorem dL_law_679 : decode cL_law 679 = .ok (.aload_n 0, 1) := by decide +kernel
theorem dL_law_680 : decode cL_law 680 = .ok (.iload_n 3, 1) := by decide +kernel
theorem dL_law_681 : decode cL_law 681 = .ok (.iconst 2, 1) := by decide +kernel
theorem dL_law_682 : decode cL_law 682 = .ok (.iadd, 1) := by decide +kernel
theorem dL_law_683 : decode cL_law 683 = .ok (.iaload, 1) := by decide +kernel
theorem dL_law_684 : decode cL_law 684 = .ok (.invokevirtual 69, 3) := by decide +kernel
theorem dL_law_687 : decode cL_law 687 = .ok (.aload_n 2, 1) := by decide +kernel
theorem dL_law_688 : decode cL_law 688 = .ok (.aload_n 0, 1) := by decide +kernel
theorem dL_law_689 : decode cL_law 689 = .ok (.iload_n 3, 1) := by decide +kernel
theorem dL_law_690 : decode cL_law 690 = .ok (.iconst 1, 1) := by decide +kernel
theorem dL_law_691 : decode cL_law 691 = .ok (.iadd, 1) := by decide +kernel
theorem dL_law_692 : decode cL_law 692 = .ok (.iaload, 1) := by decide +kernel
theorem dL_law_693 : decode cL_law 693 = .ok (.aload_n 0, 1) := by decide +kernel
theorem dL_law_694 : decode cL_law 694 = .ok (.iload_n 3, 1) := by decide +kernel
theorem dL_law_695 : decode cL_law 695 = .ok (.iconst 2, 1) := by decide +kernel
theorem dL_law_696 : decode cL_law 696 = .ok (.iadd, 1) := by decide +kernel
theorem dL_law_697 : decode cL_law 697 = .ok (.iaload, 1) := by decide +kernel
theorem dL_law_698 : decode cL_law 698 = .ok (.invokevirtual 72, 3) := by decide +kernel
theorem dL_law_701 : decode cL_law 701 = .ok (.if_icmp .eq 756, 3) := by decide +kernel
theorem dL_law_704 : decode cL_law 704 = .ok (.iconst 0, 1) := by decide +kernel
theorem dL_law_705 : decode cL_law 705 = .ok (.ireturn, 1) := by decide +kernel
theorem dL_law_706 : decode cL_law 706 = .ok (.aload_n 1, 1) := by decide +kernel
theorem dL_law_707 : decode cL_law 707 = .ok (.aload_n 0, 1) := by decide +kernel
theorem dL_law_708 : decode cL_law 708 = .ok (.iload_n 3, 1) := by decide +kernel
theorem dL_law_709 : decode cL_law 709 = .ok (.iconst 1, 1) := by decide +kernel
theorem dL_law_710 : decode cL_law 710 = .ok (.iadd, 1) := by decide +kernel
theorem dL_law_711 : decode cL_law 711 = .ok (.iaload, 1) := by decide +kernel
theorem dL_law_712 : decode cL_law 712 = .ok (.invokevirtual 73, 3) := by decide +kernel
theorem dL_law_715 : decode cL_law 715 = .ok (.aload_n 2, 1) := by decide +kernel
theorem dL_law_716 : decode cL_law 716 = .ok (.aload_n 0, 1) := by decide +kernel
theorem dL_law_717 : decode cL_law 717 = .ok (.iload_n 3, 1) := by decide +kernel
theorem dL_law_718 : decode cL_law 718 = .ok (.iconst 1, 1) := by decide +kernel
theorem dL_law_719 : decode cL_law 719 = .ok (.iadd, 1) := by decide +kernel
theorem dL_law_720 : decode cL_law 720 = .ok (.iaload, 1) := by decide +kernel
theorem dL_law_721 : decode cL_law 721 = .ok (.invokevirtual 76, 3) := by decide +kernel
theorem dL_law_724 : decode cL_law 724 = .ok (.if_icmp .eq 733, 3) := by decide +kernel
theorem dL_law_727 : decode cL_law 727 = .ok (.iconst 0, 1) := by decide +kernel
theorem dL_law_728 : decode cL_law 728 = .ok (.ireturn, 1) := by decide +kernel
theorem dL_law_729 : decode cL_law 729 = .ok (.aload_n 1, 1) := by decide +kernel
theorem dL_law_730 : decode cL_law 730 = .ok (.invokevirtual 77, 3) := by decide +kernel
theorem dL_law_733 : decode cL_law 733 = .ok (.aload_n 2, 1) := by decide +kernel
theorem dL_law_734 : decode cL_law 734 = .ok (.invokevirtual 81, 3) := by decide +kernel
theorem dL_law_737 : decode cL_law 737 = .ok (.if_icmp .eq 720, 3) := by decide +kernel
theorem dL_law_740 : decode cL_law 740 = .ok (.iconst 0, 1) := by decide +kernel
theorem dL_law_741 : decode cL_law 741 = .ok (.ireturn, 1) := by decide +kernel
theorem dL_law_742 : decode cL_law 742 = .ok (.aload_n 1, 1) := by decide +kernel
theorem dL_law_743 : decode cL_law 743 = .ok (.aload_n 0, 1) := by decide +kernel
theorem dL_law_744 : decode cL_law 744 = .ok (.iload_n 3, 1) := by decide +kernel
theorem dL_law_745 : decode cL_law 745 = .ok (.iconst 1, 1) := by decide +kernel
theorem dL_law_746 : decode cL_law 746 = .ok (.iadd, 1) := by decide +kernel
theorem dL_law_747 : decode cL_law 747 = .ok (.iaload, 1) := by decide +kernel
theorem dL_law_748 : decode cL_law 748 = .ok (.aload_n 0, 1) := by decide +kernel
theorem dL_law_749 : decode cL_law 749 = .ok (.iload_n 3, 1) := by decide +kernel
theorem dL_law_750 : decode cL_law 750 = .ok (.iconst 2, 1) := by decide +kernel
theorem dL_law_751 : decode cL_law 751 = .ok (.iadd, 1) := by decide +kernel
theorem dL_law_752 : decode cL_law 752 = .ok (.iaload, 1) := by decide +kernel
theorem dL_law_753 : decode cL_law 753 = .ok (.invokevirtual 82, 3) := by decide +kernel
theorem dL_law_756 : decode cL_law 756 = .ok (.aload_n 2, 1) := by decide +kernel
theorem dL_law_757 : decode cL_law 757 = .ok (.aload_n 0, 1) := by decide +kernel
theorem dL_law_758 : decode cL_law 758 = .ok (.iload_n 3, 1) := by decide +kernel
theorem dL_law_759 : decode cL_law 759 = .ok (.iconst 1, 1) := by decide +kernel
theorem dL_law_760 : decode cL_law 760 = .ok (.iadd, 1) := by decide +kernel
theorem dL_law_761 : decode cL_law 761 = .ok (.iaload, 1) := by decide +kernel
theorem dL_law_762 : decode cL_law 762 = .ok (.aload_n 0, 1) := by decide +kernel
theorem dL_law_763 : decode cL_law 763 = .ok (.iload_n 3, 1) := by decide +kernel
theorem dL_law_764 : decode cL_law 764 = .ok (.iconst 2, 1) := by decide +kernel
theorem dL_law_765 : decode cL_law 765 = .ok (.iadd, 1) := by decide +kernel
theorem dL_law_766 : decode cL_law 766 = .ok (.iaload, 1) := by decide +kernel
theorem dL_law_767 : decode cL_law 767 = .ok (.invokevirtual 85, 3) := by decide +kernel
theorem dL_law_770 : decode cL_law 770 = .ok (.if_icmp .eq 687, 3) := by decide +kernel
theorem dL_law_773 : decode cL_law 773 = .ok (.iconst 0, 1) := by decide +kernel
theorem dL_law_774 : decode cL_law 774 = .ok (.ireturn, 1) := by decide +kernel
theorem dL_law_775 : decode cL_law 775 = .ok (.aload_n 1, 1) := by decide +kernel
theorem dL_law_776 : decode cL_law 776 = .ok (.invokevirtual 86, 3) := by decide +kernel
theorem dL_law_779 : decode cL_law 779 = .ok (.aload_n 2, 1) := by decide +kernel
theorem dL_law_780 : decode cL_law 780 = .ok (.invokevirtual 89, 3) := by decide +kernel
theorem dL_law_783 : decode cL_law 783 = .ok (.if_icmp .eq 674, 3) := by decide +kernel
theorem dL_law_786 : decode cL_law 786 = .ok (.iconst 0, 1) := by decide +kernel
theorem dL_law_787 : decode cL_law 787 = .ok (.ireturn, 1) := by decide +kernel
theorem dL_law_788 : decode cL_law 788 = .ok (.aload_n 1, 1) := by decide +kernel
theorem dL_law_789 : decode cL_law 789 = .ok (.invokevirtual 90, 3) := by decide +kernel
theorem dL_law_792 : decode cL_law 792 = .ok (.aload_n 2, 1) := by decide +kernel
theorem dL_law_793 : decode cL_law 793 = .ok (.invokevirtual 93, 3) := by decide +kernel
theorem dL_law_796 : decode cL_law 796 = .ok (.if_icmp .eq 661, 3) := by decide +kernel
theorem dL_law_799 : decode cL_law 799 = .ok (.iconst 0, 1) := by decide +kernel
theorem dL_law_800 : decode cL_law 800 = .ok (.ireturn, 1) := by decide +kernel
theorem dL_law_801 : decode cL_law 801 = .ok (.aload_n 1, 1) := by decide +kernel
theorem dL_law_802 : decode cL_law 802 = .ok (.aload_n 0, 1) := by decide +kernel
theorem dL_law_803 : decode cL_law 803 = .ok (.iload_n 3, 1) := by decide +kernel
theorem dL_law_804 : decode cL_law 804 = .ok (.iconst 1, 1) := by decide +kernel
theorem dL_law_805 : decode cL_law 805 = .ok (.iadd, 1) := by decide +kernel
theorem dL_law_806 : decode cL_law 806 = .ok (.iaload, 1) := by decide +kernel
theorem dL_law_807 : decode cL_law 807 = .ok (.invokevirtual 94, 3) := by decide +kernel
theorem dL_law_810 : decode cL_law 810 = .ok (.aload_n 2, 1) := by decide +kernel
theorem dL_law_811 : decode cL_law 811 = .ok (.aload_n 0, 1) := by decide +kernel
theorem dL_law_812 : decode cL_law 812 = .ok (.iload_n 3, 1) := by decide +kernel
theorem dL_law_813 : decode cL_law 813 = .ok (.iconst 1, 1) := by decide +kernel
theorem dL_law_814 : decode cL_law 814 = .ok (.iadd, 1) := by decide +kernel
theorem dL_law_815 : decode cL_law 815 = .ok (.iaload, 1) := by decide +kernel
theorem dL_law_816 : decode cL_law 816 = .ok (.invokevirtual 97, 3) := by decide +kernel
theorem dL_law_819 : decode cL_law 819 = .ok (.if_icmp .eq 638, 3) := by decide +kernel
theorem dL_law_822 : decode cL_law 822 = .ok (.iconst 0, 1) := by decide +kernel
theorem dL_law_823 : decode cL_law 823 = .ok (.ireturn, 1) := by decide +kernel
theorem dL_law_824 : decode cL_law 824 = .ok (.aload_n 1, 1) := by decide +kernel
theorem dL_law_825 : decode cL_law 825 = .ok (.aload_n 0, 1) := by decide +kernel
theorem dL_law_826 : decode cL_law 826 = .ok (.iload_n 3, 1) := by decide +kernel
theorem dL_law_827 : decode cL_law 827 = .ok (.iconst 1, 1) := by decide +kernel
theorem dL_law_828 : decode cL_law 828 = .ok (.iadd, 1) := by decide +kernel
theorem dL_law_829 : decode cL_law 829 = .ok (.iaload, 1) := by decide +kernel
theorem dL_law_830 : decode cL_law 830 = .ok (.invokevirtual 98, 3) := by decide +kernel
theorem dL_law_833 : decode cL_law 833 = .ok (.aload_n 2, 1) := by decide +kernel
theorem dL_law_834 : decode cL_law 834 = .ok (.aload_n 0, 1) := by decide +kernel
theorem dL_law_835 : decode cL_law 835 = .ok (.iload_n 3, 1) := by decide +kernel
theorem dL_law_836 : decode cL_law 836 = .ok (.iconst 1, 1) := by decide +kernel
theorem dL_law_837 : decode cL_law 837 = .ok (.iadd, 1) := by decide +kernel
theorem dL_law_838 : decode cL_law 838 = .ok (.iaload, 1) := by decide +kernel
theorem dL_law_839 : decode cL_law 839 = .ok (.invokevirtual 101, 3) := by decide +kernel
theorem dL_law_842 : decode cL_law 842 = .ok (.if_icmp .eq 615, 3) := by decide +kernel
theorem dL_law_845 : decode cL_law 845 = .ok (.iconst 0, 1) := by decide +kernel
theorem dL_law_846 : decode cL_law 846 = .ok (.ireturn, 1) := by decide +kernel
theorem dL_law_847 : decode cL_law 847 = .ok (.aload_n 1, 1) := by decide +kernel
theorem dL_law_848 : decode cL_law 848 = .ok (.invokevirtual 102, 3) := by decide +kernel
theorem dL_law_851 : decode cL_law 851 = .ok (.aload_n 2, 1) := by decide +kernel
theorem dL_law_852 : decode cL_law 852 = .ok (.invokevirtual 105, 3) := by decide +kernel
theorem dL_law_855 : decode cL_law 855 = .ok (.if_icmp .eq 602, 3) := by decide +kernel
theorem dL_law_858 : decode cL_law 858 = .ok (.iconst 0, 1) := by decide +kernel
theorem dL_law_859 : decode cL_law 859 = .ok (.ireturn, 1) := by decide +kernel
theorem dL_law_860 : decode cL_law 860 = .ok (.aload_n 1, 1) := by decide +kernel
theorem dL_law_861 : decode cL_law 861 = .ok (.aload_n 0, 1) := by decide +kernel
theorem dL_law_862 : decode cL_law 862 = .ok (.iload_n 3, 1) := by decide +kernel
theorem dL_law_863 : decode cL_law 863 = .ok (.iconst 1, 1) := by decide +kernel
theorem dL_law_864 : decode cL_law 864 = .ok (.iadd, 1) := by decide +kernel
theorem dL_law_865 : decode cL_law 865 = .ok (.iaload, 1) := by decide +kernel
theorem dL_law_866 : decode cL_law 866 = .ok (.invokevirtual 106, 3) := by decide +kernel
theorem dL_law_869 : decode cL_law 869 = .ok (.aload_n 2, 1) := by decide +kernel
theorem dL_law_870 : decode cL_law 870 = .ok (.aload_n 0, 1) := by decide +kernel
theorem dL_law_871 : decode cL_law 871 = .ok (.iload_n 3, 1) := by decide +kernel
theorem dL_law_872 : decode cL_law 872 = .ok (.iconst 1, 1) := by decide +kernel
theorem dL_law_873 : decode cL_law 873 = .ok (.iadd, 1) := by decide +kernel
theorem dL_law_874 : decode cL_law 874 = .ok (.iaload, 1) := by decide +kernel
theorem dL_law_875 : decode cL_law 875 = .ok (.invokevirtual 109, 3) := by decide +kernel
theorem dL_law_878 : decode cL_law 878 = .ok (.if_icmp .eq 579, 3) := by decide +kernel
theorem dL_law_881 : decode cL_law 881 = .ok (.iconst 0, 1) := by decide +kernel
theorem dL_law_882 : decode cL_law 882 = .ok (.ireturn, 1) := by decide +kernel
theorem dL_law_883 : decode cL_law 883 = .ok (.aload_n 1, 1) := by decide +kernel
theorem dL_law_884 : decode cL_law 884 = .ok (.aload_n 0, 1) := by decide +kernel
theorem dL_law_885 : decode cL_law 885 = .ok (.iload_n 3, 1) := by decide +kernel
theorem dL_law_886 : decode cL_law 886 = .ok (.iconst 1, 1) := by decide +kernel
theorem dL_law_887 : decode cL_law 887 = .ok (.iadd, 1) := by decide +kernel
theorem dL_law_888 : decode cL_law 888 = .ok (.iaload, 1) := by decide +kernel
theorem dL_law_889 : decode cL_law 889 = .ok (.invokevirtual 110, 3) := by decide +kernel
theorem dL_law_892 : decode cL_law 892 = .ok (.aload_n 2, 1) := by decide +kernel
theorem dL_law_893 : decode cL_law 893 = .ok (.aload_n 0, 1) := by decide +kernel
theorem dL_law_894 : decode cL_law 894 = .ok (.iload_n 3, 1) := by decide +kernel
theorem dL_law_895 : decode cL_law 895 = .ok (.iconst 1, 1) := by decide +kernel
theorem dL_law_896 : decode cL_law 896 = .ok (.iadd, 1) := by decide +kernel
theorem dL_law_897 : decode cL_law 897 = .ok (.iaload, 1) := by decide +kernel
theorem dL_law_898 : decode cL_law 898 = .ok (.invokevirtual 113, 3) := by decide +kernel
theorem dL_law_901 : decode cL_law 901 = .ok (.if_icmp .eq 556, 3) := by decide +kernel
theorem dL_law_904 : decode cL_law 904 = .ok (.iconst 0, 1) := by decide +kernel
theorem dL_law_905 : decode cL_law 905 = .ok (.ireturn, 1) := by decide +kernel
theorem dL_law_906 : decode cL_law 906 = .ok (.aload_n 1, 1) := by decide +kernel
theorem dL_law_907 : decode cL_law 907 = .ok (.aload_n 0, 1) := by decide +kernel
theorem dL_law_908 : decode cL_law 908 = .ok (.iload_n 3, 1) := by decide +kernel
theorem dL_law_909 : decode cL_law 909 = .ok (.iconst 1, 1) := by decide +kernel
theorem dL_law_910 : decode cL_law 910 = .ok (.iadd, 1) := by decide +kernel
theorem dL_law_911 : decode cL_law 911 = .ok (.iaload, 1) := by decide +kernel
theorem dL_law_912 : decode cL_law 912 = .ok (.invokevirtual 114, 3) := by decide +kernel
theorem dL_law_915 : decode cL_law 915 = .ok (.aload_n 2, 1) := by decide +kernel
theorem dL_law_916 : decode cL_law 916 = .ok (.aload_n 0, 1) := by decide +kernel
theorem dL_law_917 : decode cL_law 917 = .ok (.iload_n 3, 1) := by decide +kernel
theorem dL_law_918 : decode cL_law 918 = .ok (.iconst 1, 1) := by decide +kernel
theorem dL_law_919 : decode cL_law 919 = .ok (.iadd, 1) := by decide +kernel
theorem dL_law_920 : decode cL_law 920 = .ok (.iaload, 1) := by decide +kernel
theorem dL_law_921 : decode cL_law 921 = .ok (.invokevirtual 117, 3) := by decide +kernel
theorem dL_law_924 : decode cL_law 924 = .ok (.if_icmp .eq 533, 3) := by decide +kernel
theorem dL_law_927 : decode cL_law 927 = .ok (.iconst 0, 1) := by decide +kernel
theorem dL_law_928 : decode cL_law 928 = .ok (.ireturn, 1) := by decide +kernel
theorem dL_law_929 : decode cL_law 929 = .ok (.aload_n 1, 1) := by decide +kernel
theorem dL_law_930 : decode cL_law 930 = .ok (.aload_n 0, 1) := by decide +kernel
theorem dL_law_931 : decode cL_law 931 = .ok (.iload_n 3, 1) := by decide +kernel
theorem dL_law_932 : decode cL_law 932 = .ok (.iconst 1, 1) := by decide +kernel
theorem dL_law_933 : decode cL_law 933 = .ok (.iadd, 1) := by decide +kernel
theorem dL_law_934 : decode cL_law 934 = .ok (.iaload, 1) := by decide +kernel
theorem dL_law_935 : decode cL_law 935 = .ok (.invokevirtual 118, 3) := by decide +kernel
theorem dL_law_938 : decode cL_law 938 = .ok (.aload_n 2, 1) := by decide +kernel
theorem dL_law_939 : decode cL_law 939 = .ok (.aload_n 0, 1) := by decide +kernel
theorem dL_law_940 : decode cL_law 940 = .ok (.iload_n 3, 1) := by decide +kernel
theorem dL_law_941 : decode cL_law 941 = .ok (.iconst 1, 1) := by decide +kernel
theorem dL_law_942 : decode cL_law 942 = .ok (.iadd, 1) := by decide +kernel
theorem dL_law_943 : decode cL_law 943 = .ok (.iaload, 1) := by decide +kernel
theorem dL_law_944 : decode cL_law 944 = .ok (.invokevirtual 121, 3) := by decide +kernel
theorem dL_law_947 : decode cL_law 947 = .ok (.if_icmp .eq 510, 3) := by decide +kernel
theorem dL_law_950 : decode cL_law 950 = .ok (.iconst 0, 1) := by decide +kernel
theorem dL_law_951 : decode cL_law 951 = .ok (.ireturn, 1) := by decide +kernel
theorem dL_law_952 : decode cL_law 952 = .ok (.aload_n 1, 1) := by decide +kernel
theorem dL_law_953 : decode cL_law 953 = .ok (.aload_n 0, 1) := by decide +kernel
theorem dL_law_954 : decode cL_law 954 = .ok (.iload_n 3, 1) := by decide +kernel
theorem dL_law_955 : decode cL_law 955 = .ok (.iconst 1, 1) := by decide +kernel
theorem dL_law_956 : decode cL_law 956 = .ok (.iadd, 1) := by decide +kernel
theorem dL_law_957 : decode cL_law 957 = .ok (.iaload, 1) := by decide +kernel
theorem dL_law_958 : decode cL_law 958 = .ok (.invokevirtual 122, 3) := by decide +kernel
theorem dL_law_961 : decode cL_law 961 = .ok (.aload_n 2, 1) := by decide +kernel
theorem dL_law_962 : decode cL_law 962 = .ok (.aload_n 0, 1) := by decide +kernel
theorem dL_law_963 : decode cL_law 963 = .ok (.iload_n 3, 1) := by decide +kernel
theorem dL_law_964 : decode cL_law 964 = .ok (.iconst 1, 1) := by decide +kernel
theorem dL_law_965 : decode cL_law 965 = .ok (.iadd, 1) := by decide +kernel
theorem dL_law_966 : decode cL_law 966 = .ok (.iaload, 1) := by decide +kernel
theorem dL_law_967 : decode cL_law 967 = .ok (.invokevirtual 125, 3) := by decide +kernel
theorem dL_law_970 : decode cL_law 970 = .ok (.if_icmp .eq 487, 3) := by decide +kernel
theorem dL_law_973 : decode cL_law 973 = .ok (.iconst 0, 1) := by decide +kernel
theorem dL_law_974 : decode cL_law 974 = .ok (.ireturn, 1) := by decide +kernel
theorem dL_law_975 : decode cL_law 975 = .ok (.aload_n 1, 1) := by decide +kernel
theorem dL_law_976 : decode cL_law 976 = .ok (.aload_n 0, 1) := by decide +kernel
theorem dL_law_977 : decode cL_law 977 = .ok (.iload_n 3, 1) := by decide +kernel
theorem dL_law_978 : decode cL_law 978 = .ok (.iconst 1, 1) := by decide +kernel
theorem dL_law_979 : decode cL_law 979 = .ok (.iadd, 1) := by decide +kernel
theorem dL_law_980 : decode cL_law 980 = .ok (.iaload, 1) := by decide +kernel
theorem dL_law_981 : decode cL_law 981 = .ok (.invokevirtual 126, 3) := by decide +kernel
theorem dL_law_984 : decode cL_law 984 = .ok (.aload_n 2, 1) := by decide +kernel
theorem dL_law_985 : decode cL_law 985 = .ok (.aload_n 0, 1) := by decide +kernel
theorem dL_law_986 : decode cL_law 986 = .ok (.iload_n 3, 1) := by decide +kernel
theorem dL_law_987 : decode cL_law 987 = .ok (.iconst 1, 1) := by decide +kernel
theorem dL_law_988 : decode cL_law 988 = .ok (.iadd, 1) := by decide +kernel
theorem dL_law_989 : decode cL_law 989 = .ok (.iaload, 1) := by decide +kernel
theorem dL_law_990 : decode cL_law 990 = .ok (.invokevirtual 129, 3) := by decide +kernel
theorem dL_law_993 : decode cL_law 993 = .ok (.if_icmp .eq 464, 3) := by decide +kernel
theorem dL_law_996 : decode cL_law 996 = .ok (.iconst 0, 1) := by decide +kernel
theorem dL_law_997 : decode cL_law 997 = .ok (.ireturn, 1) := by decide +kernel
theorem dL_law_998 : decode cL_law 998 = .ok (.aload_n 1, 1) := by decide +kernel
theorem dL_law_999 : decode cL_law 999 = .ok (.aload_n 0, 1) := by decide +kernel
theorem dL_law_1000 : decode cL_law 1000 = .ok (.iload_n 3, 1) := by decide +kernel
theorem dL_law_1001 : decode cL_law 1001 = .ok (.iconst 1, 1) := by decide +kernel
theorem dL_law_1002 : decode cL_law 1002 = .ok (.iadd, 1) := by decide +kernel
theorem dL_law_1003 : decode cL_law 1003 = .ok (.iaload, 1) := by decide +kernel
theorem dL_law_1004 : decode cL_law 1004 = .ok (.aload_n 0, 1) := by decide +kernel
theorem dL_law_1005 : decode cL_law 1005 = .ok (.iload_n 3, 1) := by decide +kernel
theorem dL_law_1006 : decode cL_law 1006 = .ok (.iconst 2, 1) := by decide +kernel
theorem dL_law_1007 : decode cL_law 1007 = .ok (.iadd, 1) := by decide +kernel
theorem dL_law_1008 : decode cL_law 1008 = .ok (.iaload, 1) := by decide +kernel
theorem dL_law_1009 : decode cL_law 1009 = .ok (.invokevirtual 130, 3) := by decide +kernel
theorem dL_law_1012 : decode cL_law 1012 = .ok (.aload_n 2, 1) := by decide +kernel
theorem dL_law_1013 : decode cL_law 1013 = .ok (.aload_n 0, 1) := by decide +kernel
theorem dL_law_1014 : decode cL_law 1014 = .ok (.iload_n 3, 1) := by decide +kernel
theorem dL_law_1015 : decode cL_law 1015 = .ok (.iconst 1, 1) := by decide +kernel
theorem dL_law_1016 : decode cL_law 1016 = .ok (.iadd, 1) := by decide +kernel
theorem dL_law_1017 : decode cL_law 1017 = .ok (.iaload, 1) := by decide +kernel
theorem dL_law_1018 : decode cL_law 1018 = .ok (.aload_n 0, 1) := by decide +kernel
theorem dL_law_1019 : decode cL_law 1019 = .ok (.iload_n 3, 1) := by decide +kernel
theorem dL_law_1020 : decode cL_law 1020 = .ok (.iconst 2, 1) := by decide +kernel
theorem dL_law_1021 : decode cL_law 1021 = .ok (.iadd, 1) := by decide +kernel
theorem dL_law_1022 : decode cL_law 1022 = .ok (.iaload, 1) := by decide +kernel
theorem dL_law_1023 : decode cL_law 1023 = .ok (.invokevirtual 133, 3) := by decide +kernel
theorem dL_law_1026 : decode cL_law 1026 = .ok (.if_icmp .eq 431, 3) := by decide +kernel
theorem dL_law_1029 : decode cL_law 1029 = .ok (.iconst 0, 1) := by decide +kernel
theorem dL_law_1030 : decode cL_law 1030 = .ok (.ireturn, 1) := by decide +kernel
theorem dL_law_1031 : decode cL_law 1031 = .ok (.aload_n 1, 1) := by decide +kernel
theorem dL_law_1032 : decode cL_law 1032 = .ok (.aload_n 0, 1) := by decide +kernel
theorem dL_law_1033 : decode cL_law 1033 = .ok (.iload_n 3, 1) := by decide +kernel
theorem dL_law_1034 : decode cL_law 1034 = .ok (.iconst 1, 1) := by decide +kernel
theorem dL_law_1035 : decode cL_law 1035 = .ok (.iadd, 1) := by decide +kernel
theorem dL_law_1036 : decode cL_law 1036 = .ok (.iaload, 1) := by decide +kernel
theorem dL_law_1037 : decode cL_law 1037 = .ok (.aload_n 0, 1) := by decide +kernel
theorem dL_law_1038 : decode cL_law 1038 = .ok (.iload_n 3, 1) := by decide +kernel
theorem dL_law_1039 : decode cL_law 1039 = .ok (.iconst 2, 1) := by decide +kernel
theorem dL_law_1040 : decode cL_law 1040 = .ok (.iadd, 1) := by decide +kernel
theorem dL_law_1041 : decode cL_law 1041 = .ok (.iaload, 1) := by decide +kernel
theorem dL_law_1042 : decode cL_law 1042 = .ok (.invokevirtual 134, 3) := by decide +kernel
theorem dL_law_1045 : decode cL_law 1045 = .ok (.aload_n 2, 1) := by decide +kernel
theorem dL_law_1046 : decode cL_law 1046 = .ok (.aload_n 0, 1) := by decide +kernel
theorem dL_law_1047 : decode cL_law 1047 = .ok (.iload_n 3, 1) := by decide +kernel
theorem dL_law_1048 : decode cL_law 1048 = .ok (.iconst 1, 1) := by decide +kernel
theorem dL_law_1049 : decode cL_law 1049 = .ok (.iadd, 1) := by decide +kernel
theorem dL_law_1050 : decode cL_law 1050 = .ok (.iaload, 1) := by decide +kernel
theorem dL_law_1051 : decode cL_law 1051 = .ok (.aload_n 0, 1) := by decide +kernel
theorem dL_law_1052 : decode cL_law 1052 = .ok (.iload_n 3, 1) := by decide +kernel
theorem dL_law_1053 : decode cL_law 1053 = .ok (.iconst 2, 1) := by decide +kernel
theorem dL_law_1054 : decode cL_law 1054 = .ok (.iadd, 1) := by decide +kernel
theorem dL_law_1055 : decode cL_law 1055 = .ok (.iaload, 1) := by decide +kernel
theorem dL_law_1056 : decode cL_law 1056 = .ok (.invokevirtual 137, 3) := by decide +kernel
theorem dL_law_1059 : decode cL_law 1059 = .ok (.if_icmp .eq 398, 3) := by decide +kernel
theorem dL_law_1062 : decode cL_law 1062 = .ok (.iconst 0, 1) := by decide +kernel
theorem dL_law_1063 : decode cL_law 1063 = .ok (.ireturn, 1) := by decide +kernel
theorem dL_law_1064 : decode cL_law 1064 = .ok (.aload_n 1, 1) := by decide +kernel
theorem dL_law_1065 : decode cL_law 1065 = .ok (.aload_n 0, 1) := by decide +kernel
theorem dL_law_1066 : decode cL_law 1066 = .ok (.iload_n 3, 1) := by decide +kernel
theorem dL_law_1067 : decode cL_law 1067 = .ok (.iconst 1, 1) := by decide +kernel
theorem dL_law_1068 : decode cL_law 1068 = .ok (.iadd, 1) := by decide +kernel
theorem dL_law_1069 : decode cL_law 1069 = .ok (.iaload, 1) := by decide +kernel
theorem dL_law_1070 : decode cL_law 1070 = .ok (.aload_n 0, 1) := by decide +kernel
theorem dL_law_1071 : decode cL_law 1071 = .ok (.iload_n 3, 1) := by decide +kernel
theorem dL_law_1072 : decode cL_law 1072 = .ok (.iconst 2, 1) := by decide +kernel
theorem dL_law_1073 : decode cL_law 1073 = .ok (.iadd, 1) := by decide +kernel
theorem dL_law_1074 : decode cL_law 1074 = .ok (.iaload, 1) := by decide +kernel
theorem dL_law_1075 : decode cL_law 1075 = .ok (.invokevirtual 138, 3) := by decide +kernel
theorem dL_law_1078 : decode cL_law 1078 = .ok (.aload_n 2, 1) := by decide +kernel
theorem dL_law_1079 : decode cL_law 1079 = .ok (.aload_n 0, 1) := by decide +kernel
theorem dL_law_1080 : decode cL_law 1080 = .ok (.iload_n 3, 1) := by decide +kernel
theorem dL_law_1081 : decode cL_law 1081 = .ok (.iconst 1, 1) := by decide +kernel
theorem dL_law_1082 : decode cL_law 1082 = .ok (.iadd, 1) := by decide +kernel
theorem dL_law_1083 : decode cL_law 1083 = .ok (.iaload, 1) := by decide +kernel
theorem dL_law_1084 : decode cL_law 1084 = .ok (.aload_n 0, 1) := by decide +kernel
theorem dL_law_1085 : decode cL_law 1085 = .ok (.iload_n 3, 1) := by decide +kernel
theorem dL_law_1086 : decode cL_law 1086 = .ok (.iconst 2, 1) := by decide +kernel
theorem dL_law_1087 : decode cL_law 1087 = .ok (.iadd, 1) := by decide +kernel
theorem dL_law_1088 : decode cL_law 1088 = .ok (.iaload, 1) := by decide +kernel
theorem dL_law_1089 : decode cL_law 1089 = .ok (.invokevirtual 141, 3) := by decide +kernel
theorem dL_law_1092 : decode cL_law 1092 = .ok (.if_icmp .eq 365, 3) := by decide +kernel
theorem dL_law_1095 : decode cL_law 1095 = .ok (.iconst 0, 1) := by decide +kernel
theorem dL_law_1096 : decode cL_law 1096 = .ok (.ireturn, 1) := by decide +kernel
theorem dL_law_1097 : decode cL_law 1097 = .ok (.aload_n 1, 1) := by decide +kernel
theorem dL_law_1098 : decode cL_law 1098 = .ok (.invokevirtual 142, 3) := by decide +kernel
theorem dL_law_1101 : decode cL_law 1101 = .ok (.aload_n 2, 1) := by decide +kernel
theorem dL_law_1102 : decode cL_law 1102 = .ok (.invokevirtual 145, 3) := by decide +kernel
theorem dL_law_1105 : decode cL_law 1105 = .ok (.if_icmp .eq 352, 3) := by decide +kernel
theorem dL_law_1108 : decode cL_law 1108 = .ok (.iconst 0, 1) := by decide +kernel
theorem dL_law_1109 : decode cL_law 1109 = .ok (.ireturn, 1) := by decide +kernel
theorem dL_law_1110 : decode cL_law 1110 = .ok (.aload_n 1, 1) := by decide +kernel
theorem dL_law_1111 : decode cL_law 1111 = .ok (.invokevirtual 146, 3) := by decide +kernel
theorem dL_law_1114 : decode cL_law 1114 = .ok (.aload_n 2, 1) := by decide +kernel
theorem dL_law_1115 : decode cL_law 1115 = .ok (.invokevirtual 149, 3) := by decide +kernel
theorem dL_law_1118 : decode cL_law 1118 = .ok (.if_icmp .eq 339, 3) := by decide +kernel
theorem dL_law_1121 : decode cL_law 1121 = .ok (.iconst 0, 1) := by decide +kernel
theorem dL_law_1122 : decode cL_law 1122 = .ok (.ireturn, 1) := by decide +kernel
theorem dL_law_1123 : decode cL_law 1123 = .ok (.aload_n 1, 1) := by decide +kernel
theorem dL_law_1124 : decode cL_law 1124 = .ok (.aload_n 0, 1) := by decide +kernel
theorem dL_law_1125 : decode cL_law 1125 = .ok (.iload_n 3, 1) := by decide +kernel
theorem dL_law_1126 : decode cL_law 1126 = .ok (.iconst 1, 1) := by decide +kernel
theorem dL_law_1127 : decode cL_law 1127 = .ok (.iadd, 1) := by decide +kernel
theorem dL_law_1128 : decode cL_law 1128 = .ok (.iaload, 1) := by decide +kernel
theorem dL_law_1129 : decode cL_law 1129 = .ok (.aload_n 0, 1) := by decide +kernel
theorem dL_law_1130 : decode cL_law 1130 = .ok (.iload_n 3, 1) := by decide +kernel
theorem dL_law_1131 : decode cL_law 1131 = .ok (.iconst 2, 1) := by decide +kernel
theorem dL_law_1132 : decode cL_law 1132 = .ok (.iadd, 1) := by decide +kernel
theorem dL_law_1133 : decode cL_law 1133 = .ok (.iaload, 1) := by decide +kernel
theorem dL_law_1134 : decode cL_law 1134 = .ok (.aload_n 0, 1) := by decide +kernel
theorem dL_law_1135 : decode cL_law 1135 = .ok (.iload_n 3, 1) := by decide +kernel
theorem dL_law_1136 : decode cL_law 1136 = .ok (.iconst 3, 1) := by decide +kernel
theorem dL_law_1137 : decode cL_law 1137 = .ok (.iadd, 1) := by decide +kernel
theorem dL_law_1138 : decode cL_law 1138 = .ok (.iaload, 1) := by decide +kernel
theorem dL_law_1139 : decode cL_law 1139 = .ok (.invokevirtual 150, 3) := by decide +kernel
theorem dL_law_1142 : decode cL_law 1142 = .ok (.aload_n 2, 1) := by decide +kernel
theorem dL_law_1143 : decode cL_law 1143 = .ok (.aload_n 0, 1) := by decide +kernel
theorem dL_law_1144 : decode cL_law 1144 = .ok (.iload_n 3, 1) := by decide +kernel
theorem dL_law_1145 : decode cL_law 1145 = .ok (.iconst 1, 1) := by decide +kernel
theorem dL_law_1146 : decode cL_law 1146 = .ok (.iadd, 1) := by decide +kernel
theorem dL_law_1147 : decode cL_law 1147 = .ok (.iaload, 1) := by decide +kernel
theorem dL_law_1148 : decode cL_law 1148 = .ok (.aload_n 0, 1) := by decide +kernel
theorem dL_law_1149 : decode cL_law 1149 = .ok (.iload_n 3, 1) := by decide +kernel
theorem dL_law_1150 : decode cL_law 1150 = .ok (.iconst 2, 1) := by decide +kernel
theorem dL_law_1151 : decode cL_law 1151 = .ok (.iadd, 1) := by decide +kernel
theorem dL_law_1152 : decode cL_law 1152 = .ok (.iaload, 1) := by decide +kernel
theorem dL_law_1153 : decode cL_law 1153 = .ok (.aload_n 0, 1) := by decide +kernel
theorem dL_law_1154 : decode cL_law 1154 = .ok (.iload_n 3, 1) := by decide +kernel
theorem dL_law_1155 : decode cL_law 1155 = .ok (.iconst 3, 1) := by decide +kernel
theorem dL_law_1156 : decode cL_law 1156 = .ok (.iadd, 1) := by decide +kernel
theorem dL_law_1157 : decode cL_law 1157 = .ok (.iaload, 1) := by decide +kernel
theorem dL_law_1158 : decode cL_law 1158 = .ok (.invokevirtual 153, 3) := by decide +kernel
theorem dL_law_1161 : decode cL_law 1161 = .ok (.if_icmp .eq 296, 3) := by decide +kernel
theorem dL_law_1164 : decode cL_law 1164 = .ok (.iconst 0, 1) := by decide +kernel
theorem dL_law_1165 : decode cL_law 1165 = .ok (.ireturn, 1) := by decide +kernel
theorem dL_law_1166 : decode cL_law 1166 = .ok (.aload_n 1, 1) := by decide +kernel
theorem dL_law_1167 : decode cL_law 1167 = .ok (.aload_n 0, 1) := by decide +kernel
theorem dL_law_1168 : decode cL_law 1168 = .ok (.iload_n 3, 1) := by decide +kernel
theorem dL_law_1169 : decode cL_law 1169 = .ok (.iconst 1, 1) := by decide +kernel
theorem dL_law_1170 : decode cL_law 1170 = .ok (.iadd, 1) := by decide +kernel
theorem dL_law_1171 : decode cL_law 1171 = .ok (.iaload, 1) := by decide +kernel
theorem dL_law_1172 : decode cL_law 1172 = .ok (.aload_n 0, 1) := by decide +kernel
theorem dL_law_1173 : decode cL_law 1173 = .ok (.iload_n 3, 1) := by decide +kernel
theorem dL_law_1174 : decode cL_law 1174 = .ok (.iconst 2, 1) := by decide +kernel
theorem dL_law_1175 : decode cL_law 1175 = .ok (.iadd, 1) := by decide +kernel
theorem dL_law_1176 : decode cL_law 1176 = .ok (.iaload, 1) := by decide +kernel
theorem dL_law_1177 : decode cL_law 1177 = .ok (.aload_n 0, 1) := by decide +kernel
theorem dL_law_1178 : decode cL_law 1178 = .ok (.iload_n 3, 1) := by decide +kernel
theorem dL_law_1179 : decode cL_law 1179 = .ok (.iconst 3, 1) := by decide +kernel
theorem dL_law_1180 : decode cL_law 1180 = .ok (.iadd, 1) := by decide +kernel
theorem dL_law_1181 : decode cL_law 1181 = .ok (.iaload, 1) := by decide +kernel
theorem dL_law_1182 : decode cL_law 1182 = .ok (.i2l, 1) := by decide +kernel
theorem dL_law_1183 : decode cL_law 1183 = .ok (.bipush 32, 2) := by decide +kernel
theorem dL_law_1185 : decode cL_law 1185 = .ok (.lshl, 1) := by decide +kernel
theorem dL_law_1186 : decode cL_law 1186 = .ok (.aload_n 0, 1) := by decide +kernel
theorem dL_law_1187 : decode cL_law 1187 = .ok (.iload_n 3, 1) := by decide +kernel
theorem dL_law_1188 : decode cL_law 1188 = .ok (.iconst 4, 1) := by decide +kernel
theorem dL_law_1189 : decode cL_law 1189 = .ok (.iadd, 1) := by decide +kernel
theorem dL_law_1190 : decode cL_law 1190 = .ok (.iaload, 1) := by decide +kernel
theorem dL_law_1191 : decode cL_law 1191 = .ok (.i2l, 1) := by decide +kernel
theorem dL_law_1192 : decode cL_law 1192 = .ok (.ldc2_w 154, 3) := by decide +kernel
theorem dL_law_1195 : decode cL_law 1195 = .ok (.land, 1) := by decide +kernel
theorem dL_law_1196 : decode cL_law 1196 = .ok (.lor, 1) := by decide +kernel
theorem dL_law_1197 : decode cL_law 1197 = .ok (.invokevirtual 156, 3) := by decide +kernel
theorem dL_law_1200 : decode cL_law 1200 = .ok (.aload_n 2, 1) := by decide +kernel
theorem dL_law_1201 : decode cL_law 1201 = .ok (.aload_n 0, 1) := by decide +kernel
theorem dL_law_1202 : decode cL_law 1202 = .ok (.iload_n 3, 1) := by decide +kernel
theorem dL_law_1203 : decode cL_law 1203 = .ok (.iconst 1, 1) := by decide +kernel
theorem dL_law_1204 : decode cL_law 1204 = .ok (.iadd, 1) := by decide +kernel
theorem dL_law_1205 : decode cL_law 1205 = .ok (.iaload, 1) := by decide +kernel
theorem dL_law_1206 : decode cL_law 1206 = .ok (.aload_n 0, 1) := by decide +kernel
theorem dL_law_1207 : decode cL_law 1207 = .ok (.iload_n 3, 1) := by decide +kernel
theorem dL_law_1208 : decode cL_law 1208 = .ok (.iconst 2, 1) := by decide +kernel
theorem dL_law_1209 : decode cL_law 1209 = .ok (.iadd, 1) := by decide +kernel
theorem dL_law_1210 : decode cL_law 1210 = .ok (.iaload, 1) := by decide +kernel
theorem dL_law_1211 : decode cL_law 1211 = .ok (.aload_n 0, 1) := by decide +kernel
theorem dL_law_1212 : decode cL_law 1212 = .ok (.iload_n 3, 1) := by decide +kernel
theorem dL_law_1213 : decode cL_law 1213 = .ok (.iconst 3, 1) := by decide +kernel
theorem dL_law_1214 : decode cL_law 1214 = .ok (.iadd, 1) := by decide +kernel
theorem dL_law_1215 : decode cL_law 1215 = .ok (.iaload, 1) := by decide +kernel
theorem dL_law_1216 : decode cL_law 1216 = .ok (.i2l, 1) := by decide +kernel
theorem dL_law_1217 : decode cL_law 1217 = .ok (.bipush 32, 2) := by decide +kernel
theorem dL_law_1219 : decode cL_law 1219 = .ok (.lshl, 1) := by decide +kernel
theorem dL_law_1220 : decode cL_law 1220 = .ok (.aload_n 0, 1) := by decide +kernel
theorem dL_law_1221 : decode cL_law 1221 = .ok (.iload_n 3, 1) := by decide +kernel
theorem dL_law_1222 : decode cL_law 1222 = .ok (.iconst 4, 1) := by decide +kernel
theorem dL_law_1223 : decode cL_law 1223 = .ok (.iadd, 1) := by decide +kernel
theorem dL_law_1224 : decode cL_law 1224 = .ok (.iaload, 1) := by decide +kernel
theorem dL_law_1225 : decode cL_law 1225 = .ok (.i2l, 1) := by decide +kernel
theorem dL_law_1226 : decode cL_law 1226 = .ok (.ldc2_w 154, 3) := by decide +kernel
theorem dL_law_1229 : decode cL_law 1229 = .ok (.land, 1) := by decide +kernel
theorem dL_law_1230 : decode cL_law 1230 = .ok (.lor, 1) := by decide +kernel
theorem dL_law_1231 : decode cL_law 1231 = .ok (.invokevirtual 160, 3) := by decide +kernel
theorem dL_law_1234 : decode cL_law 1234 = .ok (.lcmp, 1) := by decide +kernel
theorem dL_law_1235 : decode cL_law 1235 = .ok (.ifCond .eq 222, 3) := by decide +kernel
theorem dL_law_1238 : decode cL_law 1238 = .ok (.iconst 0, 1) := by decide +kernel
theorem dL_law_1239 : decode cL_law 1239 = .ok (.ireturn, 1) := by decide +kernel
theorem dL_law_1240 : decode cL_law 1240 = .ok (.aload_n 1, 1) := by decide +kernel
theorem dL_law_1241 : decode cL_law 1241 = .ok (.aload_n 0, 1) := by decide +kernel
theorem dL_law_1242 : decode cL_law 1242 = .ok (.iload_n 3, 1) := by decide +kernel
theorem dL_law_1243 : decode cL_law 1243 = .ok (.iconst 1, 1) := by decide +kernel
theorem dL_law_1244 : decode cL_law 1244 = .ok (.iadd, 1) := by decide +kernel
theorem dL_law_1245 : decode cL_law 1245 = .ok (.iaload, 1) := by decide +kernel
theorem dL_law_1246 : decode cL_law 1246 = .ok (.aload_n 0, 1) := by decide +kernel
theorem dL_law_1247 : decode cL_law 1247 = .ok (.iload_n 3, 1) := by decide +kernel
theorem dL_law_1248 : decode cL_law 1248 = .ok (.iconst 2, 1) := by decide +kernel
theorem dL_law_1249 : decode cL_law 1249 = .ok (.iadd, 1) := by decide +kernel
theorem dL_law_1250 : decode cL_law 1250 = .ok (.iaload, 1) := by decide +kernel
theorem dL_law_1251 : decode cL_law 1251 = .ok (.aload_n 0, 1) := by decide +kernel
theorem dL_law_1252 : decode cL_law 1252 = .ok (.iload_n 3, 1) := by decide +kernel
theorem dL_law_1253 : decode cL_law 1253 = .ok (.iconst 3, 1) := by decide +kernel
theorem dL_law_1254 : decode cL_law 1254 = .ok (.iadd, 1) := by decide +kernel
theorem dL_law_1255 : decode cL_law 1255 = .ok (.iaload, 1) := by decide +kernel
theorem dL_law_1256 : decode cL_law 1256 = .ok (.aload_n 0, 1) := by decide +kernel
theorem dL_law_1257 : decode cL_law 1257 = .ok (.iload_n 3, 1) := by decide +kernel
theorem dL_law_1258 : decode cL_law 1258 = .ok (.iconst 4, 1) := by decide +kernel
theorem dL_law_1259 : decode cL_law 1259 = .ok (.iadd, 1) := by decide +kernel
theorem dL_law_1260 : decode cL_law 1260 = .ok (.iaload, 1) := by decide +kernel
theorem dL_law_1261 : decode cL_law 1261 = .ok (.aload_n 0, 1) := by decide +kernel
theorem dL_law_1262 : decode cL_law 1262 = .ok (.iload_n 3, 1) := by decide +kernel
theorem dL_law_1263 : decode cL_law 1263 = .ok (.iconst 5, 1) := by decide +kernel
theorem dL_law_1264 : decode cL_law 1264 = .ok (.iadd, 1) := by decide +kernel
theorem dL_law_1265 : decode cL_law 1265 = .ok (.iaload, 1) := by decide +kernel
theorem dL_law_1266 : decode cL_law 1266 = .ok (.invokevirtual 161, 3) := by decide +kernel
theorem dL_law_1269 : decode cL_law 1269 = .ok (.aload_n 2, 1) := by decide +kernel
theorem dL_law_1270 : decode cL_law 1270 = .ok (.aload_n 0, 1) := by decide +kernel
theorem dL_law_1271 : decode cL_law 1271 = .ok (.iload_n 3, 1) := by decide +kernel
theorem dL_law_1272 : decode cL_law 1272 = .ok (.iconst 1, 1) := by decide +kernel
theorem dL_law_1273 : decode cL_law 1273 = .ok (.iadd, 1) := by decide +kernel
theorem dL_law_1274 : decode cL_law 1274 = .ok (.iaload, 1) := by decide +kernel
theorem dL_law_1275 : decode cL_law 1275 = .ok (.aload_n 0, 1) := by decide +kernel
theorem dL_law_1276 : decode cL_law 1276 = .ok (.iload_n 3, 1) := by decide +kernel
theorem dL_law_1277 : decode cL_law 1277 = .ok (.iconst 2, 1) := by decide +kernel
theorem dL_law_1278 : decode cL_law 1278 = .ok (.iadd, 1) := by decide +kernel
theorem dL_law_1279 : decode cL_law 1279 = .ok (.iaload, 1) := by decide +kernel
theorem dL_law_1280 : decode cL_law 1280 = .ok (.aload_n 0, 1) := by decide +kernel
theorem dL_law_1281 : decode cL_law 1281 = .ok (.iload_n 3, 1) := by decide +kernel
theorem dL_law_1282 : decode cL_law 1282 = .ok (.iconst 3, 1) := by decide +kernel
theorem dL_law_1283 : decode cL_law 1283 = .ok (.iadd, 1) := by decide +kernel
theorem dL_law_1284 : decode cL_law 1284 = .ok (.iaload, 1) := by decide +kernel
theorem dL_law_1285 : decode cL_law 1285 = .ok (.aload_n 0, 1) := by decide +kernel
theorem dL_law_1286 : decode cL_law 1286 = .ok (.iload_n 3, 1) := by decide +kernel
theorem dL_law_1287 : decode cL_law 1287 = .ok (.iconst 4, 1) := by decide +kernel
theorem dL_law_1288 : decode cL_law 1288 = .ok (.iadd, 1) := by decide +kernel
theorem dL_law_1289 : decode cL_law 1289 = .ok (.iaload, 1) := by decide +kernel
theorem dL_law_1290 : decode cL_law 1290 = .ok (.aload_n 0, 1) := by decide +kernel
theorem dL_law_1291 : decode cL_law 1291 = .ok (.iload_n 3, 1) := by decide +kernel
theorem dL_law_1292 : decode cL_law 1292 = .ok (.iconst 5, 1) := by decide +kernel
theorem dL_law_1293 : decode cL_law 1293 = .ok (.iadd, 1) := by decide +kernel
theorem dL_law_1294 : decode cL_law 1294 = .ok (.iaload, 1) := by decide +kernel
theorem dL_law_1295 : decode cL_law 1295 = .ok (.invokevirtual 165, 3) := by decide +kernel
theorem dL_law_1298 : decode cL_law 1298 = .ok (.if_icmp .eq 159, 3) := by decide +kernel
theorem dL_law_1301 : decode cL_law 1301 = .ok (.iconst 0, 1) := by decide +kernel
theorem dL_law_1302 : decode cL_law 1302 = .ok (.ireturn, 1) := by decide +kernel
theorem dL_law_1303 : decode cL_law 1303 = .ok (.aload_n 1, 1) := by decide +kernel
theorem dL_law_1304 : decode cL_law 1304 = .ok (.aload_n 0, 1) := by decide +kernel
theorem dL_law_1305 : decode cL_law 1305 = .ok (.iload_n 3, 1) := by decide +kernel
theorem dL_law_1306 : decode cL_law 1306 = .ok (.iconst 1, 1) := by decide +kernel
theorem dL_law_1307 : decode cL_law 1307 = .ok (.iadd, 1) := by decide +kernel
theorem dL_law_1308 : decode cL_law 1308 = .ok (.iaload, 1) := by decide +kernel
theorem dL_law_1309 : decode cL_law 1309 = .ok (.invokevirtual 166, 3) := by decide +kernel
theorem dL_law_1312 : decode cL_law 1312 = .ok (.aload_n 2, 1) := by decide +kernel
theorem dL_law_1313 : decode cL_law 1313 = .ok (.aload_n 0, 1) := by decide +kernel
theorem dL_law_1314 : decode cL_law 1314 = .ok (.iload_n 3, 1) := by decide +kernel
theorem dL_law_1315 : decode cL_law 1315 = .ok (.iconst 1, 1) := by decide +kernel
theorem dL_law_1316 : decode cL_law 1316 = .ok (.iadd, 1) := by decide +kernel
theorem dL_law_1317 : decode cL_law 1317 = .ok (.iaload, 1) := by decide +kernel
theorem dL_law_1318 : decode cL_law 1318 = .ok (.invokevirtual 169, 3) := by decide +kernel
theorem dL_law_1321 : decode cL_law 1321 = .ok (.if_icmp .eq 136, 3) := by decide +kernel
theorem dL_law_1324 : decode cL_law 1324 = .ok (.iconst 0, 1) := by decide +kernel
theorem dL_law_1325 : decode cL_law 1325 = .ok (.ireturn, 1) := by decide +kernel
theorem dL_law_1326 : decode cL_law 1326 = .ok (.aload_n 1, 1) := by decide +kernel
theorem dL_law_1327 : decode cL_law 1327 = .ok (.aload_n 0, 1) := by decide +kernel
theorem dL_law_1328 : decode cL_law 1328 = .ok (.iload_n 3, 1) := by decide +kernel
theorem dL_law_1329 : decode cL_law 1329 = .ok (.iconst 1, 1) := by decide +kernel
theorem dL_law_1330 : decode cL_law 1330 = .ok (.iadd, 1) := by decide +kernel
theorem dL_law_1331 : decode cL_law 1331 = .ok (.iaload, 1) := by decide +kernel
theorem dL_law_1332 : decode cL_law 1332 = .ok (.invokevirtual 170, 3) := by decide +kernel
theorem dL_law_1335 : decode cL_law 1335 = .ok (.aload_n 2, 1) := by decide +kernel
theorem dL_law_1336 : decode cL_law 1336 = .ok (.aload_n 0, 1) := by decide +kernel
theorem dL_law_1337 : decode cL_law 1337 = .ok (.iload_n 3, 1) := by decide +kernel
theorem dL_law_1338 : decode cL_law 1338 = .ok (.iconst 1, 1) := by decide +kernel
theorem dL_law_1339 : decode cL_law 1339 = .ok (.iadd, 1) := by decide +kernel
theorem dL_law_1340 : decode cL_law 1340 = .ok (.iaload, 1) := by decide +kernel
theorem dL_law_1341 : decode cL_law 1341 = .ok (.invokevirtual 173, 3) := by decide +kernel
theorem dL_law_1344 : decode cL_law 1344 = .ok (.if_icmp .eq 113, 3) := by decide +kernel
theorem dL_law_1347 : decode cL_law 1347 = .ok (.iconst 0, 1) := by decide +kernel
theorem dL_law_1348 : decode cL_law 1348 = .ok (.ireturn, 1) := by decide +kernel
theorem dL_law_1349 : decode cL_law 1349 = .ok (.aload_n 1, 1) := by decide +kernel
theorem dL_law_1350 : decode cL_law 1350 = .ok (.aload_n 0, 1) := by decide +kernel
theorem dL_law_1351 : decode cL_law 1351 = .ok (.iload_n 3, 1) := by decide +kernel
theorem dL_law_1352 : decode cL_law 1352 = .ok (.iconst 1, 1) := by decide +kernel
theorem dL_law_1353 : decode cL_law 1353 = .ok (.iadd, 1) := by decide +kernel
theorem dL_law_1354 : decode cL_law 1354 = .ok (.iaload, 1) := by decide +kernel
theorem dL_law_1355 : decode cL_law 1355 = .ok (.invokevirtual 174, 3) := by decide +kernel
theorem dL_law_1358 : decode cL_law 1358 = .ok (.aload_n 2, 1) := by decide +kernel
theorem dL_law_1359 : decode cL_law 1359 = .ok (.aload_n 0, 1) := by decide +kernel
theorem dL_law_1360 : decode cL_law 1360 = .ok (.iload_n 3, 1) := by decide +kernel
theorem dL_law_1361 : decode cL_law 1361 = .ok (.iconst 1, 1) := by decide +kernel
theorem dL_law_1362 : decode cL_law 1362 = .ok (.iadd, 1) := by decide +kernel
theorem dL_law_1363 : decode cL_law 1363 = .ok (.iaload, 1) := by decide +kernel
theorem dL_law_1364 : decode cL_law 1364 = .ok (.invokevirtual 177, 3) := by decide +kernel
theorem dL_law_1367 : decode cL_law 1367 = .ok (.if_icmp .eq 90, 3) := by decide +kernel
theorem dL_law_1370 : decode cL_law 1370 = .ok (.iconst 0, 1) := by decide +kernel
theorem dL_law_1371 : decode cL_law 1371 = .ok (.ireturn, 1) := by decide +kernel
theorem dL_law_1372 : decode cL_law 1372 = .ok (.aload_n 1, 1) := by decide +kernel
theorem dL_law_1373 : decode cL_law 1373 = .ok (.invokevirtual 178, 3) := by decide +kernel
theorem dL_law_1376 : decode cL_law 1376 = .ok (.aload_n 2, 1) := by decide +kernel
theorem dL_law_1377 : decode cL_law 1377 = .ok (.invokevirtual 181, 3) := by decide +kernel
theorem dL_law_1380 : decode cL_law 1380 = .ok (.if_icmp .eq 77, 3) := by decide +kernel
theorem dL_law_1383 : decode cL_law 1383 = .ok (.iconst 0, 1) := by decide +kernel
theorem dL_law_1384 : decode cL_law 1384 = .ok (.ireturn, 1) := by decide +kernel
theorem dL_law_1385 : decode cL_law 1385 = .ok (.aload_n 1, 1) := by decide +kernel
theorem dL_law_1386 : decode cL_law 1386 = .ok (.invokevirtual 182, 3) := by decide +kernel
theorem dL_law_1389 : decode cL_law 1389 = .ok (.aload_n 2, 1) := by decide +kernel
theorem dL_law_1390 : decode cL_law 1390 = .ok (.invokevirtual 185, 3) := by decide +kernel
theorem dL_law_1393 : decode cL_law 1393 = .ok (.if_icmp .eq 64, 3) := by decide +kernel
theorem dL_law_1396 : decode cL_law 1396 = .ok (.iconst 0, 1) := by decide +kernel
theorem dL_law_1397 : decode cL_law 1397 = .ok (.ireturn, 1) := by decide +kernel
theorem dL_law_1398 : decode cL_law 1398 = .ok (.aload_n 1, 1) := by decide +kernel
theorem dL_law_1399 : decode cL_law 1399 = .ok (.invokevirtual 186, 3) := by decide +kernel
theorem dL_law_1402 : decode cL_law 1402 = .ok (.aload_n 2, 1) := by decide +kernel
theorem dL_law_1403 : decode cL_law 1403 = .ok (.invokevirtual 189, 3) := by decide +kernel
theorem dL_law_1406 : decode cL_law 1406 = .ok (.if_icmp .eq 51, 3) := by decide +kernel
theorem dL_law_1409 : decode cL_law 1409 = .ok (.iconst 0, 1) := by decide +kernel
theorem dL_law_1410 : decode cL_law 1410 = .ok (.ireturn, 1) := by decide +kernel
theorem dL_law_1411 : decode cL_law 1411 = .ok (.aload_n 1, 1) := by decide +kernel
theorem dL_law_1412 : decode cL_law 1412 = .ok (.aload_n 0, 1) := by decide +kernel
theorem dL_law_1413 : decode cL_law 1413 = .ok (.iload_n 3, 1) := by decide +kernel
theorem dL_law_1414 : decode cL_law 1414 = .ok (.iconst 1, 1) := by decide +kernel
theorem dL_law_1415 : decode cL_law 1415 = .ok (.iadd, 1) := by decide +kernel
theorem dL_law_1416 : decode cL_law 1416 = .ok (.iaload, 1) := by decide +kernel
theorem dL_law_1417 : decode cL_law 1417 = .ok (.invokevirtual 190, 3) := by decide +kernel
theorem dL_law_1420 : decode cL_law 1420 = .ok (.aload_n 2, 1) := by decide +kernel
theorem dL_law_1421 : decode cL_law 1421 = .ok (.aload_n 0, 1) := by decide +kernel
theorem dL_law_1422 : decode cL_law 1422 = .ok (.iload_n 3, 1) := by decide +kernel
theorem dL_law_1423 : decode cL_law 1423 = .ok (.iconst 1, 1) := by decide +kernel
theorem dL_law_1424 : decode cL_law 1424 = .ok (.iadd, 1) := by decide +kernel
theorem dL_law_1425 : decode cL_law 1425 = .ok (.iaload, 1) := by decide +kernel
theorem dL_law_1426 : decode cL_law 1426 = .ok (.invokevirtual 193, 3) := by decide +kernel
theorem dL_law_1429 : decode cL_law 1429 = .ok (.if_icmp .eq 28, 3) := by decide +kernel
theorem dL_law_1432 : decode cL_law 1432 = .ok (.iconst 0, 1) := by decide +kernel
theorem dL_law_1433 : decode cL_law 1433 = .ok (.ireturn, 1) := by decide +kernel
theorem dL_law_1434 : decode cL_law 1434 = .ok (.aload_n 1, 1) := by decide +kernel
theorem dL_law_1435 : decode cL_law 1435 = .ok (.aload_n 0, 1) := by decide +kernel
theorem dL_law_1436 : decode cL_law 1436 = .ok (.iload_n 3, 1) := by decide +kernel
theorem dL_law_1437 : decode cL_law 1437 = .ok (.iconst 1, 1) := by decide +kernel
theorem dL_law_1438 : decode cL_law 1438 = .ok (.iadd, 1) := by decide +kernel
theorem dL_law_1439 : decode cL_law 1439 = .ok (.iaload, 1) := by decide +kernel
theorem dL_law_1440 : decode cL_law 1440 = .ok (.invokevirtual 194, 3) := by decide +kernel
theorem dL_law_1443 : decode cL_law 1443 = .ok (.aload_n 2, 1) := by decide +kernel
theorem dL_law_1444 : decode cL_law 1444 = .ok (.aload_n 0, 1) := by decide +kernel
theorem dL_law_1445 : decode cL_law 1445 = .ok (.iload_n 3, 1) := by decide +kernel
theorem dL_law_1446 : decode cL_law 1446 = .ok (.iconst 1, 1) := by decide +kernel
theorem dL_law_1447 : decode cL_law 1447 = .ok (.iadd, 1) := by decide +kernel
theorem dL_law_1448 : decode cL_law 1448 = .ok (.iaload, 1) := by decide +kernel
theorem dL_law_1449 : decode cL_law 1449 = .ok (.invokevirtual 197, 3) := by decide +kernel
theorem dL_law_1452 : decode cL_law 1452 = .ok (.if_icmp .eq 5, 3) := by decide +kernel
theorem dL_law_1455 : decode cL_law 1455 = .ok (.iconst 0, 1) := by decide +kernel
theorem dL_law_1456 : decode cL_law 1456 = .ok (.ireturn, 1) := by decide +kernel
theorem dL_law_1457 : decode cL_law 1457 = .ok (.iinc 3 6, 3) := by decide +kernel
theorem dL_law_1460 : decode cL_law 1460 = .ok (.goto (-1442), 3) := by decide +kernel
theorem dL_law_1463 : decode cL_law 1463 = .ok (.iconst 1, 1) := by decide +kernel
theorem dL_law_1464 : decode cL_law 1464 = .ok (.ireturn, 1) := by decide +kernel
end
section
/-! ===== a virtual world: cell k of the list stands at the address cz G k; references in values are places of the list ===== -/
abbrev Cf : Type := va_G × (Nat → ClassId) × (Nat → Nat) × (Nat → Prop) × (Nat × (Nat → Int32)) × Value
abbrev cD (G : Cf) : va_G := G.1
abbrev cT (G : Cf) : Nat → ClassId := G.2.1
abbrev cz (G : Cf) : Nat → Nat := G.2.2.1
abbrev cA (G : Cf) : Nat → Prop := G.2.2.2.1
abbrev cL (G : Cf) : Nat := G.2.2.2.2.1.1
abbrev cX (G : Cf) : Nat → Int32 := G.2.2.2.2.1.2
abbrev cF (G : Cf) : Value := G.2.2.2.2.2
abbrev Wd : Type := List va_E
def rv (z : Nat → Nat) : Value → Value
  | .ref k => .ref (z k)
  | .int x => .int x
  | .long x => .long x
  | .null => .null
  | .float x => .float x
  | .double x => .double x
  | .retAddr x => .retAddr x
theorem rv_cat (z : Nat → Nat) (v : Value) : (rv z v).category = v.category := by cases v <;> rfl
def rE (G : Cf) : va_E → va_E
  | .inl (t, n, .inl f) => .inl (cT G t, n, .inl f)
  | .inl (t, n, .inr (.inl f)) => .inl (cT G t, n, .inr (.inl f))
  | .inl (t, n, .inr (.inr (.inl f))) => .inl (cT G t, n, .inr (.inr (.inl f)))
  | .inl (t, n, .inr (.inr (.inr (.inl f)))) => .inl (cT G t, n, .inr (.inr (.inr (.inl f))))
  | .inl (t, n, .inr (.inr (.inr (.inr f)))) => .inl (cT G t, n, .inr (.inr (.inr (.inr (fun j => (f j).map (cz G))))))
  | .inr (ci, fs) => .inr (ci, fs.map (rv (cz G)))
def rW (G : Cf) (w : Wd) : va_W := w.mapIdx (fun k e => (cz G k, rE G e))
theorem rW_at {G : Cf} {w : Wd} {k : Nat} {e : va_E} (h : w[k]? = some e) : (rW G w)[k]? = some (cz G k, rE G e) := by
  simp [rW, List.getElem?_mapIdx, h]
theorem rW_set {G : Cf} {w : Wd} {k : Nat} {e : va_E} : (rW G w).set k (cz G k, rE G e) = rW G (w.set k e) := by
  apply List.ext_getElem?
  intro i
  simp only [rW, List.getElem?_mapIdx, List.getElem?_set, List.length_mapIdx]
  by_cases h : k = i
  · subst h
    by_cases h2 : k < w.length <;> simp [h2]
  · simp [h]
abbrev tysG (G : Cf) : List (ClassId × FieldType) := [(cT G 0, .int), (cT G 1, .long), (cT G 2, .boolean), (cT G 3, .object RX3)]
/-! what stands outside the world and nobody writes: the String constants of the tape's words, one table, three statics, the script -/
def sIdx : List Nat := [32, 58, 41, 84, 89, 91, 122, 124, 126, 128, 130, 132, 71, 73, 75]
def sTxt : List String := ["king", "fear", "word", "to", "gain", "until", "heir", "ward", "eldest", "lost", "twin", "child", "of", "with", "worth"]
def sByt : List (List Int32) := [[107, 105, 110, 103], [102, 101, 97, 114], [119, 111, 114, 100], [116, 111], [103, 97, 105, 110], [117, 110, 116, 105, 108], [104, 101, 105, 114], [119, 97, 114, 100], [101, 108, 100, 101, 115, 116], [108, 111, 115, 116], [116, 119, 105, 110], [99, 104, 105, 108, 100], [111, 102], [119, 105, 116, 104], [119, 111, 114, 116, 104]]
def sLen : List Nat := [4, 4, 4, 2, 4, 5, 4, 4, 6, 4, 4, 5, 2, 4, 5]
def kaf (j : Nat) : Int32 := ([-1, 0, 0, 1, 2, 1] : List Int32).getD j 0
def Ex (G : Cf) (U : State) (H : Heap) : Prop :=
  vk_S 15 sLen sByt (fun i => cz G (1000 + i)) (fun i => cz G (2000 + i)) (cA G) U H ∧
  (∀ i, i < 15 → vk_R RX4 (sIdx.getD i 0) (sTxt.getD i "") (cz G (1000 + i)) U) ∧
  va_Z RX5 "KIND_ABOVE" "[I" (.ref (cz G 3000)) (cA G) U H ∧
  va_T .int (cz G 3000) 6 (fun j => .int (kaf j)) (cA G) U H ∧
  va_Z RJ0 "COMPACT_STRINGS" "Z" (.int 1) (cA G) U H ∧
  va_Z RJ3 "SIOOBE_FORMATTER" "Ljava/util/function/BiFunction;" (rv (cz G) (cF G)) (cA G) U H ∧
  va_T .int (cz G 4000) (cL G) (fun j => .int (cX G j)) (cA G) U H
theorem Ex.warm {G : Cf} {s U : State} {H : Heap} (hW : s.WarmedH U.vm) (h : Ex G s H) : Ex G U H :=
  ⟨vk_S.moved hW.alike h.1, fun i hi => vk_R.warm hW (h.2.1 i hi), va_Z.moved hW.alike h.2.2.1, va_T.moved hW.alike h.2.2.2.1, va_Z.moved hW.alike h.2.2.2.2.1, va_Z.moved hW.alike h.2.2.2.2.2.1, va_T.moved hW.alike h.2.2.2.2.2.2⟩
theorem Ex.same {G : Cf} {u U : State} {H : Heap} (hv : U.vm = u.vm) (h : Ex G u H) : Ex G U H := by
  have ha : u.vm.Alike U.vm := by rw [hv]; exact Vm.Alike.refl u.vm
  exact ⟨vk_S.moved ha h.1, fun i hi => vk_R.same hv (h.2.1 i hi), va_Z.moved ha h.2.2.1, va_T.moved ha h.2.2.2.1, va_Z.moved ha h.2.2.2.2.1, va_Z.moved ha h.2.2.2.2.2.1, va_T.moved ha h.2.2.2.2.2.2⟩
theorem Ex.kept {G : Cf} {U : State} {H H1 : Heap} (h : Ex G U H) (hq : ∀ a : Nat, a < H.size → ¬ cA G a → H1[a]? = H[a]?) : Ex G U H1 :=
  ⟨h.1.kept hq, h.2.1, h.2.2.1.kept hq, h.2.2.2.1.kept hq, h.2.2.2.2.1.kept hq, h.2.2.2.2.2.1.kept hq, h.2.2.2.2.2.2.kept hq⟩
/-! locals -/
def lget : List (Option Value) → Nat → Option Value
  | [], _ => none
  | a :: _, 0 => a
  | _ :: l, n + 1 => lget l n
def lput : List (Option Value) → Nat → Option Value → List (Option Value)
  | [], _, _ => []
  | _ :: l, 0, v => v :: l
  | a :: l, n + 1, v => a :: lput l n v
theorem lget_lput (L : List (Option Value)) : ∀ (i : Nat) (v : Option Value) (j : Nat) (u : Value), lget (lput L i v) j = some u → (j = i ∧ v = some u) ∨ (j ≠ i ∧ lget L j = some u) := by
  induction L with
  | nil => intro i v j u h; simp [lput, lget] at h
  | cons a l ih =>
    intro i v j u h
    cases i with
    | zero =>
      cases j with
      | zero => exact Or.inl ⟨rfl, h⟩
      | succ j => exact Or.inr ⟨by omega, h⟩
    | succ i =>
      cases j with
      | zero => exact Or.inr ⟨by omega, h⟩
      | succ j =>
        rcases ih i v j u h with ⟨e, q⟩ | ⟨e, q⟩
        · exact Or.inl ⟨by omega, q⟩
        · exact Or.inr ⟨by omega, q⟩
def lkill (L : List (Option Value)) : Nat → List (Option Value)
  | 0 => L
  | i + 1 => match lget L i with
    | some (.long _) => lput L i none
    | some (.double _) => lput L i none
    | _ => L
theorem lget_lkill {L : List (Option Value)} {i j : Nat} {u : Value} (h : lget (lkill L i) j = some u) : lget L j = some u ∧ ¬ (j + 1 = i ∧ u.category = 2) := by
  cases i with
  | zero => exact ⟨h, by omega⟩
  | succ i =>
    simp only [lkill] at h
    split at h
    next x e =>
      rcases lget_lput _ _ _ _ _ h with ⟨-, q⟩ | ⟨e2, q⟩
      · cases q
      · exact ⟨q, by omega⟩
    next x e =>
      rcases lget_lput _ _ _ _ _ h with ⟨-, q⟩ | ⟨e2, q⟩
      · cases q
      · exact ⟨q, by omega⟩
    next h1 h2 =>
      refine ⟨h, fun q => ?_⟩
      obtain ⟨q1, q2⟩ := q
      have : j = i := by omega
      subst this
      cases u with
      | long x => exact h1 x h
      | double x => exact h2 x h
      | _ => simp [Value.category] at q2
abbrev lst1 (L : List (Option Value)) (i : Nat) (v : Value) : List (Option Value) := lput (lkill L i) i (some v)
abbrev lst2 (L : List (Option Value)) (i : Nat) (v : Value) : List (Option Value) := lput (lput (lkill L i) (i + 1) none) i (some v)
def Lh (G : Cf) (ls : Array Slot) (n : Nat) (L : List (Option Value)) : Prop := ls.size = n ∧ lv_wf ls ∧ ∀ i v, lget L i = some v → ls[i]? = some (.val (rv (cz G) v))
def La (G : Cf) (L : List (Option Value)) : List (Nat × Value) := (List.range L.length).filterMap (fun i => (lget L i).map (fun v => (i, rv (cz G) v)))
theorem lget_lt {L : List (Option Value)} : ∀ {i : Nat} {v : Value}, lget L i = some v → i < L.length := by
  induction L with
  | nil => intro i v h; simp [lget] at h
  | cons a l ih =>
    intro i v h
    cases i with
    | zero => simp
    | succ i => have := ih h; simp; omega
theorem La_mem {G : Cf} {L : List (Option Value)} {i : Nat} {v : Value} (h : lget L i = some v) : (i, rv (cz G) v) ∈ La G L :=
  List.mem_filterMap.mpr ⟨i, List.mem_range.mpr (lget_lt h), by rw [h]; rfl⟩
theorem Lh.has {G : Cf} {ls : Array Slot} {n : Nat} {L : List (Option Value)} (h : Lh G ls n L) : lv_has ls n (La G L) := by
  refine ⟨h.1, h.2.1, fun q hq => ?_⟩
  obtain ⟨i, -, hi⟩ := List.mem_filterMap.mp hq
  cases hl : lget L i with
  | none => rw [hl] at hi; cases hi
  | some v =>
    rw [hl] at hi
    cases hi
    exact h.2.2 i v hl
theorem Lh.st1 {G : Cf} {ls : Array Slot} {n i : Nat} {L : List (Option Value)} {v : Value} (h : lv_has ls n ((i, rv (cz G) v) :: (La G L).filter (fun q => !(q.1 == i) && !(q.1 + 1 == i && q.2.category == 2)))) : Lh G ls n (lst1 L i v) := by
  refine ⟨h.1, h.2.1, fun j u hj => ?_⟩
  rcases lget_lput _ _ _ _ _ hj with ⟨e, q⟩ | ⟨e, q⟩
  · subst e; cases q
    exact h.2.2 _ List.mem_cons_self
  · obtain ⟨q1, q2⟩ := lget_lkill q
    refine h.2.2 (j, rv (cz G) u) (List.mem_cons_of_mem _ (List.mem_filter.mpr ⟨La_mem q1, ?_⟩))
    simp only [Bool.and_eq_true, Bool.not_eq_true', beq_eq_false_iff_ne, Bool.and_eq_false_iff, rv_cat]
    refine ⟨e, ?_⟩
    by_cases a : j + 1 = i
    · exact Or.inr (fun b => q2 ⟨a, b⟩)
    · exact Or.inl a
theorem Lh.st2 {G : Cf} {ls : Array Slot} {n i : Nat} {L : List (Option Value)} {v : Value} (h : lv_has ls n ((i, rv (cz G) v) :: (La G L).filter (fun q => !(q.1 == i) && (!(q.1 == i + 1) && !(q.1 + 1 == i && q.2.category == 2))))) : Lh G ls n (lst2 L i v) := by
  refine ⟨h.1, h.2.1, fun j u hj => ?_⟩
  rcases lget_lput _ _ _ _ _ hj with ⟨e, q⟩ | ⟨e, q⟩
  · subst e; cases q
    exact h.2.2 _ List.mem_cons_self
  · rcases lget_lput _ _ _ _ _ q with ⟨e2, q⟩ | ⟨e2, q⟩
    · cases q
    · obtain ⟨q1, q2⟩ := lget_lkill q
      refine h.2.2 (j, rv (cz G) u) (List.mem_cons_of_mem _ (List.mem_filter.mpr ⟨La_mem q1, ?_⟩))
      simp only [Bool.and_eq_true, Bool.not_eq_true', beq_eq_false_iff_ne, Bool.and_eq_false_iff, rv_cat]
      refine ⟨e, e2, ?_⟩
      by_cases a : j + 1 = i
      · exact Or.inr (fun b => q2 ⟨a, b⟩)
      · exact Or.inl a
/-! a method: its bytes, locals, own name, answer, room, name -/
abbrev MI : Type := ByteArray × Nat × String × Option FieldType × Room × MethodName
abbrev mC (M : MI) : ByteArray := M.1
abbrev mN (M : MI) : Nat := M.2.1
abbrev mO (M : MI) : String := M.2.2.1
abbrev mT (M : MI) : Option FieldType := M.2.2.2.1
abbrev mR (M : MI) : Room := M.2.2.2.2.1
abbrev mY (M : MI) : MethodName := M.2.2.2.2.2
abbrev mW (M : MI) : List Cond := Cond.code (mY M) (mC M) (mN M) (mT M) :: lw_good
def Cx (G : Cf) (M : MI) (p : Program) (s : State) (m : MethodId) (args : Array Value) (c : Code) : Prop :=
  CallFix p m c (mC M) (mN M) s args lw_good (mO M) ∧ va_K (cD G) vwCl (tysG G) s ∧ Ex G s s.heap
def WH (G : Cf) (s : State) (H : Heap) (locs : List Loc) (w : Wd) : Prop := va_P (cD G) vwCl (rW G w) H ∧ va_D (cA G) (rW G w) ∧ va_S (cA G) s.heap H locs
def RetI (M : MI) (pc : Nat) (v : Option Value) : Prop := match v with
  | none => decode (mC M) pc = .ok (.return_, 1) ∧ mT M = none
  | some (.int x) => decode (mC M) pc = .ok (.ireturn, 1) ∧ ∃ ty, mT M = some ty ∧ narrow ty (.int x) = .int x
  | some (.long _) => decode (mC M) pc = .ok (.lreturn, 1) ∧ mT M = some .long
  | some (.ref _) => decode (mC M) pc = .ok (.areturn, 1) ∧ ∃ n, mT M = some (.object n)
  | some .null => decode (mC M) pc = .ok (.areturn, 1) ∧ ∃ n, mT M = some (.object n)
  | _ => False
abbrev QW : Type := Option Value → Wd → Prop
def JE (G : Cf) (M : MI) (p : Program) (l : Launch) (e : Env) (s : State) (m : MethodId) (args : Array Value) (below : List Frame) (meth : Method) (c : Code) (cells slots : Nat) (Qf : State → Prop) (Q : QW) : Prop :=
  ∀ (pc : Nat) (ls : Array Slot) (H : Heap) (locs : List Loc) (v : Option Value) (w : Wd), Q v w → RetI M pc v → WH G s H locs w → W p l e (mR M) s m args below meth c H locs cells slots Qf (F0 m pc ls (v.toList.map (rv (cz G))))
/-- from here the method comes to its end, with an answer and a world of Q -/
def J (G : Cf) (M : MI) (pc : Nat) (L : List (Option Value)) (st : List Value) (w : Wd) (Q : QW) : Prop :=
  ∀ (p : Program) (l : Launch) (e : Env) (s : State) (m : MethodId) (args : Array Value) (below : List Frame) (meth : Method) (c : Code) (cells slots : Nat) (Qf : State → Prop),
    Cx G M p s m args c → (cells ≤ (mR M).cells ∧ slots ≤ (mR M).slots) → JE G M p l e s m args below meth c cells slots Qf Q →
    ∀ (ls : Array Slot) (H : Heap) (locs : List Loc), WH G s H locs w → Lh G ls (mN M) L → W p l e (mR M) s m args below meth c H locs cells slots Qf (F0 m pc ls (st.map (rv (cz G))))
def Is (r : Option Value) (w : Wd) : QW := fun v u => v = r ∧ u = w
/-- a contract -/
def GW (G : Cf) (w : Wd) (U : State) : Prop := va_P (cD G) vwCl (rW G w) U.heap ∧ va_D (cA G) (rW G w) ∧ va_K (cD G) vwCl (tysG G) U ∧ Ex G U U.heap
def QG (G : Cf) (Q : QW) : Array Value → State → Outcome → State → Prop := fun _ st o t => (∃ v w, o = .returned (v.map (rv (cz G))) ∧ Q v w ∧ va_P (cD G) vwCl (rW G w) t.heap ∧ va_D (cA G) (rW G w)) ∧ va_F (cA G) st t
def Does (G : Cf) (M : MI) (as : List Value) (w : Wd) (Q : QW) : Prop := ∀ l : Launch, Met l (mY M) (mW M) (mR M) (va_Pc (as.map (rv (cz G))) (GW G w)) (QG G Q) 0 0 (cA G)
def lent : List Value → List (Option Value)
  | [] => []
  | .long x :: vs => some (.long x) :: none :: lent vs
  | .double x :: vs => some (.double x) :: none :: lent vs
  | v :: vs => some v :: lent vs
theorem lent_args (G : Cf) (vs : List Value) : ∀ (i j : Nat) (u : Value), lget (lent vs) j = some u → (i + j, rv (cz G) u) ∈ lv_args i (vs.map (rv (cz G))) := by
  induction vs with
  | nil => intro i j u h; simp [lent, lget] at h
  | cons v vs ih =>
    intro i j u h
    have one : lent (v :: vs) = some v :: lent vs → v.category = 1 → (i + j, rv (cz G) u) ∈ lv_args i ((v :: vs).map (rv (cz G))) := by
      intro e hc
      rw [e] at h
      cases j with
      | zero => cases h; exact List.mem_cons_self
      | succ j =>
        have := ih (i + 1) j u h
        rw [List.map_cons, lv_args, rv_cat, if_neg (by omega)]
        rw [show i + (j + 1) = i + 1 + j by omega]
        exact List.mem_cons_of_mem _ this
    have two : lent (v :: vs) = some v :: none :: lent vs → v.category = 2 → (i + j, rv (cz G) u) ∈ lv_args i ((v :: vs).map (rv (cz G))) := by
      intro e hc
      rw [e] at h
      cases j with
      | zero => cases h; exact List.mem_cons_self
      | succ j =>
        cases j with
        | zero => cases h
        | succ j =>
          have := ih (i + 2) j u h
          rw [List.map_cons, lv_args, rv_cat, if_pos hc]
          rw [show i + (j + 1 + 1) = i + 2 + j by omega]
          exact List.mem_cons_of_mem _ this
    cases v with
    | long x => exact two rfl rfl
    | double x => exact two rfl rfl
    | _ => exact one rfl rfl
theorem lg_sl_rv (z : Nat → Nat) (vs : List Value) : (lg_sl (vs.map (rv z))).length = (lg_sl vs).length := by
  induction vs with
  | nil => rfl
  | cons v vs ih =>
    simp only [lg_sl, List.map_cons, List.flatMap_cons, List.length_append] at ih ⊢
    rw [ih, rv_cat]
    by_cases h : v.category = 2 <;> simp [h]
theorem Does.of {G : Cf} {M : MI} {as : List Value} {w : Wd} {Q : QW} (hy : plainName (mY M).cls = true) (ho : (mY M).cls = mO M) (hc : (mR M).cells = 0 ∧ (mR M).slots = 0) (hn : (lg_sl as).length ≤ mN M) (k : J G M 0 (lent as) [] w Q) : Does G M as w Q := by
  intro l
  refine Met.ofW (cc := mC M) (maxL := mN M) (ret := mT M) hy rfl ?_
  intro p e s m args below meth c s₁ B hml hv
  obtain ⟨rfl, hP, hD, hK, hE⟩ := hv
  have hx := B.exec
  have hb := B.bytes
  have hr := B.returns
  have hts := atoms_spec (ws := mW M) B.pre
  have hown : s.vm.findClass (mO M) = some m.cls := by rw [← ho]; exact findClass_of_methodNamed B.named
  have hlocks := B.notSynchronized
  have hl := lv_entry (as.map (rv (cz G))) (n := mN M) (by rw [lg_sl_rv]; exact hn)
  rw [lg_entry_eq]
  generalize (lg_sl (as.map (rv (cz G))) ++ List.replicate (mN M - (lg_sl (as.map (rv (cz G)))).length) Slot.unset).toArray = ls at hl ⊢
  have hL : Lh G ls (mN M) (lent as) := ⟨hl.1, hl.2.1, fun i v h => hl.2.2 (i, rv (cz G) v) (by have := lent_args G as 0 i v h; rwa [Nat.zero_add] at this)⟩
  refine k p l e s m _ below meth c 0 0 _ ⟨⟨hx, hb, hml, hown, fun w hw => hts w (List.mem_cons_of_mem _ hw)⟩, hK, hE⟩ ⟨Nat.zero_le _, Nat.zero_le _⟩ ?_ ls s.heap [] ⟨hP, hD, va_S.rf⟩ hL
  intro pc ls H locs v w1 hq hret hw
  obtain ⟨hP1, hD1, hS1⟩ := hw
  have post : ∀ t : State, t.heap = H → QG G Q (as.map (rv (cz G))).toArray s (.returned (v.map (rv (cz G)))) t := fun t ht => ⟨⟨v, w1, rfl, hq, by rw [ht]; exact hP1, hD1⟩, hS1.F ht⟩
  cases v with
  | none => exact W.vret hx hb (hr.trans hret.2) (fun t ht _ => post t ht) hS1.2.2 hret.1
  | some v =>
    cases v with
    | int x =>
      obtain ⟨h1, ty, h2, h3⟩ := hret
      exact W.zret hx hb (hr.trans h2) h3 (fun t ht _ => post t ht) hS1.2.2 h1
    | long x => exact W.lret hx hb (hr.trans hret.2) (fun t ht _ => post t ht) hS1.2.2 hret.1
    | ref x =>
      obtain ⟨h1, n, h2⟩ := hret
      exact W.aret hx hb (hr.trans h2) (Or.inl ⟨n, rfl⟩) (Or.inr ⟨_, rfl⟩) (fun t ht _ => post t ht) hS1.2.2 h1
    | null =>
      obtain ⟨h1, n, h2⟩ := hret
      exact W.aret hx hb (hr.trans h2) (Or.inl ⟨n, rfl⟩) (Or.inl rfl) (fun t ht _ => post t ht) hS1.2.2 h1
    | float x => exact hret.elim
    | double x => exact hret.elim
    | retAddr x => exact hret.elim
section JRows
variable {G : Cf} {M : MI} {pc : Nat} {L : List (Option Value)} {st : List Value} {w : Wd} {Q : QW}
theorem j_iadd {x y : Int32} (hd : decode (mC M) pc = .ok (.iadd, 1)) (k : J G M (pc + 1) L (.int (x + y) :: st) w Q) : J G M pc L (.int y :: .int x :: st) w Q := by
  intro p l e s m args below meth c cells slots Qf C hR hE ls H locs hw hl
  exact lv_iadd C.1.1 C.1.2.1 hd (k p l e s m args below meth c cells slots Qf C hR hE ls H locs hw hl)
theorem j_isub {x y : Int32} (hd : decode (mC M) pc = .ok (.isub, 1)) (k : J G M (pc + 1) L (.int (x - y) :: st) w Q) : J G M pc L (.int y :: .int x :: st) w Q := by
  intro p l e s m args below meth c cells slots Qf C hR hE ls H locs hw hl
  exact lv_isub C.1.1 C.1.2.1 hd (k p l e s m args below meth c cells slots Qf C hR hE ls H locs hw hl)
theorem j_imul {x y : Int32} (hd : decode (mC M) pc = .ok (.imul, 1)) (k : J G M (pc + 1) L (.int (x * y) :: st) w Q) : J G M pc L (.int y :: .int x :: st) w Q := by
  intro p l e s m args below meth c cells slots Qf C hR hE ls H locs hw hl
  exact lv_imul C.1.1 C.1.2.1 hd (k p l e s m args below meth c cells slots Qf C hR hE ls H locs hw hl)
theorem j_iand {x y : Int32} (hd : decode (mC M) pc = .ok (.iand, 1)) (k : J G M (pc + 1) L (.int (x &&& y) :: st) w Q) : J G M pc L (.int y :: .int x :: st) w Q := by
  intro p l e s m args below meth c cells slots Qf C hR hE ls H locs hw hl
  exact lv_iand C.1.1 C.1.2.1 hd (k p l e s m args below meth c cells slots Qf C hR hE ls H locs hw hl)
theorem j_ior {x y : Int32} (hd : decode (mC M) pc = .ok (.ior, 1)) (k : J G M (pc + 1) L (.int (x ||| y) :: st) w Q) : J G M pc L (.int y :: .int x :: st) w Q := by
  intro p l e s m args below meth c cells slots Qf C hR hE ls H locs hw hl
  exact lv_ior C.1.1 C.1.2.1 hd (k p l e s m args below meth c cells slots Qf C hR hE ls H locs hw hl)
theorem j_ixor {x y : Int32} (hd : decode (mC M) pc = .ok (.ixor, 1)) (k : J G M (pc + 1) L (.int (x ^^^ y) :: st) w Q) : J G M pc L (.int y :: .int x :: st) w Q := by
  intro p l e s m args below meth c cells slots Qf C hR hE ls H locs hw hl
  exact lv_ixor C.1.1 C.1.2.1 hd (k p l e s m args below meth c cells slots Qf C hR hE ls H locs hw hl)
theorem j_ishl {x y : Int32} (hd : decode (mC M) pc = .ok (.ishl, 1)) (k : J G M (pc + 1) L (.int (x <<< (y &&& 31)) :: st) w Q) : J G M pc L (.int y :: .int x :: st) w Q := by
  intro p l e s m args below meth c cells slots Qf C hR hE ls H locs hw hl
  exact lv_ishl C.1.1 C.1.2.1 hd (k p l e s m args below meth c cells slots Qf C hR hE ls H locs hw hl)
theorem j_ishr {x y : Int32} (hd : decode (mC M) pc = .ok (.ishr, 1)) (k : J G M (pc + 1) L (.int (x >>> (y &&& 31)) :: st) w Q) : J G M pc L (.int y :: .int x :: st) w Q := by
  intro p l e s m args below meth c cells slots Qf C hR hE ls H locs hw hl
  exact lv_ishr C.1.1 C.1.2.1 hd (k p l e s m args below meth c cells slots Qf C hR hE ls H locs hw hl)
theorem j_idiv {x y : Int32} (hd : decode (mC M) pc = .ok (.idiv, 1)) (hne : ¬ y = 0) (k : J G M (pc + 1) L (.int (x / y) :: st) w Q) : J G M pc L (.int y :: .int x :: st) w Q := by
  intro p l e s m args below meth c cells slots Qf C hR hE ls H locs hw hl
  exact lv_idiv C.1.1 C.1.2.1 hd hne (k p l e s m args below meth c cells slots Qf C hR hE ls H locs hw hl)
theorem j_irem {x y : Int32} (hd : decode (mC M) pc = .ok (.irem, 1)) (hne : ¬ y = 0) (k : J G M (pc + 1) L (.int (x - x / y * y) :: st) w Q) : J G M pc L (.int y :: .int x :: st) w Q := by
  intro p l e s m args below meth c cells slots Qf C hR hE ls H locs hw hl
  exact lv_irem C.1.1 C.1.2.1 hd hne (k p l e s m args below meth c cells slots Qf C hR hE ls H locs hw hl)
theorem j_iushr {x y : Int32} (hd : decode (mC M) pc = .ok (.iushr, 1)) (k : J G M (pc + 1) L (.int ((x.toUInt32 >>> (y.toUInt32 &&& Int32.toUInt32 31)).toInt32) :: st) w Q) : J G M pc L (.int y :: .int x :: st) w Q := by
  intro p l e s m args below meth c cells slots Qf C hR hE ls H locs hw hl
  exact lv_iushr C.1.1 C.1.2.1 hd rfl (k p l e s m args below meth c cells slots Qf C hR hE ls H locs hw hl)
theorem j_ladd {x y : Int64} (hd : decode (mC M) pc = .ok (.ladd, 1)) (k : J G M (pc + 1) L (.long (x + y) :: st) w Q) : J G M pc L (.long y :: .long x :: st) w Q := by
  intro p l e s m args below meth c cells slots Qf C hR hE ls H locs hw hl
  exact lv_ladd C.1.1 C.1.2.1 hd (k p l e s m args below meth c cells slots Qf C hR hE ls H locs hw hl)
theorem j_lsub {x y : Int64} (hd : decode (mC M) pc = .ok (.lsub, 1)) (k : J G M (pc + 1) L (.long (x - y) :: st) w Q) : J G M pc L (.long y :: .long x :: st) w Q := by
  intro p l e s m args below meth c cells slots Qf C hR hE ls H locs hw hl
  exact lv_lsub C.1.1 C.1.2.1 hd (k p l e s m args below meth c cells slots Qf C hR hE ls H locs hw hl)
theorem j_lmul {x y : Int64} (hd : decode (mC M) pc = .ok (.lmul, 1)) (k : J G M (pc + 1) L (.long (x * y) :: st) w Q) : J G M pc L (.long y :: .long x :: st) w Q := by
  intro p l e s m args below meth c cells slots Qf C hR hE ls H locs hw hl
  exact lv_lmul C.1.1 C.1.2.1 hd (k p l e s m args below meth c cells slots Qf C hR hE ls H locs hw hl)
theorem j_land {x y : Int64} (hd : decode (mC M) pc = .ok (.land, 1)) (k : J G M (pc + 1) L (.long (x &&& y) :: st) w Q) : J G M pc L (.long y :: .long x :: st) w Q := by
  intro p l e s m args below meth c cells slots Qf C hR hE ls H locs hw hl
  exact lv_land C.1.1 C.1.2.1 hd (k p l e s m args below meth c cells slots Qf C hR hE ls H locs hw hl)
theorem j_lor {x y : Int64} (hd : decode (mC M) pc = .ok (.lor, 1)) (k : J G M (pc + 1) L (.long (x ||| y) :: st) w Q) : J G M pc L (.long y :: .long x :: st) w Q := by
  intro p l e s m args below meth c cells slots Qf C hR hE ls H locs hw hl
  exact lv_lor C.1.1 C.1.2.1 hd (k p l e s m args below meth c cells slots Qf C hR hE ls H locs hw hl)
theorem j_lshl {x : Int64} {y : Int32} (hd : decode (mC M) pc = .ok (.lshl, 1)) (k : J G M (pc + 1) L (.long (x <<< (y.toInt64 &&& 63)) :: st) w Q) : J G M pc L (.int y :: .long x :: st) w Q := by
  intro p l e s m args below meth c cells slots Qf C hR hE ls H locs hw hl
  exact lv_lshl C.1.1 C.1.2.1 hd rfl (k p l e s m args below meth c cells slots Qf C hR hE ls H locs hw hl)
theorem j_lshr {x : Int64} {y : Int32} (hd : decode (mC M) pc = .ok (.lshr, 1)) (k : J G M (pc + 1) L (.long (x >>> (y.toInt64 &&& 63)) :: st) w Q) : J G M pc L (.int y :: .long x :: st) w Q := by
  intro p l e s m args below meth c cells slots Qf C hR hE ls H locs hw hl
  exact lv_lshr C.1.1 C.1.2.1 hd rfl (k p l e s m args below meth c cells slots Qf C hR hE ls H locs hw hl)
theorem j_i2l {x : Int32} (hd : decode (mC M) pc = .ok (.i2l, 1)) (k : J G M (pc + 1) L (.long x.toInt64 :: st) w Q) : J G M pc L (.int x :: st) w Q := by
  intro p l e s m args below meth c cells slots Qf C hR hE ls H locs hw hl
  exact lv_i2l C.1.1 C.1.2.1 hd rfl (k p l e s m args below meth c cells slots Qf C hR hE ls H locs hw hl)
theorem j_l2i {x : Int64} (hd : decode (mC M) pc = .ok (.l2i, 1)) (k : J G M (pc + 1) L (.int x.toInt32 :: st) w Q) : J G M pc L (.long x :: st) w Q := by
  intro p l e s m args below meth c cells slots Qf C hR hE ls H locs hw hl
  exact lv_l2i C.1.1 C.1.2.1 hd rfl (k p l e s m args below meth c cells slots Qf C hR hE ls H locs hw hl)
theorem j_i2b {x : Int32} (hd : decode (mC M) pc = .ok (.i2b, 1)) (k : J G M (pc + 1) L (.int x.toInt8.toInt32 :: st) w Q) : J G M pc L (.int x :: st) w Q := by
  intro p l e s m args below meth c cells slots Qf C hR hE ls H locs hw hl
  exact lv_i2b C.1.1 C.1.2.1 hd rfl (k p l e s m args below meth c cells slots Qf C hR hE ls H locs hw hl)
theorem j_i2s {x : Int32} (hd : decode (mC M) pc = .ok (.i2s, 1)) (k : J G M (pc + 1) L (.int x.toInt16.toInt32 :: st) w Q) : J G M pc L (.int x :: st) w Q := by
  intro p l e s m args below meth c cells slots Qf C hR hE ls H locs hw hl
  exact lv_i2s C.1.1 C.1.2.1 hd rfl (k p l e s m args below meth c cells slots Qf C hR hE ls H locs hw hl)
theorem j_i2c {x : Int32} (hd : decode (mC M) pc = .ok (.i2c, 1)) (k : J G M (pc + 1) L (.int (x.toUInt32 % 65536).toInt32 :: st) w Q) : J G M pc L (.int x :: st) w Q := by
  intro p l e s m args below meth c cells slots Qf C hR hE ls H locs hw hl
  exact lv_i2c C.1.1 C.1.2.1 hd rfl (k p l e s m args below meth c cells slots Qf C hR hE ls H locs hw hl)
theorem j_lcmp {x y : Int64} (hd : decode (mC M) pc = .ok (.lcmp, 1)) (k : J G M (pc + 1) L (.int (lg_cmp x y) :: st) w Q) : J G M pc L (.long y :: .long x :: st) w Q := by
  intro p l e s m args below meth c cells slots Qf C hR hE ls H locs hw hl
  exact W.lcmp C.1.1 C.1.2.1 hd (k p l e s m args below meth c cells slots Qf C hR hE ls H locs hw hl)
theorem j_iconst {n : Int} (v : Int32) (hd : decode (mC M) pc = .ok (.iconst n, 1)) (hv : Int32.ofInt n = v) (k : J G M (pc + 1) L (.int v :: st) w Q) : J G M pc L (st) w Q := by
  intro p l e s m args below meth c cells slots Qf C hR hE ls H locs hw hl
  exact lv_iconst C.1.1 C.1.2.1 hd hv (k p l e s m args below meth c cells slots Qf C hR hE ls H locs hw hl)
theorem j_bipush {n : Int} (v : Int32) (hd : decode (mC M) pc = .ok (.bipush n, 2)) (hv : (Int8.ofInt n).toInt32 = v) (k : J G M (pc + 2) L (.int v :: st) w Q) : J G M pc L (st) w Q := by
  intro p l e s m args below meth c cells slots Qf C hR hE ls H locs hw hl
  exact lv_bipush C.1.1 C.1.2.1 hd hv (k p l e s m args below meth c cells slots Qf C hR hE ls H locs hw hl)
theorem j_sipush {n : Int} (v : Int32) (hd : decode (mC M) pc = .ok (.sipush n, 3)) (hv : (Int16.ofInt n).toInt32 = v) (k : J G M (pc + 3) L (.int v :: st) w Q) : J G M pc L (st) w Q := by
  intro p l e s m args below meth c cells slots Qf C hR hE ls H locs hw hl
  exact lv_sipush C.1.1 C.1.2.1 hd hv (k p l e s m args below meth c cells slots Qf C hR hE ls H locs hw hl)
theorem j_lconst {n : Fin 2} (v : Int64) (hd : decode (mC M) pc = .ok (.lconst n, 1)) (hv : Int64.ofNat (n : Nat) = v) (k : J G M (pc + 1) L (.long v :: st) w Q) : J G M pc L (st) w Q := by
  intro p l e s m args below meth c cells slots Qf C hR hE ls H locs hw hl
  exact lv_lconst C.1.1 C.1.2.1 hd hv (k p l e s m args below meth c cells slots Qf C hR hE ls H locs hw hl)
theorem j_null (hd : decode (mC M) pc = .ok (.aconst_null, 1)) (k : J G M (pc + 1) L (.null :: st) w Q) : J G M pc L (st) w Q := by
  intro p l e s m args below meth c cells slots Qf C hR hE ls H locs hw hl
  exact lv_null C.1.1 C.1.2.1 hd (k p l e s m args below meth c cells slots Qf C hR hE ls H locs hw hl)
theorem j_ldc {idx : Nat} {v : Int32} (hc : Cond.constant (mO M) idx v ∈ lw_good) (hd : decode (mC M) pc = .ok (.ldc idx, 2)) (k : J G M (pc + 2) L (.int v :: st) w Q) : J G M pc L st w Q := by
  intro p l e s m args below meth c cells slots Qf C hR hE ls H locs hw hl
  exact lv_ldc C.1.1 C.1.2.1 C.1.2.2.2.1 (C.1.2.2.2.2 _ hc) hd (k p l e s m args below meth c cells slots Qf C hR hE ls H locs hw hl)
theorem j_ldcw {idx : Nat} {v : Int32} (hc : Cond.constant (mO M) idx v ∈ lw_good) (hd : decode (mC M) pc = .ok (.ldc_w idx, 3)) (k : J G M (pc + 3) L (.int v :: st) w Q) : J G M pc L st w Q := by
  intro p l e s m args below meth c cells slots Qf C hR hE ls H locs hw hl
  exact lv_ldcw C.1.1 C.1.2.1 C.1.2.2.2.1 (C.1.2.2.2.2 _ hc) hd (k p l e s m args below meth c cells slots Qf C hR hE ls H locs hw hl)
theorem j_ldc2 {idx : Nat} {v : Int64} (hc : Cond.constantLong (mO M) idx v ∈ lw_good) (hd : decode (mC M) pc = .ok (.ldc2_w idx, 3)) (k : J G M (pc + 3) L (.long v :: st) w Q) : J G M pc L st w Q := by
  intro p l e s m args below meth c cells slots Qf C hR hE ls H locs hw hl
  exact lv_ldc2 C.1.1 C.1.2.1 C.1.2.2.2.1 (C.1.2.2.2.2 _ hc) hd (k p l e s m args below meth c cells slots Qf C hR hE ls H locs hw hl)
theorem j_iload_n {k : Fin 4} {x : Int32} (hd : decode (mC M) pc = .ok (.iload_n k, 1)) (hg : lget L (k : Nat) = some (.int x)) (k2 : J G M (pc + 1) L (.int x :: st) w Q) : J G M pc L st w Q := by
  intro p l e s m args below meth c cells slots Qf C hR hE ls H locs hw hl
  exact lv_iload_n C.1.1 C.1.2.1 hd rfl (hl.2.2 _ _ hg) (k2 p l e s m args below meth c cells slots Qf C hR hE ls H locs hw hl)
theorem j_iload {i : Nat} {x : Int32} (hd : decode (mC M) pc = .ok (.iload i, 2)) (hg : lget L i = some (.int x)) (k2 : J G M (pc + 2) L (.int x :: st) w Q) : J G M pc L st w Q := by
  intro p l e s m args below meth c cells slots Qf C hR hE ls H locs hw hl
  exact lv_iload C.1.1 C.1.2.1 hd (hl.2.2 _ _ hg) (k2 p l e s m args below meth c cells slots Qf C hR hE ls H locs hw hl)
theorem j_lload_n {k : Fin 4} {x : Int64} (hd : decode (mC M) pc = .ok (.lload_n k, 1)) (hg : lget L (k : Nat) = some (.long x)) (k2 : J G M (pc + 1) L (.long x :: st) w Q) : J G M pc L st w Q := by
  intro p l e s m args below meth c cells slots Qf C hR hE ls H locs hw hl
  exact lv_lload_n C.1.1 C.1.2.1 hd rfl (hl.2.2 _ _ hg) (k2 p l e s m args below meth c cells slots Qf C hR hE ls H locs hw hl)
theorem j_lload {i : Nat} {x : Int64} (hd : decode (mC M) pc = .ok (.lload i, 2)) (hg : lget L i = some (.long x)) (k2 : J G M (pc + 2) L (.long x :: st) w Q) : J G M pc L st w Q := by
  intro p l e s m args below meth c cells slots Qf C hR hE ls H locs hw hl
  exact lv_lload C.1.1 C.1.2.1 hd (hl.2.2 _ _ hg) (k2 p l e s m args below meth c cells slots Qf C hR hE ls H locs hw hl)
theorem j_aload_n {k : Fin 4} {x : Nat} (hd : decode (mC M) pc = .ok (.aload_n k, 1)) (hg : lget L (k : Nat) = some (.ref x)) (k2 : J G M (pc + 1) L (.ref x :: st) w Q) : J G M pc L st w Q := by
  intro p l e s m args below meth c cells slots Qf C hR hE ls H locs hw hl
  exact lv_aload_n C.1.1 C.1.2.1 hd rfl (hl.2.2 _ _ hg) (k2 p l e s m args below meth c cells slots Qf C hR hE ls H locs hw hl)
theorem j_aload {i : Nat} {x : Nat} (hd : decode (mC M) pc = .ok (.aload i, 2)) (hg : lget L i = some (.ref x)) (k2 : J G M (pc + 2) L (.ref x :: st) w Q) : J G M pc L st w Q := by
  intro p l e s m args below meth c cells slots Qf C hR hE ls H locs hw hl
  exact lv_aload C.1.1 C.1.2.1 hd (hl.2.2 _ _ hg) (k2 p l e s m args below meth c cells slots Qf C hR hE ls H locs hw hl)
theorem j_aload_nN {k : Fin 4} (hd : decode (mC M) pc = .ok (.aload_n k, 1)) (hg : lget L (k : Nat) = some .null) (k2 : J G M (pc + 1) L (.null :: st) w Q) : J G M pc L st w Q := by
  intro p l e s m args below meth c cells slots Qf C hR hE ls H locs hw hl
  exact lv_aload_nN C.1.1 C.1.2.1 hd rfl (hl.2.2 _ _ hg) (k2 p l e s m args below meth c cells slots Qf C hR hE ls H locs hw hl)
theorem j_aloadN {i : Nat} (hd : decode (mC M) pc = .ok (.aload i, 2)) (hg : lget L i = some .null) (k2 : J G M (pc + 2) L (.null :: st) w Q) : J G M pc L st w Q := by
  intro p l e s m args below meth c cells slots Qf C hR hE ls H locs hw hl
  exact lv_aloadN C.1.1 C.1.2.1 hd (hl.2.2 _ _ hg) (k2 p l e s m args below meth c cells slots Qf C hR hE ls H locs hw hl)
theorem j_istore_n {k : Fin 4} {x : Int32} {L2 : List (Option Value)} (hd : decode (mC M) pc = .ok (.istore_n k, 1)) (hn : (k : Nat) < mN M) (hL : lst1 L (k : Nat) (.int x) = L2) (k2 : J G M (pc + 1) L2 st w Q) : J G M pc L (.int x :: st) w Q := by
  intro p l e s m args below meth c cells slots Qf C hR hE ls H locs hw hl
  subst hL
  exact lv_istore_n C.1.1 C.1.2.1 hd rfl hl.has hn rfl (fun ls2 hl2 => k2 p l e s m args below meth c cells slots Qf C hR hE ls2 H locs hw (Lh.st1 hl2))
theorem j_istore {i : Nat} {x : Int32} {L2 : List (Option Value)} (hd : decode (mC M) pc = .ok (.istore i, 2)) (hn : i < mN M) (hL : lst1 L i (.int x) = L2) (k2 : J G M (pc + 2) L2 st w Q) : J G M pc L (.int x :: st) w Q := by
  intro p l e s m args below meth c cells slots Qf C hR hE ls H locs hw hl
  subst hL
  exact lv_istore C.1.1 C.1.2.1 hd hl.has hn rfl (fun ls2 hl2 => k2 p l e s m args below meth c cells slots Qf C hR hE ls2 H locs hw (Lh.st1 hl2))
theorem j_astore_n {k : Fin 4} {x : Nat} {L2 : List (Option Value)} (hd : decode (mC M) pc = .ok (.astore_n k, 1)) (hn : (k : Nat) < mN M) (hL : lst1 L (k : Nat) (.ref x) = L2) (k2 : J G M (pc + 1) L2 st w Q) : J G M pc L (.ref x :: st) w Q := by
  intro p l e s m args below meth c cells slots Qf C hR hE ls H locs hw hl
  subst hL
  exact lv_astore_n C.1.1 C.1.2.1 hd rfl hl.has hn rfl (fun ls2 hl2 => k2 p l e s m args below meth c cells slots Qf C hR hE ls2 H locs hw (Lh.st1 hl2))
theorem j_astore {i : Nat} {x : Nat} {L2 : List (Option Value)} (hd : decode (mC M) pc = .ok (.astore i, 2)) (hn : i < mN M) (hL : lst1 L i (.ref x) = L2) (k2 : J G M (pc + 2) L2 st w Q) : J G M pc L (.ref x :: st) w Q := by
  intro p l e s m args below meth c cells slots Qf C hR hE ls H locs hw hl
  subst hL
  exact lv_astore C.1.1 C.1.2.1 hd hl.has hn rfl (fun ls2 hl2 => k2 p l e s m args below meth c cells slots Qf C hR hE ls2 H locs hw (Lh.st1 hl2))
theorem j_lstore_n {k : Fin 4} {x : Int64} {L2 : List (Option Value)} (hd : decode (mC M) pc = .ok (.lstore_n k, 1)) (hn : (k : Nat) + 1 < mN M) (hL : lst2 L (k : Nat) (.long x) = L2) (k2 : J G M (pc + 1) L2 st w Q) : J G M pc L (.long x :: st) w Q := by
  intro p l e s m args below meth c cells slots Qf C hR hE ls H locs hw hl
  subst hL
  exact lv_lstore_n C.1.1 C.1.2.1 hd rfl hl.has hn rfl (fun ls2 hl2 => k2 p l e s m args below meth c cells slots Qf C hR hE ls2 H locs hw (Lh.st2 hl2))
theorem j_lstore {i : Nat} {x : Int64} {L2 : List (Option Value)} (hd : decode (mC M) pc = .ok (.lstore i, 2)) (hn : i + 1 < mN M) (hL : lst2 L i (.long x) = L2) (k2 : J G M (pc + 2) L2 st w Q) : J G M pc L (.long x :: st) w Q := by
  intro p l e s m args below meth c cells slots Qf C hR hE ls H locs hw hl
  subst hL
  exact lv_lstore C.1.1 C.1.2.1 hd hl.has hn rfl (fun ls2 hl2 => k2 p l e s m args below meth c cells slots Qf C hR hE ls2 H locs hw (Lh.st2 hl2))
theorem j_astore_nN {k : Fin 4} {L2 : List (Option Value)} (hd : decode (mC M) pc = .ok (.astore_n k, 1)) (hn : (k : Nat) < mN M) (hL : lst1 L (k : Nat) .null = L2) (k2 : J G M (pc + 1) L2 st w Q) : J G M pc L (.null :: st) w Q := by
  intro p l e s m args below meth c cells slots Qf C hR hE ls H locs hw hl
  subst hL
  exact lv_astore_nN C.1.1 C.1.2.1 hd rfl hl.has hn rfl (fun ls2 hl2 => k2 p l e s m args below meth c cells slots Qf C hR hE ls2 H locs hw (Lh.st1 (v := .null) hl2))
theorem j_astoreN {i : Nat} {L2 : List (Option Value)} (hd : decode (mC M) pc = .ok (.astore i, 2)) (hn : i < mN M) (hL : lst1 L i .null = L2) (k2 : J G M (pc + 2) L2 st w Q) : J G M pc L (.null :: st) w Q := by
  intro p l e s m args below meth c cells slots Qf C hR hE ls H locs hw hl
  subst hL
  exact lv_astoreN C.1.1 C.1.2.1 hd hl.has hn rfl (fun ls2 hl2 => k2 p l e s m args below meth c cells slots Qf C hR hE ls2 H locs hw (Lh.st1 (v := .null) hl2))
theorem j_iinc {i : Nat} {n : Int} {x v : Int32} {L2 : List (Option Value)} (hd : decode (mC M) pc = .ok (.iinc i n, 3)) (hg : lget L i = some (.int x)) (hv : x + Int32.ofInt n = v) (hn : i < mN M) (hL : lst1 L i (.int v) = L2) (k2 : J G M (pc + 3) L2 st w Q) : J G M pc L st w Q := by
  intro p l e s m args below meth c cells slots Qf C hR hE ls H locs hw hl
  subst hL
  obtain ⟨q, hq⟩ := List.getElem?_of_mem (La_mem (G := G) hg)
  exact lv_iinc C.1.1 C.1.2.1 hd hl.has hq hv hn rfl (fun ls2 hl2 => k2 p l e s m args below meth c cells slots Qf C hR hE ls2 H locs hw (Lh.st1 (v := .int v) hl2))
theorem j_dup {a : Value} (hd : decode (mC M) pc = .ok (.dup, 1)) (hc : a.category = 1) (k : J G M (pc + 1) L (a :: a :: st) w Q) : J G M pc L (a :: st) w Q := by
  intro p l e s m args below meth c cells slots Qf C hR hE ls H locs hw hl
  exact lv_dup C.1.1 C.1.2.1 hd ((rv_cat _ _).trans hc) (k p l e s m args below meth c cells slots Qf C hR hE ls H locs hw hl)
theorem j_pop {a : Value} (hd : decode (mC M) pc = .ok (.pop, 1)) (hc : a.category = 1) (k : J G M (pc + 1) L (st) w Q) : J G M pc L (a :: st) w Q := by
  intro p l e s m args below meth c cells slots Qf C hR hE ls H locs hw hl
  exact lv_pop C.1.1 C.1.2.1 hd ((rv_cat _ _).trans hc) (k p l e s m args below meth c cells slots Qf C hR hE ls H locs hw hl)
theorem j_dup_x1 {a b : Value} (hd : decode (mC M) pc = .ok (.dup_x1, 1)) (hc : a.category = 1) (hc2 : b.category = 1) (k : J G M (pc + 1) L (a :: b :: a :: st) w Q) : J G M pc L (a :: b :: st) w Q := by
  intro p l e s m args below meth c cells slots Qf C hR hE ls H locs hw hl
  exact lv_dup_x1 C.1.1 C.1.2.1 hd ((rv_cat _ _).trans hc) ((rv_cat _ _).trans hc2) (k p l e s m args below meth c cells slots Qf C hR hE ls H locs hw hl)
theorem j_dup2 {a b : Value} (hd : decode (mC M) pc = .ok (.dup2, 1)) (hc : a.category = 1) (hc2 : b.category = 1) (k : J G M (pc + 1) L (a :: b :: a :: b :: st) w Q) : J G M pc L (a :: b :: st) w Q := by
  intro p l e s m args below meth c cells slots Qf C hR hE ls H locs hw hl
  exact lv_dup2_11 C.1.1 C.1.2.1 hd ((rv_cat _ _).trans hc) ((rv_cat _ _).trans hc2) (k p l e s m args below meth c cells slots Qf C hR hE ls H locs hw hl)
theorem j_if_eq {x : Int32} {off : Int} {tgt : Nat} (hd : decode (mC M) pc = .ok (.ifCond .eq off, 3)) (ht : (pc : Int) + off = (tgt : Int)) (kt : x = 0 → J G M tgt L st w Q) (kf : ¬ x = 0 → J G M (pc + 3) L st w Q) : J G M pc L (.int x :: st) w Q := by
  intro p l e s m args below meth c cells slots Qf C hR hE ls H locs hw hl
  exact lv_if_eq C.1.1 C.1.2.1 hd ht (fun h => kt h p l e s m args below meth c cells slots Qf C hR hE ls H locs hw hl) (fun h => kf h p l e s m args below meth c cells slots Qf C hR hE ls H locs hw hl)
theorem j_if_ne {x : Int32} {off : Int} {tgt : Nat} (hd : decode (mC M) pc = .ok (.ifCond .ne off, 3)) (ht : (pc : Int) + off = (tgt : Int)) (kt : ¬ x = 0 → J G M tgt L st w Q) (kf : x = 0 → J G M (pc + 3) L st w Q) : J G M pc L (.int x :: st) w Q := by
  intro p l e s m args below meth c cells slots Qf C hR hE ls H locs hw hl
  exact lv_if_ne C.1.1 C.1.2.1 hd ht (fun h => kt h p l e s m args below meth c cells slots Qf C hR hE ls H locs hw hl) (fun h => kf h p l e s m args below meth c cells slots Qf C hR hE ls H locs hw hl)
theorem j_if_lt {x : Int32} {off : Int} {tgt : Nat} (hd : decode (mC M) pc = .ok (.ifCond .lt off, 3)) (ht : (pc : Int) + off = (tgt : Int)) (kt : x < 0 → J G M tgt L st w Q) (kf : ¬ x < 0 → J G M (pc + 3) L st w Q) : J G M pc L (.int x :: st) w Q := by
  intro p l e s m args below meth c cells slots Qf C hR hE ls H locs hw hl
  exact lv_if_lt C.1.1 C.1.2.1 hd ht (fun h => kt h p l e s m args below meth c cells slots Qf C hR hE ls H locs hw hl) (fun h => kf h p l e s m args below meth c cells slots Qf C hR hE ls H locs hw hl)
theorem j_if_ge {x : Int32} {off : Int} {tgt : Nat} (hd : decode (mC M) pc = .ok (.ifCond .ge off, 3)) (ht : (pc : Int) + off = (tgt : Int)) (kt : 0 ≤ x → J G M tgt L st w Q) (kf : ¬ 0 ≤ x → J G M (pc + 3) L st w Q) : J G M pc L (.int x :: st) w Q := by
  intro p l e s m args below meth c cells slots Qf C hR hE ls H locs hw hl
  exact lv_if_ge C.1.1 C.1.2.1 hd ht (fun h => kt h p l e s m args below meth c cells slots Qf C hR hE ls H locs hw hl) (fun h => kf h p l e s m args below meth c cells slots Qf C hR hE ls H locs hw hl)
theorem j_if_gt {x : Int32} {off : Int} {tgt : Nat} (hd : decode (mC M) pc = .ok (.ifCond .gt off, 3)) (ht : (pc : Int) + off = (tgt : Int)) (kt : 0 < x → J G M tgt L st w Q) (kf : ¬ 0 < x → J G M (pc + 3) L st w Q) : J G M pc L (.int x :: st) w Q := by
  intro p l e s m args below meth c cells slots Qf C hR hE ls H locs hw hl
  exact lv_if_gt C.1.1 C.1.2.1 hd ht (fun h => kt h p l e s m args below meth c cells slots Qf C hR hE ls H locs hw hl) (fun h => kf h p l e s m args below meth c cells slots Qf C hR hE ls H locs hw hl)
theorem j_if_le {x : Int32} {off : Int} {tgt : Nat} (hd : decode (mC M) pc = .ok (.ifCond .le off, 3)) (ht : (pc : Int) + off = (tgt : Int)) (kt : x ≤ 0 → J G M tgt L st w Q) (kf : ¬ x ≤ 0 → J G M (pc + 3) L st w Q) : J G M pc L (.int x :: st) w Q := by
  intro p l e s m args below meth c cells slots Qf C hR hE ls H locs hw hl
  exact lv_if_le C.1.1 C.1.2.1 hd ht (fun h => kt h p l e s m args below meth c cells slots Qf C hR hE ls H locs hw hl) (fun h => kf h p l e s m args below meth c cells slots Qf C hR hE ls H locs hw hl)
theorem j_icmp_eq {x y : Int32} {off : Int} {tgt : Nat} (hd : decode (mC M) pc = .ok (.if_icmp .eq off, 3)) (ht : (pc : Int) + off = (tgt : Int)) (kt : x = y → J G M tgt L st w Q) (kf : ¬ x = y → J G M (pc + 3) L st w Q) : J G M pc L (.int y :: .int x :: st) w Q := by
  intro p l e s m args below meth c cells slots Qf C hR hE ls H locs hw hl
  exact lv_icmp_eq C.1.1 C.1.2.1 hd ht (fun h => kt h p l e s m args below meth c cells slots Qf C hR hE ls H locs hw hl) (fun h => kf h p l e s m args below meth c cells slots Qf C hR hE ls H locs hw hl)
theorem j_icmp_ne {x y : Int32} {off : Int} {tgt : Nat} (hd : decode (mC M) pc = .ok (.if_icmp .ne off, 3)) (ht : (pc : Int) + off = (tgt : Int)) (kt : ¬ x = y → J G M tgt L st w Q) (kf : x = y → J G M (pc + 3) L st w Q) : J G M pc L (.int y :: .int x :: st) w Q := by
  intro p l e s m args below meth c cells slots Qf C hR hE ls H locs hw hl
  exact lv_icmp_ne C.1.1 C.1.2.1 hd ht (fun h => kt h p l e s m args below meth c cells slots Qf C hR hE ls H locs hw hl) (fun h => kf h p l e s m args below meth c cells slots Qf C hR hE ls H locs hw hl)
theorem j_icmp_lt {x y : Int32} {off : Int} {tgt : Nat} (hd : decode (mC M) pc = .ok (.if_icmp .lt off, 3)) (ht : (pc : Int) + off = (tgt : Int)) (kt : x < y → J G M tgt L st w Q) (kf : ¬ x < y → J G M (pc + 3) L st w Q) : J G M pc L (.int y :: .int x :: st) w Q := by
  intro p l e s m args below meth c cells slots Qf C hR hE ls H locs hw hl
  exact lv_icmp_lt C.1.1 C.1.2.1 hd ht (fun h => kt h p l e s m args below meth c cells slots Qf C hR hE ls H locs hw hl) (fun h => kf h p l e s m args below meth c cells slots Qf C hR hE ls H locs hw hl)
theorem j_icmp_ge {x y : Int32} {off : Int} {tgt : Nat} (hd : decode (mC M) pc = .ok (.if_icmp .ge off, 3)) (ht : (pc : Int) + off = (tgt : Int)) (kt : y ≤ x → J G M tgt L st w Q) (kf : ¬ y ≤ x → J G M (pc + 3) L st w Q) : J G M pc L (.int y :: .int x :: st) w Q := by
  intro p l e s m args below meth c cells slots Qf C hR hE ls H locs hw hl
  exact lv_icmp_ge C.1.1 C.1.2.1 hd ht (fun h => kt h p l e s m args below meth c cells slots Qf C hR hE ls H locs hw hl) (fun h => kf h p l e s m args below meth c cells slots Qf C hR hE ls H locs hw hl)
theorem j_icmp_gt {x y : Int32} {off : Int} {tgt : Nat} (hd : decode (mC M) pc = .ok (.if_icmp .gt off, 3)) (ht : (pc : Int) + off = (tgt : Int)) (kt : y < x → J G M tgt L st w Q) (kf : ¬ y < x → J G M (pc + 3) L st w Q) : J G M pc L (.int y :: .int x :: st) w Q := by
  intro p l e s m args below meth c cells slots Qf C hR hE ls H locs hw hl
  exact lv_icmp_gt C.1.1 C.1.2.1 hd ht (fun h => kt h p l e s m args below meth c cells slots Qf C hR hE ls H locs hw hl) (fun h => kf h p l e s m args below meth c cells slots Qf C hR hE ls H locs hw hl)
theorem j_icmp_le {x y : Int32} {off : Int} {tgt : Nat} (hd : decode (mC M) pc = .ok (.if_icmp .le off, 3)) (ht : (pc : Int) + off = (tgt : Int)) (kt : x ≤ y → J G M tgt L st w Q) (kf : ¬ x ≤ y → J G M (pc + 3) L st w Q) : J G M pc L (.int y :: .int x :: st) w Q := by
  intro p l e s m args below meth c cells slots Qf C hR hE ls H locs hw hl
  exact lv_icmp_le C.1.1 C.1.2.1 hd ht (fun h => kt h p l e s m args below meth c cells slots Qf C hR hE ls H locs hw hl) (fun h => kf h p l e s m args below meth c cells slots Qf C hR hE ls H locs hw hl)
theorem j_goto {off : Int} {tgt : Nat} (hd : decode (mC M) pc = .ok (.goto off, 3)) (ht : (pc : Int) + off = (tgt : Int)) (k : J G M tgt L st w Q) : J G M pc L st w Q := by
  intro p l e s m args below meth c cells slots Qf C hR hE ls H locs hw hl
  exact lv_goto C.1.1 C.1.2.1 hd ht (k p l e s m args below meth c cells slots Qf C hR hE ls H locs hw hl)
theorem j_ifnonnull {x : Nat} {off : Int} {tgt : Nat} (hd : decode (mC M) pc = .ok (.ifnonnull off, 3)) (ht : (pc : Int) + off = (tgt : Int)) (k : J G M tgt L st w Q) : J G M pc L (.ref x :: st) w Q := by
  intro p l e s m args below meth c cells slots Qf C hR hE ls H locs hw hl
  exact lv_ifnonnull C.1.1 C.1.2.1 hd ht (k p l e s m args below meth c cells slots Qf C hR hE ls H locs hw hl)
theorem j_ifnonnullN {off : Int} (hd : decode (mC M) pc = .ok (.ifnonnull off, 3)) (k : J G M (pc + 3) L st w Q) : J G M pc L (.null :: st) w Q := by
  intro p l e s m args below meth c cells slots Qf C hR hE ls H locs hw hl
  exact lv_ifnonnullN C.1.1 C.1.2.1 hd (k p l e s m args below meth c cells slots Qf C hR hE ls H locs hw hl)
theorem j_ifnull {x : Nat} {off : Int} (hd : decode (mC M) pc = .ok (.ifnull off, 3)) (k : J G M (pc + 3) L st w Q) : J G M pc L (.ref x :: st) w Q := by
  intro p l e s m args below meth c cells slots Qf C hR hE ls H locs hw hl
  exact lv_ifnull C.1.1 C.1.2.1 hd (k p l e s m args below meth c cells slots Qf C hR hE ls H locs hw hl)
theorem j_ifnullN {off : Int} {tgt : Nat} (hd : decode (mC M) pc = .ok (.ifnull off, 3)) (ht : (pc : Int) + off = (tgt : Int)) (k : J G M tgt L st w Q) : J G M pc L (.null :: st) w Q := by
  intro p l e s m args below meth c cells slots Qf C hR hE ls H locs hw hl
  exact lv_ifnullN C.1.1 C.1.2.1 hd ht (k p l e s m args below meth c cells slots Qf C hR hE ls H locs hw hl)
theorem j_tableOut {dflt lo hi : Int} {offs : Array Int} {len : Nat} {x : Int32} {tgt : Nat} (hd : decode (mC M) pc = .ok (.tableswitch dflt lo hi offs, len)) (h : x.toInt < lo ∨ hi < x.toInt) (ht : (pc : Int) + dflt = (tgt : Int)) (k : J G M tgt L st w Q) : J G M pc L (.int x :: st) w Q := by
  intro p l e s m args below meth c cells slots Qf C hR hE ls H locs hw hl
  exact lv_tableOut C.1.1 C.1.2.1 hd h ht (k p l e s m args below meth c cells slots Qf C hR hE ls H locs hw hl)
theorem j_tableIn {dflt lo hi : Int} {offs : Array Int} {len : Nat} {x : Int32} {off : Int} {tgt : Nat} (hd : decode (mC M) pc = .ok (.tableswitch dflt lo hi offs, len)) (h1 : ¬ x.toInt < lo) (h2 : ¬ hi < x.toInt) (ho : offs[(x.toInt - lo).toNat]? = some off) (ht : (pc : Int) + off = (tgt : Int)) (k : J G M tgt L st w Q) : J G M pc L (.int x :: st) w Q := by
  intro p l e s m args below meth c cells slots Qf C hR hE ls H locs hw hl
  exact lv_tableIn C.1.1 C.1.2.1 hd h1 h2 ho ht (k p l e s m args below meth c cells slots Qf C hR hE ls H locs hw hl)
theorem j_lookup {dflt : Int} {ps : Array (Int × Int)} {len : Nat} {x : Int32} {off : Int} {tgt : Nat} (hd : decode (mC M) pc = .ok (.lookupswitch dflt ps, len)) (hp : (ps.toList.zip (ps.toList.drop 1)).all (fun (a, next) => a.1 < next.1) = true) (ho : Op.lookupswitch.offset ps.toList dflt x.toInt = off) (ht : (pc : Int) + off = (tgt : Int)) (k : J G M tgt L st w Q) : J G M pc L (.int x :: st) w Q := by
  intro p l e s m args below meth c cells slots Qf C hR hE ls H locs hw hl
  exact lv_lookup C.1.1 C.1.2.1 hd hp ho ht (k p l e s m args below meth c cells slots Qf C hR hE ls H locs hw hl)
/-! fields -/
def FL (own : String) (idx ci k : Nat) : Prop := ∃ (C : String) (T : u_T) (N : Nat), vwCl[ci]? = some (C, T, N) ∧ k < N ∧ (∀ w ∈ u_ws C T N, w ∈ lw_good) ∧ Cond.fieldLink own idx (T k).1 (T k).2.1 (T k).2.2.1 ∈ lw_good
theorem j_get {idx ci k a : Nat} {fs : List Value} {v : Value} (F : FL (mO M) idx ci k) (he : w[a]? = some (.inr (ci, fs))) (hv : fs[k]? = some v) (hd : decode (mC M) pc = .ok (.getfield idx, 3)) (kk : J G M (pc + 3) L (v :: st) w Q) : J G M pc L (.ref a :: st) w Q := by
  intro p l e s m args below meth c cells slots Qf C hR hE ls H locs hw hl
  obtain ⟨C1, T, N, f1, f2, f3, f4⟩ := F
  exact va_get (D := cD G) (ci := ci) (C := C1) (T := T) (N := N) C.1.1 C.1.2.1 C.1.2.2.2.2 f3 C.1.2.2.2.1 C.2.1 hw.1 a (rW_at he) f1 k f2 (C.1.2.2.2.2 _ f4) (fun _ h9 => h9) (v := rv (cz G) v) (by rw [List.getElem?_map, hv]; rfl) hd (kk p l e s m args below meth c cells slots Qf C hR hE ls H locs hw hl)
def FP (ci k : Nat) (ty : FieldType) : Prop := ∃ (C : String) (T : u_T) (N : Nat) (ty0 : Nat → FieldType), vwCl[ci]? = some (C, T, N) ∧ (∀ k, k < N → parseFieldDescriptor (T k).2.2.1 = some (ty0 k)) ∧ (∀ a, a < N → ∀ b, b < N → a ≠ b → (T a).2.1 ≠ (T b).2.1) ∧ (T k).2.2.2 = false ∧ parseFieldDescriptor (T k).2.2.1 = some ty
theorem rE_set {G : Cf} {ci k : Nat} {fs : List Value} {v : Value} : (Sum.inr (ci, (fs.map (rv (cz G))).set k (rv (cz G) v)) : va_E) = rE G (.inr (ci, fs.set k v)) := by
  show _ = Sum.inr (ci, (fs.set k v).map (rv (cz G)))
  rw [List.map_set]
theorem j_put {idx ci k a : Nat} {ty : FieldType} {fs : List Value} {v : Value} (F : FL (mO M) idx ci k) (F2 : FP ci k ty) (he : w[a]? = some (.inr (ci, fs))) (hl2 : k < fs.length) (hn : narrow ty (rv (cz G) v) = rv (cz G) v) (hfit : fits ty (rv (cz G) v) = true) (hd : decode (mC M) pc = .ok (.putfield idx, 3)) (kk : J G M (pc + 3) L st (w.set a (.inr (ci, fs.set k v))) Q) : J G M pc L (v :: .ref a :: st) w Q := by
  intro p l e s m args below meth c cells slots Qf C hR hE ls H locs hw hl
  obtain ⟨C1, T, N, f1, f2, f3, f4⟩ := F
  obtain ⟨C2, T2, N2, ty0, g1, g2, g3, g4, g5⟩ := F2
  cases f1.symm.trans g1
  refine va_put (D := cD G) (ci := ci) (C := C1) (T := T) (N := N) C.1.1 C.1.2.1 C.1.2.2.2.2 f3 ty0 g2 g3 C.1.2.2.2.1 C.2.1 hw.1 hw.2.1 hw.2.2 a (rW_at he) f1 k f2 (C.1.2.2.2.2 _ f4) (fun _ h9 => h9) g4 g5 hn hfit (by rw [List.length_map]; exact hl2) hd (fun H1 locs1 hP hD hS => ?_)
  rw [rE_set, rW_set] at hP hD
  exact kk p l e s m args below meth c cells slots Qf C hR hE ls H1 locs1 ⟨hP, hD, hS⟩ hl
theorem j_puti {idx ci k a : Nat} {fs : List Value} {x : Int32} (F : FL (mO M) idx ci k) (F2 : FP ci k .int) (he : w[a]? = some (.inr (ci, fs))) (hl2 : k < fs.length) (hd : decode (mC M) pc = .ok (.putfield idx, 3)) (kk : J G M (pc + 3) L st (w.set a (.inr (ci, fs.set k (.int x)))) Q) : J G M pc L (.int x :: .ref a :: st) w Q :=
  j_put F F2 he hl2 rfl rfl hd kk
theorem j_putl {idx ci k a : Nat} {fs : List Value} {x : Int64} (F : FL (mO M) idx ci k) (F2 : FP ci k .long) (he : w[a]? = some (.inr (ci, fs))) (hl2 : k < fs.length) (hd : decode (mC M) pc = .ok (.putfield idx, 3)) (kk : J G M (pc + 3) L st (w.set a (.inr (ci, fs.set k (.long x)))) Q) : J G M pc L (.long x :: .ref a :: st) w Q :=
  j_put F F2 he hl2 rfl rfl hd kk
def isB (x : Int32) : Prop := x = 0 ∨ x = 1
theorem j_putz {idx ci k a : Nat} {fs : List Value} {x : Int32} (F : FL (mO M) idx ci k) (F2 : FP ci k .boolean) (hx : isB x) (he : w[a]? = some (.inr (ci, fs))) (hl2 : k < fs.length) (hd : decode (mC M) pc = .ok (.putfield idx, 3)) (kk : J G M (pc + 3) L st (w.set a (.inr (ci, fs.set k (.int x)))) Q) : J G M pc L (.int x :: .ref a :: st) w Q :=
  j_put F F2 he hl2 (by rcases hx with rfl | rfl <;> rfl) (by rcases hx with rfl | rfl <;> rfl) hd kk
/-! arrays: ix i n k: the index i is the place k, below n -/
def ix (i : Int32) (n k : Nat) : Prop := vp_in i n ∧ i.toNatClampNeg = k
theorem ix_nI {k n : Nat} (h : k < n) (hn : n < 2 ^ 31) : ix (nI k) n k := ⟨vp_in_nI h hn, nI_clamp (Nat.lt_trans h hn)⟩
theorem ix_of {i : Int32} {n : Nat} (h : vp_in i n) : ix i n i.toNatClampNeg := ⟨h, rfl⟩
theorem j_iald {a n k : Nat} {f : Nat → Int32} {i : Int32} (he : w[a]? = some (.inl (0, n, .inl f))) (hi : ix i n k) (hd : decode (mC M) pc = .ok (.iaload, 1)) (kk : J G M (pc + 1) L (.int (f k) :: st) w Q) : J G M pc L (.int i :: .ref a :: st) w Q := by
  intro p l e s m args below meth c cells slots Qf C hR hE ls H locs hw hl
  obtain ⟨hi, rfl⟩ := hi
  exact va_iald (D := cD G) C.1.1 C.1.2.1 C.2.1 hw.1 a 0 (rW_at he) rfl hi hd (kk p l e s m args below meth c cells slots Qf C hR hE ls H locs hw hl)
theorem j_zald {a n k : Nat} {f : Nat → Int32} {i : Int32} (he : w[a]? = some (.inl (2, n, .inl f))) (hi : ix i n k) (hd : decode (mC M) pc = .ok (.baload, 1)) (kk : J G M (pc + 1) L (.int (f k) :: st) w Q) : J G M pc L (.int i :: .ref a :: st) w Q := by
  intro p l e s m args below meth c cells slots Qf C hR hE ls H locs hw hl
  obtain ⟨hi, rfl⟩ := hi
  exact va_zald (D := cD G) C.1.1 C.1.2.1 C.2.1 hw.1 a 2 (rW_at he) rfl hi hd (kk p l e s m args below meth c cells slots Qf C hR hE ls H locs hw hl)
theorem j_lald {a n k : Nat} {f : Nat → Int64} {i : Int32} (he : w[a]? = some (.inl (1, n, .inr (.inl f)))) (hi : ix i n k) (hd : decode (mC M) pc = .ok (.laload, 1)) (kk : J G M (pc + 1) L (.long (f k) :: st) w Q) : J G M pc L (.int i :: .ref a :: st) w Q := by
  intro p l e s m args below meth c cells slots Qf C hR hE ls H locs hw hl
  obtain ⟨hi, rfl⟩ := hi
  exact va_lald (D := cD G) C.1.1 C.1.2.1 C.2.1 hw.1 a 1 (rW_at he) rfl hi hd (kk p l e s m args below meth c cells slots Qf C hR hE ls H locs hw hl)
theorem j_iast {a n k : Nat} {f : Nat → Int32} {i x : Int32} (he : w[a]? = some (.inl (0, n, .inl f))) (hi : ix i n k) (hd : decode (mC M) pc = .ok (.iastore, 1)) (kk : J G M (pc + 1) L st (w.set a (.inl (0, n, .inl (upd f k x)))) Q) : J G M pc L (.int x :: .int i :: .ref a :: st) w Q := by
  intro p l e s m args below meth c cells slots Qf C hR hE ls H locs hw hl
  obtain ⟨hi, rfl⟩ := hi
  refine va_iast (D := cD G) C.1.1 C.1.2.1 C.2.1 hw.1 hw.2.1 hw.2.2 a 0 (rW_at he) rfl hi hd (fun H1 locs1 hP hD hS => ?_)
  exact kk p l e s m args below meth c cells slots Qf C hR hE ls H1 locs1 ⟨rW_set (e := .inl (0, n, .inl (upd f i.toNatClampNeg x))) ▸ hP, rW_set (e := .inl (0, n, .inl (upd f i.toNatClampNeg x))) ▸ hD, hS⟩ hl
theorem j_last {a n k : Nat} {f : Nat → Int64} {i : Int32} {x : Int64} (he : w[a]? = some (.inl (1, n, .inr (.inl f)))) (hi : ix i n k) (hd : decode (mC M) pc = .ok (.lastore, 1)) (kk : J G M (pc + 1) L st (w.set a (.inl (1, n, .inr (.inl (vp_updL f k x))))) Q) : J G M pc L (.long x :: .int i :: .ref a :: st) w Q := by
  intro p l e s m args below meth c cells slots Qf C hR hE ls H locs hw hl
  obtain ⟨hi, rfl⟩ := hi
  refine va_last (D := cD G) C.1.1 C.1.2.1 C.2.1 hw.1 hw.2.1 hw.2.2 a 1 (rW_at he) rfl hi hd (fun H1 locs1 hP hD hS => ?_)
  exact kk p l e s m args below meth c cells slots Qf C hR hE ls H1 locs1 ⟨rW_set (e := .inl (1, n, .inr (.inl (vp_updL f i.toNatClampNeg x)))) ▸ hP, rW_set (e := .inl (1, n, .inr (.inl (vp_updL f i.toNatClampNeg x)))) ▸ hD, hS⟩ hl
theorem nar_b {x : Int32} (hx : isB x) : vp_nar .boolean x = x := by rcases hx with rfl | rfl <;> decide
theorem j_zast {a n k : Nat} {f : Nat → Int32} {i x : Int32} (he : w[a]? = some (.inl (2, n, .inl f))) (hi : ix i n k) (hx : isB x) (hd : decode (mC M) pc = .ok (.bastore, 1)) (kk : J G M (pc + 1) L st (w.set a (.inl (2, n, .inl (upd f k x)))) Q) : J G M pc L (.int x :: .int i :: .ref a :: st) w Q := by
  intro p l e s m args below meth c cells slots Qf C hR hE ls H locs hw hl
  obtain ⟨hi, rfl⟩ := hi
  refine va_zast (D := cD G) C.1.1 C.1.2.1 C.2.1 hw.1 hw.2.1 hw.2.2 a 2 (rW_at he) rfl hi hd (fun H1 locs1 hP hD hS => ?_)
  rw [nar_b hx] at hP hD
  exact kk p l e s m args below meth c cells slots Qf C hR hE ls H1 locs1 ⟨rW_set (e := .inl (2, n, .inl (upd f i.toNatClampNeg x))) ▸ hP, rW_set (e := .inl (2, n, .inl (upd f i.toNatClampNeg x))) ▸ hD, hS⟩ hl
theorem j_aald {a n k b : Nat} {f : Nat → Option Nat} {i : Int32} (he : w[a]? = some (.inl (3, n, .inr (.inr (.inr (.inr f)))))) (hi : ix i n k) (hb : f k = some b) (hd : decode (mC M) pc = .ok (.aaload, 1)) (kk : J G M (pc + 1) L (.ref b :: st) w Q) : J G M pc L (.int i :: .ref a :: st) w Q := by
  intro p l e s m args below meth c cells slots Qf C hR hE ls H locs hw hl
  obtain ⟨hi, rfl⟩ := hi
  refine va_aldq (D := cD G) (C := RX3) C.1.1 C.1.2.1 C.2.1 hw.1 a 3 (rW_at he) rfl hi hd ?_
  rw [hb]
  exact kk p l e s m args below meth c cells slots Qf C hR hE ls H locs hw hl
/-! the table of kinds, the script -/
theorem j_ka {idx : Nat} (hk : Cond.fieldLink (mO M) idx RX5 "KIND_ABOVE" "[I" ∈ lw_good) (hd : decode (mC M) pc = .ok (.getstatic idx, 3)) (kk : J G M (pc + 3) L (.ref 3000 :: st) w Q) : J G M pc L st w Q := by
  intro p l e s m args below meth c cells slots Qf C hR hE ls H locs hw hl
  exact va_gets C.1.1 C.1.2.1 C.2.2.2.2.1 hw.2.2 C.1.2.2.2.1 (C.1.2.2.2.2 _ hk) (fun _ h => h) hd (kk p l e s m args below meth c cells slots Qf C hR hE ls H locs hw hl)
theorem j_kald {k : Nat} {i : Int32} (hi : ix i 6 k) (hd : decode (mC M) pc = .ok (.iaload, 1)) (kk : J G M (pc + 1) L (.int (kaf k) :: st) w Q) : J G M pc L (.int i :: .ref 3000 :: st) w Q := by
  intro p l e s m args below meth c cells slots Qf C hR hE ls H locs hw hl
  obtain ⟨hi, rfl⟩ := hi
  exact va_ti C.1.1 C.1.2.1 C.2.2.2.2.2.1 hw.2.2 hi rfl hd (kk p l e s m args below meth c cells slots Qf C hR hE ls H locs hw hl)
theorem j_slen (hd : decode (mC M) pc = .ok (.arraylength, 1)) (kk : J G M (pc + 1) L (.int (nI (cL G)) :: st) w Q) : J G M pc L (.ref 4000 :: st) w Q := by
  intro p l e s m args below meth c cells slots Qf C hR hE ls H locs hw hl
  exact va_tlen C.1.1 C.1.2.1 C.2.2.2.2.2.2.2.2 hw.2.2 rfl hd (kk p l e s m args below meth c cells slots Qf C hR hE ls H locs hw hl)
theorem j_sald {k : Nat} {i : Int32} (hi : ix i (cL G) k) (hd : decode (mC M) pc = .ok (.iaload, 1)) (kk : J G M (pc + 1) L (.int (cX G k) :: st) w Q) : J G M pc L (.int i :: .ref 4000 :: st) w Q := by
  intro p l e s m args below meth c cells slots Qf C hR hE ls H locs hw hl
  obtain ⟨hi, rfl⟩ := hi
  exact va_ti C.1.1 C.1.2.1 C.2.2.2.2.2.2.2.2 hw.2.2 hi rfl hd (kk p l e s m args below meth c cells slots Qf C hR hE ls H locs hw hl)
/-! ends -/
theorem j_iret {v : Int32} {ty : FieldType} (hd : decode (mC M) pc = .ok (.ireturn, 1)) (hr : mT M = some ty) (hn : narrow ty (.int v) = .int v) (hq : Q (some (.int v)) w) : J G M pc L [.int v] w Q := by
  intro p l e s m args below meth c cells slots Qf C hR hE ls H locs hw hl
  exact hE pc ls H locs (some (.int v)) w hq ⟨hd, ty, hr, hn⟩ hw
theorem j_zret {v : Int32} (hd : decode (mC M) pc = .ok (.ireturn, 1)) (hr : mT M = some .boolean) (hx : isB v) (hq : Q (some (.int v)) w) : J G M pc L [.int v] w Q :=
  j_iret hd hr (by rcases hx with rfl | rfl <;> rfl) hq
theorem j_lret {v : Int64} (hd : decode (mC M) pc = .ok (.lreturn, 1)) (hr : mT M = some .long) (hq : Q (some (.long v)) w) : J G M pc L [.long v] w Q := by
  intro p l e s m args below meth c cells slots Qf C hR hE ls H locs hw hl
  exact hE pc ls H locs (some (.long v)) w hq ⟨hd, hr⟩ hw
theorem j_aret {v : Nat} {n : String} (hd : decode (mC M) pc = .ok (.areturn, 1)) (hr : mT M = some (.object n)) (hq : Q (some (.ref v)) w) : J G M pc L [.ref v] w Q := by
  intro p l e s m args below meth c cells slots Qf C hR hE ls H locs hw hl
  exact hE pc ls H locs (some (.ref v)) w hq ⟨hd, n, hr⟩ hw
theorem j_aretN {n : String} (hd : decode (mC M) pc = .ok (.areturn, 1)) (hr : mT M = some (.object n)) (hq : Q (some .null) w) : J G M pc L [.null] w Q := by
  intro p l e s m args below meth c cells slots Qf C hR hE ls H locs hw hl
  exact hE pc ls H locs (some .null) w hq ⟨hd, n, hr⟩ hw
theorem j_vret (hd : decode (mC M) pc = .ok (.return_, 1)) (hr : mT M = none) (hq : Q none w) : J G M pc L [] w Q := by
  intro p l e s m args below meth c cells slots Qf C hR hE ls H locs hw hl
  exact hE pc ls H locs none w hq ⟨hd, hr⟩ hw
theorem J.mono {Q2 : QW} (h : ∀ v u, Q v u → Q2 v u) (k : J G M pc L st w Q) : J G M pc L st w Q2 := by
  intro p l e s m args below meth c cells slots Qf C hR hE ls H locs hw hl
  exact k p l e s m args below meth c cells slots Qf C hR (fun pc ls H locs v u hq => hE pc ls H locs v u (h v u hq)) ls H locs hw hl
/-! calls -/
theorem j_run {Q' : QW} {rest : List Value}
    (hrun : ∀ (p : Program) (l : Launch) (e : Env) (s : State) (m : MethodId) (args : Array Value) (below : List Frame) (meth : Method) (c : Code) (cells slots : Nat) (ls : Array Slot) (H : Heap) (locs : List Loc), Cx G M p s m args c → (cells ≤ (mR M).cells ∧ slots ≤ (mR M).slots) → WH G s H locs w → Lh G ls (mN M) L →
      ∃ a : Array Value, va_Run p l e (mR M) s m args below meth c H locs cells slots 0 0 (F0 m pc ls (st.map (rv (cz G)))) (rest.map (rv (cz G))) (QG G Q' a) (cA G))
    (kk : ∀ v u, Q' v u → J G M (pc + 3) L (v.toList ++ rest) u Q) : J G M pc L st w Q := by
  intro p l e s m args below meth c cells slots Qf C hR hE ls H locs hw hl
  intro T hT X
  obtain ⟨a, hr⟩ := hrun p l e s m args below meth c cells slots ls H locs C hR hw hl
  obtain ⟨v, st₀, t, T', Lx, h0, X', hL, e1, e2, ⟨⟨v', u, hv, hq, hP, hD⟩, hz, hk⟩, stp⟩ := hr T hT X
  have hv : v = v'.map (rv (cz G)) := by injection hv
  subst hv
  rw [h0] at hz hk
  have hS := hw.2.2
  have hS1 : va_S (cA G) s.heap T'.heap (locs ++ Lx) := ⟨Nat.le_trans hS.1 (by rw [e1]; exact hz), fun q h1 h2 => by rw [e1, hk q (Nat.lt_of_lt_of_le h1 hS.1) h2]; exact hS.2.1 q h1 h2, fun q hq => by
      rcases List.mem_append.mp hq with h | h
      · exact hS.2.2 q h
      · exact hL q h⟩
  obtain ⟨t2, a1, b1⟩ := kk v' u hq p l e s m args below meth c cells slots Qf C hR hE ls T'.heap (locs ++ Lx) ⟨by rw [e1]; exact hP, hD, hS1⟩ hl T' rfl X'
  refine ⟨t2, stp t2 ?_, b1⟩
  have es : (v'.toList ++ rest).map (rv (cz G)) = (v'.map (rv (cz G))).toList ++ rest.map (rv (cz G)) := by
    cases v' <;> simp
  rw [es] at a1
  exact a1
theorem lw_goodAll {y : MethodName} {cc : ByteArray} {n : Nat} {r : Option FieldType} (hc : Cond.code y cc n r ∈ lw_good) : GoodIn lw_good (Cond.code y cc n r :: lw_good) := by
  intro w hw
  have h : w ∈ lw_good := by
    rcases List.mem_cons.mp hw with rfl | h
    · exact hc
    · exact h
  exact ⟨h, good_of_word (List.mem_filter.mp h).2⟩
def MV (M' : MI) (n : Nat) : Prop := Cond.code (mY M') (mC M') (mN M') (mT M') ∈ lw_good ∧ Cond.initialized (mO M') ∈ lw_good ∧ (mR M').cells = 0 ∧ (mR M').slots = 0 ∧ (mY M').cls = mO M' ∧ (mY M').cls ≠ "java/lang/invoke/MethodHandle" ∧ (mY M').cls ≠ "java/lang/invoke/VarHandle" ∧ (parseMethodDescriptor (mY M').desc).map (fun d => d.parameters.length) = some n
def MVV (M' : MI) (n : Nat) : Prop := MV M' n ∧ Cond.instanceMethod (mY M') ∈ lw_good ∧ Cond.selects (mO M') (mY M') (mY M') ∈ lw_good
def MVS (M' : MI) (n : Nat) : Prop := MV M' n ∧ Cond.static (mY M') ∈ lw_good
def rOK (M' M : MI) : Prop := (mR M').frames + 1 ≤ (mR M).frames ∧ 8 + (mN M' + 11) + (mR M').locals ≤ (mR M).locals
theorem GW.pre {s U : State} {H : Heap} {locs : List Loc} {p : Program} {m : MethodId} {args : Array Value} {c : Code} (C : Cx G M p s m args c) (hw : WH G s H locs w) (hU : U.heap = H) (hW : s.WarmedH U.vm) : GW G w U :=
  ⟨by rw [hU]; exact hw.1, hw.2.1, va_K.moved hW.alike C.2.1, by rw [hU]; exact (Ex.warm hW C.2.2).kept hw.2.2.2.1⟩
theorem GW.blind (as : List Value) : FrameBlind (va_Pc as (GW G w)) := by
  intro a U g mk h
  obtain ⟨h1, h2, h3, h4, h5⟩ := h
  exact ⟨h1, h2, h3, va_K.moved (u := U) (U := U.calling g mk a) (Vm.Alike.refl U.vm) h4, Ex.same (u := U) (U := U.calling g mk a) rfl h5⟩
theorem cat_rv (z : Nat → Nat) (l : List Value) : ((l.map (rv z)).map fun v => v.category) = l.map fun v => v.category := by
  rw [List.map_map]
  exact List.map_congr_left (fun v _ => rv_cat z v)
theorem j_callV {M' : MI} {n idx b ci : Nat} {as rest fs} {q : vw_C} {Q' : QW} (hM : MVV M' n) (hk : Cond.methodLink (mO M) idx (mY M') ∈ lw_good) (hr : rOK M' M) (hD : Does G M' (.ref b :: as) w Q') (he : w[b]? = some (.inr (ci, fs))) (hc : vwCl[ci]? = some q) (hq : q.1 = mO M') (hn : as.length = n) (hst : as.reverse ++ .ref b :: rest = st) (hcat : (rest.map fun v => v.category).sum ≤ 8) (hd : decode (mC M) pc = .ok (.invokevirtual idx, 3))
    (kk : ∀ v u, Q' v u → J G M (pc + 3) L (v.toList ++ rest) u Q) : J G M pc L st w Q := by
  refine j_run ?_ kk
  intro p l e s m args below meth c cells slots ls H locs C hR hw hl
  obtain ⟨⟨m1, m2, m3, m4, m5, m6, m7, m8⟩, m9, m10⟩ := hM
  have ht := C.1.2.2.2.2
  subst hst
  refine ⟨((Value.ref b :: as).map (rv (cz G))).toArray, ?_⟩
  have hrec := va_recv C.2.1 hw.1 hc (rW_at he)
  rw [hq] at hrec
  refine va_runV (C := mO M') (As := as.map (rv (cz G))) (rest := rest.map (rv (cz G))) C.1 (hD l) ⟨callB_of n ht (lw_goodAll m1) rfl m3 m4 (by rw [m5]; exact ht _ m2) (ht _ hk) ⟨m6, m7, m8⟩ hr, ht _ m9, ht _ m10⟩ ⟨GW.blind _, hrec, fun U hU hW => ⟨rfl, GW.pre C hw hU hW⟩⟩ rfl (by rw [List.length_map]; exact hn) hl.1 (by simp [rv]) (by rw [cat_rv]; exact lv_room (m := m) (pc := pc) (ls := ls) (rest := []) hcat) hd ⟨hR.1, hR.2⟩
theorem j_callS {M' : MI} {n idx : Nat} {as rest} {Q' : QW} (hM : MVS M' n) (hk : Cond.methodLink (mO M) idx (mY M') ∈ lw_good) (hr : rOK M' M) (hD : Does G M' as w Q') (hn : as.length = n) (hst : as.reverse ++ rest = st) (hcat : (rest.map fun v => v.category).sum ≤ 8) (hd : decode (mC M) pc = .ok (.invokestatic idx, 3))
    (kk : ∀ v u, Q' v u → J G M (pc + 3) L (v.toList ++ rest) u Q) : J G M pc L st w Q := by
  refine j_run ?_ kk
  intro p l e s m args below meth c cells slots ls H locs C hR hw hl
  obtain ⟨⟨m1, m2, m3, m4, m5, m6, m7, m8⟩, m9⟩ := hM
  have ht := C.1.2.2.2.2
  subst hst
  refine ⟨(as.map (rv (cz G))).toArray, ?_⟩
  refine va_runS (As := as.map (rv (cz G))) (rest := rest.map (rv (cz G))) C.1 (hD l) ⟨callB_of n ht (lw_goodAll m1) rfl m3 m4 (by rw [m5]; exact ht _ m2) (ht _ hk) ⟨m6, m7, m8⟩ hr, ht _ m9⟩ ⟨GW.blind _, fun U hU hW => ⟨rfl, GW.pre C hw hU hW⟩⟩ rfl (by rw [List.length_map]; exact hn) hl.1 (by simp) (by rw [cat_rv]; exact lv_room (m := m) (pc := pc) (ls := ls) (rest := []) hcat) hd ⟨hR.1, hR.2⟩
theorem j_cV {M' : MI} {n idx b ci : Nat} {as rest fs} {q : vw_C} {r : Value} {u : Wd} (hM : MVV M' n) (hk : Cond.methodLink (mO M) idx (mY M') ∈ lw_good) (hr : rOK M' M) (hD : Does G M' (.ref b :: as) w (Is (some r) u)) (he : w[b]? = some (.inr (ci, fs))) (hc : vwCl[ci]? = some q) (hq : q.1 = mO M') (hn : as.length = n) (hst : as.reverse ++ .ref b :: rest = st) (hcat : (rest.map fun v => v.category).sum ≤ 8) (hd : decode (mC M) pc = .ok (.invokevirtual idx, 3))
    (kk : J G M (pc + 3) L (r :: rest) u Q) : J G M pc L st w Q :=
  j_callV hM hk hr hD he hc hq hn hst hcat hd (fun v u2 h => by obtain ⟨rfl, rfl⟩ := h; exact kk)
theorem j_cVv {M' : MI} {n idx b ci : Nat} {as rest fs} {q : vw_C} {u : Wd} (hM : MVV M' n) (hk : Cond.methodLink (mO M) idx (mY M') ∈ lw_good) (hr : rOK M' M) (hD : Does G M' (.ref b :: as) w (Is none u)) (he : w[b]? = some (.inr (ci, fs))) (hc : vwCl[ci]? = some q) (hq : q.1 = mO M') (hn : as.length = n) (hst : as.reverse ++ .ref b :: rest = st) (hcat : (rest.map fun v => v.category).sum ≤ 8) (hd : decode (mC M) pc = .ok (.invokevirtual idx, 3))
    (kk : J G M (pc + 3) L rest u Q) : J G M pc L st w Q :=
  j_callV hM hk hr hD he hc hq hn hst hcat hd (fun v u2 h => by obtain ⟨rfl, rfl⟩ := h; exact kk)
theorem j_cS {M' : MI} {n idx : Nat} {as rest} {r : Value} {u : Wd} (hM : MVS M' n) (hk : Cond.methodLink (mO M) idx (mY M') ∈ lw_good) (hr : rOK M' M) (hD : Does G M' as w (Is (some r) u)) (hn : as.length = n) (hst : as.reverse ++ rest = st) (hcat : (rest.map fun v => v.category).sum ≤ 8) (hd : decode (mC M) pc = .ok (.invokestatic idx, 3))
    (kk : J G M (pc + 3) L (r :: rest) u Q) : J G M pc L st w Q :=
  j_callS hM hk hr hD hn hst hcat hd (fun v u2 h => by obtain ⟨rfl, rfl⟩ := h; exact kk)
/-! Math.max, Math.min, System.arraycopy -/
theorem j_max {idx : Nat} {x y : Int32} (hk : Cond.methodLink (mO M) idx Lib.Math.max.name ∈ lw_good) (h1 : Cond.static Lib.Math.max.name ∈ lw_good) (h2 : Cond.initialized "java/lang/Math" ∈ lw_good) (h3 : Cond.code Lib.Math.max.name Lib.Math.max.code 2 (some .int) ∈ lw_good) (hf : 1 ≤ (mR M).frames) (hlo : (st.map fun v => v.category).sum + 13 ≤ (mR M).locals) (hd : decode (mC M) pc = .ok (.invokestatic idx, 3)) (k : J G M (pc + 3) L (.int (if x < y then y else x) :: st) w Q) : J G M pc L (.int y :: .int x :: st) w Q := by
  intro p l e s m args below meth c cells slots Qf C hR hE ls H locs hw hl
  have ht := C.1.2.2.2.2
  exact va_mmax C.1.1 C.1.2.1 (C.1.2.2.1.trans hl.1.symm) C.1.2.2.2.1 (ht _ hk) (ht _ h1) (ht _ h2) (ht _ h3) hf (by rw [cat_rv]; exact hlo) hR.1 hR.2 hd (k p l e s m args below meth c cells slots Qf C hR hE ls H locs hw hl)
theorem j_min {idx : Nat} {x y : Int32} (hk : Cond.methodLink (mO M) idx Lib.Math.min.name ∈ lw_good) (h1 : Cond.static Lib.Math.min.name ∈ lw_good) (h2 : Cond.initialized "java/lang/Math" ∈ lw_good) (h3 : Cond.code Lib.Math.min.name Lib.Math.min.code 2 (some .int) ∈ lw_good) (hf : 1 ≤ (mR M).frames) (hlo : (st.map fun v => v.category).sum + 13 ≤ (mR M).locals) (hd : decode (mC M) pc = .ok (.invokestatic idx, 3)) (k : J G M (pc + 3) L (.int (if y < x then y else x) :: st) w Q) : J G M pc L (.int y :: .int x :: st) w Q := by
  intro p l e s m args below meth c cells slots Qf C hR hE ls H locs hw hl
  have ht := C.1.2.2.2.2
  exact va_mmin C.1.1 C.1.2.1 (C.1.2.2.1.trans hl.1.symm) C.1.2.2.2.1 (ht _ hk) (ht _ h1) (ht _ h2) (ht _ h3) hf (by rw [cat_rv]; exact hlo) hR.1 hR.2 hd (k p l e s m args below meth c cells slots Qf C hR hE ls H locs hw hl)
theorem j_copyi {idx a0 a n0 n1 : Nat} {f g : Nat → Int32} {sp dp n : Int32} (hk : Cond.methodLink (mO M) idx arraycopyName ∈ lw_good) (h1 : Cond.native arraycopyName ∈ lw_good) (h2 : Cond.static arraycopyName ∈ lw_good) (h3 : Cond.initialized "java/lang/System" ∈ lw_good) (he0 : w[a0]? = some (.inl (0, n0, .inl f))) (he1 : w[a]? = some (.inl (0, n1, .inl g))) (g1 : ¬ sp < 0) (g2 : ¬ dp < 0) (g3 : ¬ n < 0) (g4 : sp.toNatClampNeg + n.toNatClampNeg ≤ n0) (g5 : dp.toNatClampNeg + n.toNatClampNeg ≤ n1) (hf : 1 ≤ (mR M).frames) (hlo : (st.map fun v => v.category).sum + (nativeFrameWords "java/lang/System" "arraycopy" 5 + 11) ≤ (mR M).locals) (hd : decode (mC M) pc = .ok (.invokestatic idx, 3))
    (k : J G M (pc + 3) L st (w.set a (.inl (0, n1, .inl (va_cpy f g sp.toNatClampNeg dp.toNatClampNeg n.toNatClampNeg)))) Q) : J G M pc L (.int n :: .int dp :: .ref a :: .int sp :: .ref a0 :: st) w Q := by
  intro p l e s m args below meth c cells slots Qf C hR hE ls H locs hw hl
  have ht := C.1.2.2.2.2
  refine va_copyi (D := cD G) (ty := .int) C.1.1 C.1.2.1 (C.1.2.2.1.trans hl.1.symm) C.1.2.2.2.1 (ht _ hk) (ht _ h1) (ht _ h2) (ht _ h3) C.2.1 hw.1 hw.2.1 hw.2.2 a0 a 0 0 (rW_at he0) (rW_at he1) rfl rfl rfl g1 g2 g3 g4 g5 (fun _ _ => rfl) hf (by rw [cat_rv]; exact hlo) hd (fun H1 locs1 hP hD hS => ?_)
  exact k p l e s m args below meth c cells slots Qf C hR hE ls H1 locs1 ⟨rW_set (e := .inl (0, n1, .inl (va_cpy f g sp.toNatClampNeg dp.toNatClampNeg n.toNatClampNeg))) ▸ hP, rW_set (e := .inl (0, n1, .inl (va_cpy f g sp.toNatClampNeg dp.toNatClampNeg n.toNatClampNeg))) ▸ hD, hS⟩ hl
theorem j_copyl {idx a0 a n0 n1 : Nat} {f g : Nat → Int64} {sp dp n : Int32} (hk : Cond.methodLink (mO M) idx arraycopyName ∈ lw_good) (h1 : Cond.native arraycopyName ∈ lw_good) (h2 : Cond.static arraycopyName ∈ lw_good) (h3 : Cond.initialized "java/lang/System" ∈ lw_good) (he0 : w[a0]? = some (.inl (1, n0, .inr (.inl f)))) (he1 : w[a]? = some (.inl (1, n1, .inr (.inl g)))) (g1 : ¬ sp < 0) (g2 : ¬ dp < 0) (g3 : ¬ n < 0) (g4 : sp.toNatClampNeg + n.toNatClampNeg ≤ n0) (g5 : dp.toNatClampNeg + n.toNatClampNeg ≤ n1) (hf : 1 ≤ (mR M).frames) (hlo : (st.map fun v => v.category).sum + (nativeFrameWords "java/lang/System" "arraycopy" 5 + 11) ≤ (mR M).locals) (hd : decode (mC M) pc = .ok (.invokestatic idx, 3))
    (k : J G M (pc + 3) L st (w.set a (.inl (1, n1, .inr (.inl (va_cpy f g sp.toNatClampNeg dp.toNatClampNeg n.toNatClampNeg))))) Q) : J G M pc L (.int n :: .int dp :: .ref a :: .int sp :: .ref a0 :: st) w Q := by
  intro p l e s m args below meth c cells slots Qf C hR hE ls H locs hw hl
  have ht := C.1.2.2.2.2
  refine va_copyl (D := cD G) (ty := .long) C.1.1 C.1.2.1 (C.1.2.2.1.trans hl.1.symm) C.1.2.2.2.1 (ht _ hk) (ht _ h1) (ht _ h2) (ht _ h3) C.2.1 hw.1 hw.2.1 hw.2.2 a0 a 1 1 (rW_at he0) (rW_at he1) rfl rfl rfl g1 g2 g3 g4 g5 (fun _ _ => rfl) hf (by rw [cat_rv]; exact hlo) hd (fun H1 locs1 hP hD hS => ?_)
  exact k p l e s m args below meth c cells slots Qf C hR hE ls H1 locs1 ⟨rW_set (e := .inl (1, n1, .inr (.inl (va_cpy f g sp.toNatClampNeg dp.toNatClampNeg n.toNatClampNeg)))) ▸ hP, rW_set (e := .inl (1, n1, .inr (.inl (va_cpy f g sp.toNatClampNeg dp.toNatClampNeg n.toNatClampNeg)))) ▸ hD, hS⟩ hl
end JRows
end
