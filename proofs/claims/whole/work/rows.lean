section
-- ===== PART A: goes FIRST, ahead of the names: the tables' words, and 'selects' of the private methods out of them =====
/-- a private method of a class that the tables say can be made, by its rows of tables_1 -/
def lw_okq (q : MethodName × Nat) : Prop := (q.1.cls ≠ "java/lang/invoke/MethodHandle" ∧ q.1.cls ≠ "java/lang/invoke/VarHandle") ∧ Cond.instantiable q.1.cls q.2 ∈ tables_1 ∧ Cond.privateMethod q.1 ∈ tables_1 ∧ Cond.instanceMethod q.1 ∈ tables_1
theorem lw_p0 : lw_okq (⟨"DripsOnBelow", "refuse", "(I)I"⟩, 9) := ⟨⟨by decide +kernel, by decide +kernel⟩, List.mem_of_getElem? (i := 17) (by decide +kernel), List.mem_of_getElem? (i := 258) (by decide +kernel), List.mem_of_getElem? (i := 259) (by decide +kernel)⟩
theorem lw_p1 : lw_okq (⟨"DripsOnBelow", "isTenant", "(I)Z"⟩, 9) := ⟨⟨by decide +kernel, by decide +kernel⟩, List.mem_of_getElem? (i := 17) (by decide +kernel), List.mem_of_getElem? (i := 471) (by decide +kernel), List.mem_of_getElem? (i := 472) (by decide +kernel)⟩
theorem lw_p2 : lw_okq (⟨"DripsOnBelow", "isHabit", "(I)Z"⟩, 9) := ⟨⟨by decide +kernel, by decide +kernel⟩, List.mem_of_getElem? (i := 17) (by decide +kernel), List.mem_of_getElem? (i := 495) (by decide +kernel), List.mem_of_getElem? (i := 496) (by decide +kernel)⟩
theorem lw_p3 : lw_okq (⟨"DripsOnBelow", "tryAnew", "()V"⟩, 9) := ⟨⟨by decide +kernel, by decide +kernel⟩, List.mem_of_getElem? (i := 17) (by decide +kernel), List.mem_of_getElem? (i := 630) (by decide +kernel), List.mem_of_getElem? (i := 631) (by decide +kernel)⟩
theorem lw_p4 : lw_okq (⟨"DripsOnBelow", "doneTo", "(I)I"⟩, 9) := ⟨⟨by decide +kernel, by decide +kernel⟩, List.mem_of_getElem? (i := 17) (by decide +kernel), List.mem_of_getElem? (i := 636) (by decide +kernel), List.mem_of_getElem? (i := 637) (by decide +kernel)⟩
theorem lw_p5 : lw_okq (⟨"DripsOnBelow", "tryHour", "(II)I"⟩, 9) := ⟨⟨by decide +kernel, by decide +kernel⟩, List.mem_of_getElem? (i := 17) (by decide +kernel), List.mem_of_getElem? (i := 644) (by decide +kernel), List.mem_of_getElem? (i := 645) (by decide +kernel)⟩
theorem lw_p6 : lw_okq (⟨"DripsOnBelow", "tryQuiet", "(II)I"⟩, 9) := ⟨⟨by decide +kernel, by decide +kernel⟩, List.mem_of_getElem? (i := 17) (by decide +kernel), List.mem_of_getElem? (i := 656) (by decide +kernel), List.mem_of_getElem? (i := 657) (by decide +kernel)⟩
theorem lw_p7 : lw_okq (⟨"DripsOnBelow", "tryAsIs", "()I"⟩, 9) := ⟨⟨by decide +kernel, by decide +kernel⟩, List.mem_of_getElem? (i := 17) (by decide +kernel), List.mem_of_getElem? (i := 669) (by decide +kernel), List.mem_of_getElem? (i := 670) (by decide +kernel)⟩
theorem lw_p8 : lw_okq (⟨"DripsOnBelow", "tryAwning", "(II)I"⟩, 9) := ⟨⟨by decide +kernel, by decide +kernel⟩, List.mem_of_getElem? (i := 17) (by decide +kernel), List.mem_of_getElem? (i := 686) (by decide +kernel), List.mem_of_getElem? (i := 687) (by decide +kernel)⟩
theorem lw_p9 : lw_okq (⟨"DripsOnBelow", "gain", "(I)I"⟩, 9) := ⟨⟨by decide +kernel, by decide +kernel⟩, List.mem_of_getElem? (i := 17) (by decide +kernel), List.mem_of_getElem? (i := 694) (by decide +kernel), List.mem_of_getElem? (i := 695) (by decide +kernel)⟩
theorem lw_p10 : lw_okq (⟨"DripsOnBelow", "rings", "()I"⟩, 9) := ⟨⟨by decide +kernel, by decide +kernel⟩, List.mem_of_getElem? (i := 17) (by decide +kernel), List.mem_of_getElem? (i := 737) (by decide +kernel), List.mem_of_getElem? (i := 738) (by decide +kernel)⟩
theorem lw_p11 : lw_okq (⟨"DripsOnBelow", "pairs", "(Z)I"⟩, 9) := ⟨⟨by decide +kernel, by decide +kernel⟩, List.mem_of_getElem? (i := 17) (by decide +kernel), List.mem_of_getElem? (i := 745) (by decide +kernel), List.mem_of_getElem? (i := 746) (by decide +kernel)⟩
theorem lw_p12 : lw_okq (⟨"DripsOnBelowModel", "clearAll", "()V"⟩, 43) := ⟨⟨by decide +kernel, by decide +kernel⟩, List.mem_of_getElem? (i := 778) (by decide +kernel), List.mem_of_getElem? (i := 784) (by decide +kernel), List.mem_of_getElem? (i := 785) (by decide +kernel)⟩
theorem lw_p13 : lw_okq (⟨"DripsOnBelowModel", "refuse", "(I)I"⟩, 43) := ⟨⟨by decide +kernel, by decide +kernel⟩, List.mem_of_getElem? (i := 778) (by decide +kernel), List.mem_of_getElem? (i := 922) (by decide +kernel), List.mem_of_getElem? (i := 923) (by decide +kernel)⟩
theorem lw_p14 : lw_okq (⟨"DripsOnBelowModel", "readStatement", "()V"⟩, 43) := ⟨⟨by decide +kernel, by decide +kernel⟩, List.mem_of_getElem? (i := 778) (by decide +kernel), List.mem_of_getElem? (i := 930) (by decide +kernel), List.mem_of_getElem? (i := 931) (by decide +kernel)⟩
theorem lw_p15 : lw_okq (⟨"DripsOnBelowModel", "here", "()I"⟩, 43) := ⟨⟨by decide +kernel, by decide +kernel⟩, List.mem_of_getElem? (i := 778) (by decide +kernel), List.mem_of_getElem? (i := 934) (by decide +kernel), List.mem_of_getElem? (i := 935) (by decide +kernel)⟩
def lw_privs_1 : List (MethodName × Nat) := [(⟨"DripsOnBelow", "refuse", "(I)I"⟩, 9), (⟨"DripsOnBelow", "isTenant", "(I)Z"⟩, 9), (⟨"DripsOnBelow", "isHabit", "(I)Z"⟩, 9), (⟨"DripsOnBelow", "tryAnew", "()V"⟩, 9), (⟨"DripsOnBelow", "doneTo", "(I)I"⟩, 9), (⟨"DripsOnBelow", "tryHour", "(II)I"⟩, 9), (⟨"DripsOnBelow", "tryQuiet", "(II)I"⟩, 9), (⟨"DripsOnBelow", "tryAsIs", "()I"⟩, 9), (⟨"DripsOnBelow", "tryAwning", "(II)I"⟩, 9), (⟨"DripsOnBelow", "gain", "(I)I"⟩, 9), (⟨"DripsOnBelow", "rings", "()I"⟩, 9), (⟨"DripsOnBelow", "pairs", "(Z)I"⟩, 9), (⟨"DripsOnBelowModel", "clearAll", "()V"⟩, 43), (⟨"DripsOnBelowModel", "refuse", "(I)I"⟩, 43), (⟨"DripsOnBelowModel", "readStatement", "()V"⟩, 43), (⟨"DripsOnBelowModel", "here", "()I"⟩, 43)]
theorem lw_r1 : ∀ q ∈ lw_privs_1, lw_okq q := List.forall_mem_cons.mpr ⟨lw_p0, List.forall_mem_cons.mpr ⟨lw_p1, List.forall_mem_cons.mpr ⟨lw_p2, List.forall_mem_cons.mpr ⟨lw_p3, List.forall_mem_cons.mpr ⟨lw_p4, List.forall_mem_cons.mpr ⟨lw_p5, List.forall_mem_cons.mpr ⟨lw_p6, List.forall_mem_cons.mpr ⟨lw_p7, List.forall_mem_cons.mpr ⟨lw_p8, List.forall_mem_cons.mpr ⟨lw_p9, List.forall_mem_cons.mpr ⟨lw_p10, List.forall_mem_cons.mpr ⟨lw_p11, List.forall_mem_cons.mpr ⟨lw_p12, List.forall_mem_cons.mpr ⟨lw_p13, List.forall_mem_cons.mpr ⟨lw_p14, List.forall_mem_cons.mpr ⟨lw_p15, fun _ h => absurd h List.not_mem_nil⟩⟩⟩⟩⟩⟩⟩⟩⟩⟩⟩⟩⟩⟩⟩⟩
theorem lw_p16 : lw_okq (⟨"DripsOnBelowModel", "readDigit", "()I"⟩, 43) := ⟨⟨by decide +kernel, by decide +kernel⟩, List.mem_of_getElem? (i := 778) (by decide +kernel), List.mem_of_getElem? (i := 938) (by decide +kernel), List.mem_of_getElem? (i := 939) (by decide +kernel)⟩
theorem lw_p17 : lw_okq (⟨"DripsOnBelowModel", "readTwo", "()I"⟩, 43) := ⟨⟨by decide +kernel, by decide +kernel⟩, List.mem_of_getElem? (i := 778) (by decide +kernel), List.mem_of_getElem? (i := 947) (by decide +kernel), List.mem_of_getElem? (i := 948) (by decide +kernel)⟩
theorem lw_p18 : lw_okq (⟨"DripsOnBelowModel", "readSign", "()I"⟩, 43) := ⟨⟨by decide +kernel, by decide +kernel⟩, List.mem_of_getElem? (i := 778) (by decide +kernel), List.mem_of_getElem? (i := 951) (by decide +kernel), List.mem_of_getElem? (i := 952) (by decide +kernel)⟩
theorem lw_p19 : lw_okq (⟨"DripsOnBelowModel", "readHours", "()I"⟩, 43) := ⟨⟨by decide +kernel, by decide +kernel⟩, List.mem_of_getElem? (i := 778) (by decide +kernel), List.mem_of_getElem? (i := 955) (by decide +kernel), List.mem_of_getElem? (i := 956) (by decide +kernel)⟩
theorem lw_p20 : lw_okq (⟨"DripsOnBelowModel", "readTenant", "()I"⟩, 43) := ⟨⟨by decide +kernel, by decide +kernel⟩, List.mem_of_getElem? (i := 778) (by decide +kernel), List.mem_of_getElem? (i := 960) (by decide +kernel), List.mem_of_getElem? (i := 961) (by decide +kernel)⟩
theorem lw_p21 : lw_okq (⟨"DripsOnBelowModel", "carryAll", "([IZ)V"⟩, 43) := ⟨⟨by decide +kernel, by decide +kernel⟩, List.mem_of_getElem? (i := 778) (by decide +kernel), List.mem_of_getElem? (i := 964) (by decide +kernel), List.mem_of_getElem? (i := 965) (by decide +kernel)⟩
theorem lw_p22 : lw_okq (⟨"DripsOnBelowModel", "carry", "(I)I"⟩, 43) := ⟨⟨by decide +kernel, by decide +kernel⟩, List.mem_of_getElem? (i := 778) (by decide +kernel), List.mem_of_getElem? (i := 968) (by decide +kernel), List.mem_of_getElem? (i := 969) (by decide +kernel)⟩
theorem lw_p23 : lw_okq (⟨"DripsOnBelowModel", "comes", "(I)Z"⟩, 43) := ⟨⟨by decide +kernel, by decide +kernel⟩, List.mem_of_getElem? (i := 778) (by decide +kernel), List.mem_of_getElem? (i := 972) (by decide +kernel), List.mem_of_getElem? (i := 973) (by decide +kernel)⟩
theorem lw_p24 : lw_okq (⟨"DripsOnBelowModel", "frontComes", "(II)Z"⟩, 43) := ⟨⟨by decide +kernel, by decide +kernel⟩, List.mem_of_getElem? (i := 778) (by decide +kernel), List.mem_of_getElem? (i := 976) (by decide +kernel), List.mem_of_getElem? (i := 977) (by decide +kernel)⟩
theorem lw_p25 : lw_okq (⟨"DripsOnBelowModel", "habitComes", "(I)Z"⟩, 43) := ⟨⟨by decide +kernel, by decide +kernel⟩, List.mem_of_getElem? (i := 778) (by decide +kernel), List.mem_of_getElem? (i := 983) (by decide +kernel), List.mem_of_getElem? (i := 984) (by decide +kernel)⟩
theorem lw_p26 : lw_okq (⟨"DripsOnBelowModel", "tenants", "()I"⟩, 43) := ⟨⟨by decide +kernel, by decide +kernel⟩, List.mem_of_getElem? (i := 778) (by decide +kernel), List.mem_of_getElem? (i := 987) (by decide +kernel), List.mem_of_getElem? (i := 988) (by decide +kernel)⟩
theorem lw_p27 : lw_okq (⟨"DripsOnBelowModel", "flatComes", "(II)Z"⟩, 43) := ⟨⟨by decide +kernel, by decide +kernel⟩, List.mem_of_getElem? (i := 778) (by decide +kernel), List.mem_of_getElem? (i := 991) (by decide +kernel), List.mem_of_getElem? (i := 992) (by decide +kernel)⟩
theorem lw_p28 : lw_okq (⟨"DripsOnBelowModel", "flatAt", "(I)I"⟩, 43) := ⟨⟨by decide +kernel, by decide +kernel⟩, List.mem_of_getElem? (i := 778) (by decide +kernel), List.mem_of_getElem? (i := 995) (by decide +kernel), List.mem_of_getElem? (i := 996) (by decide +kernel)⟩
theorem lw_p29 : lw_okq (⟨"DripsOnBelowModel", "saucerIs", "(II)V"⟩, 43) := ⟨⟨by decide +kernel, by decide +kernel⟩, List.mem_of_getElem? (i := 778) (by decide +kernel), List.mem_of_getElem? (i := 999) (by decide +kernel), List.mem_of_getElem? (i := 1000) (by decide +kernel)⟩
theorem lw_p30 : lw_okq (⟨"DripsOnBelowModel", "livesIn", "(I)I"⟩, 43) := ⟨⟨by decide +kernel, by decide +kernel⟩, List.mem_of_getElem? (i := 778) (by decide +kernel), List.mem_of_getElem? (i := 1019) (by decide +kernel), List.mem_of_getElem? (i := 1020) (by decide +kernel)⟩
theorem lw_p31 : lw_okq (⟨"DripsOnBelowModel", "isTenant", "(I)Z"⟩, 43) := ⟨⟨by decide +kernel, by decide +kernel⟩, List.mem_of_getElem? (i := 778) (by decide +kernel), List.mem_of_getElem? (i := 1027) (by decide +kernel), List.mem_of_getElem? (i := 1028) (by decide +kernel)⟩
def lw_privs_2 : List (MethodName × Nat) := [(⟨"DripsOnBelowModel", "readDigit", "()I"⟩, 43), (⟨"DripsOnBelowModel", "readTwo", "()I"⟩, 43), (⟨"DripsOnBelowModel", "readSign", "()I"⟩, 43), (⟨"DripsOnBelowModel", "readHours", "()I"⟩, 43), (⟨"DripsOnBelowModel", "readTenant", "()I"⟩, 43), (⟨"DripsOnBelowModel", "carryAll", "([IZ)V"⟩, 43), (⟨"DripsOnBelowModel", "carry", "(I)I"⟩, 43), (⟨"DripsOnBelowModel", "comes", "(I)Z"⟩, 43), (⟨"DripsOnBelowModel", "frontComes", "(II)Z"⟩, 43), (⟨"DripsOnBelowModel", "habitComes", "(I)Z"⟩, 43), (⟨"DripsOnBelowModel", "tenants", "()I"⟩, 43), (⟨"DripsOnBelowModel", "flatComes", "(II)Z"⟩, 43), (⟨"DripsOnBelowModel", "flatAt", "(I)I"⟩, 43), (⟨"DripsOnBelowModel", "saucerIs", "(II)V"⟩, 43), (⟨"DripsOnBelowModel", "livesIn", "(I)I"⟩, 43), (⟨"DripsOnBelowModel", "isTenant", "(I)Z"⟩, 43)]
theorem lw_r2 : ∀ q ∈ lw_privs_2, lw_okq q := List.forall_mem_cons.mpr ⟨lw_p16, List.forall_mem_cons.mpr ⟨lw_p17, List.forall_mem_cons.mpr ⟨lw_p18, List.forall_mem_cons.mpr ⟨lw_p19, List.forall_mem_cons.mpr ⟨lw_p20, List.forall_mem_cons.mpr ⟨lw_p21, List.forall_mem_cons.mpr ⟨lw_p22, List.forall_mem_cons.mpr ⟨lw_p23, List.forall_mem_cons.mpr ⟨lw_p24, List.forall_mem_cons.mpr ⟨lw_p25, List.forall_mem_cons.mpr ⟨lw_p26, List.forall_mem_cons.mpr ⟨lw_p27, List.forall_mem_cons.mpr ⟨lw_p28, List.forall_mem_cons.mpr ⟨lw_p29, List.forall_mem_cons.mpr ⟨lw_p30, List.forall_mem_cons.mpr ⟨lw_p31, fun _ h => absurd h List.not_mem_nil⟩⟩⟩⟩⟩⟩⟩⟩⟩⟩⟩⟩⟩⟩⟩⟩
theorem lw_p32 : lw_okq (⟨"DripsOnBelowModel", "habitsOf", "(I)I"⟩, 43) := ⟨⟨by decide +kernel, by decide +kernel⟩, List.mem_of_getElem? (i := 778) (by decide +kernel), List.mem_of_getElem? (i := 1034) (by decide +kernel), List.mem_of_getElem? (i := 1035) (by decide +kernel)⟩
theorem lw_p33 : lw_okq (⟨"DripsOnBelowModel", "areTenants", "(II)Z"⟩, 43) := ⟨⟨by decide +kernel, by decide +kernel⟩, List.mem_of_getElem? (i := 778) (by decide +kernel), List.mem_of_getElem? (i := 1042) (by decide +kernel), List.mem_of_getElem? (i := 1043) (by decide +kernel)⟩
theorem lw_p34 : lw_okq (⟨"DripsOnBelowModel", "isHabit", "(I)Z"⟩, 43) := ⟨⟨by decide +kernel, by decide +kernel⟩, List.mem_of_getElem? (i := 778) (by decide +kernel), List.mem_of_getElem? (i := 1050) (by decide +kernel), List.mem_of_getElem? (i := 1051) (by decide +kernel)⟩
theorem lw_p35 : lw_okq (⟨"DripsOnBelowModel", "change", "(II)V"⟩, 43) := ⟨⟨by decide +kernel, by decide +kernel⟩, List.mem_of_getElem? (i := 778) (by decide +kernel), List.mem_of_getElem? (i := 1086) (by decide +kernel), List.mem_of_getElem? (i := 1087) (by decide +kernel)⟩
theorem lw_p36 : lw_okq (⟨"DripsOnBelowModel", "oneWeek", "()I"⟩, 43) := ⟨⟨by decide +kernel, by decide +kernel⟩, List.mem_of_getElem? (i := 778) (by decide +kernel), List.mem_of_getElem? (i := 1098) (by decide +kernel), List.mem_of_getElem? (i := 1099) (by decide +kernel)⟩
theorem lw_p37 : lw_okq (⟨"DripsOnBelowModel", "beginMind", "()V"⟩, 43) := ⟨⟨by decide +kernel, by decide +kernel⟩, List.mem_of_getElem? (i := 778) (by decide +kernel), List.mem_of_getElem? (i := 1102) (by decide +kernel), List.mem_of_getElem? (i := 1103) (by decide +kernel)⟩
theorem lw_p38 : lw_okq (⟨"DripsOnBelowModel", "clearHarm", "()V"⟩, 43) := ⟨⟨by decide +kernel, by decide +kernel⟩, List.mem_of_getElem? (i := 778) (by decide +kernel), List.mem_of_getElem? (i := 1106) (by decide +kernel), List.mem_of_getElem? (i := 1107) (by decide +kernel)⟩
theorem lw_p39 : lw_okq (⟨"DripsOnBelowModel", "weekOn", "()I"⟩, 43) := ⟨⟨by decide +kernel, by decide +kernel⟩, List.mem_of_getElem? (i := 778) (by decide +kernel), List.mem_of_getElem? (i := 1110) (by decide +kernel), List.mem_of_getElem? (i := 1111) (by decide +kernel)⟩
theorem lw_p40 : lw_okq (⟨"DripsOnBelowModel", "fall", "(I)V"⟩, 43) := ⟨⟨by decide +kernel, by decide +kernel⟩, List.mem_of_getElem? (i := 778) (by decide +kernel), List.mem_of_getElem? (i := 1114) (by decide +kernel), List.mem_of_getElem? (i := 1115) (by decide +kernel)⟩
theorem lw_p41 : lw_okq (⟨"DripsOnBelowModel", "nextOf", "(II)I"⟩, 43) := ⟨⟨by decide +kernel, by decide +kernel⟩, List.mem_of_getElem? (i := 778) (by decide +kernel), List.mem_of_getElem? (i := 1118) (by decide +kernel), List.mem_of_getElem? (i := 1119) (by decide +kernel)⟩
theorem lw_p42 : lw_okq (⟨"DripsOnBelowModel", "harmOf", "(IIII)I"⟩, 43) := ⟨⟨by decide +kernel, by decide +kernel⟩, List.mem_of_getElem? (i := 778) (by decide +kernel), List.mem_of_getElem? (i := 1122) (by decide +kernel), List.mem_of_getElem? (i := 1123) (by decide +kernel)⟩
theorem lw_p43 : lw_okq (⟨"DripsOnBelowModel", "keptAt", "(III)I"⟩, 43) := ⟨⟨by decide +kernel, by decide +kernel⟩, List.mem_of_getElem? (i := 778) (by decide +kernel), List.mem_of_getElem? (i := 1126) (by decide +kernel), List.mem_of_getElem? (i := 1127) (by decide +kernel)⟩
theorem lw_p44 : lw_okq (⟨"DripsOnBelowModel", "sumHarm", "()I"⟩, 43) := ⟨⟨by decide +kernel, by decide +kernel⟩, List.mem_of_getElem? (i := 778) (by decide +kernel), List.mem_of_getElem? (i := 1130) (by decide +kernel), List.mem_of_getElem? (i := 1131) (by decide +kernel)⟩
theorem lw_p45 : lw_okq (⟨"DripsOnBelowModel", "keepWeek", "()V"⟩, 43) := ⟨⟨by decide +kernel, by decide +kernel⟩, List.mem_of_getElem? (i := 778) (by decide +kernel), List.mem_of_getElem? (i := 1134) (by decide +kernel), List.mem_of_getElem? (i := 1135) (by decide +kernel)⟩
theorem lw_p46 : lw_okq (⟨"DripsOnBelowModel", "fallAlone", "(I)V"⟩, 43) := ⟨⟨by decide +kernel, by decide +kernel⟩, List.mem_of_getElem? (i := 778) (by decide +kernel), List.mem_of_getElem? (i := 1143) (by decide +kernel), List.mem_of_getElem? (i := 1144) (by decide +kernel)⟩
theorem lw_p47 : lw_okq (⟨"DripsOnBelowModel", "comesTo", "(II)Z"⟩, 43) := ⟨⟨by decide +kernel, by decide +kernel⟩, List.mem_of_getElem? (i := 778) (by decide +kernel), List.mem_of_getElem? (i := 1155) (by decide +kernel), List.mem_of_getElem? (i := 1156) (by decide +kernel)⟩
def lw_privs_3 : List (MethodName × Nat) := [(⟨"DripsOnBelowModel", "habitsOf", "(I)I"⟩, 43), (⟨"DripsOnBelowModel", "areTenants", "(II)Z"⟩, 43), (⟨"DripsOnBelowModel", "isHabit", "(I)Z"⟩, 43), (⟨"DripsOnBelowModel", "change", "(II)V"⟩, 43), (⟨"DripsOnBelowModel", "oneWeek", "()I"⟩, 43), (⟨"DripsOnBelowModel", "beginMind", "()V"⟩, 43), (⟨"DripsOnBelowModel", "clearHarm", "()V"⟩, 43), (⟨"DripsOnBelowModel", "weekOn", "()I"⟩, 43), (⟨"DripsOnBelowModel", "fall", "(I)V"⟩, 43), (⟨"DripsOnBelowModel", "nextOf", "(II)I"⟩, 43), (⟨"DripsOnBelowModel", "harmOf", "(IIII)I"⟩, 43), (⟨"DripsOnBelowModel", "keptAt", "(III)I"⟩, 43), (⟨"DripsOnBelowModel", "sumHarm", "()I"⟩, 43), (⟨"DripsOnBelowModel", "keepWeek", "()V"⟩, 43), (⟨"DripsOnBelowModel", "fallAlone", "(I)V"⟩, 43), (⟨"DripsOnBelowModel", "comesTo", "(II)Z"⟩, 43)]
theorem lw_r3 : ∀ q ∈ lw_privs_3, lw_okq q := List.forall_mem_cons.mpr ⟨lw_p32, List.forall_mem_cons.mpr ⟨lw_p33, List.forall_mem_cons.mpr ⟨lw_p34, List.forall_mem_cons.mpr ⟨lw_p35, List.forall_mem_cons.mpr ⟨lw_p36, List.forall_mem_cons.mpr ⟨lw_p37, List.forall_mem_cons.mpr ⟨lw_p38, List.forall_mem_cons.mpr ⟨lw_p39, List.forall_mem_cons.mpr ⟨lw_p40, List.forall_mem_cons.mpr ⟨lw_p41, List.forall_mem_cons.mpr ⟨lw_p42, List.forall_mem_cons.mpr ⟨lw_p43, List.forall_mem_cons.mpr ⟨lw_p44, List.forall_mem_cons.mpr ⟨lw_p45, List.forall_mem_cons.mpr ⟨lw_p46, List.forall_mem_cons.mpr ⟨lw_p47, fun _ h => absurd h List.not_mem_nil⟩⟩⟩⟩⟩⟩⟩⟩⟩⟩⟩⟩⟩⟩⟩⟩
theorem lw_p48 : lw_okq (⟨"DripsOnBelowModel", "quietHarm", "(II)I"⟩, 43) := ⟨⟨by decide +kernel, by decide +kernel⟩, List.mem_of_getElem? (i := 778) (by decide +kernel), List.mem_of_getElem? (i := 1179) (by decide +kernel), List.mem_of_getElem? (i := 1180) (by decide +kernel)⟩
theorem lw_p49 : lw_okq (⟨"DripsOnBelowModel", "keepTimes", "()V"⟩, 43) := ⟨⟨by decide +kernel, by decide +kernel⟩, List.mem_of_getElem? (i := 778) (by decide +kernel), List.mem_of_getElem? (i := 1183) (by decide +kernel), List.mem_of_getElem? (i := 1184) (by decide +kernel)⟩
theorem lw_p50 : lw_okq (⟨"DripsOnBelowModel", "timesBack", "()V"⟩, 43) := ⟨⟨by decide +kernel, by decide +kernel⟩, List.mem_of_getElem? (i := 778) (by decide +kernel), List.mem_of_getElem? (i := 1187) (by decide +kernel), List.mem_of_getElem? (i := 1188) (by decide +kernel)⟩
theorem lw_p51 : lw_okq (⟨"DripsOnBelowModel", "oneWeekOf", "(I)I"⟩, 43) := ⟨⟨by decide +kernel, by decide +kernel⟩, List.mem_of_getElem? (i := 778) (by decide +kernel), List.mem_of_getElem? (i := 1199) (by decide +kernel), List.mem_of_getElem? (i := 1200) (by decide +kernel)⟩
theorem lw_p52 : lw_okq (⟨"DripsOnBelowModel", "keepHarm", "()V"⟩, 43) := ⟨⟨by decide +kernel, by decide +kernel⟩, List.mem_of_getElem? (i := 778) (by decide +kernel), List.mem_of_getElem? (i := 1215) (by decide +kernel), List.mem_of_getElem? (i := 1216) (by decide +kernel)⟩
theorem lw_p53 : lw_okq (⟨"DripsOnBelowModel", "weekBoth", "(II)V"⟩, 43) := ⟨⟨by decide +kernel, by decide +kernel⟩, List.mem_of_getElem? (i := 778) (by decide +kernel), List.mem_of_getElem? (i := 1224) (by decide +kernel), List.mem_of_getElem? (i := 1225) (by decide +kernel)⟩
theorem lw_p54 : lw_okq (⟨"DripsOnBelowModel", "revenge", "()V"⟩, 43) := ⟨⟨by decide +kernel, by decide +kernel⟩, List.mem_of_getElem? (i := 778) (by decide +kernel), List.mem_of_getElem? (i := 1236) (by decide +kernel), List.mem_of_getElem? (i := 1237) (by decide +kernel)⟩
theorem lw_p55 : lw_okq (⟨"DripsOnBelowModel", "isAngry", "(I)Z"⟩, 43) := ⟨⟨by decide +kernel, by decide +kernel⟩, List.mem_of_getElem? (i := 778) (by decide +kernel), List.mem_of_getElem? (i := 1240) (by decide +kernel), List.mem_of_getElem? (i := 1241) (by decide +kernel)⟩
theorem lw_p56 : lw_okq (⟨"DripsOnBelowModel", "pairsOf", "(I)I"⟩, 43) := ⟨⟨by decide +kernel, by decide +kernel⟩, List.mem_of_getElem? (i := 778) (by decide +kernel), List.mem_of_getElem? (i := 1252) (by decide +kernel), List.mem_of_getElem? (i := 1253) (by decide +kernel)⟩
theorem lw_p57 : lw_okq (⟨"DripsOnBelowModel", "haveLess", "(II)Z"⟩, 43) := ⟨⟨by decide +kernel, by decide +kernel⟩, List.mem_of_getElem? (i := 778) (by decide +kernel), List.mem_of_getElem? (i := 1256) (by decide +kernel), List.mem_of_getElem? (i := 1257) (by decide +kernel)⟩
theorem lw_p58 : lw_okq (⟨"DripsOnBelowModel", "ringsOf", "()I"⟩, 43) := ⟨⟨by decide +kernel, by decide +kernel⟩, List.mem_of_getElem? (i := 778) (by decide +kernel), List.mem_of_getElem? (i := 1260) (by decide +kernel), List.mem_of_getElem? (i := 1261) (by decide +kernel)⟩
theorem lw_p59 : lw_okq (⟨"DripsOnBelowModel", "isRing", "(III)Z"⟩, 43) := ⟨⟨by decide +kernel, by decide +kernel⟩, List.mem_of_getElem? (i := 778) (by decide +kernel), List.mem_of_getElem? (i := 1264) (by decide +kernel), List.mem_of_getElem? (i := 1265) (by decide +kernel)⟩
def lw_privs_4 : List (MethodName × Nat) := [(⟨"DripsOnBelowModel", "quietHarm", "(II)I"⟩, 43), (⟨"DripsOnBelowModel", "keepTimes", "()V"⟩, 43), (⟨"DripsOnBelowModel", "timesBack", "()V"⟩, 43), (⟨"DripsOnBelowModel", "oneWeekOf", "(I)I"⟩, 43), (⟨"DripsOnBelowModel", "keepHarm", "()V"⟩, 43), (⟨"DripsOnBelowModel", "weekBoth", "(II)V"⟩, 43), (⟨"DripsOnBelowModel", "revenge", "()V"⟩, 43), (⟨"DripsOnBelowModel", "isAngry", "(I)Z"⟩, 43), (⟨"DripsOnBelowModel", "pairsOf", "(I)I"⟩, 43), (⟨"DripsOnBelowModel", "haveLess", "(II)Z"⟩, 43), (⟨"DripsOnBelowModel", "ringsOf", "()I"⟩, 43), (⟨"DripsOnBelowModel", "isRing", "(III)Z"⟩, 43)]
theorem lw_r4 : ∀ q ∈ lw_privs_4, lw_okq q := List.forall_mem_cons.mpr ⟨lw_p48, List.forall_mem_cons.mpr ⟨lw_p49, List.forall_mem_cons.mpr ⟨lw_p50, List.forall_mem_cons.mpr ⟨lw_p51, List.forall_mem_cons.mpr ⟨lw_p52, List.forall_mem_cons.mpr ⟨lw_p53, List.forall_mem_cons.mpr ⟨lw_p54, List.forall_mem_cons.mpr ⟨lw_p55, List.forall_mem_cons.mpr ⟨lw_p56, List.forall_mem_cons.mpr ⟨lw_p57, List.forall_mem_cons.mpr ⟨lw_p58, List.forall_mem_cons.mpr ⟨lw_p59, fun _ h => absurd h List.not_mem_nil⟩⟩⟩⟩⟩⟩⟩⟩⟩⟩⟩⟩
def lw_privs : List (MethodName × Nat) := lw_privs_1 ++ (lw_privs_2 ++ (lw_privs_3 ++ (lw_privs_4)))
def lw_tbl : List Cond := k2_sels lw_privs ++ tables_1
theorem lw_privs_ok : ∀ q ∈ lw_privs, lw_okq q := by
  show ∀ q ∈ lw_privs_1 ++ (lw_privs_2 ++ (lw_privs_3 ++ (lw_privs_4))), lw_okq q
  exact List.forall_mem_append.mpr ⟨lw_r1, List.forall_mem_append.mpr ⟨lw_r2, List.forall_mem_append.mpr ⟨lw_r3, lw_r4⟩⟩⟩
end
section
/-! ===== BEGIN words of one list among another's, by their places ===== -/
theorem goodIn_r {big : List Cond} (ws : List Cond) (ps : List Nat) (hp : ws = ps.filterMap (fun i => big[i]?)) (h : ws.all goodWord = true) : GoodIn big ws := by
  intro w hw
  have h1 := List.all_eq_true.mp h w hw
  rw [hp] at hw
  obtain ⟨i, -, hi⟩ := List.mem_filterMap.mp hw
  have hm : w ∈ big := by first | exact List.mem_of_getElem? hi | exact List.getElem?_mem hi
  exact ⟨hm, good_of_word h1⟩
theorem goodIn_app {big a b : List Cond} (ha : GoodIn big a) (hb : GoodIn big b) : GoodIn big (a ++ b) := fun w h => (List.mem_append.mp h).elim (ha w) (hb w)
theorem goodIn_ca {big a b : List Cond} {c : Cond} (ha : GoodIn big (c :: a)) (hb : GoodIn big b) : GoodIn big (c :: (a ++ b)) := fun w h => (List.mem_cons.mp h).elim (fun e => ha w (List.mem_cons.mpr (Or.inl e))) (fun h => (List.mem_append.mp h).elim (fun h => ha w (List.mem_cons.mpr (Or.inr h))) (hb w))
theorem goodIn_sub {big ws : List Cond} (hm : ∀ w ∈ ws, w ∈ big) (h : ws.all goodWord = true) : GoodIn big ws := fun w hw => ⟨hm w hw, good_of_word (List.all_eq_true.mp h w hw)⟩
/-! ===== END ===== -/

/-! ===== BEGIN printed: names, fields, word lists, decode rows ===== -/
def RX0 : String := "DripsOnBelow$Front"
def TX0 : u_T := fun k => match k with
  | 0 => ("DripsOnBelow$Front", "storeys", "I", false)
  | 1 => ("DripsOnBelow$Front", "stacks", "I", false)
  | 2 => ("DripsOnBelow$Front", "wind", "I", false)
  | 3 => ("DripsOnBelow$Front", "saucer", "[I", true)
  | 4 => ("DripsOnBelow$Front", "holds", "[I", true)
  | 5 => ("DripsOnBelow$Front", "awning", "[I", true)
  | 6 => ("DripsOnBelow$Front", "washing", "[I", true)
  | 7 => ("DripsOnBelow$Front", "hung", "[I", true)
  | 8 => ("DripsOnBelow$Front", "lives", "[I", true)
  | _ => ("DripsOnBelow$Front", "home", "[I", true)
def tyX0 : Nat → FieldType := fun k => match k with
  | 0 => .int
  | 1 => .int
  | 2 => .int
  | 3 => .array .int
  | 4 => .array .int
  | 5 => .array .int
  | 6 => .array .int
  | 7 => .array .int
  | 8 => .array .int
  | _ => .array .int
abbrev wsX00 : List Cond := u_ws RX0 TX0 10
theorem nmX0 : ∀ a, a < 10 → ∀ b, b < 10 → a ≠ b → (TX0 a).2.1 ≠ (TX0 b).2.1 := by decide +kernel
theorem tyX0_ok : ∀ k, k < 10 → parseFieldDescriptor (TX0 k).2.2.1 = some (tyX0 k) := by decide +kernel
abbrev cX0_init : ByteArray := prog_2_method_1_code
def yX0_init : MethodName := ⟨RX0, "<init>", "()V"⟩
abbrev cX0_build : ByteArray := prog_2_method_2_code
def yX0_build : MethodName := ⟨RX0, "build", "(II)V"⟩
abbrev cX0_copyFrom : ByteArray := prog_2_method_3_code
def yX0_copyFrom : MethodName := ⟨RX0, "copyFrom", "(LDripsOnBelow$Front;)V"⟩
abbrev cX0_tenants : ByteArray := prog_2_method_4_code
def yX0_tenants : MethodName := ⟨RX0, "tenants", "()I"⟩
abbrev cX0_place : ByteArray := prog_2_method_5_code
def yX0_place : MethodName := ⟨RX0, "place", "(II)I"⟩
abbrev cX0_placeOf : ByteArray := prog_2_method_6_code
def yX0_placeOf : MethodName := ⟨RX0, "placeOf", "(I)I"⟩
abbrev cX0_flatAt : ByteArray := prog_2_method_7_code
def yX0_flatAt : MethodName := ⟨RX0, "flatAt", "(I)I"⟩
abbrev cX0_settle : ByteArray := prog_2_method_8_code
def yX0_settle : MethodName := ⟨RX0, "settle", "(II)V"⟩
abbrev cX0_change : ByteArray := prog_2_method_9_code
def yX0_change : MethodName := ⟨RX0, "change", "(II)V"⟩
abbrev cX0_ring : ByteArray := prog_2_method_10_code
def yX0_ring : MethodName := ⟨RX0, "ring", "(III)V"⟩
abbrev cX0_setSaucer : ByteArray := prog_2_method_11_code
def yX0_setSaucer : MethodName := ⟨RX0, "setSaucer", "(II)V"⟩
abbrev cX0_setWashing : ByteArray := prog_2_method_12_code
def yX0_setWashing : MethodName := ⟨RX0, "setWashing", "(III)V"⟩
abbrev cX0_dry : ByteArray := prog_2_method_13_code
def yX0_dry : MethodName := ⟨RX0, "dry", "()V"⟩
def RX1 : String := "DripsOnBelow$Habits"
def TX1 : u_T := fun k => match k with
  | 0 => ("DripsOnBelow$Habits", "count", "I", false)
  | 1 => ("DripsOnBelow$Habits", "who", "[I", true)
  | 2 => ("DripsOnBelow$Habits", "kind", "[I", true)
  | 3 => ("DripsOnBelow$Habits", "figure", "[I", true)
  | _ => ("DripsOnBelow$Habits", "hour", "[I", true)
def tyX1 : Nat → FieldType := fun k => match k with
  | 0 => .int
  | 1 => .array .int
  | 2 => .array .int
  | 3 => .array .int
  | _ => .array .int
abbrev wsX10 : List Cond := u_ws RX1 TX1 5
theorem nmX1 : ∀ a, a < 5 → ∀ b, b < 5 → a ≠ b → (TX1 a).2.1 ≠ (TX1 b).2.1 := by decide +kernel
theorem tyX1_ok : ∀ k, k < 5 → parseFieldDescriptor (TX1 k).2.2.1 = some (tyX1 k) := by decide +kernel
abbrev cX1_init : ByteArray := prog_3_method_1_code
def yX1_init : MethodName := ⟨RX1, "<init>", "()V"⟩
abbrev cX1_add : ByteArray := prog_3_method_2_code
def yX1_add : MethodName := ⟨RX1, "add", "(IIII)V"⟩
abbrev cX1_copyFrom : ByteArray := prog_3_method_3_code
def yX1_copyFrom : MethodName := ⟨RX1, "copyFrom", "(LDripsOnBelow$Habits;)V"⟩
abbrev cX1_countOf : ByteArray := prog_3_method_4_code
def yX1_countOf : MethodName := ⟨RX1, "countOf", "(I)I"⟩
abbrev cX1_putOff : ByteArray := prog_3_method_5_code
def yX1_putOff : MethodName := ⟨RX1, "putOff", "(II)V"⟩
abbrev cX1_raise : ByteArray := prog_3_method_6_code
def yX1_raise : MethodName := ⟨RX1, "raise", "(I)V"⟩
def RX2 : String := "DripsOnBelow$House"
def TX2 : u_T := fun k => match k with
  | 0 => ("DripsOnBelow$House", "front", "LDripsOnBelow$Front;", true)
  | 1 => ("DripsOnBelow$House", "habits", "LDripsOnBelow$Habits;", true)
  | 2 => ("DripsOnBelow$House", "ledger", "LDripsOnBelow$Ledger;", true)
  | 3 => ("DripsOnBelow$House", "way", "LDripsOnBelow$Way;", true)
  | _ => ("DripsOnBelow$House", "weeks", "I", false)
def tyX2 : Nat → FieldType := fun k => match k with
  | 0 => .object "DripsOnBelow$Front"
  | 1 => .object "DripsOnBelow$Habits"
  | 2 => .object "DripsOnBelow$Ledger"
  | 3 => .object "DripsOnBelow$Way"
  | _ => .int
abbrev wsX20 : List Cond := u_ws RX2 TX2 5
theorem nmX2 : ∀ a, a < 5 → ∀ b, b < 5 → a ≠ b → (TX2 a).2.1 ≠ (TX2 b).2.1 := by decide +kernel
theorem tyX2_ok : ∀ k, k < 5 → parseFieldDescriptor (TX2 k).2.2.1 = some (tyX2 k) := by decide +kernel
abbrev cX2_init : ByteArray := prog_4_method_1_code
def yX2_init : MethodName := ⟨RX2, "<init>", "()V"⟩
abbrev cX2_copyFrom : ByteArray := prog_4_method_2_code
def yX2_copyFrom : MethodName := ⟨RX2, "copyFrom", "(LDripsOnBelow$House;)V"⟩
abbrev cX2_build : ByteArray := prog_4_method_3_code
def yX2_build : MethodName := ⟨RX2, "build", "(II)V"⟩
abbrev cX2_follow : ByteArray := prog_4_method_4_code
def yX2_follow : MethodName := ⟨RX2, "follow", "(I)LDripsOnBelow$Way;"⟩
abbrev cX2_trace : ByteArray := prog_4_method_5_code
def yX2_trace : MethodName := ⟨RX2, "trace", "(I)LDripsOnBelow$Way;"⟩
abbrev cX2_harmAt : ByteArray := prog_4_method_6_code
def yX2_harmAt : MethodName := ⟨RX2, "harmAt", "(II)I"⟩
abbrev cX2_fall : ByteArray := prog_4_method_7_code
def yX2_fall : MethodName := ⟨RX2, "fall", "(I)V"⟩
abbrev cX2_spendWeek : ByteArray := prog_4_method_8_code
def yX2_spendWeek : MethodName := ⟨RX2, "spendWeek", "()I"⟩
abbrev cX2_takeRevenge : ByteArray := prog_4_method_9_code
def yX2_takeRevenge : MethodName := ⟨RX2, "takeRevenge", "()V"⟩
def RX3 : String := "DripsOnBelow$Ledger"
def TX3 : u_T := fun k => match k with
  | 0 => ("DripsOnBelow$Ledger", "harm", "[I", true)
  | 1 => ("DripsOnBelow$Ledger", "anger", "[I", true)
  | 2 => ("DripsOnBelow$Ledger", "done", "[I", true)
  | 3 => ("DripsOnBelow$Ledger", "doers", "[I", true)
  | _ => ("DripsOnBelow$Ledger", "all", "I", false)
def tyX3 : Nat → FieldType := fun k => match k with
  | 0 => .array .int
  | 1 => .array .int
  | 2 => .array .int
  | 3 => .array .int
  | _ => .int
abbrev wsX30 : List Cond := u_ws RX3 TX3 5
theorem nmX3 : ∀ a, a < 5 → ∀ b, b < 5 → a ≠ b → (TX3 a).2.1 ≠ (TX3 b).2.1 := by decide +kernel
theorem tyX3_ok : ∀ k, k < 5 → parseFieldDescriptor (TX3 k).2.2.1 = some (tyX3 k) := by decide +kernel
abbrev cX3_init : ByteArray := prog_5_method_1_code
def yX3_init : MethodName := ⟨RX3, "<init>", "()V"⟩
abbrev cX3_pair : ByteArray := prog_5_method_2_code
def yX3_pair : MethodName := ⟨RX3, "pair", "(II)I"⟩
abbrev cX3_clear : ByteArray := prog_5_method_3_code
def yX3_clear : MethodName := ⟨RX3, "clear", "()V"⟩
abbrev cX3_copyFrom : ByteArray := prog_5_method_4_code
def yX3_copyFrom : MethodName := ⟨RX3, "copyFrom", "(LDripsOnBelow$Ledger;)V"⟩
abbrev cX3_beginWeek : ByteArray := prog_5_method_5_code
def yX3_beginWeek : MethodName := ⟨RX3, "beginWeek", "()V"⟩
abbrev cX3_note : ByteArray := prog_5_method_6_code
def yX3_note : MethodName := ⟨RX3, "note", "(III)V"⟩
abbrev cX3_isAngry : ByteArray := prog_5_method_7_code
def yX3_isAngry : MethodName := ⟨RX3, "isAngry", "(I)Z"⟩
def RX4 : String := "DripsOnBelow$Letters"
def TX4 : u_T := fun k => match k with
  | 0 => ("DripsOnBelow$Letters", "text", "[I", true)
  | _ => ("DripsOnBelow$Letters", "count", "I", false)
def tyX4 : Nat → FieldType := fun k => match k with
  | 0 => .array .int
  | _ => .int
abbrev wsX40 : List Cond := u_ws RX4 TX4 2
theorem nmX4 : ∀ a, a < 2 → ∀ b, b < 2 → a ≠ b → (TX4 a).2.1 ≠ (TX4 b).2.1 := by decide +kernel
theorem tyX4_ok : ∀ k, k < 2 → parseFieldDescriptor (TX4 k).2.2.1 = some (tyX4 k) := by decide +kernel
abbrev cX4_init : ByteArray := prog_6_method_1_code
def yX4_init : MethodName := ⟨RX4, "<init>", "()V"⟩
abbrev cX4_add : ByteArray := prog_6_method_2_code
def yX4_add : MethodName := ⟨RX4, "add", "(I)I"⟩
abbrev cX4_letter : ByteArray := prog_6_method_3_code
def yX4_letter : MethodName := ⟨RX4, "letter", "(I)I"⟩
abbrev cX4_digit : ByteArray := prog_6_method_4_code
def yX4_digit : MethodName := ⟨RX4, "digit", "(I)I"⟩
abbrev cX4_sign : ByteArray := prog_6_method_5_code
def yX4_sign : MethodName := ⟨RX4, "sign", "(I)I"⟩
abbrev cX4_tell : ByteArray := prog_6_method_6_code
def yX4_tell : MethodName := ⟨RX4, "tell", "(LDripsOnBelow$House;)I"⟩
abbrev cX4_formFault : ByteArray := prog_6_method_7_code
def yX4_formFault : MethodName := ⟨RX4, "formFault", "()I"⟩
abbrev cX4_statementEnd : ByteArray := prog_6_method_8_code
def yX4_statementEnd : MethodName := ⟨RX4, "statementEnd", "(I)I"⟩
abbrev cX4_formOf : ByteArray := prog_6_method_9_code
def yX4_formOf : MethodName := ⟨RX4, "formOf", "(I)Ljava/lang/String;"⟩
abbrev cX4_lengthOf : ByteArray := prog_6_method_10_code
def yX4_lengthOf : MethodName := ⟨RX4, "lengthOf", "(CI)I"⟩
abbrev cX4_hoursFrom : ByteArray := prog_6_method_11_code
def yX4_hoursFrom : MethodName := ⟨RX4, "hoursFrom", "(I)I"⟩
abbrev cX4_carryOut : ByteArray := prog_6_method_12_code
def yX4_carryOut : MethodName := ⟨RX4, "carryOut", "(ILDripsOnBelow$House;)Z"⟩
abbrev cX4_carryOutFront : ByteArray := prog_6_method_13_code
def yX4_carryOutFront : MethodName := ⟨RX4, "carryOutFront", "(ILDripsOnBelow$House;)Z"⟩
abbrev cX4_carryOutHabit : ByteArray := prog_6_method_14_code
def yX4_carryOutHabit : MethodName := ⟨RX4, "carryOutHabit", "(ILDripsOnBelow$House;)Z"⟩
abbrev cX4_hourBits : ByteArray := prog_6_method_15_code
def yX4_hourBits : MethodName := ⟨RX4, "hourBits", "(I)I"⟩
def RX5 : String := "DripsOnBelow$Way"
def TX5 : u_T := fun k => match k with
  | 0 => ("DripsOnBelow$Way", "places", "[I", true)
  | 1 => ("DripsOnBelow$Way", "comes", "[I", true)
  | 2 => ("DripsOnBelow$Way", "stays", "[I", true)
  | _ => ("DripsOnBelow$Way", "count", "I", false)
def tyX5 : Nat → FieldType := fun k => match k with
  | 0 => .array .int
  | 1 => .array .int
  | 2 => .array .int
  | _ => .int
abbrev wsX50 : List Cond := u_ws RX5 TX5 4
theorem nmX5 : ∀ a, a < 4 → ∀ b, b < 4 → a ≠ b → (TX5 a).2.1 ≠ (TX5 b).2.1 := by decide +kernel
theorem tyX5_ok : ∀ k, k < 4 → parseFieldDescriptor (TX5 k).2.2.1 = some (tyX5 k) := by decide +kernel
abbrev cX5_init : ByteArray := prog_7_method_1_code
def yX5_init : MethodName := ⟨RX5, "<init>", "()V"⟩
abbrev cX5_trace : ByteArray := prog_7_method_2_code
def yX5_trace : MethodName := ⟨RX5, "trace", "(LDripsOnBelow$Front;LDripsOnBelow$Habits;I)V"⟩
abbrev cX5_hold : ByteArray := prog_7_method_3_code
def yX5_hold : MethodName := ⟨RX5, "hold", "(LDripsOnBelow$Front;LDripsOnBelow$Habits;I)V"⟩
abbrev cX5_next : ByteArray := prog_7_method_4_code
def yX5_next : MethodName := ⟨RX5, "next", "(LDripsOnBelow$Front;II)I"⟩
abbrev cX5_room : ByteArray := prog_7_method_5_code
def yX5_room : MethodName := ⟨RX5, "room", "(LDripsOnBelow$Front;II)I"⟩
abbrev cX5_comesTo : ByteArray := prog_7_method_6_code
def yX5_comesTo : MethodName := ⟨RX5, "comesTo", "(I)Z"⟩
def RX6 : String := "DripsOnBelow"
def TX6 : u_T := fun k => match k with
  | 0 => ("DripsOnBelow", "now", "LDripsOnBelow$House;", true)
  | 1 => ("DripsOnBelow", "taken", "LDripsOnBelow$House;", true)
  | 2 => ("DripsOnBelow", "trial", "LDripsOnBelow$House;", true)
  | 3 => ("DripsOnBelow", "letters", "LDripsOnBelow$Letters;", true)
  | 4 => ("DripsOnBelow", "told", "[I", true)
  | 5 => ("DripsOnBelow", "refusals", "[I", true)
  | 6 => ("DripsOnBelow", "before", "[I", true)
  | 7 => ("DripsOnBelow", "tolds", "I", false)
  | _ => ("DripsOnBelow", "isTaken", "Z", false)
def tyX6 : Nat → FieldType := fun k => match k with
  | 0 => .object "DripsOnBelow$House"
  | 1 => .object "DripsOnBelow$House"
  | 2 => .object "DripsOnBelow$House"
  | 3 => .object "DripsOnBelow$Letters"
  | 4 => .array .int
  | 5 => .array .int
  | 6 => .array .int
  | 7 => .int
  | _ => .boolean
abbrev wsX60 : List Cond := u_ws RX6 TX6 9
theorem nmX6 : ∀ a, a < 9 → ∀ b, b < 9 → a ≠ b → (TX6 a).2.1 ≠ (TX6 b).2.1 := by decide +kernel
theorem tyX6_ok : ∀ k, k < 9 → parseFieldDescriptor (TX6 k).2.2.1 = some (tyX6 k) := by decide +kernel
abbrev cX6_init : ByteArray := prog_1_method_1_code
def yX6_init : MethodName := ⟨RX6, "<init>", "()V"⟩
abbrev cX6_get : ByteArray := prog_1_method_2_code
def yX6_get : MethodName := ⟨RX6, "get", "([II)I"⟩
abbrev cX6_set : ByteArray := prog_1_method_3_code
def yX6_set : MethodName := ⟨RX6, "set", "([III)V"⟩
abbrev cX6_copy : ByteArray := prog_1_method_4_code
def yX6_copy : MethodName := ⟨RX6, "copy", "([I[I)V"⟩
abbrev cX6_sum : ByteArray := prog_1_method_5_code
def yX6_sum : MethodName := ⟨RX6, "sum", "([I)I"⟩
abbrev cX6_within : ByteArray := prog_1_method_6_code
def yX6_within : MethodName := ⟨RX6, "within", "(III)Z"⟩
abbrev cX6_refuse : ByteArray := prog_1_method_7_code
def yX6_refuse : MethodName := ⟨RX6, "refuse", "(I)I"⟩
abbrev cX6_isTenant : ByteArray := prog_1_method_8_code
def yX6_isTenant : MethodName := ⟨RX6, "isTenant", "(I)Z"⟩
abbrev cX6_isHabit : ByteArray := prog_1_method_9_code
def yX6_isHabit : MethodName := ⟨RX6, "isHabit", "(I)Z"⟩
abbrev cX6_isHour : ByteArray := prog_1_method_10_code
def yX6_isHour : MethodName := ⟨RX6, "isHour", "(I)Z"⟩
abbrev cX6_tryAnew : ByteArray := prog_1_method_11_code
def yX6_tryAnew : MethodName := ⟨RX6, "tryAnew", "()V"⟩
abbrev cX6_tryAsIs : ByteArray := prog_1_method_12_code
def yX6_tryAsIs : MethodName := ⟨RX6, "tryAsIs", "()I"⟩
abbrev cX6_tryHour : ByteArray := prog_1_method_13_code
def yX6_tryHour : MethodName := ⟨RX6, "tryHour", "(II)I"⟩
abbrev cX6_tryQuiet : ByteArray := prog_1_method_14_code
def yX6_tryQuiet : MethodName := ⟨RX6, "tryQuiet", "(II)I"⟩
abbrev cX6_tryAwning : ByteArray := prog_1_method_15_code
def yX6_tryAwning : MethodName := ⟨RX6, "tryAwning", "(II)I"⟩
abbrev cX6_doneTo : ByteArray := prog_1_method_16_code
def yX6_doneTo : MethodName := ⟨RX6, "doneTo", "(I)I"⟩
abbrev cX6_gain : ByteArray := prog_1_method_17_code
def yX6_gain : MethodName := ⟨RX6, "gain", "(I)I"⟩
abbrev cX6_feed : ByteArray := prog_1_method_18_code
def yX6_feed : MethodName := ⟨RX6, "feed", "(I)I"⟩
abbrev cX6_front : ByteArray := prog_1_method_19_code
def yX6_front : MethodName := ⟨RX6, "front", "()I"⟩
abbrev cX6_flat : ByteArray := prog_1_method_20_code
def yX6_flat : MethodName := ⟨RX6, "flat", "(II)I"⟩
abbrev cX6_tenant : ByteArray := prog_1_method_21_code
def yX6_tenant : MethodName := ⟨RX6, "tenant", "(II)I"⟩
abbrev cX6_anger : ByteArray := prog_1_method_22_code
def yX6_anger : MethodName := ⟨RX6, "anger", "(II)I"⟩
abbrev cX6_habit : ByteArray := prog_1_method_23_code
def yX6_habit : MethodName := ⟨RX6, "habit", "(II)I"⟩
abbrev cX6_count : ByteArray := prog_1_method_24_code
def yX6_count : MethodName := ⟨RX6, "count", "(I)I"⟩
abbrev cX6_put : ByteArray := prog_1_method_25_code
def yX6_put : MethodName := ⟨RX6, "put", "(II)I"⟩
abbrev cX6_saucer : ByteArray := prog_1_method_26_code
def yX6_saucer : MethodName := ⟨RX6, "saucer", "(II)I"⟩
abbrev cX6_awning : ByteArray := prog_1_method_27_code
def yX6_awning : MethodName := ⟨RX6, "awning", "(II)I"⟩
abbrev cX6_wash : ByteArray := prog_1_method_28_code
def yX6_wash : MethodName := ⟨RX6, "wash", "(III)I"⟩
abbrev cX6_wind : ByteArray := prog_1_method_29_code
def yX6_wind : MethodName := ⟨RX6, "wind", "(I)I"⟩
abbrev cX6_move : ByteArray := prog_1_method_30_code
def yX6_move : MethodName := ⟨RX6, "move", "(II)I"⟩
abbrev cX6_rain : ByteArray := prog_1_method_31_code
def yX6_rain : MethodName := ⟨RX6, "rain", "()I"⟩
abbrev cX6_week : ByteArray := prog_1_method_32_code
def yX6_week : MethodName := ⟨RX6, "week", "()I"⟩
abbrev cX6_steps : ByteArray := prog_1_method_33_code
def yX6_steps : MethodName := ⟨RX6, "steps", "(II)I"⟩
abbrev cX6_down : ByteArray := prog_1_method_34_code
def yX6_down : MethodName := ⟨RX6, "down", "(I)I"⟩
abbrev cX6_whom : ByteArray := prog_1_method_35_code
def yX6_whom : MethodName := ⟨RX6, "whom", "(II)I"⟩
abbrev cX6_does : ByteArray := prog_1_method_36_code
def yX6_does : MethodName := ⟨RX6, "does", "(II)I"⟩
abbrev cX6_harmed : ByteArray := prog_1_method_37_code
def yX6_harmed : MethodName := ⟨RX6, "harmed", "(II)I"⟩
abbrev cX6_least : ByteArray := prog_1_method_38_code
def yX6_least : MethodName := ⟨RX6, "least", "(II)I"⟩
abbrev cX6_hours : ByteArray := prog_1_method_39_code
def yX6_hours : MethodName := ⟨RX6, "hours", "(III)I"⟩
abbrev cX6_quiet : ByteArray := prog_1_method_40_code
def yX6_quiet : MethodName := ⟨RX6, "quiet", "(II)I"⟩
abbrev cX6_rule : ByteArray := prog_1_method_41_code
def yX6_rule : MethodName := ⟨RX6, "rule", "()I"⟩
abbrev cX6_hang : ByteArray := prog_1_method_42_code
def yX6_hang : MethodName := ⟨RX6, "hang", "(I)I"⟩
abbrev cX6_big : ByteArray := prog_1_method_43_code
def yX6_big : MethodName := ⟨RX6, "big", "(I)I"⟩
abbrev cX6_leads : ByteArray := prog_1_method_44_code
def yX6_leads : MethodName := ⟨RX6, "leads", "(I)I"⟩
abbrev cX6_whose : ByteArray := prog_1_method_45_code
def yX6_whose : MethodName := ⟨RX6, "whose", "(II)I"⟩
abbrev cX6_deal : ByteArray := prog_1_method_46_code
def yX6_deal : MethodName := ⟨RX6, "deal", "(II)I"⟩
abbrev cX6_pays : ByteArray := prog_1_method_47_code
def yX6_pays : MethodName := ⟨RX6, "pays", "(III)I"⟩
abbrev cX6_climbs : ByteArray := prog_1_method_48_code
def yX6_climbs : MethodName := ⟨RX6, "climbs", "()I"⟩
abbrev cX6_worth : ByteArray := prog_1_method_49_code
def yX6_worth : MethodName := ⟨RX6, "worth", "(I)I"⟩
abbrev cX6_swaps : ByteArray := prog_1_method_50_code
def yX6_swaps : MethodName := ⟨RX6, "swaps", "(I)I"⟩
abbrev cX6_pairs : ByteArray := prog_1_method_51_code
def yX6_pairs : MethodName := ⟨RX6, "pairs", "(Z)I"⟩
abbrev cX6_rings : ByteArray := prog_1_method_52_code
def yX6_rings : MethodName := ⟨RX6, "rings", "()I"⟩
abbrev cX6_peg : ByteArray := prog_1_method_53_code
def yX6_peg : MethodName := ⟨RX6, "peg", "(III)J"⟩
abbrev cX6_row : ByteArray := prog_1_method_54_code
def yX6_row : MethodName := ⟨RX6, "row", "(I)I"⟩
abbrev cX6_judge : ByteArray := prog_1_method_55_code
def yX6_judge : MethodName := ⟨RX6, "judge", "()I"⟩
abbrev cX6_seeds : ByteArray := prog_1_method_56_code
def yX6_seeds : MethodName := ⟨RX6, "seeds", "(II)I"⟩
abbrev cX6_image : ByteArray := prog_1_method_57_code
def yX6_image : MethodName := ⟨RX6, "image", "()I"⟩
abbrev cX6_restore : ByteArray := prog_1_method_58_code
def yX6_restore : MethodName := ⟨RX6, "restore", "()I"⟩
def RX7 : String := "DripsOnBelowModel"
def TX7 : u_T := fun k => match k with
  | 0 => ("DripsOnBelowModel", "storeys", "I", false)
  | 1 => ("DripsOnBelowModel", "stacks", "I", false)
  | 2 => ("DripsOnBelowModel", "blows", "I", false)
  | 3 => ("DripsOnBelowModel", "weeks", "I", false)
  | 4 => ("DripsOnBelowModel", "habits", "I", false)
  | 5 => ("DripsOnBelowModel", "saucers", "[I", true)
  | 6 => ("DripsOnBelowModel", "holds", "[I", true)
  | 7 => ("DripsOnBelowModel", "awnings", "[I", true)
  | 8 => ("DripsOnBelowModel", "washings", "[I", true)
  | 9 => ("DripsOnBelowModel", "hungs", "[I", true)
  | 10 => ("DripsOnBelowModel", "flatOf", "[I", true)
  | 11 => ("DripsOnBelowModel", "harms", "[I", true)
  | 12 => ("DripsOnBelowModel", "latest", "[I", true)
  | 13 => ("DripsOnBelowModel", "angers", "[I", true)
  | 14 => ("DripsOnBelowModel", "habitOf", "[I", true)
  | 15 => ("DripsOnBelowModel", "kinds", "[I", true)
  | 16 => ("DripsOnBelowModel", "figures", "[I", true)
  | 17 => ("DripsOnBelowModel", "times", "[I", true)
  | 18 => ("DripsOnBelowModel", "thrown", "I", false)
  | 19 => ("DripsOnBelowModel", "refusals", "[I", true)
  | 20 => ("DripsOnBelowModel", "held", "[I", true)
  | 21 => ("DripsOnBelowModel", "harmed0", "[I", true)
  | 22 => ("DripsOnBelowModel", "harmedBy", "[I", true)
  | 23 => ("DripsOnBelowModel", "wayFlats", "[I", true)
  | 24 => ("DripsOnBelowModel", "wayMany", "I", false)
  | 25 => ("DripsOnBelowModel", "letters", "[I", true)
  | 26 => ("DripsOnBelowModel", "letterMany", "I", false)
  | 27 => ("DripsOnBelowModel", "at", "I", false)
  | 28 => ("DripsOnBelowModel", "isBad", "Z", false)
  | 29 => ("DripsOnBelowModel", "statements", "I", false)
  | 30 => ("DripsOnBelowModel", "placeOf", "[I", true)
  | 31 => ("DripsOnBelowModel", "letterOf", "[I", true)
  | 32 => ("DripsOnBelowModel", "told", "[I", true)
  | 33 => ("DripsOnBelowModel", "kept", "[I", true)
  | 34 => ("DripsOnBelowModel", "imaged", "[I", true)
  | 35 => ("DripsOnBelowModel", "hasImage", "Z", false)
  | 36 => ("DripsOnBelowModel", "place", "I", false)
  | 37 => ("DripsOnBelowModel", "isTaking", "Z", false)
  | 38 => ("DripsOnBelowModel", "keptIn", "[I", false)
  | 39 => ("DripsOnBelowModel", "timesWere", "[I", true)
  | 40 => ("DripsOnBelowModel", "harmWas", "[I", true)
  | 41 => ("DripsOnBelowModel", "row", "[I", true)
  | _ => ("DripsOnBelowModel", "rowMany", "I", false)
def tyX7 : Nat → FieldType := fun k => match k with
  | 0 => .int
  | 1 => .int
  | 2 => .int
  | 3 => .int
  | 4 => .int
  | 5 => .array .int
  | 6 => .array .int
  | 7 => .array .int
  | 8 => .array .int
  | 9 => .array .int
  | 10 => .array .int
  | 11 => .array .int
  | 12 => .array .int
  | 13 => .array .int
  | 14 => .array .int
  | 15 => .array .int
  | 16 => .array .int
  | 17 => .array .int
  | 18 => .int
  | 19 => .array .int
  | 20 => .array .int
  | 21 => .array .int
  | 22 => .array .int
  | 23 => .array .int
  | 24 => .int
  | 25 => .array .int
  | 26 => .int
  | 27 => .int
  | 28 => .boolean
  | 29 => .int
  | 30 => .array .int
  | 31 => .array .int
  | 32 => .array .int
  | 33 => .array .int
  | 34 => .array .int
  | 35 => .boolean
  | 36 => .int
  | 37 => .boolean
  | 38 => .array .int
  | 39 => .array .int
  | 40 => .array .int
  | 41 => .array .int
  | _ => .int
abbrev wsX70 : List Cond := u_ws RX7 TX7 43
theorem nmX7 : ∀ a, a < 43 → ∀ b, b < 43 → a ≠ b → (TX7 a).2.1 ≠ (TX7 b).2.1 := by decide +kernel
theorem tyX7_ok : ∀ k, k < 43 → parseFieldDescriptor (TX7 k).2.2.1 = some (tyX7 k) := by decide +kernel
abbrev cX7_init : ByteArray := prog_9_method_1_code
def yX7_init : MethodName := ⟨RX7, "<init>", "()V"⟩
abbrev cX7_in : ByteArray := prog_9_method_3_code
def yX7_in : MethodName := ⟨RX7, "in", "(JJJ)Z"⟩
abbrev cX7_clearAll : ByteArray := prog_9_method_4_code
def yX7_clearAll : MethodName := ⟨RX7, "clearAll", "()V"⟩
abbrev cX7_refuse : ByteArray := prog_9_method_5_code
def yX7_refuse : MethodName := ⟨RX7, "refuse", "(I)I"⟩
abbrev cX7_tenants : ByteArray := prog_9_method_6_code
def yX7_tenants : MethodName := ⟨RX7, "tenants", "()I"⟩
abbrev cX7_flatAt : ByteArray := prog_9_method_7_code
def yX7_flatAt : MethodName := ⟨RX7, "flatAt", "(I)I"⟩
abbrev cX7_toldAs : ByteArray := prog_9_method_8_code
def yX7_toldAs : MethodName := ⟨RX7, "toldAs", "(I)I"⟩
abbrev cX7_isTenant : ByteArray := prog_9_method_9_code
def yX7_isTenant : MethodName := ⟨RX7, "isTenant", "(I)Z"⟩
abbrev cX7_areTenants : ByteArray := prog_9_method_10_code
def yX7_areTenants : MethodName := ⟨RX7, "areTenants", "(II)Z"⟩
abbrev cX7_isHabit : ByteArray := prog_9_method_11_code
def yX7_isHabit : MethodName := ⟨RX7, "isHabit", "(I)Z"⟩
abbrev cX7_livesIn : ByteArray := prog_9_method_12_code
def yX7_livesIn : MethodName := ⟨RX7, "livesIn", "(I)I"⟩
abbrev cX7_nextOf : ByteArray := prog_9_method_13_code
def yX7_nextOf : MethodName := ⟨RX7, "nextOf", "(II)I"⟩
abbrev cX7_lesser : ByteArray := prog_9_method_14_code
def yX7_lesser : MethodName := ⟨RX7, "lesser", "(II)I"⟩
abbrev cX7_harmOf : ByteArray := prog_9_method_15_code
def yX7_harmOf : MethodName := ⟨RX7, "harmOf", "(IIII)I"⟩
abbrev cX7_beginMind : ByteArray := prog_9_method_16_code
def yX7_beginMind : MethodName := ⟨RX7, "beginMind", "()V"⟩
abbrev cX7_clearHarm : ByteArray := prog_9_method_17_code
def yX7_clearHarm : MethodName := ⟨RX7, "clearHarm", "()V"⟩
abbrev cX7_keptAt : ByteArray := prog_9_method_18_code
def yX7_keptAt : MethodName := ⟨RX7, "keptAt", "(III)I"⟩
abbrev cX7_fall : ByteArray := prog_9_method_19_code
def yX7_fall : MethodName := ⟨RX7, "fall", "(I)V"⟩
abbrev cX7_sumHarm : ByteArray := prog_9_method_20_code
def yX7_sumHarm : MethodName := ⟨RX7, "sumHarm", "()I"⟩
abbrev cX7_weekOn : ByteArray := prog_9_method_21_code
def yX7_weekOn : MethodName := ⟨RX7, "weekOn", "()I"⟩
abbrev cX7_oneWeek : ByteArray := prog_9_method_22_code
def yX7_oneWeek : MethodName := ⟨RX7, "oneWeek", "()I"⟩
abbrev cX7_oneWeekOf : ByteArray := prog_9_method_23_code
def yX7_oneWeekOf : MethodName := ⟨RX7, "oneWeekOf", "(I)I"⟩
abbrev cX7_keepWeek : ByteArray := prog_9_method_24_code
def yX7_keepWeek : MethodName := ⟨RX7, "keepWeek", "()V"⟩
abbrev cX7_feed : ByteArray := prog_9_method_25_code
def yX7_feed : MethodName := ⟨RX7, "feed", "(I)I"⟩
abbrev cX7_here : ByteArray := prog_9_method_26_code
def yX7_here : MethodName := ⟨RX7, "here", "()I"⟩
abbrev cX7_readDigit : ByteArray := prog_9_method_27_code
def yX7_readDigit : MethodName := ⟨RX7, "readDigit", "()I"⟩
abbrev cX7_readTwo : ByteArray := prog_9_method_28_code
def yX7_readTwo : MethodName := ⟨RX7, "readTwo", "()I"⟩
abbrev cX7_readSign : ByteArray := prog_9_method_29_code
def yX7_readSign : MethodName := ⟨RX7, "readSign", "()I"⟩
abbrev cX7_readHours : ByteArray := prog_9_method_30_code
def yX7_readHours : MethodName := ⟨RX7, "readHours", "()I"⟩
abbrev cX7_readTenant : ByteArray := prog_9_method_31_code
def yX7_readTenant : MethodName := ⟨RX7, "readTenant", "()I"⟩
abbrev cX7_readStatement : ByteArray := prog_9_method_32_code
def yX7_readStatement : MethodName := ⟨RX7, "readStatement", "()V"⟩
abbrev cX7_frontComes : ByteArray := prog_9_method_33_code
def yX7_frontComes : MethodName := ⟨RX7, "frontComes", "(II)Z"⟩
abbrev cX7_habitComes : ByteArray := prog_9_method_34_code
def yX7_habitComes : MethodName := ⟨RX7, "habitComes", "(I)Z"⟩
abbrev cX7_saucerIs : ByteArray := prog_9_method_35_code
def yX7_saucerIs : MethodName := ⟨RX7, "saucerIs", "(II)V"⟩
abbrev cX7_flatComes : ByteArray := prog_9_method_36_code
def yX7_flatComes : MethodName := ⟨RX7, "flatComes", "(II)Z"⟩
abbrev cX7_comes : ByteArray := prog_9_method_37_code
def yX7_comes : MethodName := ⟨RX7, "comes", "(I)Z"⟩
abbrev cX7_front : ByteArray := prog_9_method_38_code
def yX7_front : MethodName := ⟨RX7, "front", "()I"⟩
abbrev cX7_carry : ByteArray := prog_9_method_39_code
def yX7_carry : MethodName := ⟨RX7, "carry", "(I)I"⟩
abbrev cX7_carryAll : ByteArray := prog_9_method_40_code
def yX7_carryAll : MethodName := ⟨RX7, "carryAll", "([IZ)V"⟩
abbrev cX7_image : ByteArray := prog_9_method_41_code
def yX7_image : MethodName := ⟨RX7, "image", "()I"⟩
abbrev cX7_restore : ByteArray := prog_9_method_42_code
def yX7_restore : MethodName := ⟨RX7, "restore", "()I"⟩
abbrev cX7_flat : ByteArray := prog_9_method_43_code
def yX7_flat : MethodName := ⟨RX7, "flat", "(II)I"⟩
abbrev cX7_habitsOf : ByteArray := prog_9_method_44_code
def yX7_habitsOf : MethodName := ⟨RX7, "habitsOf", "(I)I"⟩
abbrev cX7_tenant : ByteArray := prog_9_method_45_code
def yX7_tenant : MethodName := ⟨RX7, "tenant", "(II)I"⟩
abbrev cX7_anger : ByteArray := prog_9_method_46_code
def yX7_anger : MethodName := ⟨RX7, "anger", "(II)I"⟩
abbrev cX7_habit : ByteArray := prog_9_method_47_code
def yX7_habit : MethodName := ⟨RX7, "habit", "(II)I"⟩
abbrev cX7_isTime : ByteArray := prog_9_method_48_code
def yX7_isTime : MethodName := ⟨RX7, "isTime", "(I)Z"⟩
abbrev cX7_put : ByteArray := prog_9_method_49_code
def yX7_put : MethodName := ⟨RX7, "put", "(II)I"⟩
abbrev cX7_wrongNumber : ByteArray := prog_9_method_50_code
def yX7_wrongNumber : MethodName := ⟨RX7, "wrongNumber", "(III)I"⟩
abbrev cX7_saucer : ByteArray := prog_9_method_51_code
def yX7_saucer : MethodName := ⟨RX7, "saucer", "(II)I"⟩
abbrev cX7_awning : ByteArray := prog_9_method_52_code
def yX7_awning : MethodName := ⟨RX7, "awning", "(II)I"⟩
abbrev cX7_wash : ByteArray := prog_9_method_53_code
def yX7_wash : MethodName := ⟨RX7, "wash", "(III)I"⟩
abbrev cX7_wind : ByteArray := prog_9_method_54_code
def yX7_wind : MethodName := ⟨RX7, "wind", "(I)I"⟩
abbrev cX7_change : ByteArray := prog_9_method_55_code
def yX7_change : MethodName := ⟨RX7, "change", "(II)V"⟩
abbrev cX7_move : ByteArray := prog_9_method_56_code
def yX7_move : MethodName := ⟨RX7, "move", "(II)I"⟩
abbrev cX7_rain : ByteArray := prog_9_method_57_code
def yX7_rain : MethodName := ⟨RX7, "rain", "()I"⟩
abbrev cX7_week : ByteArray := prog_9_method_58_code
def yX7_week : MethodName := ⟨RX7, "week", "()I"⟩
abbrev cX7_fallAlone : ByteArray := prog_9_method_59_code
def yX7_fallAlone : MethodName := ⟨RX7, "fallAlone", "(I)V"⟩
abbrev cX7_steps : ByteArray := prog_9_method_60_code
def yX7_steps : MethodName := ⟨RX7, "steps", "(II)I"⟩
abbrev cX7_down : ByteArray := prog_9_method_61_code
def yX7_down : MethodName := ⟨RX7, "down", "(I)I"⟩
abbrev cX7_comesTo : ByteArray := prog_9_method_62_code
def yX7_comesTo : MethodName := ⟨RX7, "comesTo", "(II)Z"⟩
abbrev cX7_whom : ByteArray := prog_9_method_63_code
def yX7_whom : MethodName := ⟨RX7, "whom", "(II)I"⟩
abbrev cX7_does : ByteArray := prog_9_method_64_code
def yX7_does : MethodName := ⟨RX7, "does", "(II)I"⟩
abbrev cX7_harmed : ByteArray := prog_9_method_65_code
def yX7_harmed : MethodName := ⟨RX7, "harmed", "(II)I"⟩
abbrev cX7_least : ByteArray := prog_9_method_66_code
def yX7_least : MethodName := ⟨RX7, "least", "(II)I"⟩
abbrev cX7_hours : ByteArray := prog_9_method_67_code
def yX7_hours : MethodName := ⟨RX7, "hours", "(III)I"⟩
abbrev cX7_keepTimes : ByteArray := prog_9_method_68_code
def yX7_keepTimes : MethodName := ⟨RX7, "keepTimes", "()V"⟩
abbrev cX7_timesBack : ByteArray := prog_9_method_69_code
def yX7_timesBack : MethodName := ⟨RX7, "timesBack", "()V"⟩
abbrev cX7_quietHarm : ByteArray := prog_9_method_70_code
def yX7_quietHarm : MethodName := ⟨RX7, "quietHarm", "(II)I"⟩
abbrev cX7_quiet : ByteArray := prog_9_method_71_code
def yX7_quiet : MethodName := ⟨RX7, "quiet", "(II)I"⟩
abbrev cX7_rule : ByteArray := prog_9_method_72_code
def yX7_rule : MethodName := ⟨RX7, "rule", "()I"⟩
abbrev cX7_hang : ByteArray := prog_9_method_73_code
def yX7_hang : MethodName := ⟨RX7, "hang", "(I)I"⟩
abbrev cX7_big : ByteArray := prog_9_method_74_code
def yX7_big : MethodName := ⟨RX7, "big", "(I)I"⟩
abbrev cX7_leads : ByteArray := prog_9_method_75_code
def yX7_leads : MethodName := ⟨RX7, "leads", "(I)I"⟩
abbrev cX7_keepHarm : ByteArray := prog_9_method_76_code
def yX7_keepHarm : MethodName := ⟨RX7, "keepHarm", "()V"⟩
abbrev cX7_whose : ByteArray := prog_9_method_77_code
def yX7_whose : MethodName := ⟨RX7, "whose", "(II)I"⟩
abbrev cX7_weekBoth : ByteArray := prog_9_method_78_code
def yX7_weekBoth : MethodName := ⟨RX7, "weekBoth", "(II)V"⟩
abbrev cX7_deal : ByteArray := prog_9_method_79_code
def yX7_deal : MethodName := ⟨RX7, "deal", "(II)I"⟩
abbrev cX7_pays : ByteArray := prog_9_method_80_code
def yX7_pays : MethodName := ⟨RX7, "pays", "(III)I"⟩
abbrev cX7_isAngry : ByteArray := prog_9_method_81_code
def yX7_isAngry : MethodName := ⟨RX7, "isAngry", "(I)Z"⟩
abbrev cX7_revenge : ByteArray := prog_9_method_82_code
def yX7_revenge : MethodName := ⟨RX7, "revenge", "()V"⟩
abbrev cX7_climbs : ByteArray := prog_9_method_83_code
def yX7_climbs : MethodName := ⟨RX7, "climbs", "()I"⟩
abbrev cX7_worth : ByteArray := prog_9_method_84_code
def yX7_worth : MethodName := ⟨RX7, "worth", "(I)I"⟩
abbrev cX7_haveLess : ByteArray := prog_9_method_85_code
def yX7_haveLess : MethodName := ⟨RX7, "haveLess", "(II)Z"⟩
abbrev cX7_pairsOf : ByteArray := prog_9_method_86_code
def yX7_pairsOf : MethodName := ⟨RX7, "pairsOf", "(I)I"⟩
abbrev cX7_isRing : ByteArray := prog_9_method_87_code
def yX7_isRing : MethodName := ⟨RX7, "isRing", "(III)Z"⟩
abbrev cX7_ringsOf : ByteArray := prog_9_method_88_code
def yX7_ringsOf : MethodName := ⟨RX7, "ringsOf", "()I"⟩
abbrev cX7_swaps : ByteArray := prog_9_method_89_code
def yX7_swaps : MethodName := ⟨RX7, "swaps", "(I)I"⟩
abbrev cX7_divisor : ByteArray := prog_9_method_90_code
def yX7_divisor : MethodName := ⟨RX7, "divisor", "(II)I"⟩
abbrev cX7_peg : ByteArray := prog_9_method_91_code
def yX7_peg : MethodName := ⟨RX7, "peg", "(III)J"⟩
abbrev cX7_row : ByteArray := prog_9_method_92_code
def yX7_row : MethodName := ⟨RX7, "row", "(I)I"⟩
abbrev cX7_judge : ByteArray := prog_9_method_93_code
def yX7_judge : MethodName := ⟨RX7, "judge", "()I"⟩
abbrev cX7_seeds : ByteArray := prog_9_method_94_code
def yX7_seeds : MethodName := ⟨RX7, "seeds", "(II)I"⟩
abbrev cX7_sumOf : ByteArray := prog_9_method_95_code
def yX7_sumOf : MethodName := ⟨RX7, "sumOf", "([II)I"⟩
abbrev cX7_count : ByteArray := prog_9_method_96_code
def yX7_count : MethodName := ⟨RX7, "count", "(I)I"⟩
def RJx145de : String := "java/io/Serializable"
def TJx145de : u_T := fun k => match k with
  | _ => ("", "", "", false)
def tyJx145de : Nat → FieldType := fun k => match k with
  | _ => .int
abbrev wsJx145de0 : List Cond := u_ws RJx145de TJx145de 0
theorem nmJx145de : ∀ a, a < 0 → ∀ b, b < 0 → a ≠ b → (TJx145de a).2.1 ≠ (TJx145de b).2.1 := by decide +kernel
theorem tyJx145de_ok : ∀ k, k < 0 → parseFieldDescriptor (TJx145de k).2.2.1 = some (tyJx145de k) := by decide +kernel
def RJx9f9b0 : String := "java/lang/CharSequence"
def TJx9f9b0 : u_T := fun k => match k with
  | _ => ("", "", "", false)
def tyJx9f9b0 : Nat → FieldType := fun k => match k with
  | _ => .int
abbrev wsJx9f9b00 : List Cond := u_ws RJx9f9b0 TJx9f9b0 0
theorem nmJx9f9b0 : ∀ a, a < 0 → ∀ b, b < 0 → a ≠ b → (TJx9f9b0 a).2.1 ≠ (TJx9f9b0 b).2.1 := by decide +kernel
theorem tyJx9f9b0_ok : ∀ k, k < 0 → parseFieldDescriptor (TJx9f9b0 k).2.2.1 = some (tyJx9f9b0 k) := by decide +kernel
def RJxb160c : String := "java/lang/Comparable"
def TJxb160c : u_T := fun k => match k with
  | _ => ("", "", "", false)
def tyJxb160c : Nat → FieldType := fun k => match k with
  | _ => .int
abbrev wsJxb160c0 : List Cond := u_ws RJxb160c TJxb160c 0
theorem nmJxb160c : ∀ a, a < 0 → ∀ b, b < 0 → a ≠ b → (TJxb160c a).2.1 ≠ (TJxb160c b).2.1 := by decide +kernel
theorem tyJxb160c_ok : ∀ k, k < 0 → parseFieldDescriptor (TJxb160c k).2.2.1 = some (tyJxb160c k) := by decide +kernel
def RJ9 : String := "java/lang/Math"
def TJ9 : u_T := fun k => match k with
  | _ => ("", "", "", false)
def tyJ9 : Nat → FieldType := fun k => match k with
  | _ => .int
abbrev wsJ90 : List Cond := u_ws RJ9 TJ9 0
theorem nmJ9 : ∀ a, a < 0 → ∀ b, b < 0 → a ≠ b → (TJ9 a).2.1 ≠ (TJ9 b).2.1 := by decide +kernel
theorem tyJ9_ok : ∀ k, k < 0 → parseFieldDescriptor (TJ9 k).2.2.1 = some (tyJ9 k) := by decide +kernel
abbrev cJ9_abs_0f7a4 : ByteArray := prog_10_method_59_code
def yJ9_abs_0f7a4 : MethodName := ⟨RJ9, "abs", "(I)I"⟩
abbrev cJ9_max_7cf53 : ByteArray := prog_10_method_65_code
def yJ9_max_7cf53 : MethodName := ⟨RJ9, "max", "(II)I"⟩
abbrev cJ9_min_7cf53 : ByteArray := prog_10_method_69_code
def yJ9_min_7cf53 : MethodName := ⟨RJ9, "min", "(II)I"⟩
def RJ0 : String := "java/lang/String"
def TJ0 : u_T := fun k => match k with
  | _ => ("", "", "", false)
def tyJ0 : Nat → FieldType := fun k => match k with
  | _ => .int
abbrev wsJ00 : List Cond := u_ws RJ0 TJ0 0
theorem nmJ0 : ∀ a, a < 0 → ∀ b, b < 0 → a ≠ b → (TJ0 a).2.1 ≠ (TJ0 b).2.1 := by decide +kernel
theorem tyJ0_ok : ∀ k, k < 0 → parseFieldDescriptor (TJ0 k).2.2.1 = some (tyJ0 k) := by decide +kernel
abbrev cJ0_length_8abf5 : ByteArray := prog_11_method_54_code
def yJ0_length_8abf5 : MethodName := ⟨RJ0, "length", "()I"⟩
abbrev cJ0_isEmpty_aae02 : ByteArray := prog_11_method_55_code
def yJ0_isEmpty_aae02 : MethodName := ⟨RJ0, "isEmpty", "()Z"⟩
abbrev cJ0_charAt_5068e : ByteArray := prog_11_method_56_code
def yJ0_charAt_5068e : MethodName := ⟨RJ0, "charAt", "(I)C"⟩
abbrev cJ0_coder_7d493 : ByteArray := prog_11_method_152_code
def yJ0_coder_7d493 : MethodName := ⟨RJ0, "coder", "()B"⟩
abbrev cJ0_isLatin1_aae02 : ByteArray := prog_11_method_154_code
def yJ0_isLatin1_aae02 : MethodName := ⟨RJ0, "isLatin1", "()Z"⟩
abbrev cJ0_checkIndex_df160 : ByteArray := prog_11_method_155_code
def yJ0_checkIndex_df160 : MethodName := ⟨RJ0, "checkIndex", "(II)V"⟩
def RJ1 : String := "java/lang/StringLatin1"
def TJ1 : u_T := fun k => match k with
  | _ => ("", "", "", false)
def tyJ1 : Nat → FieldType := fun k => match k with
  | _ => .int
abbrev wsJ10 : List Cond := u_ws RJ1 TJ1 0
theorem nmJ1 : ∀ a, a < 0 → ∀ b, b < 0 → a ≠ b → (TJ1 a).2.1 ≠ (TJ1 b).2.1 := by decide +kernel
theorem tyJ1_ok : ∀ k, k < 0 → parseFieldDescriptor (TJ1 k).2.2.1 = some (tyJ1 k) := by decide +kernel
abbrev cJ1_charAt_3b067 : ByteArray := prog_12_method_2_code
def yJ1_charAt_3b067 : MethodName := ⟨RJ1, "charAt", "([BI)C"⟩
def RJ2 : String := "java/lang/StringUTF16"
def TJ2 : u_T := fun k => match k with
  | _ => ("", "", "", false)
def tyJ2 : Nat → FieldType := fun k => match k with
  | _ => .int
abbrev wsJ20 : List Cond := u_ws RJ2 TJ2 0
theorem nmJ2 : ∀ a, a < 0 → ∀ b, b < 0 → a ≠ b → (TJ2 a).2.1 ≠ (TJ2 b).2.1 := by decide +kernel
theorem tyJ2_ok : ∀ k, k < 0 → parseFieldDescriptor (TJ2 k).2.2.1 = some (tyJ2 k) := by decide +kernel
abbrev cJ2_getChar_3b067 : ByteArray := prog_13_method_5_code
def yJ2_getChar_3b067 : MethodName := ⟨RJ2, "getChar", "([BI)C"⟩
abbrev cJ2_length_9d52b : ByteArray := prog_13_method_6_code
def yJ2_length_9d52b : MethodName := ⟨RJ2, "length", "([B)I"⟩
abbrev cJ2_charAt_3b067 : ByteArray := prog_13_method_83_code
def yJ2_charAt_3b067 : MethodName := ⟨RJ2, "charAt", "([BI)C"⟩
abbrev cJ2_checkIndex_2214a : ByteArray := prog_13_method_91_code
def yJ2_checkIndex_2214a : MethodName := ⟨RJ2, "checkIndex", "(I[B)V"⟩
def RJ10 : String := "java/lang/System"
def TJ10 : u_T := fun k => match k with
  | _ => ("", "", "", false)
def tyJ10 : Nat → FieldType := fun k => match k with
  | _ => .int
abbrev wsJ100 : List Cond := u_ws RJ10 TJ10 0
theorem nmJ10 : ∀ a, a < 0 → ∀ b, b < 0 → a ≠ b → (TJ10 a).2.1 ≠ (TJ10 b).2.1 := by decide +kernel
theorem tyJ10_ok : ∀ k, k < 0 → parseFieldDescriptor (TJ10 k).2.2.1 = some (tyJ10 k) := by decide +kernel
def RJxfd54e : String := "java/lang/constant/Constable"
def TJxfd54e : u_T := fun k => match k with
  | _ => ("", "", "", false)
def tyJxfd54e : Nat → FieldType := fun k => match k with
  | _ => .int
abbrev wsJxfd54e0 : List Cond := u_ws RJxfd54e TJxfd54e 0
theorem nmJxfd54e : ∀ a, a < 0 → ∀ b, b < 0 → a ≠ b → (TJxfd54e a).2.1 ≠ (TJxfd54e b).2.1 := by decide +kernel
theorem tyJxfd54e_ok : ∀ k, k < 0 → parseFieldDescriptor (TJxfd54e k).2.2.1 = some (tyJxfd54e k) := by decide +kernel
def RJx3cf43 : String := "java/lang/constant/ConstantDesc"
def TJx3cf43 : u_T := fun k => match k with
  | _ => ("", "", "", false)
def tyJx3cf43 : Nat → FieldType := fun k => match k with
  | _ => .int
abbrev wsJx3cf430 : List Cond := u_ws RJx3cf43 TJx3cf43 0
theorem nmJx3cf43 : ∀ a, a < 0 → ∀ b, b < 0 → a ≠ b → (TJx3cf43 a).2.1 ≠ (TJx3cf43 b).2.1 := by decide +kernel
theorem tyJx3cf43_ok : ∀ k, k < 0 → parseFieldDescriptor (TJx3cf43 k).2.2.1 = some (tyJx3cf43 k) := by decide +kernel
def RJ7 : String := "java/util/Arrays"
def TJ7 : u_T := fun k => match k with
  | _ => ("", "", "", false)
def tyJ7 : Nat → FieldType := fun k => match k with
  | _ => .int
abbrev wsJ70 : List Cond := u_ws RJ7 TJ7 0
theorem nmJ7 : ∀ a, a < 0 → ∀ b, b < 0 → a ≠ b → (TJ7 a).2.1 ≠ (TJ7 b).2.1 := by decide +kernel
theorem tyJ7_ok : ∀ k, k < 0 → parseFieldDescriptor (TJ7 k).2.2.1 = some (tyJ7 k) := by decide +kernel
abbrev cJ7_fill_53178 : ByteArray := prog_15_method_103_code
def yJ7_fill_53178 : MethodName := ⟨RJ7, "fill", "([II)V"⟩
def RJ3 : String := "jdk/internal/util/Preconditions"
def TJ3 : u_T := fun k => match k with
  | _ => ("", "", "", false)
def tyJ3 : Nat → FieldType := fun k => match k with
  | _ => .int
abbrev wsJ30 : List Cond := u_ws RJ3 TJ3 0
theorem nmJ3 : ∀ a, a < 0 → ∀ b, b < 0 → a ≠ b → (TJ3 a).2.1 ≠ (TJ3 b).2.1 := by decide +kernel
theorem tyJ3_ok : ∀ k, k < 0 → parseFieldDescriptor (TJ3 k).2.2.1 = some (tyJ3 k) := by decide +kernel
abbrev cJ3_checkIndex_8e157 : ByteArray := prog_16_method_11_code
def yJ3_checkIndex_8e157 : MethodName := ⟨RJ3, "checkIndex", "(IILjava/util/function/BiFunction;)I"⟩
def RL : String := "DripsOnBelowLaw"
abbrev cL_law : ByteArray := code
def yL_law : MethodName := ⟨RL, "law", "([I)Z"⟩
abbrev vwCl : List vw_C := [(RX0, TX0, 10), (RX1, TX1, 5), (RX2, TX2, 5), (RX3, TX3, 5), (RX4, TX4, 2), (RX5, TX5, 4), (RX6, TX6, 9), (RX7, TX7, 43)]
/-- the words that stay: those of the tables that a callee may be given -/
def TT : List Cond := lw_tbl.filter goodWord
theorem tt_mem {w : Cond} (i : Nat) (h : lw_tbl[i]? = some w) (hg : goodWord w = true) : w ∈ TT := List.mem_filter.mpr ⟨List.mem_of_getElem? h, hg⟩
theorem tt_good : GoodIn TT TT := fun w h => ⟨h, good_of_word (List.mem_filter.mp h).2⟩
theorem tt_lw : ∀ w ∈ TT, w ∈ lw_tbl := fun _ h => (List.mem_filter.mp h).1
theorem tt_sub {ws : List Cond} (ps : List Nat) (hp : ws = ps.filterMap (fun i => lw_tbl[i]?)) (h : ws.all goodWord = true) : ∀ w ∈ ws, w ∈ TT := by
  intro w hw
  have h1 := List.all_eq_true.mp h w hw
  rw [hp] at hw
  obtain ⟨i, -, hi⟩ := List.mem_filterMap.mp hw
  exact List.mem_filter.mpr ⟨List.mem_of_getElem? hi, h1⟩
theorem inTX0 : ∀ w ∈ u_ws RX0 TX0 10, w ∈ TT := tt_sub [141, 143, 145, 147, 149, 151, 153, 155, 157, 159] (by decide +kernel) (by decide +kernel)
theorem inTX1 : ∀ w ∈ u_ws RX1 TX1 5, w ∈ TT := tt_sub [187, 189, 191, 193, 195] (by decide +kernel) (by decide +kernel)
theorem inTX2 : ∀ w ∈ u_ws RX2 TX2 5, w ∈ TT := tt_sub [260, 262, 264, 266, 268] (by decide +kernel) (by decide +kernel)
theorem inTX3 : ∀ w ∈ u_ws RX3 TX3 5, w ∈ TT := tt_sub [213, 215, 217, 219, 221] (by decide +kernel) (by decide +kernel)
theorem inTX4 : ∀ w ∈ u_ws RX4 TX4 2, w ∈ TT := tt_sub [280, 282] (by decide +kernel) (by decide +kernel)
theorem inTX5 : ∀ w ∈ u_ws RX5 TX5 4, w ∈ TT := tt_sub [240, 242, 244, 246] (by decide +kernel) (by decide +kernel)
theorem inTX6 : ∀ w ∈ u_ws RX6 TX6 9, w ∈ TT := tt_sub [294, 296, 298, 300, 302, 304, 306, 308, 310] (by decide +kernel) (by decide +kernel)
theorem inTX7 : ∀ w ∈ u_ws RX7 TX7 43, w ∈ TT := tt_sub [890, 892, 894, 896, 898, 900, 902, 904, 906, 908, 910, 912, 914, 916, 918, 920, 922, 924, 926, 928, 930, 932, 934, 936, 938, 940, 942, 944, 946, 948, 950, 952, 954, 956, 958, 960, 962, 964, 966, 968, 970, 972, 974] (by decide +kernel) (by decide +kernel)
end
section
def ly_kept : Nat := 52
def ly_imaged : Nat := 53
def ly_len : Nat → Option Nat := fun m => match m with
  | 1 => some 10
  | 2 => some 7
  | 3 => some 24
  | 5 => some 96
  | 8 => some 24
  | 9 => some 24
  | 10 => some 24
  | 11 => some 24
  | 12 => some 24
  | 13 => some 24
  | 14 => some 24
  | 16 => some 8
  | 17 => some 8
  | 18 => some 8
  | 19 => some 8
  | 21 => some 24
  | 22 => some 576
  | 23 => some 24
  | 24 => some 24
  | 26 => some 6
  | 27 => some 6
  | 28 => some 6
  | 30 => some 24
  | 31 => some 24
  | 32 => some 24
  | 33 => some 24
  | 34 => some 24
  | 35 => some 24
  | 36 => some 24
  | 37 => some 24
  | 38 => some 576
  | 39 => some 8
  | 40 => some 8
  | 41 => some 8
  | 42 => some 8
  | 43 => some 7
  | 44 => some 24
  | 45 => some 24
  | 46 => some 576
  | 47 => some 8
  | 48 => some 96
  | 49 => some 49
  | 50 => some 49
  | 51 => some 196
  | 52 => some 810
  | 53 => some 810
  | 54 => some 8
  | 55 => some 24
  | 56 => some 10
  | _ => none
def ly_cls : Nat → Nat := fun m => match m with
  | 0 => 6
  | 4 => 4
  | 6 => 2
  | 7 => 0
  | 15 => 1
  | 20 => 3
  | 25 => 5
  | _ => 7
def ly_n : Nat → Nat := fun m => match m with
  | 0 => 9
  | 4 => 2
  | 6 => 5
  | 7 => 10
  | 15 => 5
  | 20 => 5
  | 25 => 4
  | _ => 43
def ly_fX6 (i : Nat × Nat) (k : Nat) : Nat ⊕ (Nat × Nat) := match k with
  | 0 => .inr (1, 6)
  | 1 => .inr (2, 6)
  | 2 => .inr (3, 6)
  | 3 => .inr (0, 4)
  | 4 => .inr (0, 1)
  | 5 => .inr (0, 2)
  | 6 => .inr (0, 3)
  | 7 => .inl 0
  | _ => .inl 1
def ly_fX4 (i : Nat × Nat) (k : Nat) : Nat ⊕ (Nat × Nat) := match k with
  | 0 => .inr (i.1, 5)
  | _ => .inl 0
def ly_fX2 (i : Nat × Nat) (k : Nat) : Nat ⊕ (Nat × Nat) := match k with
  | 0 => .inr (i.1, 7)
  | 1 => .inr (i.1, 15)
  | 2 => .inr (i.1, 20)
  | 3 => .inr (i.1, 25)
  | _ => .inl 0
def ly_fX0 (i : Nat × Nat) (k : Nat) : Nat ⊕ (Nat × Nat) := match k with
  | 0 => .inl 0
  | 1 => .inl 0
  | 2 => .inl 0
  | 3 => .inr (i.1, 8)
  | 4 => .inr (i.1, 9)
  | 5 => .inr (i.1, 10)
  | 6 => .inr (i.1, 11)
  | 7 => .inr (i.1, 12)
  | 8 => .inr (i.1, 13)
  | _ => .inr (i.1, 14)
def ly_fX1 (i : Nat × Nat) (k : Nat) : Nat ⊕ (Nat × Nat) := match k with
  | 0 => .inl 0
  | 1 => .inr (i.1, 16)
  | 2 => .inr (i.1, 17)
  | 3 => .inr (i.1, 18)
  | _ => .inr (i.1, 19)
def ly_fX3 (i : Nat × Nat) (k : Nat) : Nat ⊕ (Nat × Nat) := match k with
  | 0 => .inr (i.1, 21)
  | 1 => .inr (i.1, 22)
  | 2 => .inr (i.1, 23)
  | 3 => .inr (i.1, 24)
  | _ => .inl 0
def ly_fX5 (i : Nat × Nat) (k : Nat) : Nat ⊕ (Nat × Nat) := match k with
  | 0 => .inr (i.1, 26)
  | 1 => .inr (i.1, 27)
  | 2 => .inr (i.1, 28)
  | _ => .inl 0
def ly_fX7 (i : Nat × Nat) (k : Nat) : Nat ⊕ (Nat × Nat) := match k with
  | 0 => .inl 0
  | 1 => .inl 0
  | 2 => .inl 0
  | 3 => .inl 0
  | 4 => .inl 0
  | 5 => .inr (i.1, 30)
  | 6 => .inr (i.1, 31)
  | 7 => .inr (i.1, 32)
  | 8 => .inr (i.1, 33)
  | 9 => .inr (i.1, 34)
  | 10 => .inr (i.1, 35)
  | 11 => .inr (i.1, 36)
  | 12 => .inr (i.1, 37)
  | 13 => .inr (i.1, 38)
  | 14 => .inr (i.1, 39)
  | 15 => .inr (i.1, 40)
  | 16 => .inr (i.1, 41)
  | 17 => .inr (i.1, 42)
  | 18 => .inl 0
  | 19 => .inr (i.1, 43)
  | 20 => .inr (i.1, 44)
  | 21 => .inr (i.1, 45)
  | 22 => .inr (i.1, 46)
  | 23 => .inr (i.1, 47)
  | 24 => .inl 0
  | 25 => .inr (i.1, 48)
  | 26 => .inl 0
  | 27 => .inl 0
  | 28 => .inl 1
  | 29 => .inl 0
  | 30 => .inr (i.1, 49)
  | 31 => .inr (i.1, 50)
  | 32 => .inr (i.1, 51)
  | 33 => .inr (i.1, 52)
  | 34 => .inr (i.1, 53)
  | 35 => .inl 1
  | 36 => .inl 0
  | 37 => .inl 1
  | 38 => .inl 2
  | 39 => .inr (i.1, 54)
  | 40 => .inr (i.1, 55)
  | 41 => .inr (i.1, 56)
  | _ => .inl 0
def ly_f (i : Nat × Nat) (k : Nat) : Nat ⊕ (Nat × Nat) := match i.2 with
  | 0 => ly_fX6 i k
  | 4 => ly_fX4 i k
  | 6 => ly_fX2 i k
  | 7 => ly_fX0 i k
  | 15 => ly_fX1 i k
  | 20 => ly_fX3 i k
  | 25 => ly_fX5 i k
  | _ => ly_fX7 i k
def nestL : List (String × Nat × MethodName × String) := [("DripsOnBelow", 11, ⟨"DripsOnBelow$House", "<init>", "()V"⟩, "DripsOnBelow"), ("DripsOnBelow$Front", 64, ⟨"DripsOnBelow", "set", "([III)V"⟩, "DripsOnBelow"), ("DripsOnBelow$House", 20, ⟨"DripsOnBelow$Habits", "<init>", "()V"⟩, "DripsOnBelow"), ("DripsOnBelow$House", 27, ⟨"DripsOnBelow$Ledger", "<init>", "()V"⟩, "DripsOnBelow"), ("DripsOnBelow$House", 34, ⟨"DripsOnBelow$Way", "<init>", "()V"⟩, "DripsOnBelow"), ("DripsOnBelow", 24, ⟨"DripsOnBelow$Letters", "<init>", "()V"⟩, "DripsOnBelow"), ("DripsOnBelow$Letters", 19, ⟨"DripsOnBelow", "set", "([III)V"⟩, "DripsOnBelow"), ("DripsOnBelow$Letters", 23, ⟨"DripsOnBelow", "get", "([II)I"⟩, "DripsOnBelow"), ("DripsOnBelow$Letters", 31, ⟨"DripsOnBelow", "within", "(III)Z"⟩, "DripsOnBelow"), ("DripsOnBelow$Letters", 87, ⟨"DripsOnBelow", "isHour", "(I)Z"⟩, "DripsOnBelow"), ("DripsOnBelow$Front", 56, ⟨"DripsOnBelow", "copy", "([I[I)V"⟩, "DripsOnBelow"), ("DripsOnBelow$Habits", 32, ⟨"DripsOnBelow", "copy", "([I[I)V"⟩, "DripsOnBelow"), ("DripsOnBelow$Ledger", 33, ⟨"DripsOnBelow", "copy", "([I[I)V"⟩, "DripsOnBelow"), ("DripsOnBelow$Habits", 28, ⟨"DripsOnBelow", "set", "([III)V"⟩, "DripsOnBelow"), ("DripsOnBelow$Front", 68, ⟨"DripsOnBelow", "get", "([II)I"⟩, "DripsOnBelow"), ("DripsOnBelow$Habits", 36, ⟨"DripsOnBelow", "get", "([II)I"⟩, "DripsOnBelow"), ("DripsOnBelow$House", 74, ⟨"DripsOnBelow", "get", "([II)I"⟩, "DripsOnBelow"), ("DripsOnBelow$Way", 30, ⟨"DripsOnBelow", "get", "([II)I"⟩, "DripsOnBelow"), ("DripsOnBelow$Way", 46, ⟨"DripsOnBelow", "set", "([III)V"⟩, "DripsOnBelow"), ("DripsOnBelow$Ledger", 41, ⟨"DripsOnBelow", "get", "([II)I"⟩, "DripsOnBelow"), ("DripsOnBelow$Ledger", 45, ⟨"DripsOnBelow", "set", "([III)V"⟩, "DripsOnBelow"), ("DripsOnBelow$House", 119, ⟨"DripsOnBelow", "set", "([III)V"⟩, "DripsOnBelow"), ("DripsOnBelow$Habits", 40, ⟨"DripsOnBelow", "within", "(III)Z"⟩, "DripsOnBelow")]
def strIdx : Nat → Nat := fun k => match k with
  | 0 => 64
  | 1 => 66
  | 2 => 68
  | 3 => 70
  | 4 => 72
  | 5 => 74
  | _ => 76
def strTx : Nat → String := fun k => match k with
  | 0 => "dd;"
  | 1 => "ddd;"
  | 2 => "dds;"
  | 3 => "dddh;"
  | 4 => "s;"
  | 5 => "do,ddd;"
  | _ => ""
def strLen : List Nat := [3, 4, 4, 5, 2, 7, 0]
def strByt : List (List Int32) := [[100, 100, 59], [100, 100, 100, 59], [100, 100, 115, 59], [100, 100, 100, 104, 59], [115, 59], [100, 111, 44, 100, 100, 100, 59], []]
/-! ===== the abstract machine: values, states (a cell's number and a slot: an int), worlds laid by a layout ===== -/
abbrev AV : Type := Int32 ⊕ (Int64 ⊕ (Nat × Nat))
abbrev Sg : Type := Nat × Nat → Nat → Int32
abbrev aI (x : Int32) : AV := .inl x
abbrev aL (x : Int64) : AV := .inr (.inl x)
abbrev aR (i : Nat × Nat) : AV := .inr (.inr i)
def tr (ad : Nat × Nat → Nat) : AV → Value
  | .inl x => .int x
  | .inr (.inl x) => .long x
  | .inr (.inr i) => .ref (ad i)
def acat : AV → Nat
  | .inl _ => 1
  | .inr (.inl _) => 2
  | .inr (.inr _) => 1
theorem tr_cat (ad : Nat × Nat → Nat) (v : AV) : (tr ad v).category = acat v := by
  rcases v with x | x | x <;> rfl
def upA (σ : Sg) (i : Nat × Nat) (f : Nat → Int32) : Sg := fun j => if j = i then f else σ j
def upS (σ : Sg) (i : Nat × Nat) (k : Nat) (v : Int32) : Sg := upA σ i (upd (σ i) k v)
theorem upA_same (σ : Sg) (i : Nat × Nat) (f : Nat → Int32) : upA σ i f i = f := if_pos rfl
theorem upA_ne (σ : Sg) {i j : Nat × Nat} (f : Nat → Int32) (h : j ≠ i) : upA σ i f j = σ j := if_neg h
/-- what a cell holds -/
def ly_dyn (z : Int32) : Option (Nat × Nat) := if z = 1 then some (0, ly_kept) else if z = 2 then some (0, ly_imaged) else none
def ly_v (ad : Nat × Nat → Nat) (σ : Sg) (i : Nat × Nat) (k : Nat) : Value := match ly_f i k with
  | .inl 2 => va_rf ((ly_dyn (σ i k)).map ad)
  | .inl _ => .int (σ i k)
  | .inr j => .ref (ad j)
def cont (cI : ClassId) (ad : Nat × Nat → Nat) (σ : Sg) (i : Nat × Nat) : va_E := match ly_len i.2 with
  | some n => .inl (cI, n, .inl (σ i))
  | none => .inr (ly_cls i.2, (List.range (ly_n i.2)).map (ly_v ad σ i))
def wOf (ids : List (Nat × Nat)) (cI : ClassId) (ad : Nat × Nat → Nat) (σ : Sg) : va_W := ids.map (fun i => (ad i, cont cI ad σ i))
theorem cont_congr {cI : ClassId} {ad : Nat × Nat → Nat} {σ σ' : Sg} {i : Nat × Nat} (h : σ' i = σ i) : cont cI ad σ' i = cont cI ad σ i := by
  have e : ly_v ad σ' i = ly_v ad σ i := by funext k; unfold ly_v; rw [h]
  unfold cont
  rw [h, e]
theorem w_at {ids : List (Nat × Nat)} (cI : ClassId) (ad : Nat × Nat → Nat) (σ : Sg) {i : Nat × Nat} (h : i ∈ ids) : ∃ k : Nat, ids[k]? = some i ∧ (wOf ids cI ad σ)[k]? = some (ad i, cont cI ad σ i) := by
  obtain ⟨k, hk⟩ := List.getElem?_of_mem h
  exact ⟨k, hk, by unfold wOf; rw [List.getElem?_map, hk]; rfl⟩
/-- no cell twice -/
def Ndp (ids : List (Nat × Nat)) : Prop := ∀ (a b : Nat) (i : Nat × Nat), ids[a]? = some i → ids[b]? = some i → a = b
def ndb : List (Nat × Nat) → Bool
  | [] => true
  | a :: l => decide (a ∉ l) && ndb l
theorem Ndp.of : ∀ (l : List (Nat × Nat)), ndb l = true → Ndp l
  | [], _, i, j, a, h, _ => by simp at h
  | b :: l, hn, i, j, a, h1, h2 => by
    simp only [ndb, Bool.and_eq_true, decide_eq_true_eq] at hn
    cases i with
    | zero =>
      cases j with
      | zero => rfl
      | succ j =>
        rw [List.getElem?_cons_zero] at h1
        rw [List.getElem?_cons_succ] at h2
        cases h1
        exact absurd (List.mem_of_getElem? h2) hn.1
    | succ i =>
      rw [List.getElem?_cons_succ] at h1
      cases j with
      | zero =>
        rw [List.getElem?_cons_zero] at h2
        cases h2
        exact absurd (List.mem_of_getElem? h1) hn.1
      | succ j =>
        rw [List.getElem?_cons_succ] at h2
        rw [Ndp.of l hn.2 i j a h1 h2]
theorem w_set {ids : List (Nat × Nat)} (hn : Ndp ids) (cI : ClassId) (ad : Nat × Nat → Nat) (σ : Sg) {i : Nat × Nat} (f : Nat → Int32) {k : Nat} (hk : ids[k]? = some i) : (wOf ids cI ad σ).set k (ad i, cont cI ad (upA σ i f) i) = wOf ids cI ad (upA σ i f) := by
  obtain ⟨hl, hki⟩ := List.getElem?_eq_some_iff.mp hk
  apply List.ext_getElem?
  intro n
  by_cases hnk : n = k
  · subst hnk
    rw [List.getElem?_set_self (by unfold wOf; rw [List.length_map]; exact hl)]
    unfold wOf
    rw [List.getElem?_map, hk]
    rfl
  · rw [List.getElem?_set_ne (Ne.symm hnk)]
    unfold wOf
    rw [List.getElem?_map, List.getElem?_map]
    cases hq : ids[n]? with
    | none => rfl
    | some j =>
      have hji : j ≠ i := by
        intro e
        subst e
        exact hnk (hn _ _ _ hq hk)
      show some (ad j, cont cI ad σ j) = some (ad j, cont cI ad (upA σ i f) j)
      rw [cont_congr (upA_ne σ f hji)]
def inA (ids : List (Nat × Nat)) (ad : Nat × Nat → Nat) : Nat → Prop := fun q => ∃ i ∈ ids, q = ad i
def inj (ids : List (Nat × Nat)) (ad : Nat × Nat → Nat) : Prop := ∀ i ∈ ids, ∀ j ∈ ids, ad i = ad j → i = j
theorem w_D {ids : List (Nat × Nat)} {ad : Nat × Nat → Nat} (hn : Ndp ids) (hj : inj ids ad) (cI : ClassId) (σ : Sg) : va_D (inA ids ad) (wOf ids cI ad σ) := by
  have key : ∀ (k : Nat) (q : Nat × va_E), (wOf ids cI ad σ)[k]? = some q → ∃ i, ids[k]? = some i ∧ q.1 = ad i := by
    intro k q hq
    unfold wOf at hq
    rw [List.getElem?_map] at hq
    cases hi : ids[k]? with
    | none => rw [hi] at hq; cases hq
    | some i => rw [hi] at hq; cases hq; exact ⟨i, rfl, rfl⟩
  refine ⟨fun a b p q ha hb e => ?_, fun k q hq => ?_⟩
  · obtain ⟨i, h1, h2⟩ := key a p ha
    obtain ⟨j, h3, h4⟩ := key b q hb
    have hij := hj i (List.mem_of_getElem? h1) j (List.mem_of_getElem? h3) (h2.symm.trans (e.trans h4))
    subst hij
    exact hn _ _ _ h1 h3
  · obtain ⟨i, h1, h2⟩ := key k q hq
    exact ⟨i, List.mem_of_getElem? h1, h2⟩
/-! locals by place -/
def toAL (ad : Nat × Nat → Nat) : Nat → List (Option AV) → List (Nat × Value)
  | _, [] => []
  | k, none :: t => toAL ad (k + 1) t
  | k, some v :: t => (k, tr ad v) :: toAL ad (k + 1) t
theorem toAL_get {ad : Nat × Nat → Nat} : ∀ (L : List (Option AV)) (b k : Nat) (v : AV), L[k]? = some (some v) → (b + k, tr ad v) ∈ toAL ad b L
  | [], _, _, _, h => by simp at h
  | x :: t, b, 0, v, h => by
    rw [List.getElem?_cons_zero] at h
    cases h
    exact List.mem_cons_self
  | x :: t, b, k + 1, v, h => by
    rw [List.getElem?_cons_succ] at h
    have h1 := toAL_get (ad := ad) t (b + 1) k v h
    rw [show b + 1 + k = b + (k + 1) by omega] at h1
    cases x with
    | none => exact h1
    | some w => exact List.mem_cons_of_mem _ h1
theorem toAL_mem {ad : Nat × Nat → Nat} : ∀ (L : List (Option AV)) (b : Nat) (q : Nat × Value), q ∈ toAL ad b L → ∃ k v, L[k]? = some (some v) ∧ q = (b + k, tr ad v)
  | [], _, _, h => by cases h
  | none :: t, b, q, h => by
    obtain ⟨k, v, h1, h2⟩ := toAL_mem t (b + 1) q h
    exact ⟨k + 1, v, by rw [List.getElem?_cons_succ]; exact h1, by rw [h2, show b + 1 + k = b + (k + 1) by omega]⟩
  | some w :: t, b, q, h => by
    rcases List.mem_cons.mp h with rfl | h
    · exact ⟨0, w, rfl, rfl⟩
    · obtain ⟨k, v, h1, h2⟩ := toAL_mem t (b + 1) q h
      exact ⟨k + 1, v, by rw [List.getElem?_cons_succ]; exact h1, by rw [h2, show b + 1 + k = b + (k + 1) by omega]⟩
/-- the value in place i is put; a long that lay across is not among those kept -/
def okS (i : Nat) (L : List (Option AV)) : Bool := match i with
  | 0 => true
  | j + 1 => match L[j]? with
    | some (some (.inr (.inl _))) => false
    | _ => true
theorem lv_setA {ad : Nat × Nat → Nat} {ls : Array Slot} {nL i : Nat} {v : AV} {L L' : List (Option AV)} (h : lv_has ls nL ((i, tr ad v) :: (toAL ad 0 L).filter (fun q => !(q.1 == i) && !(q.1 + 1 == i && q.2.category == 2)))) (hL : L.set i (some v) = L') (ho : okS i L = true) : lv_has ls nL (toAL ad 0 L') := by
  refine ⟨h.1, h.2.1, fun q hq => ?_⟩
  obtain ⟨k, w, h1, rfl⟩ := toAL_mem L' 0 q hq
  rw [Nat.zero_add]
  subst hL
  by_cases hk : k = i
  · subst hk
    have hl : k < L.length := by
      have := (List.getElem?_eq_some_iff.mp h1).1
      rwa [List.length_set] at this
    rw [List.getElem?_set_self hl] at h1
    cases h1
    exact h.2.2 (k, tr ad v) List.mem_cons_self
  · rw [List.getElem?_set_ne (Ne.symm hk)] at h1
    refine h.2.2 (k, tr ad w) (List.mem_cons_of_mem _ (List.mem_filter.mpr ⟨by have := toAL_get (ad := ad) L 0 k w h1; rwa [Nat.zero_add] at this, ?_⟩))
    simp only [Bool.and_eq_true, Bool.not_eq_true', beq_eq_false_iff_ne, ne_eq, Bool.and_eq_false_iff]
    refine ⟨hk, ?_⟩
    by_cases hki : k + 1 = i
    · right
      subst hki
      rw [tr_cat]
      rcases w with x | x | x
      · exact (by decide : ¬ (1 = 2))
      · have ho2 : (match L[k]? with | some (some (.inr (.inl _))) => false | _ => true) = true := ho
        rw [h1] at ho2
        cases ho2
      · exact (by decide : ¬ (1 = 2))
    · left; exact hki
theorem lv_atA {ad : Nat × Nat → Nat} {ls : Array Slot} {nL k : Nat} {v : AV} {L : List (Option AV)} (h : lv_has ls nL (toAL ad 0 L)) (hk : L[k]? = some (some v)) : ls[k]? = some (.val (tr ad v)) := by
  have h1 := h.2.2 _ (toAL_get (ad := ad) L 0 k v hk)
  rwa [Nat.zero_add] at h1
def leL : List (Option AV) → List (Option AV) → Prop
  | [], _ => True
  | none :: t, [] => leL t []
  | none :: t, _ :: t' => leL t t'
  | some _ :: _, [] => False
  | some v :: t, w :: t' => w = some v ∧ leL t t'
theorem leL_get : ∀ (L' L : List (Option AV)) (k : Nat) (v : AV), leL L' L → L'[k]? = some (some v) → L[k]? = some (some v)
  | [], _, _, _, _, h => by simp at h
  | none :: t, [], 0, v, _, h => by simp at h
  | none :: t, [], k + 1, v, hl, h => by
    rw [List.getElem?_cons_succ] at h
    have := leL_get t [] k v hl h
    simp at this
  | none :: t, x :: t', 0, v, _, h => by simp at h
  | none :: t, x :: t', k + 1, v, hl, h => by
    rw [List.getElem?_cons_succ] at h ⊢
    exact leL_get t t' k v hl h
  | some w :: t, [], _, _, hl, _ => hl.elim
  | some w :: t, x :: t', 0, v, hl, h => by
    rw [List.getElem?_cons_zero] at h ⊢
    cases h
    rw [hl.1]
  | some w :: t, x :: t', k + 1, v, hl, h => by
    rw [List.getElem?_cons_succ] at h ⊢
    exact leL_get t t' k v hl.2 h
theorem lv_leA {ad : Nat × Nat → Nat} {ls : Array Slot} {nL : Nat} {L L' : List (Option AV)} (h : lv_has ls nL (toAL ad 0 L)) (hL : leL L' L) : lv_has ls nL (toAL ad 0 L') := by
  refine ⟨h.1, h.2.1, fun q hq => ?_⟩
  obtain ⟨k, w, h1, rfl⟩ := toAL_mem L' 0 q hq
  exact h.2.2 _ (toAL_get (ad := ad) L 0 k w (leL_get L' L k w hL h1))
/-! what stays: the classes, the nest's links, the text constants -/
def StrOK (ids : List (Nat × Nat)) (ad : Nat × Nat → Nat) (U : State) : Prop := vk_S 7 strLen strByt (fun k => ad (5, k)) (fun k => ad (6, k)) (inA ids ad) U U.heap ∧ ∀ k : Nat, k < 7 → vk_R RX4 (strIdx k) (strTx k) (ad (5, k)) U
def St (ids : List (Nat × Nat)) (D : va_G) (cI : ClassId) (ad : Nat × Nat → Nat) (U : State) : Prop := va_K D vwCl [(cI, .int)] U ∧ (∀ q ∈ nestL, va_Nw (.methodLinkNest q.1 q.2.1 q.2.2.1 q.2.2.2) U) ∧ StrOK ids ad U ∧ inj ids ad
theorem St.go {ids : List (Nat × Nat)} {D : va_G} {cI : ClassId} {ad : Nat × Nat → Nat} {s U : State} {H : Heap} {locs : List Loc} (h : St ids D cI ad s) (hS : va_S (inA ids ad) s.heap H locs) (hU : U.heap = H) (hW : s.WarmedH U.vm) : St ids D cI ad U := by
  obtain ⟨h1, h2, ⟨h3, h4⟩, h5⟩ := h
  refine ⟨va_K.moved hW.alike h1, fun q hq => va_Nw.warmM hW (h2 q hq), ⟨?_, fun k hk => vk_R.warm hW (h4 k hk)⟩, h5⟩
  rw [hU]
  exact vk_S.moved hW.alike (h3.kept hS.2.1)
theorem St.same {ids : List (Nat × Nat)} {D : va_G} {cI : ClassId} {ad : Nat × Nat → Nat} {u U : State} (h : St ids D cI ad u) (hh : U.heap = u.heap) (hv : u.vm = U.vm) : St ids D cI ad U := by
  obtain ⟨h1, h2, ⟨h3, h4⟩, h5⟩ := h
  have ha : u.vm.Alike U.vm := by rw [hv]; exact Vm.Alike.refl U.vm
  refine ⟨va_K.moved ha h1, fun q hq => va_Nw.same rfl hv (h2 q hq), ⟨?_, fun k hk => vk_R.same hv.symm (h4 k hk)⟩, h5⟩
  rw [hh]
  exact vk_S.moved ha h3
/-! the judgement: from pc, locals, stack, state the method comes to an end that Φ holds of -/
abbrev MI : Type := ByteArray × Nat × String × Option FieldType × Nat × Nat
def Fx (M : MI) (ids : List (Nat × Nat)) (p : Program) (R : Room) (s : State) (m : MethodId) (args : Array Value) (c : Code) (cells slots : Nat) (D : va_G) (cI : ClassId) (ad : Nat × Nat → Nat) : Prop :=
  p.tables.exec = Jvm.exec ∧ c.code = M.1 ∧ c.maxLocals = M.2.1 ∧ s.vm.findClass M.2.2.1 = some m.cls ∧ (∀ w ∈ TT, w.before args s = true) ∧ (M.2.2.2.2.1 ≤ R.frames ∧ M.2.2.2.2.2 ≤ R.locals ∧ cells ≤ R.cells ∧ slots ≤ R.slots) ∧ St ids D cI ad s ∧ Ndp ids
def retD (M : MI) (pc : Nat) : Option AV → Prop
  | none => M.2.2.2.1 = none ∧ decode M.1 pc = .ok (.return_, 1)
  | some (.inl v) => decode M.1 pc = .ok (.ireturn, 1) ∧ ∃ ty, M.2.2.2.1 = some ty ∧ narrow ty (.int v) = .int v
  | some (.inr (.inl _)) => decode M.1 pc = .ok (.lreturn, 1) ∧ M.2.2.2.1 = some .long
  | some (.inr (.inr _)) => decode M.1 pc = .ok (.areturn, 1) ∧ ∃ n, M.2.2.2.1 = some (.object n)
def RetOK (M : MI) (ids : List (Nat × Nat)) (Φ : Option AV → Sg → Prop) (p : Program) (l : Launch) (e : Env) (R : Room) (s : State) (m : MethodId) (args : Array Value) (below : List Frame) (meth : Method) (c : Code) (cells slots : Nat) (Q : State → Prop) (D : va_G) (cI : ClassId) (ad : Nat × Nat → Nat) : Prop :=
  ∀ (r : Option AV) (σ : Sg) (pc : Nat) (H : Heap) (locs : List Loc) (ls : Array Slot), Φ r σ → retD M pc r → va_P D vwCl (wOf ids cI ad σ) H → va_S (inA ids ad) s.heap H locs → W p l e R s m args below meth c H locs cells slots Q (F0 m pc ls (r.toList.map (tr ad)))
def Aj (M : MI) (ids : List (Nat × Nat)) (Φ : Option AV → Sg → Prop) (pc : Nat) (L : List (Option AV)) (S : List AV) (σ : Sg) : Prop :=
  ∀ (p : Program) (l : Launch) (e : Env) (R : Room) (s : State) (m : MethodId) (args : Array Value) (below : List Frame) (meth : Method) (c : Code) (cells slots : Nat) (Q : State → Prop) (D : va_G) (cI : ClassId) (ad : Nat × Nat → Nat),
    Fx M ids p R s m args c cells slots D cI ad → RetOK M ids Φ p l e R s m args below meth c cells slots Q D cI ad →
    ∀ (H : Heap) (locs : List Loc) (ls : Array Slot), va_P D vwCl (wOf ids cI ad σ) H → va_S (inA ids ad) s.heap H locs → lv_has ls M.2.1 (toAL ad 0 L) →
    W p l e R s m args below meth c H locs cells slots Q (F0 m pc ls (S.map (tr ad)))
/-- one part of a run: from here it comes to there -/
def Tj (M : MI) (ids : List (Nat × Nat)) (pc : Nat) (L : List (Option AV)) (S : List AV) (σ : Sg) (pc' : Nat) (L' : List (Option AV)) (S' : List AV) (σ' : Sg) : Prop :=
  ∀ Φ : Option AV → Sg → Prop, Aj M ids Φ pc' L' S' σ' → Aj M ids Φ pc L S σ
/-- where the pure program o has an answer, the run ends with it -/
def Gj {β : Type} (K : β → Option AV × Sg) (M : MI) (ids : List (Nat × Nat)) (pc : Nat) (L : List (Option AV)) (S : List AV) (σ : Sg) (o : Option β) : Prop :=
  ∀ (Φ : Option AV → Sg → Prop) (x : β), o = some x → Φ (K x).1 (K x).2 → Aj M ids Φ pc L S σ
/-- what a method is owed: from arguments and state to answer and state -/
def rmM (M : MI) : Room := { frames := M.2.2.2.2.1, cells := 0, slots := 0, locals := M.2.2.2.2.2 }
def wsM (M : MI) (y : MethodName) : List Cond := .code y M.1 M.2.1 M.2.2.2.1 :: TT
def Mt0 (M : MI) (y : MethodName) (ids : List (Nat × Nat)) (as : List AV) (σ : Sg) (r : Option AV) (σ' : Sg) : Prop :=
  ∀ (l : Launch) (D : va_G) (cI : ClassId) (ad : Nat × Nat → Nat), Met l y (wsM M y) (rmM M) (va_Pc (as.map (tr ad)) (fun U => va_P D vwCl (wOf ids cI ad σ) U.heap ∧ St ids D cI ad U)) (fun _ st o t => o = .returned (r.map (tr ad)) ∧ va_P D vwCl (wOf ids cI ad σ') t.heap ∧ va_F (inA ids ad) st t) 0 0 (inA ids ad)
abbrev kI : Int32 × Sg → Option AV × Sg := fun q => (some (aI q.1), q.2)
abbrev kL : Int64 × Sg → Option AV × Sg := fun q => (some (aL q.1), q.2)
abbrev kV : Unit × Sg → Option AV × Sg := fun q => (none, q.2)
abbrev kR : (Nat × Nat) × Sg → Option AV × Sg := fun q => (some (aR q.1), q.2)
section GG
variable {β : Type} {K : β → Option AV × Sg} {M : MI} {ids : List (Nat × Nat)} {pc pc' pc'' : Nat} {L L' L'' : List (Option AV)} {S S' S'' : List AV} {σ σ' σ'' : Sg} {o o1 o2 : Option β}
theorem Tj.rf : Tj M ids pc L S σ pc L S σ := fun _ h => h
theorem Tj.tr (h : Tj M ids pc L S σ pc' L' S' σ') (k : Tj M ids pc' L' S' σ' pc'' L'' S'' σ'') : Tj M ids pc L S σ pc'' L'' S'' σ'' := fun Φ h1 => h Φ (k Φ h1)
theorem Tj.dia {c : Prop} {dc : Decidable c} {a b : Int32} (h1 : c → Tj M ids pc L S σ pc' L' (aI a :: S') σ') (h2 : ¬ c → Tj M ids pc L S σ pc' L' (aI b :: S') σ') : Tj M ids pc L S σ pc' L' (aI (@ite _ c dc a b) :: S') σ' := by
  by_cases h : c
  · rw [if_pos h]; exact h1 h
  · rw [if_neg h]; exact h2 h
theorem G_st (h : Tj M ids pc L S σ pc' L' S' σ') (k : Gj K M ids pc' L' S' σ' o) : Gj K M ids pc L S σ o := fun Φ x h1 h2 => h Φ (k Φ x h1 h2)
theorem G_ite {c : Prop} {dc : Decidable c} (h1 : c → Gj K M ids pc L S σ o1) (h2 : ¬ c → Gj K M ids pc L S σ o2) : Gj K M ids pc L S σ (@ite _ c dc o1 o2) := by
  by_cases h : c
  · rw [if_pos h]; exact h1 h
  · rw [if_neg h]; exact h2 h
end GG
theorem cat_map (ad : Nat × Nat → Nat) (S : List AV) : ((S.map (tr ad)).map fun v => v.category) = S.map acat := by
  rw [List.map_map]
  exact List.map_congr_left (fun v _ => tr_cat ad v)
section TT1
variable {M : MI} {ids : List (Nat × Nat)} {pc : Nat} {L : List (Option AV)} {S : List AV} {σ : Sg}
theorem x_iconst {n : Int} (v : Int32) (hd : decode M.1 pc = .ok (.iconst n, 1)) (hv : Int32.ofInt n = v) : Tj M ids pc L S σ (pc + 1) L (aI v :: S) σ := by
  intro Φ hA p l e R s m args below meth c cells slots Q D cI ad hF hR H locs ls hP hS hl
  obtain ⟨hx, hb, hml, hown, hts, hroom, hSt, hn⟩ := id hF
  exact lv_iconst hx hb hd hv (hA p l e R s m args below meth c cells slots Q D cI ad hF hR H locs ls hP hS hl)

theorem x_bipush {n : Int} (v : Int32) (hd : decode M.1 pc = .ok (.bipush n, 2)) (hv : (Int8.ofInt n).toInt32 = v) : Tj M ids pc L S σ (pc + 2) L (aI v :: S) σ := by
  intro Φ hA p l e R s m args below meth c cells slots Q D cI ad hF hR H locs ls hP hS hl
  obtain ⟨hx, hb, hml, hown, hts, hroom, hSt, hn⟩ := id hF
  exact lv_bipush hx hb hd hv (hA p l e R s m args below meth c cells slots Q D cI ad hF hR H locs ls hP hS hl)

theorem x_sipush {n : Int} (v : Int32) (hd : decode M.1 pc = .ok (.sipush n, 3)) (hv : (Int16.ofInt n).toInt32 = v) : Tj M ids pc L S σ (pc + 3) L (aI v :: S) σ := by
  intro Φ hA p l e R s m args below meth c cells slots Q D cI ad hF hR H locs ls hP hS hl
  obtain ⟨hx, hb, hml, hown, hts, hroom, hSt, hn⟩ := id hF
  exact lv_sipush hx hb hd hv (hA p l e R s m args below meth c cells slots Q D cI ad hF hR H locs ls hP hS hl)

theorem x_lconst {n : Fin 2} (v : Int64) (hd : decode M.1 pc = .ok (.lconst n, 1)) (hv : Int64.ofNat (n : Nat) = v) : Tj M ids pc L S σ (pc + 1) L (aL v :: S) σ := by
  intro Φ hA p l e R s m args below meth c cells slots Q D cI ad hF hR H locs ls hP hS hl
  obtain ⟨hx, hb, hml, hown, hts, hroom, hSt, hn⟩ := id hF
  exact lv_lconst hx hb hd hv (hA p l e R s m args below meth c cells slots Q D cI ad hF hR H locs ls hP hS hl)

theorem x_ldc {n : Nat} {v : Int32} (hd : decode M.1 pc = .ok (.ldc n, 2)) (hw : Cond.constant M.2.2.1 n v ∈ TT) : Tj M ids pc L S σ (pc + 2) L (aI v :: S) σ := by
  intro Φ hA p l e R s m args below meth c cells slots Q D cI ad hF hR H locs ls hP hS hl
  obtain ⟨hx, hb, hml, hown, hts, hroom, hSt, hn⟩ := id hF
  exact lv_ldc hx hb hown (hts _ hw) hd (hA p l e R s m args below meth c cells slots Q D cI ad hF hR H locs ls hP hS hl)

theorem x_ldcw {n : Nat} {v : Int32} (hd : decode M.1 pc = .ok (.ldc_w n, 3)) (hw : Cond.constant M.2.2.1 n v ∈ TT) : Tj M ids pc L S σ (pc + 3) L (aI v :: S) σ := by
  intro Φ hA p l e R s m args below meth c cells slots Q D cI ad hF hR H locs ls hP hS hl
  obtain ⟨hx, hb, hml, hown, hts, hroom, hSt, hn⟩ := id hF
  exact lv_ldcw hx hb hown (hts _ hw) hd (hA p l e R s m args below meth c cells slots Q D cI ad hF hR H locs ls hP hS hl)

theorem x_ldc2 {n : Nat} {v : Int64} (hd : decode M.1 pc = .ok (.ldc2_w n, 3)) (hw : Cond.constantLong M.2.2.1 n v ∈ TT) : Tj M ids pc L S σ (pc + 3) L (aL v :: S) σ := by
  intro Φ hA p l e R s m args below meth c cells slots Q D cI ad hF hR H locs ls hP hS hl
  obtain ⟨hx, hb, hml, hown, hts, hroom, hSt, hn⟩ := id hF
  exact lv_ldc2 hx hb hown (hts _ hw) hd (hA p l e R s m args below meth c cells slots Q D cI ad hF hR H locs ls hP hS hl)

theorem x_iload_n {k : Fin 4} {x : Int32} (hd : decode M.1 pc = .ok (.iload_n k, 1)) (hk : L[(k : Nat)]? = some (some (aI x))) : Tj M ids pc L S σ (pc + 1) L (aI x :: S) σ := by
  intro Φ hA p l e R s m args below meth c cells slots Q D cI ad hF hR H locs ls hP hS hl
  obtain ⟨hx, hb, hml, hown, hts, hroom, hSt, hn⟩ := id hF
  exact lv_iload_n hx hb hd rfl (lv_atA hl hk) (hA p l e R s m args below meth c cells slots Q D cI ad hF hR H locs ls hP hS hl)

theorem x_iload {k : Nat} {x : Int32} (hd : decode M.1 pc = .ok (.iload k, 2)) (hk : L[k]? = some (some (aI x))) : Tj M ids pc L S σ (pc + 2) L (aI x :: S) σ := by
  intro Φ hA p l e R s m args below meth c cells slots Q D cI ad hF hR H locs ls hP hS hl
  obtain ⟨hx, hb, hml, hown, hts, hroom, hSt, hn⟩ := id hF
  exact lv_iload hx hb hd (lv_atA hl hk) (hA p l e R s m args below meth c cells slots Q D cI ad hF hR H locs ls hP hS hl)

theorem x_lload_n {k : Fin 4} {x : Int64} (hd : decode M.1 pc = .ok (.lload_n k, 1)) (hk : L[(k : Nat)]? = some (some (aL x))) : Tj M ids pc L S σ (pc + 1) L (aL x :: S) σ := by
  intro Φ hA p l e R s m args below meth c cells slots Q D cI ad hF hR H locs ls hP hS hl
  obtain ⟨hx, hb, hml, hown, hts, hroom, hSt, hn⟩ := id hF
  exact lv_lload_n hx hb hd rfl (lv_atA hl hk) (hA p l e R s m args below meth c cells slots Q D cI ad hF hR H locs ls hP hS hl)

theorem x_lload {k : Nat} {x : Int64} (hd : decode M.1 pc = .ok (.lload k, 2)) (hk : L[k]? = some (some (aL x))) : Tj M ids pc L S σ (pc + 2) L (aL x :: S) σ := by
  intro Φ hA p l e R s m args below meth c cells slots Q D cI ad hF hR H locs ls hP hS hl
  obtain ⟨hx, hb, hml, hown, hts, hroom, hSt, hn⟩ := id hF
  exact lv_lload hx hb hd (lv_atA hl hk) (hA p l e R s m args below meth c cells slots Q D cI ad hF hR H locs ls hP hS hl)

theorem x_aload_n {k : Fin 4} {x : Nat × Nat} (hd : decode M.1 pc = .ok (.aload_n k, 1)) (hk : L[(k : Nat)]? = some (some (aR x))) : Tj M ids pc L S σ (pc + 1) L (aR x :: S) σ := by
  intro Φ hA p l e R s m args below meth c cells slots Q D cI ad hF hR H locs ls hP hS hl
  obtain ⟨hx, hb, hml, hown, hts, hroom, hSt, hn⟩ := id hF
  exact lv_aload_n hx hb hd rfl (lv_atA hl hk) (hA p l e R s m args below meth c cells slots Q D cI ad hF hR H locs ls hP hS hl)

theorem x_aload {k : Nat} {x : Nat × Nat} (hd : decode M.1 pc = .ok (.aload k, 2)) (hk : L[k]? = some (some (aR x))) : Tj M ids pc L S σ (pc + 2) L (aR x :: S) σ := by
  intro Φ hA p l e R s m args below meth c cells slots Q D cI ad hF hR H locs ls hP hS hl
  obtain ⟨hx, hb, hml, hown, hts, hroom, hSt, hn⟩ := id hF
  exact lv_aload hx hb hd (lv_atA hl hk) (hA p l e R s m args below meth c cells slots Q D cI ad hF hR H locs ls hP hS hl)

theorem x_istore_n {k : Fin 4} {x : Int32} (L' : List (Option AV)) (hd : decode M.1 pc = .ok (.istore_n k, 1)) (hk : (k : Nat) < M.2.1) (hL : L.set (k : Nat) (some (aI x)) = L') (ho : okS (k : Nat) L = true) : Tj M ids pc L (aI x :: S) σ (pc + 1) L' S σ := by
  intro Φ hA p l e R s m args below meth c cells slots Q D cI ad hF hR H locs ls hP hS hl
  obtain ⟨hx, hb, hml, hown, hts, hroom, hSt, hn⟩ := id hF
  exact lv_istore_n hx hb hd rfl hl hk rfl (fun ls' hl' => hA p l e R s m args below meth c cells slots Q D cI ad hF hR H locs ls' hP hS (lv_setA (v := aI x) hl' hL ho))

theorem x_istore {k : Nat} {x : Int32} (L' : List (Option AV)) (hd : decode M.1 pc = .ok (.istore k, 2)) (hk : k < M.2.1) (hL : L.set k (some (aI x)) = L') (ho : okS k L = true) : Tj M ids pc L (aI x :: S) σ (pc + 2) L' S σ := by
  intro Φ hA p l e R s m args below meth c cells slots Q D cI ad hF hR H locs ls hP hS hl
  obtain ⟨hx, hb, hml, hown, hts, hroom, hSt, hn⟩ := id hF
  exact lv_istore hx hb hd hl hk rfl (fun ls' hl' => hA p l e R s m args below meth c cells slots Q D cI ad hF hR H locs ls' hP hS (lv_setA (v := aI x) hl' hL ho))

theorem x_astore_n {k : Fin 4} {x : Nat × Nat} (L' : List (Option AV)) (hd : decode M.1 pc = .ok (.astore_n k, 1)) (hk : (k : Nat) < M.2.1) (hL : L.set (k : Nat) (some (aR x)) = L') (ho : okS (k : Nat) L = true) : Tj M ids pc L (aR x :: S) σ (pc + 1) L' S σ := by
  intro Φ hA p l e R s m args below meth c cells slots Q D cI ad hF hR H locs ls hP hS hl
  obtain ⟨hx, hb, hml, hown, hts, hroom, hSt, hn⟩ := id hF
  exact lv_astore_n hx hb hd rfl hl hk rfl (fun ls' hl' => hA p l e R s m args below meth c cells slots Q D cI ad hF hR H locs ls' hP hS (lv_setA (v := aR x) hl' hL ho))

theorem x_astore {k : Nat} {x : Nat × Nat} (L' : List (Option AV)) (hd : decode M.1 pc = .ok (.astore k, 2)) (hk : k < M.2.1) (hL : L.set k (some (aR x)) = L') (ho : okS k L = true) : Tj M ids pc L (aR x :: S) σ (pc + 2) L' S σ := by
  intro Φ hA p l e R s m args below meth c cells slots Q D cI ad hF hR H locs ls hP hS hl
  obtain ⟨hx, hb, hml, hown, hts, hroom, hSt, hn⟩ := id hF
  exact lv_astore hx hb hd hl hk rfl (fun ls' hl' => hA p l e R s m args below meth c cells slots Q D cI ad hF hR H locs ls' hP hS (lv_setA (v := aR x) hl' hL ho))

theorem x_iinc {k : Nat} {n : Int} {x : Int32} (v : Int32) (L' : List (Option AV)) (hd : decode M.1 pc = .ok (.iinc k n, 3)) (hk : k < M.2.1) (hx0 : L[k]? = some (some (aI x))) (hv : x + Int32.ofInt n = v) (hL : L.set k (some (aI v)) = L') (ho : okS k L = true) : Tj M ids pc L S σ (pc + 3) L' S σ := by
  intro Φ hA p l e R s m args below meth c cells slots Q D cI ad hF hR H locs ls hP hS hl
  obtain ⟨hx, hb, hml, hown, hts, hroom, hSt, hn⟩ := id hF
  have h1 : (k, tr ad (aI x)) ∈ toAL ad 0 L := by have := toAL_get (ad := ad) L 0 k _ hx0; rwa [Nat.zero_add] at this
  obtain ⟨j, hj⟩ := List.getElem?_of_mem h1
  exact lv_iinc hx hb hd hl hj hv hk rfl (fun ls' hl' => hA p l e R s m args below meth c cells slots Q D cI ad hF hR H locs ls' hP hS (lv_setA (v := aI v) hl' hL ho))

theorem x_iadd {x y : Int32} (hd : decode M.1 pc = .ok (.iadd, 1)) : Tj M ids pc L (aI y :: aI x :: S) σ (pc + 1) L (aI (x + y) :: S) σ := by
  intro Φ hA p l e R s m args below meth c cells slots Q D cI ad hF hR H locs ls hP hS hl
  obtain ⟨hx, hb, hml, hown, hts, hroom, hSt, hn⟩ := id hF
  exact lv_iadd hx hb hd (hA p l e R s m args below meth c cells slots Q D cI ad hF hR H locs ls hP hS hl)

theorem x_isub {x y : Int32} (hd : decode M.1 pc = .ok (.isub, 1)) : Tj M ids pc L (aI y :: aI x :: S) σ (pc + 1) L (aI (x - y) :: S) σ := by
  intro Φ hA p l e R s m args below meth c cells slots Q D cI ad hF hR H locs ls hP hS hl
  obtain ⟨hx, hb, hml, hown, hts, hroom, hSt, hn⟩ := id hF
  exact lv_isub hx hb hd (hA p l e R s m args below meth c cells slots Q D cI ad hF hR H locs ls hP hS hl)

theorem x_imul {x y : Int32} (hd : decode M.1 pc = .ok (.imul, 1)) : Tj M ids pc L (aI y :: aI x :: S) σ (pc + 1) L (aI (x * y) :: S) σ := by
  intro Φ hA p l e R s m args below meth c cells slots Q D cI ad hF hR H locs ls hP hS hl
  obtain ⟨hx, hb, hml, hown, hts, hroom, hSt, hn⟩ := id hF
  exact lv_imul hx hb hd (hA p l e R s m args below meth c cells slots Q D cI ad hF hR H locs ls hP hS hl)

theorem x_iand {x y : Int32} (hd : decode M.1 pc = .ok (.iand, 1)) : Tj M ids pc L (aI y :: aI x :: S) σ (pc + 1) L (aI (x &&& y) :: S) σ := by
  intro Φ hA p l e R s m args below meth c cells slots Q D cI ad hF hR H locs ls hP hS hl
  obtain ⟨hx, hb, hml, hown, hts, hroom, hSt, hn⟩ := id hF
  exact lv_iand hx hb hd (hA p l e R s m args below meth c cells slots Q D cI ad hF hR H locs ls hP hS hl)

theorem x_ior {x y : Int32} (hd : decode M.1 pc = .ok (.ior, 1)) : Tj M ids pc L (aI y :: aI x :: S) σ (pc + 1) L (aI (x ||| y) :: S) σ := by
  intro Φ hA p l e R s m args below meth c cells slots Q D cI ad hF hR H locs ls hP hS hl
  obtain ⟨hx, hb, hml, hown, hts, hroom, hSt, hn⟩ := id hF
  exact lv_ior hx hb hd (hA p l e R s m args below meth c cells slots Q D cI ad hF hR H locs ls hP hS hl)

theorem x_ishl {x y : Int32} (hd : decode M.1 pc = .ok (.ishl, 1)) : Tj M ids pc L (aI y :: aI x :: S) σ (pc + 1) L (aI (x <<< (y &&& 31)) :: S) σ := by
  intro Φ hA p l e R s m args below meth c cells slots Q D cI ad hF hR H locs ls hP hS hl
  obtain ⟨hx, hb, hml, hown, hts, hroom, hSt, hn⟩ := id hF
  exact lv_ishl hx hb hd (hA p l e R s m args below meth c cells slots Q D cI ad hF hR H locs ls hP hS hl)

theorem x_ishr {x y : Int32} (hd : decode M.1 pc = .ok (.ishr, 1)) : Tj M ids pc L (aI y :: aI x :: S) σ (pc + 1) L (aI (x >>> (y &&& 31)) :: S) σ := by
  intro Φ hA p l e R s m args below meth c cells slots Q D cI ad hF hR H locs ls hP hS hl
  obtain ⟨hx, hb, hml, hown, hts, hroom, hSt, hn⟩ := id hF
  exact lv_ishr hx hb hd (hA p l e R s m args below meth c cells slots Q D cI ad hF hR H locs ls hP hS hl)

theorem x_idiv {x y : Int32} (hd : decode M.1 pc = .ok (.idiv, 1)) (h0 : ¬ y = 0) : Tj M ids pc L (aI y :: aI x :: S) σ (pc + 1) L (aI (x / y) :: S) σ := by
  intro Φ hA p l e R s m args below meth c cells slots Q D cI ad hF hR H locs ls hP hS hl
  obtain ⟨hx, hb, hml, hown, hts, hroom, hSt, hn⟩ := id hF
  exact lv_idiv hx hb hd h0 (hA p l e R s m args below meth c cells slots Q D cI ad hF hR H locs ls hP hS hl)

theorem x_irem {x y : Int32} (hd : decode M.1 pc = .ok (.irem, 1)) (h0 : ¬ y = 0) : Tj M ids pc L (aI y :: aI x :: S) σ (pc + 1) L (aI (x - x / y * y) :: S) σ := by
  intro Φ hA p l e R s m args below meth c cells slots Q D cI ad hF hR H locs ls hP hS hl
  obtain ⟨hx, hb, hml, hown, hts, hroom, hSt, hn⟩ := id hF
  exact lv_irem hx hb hd h0 (hA p l e R s m args below meth c cells slots Q D cI ad hF hR H locs ls hP hS hl)

theorem x_ineg {x : Int32} (hd : decode M.1 pc = .ok (.ineg, 1)) : Tj M ids pc L (aI x :: S) σ (pc + 1) L (aI (-x) :: S) σ := by
  intro Φ hA p l e R s m args below meth c cells slots Q D cI ad hF hR H locs ls hP hS hl
  obtain ⟨hx, hb, hml, hown, hts, hroom, hSt, hn⟩ := id hF
  exact lv_ineg hx hb hd (hA p l e R s m args below meth c cells slots Q D cI ad hF hR H locs ls hP hS hl)

theorem x_i2l {x : Int32} (hd : decode M.1 pc = .ok (.i2l, 1)) : Tj M ids pc L (aI x :: S) σ (pc + 1) L (aL x.toInt64 :: S) σ := by
  intro Φ hA p l e R s m args below meth c cells slots Q D cI ad hF hR H locs ls hP hS hl
  obtain ⟨hx, hb, hml, hown, hts, hroom, hSt, hn⟩ := id hF
  exact lv_i2l hx hb hd rfl (hA p l e R s m args below meth c cells slots Q D cI ad hF hR H locs ls hP hS hl)

theorem x_lsub {x y : Int64} (hd : decode M.1 pc = .ok (.lsub, 1)) : Tj M ids pc L (aL y :: aL x :: S) σ (pc + 1) L (aL (x - y) :: S) σ := by
  intro Φ hA p l e R s m args below meth c cells slots Q D cI ad hF hR H locs ls hP hS hl
  obtain ⟨hx, hb, hml, hown, hts, hroom, hSt, hn⟩ := id hF
  exact lv_lsub hx hb hd (hA p l e R s m args below meth c cells slots Q D cI ad hF hR H locs ls hP hS hl)

theorem x_lcmp {x y : Int64} (hd : decode M.1 pc = .ok (.lcmp, 1)) : Tj M ids pc L (aL y :: aL x :: S) σ (pc + 1) L (aI (lg_cmp x y) :: S) σ := by
  intro Φ hA p l e R s m args below meth c cells slots Q D cI ad hF hR H locs ls hP hS hl
  obtain ⟨hx, hb, hml, hown, hts, hroom, hSt, hn⟩ := id hF
  exact W.lcmp hx hb hd (hA p l e R s m args below meth c cells slots Q D cI ad hF hR H locs ls hP hS hl)

theorem x_dup {v : AV} (hd : decode M.1 pc = .ok (.dup, 1)) (hv : acat v = 1) : Tj M ids pc L (v :: S) σ (pc + 1) L (v :: v :: S) σ := by
  intro Φ hA p l e R s m args below meth c cells slots Q D cI ad hF hR H locs ls hP hS hl
  obtain ⟨hx, hb, hml, hown, hts, hroom, hSt, hn⟩ := id hF
  exact lv_dup hx hb hd ((tr_cat ad v).trans hv) (hA p l e R s m args below meth c cells slots Q D cI ad hF hR H locs ls hP hS hl)

theorem x_pop {v : AV} (hd : decode M.1 pc = .ok (.pop, 1)) (hv : acat v = 1) : Tj M ids pc L (v :: S) σ (pc + 1) L S σ := by
  intro Φ hA p l e R s m args below meth c cells slots Q D cI ad hF hR H locs ls hP hS hl
  obtain ⟨hx, hb, hml, hown, hts, hroom, hSt, hn⟩ := id hF
  exact lv_pop hx hb hd ((tr_cat ad v).trans hv) (hA p l e R s m args below meth c cells slots Q D cI ad hF hR H locs ls hP hS hl)

theorem x_dup2 {v w : AV} (hd : decode M.1 pc = .ok (.dup2, 1)) (hv : acat v = 1) (hw : acat w = 1) : Tj M ids pc L (v :: w :: S) σ (pc + 1) L (v :: w :: v :: w :: S) σ := by
  intro Φ hA p l e R s m args below meth c cells slots Q D cI ad hF hR H locs ls hP hS hl
  obtain ⟨hx, hb, hml, hown, hts, hroom, hSt, hn⟩ := id hF
  exact lv_dup2_11 hx hb hd ((tr_cat ad v).trans hv) ((tr_cat ad w).trans hw) (hA p l e R s m args below meth c cells slots Q D cI ad hF hR H locs ls hP hS hl)

theorem x_goto {off : Int} {tgt : Nat} (hd : decode M.1 pc = .ok (.goto off, 3)) (ht : (pc : Int) + off = (tgt : Int)) : Tj M ids pc L S σ tgt L S σ := by
  intro Φ hA p l e R s m args below meth c cells slots Q D cI ad hF hR H locs ls hP hS hl
  obtain ⟨hx, hb, hml, hown, hts, hroom, hSt, hn⟩ := id hF
  exact lv_goto hx hb hd ht (hA p l e R s m args below meth c cells slots Q D cI ad hF hR H locs ls hP hS hl)

theorem x_if_eq_t {off : Int} {tgt : Nat} {x : Int32} (hd : decode M.1 pc = .ok (.ifCond .eq off, 3)) (ht : (pc : Int) + off = (tgt : Int)) (hc : x = 0) : Tj M ids pc L (aI x :: S) σ tgt L S σ := by
  intro Φ hA p l e R s m args below meth c cells slots Q D cI ad hF hR H locs ls hP hS hl
  obtain ⟨hx, hb, hml, hown, hts, hroom, hSt, hn⟩ := id hF
  exact lv_if_eq hx hb hd ht (fun _ => (hA p l e R s m args below meth c cells slots Q D cI ad hF hR H locs ls hP hS hl)) (fun h => absurd hc h)

theorem x_if_eq_f {off : Int} (tgt : Nat) {x : Int32} (hd : decode M.1 pc = .ok (.ifCond .eq off, 3)) (ht : (pc : Int) + off = (tgt : Int)) (hc : ¬ x = 0) : Tj M ids pc L (aI x :: S) σ (pc + 3) L S σ := by
  intro Φ hA p l e R s m args below meth c cells slots Q D cI ad hF hR H locs ls hP hS hl
  obtain ⟨hx, hb, hml, hown, hts, hroom, hSt, hn⟩ := id hF
  exact lv_if_eq hx hb hd ht (fun h => absurd h hc) (fun _ => (hA p l e R s m args below meth c cells slots Q D cI ad hF hR H locs ls hP hS hl))

theorem x_icmp_eq_t {off : Int} {tgt : Nat} {x y : Int32} (hd : decode M.1 pc = .ok (.if_icmp .eq off, 3)) (ht : (pc : Int) + off = (tgt : Int)) (hc : x = y) : Tj M ids pc L (aI y :: aI x :: S) σ tgt L S σ := by
  intro Φ hA p l e R s m args below meth c cells slots Q D cI ad hF hR H locs ls hP hS hl
  obtain ⟨hx, hb, hml, hown, hts, hroom, hSt, hn⟩ := id hF
  exact lv_icmp_eq hx hb hd ht (fun _ => (hA p l e R s m args below meth c cells slots Q D cI ad hF hR H locs ls hP hS hl)) (fun h => absurd hc h)

theorem x_icmp_eq_f {off : Int} (tgt : Nat) {x y : Int32} (hd : decode M.1 pc = .ok (.if_icmp .eq off, 3)) (ht : (pc : Int) + off = (tgt : Int)) (hc : ¬ x = y) : Tj M ids pc L (aI y :: aI x :: S) σ (pc + 3) L S σ := by
  intro Φ hA p l e R s m args below meth c cells slots Q D cI ad hF hR H locs ls hP hS hl
  obtain ⟨hx, hb, hml, hown, hts, hroom, hSt, hn⟩ := id hF
  exact lv_icmp_eq hx hb hd ht (fun h => absurd h hc) (fun _ => (hA p l e R s m args below meth c cells slots Q D cI ad hF hR H locs ls hP hS hl))

theorem x_if_ne_t {off : Int} {tgt : Nat} {x : Int32} (hd : decode M.1 pc = .ok (.ifCond .ne off, 3)) (ht : (pc : Int) + off = (tgt : Int)) (hc : ¬ x = 0) : Tj M ids pc L (aI x :: S) σ tgt L S σ := by
  intro Φ hA p l e R s m args below meth c cells slots Q D cI ad hF hR H locs ls hP hS hl
  obtain ⟨hx, hb, hml, hown, hts, hroom, hSt, hn⟩ := id hF
  exact lv_if_ne hx hb hd ht (fun _ => (hA p l e R s m args below meth c cells slots Q D cI ad hF hR H locs ls hP hS hl)) (fun h => absurd h hc)

theorem x_if_ne_f {off : Int} (tgt : Nat) {x : Int32} (hd : decode M.1 pc = .ok (.ifCond .ne off, 3)) (ht : (pc : Int) + off = (tgt : Int)) (hc : x = 0) : Tj M ids pc L (aI x :: S) σ (pc + 3) L S σ := by
  intro Φ hA p l e R s m args below meth c cells slots Q D cI ad hF hR H locs ls hP hS hl
  obtain ⟨hx, hb, hml, hown, hts, hroom, hSt, hn⟩ := id hF
  exact lv_if_ne hx hb hd ht (fun h => absurd hc h) (fun _ => (hA p l e R s m args below meth c cells slots Q D cI ad hF hR H locs ls hP hS hl))

theorem x_icmp_ne_t {off : Int} {tgt : Nat} {x y : Int32} (hd : decode M.1 pc = .ok (.if_icmp .ne off, 3)) (ht : (pc : Int) + off = (tgt : Int)) (hc : ¬ x = y) : Tj M ids pc L (aI y :: aI x :: S) σ tgt L S σ := by
  intro Φ hA p l e R s m args below meth c cells slots Q D cI ad hF hR H locs ls hP hS hl
  obtain ⟨hx, hb, hml, hown, hts, hroom, hSt, hn⟩ := id hF
  exact lv_icmp_ne hx hb hd ht (fun _ => (hA p l e R s m args below meth c cells slots Q D cI ad hF hR H locs ls hP hS hl)) (fun h => absurd h hc)

theorem x_icmp_ne_f {off : Int} (tgt : Nat) {x y : Int32} (hd : decode M.1 pc = .ok (.if_icmp .ne off, 3)) (ht : (pc : Int) + off = (tgt : Int)) (hc : x = y) : Tj M ids pc L (aI y :: aI x :: S) σ (pc + 3) L S σ := by
  intro Φ hA p l e R s m args below meth c cells slots Q D cI ad hF hR H locs ls hP hS hl
  obtain ⟨hx, hb, hml, hown, hts, hroom, hSt, hn⟩ := id hF
  exact lv_icmp_ne hx hb hd ht (fun h => absurd hc h) (fun _ => (hA p l e R s m args below meth c cells slots Q D cI ad hF hR H locs ls hP hS hl))

theorem x_if_lt_t {off : Int} {tgt : Nat} {x : Int32} (hd : decode M.1 pc = .ok (.ifCond .lt off, 3)) (ht : (pc : Int) + off = (tgt : Int)) (hc : x < 0) : Tj M ids pc L (aI x :: S) σ tgt L S σ := by
  intro Φ hA p l e R s m args below meth c cells slots Q D cI ad hF hR H locs ls hP hS hl
  obtain ⟨hx, hb, hml, hown, hts, hroom, hSt, hn⟩ := id hF
  exact lv_if_lt hx hb hd ht (fun _ => (hA p l e R s m args below meth c cells slots Q D cI ad hF hR H locs ls hP hS hl)) (fun h => absurd hc h)

theorem x_if_lt_f {off : Int} (tgt : Nat) {x : Int32} (hd : decode M.1 pc = .ok (.ifCond .lt off, 3)) (ht : (pc : Int) + off = (tgt : Int)) (hc : ¬ x < 0) : Tj M ids pc L (aI x :: S) σ (pc + 3) L S σ := by
  intro Φ hA p l e R s m args below meth c cells slots Q D cI ad hF hR H locs ls hP hS hl
  obtain ⟨hx, hb, hml, hown, hts, hroom, hSt, hn⟩ := id hF
  exact lv_if_lt hx hb hd ht (fun h => absurd h hc) (fun _ => (hA p l e R s m args below meth c cells slots Q D cI ad hF hR H locs ls hP hS hl))

theorem x_icmp_lt_t {off : Int} {tgt : Nat} {x y : Int32} (hd : decode M.1 pc = .ok (.if_icmp .lt off, 3)) (ht : (pc : Int) + off = (tgt : Int)) (hc : x < y) : Tj M ids pc L (aI y :: aI x :: S) σ tgt L S σ := by
  intro Φ hA p l e R s m args below meth c cells slots Q D cI ad hF hR H locs ls hP hS hl
  obtain ⟨hx, hb, hml, hown, hts, hroom, hSt, hn⟩ := id hF
  exact lv_icmp_lt hx hb hd ht (fun _ => (hA p l e R s m args below meth c cells slots Q D cI ad hF hR H locs ls hP hS hl)) (fun h => absurd hc h)

theorem x_icmp_lt_f {off : Int} (tgt : Nat) {x y : Int32} (hd : decode M.1 pc = .ok (.if_icmp .lt off, 3)) (ht : (pc : Int) + off = (tgt : Int)) (hc : ¬ x < y) : Tj M ids pc L (aI y :: aI x :: S) σ (pc + 3) L S σ := by
  intro Φ hA p l e R s m args below meth c cells slots Q D cI ad hF hR H locs ls hP hS hl
  obtain ⟨hx, hb, hml, hown, hts, hroom, hSt, hn⟩ := id hF
  exact lv_icmp_lt hx hb hd ht (fun h => absurd h hc) (fun _ => (hA p l e R s m args below meth c cells slots Q D cI ad hF hR H locs ls hP hS hl))

theorem x_if_ge_t {off : Int} {tgt : Nat} {x : Int32} (hd : decode M.1 pc = .ok (.ifCond .ge off, 3)) (ht : (pc : Int) + off = (tgt : Int)) (hc : 0 ≤ x) : Tj M ids pc L (aI x :: S) σ tgt L S σ := by
  intro Φ hA p l e R s m args below meth c cells slots Q D cI ad hF hR H locs ls hP hS hl
  obtain ⟨hx, hb, hml, hown, hts, hroom, hSt, hn⟩ := id hF
  exact lv_if_ge hx hb hd ht (fun _ => (hA p l e R s m args below meth c cells slots Q D cI ad hF hR H locs ls hP hS hl)) (fun h => absurd hc h)

theorem x_if_ge_f {off : Int} (tgt : Nat) {x : Int32} (hd : decode M.1 pc = .ok (.ifCond .ge off, 3)) (ht : (pc : Int) + off = (tgt : Int)) (hc : ¬ 0 ≤ x) : Tj M ids pc L (aI x :: S) σ (pc + 3) L S σ := by
  intro Φ hA p l e R s m args below meth c cells slots Q D cI ad hF hR H locs ls hP hS hl
  obtain ⟨hx, hb, hml, hown, hts, hroom, hSt, hn⟩ := id hF
  exact lv_if_ge hx hb hd ht (fun h => absurd h hc) (fun _ => (hA p l e R s m args below meth c cells slots Q D cI ad hF hR H locs ls hP hS hl))

theorem x_icmp_ge_t {off : Int} {tgt : Nat} {x y : Int32} (hd : decode M.1 pc = .ok (.if_icmp .ge off, 3)) (ht : (pc : Int) + off = (tgt : Int)) (hc : y ≤ x) : Tj M ids pc L (aI y :: aI x :: S) σ tgt L S σ := by
  intro Φ hA p l e R s m args below meth c cells slots Q D cI ad hF hR H locs ls hP hS hl
  obtain ⟨hx, hb, hml, hown, hts, hroom, hSt, hn⟩ := id hF
  exact lv_icmp_ge hx hb hd ht (fun _ => (hA p l e R s m args below meth c cells slots Q D cI ad hF hR H locs ls hP hS hl)) (fun h => absurd hc h)

theorem x_icmp_ge_f {off : Int} (tgt : Nat) {x y : Int32} (hd : decode M.1 pc = .ok (.if_icmp .ge off, 3)) (ht : (pc : Int) + off = (tgt : Int)) (hc : ¬ y ≤ x) : Tj M ids pc L (aI y :: aI x :: S) σ (pc + 3) L S σ := by
  intro Φ hA p l e R s m args below meth c cells slots Q D cI ad hF hR H locs ls hP hS hl
  obtain ⟨hx, hb, hml, hown, hts, hroom, hSt, hn⟩ := id hF
  exact lv_icmp_ge hx hb hd ht (fun h => absurd h hc) (fun _ => (hA p l e R s m args below meth c cells slots Q D cI ad hF hR H locs ls hP hS hl))

theorem x_if_gt_t {off : Int} {tgt : Nat} {x : Int32} (hd : decode M.1 pc = .ok (.ifCond .gt off, 3)) (ht : (pc : Int) + off = (tgt : Int)) (hc : 0 < x) : Tj M ids pc L (aI x :: S) σ tgt L S σ := by
  intro Φ hA p l e R s m args below meth c cells slots Q D cI ad hF hR H locs ls hP hS hl
  obtain ⟨hx, hb, hml, hown, hts, hroom, hSt, hn⟩ := id hF
  exact lv_if_gt hx hb hd ht (fun _ => (hA p l e R s m args below meth c cells slots Q D cI ad hF hR H locs ls hP hS hl)) (fun h => absurd hc h)

theorem x_if_gt_f {off : Int} (tgt : Nat) {x : Int32} (hd : decode M.1 pc = .ok (.ifCond .gt off, 3)) (ht : (pc : Int) + off = (tgt : Int)) (hc : ¬ 0 < x) : Tj M ids pc L (aI x :: S) σ (pc + 3) L S σ := by
  intro Φ hA p l e R s m args below meth c cells slots Q D cI ad hF hR H locs ls hP hS hl
  obtain ⟨hx, hb, hml, hown, hts, hroom, hSt, hn⟩ := id hF
  exact lv_if_gt hx hb hd ht (fun h => absurd h hc) (fun _ => (hA p l e R s m args below meth c cells slots Q D cI ad hF hR H locs ls hP hS hl))

theorem x_icmp_gt_t {off : Int} {tgt : Nat} {x y : Int32} (hd : decode M.1 pc = .ok (.if_icmp .gt off, 3)) (ht : (pc : Int) + off = (tgt : Int)) (hc : y < x) : Tj M ids pc L (aI y :: aI x :: S) σ tgt L S σ := by
  intro Φ hA p l e R s m args below meth c cells slots Q D cI ad hF hR H locs ls hP hS hl
  obtain ⟨hx, hb, hml, hown, hts, hroom, hSt, hn⟩ := id hF
  exact lv_icmp_gt hx hb hd ht (fun _ => (hA p l e R s m args below meth c cells slots Q D cI ad hF hR H locs ls hP hS hl)) (fun h => absurd hc h)

theorem x_icmp_gt_f {off : Int} (tgt : Nat) {x y : Int32} (hd : decode M.1 pc = .ok (.if_icmp .gt off, 3)) (ht : (pc : Int) + off = (tgt : Int)) (hc : ¬ y < x) : Tj M ids pc L (aI y :: aI x :: S) σ (pc + 3) L S σ := by
  intro Φ hA p l e R s m args below meth c cells slots Q D cI ad hF hR H locs ls hP hS hl
  obtain ⟨hx, hb, hml, hown, hts, hroom, hSt, hn⟩ := id hF
  exact lv_icmp_gt hx hb hd ht (fun h => absurd h hc) (fun _ => (hA p l e R s m args below meth c cells slots Q D cI ad hF hR H locs ls hP hS hl))

theorem x_if_le_t {off : Int} {tgt : Nat} {x : Int32} (hd : decode M.1 pc = .ok (.ifCond .le off, 3)) (ht : (pc : Int) + off = (tgt : Int)) (hc : x ≤ 0) : Tj M ids pc L (aI x :: S) σ tgt L S σ := by
  intro Φ hA p l e R s m args below meth c cells slots Q D cI ad hF hR H locs ls hP hS hl
  obtain ⟨hx, hb, hml, hown, hts, hroom, hSt, hn⟩ := id hF
  exact lv_if_le hx hb hd ht (fun _ => (hA p l e R s m args below meth c cells slots Q D cI ad hF hR H locs ls hP hS hl)) (fun h => absurd hc h)

theorem x_if_le_f {off : Int} (tgt : Nat) {x : Int32} (hd : decode M.1 pc = .ok (.ifCond .le off, 3)) (ht : (pc : Int) + off = (tgt : Int)) (hc : ¬ x ≤ 0) : Tj M ids pc L (aI x :: S) σ (pc + 3) L S σ := by
  intro Φ hA p l e R s m args below meth c cells slots Q D cI ad hF hR H locs ls hP hS hl
  obtain ⟨hx, hb, hml, hown, hts, hroom, hSt, hn⟩ := id hF
  exact lv_if_le hx hb hd ht (fun h => absurd h hc) (fun _ => (hA p l e R s m args below meth c cells slots Q D cI ad hF hR H locs ls hP hS hl))

theorem x_icmp_le_t {off : Int} {tgt : Nat} {x y : Int32} (hd : decode M.1 pc = .ok (.if_icmp .le off, 3)) (ht : (pc : Int) + off = (tgt : Int)) (hc : x ≤ y) : Tj M ids pc L (aI y :: aI x :: S) σ tgt L S σ := by
  intro Φ hA p l e R s m args below meth c cells slots Q D cI ad hF hR H locs ls hP hS hl
  obtain ⟨hx, hb, hml, hown, hts, hroom, hSt, hn⟩ := id hF
  exact lv_icmp_le hx hb hd ht (fun _ => (hA p l e R s m args below meth c cells slots Q D cI ad hF hR H locs ls hP hS hl)) (fun h => absurd hc h)

theorem x_icmp_le_f {off : Int} (tgt : Nat) {x y : Int32} (hd : decode M.1 pc = .ok (.if_icmp .le off, 3)) (ht : (pc : Int) + off = (tgt : Int)) (hc : ¬ x ≤ y) : Tj M ids pc L (aI y :: aI x :: S) σ (pc + 3) L S σ := by
  intro Φ hA p l e R s m args below meth c cells slots Q D cI ad hF hR H locs ls hP hS hl
  obtain ⟨hx, hb, hml, hown, hts, hroom, hSt, hn⟩ := id hF
  exact lv_icmp_le hx hb hd ht (fun h => absurd h hc) (fun _ => (hA p l e R s m args below meth c cells slots Q D cI ad hF hR H locs ls hP hS hl))

theorem x_tabIn {dflt lo hi : Int} {offs : Array Int} {len : Nat} {x : Int32} {off : Int} {tgt : Nat} (z : Int32) (hd : decode M.1 pc = .ok (.tableswitch dflt lo hi offs, len)) (hz : x = z) (h1 : ¬ z.toInt < lo) (h2 : ¬ hi < z.toInt) (ho : offs[(z.toInt - lo).toNat]? = some off) (ht : (pc : Int) + off = (tgt : Int)) : Tj M ids pc L (aI x :: S) σ tgt L S σ := by
  subst hz
  intro Φ hA p l e R s m args below meth c cells slots Q D cI ad hF hR H locs ls hP hS hl
  obtain ⟨hx, hb, hml, hown, hts, hroom, hSt, hn⟩ := id hF
  exact lv_tableIn hx hb hd h1 h2 ho ht (hA p l e R s m args below meth c cells slots Q D cI ad hF hR H locs ls hP hS hl)

theorem x_tabOut {dflt lo hi : Int} {offs : Array Int} {len : Nat} {x : Int32} {tgt : Nat} (hd : decode M.1 pc = .ok (.tableswitch dflt lo hi offs, len)) (h : x.toInt < lo ∨ hi < x.toInt) (ht : (pc : Int) + dflt = (tgt : Int)) : Tj M ids pc L (aI x :: S) σ tgt L S σ := by
  intro Φ hA p l e R s m args below meth c cells slots Q D cI ad hF hR H locs ls hP hS hl
  obtain ⟨hx, hb, hml, hown, hts, hroom, hSt, hn⟩ := id hF
  exact lv_tableOut hx hb hd h ht (hA p l e R s m args below meth c cells slots Q D cI ad hF hR H locs ls hP hS hl)

theorem x_look {dflt : Int} {ps : Array (Int × Int)} {len : Nat} {x : Int32} {off : Int} {tgt : Nat} (hd : decode M.1 pc = .ok (.lookupswitch dflt ps, len)) (hp : (ps.toList.zip (ps.toList.drop 1)).all (fun (a, next) => a.1 < next.1) = true) (ho : Op.lookupswitch.offset ps.toList dflt x.toInt = off) (ht : (pc : Int) + off = (tgt : Int)) : Tj M ids pc L (aI x :: S) σ tgt L S σ := by
  intro Φ hA p l e R s m args below meth c cells slots Q D cI ad hF hR H locs ls hP hS hl
  obtain ⟨hx, hb, hml, hown, hts, hroom, hSt, hn⟩ := id hF
  exact lv_lookup hx hb hd hp ho ht (hA p l e R s m args below meth c cells slots Q D cI ad hF hR H locs ls hP hS hl)

theorem x_get {i : Nat × Nat} {idx ci k N : Nat} {C : String} {T : u_T} (v : AV) (hd : decode M.1 pc = .ok (.getfield idx, 3)) (hi : i ∈ ids) (hc : ly_len i.2 = none) (hcl : ly_cls i.2 = ci) (hN : ly_n i.2 = N) (hv : vwCl[ci]? = some (C, T, N)) (hin : ∀ w ∈ u_ws C T N, w ∈ TT) (hk : k < N) (hw : Cond.fieldLink M.2.2.1 idx (T k).1 (T k).2.1 (T k).2.2.1 ∈ TT) (ha : ∀ ad, ly_v ad σ i k = tr ad v) : Tj M ids pc L (aR i :: S) σ (pc + 3) L (v :: S) σ := by
  intro Φ hA p l e R s m args below meth c cells slots Q D cI ad hF hR H locs ls hP hS hl
  obtain ⟨hx, hb, hml, hown, hts, hroom, hSt, hn⟩ := id hF
  obtain ⟨q0, h1, h2⟩ := w_at cI ad σ hi
  have h3 : cont cI ad σ i = .inr (ci, (List.range N).map (ly_v ad σ i)) := by unfold cont; rw [hc, hcl, hN]
  rw [h3] at h2
  exact va_get (v := tr ad v) hx hb hts hin hown hSt.1 hP q0 h2 hv k hk (hts _ hw) (fun _ h => h) (by rw [List.getElem?_map, List.getElem?_range hk]; exact congrArg some (ha ad)) hd (hA p l e R s m args below meth c cells slots Q D cI ad hF hR H locs ls hP hS hl)

theorem x_put {i : Nat × Nat} {idx ci k N : Nat} {C : String} {T : u_T} {ty0 : Nat → FieldType} {ty : FieldType} {v : AV} {z : Int32} (σ' : Sg) (hd : decode M.1 pc = .ok (.putfield idx, 3)) (hi : i ∈ ids) (hc : ly_len i.2 = none) (hcl : ly_cls i.2 = ci) (hN : ly_n i.2 = N) (hv : vwCl[ci]? = some (C, T, N)) (hin : ∀ w ∈ u_ws C T N, w ∈ TT) (hty : ∀ k, k < N → parseFieldDescriptor (T k).2.2.1 = some (ty0 k)) (hnm : ∀ a, a < N → ∀ b, b < N → a ≠ b → (T a).2.1 ≠ (T b).2.1) (hk : k < N) (hw : Cond.fieldLink M.2.2.1 idx (T k).1 (T k).2.1 (T k).2.2.1 ∈ TT) (hfin : (T k).2.2.2 = false) (hpf : parseFieldDescriptor (T k).2.2.1 = some ty) (hnar : ∀ ad, narrow ty (tr ad v) = tr ad v) (hfit : ∀ ad, fits ty (tr ad v) = true) (ha : ∀ ad, ly_v ad (upS σ i k z) i k = tr ad v) (hσ : upS σ i k z = σ') : Tj M ids pc L (v :: aR i :: S) σ (pc + 3) L S σ' := by
  subst hσ
  intro Φ hA p l e R s m args below meth c cells slots Q D cI ad hF hR H locs ls hP hS hl
  obtain ⟨hx, hb, hml, hown, hts, hroom, hSt, hn⟩ := id hF
  obtain ⟨q0, h1, h2⟩ := w_at cI ad σ hi
  have h3 : ∀ τ : Sg, cont cI ad τ i = .inr (ci, (List.range N).map (ly_v ad τ i)) := fun τ => by unfold cont; rw [hc, hcl, hN]
  rw [h3] at h2
  have e9 : ((List.range N).map (ly_v ad σ i)).set k (tr ad v) = (List.range N).map (ly_v ad (upS σ i k z) i) := by
    apply List.ext_getElem?
    intro n
    by_cases hnk : n = k
    · subst hnk
      rw [List.getElem?_set_self (by rw [List.length_map, List.length_range]; exact hk), List.getElem?_map, List.getElem?_range hk]
      exact congrArg some (ha ad).symm
    · rw [List.getElem?_set_ne (Ne.symm hnk), List.getElem?_map, List.getElem?_map]
      cases hq : (List.range N)[n]? with
      | none => rfl
      | some j =>
        have hj : j = n := by
          have h8 := List.getElem?_eq_some_iff.mp hq
          obtain ⟨h8a, h8b⟩ := h8
          rw [List.getElem_range] at h8b
          exact h8b.symm
        subst hj
        show some (ly_v ad σ i j) = some (ly_v ad (upS σ i k z) i j)
        congr 1
        unfold ly_v upS
        rw [upA_same]
        have h7 : upd (σ i) k z j = σ i j := if_neg hnk
        rw [h7]
  have e8 : (wOf ids cI ad σ).set q0 (ad i, .inr (ci, ((List.range N).map (ly_v ad σ i)).set k (tr ad v))) = wOf ids cI ad (upS σ i k z) := by
    rw [e9, ← h3 (upS σ i k z)]
    exact w_set hn cI ad σ _ h1
  exact va_put hx hb hts hin ty0 hty hnm hown hSt.1 hP (w_D hn hSt.2.2.2 cI σ) hS q0 h2 hv k hk (hts _ hw) (fun _ h => h) hfin hpf (hnar ad) (hfit ad) (by rw [List.length_map, List.length_range]; exact hk) hd (fun H1 locs1 hP1 _ hS1 => hA p l e R s m args below meth c cells slots Q D cI ad hF hR H1 locs1 ls (by rw [← e8]; exact hP1) hS1 hl)

theorem x_iaload {i : Nat × Nat} {n : Nat} {j : Int32} (hd : decode M.1 pc = .ok (.iaload, 1)) (hi : i ∈ ids) (hn0 : ly_len i.2 = some n) (hin : vp_in j n) : Tj M ids pc L (aI j :: aR i :: S) σ (pc + 1) L (aI (σ i j.toNatClampNeg) :: S) σ := by
  intro Φ hA p l e R s m args below meth c cells slots Q D cI ad hF hR H locs ls hP hS hl
  obtain ⟨hx, hb, hml, hown, hts, hroom, hSt, hn⟩ := id hF
  obtain ⟨q0, h1, h2⟩ := w_at cI ad σ hi
  have h3 : cont cI ad σ i = .inl (cI, n, .inl (σ i)) := by unfold cont; rw [hn0]
  rw [h3] at h2
  exact va_iald hx hb hSt.1 hP q0 0 h2 rfl hin hd (hA p l e R s m args below meth c cells slots Q D cI ad hF hR H locs ls hP hS hl)

theorem x_iastore {i : Nat × Nat} {n : Nat} {j x : Int32} (hd : decode M.1 pc = .ok (.iastore, 1)) (hi : i ∈ ids) (hn0 : ly_len i.2 = some n) (hin : vp_in j n) : Tj M ids pc L (aI x :: aI j :: aR i :: S) σ (pc + 1) L S (upS σ i j.toNatClampNeg x) := by
  intro Φ hA p l e R s m args below meth c cells slots Q D cI ad hF hR H locs ls hP hS hl
  obtain ⟨hx, hb, hml, hown, hts, hroom, hSt, hn⟩ := id hF
  obtain ⟨q0, h1, h2⟩ := w_at cI ad σ hi
  have h3 : ∀ τ : Sg, cont cI ad τ i = .inl (cI, n, .inl (τ i)) := fun τ => by unfold cont; rw [hn0]
  rw [h3] at h2
  have e8 : (wOf ids cI ad σ).set q0 (ad i, .inl (cI, n, .inl (upd (σ i) j.toNatClampNeg x))) = wOf ids cI ad (upS σ i j.toNatClampNeg x) := by
    unfold upS
    rw [← w_set hn cI ad σ (upd (σ i) j.toNatClampNeg x) h1, h3, upA_same]
  exact va_iast hx hb hSt.1 hP (w_D hn hSt.2.2.2 cI σ) hS q0 0 h2 rfl hin hd (fun H1 locs1 hP1 _ hS1 => hA p l e R s m args below meth c cells slots Q D cI ad hF hR H1 locs1 ls (by rw [← e8]; exact hP1) hS1 hl)

theorem x_alen {i : Nat × Nat} {n : Nat} {v : Int32} (hd : decode M.1 pc = .ok (.arraylength, 1)) (hi : i ∈ ids) (hn0 : ly_len i.2 = some n) (hv : Int32.ofNat n = v) : Tj M ids pc L (aR i :: S) σ (pc + 1) L (aI v :: S) σ := by
  intro Φ hA p l e R s m args below meth c cells slots Q D cI ad hF hR H locs ls hP hS hl
  obtain ⟨hx, hb, hml, hown, hts, hroom, hSt, hn⟩ := id hF
  obtain ⟨q0, h1, h2⟩ := w_at cI ad σ hi
  have h3 : cont cI ad σ i = .inl (cI, n, .inl (σ i)) := by unfold cont; rw [hn0]
  rw [h3] at h2
  exact va_alen hx hb hSt.1 hP q0 0 h2 rfl hv hd (hA p l e R s m args below meth c cells slots Q D cI ad hF hR H locs ls hP hS hl)

theorem x_mmax {idx : Nat} {x y : Int32} (hd : decode M.1 pc = .ok (.invokestatic idx, 3)) (hw : Cond.methodLink M.2.2.1 idx Lib.Math.max.name ∈ TT) (hw1 : Cond.static Lib.Math.max.name ∈ TT) (hw2 : Cond.initialized "java/lang/Math" ∈ TT) (hw3 : Cond.code Lib.Math.max.name Lib.Math.max.code 2 (some .int) ∈ TT) (hr : 1 ≤ M.2.2.2.2.1 ∧ 21 ≤ M.2.2.2.2.2) (hs : (S.map acat).sum ≤ 8) : Tj M ids pc L (aI y :: aI x :: S) σ (pc + 3) L (aI (if x < y then y else x) :: S) σ := by
  intro Φ hA p l e R s m args below meth c cells slots Q D cI ad hF hR H locs ls hP hS hl
  obtain ⟨hx, hb, hml, hown, hts, hroom, hSt, hn⟩ := id hF
  have hs2 : ((S.map (tr ad)).map fun v => v.category).sum ≤ 8 := by rw [cat_map]; exact hs
  exact va_mmax hx hb (hml.trans hl.1.symm) hown (hts _ hw) (hts _ hw1) (hts _ hw2) (hts _ hw3) (Nat.le_trans hr.1 hroom.1) (by have := hr.2; have := hroom.2.1; omega) hroom.2.2.1 hroom.2.2.2 hd (hA p l e R s m args below meth c cells slots Q D cI ad hF hR H locs ls hP hS hl)

theorem x_mmin {idx : Nat} {x y : Int32} (hd : decode M.1 pc = .ok (.invokestatic idx, 3)) (hw : Cond.methodLink M.2.2.1 idx Lib.Math.min.name ∈ TT) (hw1 : Cond.static Lib.Math.min.name ∈ TT) (hw2 : Cond.initialized "java/lang/Math" ∈ TT) (hw3 : Cond.code Lib.Math.min.name Lib.Math.min.code 2 (some .int) ∈ TT) (hr : 1 ≤ M.2.2.2.2.1 ∧ 21 ≤ M.2.2.2.2.2) (hs : (S.map acat).sum ≤ 8) : Tj M ids pc L (aI y :: aI x :: S) σ (pc + 3) L (aI (if y < x then y else x) :: S) σ := by
  intro Φ hA p l e R s m args below meth c cells slots Q D cI ad hF hR H locs ls hP hS hl
  obtain ⟨hx, hb, hml, hown, hts, hroom, hSt, hn⟩ := id hF
  have hs2 : ((S.map (tr ad)).map fun v => v.category).sum ≤ 8 := by rw [cat_map]; exact hs
  exact va_mmin hx hb (hml.trans hl.1.symm) hown (hts _ hw) (hts _ hw1) (hts _ hw2) (hts _ hw3) (Nat.le_trans hr.1 hroom.1) (by have := hr.2; have := hroom.2.1; omega) hroom.2.2.1 hroom.2.2.2 hd (hA p l e R s m args below meth c cells slots Q D cI ad hF hR H locs ls hP hS hl)

theorem x_mabs {idx : Nat} {x : Int32} (hd : decode M.1 pc = .ok (.invokestatic idx, 3)) (hw : Cond.methodLink M.2.2.1 idx Lib.Math.abs.name ∈ TT) (hw1 : Cond.static Lib.Math.abs.name ∈ TT) (hw2 : Cond.initialized "java/lang/Math" ∈ TT) (hw3 : Cond.code Lib.Math.abs.name Lib.Math.abs.code 1 (some .int) ∈ TT) (hr : 1 ≤ M.2.2.2.2.1 ∧ 21 ≤ M.2.2.2.2.2) (hs : (S.map acat).sum ≤ 8) : Tj M ids pc L (aI x :: S) σ (pc + 3) L (aI (if 0 ≤ x then x else 0 - x) :: S) σ := by
  intro Φ hA p l e R s m args below meth c cells slots Q D cI ad hF hR H locs ls hP hS hl
  obtain ⟨hx, hb, hml, hown, hts, hroom, hSt, hn⟩ := id hF
  have hs2 : ((S.map (tr ad)).map fun v => v.category).sum ≤ 8 := by rw [cat_map]; exact hs
  exact va_mabs hx hb (hml.trans hl.1.symm) hown (hts _ hw) (hts _ hw1) (hts _ hw2) (hts _ hw3) (Nat.le_trans hr.1 hroom.1) (by have := hr.2; have := hroom.2.1; omega) hroom.2.2.1 hroom.2.2.2 hd (hA p l e R s m args below meth c cells slots Q D cI ad hF hR H locs ls hP hS hl)

theorem x_copy {idx : Nat} {i j : Nat × Nat} {n0 n1 : Nat} {sp dp n : Int32} (hd : decode M.1 pc = .ok (.invokestatic idx, 3)) (hw : Cond.methodLink M.2.2.1 idx arraycopyName ∈ TT) (hw1 : Cond.native arraycopyName ∈ TT) (hw2 : Cond.static arraycopyName ∈ TT) (hw3 : Cond.initialized "java/lang/System" ∈ TT) (hi : i ∈ ids) (hj : j ∈ ids) (hn0 : ly_len i.2 = some n0) (hn1 : ly_len j.2 = some n1) (h1 : ¬ sp < 0) (h2 : ¬ dp < 0) (h3 : ¬ n < 0) (h4 : sp.toNatClampNeg + n.toNatClampNeg ≤ n0) (h5 : dp.toNatClampNeg + n.toNatClampNeg ≤ n1) (hr : 1 ≤ M.2.2.2.2.1 ∧ 8 + (nativeFrameWords "java/lang/System" "arraycopy" 5 + 11) ≤ M.2.2.2.2.2) (hs : (S.map acat).sum ≤ 8) : Tj M ids pc L (aI n :: aI dp :: aR j :: aI sp :: aR i :: S) σ (pc + 3) L S (upA σ j (va_cpy (σ i) (σ j) sp.toNatClampNeg dp.toNatClampNeg n.toNatClampNeg)) := by
  intro Φ hA p l e R s m args below meth c cells slots Q D cI ad hF hR H locs ls hP hS hl
  obtain ⟨hx, hb, hml, hown, hts, hroom, hSt, hn⟩ := id hF
  have hs2 : ((S.map (tr ad)).map fun v => v.category).sum ≤ 8 := by rw [cat_map]; exact hs
  obtain ⟨q0, g1, g2⟩ := w_at cI ad σ hi
  obtain ⟨q1, g3, g4⟩ := w_at cI ad σ hj
  have e1 : cont cI ad σ i = .inl (cI, n0, .inl (σ i)) := by unfold cont; rw [hn0]
  have e2 : ∀ τ : Sg, cont cI ad τ j = .inl (cI, n1, .inl (τ j)) := fun τ => by unfold cont; rw [hn1]
  rw [e1] at g2
  rw [e2] at g4
  have e8 : (wOf ids cI ad σ).set q1 (ad j, .inl (cI, n1, .inl (va_cpy (σ i) (σ j) sp.toNatClampNeg dp.toNatClampNeg n.toNatClampNeg))) = wOf ids cI ad (upA σ j (va_cpy (σ i) (σ j) sp.toNatClampNeg dp.toNatClampNeg n.toNatClampNeg)) := by
    rw [← w_set hn cI ad σ (va_cpy (σ i) (σ j) sp.toNatClampNeg dp.toNatClampNeg n.toNatClampNeg) g3, e2, upA_same]
  exact va_copyi hx hb (hml.trans hl.1.symm) hown (hts _ hw) (hts _ hw1) (hts _ hw2) (hts _ hw3) hSt.1 hP (w_D hn hSt.2.2.2 cI σ) hS q0 q1 0 0 g2 g4 rfl rfl rfl h1 h2 h3 h4 h5 (fun _ _ => rfl) (Nat.le_trans hr.1 hroom.1) (by have := hr.2; have := hroom.2.1; omega) hd (fun H1 locs1 hP1 _ hS1 => hA p l e R s m args below meth c cells slots Q D cI ad hF hR H1 locs1 ls (by rw [← e8]; exact hP1) hS1 hl)

end TT1
def chk {β : Type} (c : Prop) [Decidable c] (o : Option β) : Option β := if c then o else none
def bd {α β : Type} (o : Option (α × Sg)) (k : α → Sg → Option β) : Option β := match o with
  | some q => k q.1 q.2
  | none => none
def bv {α β : Type} (a : α) (k : α → Option β) : Option β := k a
def alen (i : Nat × Nat) : Nat := (ly_len i.2).getD 0
abbrev inb (j : Int32) (n : Nat) : Prop := ¬ (j < 0 ∨ n ≤ j.toNatClampNeg)
def dynId (z : Int32) : Nat × Nat := if z = 1 then (0, ly_kept) else (0, ly_imaged)
def InR (ids : List (Nat × Nat)) (h a b : Nat) : Prop := ∀ m, a ≤ m → m ≤ b → (h, m) ∈ ids
theorem InR.sub {ids : List (Nat × Nat)} {h a b a' b' : Nat} (H : InR ids h a b) (h1 : a ≤ a') (h2 : b' ≤ b) : InR ids h a' b' := fun m x y => H m (Nat.le_trans h1 x) (Nat.le_trans y h2)
theorem dyn_len {z : Int32} : ly_len (dynId z).2 = some 810 := by unfold dynId; split <;> rfl
theorem dyn_in {ids : List (Nat × Nat)} {z : Int32} (h1 : (0, ly_kept) ∈ ids) (h2 : (0, ly_imaged) ∈ ids) : dynId z ∈ ids := by unfold dynId; split <;> assumption
theorem dyn_v {z : Int32} (h : z = 1 ∨ z = 2) (ad : Nat × Nat → Nat) : va_rf ((ly_dyn z).map ad) = tr ad (aR (dynId z)) := by
  unfold dynId ly_dyn
  by_cases h1 : z = 1
  · rw [if_pos h1, if_pos h1]; rfl
  · have h2 : z = 2 := h.resolve_left h1
    rw [if_neg h1, if_neg h1, if_pos h2]; rfl
theorem put_i0 (ad : Nat × Nat → Nat) (σ : Sg) (i : Nat × Nat) (k : Nat) (z : Int32) (h : ly_f i k = .inl 0) : ly_v ad (upS σ i k z) i k = tr ad (aI z) := by
  unfold ly_v upS
  rw [h, upA_same]
  show Value.int (upd (σ i) k z k) = Value.int z
  unfold upd
  rw [if_pos rfl]
theorem put_i1 (ad : Nat × Nat → Nat) (σ : Sg) (i : Nat × Nat) (k : Nat) (z : Int32) (h : ly_f i k = .inl 1) : ly_v ad (upS σ i k z) i k = tr ad (aI z) := by
  unfold ly_v upS
  rw [h, upA_same]
  show Value.int (upd (σ i) k z k) = Value.int z
  unfold upd
  rw [if_pos rfl]
theorem put_dyn {i : Nat × Nat} (h : i = (0, ly_kept) ∨ i = (0, ly_imaged)) (ad : Nat × Nat → Nat) (σ : Sg) {j : Nat × Nat} {k : Nat} (hf : ly_f j k = .inl 2) : ly_v ad (upS σ j k (if i = (0, ly_kept) then (1 : Int32) else 2)) j k = tr ad (aR i) := by
  unfold ly_v upS
  rw [hf, upA_same]
  unfold upd
  rw [if_pos rfl]
  rcases h with rfl | rfl <;> rfl
theorem cp_le {a b : Nat} (h : a ≤ b) : (0 : Int32).toNatClampNeg + a ≤ b := by
  show 0 + a ≤ b
  omega
abbrev jmax (x y : Int32) : Int32 := if x < y then y else x
abbrev jmin (x y : Int32) : Int32 := if y < x then y else x
abbrev jabs (x : Int32) : Int32 := if 0 ≤ x then x else 0 - x
def fuel : Nat := 2000
theorem leL_e (t : List (Option AV)) : leL [] t := trivial
theorem leL_s {v : AV} {t t' : List (Option AV)} (h : leL t t') : leL (some v :: t) (some v :: t') := ⟨rfl, h⟩
theorem leL_n {x : Option AV} {t t' : List (Option AV)} (h : leL t t') : leL (none :: t) (x :: t') := h
theorem nar_b {v : Int32} (h : v = 0 ∨ v = 1) : narrow .boolean (.int v) = .int v := by rcases h with rfl | rfl <;> rfl
theorem fit_b {v : Int32} (h : v = 0 ∨ v = 1) : fits .boolean (.int v) = true := by rcases h with rfl | rfl <;> rfl
theorem b_ite {c : Prop} {dc : Decidable c} {a b : Int32} (h1 : a = 0 ∨ a = 1) (h2 : b = 0 ∨ b = 1) : @ite _ c dc a b = 0 ∨ @ite _ c dc a b = 1 := by
  split
  · exact h1
  · exact h2
section GG2
variable {β α : Type} {K : β → Option AV × Sg} {M Mc : MI} {ids : List (Nat × Nat)} {pc : Nat} {L L' : List (Option AV)} {S : List AV} {σ σ' : Sg} {o : Option β}
theorem G_chk {c : Prop} {dc : Decidable c} (h : c → Gj K M ids pc L S σ o) : Gj K M ids pc L S σ (@chk β c dc o) := by
  intro Φ x h1 h2
  unfold chk at h1
  split at h1
  · next hc => exact h hc Φ x h1 h2
  · cases h1
theorem G_bd {fo : Option (α × Sg)} {k : α → Sg → Option β} (h : ∀ r σ1, fo = some (r, σ1) → Gj K M ids pc L S σ (k r σ1)) : Gj K M ids pc L S σ (bd fo k) := by
  intro Φ x h1 h2
  unfold bd at h1
  split at h1
  · next q => exact h q.1 q.2 rfl Φ x h1 h2
  · cases h1
theorem G_bvI {e : Int32} {k : Int32 → Option β} (h : ∀ y, Gj K M ids pc L (aI y :: S) σ (k y)) : Gj K M ids pc L (aI e :: S) σ (bv e k) := h e
theorem G_bvL {e : Int64} {k : Int64 → Option β} (h : ∀ y, Gj K M ids pc L (aL y :: S) σ (k y)) : Gj K M ids pc L (aL e :: S) σ (bv e k) := h e
theorem G_bvS {k : Sg → Option β} (h : ∀ y, Gj K M ids pc L S y (k y)) : Gj K M ids pc L S σ (bv σ k) := h σ
theorem G_weak (L' : List (Option AV)) (h : leL L' L) (k : Gj K M ids pc L' S σ o) : Gj K M ids pc L S σ o := by
  intro Φ x h1 h2 p l e R s m args below meth c cells slots Q D cI ad hF hR H locs ls hP hS hl
  exact k Φ x h1 h2 p l e R s m args below meth c cells slots Q D cI ad hF hR H locs ls hP hS (lv_leA hl h)
theorem G_none : Gj K M ids pc L S σ none := fun _ _ h => by cases h
theorem G_ret {x : β} {r : Option AV} (hK : K x = (r, σ)) (hd : retD M pc r) (hS : S = r.toList) : Gj K M ids pc L S σ (some x) := by
  intro Φ x' h1 h2 p l e R s m args below meth c cells slots Q D cI ad hF hR H locs ls hP hS1 hl
  cases h1
  rw [hK] at h2
  subst hS
  exact hR r σ pc H locs ls h2 hd hP hS1
/-- a method's contract out of a run of its body -/
theorem Mt_of {y : MethodName} {as : List AV} {x : β} (hG : Gj K M ids 0 L [] σ o) (ho : o = some x) (hy : plainName y.cls = true) (hown : y.cls = M.2.2.1) (hn : Ndp ids) (hL : ∀ ad : Nat × Nat → Nat, lv_args 0 (as.map (tr ad)) = toAL ad 0 L) (hlen : ∀ ad : Nat × Nat → Nat, (lg_sl (as.map (tr ad))).length ≤ M.2.1) : Mt0 M y ids as σ (K x).1 (K x).2 := by
  intro l D cI ad
  refine Met.ofW (cc := M.1) (maxL := M.2.1) (ret := M.2.2.2.1) hy rfl ?_
  intro p e s m args below meth c s₁ B hml hv
  obtain ⟨rfl, hP, hSt⟩ := hv
  have hr := B.returns
  have hts := atoms_spec (ws := wsM M y) B.pre
  have hown1 : s.vm.findClass y.cls = some m.cls := findClass_of_methodNamed B.named
  have hlocks := B.notSynchronized
  have hl := lv_entry (as.map (tr ad)) (n := M.2.1) (hlen ad)
  rw [lg_entry_eq]
  rw [hL ad] at hl
  refine hG (fun r τ => r = (K x).1 ∧ τ = (K x).2) x ho ⟨rfl, rfl⟩ p l e (rmM M) s m _ below meth c 0 0 _ D cI ad ⟨B.exec, B.bytes, hml, by rw [← hown]; exact hown1, fun w hw => hts w (List.mem_cons_of_mem _ hw), ⟨Nat.le_refl _, Nat.le_refl _, Nat.le_refl _, Nat.le_refl _⟩, hSt, hn⟩ ?_ s.heap [] _ hP va_S.rf hl
  intro r τ pc H locs ls hΦ hd hP1 hS1
  obtain ⟨rfl, rfl⟩ := hΦ
  have post : ∀ v, v = (K x).1.map (tr ad) → ∀ t : State, t.heap = H → s.WarmedH t.vm → ((Outcome.returned v = .returned ((K x).1.map (tr ad)) ∧ va_P D vwCl (wOf ids cI ad (K x).2) t.heap ∧ va_F (inA ids ad) s t)) := fun v hv t ht _ => ⟨by rw [hv], by rw [ht]; exact hP1, hS1.F ht⟩
  revert hd post
  generalize (K x).1 = r9
  intro hd post
  match r9, hd, post with
  | none, hd, post => exact W.vret B.exec B.bytes (hr.trans hd.1) (post none rfl) hS1.2.2 hd.2 hlocks
  | some (.inl v), hd, post =>
    obtain ⟨h1, ty, h2, h3⟩ := hd
    exact W.zret B.exec B.bytes (hr.trans h2) h3 (post (some (.int v)) rfl) hS1.2.2 h1 hlocks
  | some (.inr (.inl v)), hd, post => exact W.lret B.exec B.bytes (hr.trans hd.2) (post (some (.long v)) rfl) hS1.2.2 hd.1 hlocks
  | some (.inr (.inr i)), hd, post =>
    obtain ⟨h1, n, h2⟩ := hd
    exact W.aret B.exec B.bytes (hr.trans h2) (Or.inl ⟨n, rfl⟩) (Or.inr ⟨_, rfl⟩) (post (some (.ref (ad i))) rfl) hS1.2.2 h1 hlocks
end GG2
/-! calls -/
theorem runGo {p : Program} {l : Launch} {e : Env} {R : Room} {s : State} {m : MethodId} {args : Array Value} {below : List Frame} {meth : Method} {c : Code} {H : Heap} {locs : List Loc} {cells slots : Nat} {Q : State → Prop} {pc : Nat} {ls : Array Slot} {st0 rest : List Value} {v : Option Value} {PP : Heap → Prop} {A1 : Nat → Prop}
    (hr : va_Run p l e R s m args below meth c H locs cells slots 0 0 (F0 m pc ls st0) rest (fun st o t => o = .returned v ∧ PP t.heap ∧ va_F A1 st t) A1) (hS : va_S A1 s.heap H locs)
    (kk : ∀ (H1 : Heap) (locs1 : List Loc), PP H1 → va_S A1 s.heap H1 locs1 → W p l e R s m args below meth c H1 locs1 cells slots Q (F0 m (pc + 3) ls (v.toList ++ rest))) : W p l e R s m args below meth c H locs cells slots Q (F0 m pc ls st0) := by
  intro T hT X
  obtain ⟨v', st₀, t, T', L, h0, X', hL, e1, e2, ⟨hv, hp, hz, hk⟩, st⟩ := hr T hT X
  cases hv
  rw [h0] at hz hk
  obtain ⟨t2, a1, b1⟩ := kk T'.heap (locs ++ L) (by rw [e1]; exact hp)
    ⟨Nat.le_trans hS.1 (by rw [e1]; exact hz), fun q h1 h2 => by rw [e1, hk q (Nat.lt_of_lt_of_le h1 hS.1) h2]; exact hS.2.1 q h1 h2, fun q hq => by
      rcases List.mem_append.mp hq with h | h
      · exact hS.2.2 q h
      · exact hL q h⟩ T' rfl X'
  exact ⟨t2, st t2 a1, b1⟩
theorem pcBlind {vs : List Value} {ids : List (Nat × Nat)} {D : va_G} {cI : ClassId} {ad : Nat × Nat → Nat} {σ : Sg} : FrameBlind (va_Pc vs (fun U => va_P D vwCl (wOf ids cI ad σ) U.heap ∧ St ids D cI ad U)) := by
  intro a U g mk q
  obtain ⟨q0, q1, q2⟩ := q
  exact ⟨q0, q1, St.same q2 rfl rfl⟩
/-- what the tables say of a method that is called: static, of an object -/
def kSt (Mc : MI) (y : MethodName) (n : Nat) : Prop := Cond.static y ∈ TT ∧ Cond.initialized y.cls ∈ TT ∧ Cond.code y Mc.1 Mc.2.1 Mc.2.2.2.1 ∈ TT ∧ y.cls ≠ "java/lang/invoke/MethodHandle" ∧ y.cls ≠ "java/lang/invoke/VarHandle" ∧ (parseMethodDescriptor y.desc).map (fun d => d.parameters.length) = some n
def kVi (Mc : MI) (y : MethodName) (n : Nat) : Prop := (Cond.instanceMethod y ∈ TT ∧ Cond.selects y.cls y y ∈ TT) ∧ Cond.initialized y.cls ∈ TT ∧ Cond.code y Mc.1 Mc.2.1 Mc.2.2.2.1 ∈ TT ∧ y.cls ≠ "java/lang/invoke/MethodHandle" ∧ y.cls ≠ "java/lang/invoke/VarHandle" ∧ (parseMethodDescriptor y.desc).map (fun d => d.parameters.length) = some n
def fits2 (M Mc : MI) : Prop := Mc.2.2.2.2.1 + 1 ≤ M.2.2.2.2.1 ∧ 8 + (Mc.2.1 + 11) + Mc.2.2.2.2.2 ≤ M.2.2.2.2.2
section CC
variable {M Mc : MI} {ids : List (Nat × Nat)} {pc idx n : Nat} {L : List (Option AV)} {S st : List AV} {σ σ' : Sg} {as : List AV} {r : Option AV} {y : MethodName}
theorem good_ws {hc : Cond.code y Mc.1 Mc.2.1 Mc.2.2.2.1 ∈ TT} : GoodIn TT (wsM Mc y) := fun w hw => by
  rcases List.mem_cons.mp hw with rfl | hw
  · exact tt_good _ hc
  · exact tt_good _ hw
theorem x_callS (S : List AV) (hM : Mt0 Mc y ids as σ r σ') (hd : decode M.1 pc = .ok (.invokestatic idx, 3)) (hl : Cond.methodLink M.2.2.1 idx y ∈ TT) (k : kSt Mc y n) (hn : as.length = n) (hf : fits2 M Mc) (hS0 : (S.map acat).sum ≤ 8) (hst : as.reverse ++ S = st) : Tj M ids pc L st σ (pc + 3) L (r.toList ++ S) σ' := by
  subst hst
  intro Φ hA p l e R s m args below meth c cells slots Q D cI ad hF hR H locs ls hP hS hl1
  obtain ⟨hx, hb, hml, hown, hts, hroom, hSt, hnd⟩ := id hF
  obtain ⟨k1, k2, k3, k4, k5, k6⟩ := k
  have hs2 : ((S.map (tr ad)).map fun v => v.category).sum ≤ 8 := by rw [cat_map]; exact hS0
  have cw : CallB R s args M.2.2.1 idx y Mc.1 Mc.2.1 Mc.2.2.2.1 (wsM Mc y) (rmM Mc) 0 0 n ∧ (Cond.static y).before args s = true := ⟨callB_of n hts (good_ws (hc := k3)) rfl rfl rfl (hts _ k2) (hts _ hl) ⟨k4, k5, k6⟩ ⟨Nat.le_trans hf.1 hroom.1, Nat.le_trans hf.2 hroom.2.1⟩, hts _ k1⟩
  refine runGo (v := r.map (tr ad)) (PP := fun h => va_P D vwCl (wOf ids cI ad σ') h) (A1 := inA ids ad) (rest := S.map (tr ad)) (va_runS (As := as.map (tr ad)) ⟨hx, hb, hml, hown, hts⟩ (hM l D cI ad) cw ⟨pcBlind, fun U hU hW => ⟨rfl, by rw [hU]; exact hP, hSt.go hS hU hW⟩⟩ rfl (by rw [List.length_map]; exact hn) hl1.1 (by rw [List.map_append, List.map_reverse]) (lv_room hs2) hd ⟨hroom.2.2.1, hroom.2.2.2⟩) hS ?_
  intro H1 locs1 hP1 hS1
  have h9 := hA p l e R s m args below meth c cells slots Q D cI ad hF hR H1 locs1 ls hP1 hS1 hl1
  rw [List.map_append] at h9
  cases r <;> exact h9
theorem x_callN (S : List AV) {host : String} (hM : Mt0 Mc y ids as σ r σ') (hd : decode M.1 pc = .ok (.invokestatic idx, 3)) (hl : (M.2.2.1, idx, y, host) ∈ nestL) (k : kSt Mc y n) (hn : as.length = n) (hf : fits2 M Mc) (hS0 : (S.map acat).sum ≤ 8) (hst : as.reverse ++ S = st) : Tj M ids pc L st σ (pc + 3) L (r.toList ++ S) σ' := by
  subst hst
  intro Φ hA p l e R s m args below meth c cells slots Q D cI ad hF hR H locs ls hP hS hl1
  obtain ⟨hx, hb, hml, hown, hts, hroom, hSt, hnd⟩ := id hF
  obtain ⟨k1, k2, k3, k4, k5, k6⟩ := k
  have hs2 : ((S.map (tr ad)).map fun v => v.category).sum ≤ 8 := by rw [cat_map]; exact hS0
  have cw := va_cnB (R := R) (own := M.2.2.1) (index := idx) (host := host) (rm := rmM Mc) (mc := 0) (ms := 0) (ws := wsM Mc y) (y := y) n hts (good_ws (hc := k3)) rfl rfl rfl (hSt.2.1 _ hl) (hts _ k2) ⟨k4, k5, k6⟩ ⟨Nat.le_trans hf.1 hroom.1, Nat.le_trans hf.2 hroom.2.1⟩
  refine runGo (v := r.map (tr ad)) (PP := fun h => va_P D vwCl (wOf ids cI ad σ') h) (A1 := inA ids ad) (rest := S.map (tr ad)) (va_runSN (As := as.map (tr ad)) ⟨hx, hb, hml, hown, hts⟩ (hM l D cI ad) ⟨cw, hts _ k1, trivial⟩ ⟨pcBlind, fun U hU hW => ⟨rfl, by rw [hU]; exact hP, hSt.go hS hU hW⟩⟩ rfl (by rw [List.length_map]; exact hn) hl1.1 (by rw [List.map_append, List.map_reverse]) (lv_room hs2) hd ⟨hroom.2.2.1, hroom.2.2.2⟩) hS ?_
  intro H1 locs1 hP1 hS1
  have h9 := hA p l e R s m args below meth c cells slots Q D cI ad hF hR H1 locs1 ls hP1 hS1 hl1
  rw [List.map_append] at h9
  cases r <;> exact h9
theorem x_callV (S : List AV) {i : Nat × Nat} {ci N : Nat} {T : u_T} (hM : Mt0 Mc y ids (aR i :: as) σ r σ') (hd : decode M.1 pc = .ok (.invokevirtual idx, 3)) (hl : Cond.methodLink M.2.2.1 idx y ∈ TT) (k : kVi Mc y n) (hi : i ∈ ids) (hc0 : ly_len i.2 = none) (hcl : ly_cls i.2 = ci) (hv : vwCl[ci]? = some (y.cls, T, N)) (hn : as.length = n) (hf : fits2 M Mc) (hS0 : (S.map acat).sum ≤ 8) (hst : as.reverse ++ (aR i :: S) = st) : Tj M ids pc L st σ (pc + 3) L (r.toList ++ S) σ' := by
  subst hst
  intro Φ hA p l e R s m args below meth c cells slots Q D cI ad hF hR H locs ls hP hS hl1
  obtain ⟨hx, hb, hml, hown, hts, hroom, hSt, hnd⟩ := id hF
  obtain ⟨⟨k1, k1b⟩, k2, k3, k4, k5, k6⟩ := k
  have hs2 : ((S.map (tr ad)).map fun v => v.category).sum ≤ 8 := by rw [cat_map]; exact hS0
  have cw := cwV (R := R) (own := M.2.2.1) (C := y.cls) (index := idx) (rm := rmM Mc) (mc := 0) (ms := 0) (ws := wsM Mc y) (y := y) n hts (fun w hw => by
    unfold wsV at hw
    rcases List.mem_append.mp hw with h | h
    · simp only [List.mem_cons, List.not_mem_nil, or_false] at h
      rcases h with rfl | rfl | rfl | rfl
      · exact tt_good _ hl
      · exact tt_good _ k1
      · exact tt_good _ k1b
      · exact tt_good _ k2
    · exact good_ws (hc := k3) w h) rfl rfl rfl ⟨rfl, k4, k5, k6⟩ ⟨Nat.le_trans hf.1 hroom.1, Nat.le_trans hf.2 hroom.2.1⟩
  obtain ⟨q0, g1, g2⟩ := w_at cI ad σ hi
  have h3 : cont cI ad σ i = .inr (ci, (List.range (ly_n i.2)).map (ly_v ad σ i)) := by unfold cont; rw [hc0, hcl]
  rw [h3] at g2
  refine runGo (v := r.map (tr ad)) (PP := fun h => va_P D vwCl (wOf ids cI ad σ') h) (A1 := inA ids ad) (rest := S.map (tr ad)) (va_runV (b := ad i) (As := as.map (tr ad)) ⟨hx, hb, hml, hown, hts⟩ (hM l D cI ad) cw ⟨pcBlind, va_recv hSt.1 hP hv g2, fun U hU hW => ⟨rfl, by rw [hU]; exact hP, hSt.go hS hU hW⟩⟩ rfl (by rw [List.length_map]; exact hn) hl1.1 (by rw [List.map_append, List.map_reverse]; rfl) (lv_room hs2) hd ⟨hroom.2.2.1, hroom.2.2.2⟩) hS ?_
  intro H1 locs1 hP1 hS1
  have h9 := hA p l e R s m args below meth c cells slots Q D cI ad hF hR H1 locs1 ls hP1 hS1 hl1
  rw [List.map_append] at h9
  cases r <;> exact h9
end CC
end
section
theorem tw_0 : Cond.selects "DripsOnBelow" ⟨"DripsOnBelow", "refuse", "(I)I"⟩ ⟨"DripsOnBelow", "refuse", "(I)I"⟩ ∈ TT := tt_mem 0 (by decide +kernel) rfl
theorem tw_1 : Cond.selects "DripsOnBelow" ⟨"DripsOnBelow", "isTenant", "(I)Z"⟩ ⟨"DripsOnBelow", "isTenant", "(I)Z"⟩ ∈ TT := tt_mem 1 (by decide +kernel) rfl
theorem tw_2 : Cond.selects "DripsOnBelow" ⟨"DripsOnBelow", "isHabit", "(I)Z"⟩ ⟨"DripsOnBelow", "isHabit", "(I)Z"⟩ ∈ TT := tt_mem 2 (by decide +kernel) rfl
theorem tw_3 : Cond.selects "DripsOnBelow" ⟨"DripsOnBelow", "tryAnew", "()V"⟩ ⟨"DripsOnBelow", "tryAnew", "()V"⟩ ∈ TT := tt_mem 3 (by decide +kernel) rfl
theorem tw_4 : Cond.selects "DripsOnBelow" ⟨"DripsOnBelow", "doneTo", "(I)I"⟩ ⟨"DripsOnBelow", "doneTo", "(I)I"⟩ ∈ TT := tt_mem 4 (by decide +kernel) rfl
theorem tw_5 : Cond.selects "DripsOnBelow" ⟨"DripsOnBelow", "tryHour", "(II)I"⟩ ⟨"DripsOnBelow", "tryHour", "(II)I"⟩ ∈ TT := tt_mem 5 (by decide +kernel) rfl
theorem tw_6 : Cond.selects "DripsOnBelow" ⟨"DripsOnBelow", "tryQuiet", "(II)I"⟩ ⟨"DripsOnBelow", "tryQuiet", "(II)I"⟩ ∈ TT := tt_mem 6 (by decide +kernel) rfl
theorem tw_7 : Cond.selects "DripsOnBelow" ⟨"DripsOnBelow", "tryAsIs", "()I"⟩ ⟨"DripsOnBelow", "tryAsIs", "()I"⟩ ∈ TT := tt_mem 7 (by decide +kernel) rfl
theorem tw_8 : Cond.selects "DripsOnBelow" ⟨"DripsOnBelow", "tryAwning", "(II)I"⟩ ⟨"DripsOnBelow", "tryAwning", "(II)I"⟩ ∈ TT := tt_mem 8 (by decide +kernel) rfl
theorem tw_9 : Cond.selects "DripsOnBelow" ⟨"DripsOnBelow", "gain", "(I)I"⟩ ⟨"DripsOnBelow", "gain", "(I)I"⟩ ∈ TT := tt_mem 9 (by decide +kernel) rfl
theorem tw_10 : Cond.selects "DripsOnBelow" ⟨"DripsOnBelow", "rings", "()I"⟩ ⟨"DripsOnBelow", "rings", "()I"⟩ ∈ TT := tt_mem 10 (by decide +kernel) rfl
theorem tw_11 : Cond.selects "DripsOnBelow" ⟨"DripsOnBelow", "pairs", "(Z)I"⟩ ⟨"DripsOnBelow", "pairs", "(Z)I"⟩ ∈ TT := tt_mem 11 (by decide +kernel) rfl
theorem tw_12 : Cond.selects "DripsOnBelowModel" ⟨"DripsOnBelowModel", "clearAll", "()V"⟩ ⟨"DripsOnBelowModel", "clearAll", "()V"⟩ ∈ TT := tt_mem 12 (by decide +kernel) rfl
theorem tw_13 : Cond.selects "DripsOnBelowModel" ⟨"DripsOnBelowModel", "refuse", "(I)I"⟩ ⟨"DripsOnBelowModel", "refuse", "(I)I"⟩ ∈ TT := tt_mem 13 (by decide +kernel) rfl
theorem tw_14 : Cond.selects "DripsOnBelowModel" ⟨"DripsOnBelowModel", "readStatement", "()V"⟩ ⟨"DripsOnBelowModel", "readStatement", "()V"⟩ ∈ TT := tt_mem 14 (by decide +kernel) rfl
theorem tw_15 : Cond.selects "DripsOnBelowModel" ⟨"DripsOnBelowModel", "here", "()I"⟩ ⟨"DripsOnBelowModel", "here", "()I"⟩ ∈ TT := tt_mem 15 (by decide +kernel) rfl
theorem tw_16 : Cond.selects "DripsOnBelowModel" ⟨"DripsOnBelowModel", "readDigit", "()I"⟩ ⟨"DripsOnBelowModel", "readDigit", "()I"⟩ ∈ TT := tt_mem 16 (by decide +kernel) rfl
theorem tw_17 : Cond.selects "DripsOnBelowModel" ⟨"DripsOnBelowModel", "readTwo", "()I"⟩ ⟨"DripsOnBelowModel", "readTwo", "()I"⟩ ∈ TT := tt_mem 17 (by decide +kernel) rfl
theorem tw_18 : Cond.selects "DripsOnBelowModel" ⟨"DripsOnBelowModel", "readSign", "()I"⟩ ⟨"DripsOnBelowModel", "readSign", "()I"⟩ ∈ TT := tt_mem 18 (by decide +kernel) rfl
theorem tw_19 : Cond.selects "DripsOnBelowModel" ⟨"DripsOnBelowModel", "readHours", "()I"⟩ ⟨"DripsOnBelowModel", "readHours", "()I"⟩ ∈ TT := tt_mem 19 (by decide +kernel) rfl
theorem tw_20 : Cond.selects "DripsOnBelowModel" ⟨"DripsOnBelowModel", "readTenant", "()I"⟩ ⟨"DripsOnBelowModel", "readTenant", "()I"⟩ ∈ TT := tt_mem 20 (by decide +kernel) rfl
theorem tw_21 : Cond.selects "DripsOnBelowModel" ⟨"DripsOnBelowModel", "carryAll", "([IZ)V"⟩ ⟨"DripsOnBelowModel", "carryAll", "([IZ)V"⟩ ∈ TT := tt_mem 21 (by decide +kernel) rfl
theorem tw_22 : Cond.selects "DripsOnBelowModel" ⟨"DripsOnBelowModel", "carry", "(I)I"⟩ ⟨"DripsOnBelowModel", "carry", "(I)I"⟩ ∈ TT := tt_mem 22 (by decide +kernel) rfl
theorem tw_23 : Cond.selects "DripsOnBelowModel" ⟨"DripsOnBelowModel", "comes", "(I)Z"⟩ ⟨"DripsOnBelowModel", "comes", "(I)Z"⟩ ∈ TT := tt_mem 23 (by decide +kernel) rfl
theorem tw_24 : Cond.selects "DripsOnBelowModel" ⟨"DripsOnBelowModel", "frontComes", "(II)Z"⟩ ⟨"DripsOnBelowModel", "frontComes", "(II)Z"⟩ ∈ TT := tt_mem 24 (by decide +kernel) rfl
theorem tw_25 : Cond.selects "DripsOnBelowModel" ⟨"DripsOnBelowModel", "habitComes", "(I)Z"⟩ ⟨"DripsOnBelowModel", "habitComes", "(I)Z"⟩ ∈ TT := tt_mem 25 (by decide +kernel) rfl
theorem tw_26 : Cond.selects "DripsOnBelowModel" ⟨"DripsOnBelowModel", "tenants", "()I"⟩ ⟨"DripsOnBelowModel", "tenants", "()I"⟩ ∈ TT := tt_mem 26 (by decide +kernel) rfl
theorem tw_27 : Cond.selects "DripsOnBelowModel" ⟨"DripsOnBelowModel", "flatComes", "(II)Z"⟩ ⟨"DripsOnBelowModel", "flatComes", "(II)Z"⟩ ∈ TT := tt_mem 27 (by decide +kernel) rfl
theorem tw_28 : Cond.selects "DripsOnBelowModel" ⟨"DripsOnBelowModel", "flatAt", "(I)I"⟩ ⟨"DripsOnBelowModel", "flatAt", "(I)I"⟩ ∈ TT := tt_mem 28 (by decide +kernel) rfl
theorem tw_29 : Cond.selects "DripsOnBelowModel" ⟨"DripsOnBelowModel", "saucerIs", "(II)V"⟩ ⟨"DripsOnBelowModel", "saucerIs", "(II)V"⟩ ∈ TT := tt_mem 29 (by decide +kernel) rfl
theorem tw_30 : Cond.selects "DripsOnBelowModel" ⟨"DripsOnBelowModel", "livesIn", "(I)I"⟩ ⟨"DripsOnBelowModel", "livesIn", "(I)I"⟩ ∈ TT := tt_mem 30 (by decide +kernel) rfl
theorem tw_31 : Cond.selects "DripsOnBelowModel" ⟨"DripsOnBelowModel", "isTenant", "(I)Z"⟩ ⟨"DripsOnBelowModel", "isTenant", "(I)Z"⟩ ∈ TT := tt_mem 31 (by decide +kernel) rfl
theorem tw_32 : Cond.selects "DripsOnBelowModel" ⟨"DripsOnBelowModel", "habitsOf", "(I)I"⟩ ⟨"DripsOnBelowModel", "habitsOf", "(I)I"⟩ ∈ TT := tt_mem 32 (by decide +kernel) rfl
theorem tw_33 : Cond.selects "DripsOnBelowModel" ⟨"DripsOnBelowModel", "areTenants", "(II)Z"⟩ ⟨"DripsOnBelowModel", "areTenants", "(II)Z"⟩ ∈ TT := tt_mem 33 (by decide +kernel) rfl
theorem tw_34 : Cond.selects "DripsOnBelowModel" ⟨"DripsOnBelowModel", "isHabit", "(I)Z"⟩ ⟨"DripsOnBelowModel", "isHabit", "(I)Z"⟩ ∈ TT := tt_mem 34 (by decide +kernel) rfl
theorem tw_35 : Cond.selects "DripsOnBelowModel" ⟨"DripsOnBelowModel", "change", "(II)V"⟩ ⟨"DripsOnBelowModel", "change", "(II)V"⟩ ∈ TT := tt_mem 35 (by decide +kernel) rfl
theorem tw_36 : Cond.selects "DripsOnBelowModel" ⟨"DripsOnBelowModel", "oneWeek", "()I"⟩ ⟨"DripsOnBelowModel", "oneWeek", "()I"⟩ ∈ TT := tt_mem 36 (by decide +kernel) rfl
theorem tw_37 : Cond.selects "DripsOnBelowModel" ⟨"DripsOnBelowModel", "beginMind", "()V"⟩ ⟨"DripsOnBelowModel", "beginMind", "()V"⟩ ∈ TT := tt_mem 37 (by decide +kernel) rfl
theorem tw_38 : Cond.selects "DripsOnBelowModel" ⟨"DripsOnBelowModel", "clearHarm", "()V"⟩ ⟨"DripsOnBelowModel", "clearHarm", "()V"⟩ ∈ TT := tt_mem 38 (by decide +kernel) rfl
theorem tw_39 : Cond.selects "DripsOnBelowModel" ⟨"DripsOnBelowModel", "weekOn", "()I"⟩ ⟨"DripsOnBelowModel", "weekOn", "()I"⟩ ∈ TT := tt_mem 39 (by decide +kernel) rfl
theorem tw_40 : Cond.selects "DripsOnBelowModel" ⟨"DripsOnBelowModel", "fall", "(I)V"⟩ ⟨"DripsOnBelowModel", "fall", "(I)V"⟩ ∈ TT := tt_mem 40 (by decide +kernel) rfl
theorem tw_41 : Cond.selects "DripsOnBelowModel" ⟨"DripsOnBelowModel", "nextOf", "(II)I"⟩ ⟨"DripsOnBelowModel", "nextOf", "(II)I"⟩ ∈ TT := tt_mem 41 (by decide +kernel) rfl
theorem tw_42 : Cond.selects "DripsOnBelowModel" ⟨"DripsOnBelowModel", "harmOf", "(IIII)I"⟩ ⟨"DripsOnBelowModel", "harmOf", "(IIII)I"⟩ ∈ TT := tt_mem 42 (by decide +kernel) rfl
theorem tw_43 : Cond.selects "DripsOnBelowModel" ⟨"DripsOnBelowModel", "keptAt", "(III)I"⟩ ⟨"DripsOnBelowModel", "keptAt", "(III)I"⟩ ∈ TT := tt_mem 43 (by decide +kernel) rfl
theorem tw_44 : Cond.selects "DripsOnBelowModel" ⟨"DripsOnBelowModel", "sumHarm", "()I"⟩ ⟨"DripsOnBelowModel", "sumHarm", "()I"⟩ ∈ TT := tt_mem 44 (by decide +kernel) rfl
theorem tw_45 : Cond.selects "DripsOnBelowModel" ⟨"DripsOnBelowModel", "keepWeek", "()V"⟩ ⟨"DripsOnBelowModel", "keepWeek", "()V"⟩ ∈ TT := tt_mem 45 (by decide +kernel) rfl
theorem tw_46 : Cond.selects "DripsOnBelowModel" ⟨"DripsOnBelowModel", "fallAlone", "(I)V"⟩ ⟨"DripsOnBelowModel", "fallAlone", "(I)V"⟩ ∈ TT := tt_mem 46 (by decide +kernel) rfl
theorem tw_47 : Cond.selects "DripsOnBelowModel" ⟨"DripsOnBelowModel", "comesTo", "(II)Z"⟩ ⟨"DripsOnBelowModel", "comesTo", "(II)Z"⟩ ∈ TT := tt_mem 47 (by decide +kernel) rfl
theorem tw_48 : Cond.selects "DripsOnBelowModel" ⟨"DripsOnBelowModel", "quietHarm", "(II)I"⟩ ⟨"DripsOnBelowModel", "quietHarm", "(II)I"⟩ ∈ TT := tt_mem 48 (by decide +kernel) rfl
theorem tw_49 : Cond.selects "DripsOnBelowModel" ⟨"DripsOnBelowModel", "keepTimes", "()V"⟩ ⟨"DripsOnBelowModel", "keepTimes", "()V"⟩ ∈ TT := tt_mem 49 (by decide +kernel) rfl
theorem tw_50 : Cond.selects "DripsOnBelowModel" ⟨"DripsOnBelowModel", "timesBack", "()V"⟩ ⟨"DripsOnBelowModel", "timesBack", "()V"⟩ ∈ TT := tt_mem 50 (by decide +kernel) rfl
theorem tw_51 : Cond.selects "DripsOnBelowModel" ⟨"DripsOnBelowModel", "oneWeekOf", "(I)I"⟩ ⟨"DripsOnBelowModel", "oneWeekOf", "(I)I"⟩ ∈ TT := tt_mem 51 (by decide +kernel) rfl
theorem tw_52 : Cond.selects "DripsOnBelowModel" ⟨"DripsOnBelowModel", "keepHarm", "()V"⟩ ⟨"DripsOnBelowModel", "keepHarm", "()V"⟩ ∈ TT := tt_mem 52 (by decide +kernel) rfl
theorem tw_53 : Cond.selects "DripsOnBelowModel" ⟨"DripsOnBelowModel", "weekBoth", "(II)V"⟩ ⟨"DripsOnBelowModel", "weekBoth", "(II)V"⟩ ∈ TT := tt_mem 53 (by decide +kernel) rfl
theorem tw_54 : Cond.selects "DripsOnBelowModel" ⟨"DripsOnBelowModel", "revenge", "()V"⟩ ⟨"DripsOnBelowModel", "revenge", "()V"⟩ ∈ TT := tt_mem 54 (by decide +kernel) rfl
theorem tw_55 : Cond.selects "DripsOnBelowModel" ⟨"DripsOnBelowModel", "isAngry", "(I)Z"⟩ ⟨"DripsOnBelowModel", "isAngry", "(I)Z"⟩ ∈ TT := tt_mem 55 (by decide +kernel) rfl
theorem tw_56 : Cond.selects "DripsOnBelowModel" ⟨"DripsOnBelowModel", "pairsOf", "(I)I"⟩ ⟨"DripsOnBelowModel", "pairsOf", "(I)I"⟩ ∈ TT := tt_mem 56 (by decide +kernel) rfl
theorem tw_57 : Cond.selects "DripsOnBelowModel" ⟨"DripsOnBelowModel", "haveLess", "(II)Z"⟩ ⟨"DripsOnBelowModel", "haveLess", "(II)Z"⟩ ∈ TT := tt_mem 57 (by decide +kernel) rfl
theorem tw_58 : Cond.selects "DripsOnBelowModel" ⟨"DripsOnBelowModel", "ringsOf", "()I"⟩ ⟨"DripsOnBelowModel", "ringsOf", "()I"⟩ ∈ TT := tt_mem 58 (by decide +kernel) rfl
theorem tw_59 : Cond.selects "DripsOnBelowModel" ⟨"DripsOnBelowModel", "isRing", "(III)Z"⟩ ⟨"DripsOnBelowModel", "isRing", "(III)Z"⟩ ∈ TT := tt_mem 59 (by decide +kernel) rfl
theorem tw_61 : Cond.initialized "DripsOnBelow" ∈ TT := tt_mem 61 (by decide +kernel) rfl
theorem tw_62 : Cond.initialized "DripsOnBelow$House" ∈ TT := tt_mem 62 (by decide +kernel) rfl
theorem tw_63 : Cond.initialized "DripsOnBelow$Front" ∈ TT := tt_mem 63 (by decide +kernel) rfl
theorem tw_64 : Cond.initialized "java/util/Arrays" ∈ TT := tt_mem 64 (by decide +kernel) rfl
theorem tw_65 : Cond.initialized "DripsOnBelow$Habits" ∈ TT := tt_mem 65 (by decide +kernel) rfl
theorem tw_66 : Cond.initialized "DripsOnBelow$Ledger" ∈ TT := tt_mem 66 (by decide +kernel) rfl
theorem tw_67 : Cond.initialized "DripsOnBelow$Way" ∈ TT := tt_mem 67 (by decide +kernel) rfl
theorem tw_68 : Cond.initialized "DripsOnBelow$Letters" ∈ TT := tt_mem 68 (by decide +kernel) rfl
theorem tw_69 : Cond.initialized "DripsOnBelowModel" ∈ TT := tt_mem 69 (by decide +kernel) rfl
theorem tw_70 : Cond.initialized "java/lang/String" ∈ TT := tt_mem 70 (by decide +kernel) rfl
theorem tw_74 : Cond.initialized "java/lang/Math" ∈ TT := tt_mem 74 (by decide +kernel) rfl
theorem tw_75 : Cond.initialized "java/lang/System" ∈ TT := tt_mem 75 (by decide +kernel) rfl
theorem tw_97 : Cond.instanceMethod ⟨"DripsOnBelow$Front", "build", "(II)V"⟩ ∈ TT := tt_mem 97 (by decide +kernel) rfl
theorem tw_98 : Cond.selects "DripsOnBelow$Front" ⟨"DripsOnBelow$Front", "build", "(II)V"⟩ ⟨"DripsOnBelow$Front", "build", "(II)V"⟩ ∈ TT := tt_mem 98 (by decide +kernel) rfl
theorem tw_99 : Cond.code ⟨"DripsOnBelow$Front", "build", "(II)V"⟩ prog_2_method_2_code 5 (Option.none : Option Jvm.ClassFile.FieldType) ∈ TT := tt_mem 99 (by decide +kernel) rfl
theorem tw_100 : Cond.methodLink "DripsOnBelow$Front" 44 ⟨"java/util/Arrays", "fill", "([II)V"⟩ ∈ TT := tt_mem 100 (by decide +kernel) rfl
theorem tw_101 : Cond.static ⟨"java/util/Arrays", "fill", "([II)V"⟩ ∈ TT := tt_mem 101 (by decide +kernel) rfl
theorem tw_102 : Cond.code ⟨"java/util/Arrays", "fill", "([II)V"⟩ prog_15_method_103_code 4 (Option.none : Option Jvm.ClassFile.FieldType) ∈ TT := tt_mem 102 (by decide +kernel) rfl
theorem tw_103 : Cond.methodLink "DripsOnBelow$Front" 50 ⟨"DripsOnBelow$Front", "settle", "(II)V"⟩ ∈ TT := tt_mem 103 (by decide +kernel) rfl
theorem tw_104 : Cond.instanceMethod ⟨"DripsOnBelow$Front", "settle", "(II)V"⟩ ∈ TT := tt_mem 104 (by decide +kernel) rfl
theorem tw_105 : Cond.selects "DripsOnBelow$Front" ⟨"DripsOnBelow$Front", "settle", "(II)V"⟩ ⟨"DripsOnBelow$Front", "settle", "(II)V"⟩ ∈ TT := tt_mem 105 (by decide +kernel) rfl
theorem tw_106 : Cond.code ⟨"DripsOnBelow$Front", "settle", "(II)V"⟩ prog_2_method_8_code 3 (Option.none : Option Jvm.ClassFile.FieldType) ∈ TT := tt_mem 106 (by decide +kernel) rfl
theorem tw_108 : Cond.static ⟨"DripsOnBelow", "set", "([III)V"⟩ ∈ TT := tt_mem 108 (by decide +kernel) rfl
theorem tw_109 : Cond.code ⟨"DripsOnBelow", "set", "([III)V"⟩ prog_1_method_3_code 3 (Option.none : Option Jvm.ClassFile.FieldType) ∈ TT := tt_mem 109 (by decide +kernel) rfl
theorem tw_110 : Cond.fieldLink "DripsOnBelow$Front" 37 "DripsOnBelow$Front" "storeys" "I" ∈ TT := tt_mem 110 (by decide +kernel) rfl
theorem tw_111 : Cond.fieldLink "DripsOnBelow" 199 "DripsOnBelow$Front" "storeys" "I" ∈ TT := tt_mem 111 (by decide +kernel) rfl
theorem tw_112 : Cond.fieldLink "DripsOnBelow$Front" 41 "DripsOnBelow$Front" "stacks" "I" ∈ TT := tt_mem 112 (by decide +kernel) rfl
theorem tw_113 : Cond.fieldLink "DripsOnBelow" 202 "DripsOnBelow$Front" "stacks" "I" ∈ TT := tt_mem 113 (by decide +kernel) rfl
theorem tw_114 : Cond.fieldLink "DripsOnBelow$Front" 53 "DripsOnBelow$Front" "wind" "I" ∈ TT := tt_mem 114 (by decide +kernel) rfl
theorem tw_115 : Cond.fieldLink "DripsOnBelow$Way" 62 "DripsOnBelow$Front" "wind" "I" ∈ TT := tt_mem 115 (by decide +kernel) rfl
theorem tw_116 : Cond.fieldLink "DripsOnBelow$Letters" 97 "DripsOnBelow$Front" "wind" "I" ∈ TT := tt_mem 116 (by decide +kernel) rfl
theorem tw_117 : Cond.fieldLink "DripsOnBelow" 208 "DripsOnBelow$Front" "wind" "I" ∈ TT := tt_mem 117 (by decide +kernel) rfl
theorem tw_118 : Cond.fieldLink "DripsOnBelow$Front" 9 "DripsOnBelow$Front" "saucer" "[I" ∈ TT := tt_mem 118 (by decide +kernel) rfl
theorem tw_119 : Cond.fieldLink "DripsOnBelow$Way" 71 "DripsOnBelow$Front" "saucer" "[I" ∈ TT := tt_mem 119 (by decide +kernel) rfl
theorem tw_120 : Cond.fieldLink "DripsOnBelow" 150 "DripsOnBelow$Front" "saucer" "[I" ∈ TT := tt_mem 120 (by decide +kernel) rfl
theorem tw_121 : Cond.fieldLink "DripsOnBelow$Front" 15 "DripsOnBelow$Front" "holds" "[I" ∈ TT := tt_mem 121 (by decide +kernel) rfl
theorem tw_122 : Cond.fieldLink "DripsOnBelow$Way" 74 "DripsOnBelow$Front" "holds" "[I" ∈ TT := tt_mem 122 (by decide +kernel) rfl
theorem tw_123 : Cond.fieldLink "DripsOnBelow$House" 113 "DripsOnBelow$Front" "holds" "[I" ∈ TT := tt_mem 123 (by decide +kernel) rfl
theorem tw_124 : Cond.fieldLink "DripsOnBelow" 153 "DripsOnBelow$Front" "holds" "[I" ∈ TT := tt_mem 124 (by decide +kernel) rfl
theorem tw_125 : Cond.fieldLink "DripsOnBelow$Front" 18 "DripsOnBelow$Front" "awning" "[I" ∈ TT := tt_mem 125 (by decide +kernel) rfl
theorem tw_126 : Cond.fieldLink "DripsOnBelow$Way" 68 "DripsOnBelow$Front" "awning" "[I" ∈ TT := tt_mem 126 (by decide +kernel) rfl
theorem tw_127 : Cond.fieldLink "DripsOnBelow$Letters" 116 "DripsOnBelow$Front" "awning" "[I" ∈ TT := tt_mem 127 (by decide +kernel) rfl
theorem tw_128 : Cond.fieldLink "DripsOnBelow" 123 "DripsOnBelow$Front" "awning" "[I" ∈ TT := tt_mem 128 (by decide +kernel) rfl
theorem tw_129 : Cond.fieldLink "DripsOnBelow$Front" 21 "DripsOnBelow$Front" "washing" "[I" ∈ TT := tt_mem 129 (by decide +kernel) rfl
theorem tw_130 : Cond.fieldLink "DripsOnBelow$House" 78 "DripsOnBelow$Front" "washing" "[I" ∈ TT := tt_mem 130 (by decide +kernel) rfl
theorem tw_131 : Cond.fieldLink "DripsOnBelow" 156 "DripsOnBelow$Front" "washing" "[I" ∈ TT := tt_mem 131 (by decide +kernel) rfl
theorem tw_132 : Cond.fieldLink "DripsOnBelow$Front" 24 "DripsOnBelow$Front" "hung" "[I" ∈ TT := tt_mem 132 (by decide +kernel) rfl
theorem tw_133 : Cond.fieldLink "DripsOnBelow$House" 81 "DripsOnBelow$Front" "hung" "[I" ∈ TT := tt_mem 133 (by decide +kernel) rfl
theorem tw_134 : Cond.fieldLink "DripsOnBelow" 159 "DripsOnBelow$Front" "hung" "[I" ∈ TT := tt_mem 134 (by decide +kernel) rfl
theorem tw_135 : Cond.fieldLink "DripsOnBelow$Front" 27 "DripsOnBelow$Front" "lives" "[I" ∈ TT := tt_mem 135 (by decide +kernel) rfl
theorem tw_136 : Cond.fieldLink "DripsOnBelow$House" 103 "DripsOnBelow$Front" "lives" "[I" ∈ TT := tt_mem 136 (by decide +kernel) rfl
theorem tw_137 : Cond.fieldLink "DripsOnBelow" 162 "DripsOnBelow$Front" "lives" "[I" ∈ TT := tt_mem 137 (by decide +kernel) rfl
theorem tw_138 : Cond.fieldLink "DripsOnBelow$Front" 30 "DripsOnBelow$Front" "home" "[I" ∈ TT := tt_mem 138 (by decide +kernel) rfl
theorem tw_139 : Cond.fieldLink "DripsOnBelow$Way" 34 "DripsOnBelow$Front" "home" "[I" ∈ TT := tt_mem 139 (by decide +kernel) rfl
theorem tw_140 : Cond.fieldLink "DripsOnBelow" 169 "DripsOnBelow$Front" "home" "[I" ∈ TT := tt_mem 140 (by decide +kernel) rfl
theorem tw_169 : Cond.fieldLink "DripsOnBelow$Habits" 24 "DripsOnBelow$Habits" "count" "I" ∈ TT := tt_mem 169 (by decide +kernel) rfl
theorem tw_170 : Cond.fieldLink "DripsOnBelow$House" 57 "DripsOnBelow$Habits" "count" "I" ∈ TT := tt_mem 170 (by decide +kernel) rfl
theorem tw_171 : Cond.fieldLink "DripsOnBelow" 85 "DripsOnBelow$Habits" "count" "I" ∈ TT := tt_mem 171 (by decide +kernel) rfl
theorem tw_172 : Cond.fieldLink "DripsOnBelow$Letters" 136 "DripsOnBelow$Habits" "count" "I" ∈ TT := tt_mem 172 (by decide +kernel) rfl
theorem tw_173 : Cond.fieldLink "DripsOnBelow$Habits" 9 "DripsOnBelow$Habits" "who" "[I" ∈ TT := tt_mem 173 (by decide +kernel) rfl
theorem tw_174 : Cond.fieldLink "DripsOnBelow$Way" 39 "DripsOnBelow$Habits" "who" "[I" ∈ TT := tt_mem 174 (by decide +kernel) rfl
theorem tw_175 : Cond.fieldLink "DripsOnBelow$House" 99 "DripsOnBelow$Habits" "who" "[I" ∈ TT := tt_mem 175 (by decide +kernel) rfl
theorem tw_176 : Cond.fieldLink "DripsOnBelow" 190 "DripsOnBelow$Habits" "who" "[I" ∈ TT := tt_mem 176 (by decide +kernel) rfl
theorem tw_177 : Cond.fieldLink "DripsOnBelow$Habits" 15 "DripsOnBelow$Habits" "kind" "[I" ∈ TT := tt_mem 177 (by decide +kernel) rfl
theorem tw_178 : Cond.fieldLink "DripsOnBelow$Way" 25 "DripsOnBelow$Habits" "kind" "[I" ∈ TT := tt_mem 178 (by decide +kernel) rfl
theorem tw_179 : Cond.fieldLink "DripsOnBelow$House" 96 "DripsOnBelow$Habits" "kind" "[I" ∈ TT := tt_mem 179 (by decide +kernel) rfl
theorem tw_180 : Cond.fieldLink "DripsOnBelow" 193 "DripsOnBelow$Habits" "kind" "[I" ∈ TT := tt_mem 180 (by decide +kernel) rfl
theorem tw_181 : Cond.fieldLink "DripsOnBelow$Habits" 18 "DripsOnBelow$Habits" "figure" "[I" ∈ TT := tt_mem 181 (by decide +kernel) rfl
theorem tw_182 : Cond.fieldLink "DripsOnBelow$Way" 50 "DripsOnBelow$Habits" "figure" "[I" ∈ TT := tt_mem 182 (by decide +kernel) rfl
theorem tw_183 : Cond.fieldLink "DripsOnBelow" 196 "DripsOnBelow$Habits" "figure" "[I" ∈ TT := tt_mem 183 (by decide +kernel) rfl
theorem tw_184 : Cond.fieldLink "DripsOnBelow$Habits" 21 "DripsOnBelow$Habits" "hour" "[I" ∈ TT := tt_mem 184 (by decide +kernel) rfl
theorem tw_185 : Cond.fieldLink "DripsOnBelow$House" 84 "DripsOnBelow$Habits" "hour" "[I" ∈ TT := tt_mem 185 (by decide +kernel) rfl
theorem tw_186 : Cond.fieldLink "DripsOnBelow" 116 "DripsOnBelow$Habits" "hour" "[I" ∈ TT := tt_mem 186 (by decide +kernel) rfl
theorem tw_204 : Cond.fieldLink "DripsOnBelow$Ledger" 9 "DripsOnBelow$Ledger" "harm" "[I" ∈ TT := tt_mem 204 (by decide +kernel) rfl
theorem tw_205 : Cond.fieldLink "DripsOnBelow" 175 "DripsOnBelow$Ledger" "harm" "[I" ∈ TT := tt_mem 205 (by decide +kernel) rfl
theorem tw_206 : Cond.fieldLink "DripsOnBelow$Ledger" 15 "DripsOnBelow$Ledger" "anger" "[I" ∈ TT := tt_mem 206 (by decide +kernel) rfl
theorem tw_207 : Cond.fieldLink "DripsOnBelow" 181 "DripsOnBelow$Ledger" "anger" "[I" ∈ TT := tt_mem 207 (by decide +kernel) rfl
theorem tw_208 : Cond.fieldLink "DripsOnBelow$Ledger" 18 "DripsOnBelow$Ledger" "done" "[I" ∈ TT := tt_mem 208 (by decide +kernel) rfl
theorem tw_209 : Cond.fieldLink "DripsOnBelow" 107 "DripsOnBelow$Ledger" "done" "[I" ∈ TT := tt_mem 209 (by decide +kernel) rfl
theorem tw_210 : Cond.fieldLink "DripsOnBelow$Ledger" 21 "DripsOnBelow$Ledger" "doers" "[I" ∈ TT := tt_mem 210 (by decide +kernel) rfl
theorem tw_211 : Cond.fieldLink "DripsOnBelow$Ledger" 37 "DripsOnBelow$Ledger" "all" "I" ∈ TT := tt_mem 211 (by decide +kernel) rfl
theorem tw_212 : Cond.fieldLink "DripsOnBelow$House" 133 "DripsOnBelow$Ledger" "all" "I" ∈ TT := tt_mem 212 (by decide +kernel) rfl
theorem tw_230 : Cond.fieldLink "DripsOnBelow$Way" 9 "DripsOnBelow$Way" "places" "[I" ∈ TT := tt_mem 230 (by decide +kernel) rfl
theorem tw_231 : Cond.fieldLink "DripsOnBelow$House" 70 "DripsOnBelow$Way" "places" "[I" ∈ TT := tt_mem 231 (by decide +kernel) rfl
theorem tw_232 : Cond.fieldLink "DripsOnBelow" 241 "DripsOnBelow$Way" "places" "[I" ∈ TT := tt_mem 232 (by decide +kernel) rfl
theorem tw_233 : Cond.fieldLink "DripsOnBelow$Way" 15 "DripsOnBelow$Way" "comes" "[I" ∈ TT := tt_mem 233 (by decide +kernel) rfl
theorem tw_234 : Cond.fieldLink "DripsOnBelow$House" 87 "DripsOnBelow$Way" "comes" "[I" ∈ TT := tt_mem 234 (by decide +kernel) rfl
theorem tw_235 : Cond.fieldLink "DripsOnBelow$Way" 18 "DripsOnBelow$Way" "stays" "[I" ∈ TT := tt_mem 235 (by decide +kernel) rfl
theorem tw_236 : Cond.fieldLink "DripsOnBelow$House" 116 "DripsOnBelow$Way" "stays" "[I" ∈ TT := tt_mem 236 (by decide +kernel) rfl
theorem tw_237 : Cond.fieldLink "DripsOnBelow$Way" 21 "DripsOnBelow$Way" "count" "I" ∈ TT := tt_mem 237 (by decide +kernel) rfl
theorem tw_238 : Cond.fieldLink "DripsOnBelow$House" 102 "DripsOnBelow$Way" "count" "I" ∈ TT := tt_mem 238 (by decide +kernel) rfl
theorem tw_239 : Cond.fieldLink "DripsOnBelow" 238 "DripsOnBelow$Way" "count" "I" ∈ TT := tt_mem 239 (by decide +kernel) rfl
theorem tw_249 : Cond.fieldLink "DripsOnBelow$House" 12 "DripsOnBelow$House" "front" "LDripsOnBelow$Front;" ∈ TT := tt_mem 249 (by decide +kernel) rfl
theorem tw_250 : Cond.fieldLink "DripsOnBelow" 67 "DripsOnBelow$House" "front" "LDripsOnBelow$Front;" ∈ TT := tt_mem 250 (by decide +kernel) rfl
theorem tw_251 : Cond.fieldLink "DripsOnBelow$Letters" 91 "DripsOnBelow$House" "front" "LDripsOnBelow$Front;" ∈ TT := tt_mem 251 (by decide +kernel) rfl
theorem tw_252 : Cond.fieldLink "DripsOnBelow$House" 21 "DripsOnBelow$House" "habits" "LDripsOnBelow$Habits;" ∈ TT := tt_mem 252 (by decide +kernel) rfl
theorem tw_253 : Cond.fieldLink "DripsOnBelow" 81 "DripsOnBelow$House" "habits" "LDripsOnBelow$Habits;" ∈ TT := tt_mem 253 (by decide +kernel) rfl
theorem tw_254 : Cond.fieldLink "DripsOnBelow$Letters" 132 "DripsOnBelow$House" "habits" "LDripsOnBelow$Habits;" ∈ TT := tt_mem 254 (by decide +kernel) rfl
theorem tw_255 : Cond.fieldLink "DripsOnBelow$House" 28 "DripsOnBelow$House" "ledger" "LDripsOnBelow$Ledger;" ∈ TT := tt_mem 255 (by decide +kernel) rfl
theorem tw_256 : Cond.fieldLink "DripsOnBelow" 103 "DripsOnBelow$House" "ledger" "LDripsOnBelow$Ledger;" ∈ TT := tt_mem 256 (by decide +kernel) rfl
theorem tw_257 : Cond.fieldLink "DripsOnBelow$House" 35 "DripsOnBelow$House" "way" "LDripsOnBelow$Way;" ∈ TT := tt_mem 257 (by decide +kernel) rfl
theorem tw_258 : Cond.fieldLink "DripsOnBelow$House" 49 "DripsOnBelow$House" "weeks" "I" ∈ TT := tt_mem 258 (by decide +kernel) rfl
theorem tw_259 : Cond.fieldLink "DripsOnBelow" 205 "DripsOnBelow$House" "weeks" "I" ∈ TT := tt_mem 259 (by decide +kernel) rfl
theorem tw_277 : Cond.fieldLink "DripsOnBelow$Letters" 9 "DripsOnBelow$Letters" "text" "[I" ∈ TT := tt_mem 277 (by decide +kernel) rfl
theorem tw_278 : Cond.fieldLink "DripsOnBelow$Letters" 15 "DripsOnBelow$Letters" "count" "I" ∈ TT := tt_mem 278 (by decide +kernel) rfl
theorem tw_279 : Cond.fieldLink "DripsOnBelow" 133 "DripsOnBelow$Letters" "count" "I" ∈ TT := tt_mem 279 (by decide +kernel) rfl
theorem tw_285 : Cond.fieldLink "DripsOnBelow" 12 "DripsOnBelow" "now" "LDripsOnBelow$House;" ∈ TT := tt_mem 285 (by decide +kernel) rfl
theorem tw_286 : Cond.fieldLink "DripsOnBelow" 16 "DripsOnBelow" "taken" "LDripsOnBelow$House;" ∈ TT := tt_mem 286 (by decide +kernel) rfl
theorem tw_287 : Cond.fieldLink "DripsOnBelow" 19 "DripsOnBelow" "trial" "LDripsOnBelow$House;" ∈ TT := tt_mem 287 (by decide +kernel) rfl
theorem tw_288 : Cond.fieldLink "DripsOnBelow" 25 "DripsOnBelow" "letters" "LDripsOnBelow$Letters;" ∈ TT := tt_mem 288 (by decide +kernel) rfl
theorem tw_289 : Cond.fieldLink "DripsOnBelow" 29 "DripsOnBelow" "told" "[I" ∈ TT := tt_mem 289 (by decide +kernel) rfl
theorem tw_290 : Cond.fieldLink "DripsOnBelow" 33 "DripsOnBelow" "refusals" "[I" ∈ TT := tt_mem 290 (by decide +kernel) rfl
theorem tw_291 : Cond.fieldLink "DripsOnBelow" 36 "DripsOnBelow" "before" "[I" ∈ TT := tt_mem 291 (by decide +kernel) rfl
theorem tw_292 : Cond.fieldLink "DripsOnBelow" 39 "DripsOnBelow" "tolds" "I" ∈ TT := tt_mem 292 (by decide +kernel) rfl
theorem tw_293 : Cond.fieldLink "DripsOnBelow" 43 "DripsOnBelow" "isTaken" "Z" ∈ TT := tt_mem 293 (by decide +kernel) rfl
theorem tw_314 : Cond.instanceMethod ⟨"DripsOnBelow", "feed", "(I)I"⟩ ∈ TT := tt_mem 314 (by decide +kernel) rfl
theorem tw_315 : Cond.selects "DripsOnBelow" ⟨"DripsOnBelow", "feed", "(I)I"⟩ ⟨"DripsOnBelow", "feed", "(I)I"⟩ ∈ TT := tt_mem 315 (by decide +kernel) rfl
theorem tw_316 : Cond.code ⟨"DripsOnBelow", "feed", "(I)I"⟩ prog_1_method_18_code 2 (Option.some Jvm.ClassFile.FieldType.int) ∈ TT := tt_mem 316 (by decide +kernel) rfl
theorem tw_317 : Cond.methodLink "DripsOnBelow" 130 ⟨"DripsOnBelow", "refuse", "(I)I"⟩ ∈ TT := tt_mem 317 (by decide +kernel) rfl
theorem tw_319 : Cond.instanceMethod ⟨"DripsOnBelow", "refuse", "(I)I"⟩ ∈ TT := tt_mem 319 (by decide +kernel) rfl
theorem tw_320 : Cond.code ⟨"DripsOnBelow", "refuse", "(I)I"⟩ prog_1_method_7_code 2 (Option.some Jvm.ClassFile.FieldType.int) ∈ TT := tt_mem 320 (by decide +kernel) rfl
theorem tw_321 : Cond.methodLink "DripsOnBelow" 59 ⟨"DripsOnBelow", "get", "([II)I"⟩ ∈ TT := tt_mem 321 (by decide +kernel) rfl
theorem tw_322 : Cond.static ⟨"DripsOnBelow", "get", "([II)I"⟩ ∈ TT := tt_mem 322 (by decide +kernel) rfl
theorem tw_323 : Cond.code ⟨"DripsOnBelow", "get", "([II)I"⟩ prog_1_method_2_code 2 (Option.some Jvm.ClassFile.FieldType.int) ∈ TT := tt_mem 323 (by decide +kernel) rfl
theorem tw_324 : Cond.methodLink "DripsOnBelow" 63 ⟨"DripsOnBelow", "set", "([III)V"⟩ ∈ TT := tt_mem 324 (by decide +kernel) rfl
theorem tw_325 : Cond.methodLink "DripsOnBelow" 134 ⟨"DripsOnBelow$Letters", "add", "(I)I"⟩ ∈ TT := tt_mem 325 (by decide +kernel) rfl
theorem tw_326 : Cond.instanceMethod ⟨"DripsOnBelow$Letters", "add", "(I)I"⟩ ∈ TT := tt_mem 326 (by decide +kernel) rfl
theorem tw_327 : Cond.selects "DripsOnBelow$Letters" ⟨"DripsOnBelow$Letters", "add", "(I)I"⟩ ⟨"DripsOnBelow$Letters", "add", "(I)I"⟩ ∈ TT := tt_mem 327 (by decide +kernel) rfl
theorem tw_328 : Cond.code ⟨"DripsOnBelow$Letters", "add", "(I)I"⟩ prog_6_method_2_code 2 (Option.some Jvm.ClassFile.FieldType.int) ∈ TT := tt_mem 328 (by decide +kernel) rfl
theorem tw_331 : Cond.instanceMethod ⟨"DripsOnBelow", "front", "()I"⟩ ∈ TT := tt_mem 331 (by decide +kernel) rfl
theorem tw_332 : Cond.selects "DripsOnBelow" ⟨"DripsOnBelow", "front", "()I"⟩ ⟨"DripsOnBelow", "front", "()I"⟩ ∈ TT := tt_mem 332 (by decide +kernel) rfl
theorem tw_333 : Cond.code ⟨"DripsOnBelow", "front", "()I"⟩ prog_1_method_19_code 3 (Option.some Jvm.ClassFile.FieldType.int) ∈ TT := tt_mem 333 (by decide +kernel) rfl
theorem tw_334 : Cond.methodLink "DripsOnBelow" 137 ⟨"DripsOnBelow$Letters", "formFault", "()I"⟩ ∈ TT := tt_mem 334 (by decide +kernel) rfl
theorem tw_335 : Cond.instanceMethod ⟨"DripsOnBelow$Letters", "formFault", "()I"⟩ ∈ TT := tt_mem 335 (by decide +kernel) rfl
theorem tw_336 : Cond.selects "DripsOnBelow$Letters" ⟨"DripsOnBelow$Letters", "formFault", "()I"⟩ ⟨"DripsOnBelow$Letters", "formFault", "()I"⟩ ∈ TT := tt_mem 336 (by decide +kernel) rfl
theorem tw_337 : Cond.code ⟨"DripsOnBelow$Letters", "formFault", "()I"⟩ prog_6_method_7_code 4 (Option.some Jvm.ClassFile.FieldType.int) ∈ TT := tt_mem 337 (by decide +kernel) rfl
theorem tw_338 : Cond.methodLink "DripsOnBelow$Letters" 39 ⟨"DripsOnBelow$Letters", "statementEnd", "(I)I"⟩ ∈ TT := tt_mem 338 (by decide +kernel) rfl
theorem tw_339 : Cond.instanceMethod ⟨"DripsOnBelow$Letters", "statementEnd", "(I)I"⟩ ∈ TT := tt_mem 339 (by decide +kernel) rfl
theorem tw_340 : Cond.selects "DripsOnBelow$Letters" ⟨"DripsOnBelow$Letters", "statementEnd", "(I)I"⟩ ⟨"DripsOnBelow$Letters", "statementEnd", "(I)I"⟩ ∈ TT := tt_mem 340 (by decide +kernel) rfl
theorem tw_341 : Cond.code ⟨"DripsOnBelow$Letters", "statementEnd", "(I)I"⟩ prog_6_method_8_code 6 (Option.some Jvm.ClassFile.FieldType.int) ∈ TT := tt_mem 341 (by decide +kernel) rfl
theorem tw_342 : Cond.methodLink "DripsOnBelow$Letters" 27 ⟨"DripsOnBelow$Letters", "letter", "(I)I"⟩ ∈ TT := tt_mem 342 (by decide +kernel) rfl
theorem tw_343 : Cond.instanceMethod ⟨"DripsOnBelow$Letters", "letter", "(I)I"⟩ ∈ TT := tt_mem 343 (by decide +kernel) rfl
theorem tw_344 : Cond.selects "DripsOnBelow$Letters" ⟨"DripsOnBelow$Letters", "letter", "(I)I"⟩ ⟨"DripsOnBelow$Letters", "letter", "(I)I"⟩ ∈ TT := tt_mem 344 (by decide +kernel) rfl
theorem tw_345 : Cond.code ⟨"DripsOnBelow$Letters", "letter", "(I)I"⟩ prog_6_method_3_code 2 (Option.some Jvm.ClassFile.FieldType.int) ∈ TT := tt_mem 345 (by decide +kernel) rfl
theorem tw_347 : Cond.methodLink "DripsOnBelow$Letters" 42 ⟨"DripsOnBelow$Letters", "formOf", "(I)Ljava/lang/String;"⟩ ∈ TT := tt_mem 347 (by decide +kernel) rfl
theorem tw_348 : Cond.static ⟨"DripsOnBelow$Letters", "formOf", "(I)Ljava/lang/String;"⟩ ∈ TT := tt_mem 348 (by decide +kernel) rfl
theorem tw_349 : Cond.code ⟨"DripsOnBelow$Letters", "formOf", "(I)Ljava/lang/String;"⟩ prog_6_method_9_code 1 (Option.some (Jvm.ClassFile.FieldType.object "java/lang/String")) ∈ TT := tt_mem 349 (by decide +kernel) rfl
theorem tw_357 : Cond.methodLink "DripsOnBelow$Letters" 46 ⟨"java/lang/String", "isEmpty", "()Z"⟩ ∈ TT := tt_mem 357 (by decide +kernel) rfl
theorem tw_358 : Cond.instanceMethod ⟨"java/lang/String", "isEmpty", "()Z"⟩ ∈ TT := tt_mem 358 (by decide +kernel) rfl
theorem tw_359 : Cond.selects "java/lang/String" ⟨"java/lang/String", "isEmpty", "()Z"⟩ ⟨"java/lang/String", "isEmpty", "()Z"⟩ ∈ TT := tt_mem 359 (by decide +kernel) rfl
theorem tw_360 : Cond.code ⟨"java/lang/String", "isEmpty", "()Z"⟩ prog_11_method_55_code 1 (Option.some Jvm.ClassFile.FieldType.boolean) ∈ TT := tt_mem 360 (by decide +kernel) rfl
theorem tw_361 : Cond.methodLink "DripsOnBelow$Letters" 52 ⟨"java/lang/String", "length", "()I"⟩ ∈ TT := tt_mem 361 (by decide +kernel) rfl
theorem tw_362 : Cond.instanceMethod ⟨"java/lang/String", "length", "()I"⟩ ∈ TT := tt_mem 362 (by decide +kernel) rfl
theorem tw_363 : Cond.selects "java/lang/String" ⟨"java/lang/String", "length", "()I"⟩ ⟨"java/lang/String", "length", "()I"⟩ ∈ TT := tt_mem 363 (by decide +kernel) rfl
theorem tw_364 : Cond.code ⟨"java/lang/String", "length", "()I"⟩ prog_11_method_54_code 1 (Option.some Jvm.ClassFile.FieldType.int) ∈ TT := tt_mem 364 (by decide +kernel) rfl
theorem tw_371 : Cond.methodLink "DripsOnBelow$Letters" 56 ⟨"java/lang/String", "charAt", "(I)C"⟩ ∈ TT := tt_mem 371 (by decide +kernel) rfl
theorem tw_372 : Cond.instanceMethod ⟨"java/lang/String", "charAt", "(I)C"⟩ ∈ TT := tt_mem 372 (by decide +kernel) rfl
theorem tw_373 : Cond.selects "java/lang/String" ⟨"java/lang/String", "charAt", "(I)C"⟩ ⟨"java/lang/String", "charAt", "(I)C"⟩ ∈ TT := tt_mem 373 (by decide +kernel) rfl
theorem tw_374 : Cond.code ⟨"java/lang/String", "charAt", "(I)C"⟩ prog_11_method_56_code 2 (Option.some Jvm.ClassFile.FieldType.char) ∈ TT := tt_mem 374 (by decide +kernel) rfl
theorem tw_409 : Cond.methodLink "DripsOnBelow$Letters" 60 ⟨"DripsOnBelow$Letters", "lengthOf", "(CI)I"⟩ ∈ TT := tt_mem 409 (by decide +kernel) rfl
theorem tw_410 : Cond.instanceMethod ⟨"DripsOnBelow$Letters", "lengthOf", "(CI)I"⟩ ∈ TT := tt_mem 410 (by decide +kernel) rfl
theorem tw_411 : Cond.selects "DripsOnBelow$Letters" ⟨"DripsOnBelow$Letters", "lengthOf", "(CI)I"⟩ ⟨"DripsOnBelow$Letters", "lengthOf", "(CI)I"⟩ ∈ TT := tt_mem 411 (by decide +kernel) rfl
theorem tw_412 : Cond.code ⟨"DripsOnBelow$Letters", "lengthOf", "(CI)I"⟩ prog_6_method_10_code 3 (Option.some Jvm.ClassFile.FieldType.int) ∈ TT := tt_mem 412 (by decide +kernel) rfl
theorem tw_413 : Cond.methodLink "DripsOnBelow$Letters" 78 ⟨"DripsOnBelow$Letters", "digit", "(I)I"⟩ ∈ TT := tt_mem 413 (by decide +kernel) rfl
theorem tw_414 : Cond.instanceMethod ⟨"DripsOnBelow$Letters", "digit", "(I)I"⟩ ∈ TT := tt_mem 414 (by decide +kernel) rfl
theorem tw_415 : Cond.selects "DripsOnBelow$Letters" ⟨"DripsOnBelow$Letters", "digit", "(I)I"⟩ ⟨"DripsOnBelow$Letters", "digit", "(I)I"⟩ ∈ TT := tt_mem 415 (by decide +kernel) rfl
theorem tw_416 : Cond.code ⟨"DripsOnBelow$Letters", "digit", "(I)I"⟩ prog_6_method_4_code 3 (Option.some Jvm.ClassFile.FieldType.int) ∈ TT := tt_mem 416 (by decide +kernel) rfl
theorem tw_418 : Cond.static ⟨"DripsOnBelow", "within", "(III)Z"⟩ ∈ TT := tt_mem 418 (by decide +kernel) rfl
theorem tw_419 : Cond.code ⟨"DripsOnBelow", "within", "(III)Z"⟩ prog_1_method_6_code 3 (Option.some Jvm.ClassFile.FieldType.boolean) ∈ TT := tt_mem 419 (by decide +kernel) rfl
theorem tw_420 : Cond.methodLink "DripsOnBelow$Letters" 81 ⟨"DripsOnBelow$Letters", "sign", "(I)I"⟩ ∈ TT := tt_mem 420 (by decide +kernel) rfl
theorem tw_421 : Cond.instanceMethod ⟨"DripsOnBelow$Letters", "sign", "(I)I"⟩ ∈ TT := tt_mem 421 (by decide +kernel) rfl
theorem tw_422 : Cond.selects "DripsOnBelow$Letters" ⟨"DripsOnBelow$Letters", "sign", "(I)I"⟩ ⟨"DripsOnBelow$Letters", "sign", "(I)I"⟩ ∈ TT := tt_mem 422 (by decide +kernel) rfl
theorem tw_423 : Cond.code ⟨"DripsOnBelow$Letters", "sign", "(I)I"⟩ prog_6_method_5_code 2 (Option.some Jvm.ClassFile.FieldType.int) ∈ TT := tt_mem 423 (by decide +kernel) rfl
theorem tw_424 : Cond.methodLink "DripsOnBelow$Letters" 84 ⟨"DripsOnBelow$Letters", "hoursFrom", "(I)I"⟩ ∈ TT := tt_mem 424 (by decide +kernel) rfl
theorem tw_425 : Cond.instanceMethod ⟨"DripsOnBelow$Letters", "hoursFrom", "(I)I"⟩ ∈ TT := tt_mem 425 (by decide +kernel) rfl
theorem tw_426 : Cond.selects "DripsOnBelow$Letters" ⟨"DripsOnBelow$Letters", "hoursFrom", "(I)I"⟩ ⟨"DripsOnBelow$Letters", "hoursFrom", "(I)I"⟩ ∈ TT := tt_mem 426 (by decide +kernel) rfl
theorem tw_427 : Cond.code ⟨"DripsOnBelow$Letters", "hoursFrom", "(I)I"⟩ prog_6_method_11_code 3 (Option.some Jvm.ClassFile.FieldType.int) ∈ TT := tt_mem 427 (by decide +kernel) rfl
theorem tw_429 : Cond.static ⟨"DripsOnBelow", "isHour", "(I)Z"⟩ ∈ TT := tt_mem 429 (by decide +kernel) rfl
theorem tw_430 : Cond.code ⟨"DripsOnBelow", "isHour", "(I)Z"⟩ prog_1_method_10_code 1 (Option.some Jvm.ClassFile.FieldType.boolean) ∈ TT := tt_mem 430 (by decide +kernel) rfl
theorem tw_431 : Cond.methodLink "DripsOnBelow" 77 ⟨"DripsOnBelow", "within", "(III)Z"⟩ ∈ TT := tt_mem 431 (by decide +kernel) rfl
theorem tw_432 : Cond.methodLink "DripsOnBelow" 140 ⟨"DripsOnBelow$House", "copyFrom", "(LDripsOnBelow$House;)V"⟩ ∈ TT := tt_mem 432 (by decide +kernel) rfl
theorem tw_433 : Cond.instanceMethod ⟨"DripsOnBelow$House", "copyFrom", "(LDripsOnBelow$House;)V"⟩ ∈ TT := tt_mem 433 (by decide +kernel) rfl
theorem tw_434 : Cond.selects "DripsOnBelow$House" ⟨"DripsOnBelow$House", "copyFrom", "(LDripsOnBelow$House;)V"⟩ ⟨"DripsOnBelow$House", "copyFrom", "(LDripsOnBelow$House;)V"⟩ ∈ TT := tt_mem 434 (by decide +kernel) rfl
theorem tw_435 : Cond.code ⟨"DripsOnBelow$House", "copyFrom", "(LDripsOnBelow$House;)V"⟩ prog_4_method_2_code 2 (Option.none : Option Jvm.ClassFile.FieldType) ∈ TT := tt_mem 435 (by decide +kernel) rfl
theorem tw_436 : Cond.methodLink "DripsOnBelow$House" 39 ⟨"DripsOnBelow$Front", "copyFrom", "(LDripsOnBelow$Front;)V"⟩ ∈ TT := tt_mem 436 (by decide +kernel) rfl
theorem tw_437 : Cond.instanceMethod ⟨"DripsOnBelow$Front", "copyFrom", "(LDripsOnBelow$Front;)V"⟩ ∈ TT := tt_mem 437 (by decide +kernel) rfl
theorem tw_438 : Cond.selects "DripsOnBelow$Front" ⟨"DripsOnBelow$Front", "copyFrom", "(LDripsOnBelow$Front;)V"⟩ ⟨"DripsOnBelow$Front", "copyFrom", "(LDripsOnBelow$Front;)V"⟩ ∈ TT := tt_mem 438 (by decide +kernel) rfl
theorem tw_439 : Cond.code ⟨"DripsOnBelow$Front", "copyFrom", "(LDripsOnBelow$Front;)V"⟩ prog_2_method_3_code 2 (Option.none : Option Jvm.ClassFile.FieldType) ∈ TT := tt_mem 439 (by decide +kernel) rfl
theorem tw_441 : Cond.static ⟨"DripsOnBelow", "copy", "([I[I)V"⟩ ∈ TT := tt_mem 441 (by decide +kernel) rfl
theorem tw_442 : Cond.code ⟨"DripsOnBelow", "copy", "([I[I)V"⟩ prog_1_method_4_code 2 (Option.none : Option Jvm.ClassFile.FieldType) ∈ TT := tt_mem 442 (by decide +kernel) rfl
theorem tw_443 : Cond.methodLink "DripsOnBelow" 47 ⟨"java/lang/Math", "min", "(II)I"⟩ ∈ TT := tt_mem 443 (by decide +kernel) rfl
theorem tw_444 : Cond.static ⟨"java/lang/Math", "min", "(II)I"⟩ ∈ TT := tt_mem 444 (by decide +kernel) rfl
theorem tw_445 : Cond.code ⟨"java/lang/Math", "min", "(II)I"⟩ prog_10_method_69_code 2 (Option.some Jvm.ClassFile.FieldType.int) ∈ TT := tt_mem 445 (by decide +kernel) rfl
theorem tw_446 : Cond.methodLink "DripsOnBelow" 53 ⟨"java/lang/System", "arraycopy", "(Ljava/lang/Object;ILjava/lang/Object;II)V"⟩ ∈ TT := tt_mem 446 (by decide +kernel) rfl
theorem tw_447 : Cond.static ⟨"java/lang/System", "arraycopy", "(Ljava/lang/Object;ILjava/lang/Object;II)V"⟩ ∈ TT := tt_mem 447 (by decide +kernel) rfl
theorem tw_448 : Cond.native ⟨"java/lang/System", "arraycopy", "(Ljava/lang/Object;ILjava/lang/Object;II)V"⟩ ∈ TT := tt_mem 448 (by decide +kernel) rfl
theorem tw_449 : Cond.methodLink "DripsOnBelow$House" 43 ⟨"DripsOnBelow$Habits", "copyFrom", "(LDripsOnBelow$Habits;)V"⟩ ∈ TT := tt_mem 449 (by decide +kernel) rfl
theorem tw_450 : Cond.instanceMethod ⟨"DripsOnBelow$Habits", "copyFrom", "(LDripsOnBelow$Habits;)V"⟩ ∈ TT := tt_mem 450 (by decide +kernel) rfl
theorem tw_451 : Cond.selects "DripsOnBelow$Habits" ⟨"DripsOnBelow$Habits", "copyFrom", "(LDripsOnBelow$Habits;)V"⟩ ⟨"DripsOnBelow$Habits", "copyFrom", "(LDripsOnBelow$Habits;)V"⟩ ∈ TT := tt_mem 451 (by decide +kernel) rfl
theorem tw_452 : Cond.code ⟨"DripsOnBelow$Habits", "copyFrom", "(LDripsOnBelow$Habits;)V"⟩ prog_3_method_3_code 2 (Option.none : Option Jvm.ClassFile.FieldType) ∈ TT := tt_mem 452 (by decide +kernel) rfl
theorem tw_454 : Cond.methodLink "DripsOnBelow$House" 46 ⟨"DripsOnBelow$Ledger", "copyFrom", "(LDripsOnBelow$Ledger;)V"⟩ ∈ TT := tt_mem 454 (by decide +kernel) rfl
theorem tw_455 : Cond.instanceMethod ⟨"DripsOnBelow$Ledger", "copyFrom", "(LDripsOnBelow$Ledger;)V"⟩ ∈ TT := tt_mem 455 (by decide +kernel) rfl
theorem tw_456 : Cond.selects "DripsOnBelow$Ledger" ⟨"DripsOnBelow$Ledger", "copyFrom", "(LDripsOnBelow$Ledger;)V"⟩ ⟨"DripsOnBelow$Ledger", "copyFrom", "(LDripsOnBelow$Ledger;)V"⟩ ∈ TT := tt_mem 456 (by decide +kernel) rfl
theorem tw_457 : Cond.code ⟨"DripsOnBelow$Ledger", "copyFrom", "(LDripsOnBelow$Ledger;)V"⟩ prog_5_method_4_code 2 (Option.none : Option Jvm.ClassFile.FieldType) ∈ TT := tt_mem 457 (by decide +kernel) rfl
theorem tw_459 : Cond.methodLink "DripsOnBelow" 143 ⟨"DripsOnBelow$Letters", "tell", "(LDripsOnBelow$House;)I"⟩ ∈ TT := tt_mem 459 (by decide +kernel) rfl
theorem tw_460 : Cond.instanceMethod ⟨"DripsOnBelow$Letters", "tell", "(LDripsOnBelow$House;)I"⟩ ∈ TT := tt_mem 460 (by decide +kernel) rfl
theorem tw_461 : Cond.selects "DripsOnBelow$Letters" ⟨"DripsOnBelow$Letters", "tell", "(LDripsOnBelow$House;)I"⟩ ⟨"DripsOnBelow$Letters", "tell", "(LDripsOnBelow$House;)I"⟩ ∈ TT := tt_mem 461 (by decide +kernel) rfl
theorem tw_462 : Cond.code ⟨"DripsOnBelow$Letters", "tell", "(LDripsOnBelow$House;)I"⟩ prog_6_method_6_code 4 (Option.some Jvm.ClassFile.FieldType.int) ∈ TT := tt_mem 462 (by decide +kernel) rfl
theorem tw_463 : Cond.methodLink "DripsOnBelow$Letters" 35 ⟨"DripsOnBelow$Letters", "carryOut", "(ILDripsOnBelow$House;)Z"⟩ ∈ TT := tt_mem 463 (by decide +kernel) rfl
theorem tw_464 : Cond.instanceMethod ⟨"DripsOnBelow$Letters", "carryOut", "(ILDripsOnBelow$House;)Z"⟩ ∈ TT := tt_mem 464 (by decide +kernel) rfl
theorem tw_465 : Cond.selects "DripsOnBelow$Letters" ⟨"DripsOnBelow$Letters", "carryOut", "(ILDripsOnBelow$House;)Z"⟩ ⟨"DripsOnBelow$Letters", "carryOut", "(ILDripsOnBelow$House;)Z"⟩ ∈ TT := tt_mem 465 (by decide +kernel) rfl
theorem tw_466 : Cond.code ⟨"DripsOnBelow$Letters", "carryOut", "(ILDripsOnBelow$House;)Z"⟩ prog_6_method_12_code 5 (Option.some Jvm.ClassFile.FieldType.boolean) ∈ TT := tt_mem 466 (by decide +kernel) rfl
theorem tw_467 : Cond.methodLink "DripsOnBelow$Letters" 102 ⟨"DripsOnBelow$Letters", "carryOutFront", "(ILDripsOnBelow$House;)Z"⟩ ∈ TT := tt_mem 467 (by decide +kernel) rfl
theorem tw_468 : Cond.instanceMethod ⟨"DripsOnBelow$Letters", "carryOutFront", "(ILDripsOnBelow$House;)Z"⟩ ∈ TT := tt_mem 468 (by decide +kernel) rfl
theorem tw_469 : Cond.selects "DripsOnBelow$Letters" ⟨"DripsOnBelow$Letters", "carryOutFront", "(ILDripsOnBelow$House;)Z"⟩ ⟨"DripsOnBelow$Letters", "carryOutFront", "(ILDripsOnBelow$House;)Z"⟩ ∈ TT := tt_mem 469 (by decide +kernel) rfl
theorem tw_470 : Cond.code ⟨"DripsOnBelow$Letters", "carryOutFront", "(ILDripsOnBelow$House;)Z"⟩ prog_6_method_13_code 6 (Option.some Jvm.ClassFile.FieldType.boolean) ∈ TT := tt_mem 470 (by decide +kernel) rfl
theorem tw_471 : Cond.methodLink "DripsOnBelow$Letters" 126 ⟨"DripsOnBelow$House", "build", "(II)V"⟩ ∈ TT := tt_mem 471 (by decide +kernel) rfl
theorem tw_472 : Cond.instanceMethod ⟨"DripsOnBelow$House", "build", "(II)V"⟩ ∈ TT := tt_mem 472 (by decide +kernel) rfl
theorem tw_473 : Cond.selects "DripsOnBelow$House" ⟨"DripsOnBelow$House", "build", "(II)V"⟩ ⟨"DripsOnBelow$House", "build", "(II)V"⟩ ∈ TT := tt_mem 473 (by decide +kernel) rfl
theorem tw_474 : Cond.code ⟨"DripsOnBelow$House", "build", "(II)V"⟩ prog_4_method_3_code 3 (Option.none : Option Jvm.ClassFile.FieldType) ∈ TT := tt_mem 474 (by decide +kernel) rfl
theorem tw_475 : Cond.methodLink "DripsOnBelow$House" 53 ⟨"DripsOnBelow$Front", "build", "(II)V"⟩ ∈ TT := tt_mem 475 (by decide +kernel) rfl
theorem tw_476 : Cond.methodLink "DripsOnBelow$House" 60 ⟨"DripsOnBelow$Ledger", "clear", "()V"⟩ ∈ TT := tt_mem 476 (by decide +kernel) rfl
theorem tw_477 : Cond.instanceMethod ⟨"DripsOnBelow$Ledger", "clear", "()V"⟩ ∈ TT := tt_mem 477 (by decide +kernel) rfl
theorem tw_478 : Cond.selects "DripsOnBelow$Ledger" ⟨"DripsOnBelow$Ledger", "clear", "()V"⟩ ⟨"DripsOnBelow$Ledger", "clear", "()V"⟩ ∈ TT := tt_mem 478 (by decide +kernel) rfl
theorem tw_479 : Cond.code ⟨"DripsOnBelow$Ledger", "clear", "()V"⟩ prog_5_method_3_code 1 (Option.none : Option Jvm.ClassFile.FieldType) ∈ TT := tt_mem 479 (by decide +kernel) rfl
theorem tw_480 : Cond.methodLink "DripsOnBelow$Ledger" 24 ⟨"java/util/Arrays", "fill", "([II)V"⟩ ∈ TT := tt_mem 480 (by decide +kernel) rfl
theorem tw_481 : Cond.methodLink "DripsOnBelow$Ledger" 30 ⟨"DripsOnBelow$Ledger", "beginWeek", "()V"⟩ ∈ TT := tt_mem 481 (by decide +kernel) rfl
theorem tw_482 : Cond.instanceMethod ⟨"DripsOnBelow$Ledger", "beginWeek", "()V"⟩ ∈ TT := tt_mem 482 (by decide +kernel) rfl
theorem tw_483 : Cond.selects "DripsOnBelow$Ledger" ⟨"DripsOnBelow$Ledger", "beginWeek", "()V"⟩ ⟨"DripsOnBelow$Ledger", "beginWeek", "()V"⟩ ∈ TT := tt_mem 483 (by decide +kernel) rfl
theorem tw_484 : Cond.code ⟨"DripsOnBelow$Ledger", "beginWeek", "()V"⟩ prog_5_method_5_code 1 (Option.none : Option Jvm.ClassFile.FieldType) ∈ TT := tt_mem 484 (by decide +kernel) rfl
theorem tw_485 : Cond.methodLink "DripsOnBelow$Letters" 105 ⟨"DripsOnBelow$Letters", "carryOutHabit", "(ILDripsOnBelow$House;)Z"⟩ ∈ TT := tt_mem 485 (by decide +kernel) rfl
theorem tw_486 : Cond.instanceMethod ⟨"DripsOnBelow$Letters", "carryOutHabit", "(ILDripsOnBelow$House;)Z"⟩ ∈ TT := tt_mem 486 (by decide +kernel) rfl
theorem tw_487 : Cond.selects "DripsOnBelow$Letters" ⟨"DripsOnBelow$Letters", "carryOutHabit", "(ILDripsOnBelow$House;)Z"⟩ ⟨"DripsOnBelow$Letters", "carryOutHabit", "(ILDripsOnBelow$House;)Z"⟩ ∈ TT := tt_mem 487 (by decide +kernel) rfl
theorem tw_488 : Cond.code ⟨"DripsOnBelow$Letters", "carryOutHabit", "(ILDripsOnBelow$House;)Z"⟩ prog_6_method_14_code 9 (Option.some Jvm.ClassFile.FieldType.boolean) ∈ TT := tt_mem 488 (by decide +kernel) rfl
theorem tw_489 : Cond.methodLink "DripsOnBelow$Letters" 129 ⟨"DripsOnBelow$Front", "tenants", "()I"⟩ ∈ TT := tt_mem 489 (by decide +kernel) rfl
theorem tw_490 : Cond.instanceMethod ⟨"DripsOnBelow$Front", "tenants", "()I"⟩ ∈ TT := tt_mem 490 (by decide +kernel) rfl
theorem tw_491 : Cond.selects "DripsOnBelow$Front" ⟨"DripsOnBelow$Front", "tenants", "()I"⟩ ⟨"DripsOnBelow$Front", "tenants", "()I"⟩ ∈ TT := tt_mem 491 (by decide +kernel) rfl
theorem tw_492 : Cond.code ⟨"DripsOnBelow$Front", "tenants", "()I"⟩ prog_2_method_4_code 1 (Option.some Jvm.ClassFile.FieldType.int) ∈ TT := tt_mem 492 (by decide +kernel) rfl
theorem tw_493 : Cond.methodLink "DripsOnBelow$Letters" 139 ⟨"DripsOnBelow$Habits", "add", "(IIII)V"⟩ ∈ TT := tt_mem 493 (by decide +kernel) rfl
theorem tw_494 : Cond.instanceMethod ⟨"DripsOnBelow$Habits", "add", "(IIII)V"⟩ ∈ TT := tt_mem 494 (by decide +kernel) rfl
theorem tw_495 : Cond.selects "DripsOnBelow$Habits" ⟨"DripsOnBelow$Habits", "add", "(IIII)V"⟩ ⟨"DripsOnBelow$Habits", "add", "(IIII)V"⟩ ∈ TT := tt_mem 495 (by decide +kernel) rfl
theorem tw_496 : Cond.code ⟨"DripsOnBelow$Habits", "add", "(IIII)V"⟩ prog_3_method_2_code 5 (Option.none : Option Jvm.ClassFile.FieldType) ∈ TT := tt_mem 496 (by decide +kernel) rfl
theorem tw_498 : Cond.methodLink "DripsOnBelow$Letters" 108 ⟨"DripsOnBelow$Front", "place", "(II)I"⟩ ∈ TT := tt_mem 498 (by decide +kernel) rfl
theorem tw_499 : Cond.instanceMethod ⟨"DripsOnBelow$Front", "place", "(II)I"⟩ ∈ TT := tt_mem 499 (by decide +kernel) rfl
theorem tw_500 : Cond.selects "DripsOnBelow$Front" ⟨"DripsOnBelow$Front", "place", "(II)I"⟩ ⟨"DripsOnBelow$Front", "place", "(II)I"⟩ ∈ TT := tt_mem 500 (by decide +kernel) rfl
theorem tw_501 : Cond.code ⟨"DripsOnBelow$Front", "place", "(II)I"⟩ prog_2_method_5_code 4 (Option.some Jvm.ClassFile.FieldType.int) ∈ TT := tt_mem 501 (by decide +kernel) rfl
theorem tw_502 : Cond.methodLink "DripsOnBelow$Letters" 112 ⟨"DripsOnBelow$Front", "setSaucer", "(II)V"⟩ ∈ TT := tt_mem 502 (by decide +kernel) rfl
theorem tw_503 : Cond.instanceMethod ⟨"DripsOnBelow$Front", "setSaucer", "(II)V"⟩ ∈ TT := tt_mem 503 (by decide +kernel) rfl
theorem tw_504 : Cond.selects "DripsOnBelow$Front" ⟨"DripsOnBelow$Front", "setSaucer", "(II)V"⟩ ⟨"DripsOnBelow$Front", "setSaucer", "(II)V"⟩ ∈ TT := tt_mem 504 (by decide +kernel) rfl
theorem tw_505 : Cond.code ⟨"DripsOnBelow$Front", "setSaucer", "(II)V"⟩ prog_2_method_11_code 3 (Option.none : Option Jvm.ClassFile.FieldType) ∈ TT := tt_mem 505 (by decide +kernel) rfl
theorem tw_507 : Cond.methodLink "DripsOnBelow$Front" 72 ⟨"java/lang/Math", "min", "(II)I"⟩ ∈ TT := tt_mem 507 (by decide +kernel) rfl
theorem tw_508 : Cond.methodLink "DripsOnBelow$Letters" 119 ⟨"DripsOnBelow$Letters", "hourBits", "(I)I"⟩ ∈ TT := tt_mem 508 (by decide +kernel) rfl
theorem tw_509 : Cond.instanceMethod ⟨"DripsOnBelow$Letters", "hourBits", "(I)I"⟩ ∈ TT := tt_mem 509 (by decide +kernel) rfl
theorem tw_510 : Cond.selects "DripsOnBelow$Letters" ⟨"DripsOnBelow$Letters", "hourBits", "(I)I"⟩ ⟨"DripsOnBelow$Letters", "hourBits", "(I)I"⟩ ∈ TT := tt_mem 510 (by decide +kernel) rfl
theorem tw_511 : Cond.code ⟨"DripsOnBelow$Letters", "hourBits", "(I)I"⟩ prog_6_method_15_code 5 (Option.some Jvm.ClassFile.FieldType.int) ∈ TT := tt_mem 511 (by decide +kernel) rfl
theorem tw_512 : Cond.methodLink "DripsOnBelow$Letters" 122 ⟨"DripsOnBelow$Front", "setWashing", "(III)V"⟩ ∈ TT := tt_mem 512 (by decide +kernel) rfl
theorem tw_513 : Cond.instanceMethod ⟨"DripsOnBelow$Front", "setWashing", "(III)V"⟩ ∈ TT := tt_mem 513 (by decide +kernel) rfl
theorem tw_514 : Cond.selects "DripsOnBelow$Front" ⟨"DripsOnBelow$Front", "setWashing", "(III)V"⟩ ⟨"DripsOnBelow$Front", "setWashing", "(III)V"⟩ ∈ TT := tt_mem 514 (by decide +kernel) rfl
theorem tw_515 : Cond.code ⟨"DripsOnBelow$Front", "setWashing", "(III)V"⟩ prog_2_method_12_code 4 (Option.none : Option Jvm.ClassFile.FieldType) ∈ TT := tt_mem 515 (by decide +kernel) rfl
theorem tw_518 : Cond.instanceMethod ⟨"DripsOnBelow", "flat", "(II)I"⟩ ∈ TT := tt_mem 518 (by decide +kernel) rfl
theorem tw_519 : Cond.selects "DripsOnBelow" ⟨"DripsOnBelow", "flat", "(II)I"⟩ ⟨"DripsOnBelow", "flat", "(II)I"⟩ ∈ TT := tt_mem 519 (by decide +kernel) rfl
theorem tw_520 : Cond.code ⟨"DripsOnBelow", "flat", "(II)I"⟩ prog_1_method_20_code 4 (Option.some Jvm.ClassFile.FieldType.int) ∈ TT := tt_mem 520 (by decide +kernel) rfl
theorem tw_521 : Cond.methodLink "DripsOnBelow" 147 ⟨"DripsOnBelow$Front", "placeOf", "(I)I"⟩ ∈ TT := tt_mem 521 (by decide +kernel) rfl
theorem tw_522 : Cond.instanceMethod ⟨"DripsOnBelow$Front", "placeOf", "(I)I"⟩ ∈ TT := tt_mem 522 (by decide +kernel) rfl
theorem tw_523 : Cond.selects "DripsOnBelow$Front" ⟨"DripsOnBelow$Front", "placeOf", "(I)I"⟩ ⟨"DripsOnBelow$Front", "placeOf", "(I)I"⟩ ∈ TT := tt_mem 523 (by decide +kernel) rfl
theorem tw_524 : Cond.code ⟨"DripsOnBelow$Front", "placeOf", "(I)I"⟩ prog_2_method_6_code 2 (Option.some Jvm.ClassFile.FieldType.int) ∈ TT := tt_mem 524 (by decide +kernel) rfl
theorem tw_525 : Cond.methodLink "DripsOnBelow$Front" 60 ⟨"DripsOnBelow$Front", "place", "(II)I"⟩ ∈ TT := tt_mem 525 (by decide +kernel) rfl
theorem tw_527 : Cond.instanceMethod ⟨"DripsOnBelow", "tenant", "(II)I"⟩ ∈ TT := tt_mem 527 (by decide +kernel) rfl
theorem tw_528 : Cond.selects "DripsOnBelow" ⟨"DripsOnBelow", "tenant", "(II)I"⟩ ⟨"DripsOnBelow", "tenant", "(II)I"⟩ ∈ TT := tt_mem 528 (by decide +kernel) rfl
theorem tw_529 : Cond.code ⟨"DripsOnBelow", "tenant", "(II)I"⟩ prog_1_method_21_code 3 (Option.some Jvm.ClassFile.FieldType.int) ∈ TT := tt_mem 529 (by decide +kernel) rfl
theorem tw_530 : Cond.methodLink "DripsOnBelow" 165 ⟨"DripsOnBelow", "isTenant", "(I)Z"⟩ ∈ TT := tt_mem 530 (by decide +kernel) rfl
theorem tw_532 : Cond.instanceMethod ⟨"DripsOnBelow", "isTenant", "(I)Z"⟩ ∈ TT := tt_mem 532 (by decide +kernel) rfl
theorem tw_533 : Cond.code ⟨"DripsOnBelow", "isTenant", "(I)Z"⟩ prog_1_method_8_code 2 (Option.some Jvm.ClassFile.FieldType.boolean) ∈ TT := tt_mem 533 (by decide +kernel) rfl
theorem tw_534 : Cond.methodLink "DripsOnBelow" 71 ⟨"DripsOnBelow$Front", "tenants", "()I"⟩ ∈ TT := tt_mem 534 (by decide +kernel) rfl
theorem tw_535 : Cond.methodLink "DripsOnBelow" 172 ⟨"DripsOnBelow$Front", "flatAt", "(I)I"⟩ ∈ TT := tt_mem 535 (by decide +kernel) rfl
theorem tw_536 : Cond.static ⟨"DripsOnBelow$Front", "flatAt", "(I)I"⟩ ∈ TT := tt_mem 536 (by decide +kernel) rfl
theorem tw_537 : Cond.code ⟨"DripsOnBelow$Front", "flatAt", "(I)I"⟩ prog_2_method_7_code 1 (Option.some Jvm.ClassFile.FieldType.int) ∈ TT := tt_mem 537 (by decide +kernel) rfl
theorem tw_538 : Cond.methodLink "DripsOnBelow" 178 ⟨"DripsOnBelow$Habits", "countOf", "(I)I"⟩ ∈ TT := tt_mem 538 (by decide +kernel) rfl
theorem tw_539 : Cond.instanceMethod ⟨"DripsOnBelow$Habits", "countOf", "(I)I"⟩ ∈ TT := tt_mem 539 (by decide +kernel) rfl
theorem tw_540 : Cond.selects "DripsOnBelow$Habits" ⟨"DripsOnBelow$Habits", "countOf", "(I)I"⟩ ⟨"DripsOnBelow$Habits", "countOf", "(I)I"⟩ ∈ TT := tt_mem 540 (by decide +kernel) rfl
theorem tw_541 : Cond.code ⟨"DripsOnBelow$Habits", "countOf", "(I)I"⟩ prog_3_method_4_code 4 (Option.some Jvm.ClassFile.FieldType.int) ∈ TT := tt_mem 541 (by decide +kernel) rfl
theorem tw_544 : Cond.instanceMethod ⟨"DripsOnBelow", "anger", "(II)I"⟩ ∈ TT := tt_mem 544 (by decide +kernel) rfl
theorem tw_545 : Cond.selects "DripsOnBelow" ⟨"DripsOnBelow", "anger", "(II)I"⟩ ⟨"DripsOnBelow", "anger", "(II)I"⟩ ∈ TT := tt_mem 545 (by decide +kernel) rfl
theorem tw_546 : Cond.code ⟨"DripsOnBelow", "anger", "(II)I"⟩ prog_1_method_22_code 3 (Option.some Jvm.ClassFile.FieldType.int) ∈ TT := tt_mem 546 (by decide +kernel) rfl
theorem tw_547 : Cond.methodLink "DripsOnBelow" 184 ⟨"DripsOnBelow$Ledger", "pair", "(II)I"⟩ ∈ TT := tt_mem 547 (by decide +kernel) rfl
theorem tw_548 : Cond.static ⟨"DripsOnBelow$Ledger", "pair", "(II)I"⟩ ∈ TT := tt_mem 548 (by decide +kernel) rfl
theorem tw_549 : Cond.code ⟨"DripsOnBelow$Ledger", "pair", "(II)I"⟩ prog_5_method_2_code 2 (Option.some Jvm.ClassFile.FieldType.int) ∈ TT := tt_mem 549 (by decide +kernel) rfl
theorem tw_551 : Cond.instanceMethod ⟨"DripsOnBelow", "habit", "(II)I"⟩ ∈ TT := tt_mem 551 (by decide +kernel) rfl
theorem tw_552 : Cond.selects "DripsOnBelow" ⟨"DripsOnBelow", "habit", "(II)I"⟩ ⟨"DripsOnBelow", "habit", "(II)I"⟩ ∈ TT := tt_mem 552 (by decide +kernel) rfl
theorem tw_553 : Cond.code ⟨"DripsOnBelow", "habit", "(II)I"⟩ prog_1_method_23_code 3 (Option.some Jvm.ClassFile.FieldType.int) ∈ TT := tt_mem 553 (by decide +kernel) rfl
theorem tw_554 : Cond.methodLink "DripsOnBelow" 187 ⟨"DripsOnBelow", "isHabit", "(I)Z"⟩ ∈ TT := tt_mem 554 (by decide +kernel) rfl
theorem tw_556 : Cond.instanceMethod ⟨"DripsOnBelow", "isHabit", "(I)Z"⟩ ∈ TT := tt_mem 556 (by decide +kernel) rfl
theorem tw_557 : Cond.code ⟨"DripsOnBelow", "isHabit", "(I)Z"⟩ prog_1_method_9_code 2 (Option.some Jvm.ClassFile.FieldType.boolean) ∈ TT := tt_mem 557 (by decide +kernel) rfl
theorem tw_559 : Cond.instanceMethod ⟨"DripsOnBelow", "count", "(I)I"⟩ ∈ TT := tt_mem 559 (by decide +kernel) rfl
theorem tw_560 : Cond.selects "DripsOnBelow" ⟨"DripsOnBelow", "count", "(I)I"⟩ ⟨"DripsOnBelow", "count", "(I)I"⟩ ∈ TT := tt_mem 560 (by decide +kernel) rfl
theorem tw_561 : Cond.code ⟨"DripsOnBelow", "count", "(I)I"⟩ prog_1_method_24_code 2 (Option.some Jvm.ClassFile.FieldType.int) ∈ TT := tt_mem 561 (by decide +kernel) rfl
theorem tw_562 : Cond.methodLink "DripsOnBelow" 211 ⟨"DripsOnBelow", "sum", "([I)I"⟩ ∈ TT := tt_mem 562 (by decide +kernel) rfl
theorem tw_563 : Cond.static ⟨"DripsOnBelow", "sum", "([I)I"⟩ ∈ TT := tt_mem 563 (by decide +kernel) rfl
theorem tw_564 : Cond.code ⟨"DripsOnBelow", "sum", "([I)I"⟩ prog_1_method_5_code 3 (Option.some Jvm.ClassFile.FieldType.int) ∈ TT := tt_mem 564 (by decide +kernel) rfl
theorem tw_566 : Cond.instanceMethod ⟨"DripsOnBelow", "put", "(II)I"⟩ ∈ TT := tt_mem 566 (by decide +kernel) rfl
theorem tw_567 : Cond.selects "DripsOnBelow" ⟨"DripsOnBelow", "put", "(II)I"⟩ ⟨"DripsOnBelow", "put", "(II)I"⟩ ∈ TT := tt_mem 567 (by decide +kernel) rfl
theorem tw_568 : Cond.code ⟨"DripsOnBelow", "put", "(II)I"⟩ prog_1_method_25_code 4 (Option.some Jvm.ClassFile.FieldType.int) ∈ TT := tt_mem 568 (by decide +kernel) rfl
theorem tw_569 : Cond.methodLink "DripsOnBelow" 215 ⟨"DripsOnBelow", "isHour", "(I)Z"⟩ ∈ TT := tt_mem 569 (by decide +kernel) rfl
theorem tw_571 : Cond.instanceMethod ⟨"DripsOnBelow", "saucer", "(II)I"⟩ ∈ TT := tt_mem 571 (by decide +kernel) rfl
theorem tw_572 : Cond.selects "DripsOnBelow" ⟨"DripsOnBelow", "saucer", "(II)I"⟩ ⟨"DripsOnBelow", "saucer", "(II)I"⟩ ∈ TT := tt_mem 572 (by decide +kernel) rfl
theorem tw_573 : Cond.code ⟨"DripsOnBelow", "saucer", "(II)I"⟩ prog_1_method_26_code 5 (Option.some Jvm.ClassFile.FieldType.int) ∈ TT := tt_mem 573 (by decide +kernel) rfl
theorem tw_574 : Cond.methodLink "DripsOnBelow" 218 ⟨"DripsOnBelow$Front", "setSaucer", "(II)V"⟩ ∈ TT := tt_mem 574 (by decide +kernel) rfl
theorem tw_576 : Cond.instanceMethod ⟨"DripsOnBelow", "awning", "(II)I"⟩ ∈ TT := tt_mem 576 (by decide +kernel) rfl
theorem tw_577 : Cond.selects "DripsOnBelow" ⟨"DripsOnBelow", "awning", "(II)I"⟩ ⟨"DripsOnBelow", "awning", "(II)I"⟩ ∈ TT := tt_mem 577 (by decide +kernel) rfl
theorem tw_578 : Cond.code ⟨"DripsOnBelow", "awning", "(II)I"⟩ prog_1_method_27_code 5 (Option.some Jvm.ClassFile.FieldType.int) ∈ TT := tt_mem 578 (by decide +kernel) rfl
theorem tw_580 : Cond.instanceMethod ⟨"DripsOnBelow", "wash", "(III)I"⟩ ∈ TT := tt_mem 580 (by decide +kernel) rfl
theorem tw_581 : Cond.selects "DripsOnBelow" ⟨"DripsOnBelow", "wash", "(III)I"⟩ ⟨"DripsOnBelow", "wash", "(III)I"⟩ ∈ TT := tt_mem 581 (by decide +kernel) rfl
theorem tw_582 : Cond.code ⟨"DripsOnBelow", "wash", "(III)I"⟩ prog_1_method_28_code 6 (Option.some Jvm.ClassFile.FieldType.int) ∈ TT := tt_mem 582 (by decide +kernel) rfl
theorem tw_583 : Cond.methodLink "DripsOnBelow" 221 ⟨"DripsOnBelow$Front", "setWashing", "(III)V"⟩ ∈ TT := tt_mem 583 (by decide +kernel) rfl
theorem tw_585 : Cond.instanceMethod ⟨"DripsOnBelow", "wind", "(I)I"⟩ ∈ TT := tt_mem 585 (by decide +kernel) rfl
theorem tw_586 : Cond.selects "DripsOnBelow" ⟨"DripsOnBelow", "wind", "(I)I"⟩ ⟨"DripsOnBelow", "wind", "(I)I"⟩ ∈ TT := tt_mem 586 (by decide +kernel) rfl
theorem tw_587 : Cond.code ⟨"DripsOnBelow", "wind", "(I)I"⟩ prog_1_method_29_code 3 (Option.some Jvm.ClassFile.FieldType.int) ∈ TT := tt_mem 587 (by decide +kernel) rfl
theorem tw_589 : Cond.instanceMethod ⟨"DripsOnBelow", "move", "(II)I"⟩ ∈ TT := tt_mem 589 (by decide +kernel) rfl
theorem tw_590 : Cond.selects "DripsOnBelow" ⟨"DripsOnBelow", "move", "(II)I"⟩ ⟨"DripsOnBelow", "move", "(II)I"⟩ ∈ TT := tt_mem 590 (by decide +kernel) rfl
theorem tw_591 : Cond.code ⟨"DripsOnBelow", "move", "(II)I"⟩ prog_1_method_30_code 3 (Option.some Jvm.ClassFile.FieldType.int) ∈ TT := tt_mem 591 (by decide +kernel) rfl
theorem tw_592 : Cond.methodLink "DripsOnBelow" 225 ⟨"DripsOnBelow$Front", "change", "(II)V"⟩ ∈ TT := tt_mem 592 (by decide +kernel) rfl
theorem tw_593 : Cond.instanceMethod ⟨"DripsOnBelow$Front", "change", "(II)V"⟩ ∈ TT := tt_mem 593 (by decide +kernel) rfl
theorem tw_594 : Cond.selects "DripsOnBelow$Front" ⟨"DripsOnBelow$Front", "change", "(II)V"⟩ ⟨"DripsOnBelow$Front", "change", "(II)V"⟩ ∈ TT := tt_mem 594 (by decide +kernel) rfl
theorem tw_595 : Cond.code ⟨"DripsOnBelow$Front", "change", "(II)V"⟩ prog_2_method_9_code 4 (Option.none : Option Jvm.ClassFile.FieldType) ∈ TT := tt_mem 595 (by decide +kernel) rfl
theorem tw_597 : Cond.instanceMethod ⟨"DripsOnBelow", "rain", "()I"⟩ ∈ TT := tt_mem 597 (by decide +kernel) rfl
theorem tw_598 : Cond.selects "DripsOnBelow" ⟨"DripsOnBelow", "rain", "()I"⟩ ⟨"DripsOnBelow", "rain", "()I"⟩ ∈ TT := tt_mem 598 (by decide +kernel) rfl
theorem tw_599 : Cond.code ⟨"DripsOnBelow", "rain", "()I"⟩ prog_1_method_31_code 2 (Option.some Jvm.ClassFile.FieldType.int) ∈ TT := tt_mem 599 (by decide +kernel) rfl
theorem tw_600 : Cond.methodLink "DripsOnBelow" 228 ⟨"java/util/Arrays", "fill", "([II)V"⟩ ∈ TT := tt_mem 600 (by decide +kernel) rfl
theorem tw_602 : Cond.instanceMethod ⟨"DripsOnBelow", "week", "()I"⟩ ∈ TT := tt_mem 602 (by decide +kernel) rfl
theorem tw_603 : Cond.selects "DripsOnBelow" ⟨"DripsOnBelow", "week", "()I"⟩ ⟨"DripsOnBelow", "week", "()I"⟩ ∈ TT := tt_mem 603 (by decide +kernel) rfl
theorem tw_604 : Cond.code ⟨"DripsOnBelow", "week", "()I"⟩ prog_1_method_32_code 1 (Option.some Jvm.ClassFile.FieldType.int) ∈ TT := tt_mem 604 (by decide +kernel) rfl
theorem tw_605 : Cond.methodLink "DripsOnBelow" 100 ⟨"DripsOnBelow$House", "spendWeek", "()I"⟩ ∈ TT := tt_mem 605 (by decide +kernel) rfl
theorem tw_606 : Cond.instanceMethod ⟨"DripsOnBelow$House", "spendWeek", "()I"⟩ ∈ TT := tt_mem 606 (by decide +kernel) rfl
theorem tw_607 : Cond.selects "DripsOnBelow$House" ⟨"DripsOnBelow$House", "spendWeek", "()I"⟩ ⟨"DripsOnBelow$House", "spendWeek", "()I"⟩ ∈ TT := tt_mem 607 (by decide +kernel) rfl
theorem tw_608 : Cond.code ⟨"DripsOnBelow$House", "spendWeek", "()I"⟩ prog_4_method_8_code 3 (Option.some Jvm.ClassFile.FieldType.int) ∈ TT := tt_mem 608 (by decide +kernel) rfl
theorem tw_609 : Cond.methodLink "DripsOnBelow$House" 123 ⟨"DripsOnBelow$Ledger", "beginWeek", "()V"⟩ ∈ TT := tt_mem 609 (by decide +kernel) rfl
theorem tw_611 : Cond.methodLink "DripsOnBelow$House" 126 ⟨"DripsOnBelow$House", "fall", "(I)V"⟩ ∈ TT := tt_mem 611 (by decide +kernel) rfl
theorem tw_612 : Cond.instanceMethod ⟨"DripsOnBelow$House", "fall", "(I)V"⟩ ∈ TT := tt_mem 612 (by decide +kernel) rfl
theorem tw_613 : Cond.selects "DripsOnBelow$House" ⟨"DripsOnBelow$House", "fall", "(I)V"⟩ ⟨"DripsOnBelow$House", "fall", "(I)V"⟩ ∈ TT := tt_mem 613 (by decide +kernel) rfl
theorem tw_614 : Cond.code ⟨"DripsOnBelow$House", "fall", "(I)V"⟩ prog_4_method_7_code 5 (Option.none : Option Jvm.ClassFile.FieldType) ∈ TT := tt_mem 614 (by decide +kernel) rfl
theorem tw_615 : Cond.methodLink "DripsOnBelow$House" 63 ⟨"DripsOnBelow$Way", "trace", "(LDripsOnBelow$Front;LDripsOnBelow$Habits;I)V"⟩ ∈ TT := tt_mem 615 (by decide +kernel) rfl
theorem tw_616 : Cond.instanceMethod ⟨"DripsOnBelow$Way", "trace", "(LDripsOnBelow$Front;LDripsOnBelow$Habits;I)V"⟩ ∈ TT := tt_mem 616 (by decide +kernel) rfl
theorem tw_617 : Cond.selects "DripsOnBelow$Way" ⟨"DripsOnBelow$Way", "trace", "(LDripsOnBelow$Front;LDripsOnBelow$Habits;I)V"⟩ ⟨"DripsOnBelow$Way", "trace", "(LDripsOnBelow$Front;LDripsOnBelow$Habits;I)V"⟩ ∈ TT := tt_mem 617 (by decide +kernel) rfl
theorem tw_618 : Cond.code ⟨"DripsOnBelow$Way", "trace", "(LDripsOnBelow$Front;LDripsOnBelow$Habits;I)V"⟩ prog_7_method_2_code 7 (Option.none : Option Jvm.ClassFile.FieldType) ∈ TT := tt_mem 618 (by decide +kernel) rfl
theorem tw_620 : Cond.methodLink "DripsOnBelow$Way" 42 ⟨"DripsOnBelow$Way", "next", "(LDripsOnBelow$Front;II)I"⟩ ∈ TT := tt_mem 620 (by decide +kernel) rfl
theorem tw_621 : Cond.static ⟨"DripsOnBelow$Way", "next", "(LDripsOnBelow$Front;II)I"⟩ ∈ TT := tt_mem 621 (by decide +kernel) rfl
theorem tw_622 : Cond.code ⟨"DripsOnBelow$Way", "next", "(LDripsOnBelow$Front;II)I"⟩ prog_7_method_4_code 7 (Option.some Jvm.ClassFile.FieldType.int) ∈ TT := tt_mem 622 (by decide +kernel) rfl
theorem tw_623 : Cond.methodLink "DripsOnBelow$Way" 65 ⟨"DripsOnBelow$Front", "place", "(II)I"⟩ ∈ TT := tt_mem 623 (by decide +kernel) rfl
theorem tw_625 : Cond.methodLink "DripsOnBelow$House" 67 ⟨"DripsOnBelow$Way", "hold", "(LDripsOnBelow$Front;LDripsOnBelow$Habits;I)V"⟩ ∈ TT := tt_mem 625 (by decide +kernel) rfl
theorem tw_626 : Cond.instanceMethod ⟨"DripsOnBelow$Way", "hold", "(LDripsOnBelow$Front;LDripsOnBelow$Habits;I)V"⟩ ∈ TT := tt_mem 626 (by decide +kernel) rfl
theorem tw_627 : Cond.selects "DripsOnBelow$Way" ⟨"DripsOnBelow$Way", "hold", "(LDripsOnBelow$Front;LDripsOnBelow$Habits;I)V"⟩ ⟨"DripsOnBelow$Way", "hold", "(LDripsOnBelow$Front;LDripsOnBelow$Habits;I)V"⟩ ∈ TT := tt_mem 627 (by decide +kernel) rfl
theorem tw_628 : Cond.code ⟨"DripsOnBelow$Way", "hold", "(LDripsOnBelow$Front;LDripsOnBelow$Habits;I)V"⟩ prog_7_method_3_code 9 (Option.none : Option Jvm.ClassFile.FieldType) ∈ TT := tt_mem 628 (by decide +kernel) rfl
theorem tw_629 : Cond.methodLink "DripsOnBelow$Way" 53 ⟨"DripsOnBelow$Way", "room", "(LDripsOnBelow$Front;II)I"⟩ ∈ TT := tt_mem 629 (by decide +kernel) rfl
theorem tw_630 : Cond.static ⟨"DripsOnBelow$Way", "room", "(LDripsOnBelow$Front;II)I"⟩ ∈ TT := tt_mem 630 (by decide +kernel) rfl
theorem tw_631 : Cond.code ⟨"DripsOnBelow$Way", "room", "(LDripsOnBelow$Front;II)I"⟩ prog_7_method_5_code 4 (Option.some Jvm.ClassFile.FieldType.int) ∈ TT := tt_mem 631 (by decide +kernel) rfl
theorem tw_632 : Cond.methodLink "DripsOnBelow$Way" 77 ⟨"java/lang/Math", "max", "(II)I"⟩ ∈ TT := tt_mem 632 (by decide +kernel) rfl
theorem tw_633 : Cond.static ⟨"java/lang/Math", "max", "(II)I"⟩ ∈ TT := tt_mem 633 (by decide +kernel) rfl
theorem tw_634 : Cond.code ⟨"java/lang/Math", "max", "(II)I"⟩ prog_10_method_65_code 2 (Option.some Jvm.ClassFile.FieldType.int) ∈ TT := tt_mem 634 (by decide +kernel) rfl
theorem tw_635 : Cond.methodLink "DripsOnBelow$Way" 56 ⟨"java/lang/Math", "min", "(II)I"⟩ ∈ TT := tt_mem 635 (by decide +kernel) rfl
theorem tw_636 : Cond.methodLink "DripsOnBelow$House" 106 ⟨"DripsOnBelow$House", "harmAt", "(II)I"⟩ ∈ TT := tt_mem 636 (by decide +kernel) rfl
theorem tw_637 : Cond.instanceMethod ⟨"DripsOnBelow$House", "harmAt", "(II)I"⟩ ∈ TT := tt_mem 637 (by decide +kernel) rfl
theorem tw_638 : Cond.selects "DripsOnBelow$House" ⟨"DripsOnBelow$House", "harmAt", "(II)I"⟩ ⟨"DripsOnBelow$House", "harmAt", "(II)I"⟩ ∈ TT := tt_mem 638 (by decide +kernel) rfl
theorem tw_639 : Cond.code ⟨"DripsOnBelow$House", "harmAt", "(II)I"⟩ prog_4_method_6_code 7 (Option.some Jvm.ClassFile.FieldType.int) ∈ TT := tt_mem 639 (by decide +kernel) rfl
theorem tw_640 : Cond.methodLink "DripsOnBelow$House" 90 ⟨"java/lang/Math", "min", "(II)I"⟩ ∈ TT := tt_mem 640 (by decide +kernel) rfl
theorem tw_641 : Cond.methodLink "DripsOnBelow$House" 109 ⟨"DripsOnBelow$Ledger", "note", "(III)V"⟩ ∈ TT := tt_mem 641 (by decide +kernel) rfl
theorem tw_642 : Cond.instanceMethod ⟨"DripsOnBelow$Ledger", "note", "(III)V"⟩ ∈ TT := tt_mem 642 (by decide +kernel) rfl
theorem tw_643 : Cond.selects "DripsOnBelow$Ledger" ⟨"DripsOnBelow$Ledger", "note", "(III)V"⟩ ⟨"DripsOnBelow$Ledger", "note", "(III)V"⟩ ∈ TT := tt_mem 643 (by decide +kernel) rfl
theorem tw_644 : Cond.code ⟨"DripsOnBelow$Ledger", "note", "(III)V"⟩ prog_5_method_6_code 5 (Option.none : Option Jvm.ClassFile.FieldType) ∈ TT := tt_mem 644 (by decide +kernel) rfl
theorem tw_647 : Cond.constant "DripsOnBelow$Ledger" 49 99999 ∈ TT := tt_mem 647 (by decide +kernel) rfl
theorem tw_648 : Cond.methodLink "DripsOnBelow$Ledger" 50 ⟨"java/lang/Math", "min", "(II)I"⟩ ∈ TT := tt_mem 648 (by decide +kernel) rfl
theorem tw_649 : Cond.methodLink "DripsOnBelow$Ledger" 56 ⟨"DripsOnBelow$Ledger", "pair", "(II)I"⟩ ∈ TT := tt_mem 649 (by decide +kernel) rfl
theorem tw_651 : Cond.methodLink "DripsOnBelow$House" 130 ⟨"DripsOnBelow$Front", "dry", "()V"⟩ ∈ TT := tt_mem 651 (by decide +kernel) rfl
theorem tw_652 : Cond.instanceMethod ⟨"DripsOnBelow$Front", "dry", "()V"⟩ ∈ TT := tt_mem 652 (by decide +kernel) rfl
theorem tw_653 : Cond.selects "DripsOnBelow$Front" ⟨"DripsOnBelow$Front", "dry", "()V"⟩ ⟨"DripsOnBelow$Front", "dry", "()V"⟩ ∈ TT := tt_mem 653 (by decide +kernel) rfl
theorem tw_654 : Cond.code ⟨"DripsOnBelow$Front", "dry", "()V"⟩ prog_2_method_13_code 2 (Option.none : Option Jvm.ClassFile.FieldType) ∈ TT := tt_mem 654 (by decide +kernel) rfl
theorem tw_655 : Cond.methodLink "DripsOnBelow$Front" 77 ⟨"java/lang/Math", "max", "(II)I"⟩ ∈ TT := tt_mem 655 (by decide +kernel) rfl
theorem tw_657 : Cond.instanceMethod ⟨"DripsOnBelow", "steps", "(II)I"⟩ ∈ TT := tt_mem 657 (by decide +kernel) rfl
theorem tw_658 : Cond.selects "DripsOnBelow" ⟨"DripsOnBelow", "steps", "(II)I"⟩ ⟨"DripsOnBelow", "steps", "(II)I"⟩ ∈ TT := tt_mem 658 (by decide +kernel) rfl
theorem tw_659 : Cond.code ⟨"DripsOnBelow", "steps", "(II)I"⟩ prog_1_method_33_code 4 (Option.some Jvm.ClassFile.FieldType.int) ∈ TT := tt_mem 659 (by decide +kernel) rfl
theorem tw_660 : Cond.methodLink "DripsOnBelow" 234 ⟨"DripsOnBelow$House", "follow", "(I)LDripsOnBelow$Way;"⟩ ∈ TT := tt_mem 660 (by decide +kernel) rfl
theorem tw_661 : Cond.instanceMethod ⟨"DripsOnBelow$House", "follow", "(I)LDripsOnBelow$Way;"⟩ ∈ TT := tt_mem 661 (by decide +kernel) rfl
theorem tw_662 : Cond.selects "DripsOnBelow$House" ⟨"DripsOnBelow$House", "follow", "(I)LDripsOnBelow$Way;"⟩ ⟨"DripsOnBelow$House", "follow", "(I)LDripsOnBelow$Way;"⟩ ∈ TT := tt_mem 662 (by decide +kernel) rfl
theorem tw_663 : Cond.code ⟨"DripsOnBelow$House", "follow", "(I)LDripsOnBelow$Way;"⟩ prog_4_method_4_code 2 (Option.some (Jvm.ClassFile.FieldType.object "DripsOnBelow$Way")) ∈ TT := tt_mem 663 (by decide +kernel) rfl
theorem tw_665 : Cond.instanceMethod ⟨"DripsOnBelow", "down", "(I)I"⟩ ∈ TT := tt_mem 665 (by decide +kernel) rfl
theorem tw_666 : Cond.selects "DripsOnBelow" ⟨"DripsOnBelow", "down", "(I)I"⟩ ⟨"DripsOnBelow", "down", "(I)I"⟩ ∈ TT := tt_mem 666 (by decide +kernel) rfl
theorem tw_667 : Cond.code ⟨"DripsOnBelow", "down", "(I)I"⟩ prog_1_method_34_code 3 (Option.some Jvm.ClassFile.FieldType.int) ∈ TT := tt_mem 667 (by decide +kernel) rfl
theorem tw_669 : Cond.instanceMethod ⟨"DripsOnBelow", "whom", "(II)I"⟩ ∈ TT := tt_mem 669 (by decide +kernel) rfl
theorem tw_670 : Cond.selects "DripsOnBelow" ⟨"DripsOnBelow", "whom", "(II)I"⟩ ⟨"DripsOnBelow", "whom", "(II)I"⟩ ∈ TT := tt_mem 670 (by decide +kernel) rfl
theorem tw_671 : Cond.code ⟨"DripsOnBelow", "whom", "(II)I"⟩ prog_1_method_35_code 6 (Option.some Jvm.ClassFile.FieldType.int) ∈ TT := tt_mem 671 (by decide +kernel) rfl
theorem tw_672 : Cond.methodLink "DripsOnBelow" 244 ⟨"DripsOnBelow$House", "trace", "(I)LDripsOnBelow$Way;"⟩ ∈ TT := tt_mem 672 (by decide +kernel) rfl
theorem tw_673 : Cond.instanceMethod ⟨"DripsOnBelow$House", "trace", "(I)LDripsOnBelow$Way;"⟩ ∈ TT := tt_mem 673 (by decide +kernel) rfl
theorem tw_674 : Cond.selects "DripsOnBelow$House" ⟨"DripsOnBelow$House", "trace", "(I)LDripsOnBelow$Way;"⟩ ⟨"DripsOnBelow$House", "trace", "(I)LDripsOnBelow$Way;"⟩ ∈ TT := tt_mem 674 (by decide +kernel) rfl
theorem tw_675 : Cond.code ⟨"DripsOnBelow$House", "trace", "(I)LDripsOnBelow$Way;"⟩ prog_4_method_5_code 2 (Option.some (Jvm.ClassFile.FieldType.object "DripsOnBelow$Way")) ∈ TT := tt_mem 675 (by decide +kernel) rfl
theorem tw_676 : Cond.methodLink "DripsOnBelow" 247 ⟨"DripsOnBelow$Way", "comesTo", "(I)Z"⟩ ∈ TT := tt_mem 676 (by decide +kernel) rfl
theorem tw_677 : Cond.instanceMethod ⟨"DripsOnBelow$Way", "comesTo", "(I)Z"⟩ ∈ TT := tt_mem 677 (by decide +kernel) rfl
theorem tw_678 : Cond.selects "DripsOnBelow$Way" ⟨"DripsOnBelow$Way", "comesTo", "(I)Z"⟩ ⟨"DripsOnBelow$Way", "comesTo", "(I)Z"⟩ ∈ TT := tt_mem 678 (by decide +kernel) rfl
theorem tw_679 : Cond.code ⟨"DripsOnBelow$Way", "comesTo", "(I)Z"⟩ prog_7_method_6_code 3 (Option.some Jvm.ClassFile.FieldType.boolean) ∈ TT := tt_mem 679 (by decide +kernel) rfl
theorem tw_681 : Cond.instanceMethod ⟨"DripsOnBelow", "does", "(II)I"⟩ ∈ TT := tt_mem 681 (by decide +kernel) rfl
theorem tw_682 : Cond.selects "DripsOnBelow" ⟨"DripsOnBelow", "does", "(II)I"⟩ ⟨"DripsOnBelow", "does", "(II)I"⟩ ∈ TT := tt_mem 682 (by decide +kernel) rfl
theorem tw_683 : Cond.code ⟨"DripsOnBelow", "does", "(II)I"⟩ prog_1_method_36_code 6 (Option.some Jvm.ClassFile.FieldType.int) ∈ TT := tt_mem 683 (by decide +kernel) rfl
theorem tw_684 : Cond.methodLink "DripsOnBelow" 250 ⟨"DripsOnBelow$House", "harmAt", "(II)I"⟩ ∈ TT := tt_mem 684 (by decide +kernel) rfl
theorem tw_686 : Cond.instanceMethod ⟨"DripsOnBelow", "harmed", "(II)I"⟩ ∈ TT := tt_mem 686 (by decide +kernel) rfl
theorem tw_687 : Cond.selects "DripsOnBelow" ⟨"DripsOnBelow", "harmed", "(II)I"⟩ ⟨"DripsOnBelow", "harmed", "(II)I"⟩ ∈ TT := tt_mem 687 (by decide +kernel) rfl
theorem tw_688 : Cond.code ⟨"DripsOnBelow", "harmed", "(II)I"⟩ prog_1_method_37_code 6 (Option.some Jvm.ClassFile.FieldType.int) ∈ TT := tt_mem 688 (by decide +kernel) rfl
theorem tw_689 : Cond.methodLink "DripsOnBelow" 97 ⟨"DripsOnBelow", "tryAnew", "()V"⟩ ∈ TT := tt_mem 689 (by decide +kernel) rfl
theorem tw_691 : Cond.instanceMethod ⟨"DripsOnBelow", "tryAnew", "()V"⟩ ∈ TT := tt_mem 691 (by decide +kernel) rfl
theorem tw_692 : Cond.code ⟨"DripsOnBelow", "tryAnew", "()V"⟩ prog_1_method_11_code 1 (Option.none : Option Jvm.ClassFile.FieldType) ∈ TT := tt_mem 692 (by decide +kernel) rfl
theorem tw_693 : Cond.methodLink "DripsOnBelow" 90 ⟨"DripsOnBelow$Front", "copyFrom", "(LDripsOnBelow$Front;)V"⟩ ∈ TT := tt_mem 693 (by decide +kernel) rfl
theorem tw_694 : Cond.methodLink "DripsOnBelow" 94 ⟨"DripsOnBelow$Habits", "copyFrom", "(LDripsOnBelow$Habits;)V"⟩ ∈ TT := tt_mem 694 (by decide +kernel) rfl
theorem tw_695 : Cond.methodLink "DripsOnBelow" 126 ⟨"DripsOnBelow", "doneTo", "(I)I"⟩ ∈ TT := tt_mem 695 (by decide +kernel) rfl
theorem tw_697 : Cond.instanceMethod ⟨"DripsOnBelow", "doneTo", "(I)I"⟩ ∈ TT := tt_mem 697 (by decide +kernel) rfl
theorem tw_698 : Cond.code ⟨"DripsOnBelow", "doneTo", "(I)I"⟩ prog_1_method_16_code 2 (Option.some Jvm.ClassFile.FieldType.int) ∈ TT := tt_mem 698 (by decide +kernel) rfl
theorem tw_700 : Cond.instanceMethod ⟨"DripsOnBelow", "least", "(II)I"⟩ ∈ TT := tt_mem 700 (by decide +kernel) rfl
theorem tw_701 : Cond.selects "DripsOnBelow" ⟨"DripsOnBelow", "least", "(II)I"⟩ ⟨"DripsOnBelow", "least", "(II)I"⟩ ∈ TT := tt_mem 701 (by decide +kernel) rfl
theorem tw_702 : Cond.code ⟨"DripsOnBelow", "least", "(II)I"⟩ prog_1_method_38_code 7 (Option.some Jvm.ClassFile.FieldType.int) ∈ TT := tt_mem 702 (by decide +kernel) rfl
theorem tw_703 : Cond.methodLink "DripsOnBelow" 253 ⟨"DripsOnBelow", "tryHour", "(II)I"⟩ ∈ TT := tt_mem 703 (by decide +kernel) rfl
theorem tw_705 : Cond.instanceMethod ⟨"DripsOnBelow", "tryHour", "(II)I"⟩ ∈ TT := tt_mem 705 (by decide +kernel) rfl
theorem tw_706 : Cond.code ⟨"DripsOnBelow", "tryHour", "(II)I"⟩ prog_1_method_13_code 3 (Option.some Jvm.ClassFile.FieldType.int) ∈ TT := tt_mem 706 (by decide +kernel) rfl
theorem tw_708 : Cond.instanceMethod ⟨"DripsOnBelow", "hours", "(III)I"⟩ ∈ TT := tt_mem 708 (by decide +kernel) rfl
theorem tw_709 : Cond.selects "DripsOnBelow" ⟨"DripsOnBelow", "hours", "(III)I"⟩ ⟨"DripsOnBelow", "hours", "(III)I"⟩ ∈ TT := tt_mem 709 (by decide +kernel) rfl
theorem tw_710 : Cond.code ⟨"DripsOnBelow", "hours", "(III)I"⟩ prog_1_method_39_code 9 (Option.some Jvm.ClassFile.FieldType.int) ∈ TT := tt_mem 710 (by decide +kernel) rfl
theorem tw_712 : Cond.instanceMethod ⟨"DripsOnBelow", "quiet", "(II)I"⟩ ∈ TT := tt_mem 712 (by decide +kernel) rfl
theorem tw_713 : Cond.selects "DripsOnBelow" ⟨"DripsOnBelow", "quiet", "(II)I"⟩ ⟨"DripsOnBelow", "quiet", "(II)I"⟩ ∈ TT := tt_mem 713 (by decide +kernel) rfl
theorem tw_714 : Cond.code ⟨"DripsOnBelow", "quiet", "(II)I"⟩ prog_1_method_40_code 3 (Option.some Jvm.ClassFile.FieldType.int) ∈ TT := tt_mem 714 (by decide +kernel) rfl
theorem tw_715 : Cond.methodLink "DripsOnBelow" 256 ⟨"DripsOnBelow", "tryQuiet", "(II)I"⟩ ∈ TT := tt_mem 715 (by decide +kernel) rfl
theorem tw_717 : Cond.instanceMethod ⟨"DripsOnBelow", "tryQuiet", "(II)I"⟩ ∈ TT := tt_mem 717 (by decide +kernel) rfl
theorem tw_718 : Cond.code ⟨"DripsOnBelow", "tryQuiet", "(II)I"⟩ prog_1_method_14_code 3 (Option.some Jvm.ClassFile.FieldType.int) ∈ TT := tt_mem 718 (by decide +kernel) rfl
theorem tw_719 : Cond.methodLink "DripsOnBelow" 119 ⟨"DripsOnBelow$Habits", "putOff", "(II)V"⟩ ∈ TT := tt_mem 719 (by decide +kernel) rfl
theorem tw_720 : Cond.instanceMethod ⟨"DripsOnBelow$Habits", "putOff", "(II)V"⟩ ∈ TT := tt_mem 720 (by decide +kernel) rfl
theorem tw_721 : Cond.selects "DripsOnBelow$Habits" ⟨"DripsOnBelow$Habits", "putOff", "(II)V"⟩ ⟨"DripsOnBelow$Habits", "putOff", "(II)V"⟩ ∈ TT := tt_mem 721 (by decide +kernel) rfl
theorem tw_722 : Cond.code ⟨"DripsOnBelow$Habits", "putOff", "(II)V"⟩ prog_3_method_5_code 4 (Option.none : Option Jvm.ClassFile.FieldType) ∈ TT := tt_mem 722 (by decide +kernel) rfl
theorem tw_725 : Cond.instanceMethod ⟨"DripsOnBelow", "rule", "()I"⟩ ∈ TT := tt_mem 725 (by decide +kernel) rfl
theorem tw_726 : Cond.selects "DripsOnBelow" ⟨"DripsOnBelow", "rule", "()I"⟩ ⟨"DripsOnBelow", "rule", "()I"⟩ ∈ TT := tt_mem 726 (by decide +kernel) rfl
theorem tw_727 : Cond.code ⟨"DripsOnBelow", "rule", "()I"⟩ prog_1_method_41_code 6 (Option.some Jvm.ClassFile.FieldType.int) ∈ TT := tt_mem 727 (by decide +kernel) rfl
theorem tw_728 : Cond.methodLink "DripsOnBelow" 259 ⟨"DripsOnBelow", "tryAsIs", "()I"⟩ ∈ TT := tt_mem 728 (by decide +kernel) rfl
theorem tw_730 : Cond.instanceMethod ⟨"DripsOnBelow", "tryAsIs", "()I"⟩ ∈ TT := tt_mem 730 (by decide +kernel) rfl
theorem tw_731 : Cond.code ⟨"DripsOnBelow", "tryAsIs", "()I"⟩ prog_1_method_12_code 2 (Option.some Jvm.ClassFile.FieldType.int) ∈ TT := tt_mem 731 (by decide +kernel) rfl
theorem tw_732 : Cond.methodLink "DripsOnBelow" 112 ⟨"DripsOnBelow", "copy", "([I[I)V"⟩ ∈ TT := tt_mem 732 (by decide +kernel) rfl
theorem tw_734 : Cond.instanceMethod ⟨"DripsOnBelow", "hang", "(I)I"⟩ ∈ TT := tt_mem 734 (by decide +kernel) rfl
theorem tw_735 : Cond.selects "DripsOnBelow" ⟨"DripsOnBelow", "hang", "(I)I"⟩ ⟨"DripsOnBelow", "hang", "(I)I"⟩ ∈ TT := tt_mem 735 (by decide +kernel) rfl
theorem tw_736 : Cond.code ⟨"DripsOnBelow", "hang", "(I)I"⟩ prog_1_method_42_code 7 (Option.some Jvm.ClassFile.FieldType.int) ∈ TT := tt_mem 736 (by decide +kernel) rfl
theorem tw_738 : Cond.instanceMethod ⟨"DripsOnBelow", "big", "(I)I"⟩ ∈ TT := tt_mem 738 (by decide +kernel) rfl
theorem tw_739 : Cond.selects "DripsOnBelow" ⟨"DripsOnBelow", "big", "(I)I"⟩ ⟨"DripsOnBelow", "big", "(I)I"⟩ ∈ TT := tt_mem 739 (by decide +kernel) rfl
theorem tw_740 : Cond.code ⟨"DripsOnBelow", "big", "(I)I"⟩ prog_1_method_43_code 7 (Option.some Jvm.ClassFile.FieldType.int) ∈ TT := tt_mem 740 (by decide +kernel) rfl
theorem tw_742 : Cond.instanceMethod ⟨"DripsOnBelow", "leads", "(I)I"⟩ ∈ TT := tt_mem 742 (by decide +kernel) rfl
theorem tw_743 : Cond.selects "DripsOnBelow" ⟨"DripsOnBelow", "leads", "(I)I"⟩ ⟨"DripsOnBelow", "leads", "(I)I"⟩ ∈ TT := tt_mem 743 (by decide +kernel) rfl
theorem tw_744 : Cond.code ⟨"DripsOnBelow", "leads", "(I)I"⟩ prog_1_method_44_code 7 (Option.some Jvm.ClassFile.FieldType.int) ∈ TT := tt_mem 744 (by decide +kernel) rfl
theorem tw_745 : Cond.methodLink "DripsOnBelow" 262 ⟨"DripsOnBelow", "tryAwning", "(II)I"⟩ ∈ TT := tt_mem 745 (by decide +kernel) rfl
theorem tw_747 : Cond.instanceMethod ⟨"DripsOnBelow", "tryAwning", "(II)I"⟩ ∈ TT := tt_mem 747 (by decide +kernel) rfl
theorem tw_748 : Cond.code ⟨"DripsOnBelow", "tryAwning", "(II)I"⟩ prog_1_method_15_code 3 (Option.some Jvm.ClassFile.FieldType.int) ∈ TT := tt_mem 748 (by decide +kernel) rfl
theorem tw_750 : Cond.instanceMethod ⟨"DripsOnBelow", "whose", "(II)I"⟩ ∈ TT := tt_mem 750 (by decide +kernel) rfl
theorem tw_751 : Cond.selects "DripsOnBelow" ⟨"DripsOnBelow", "whose", "(II)I"⟩ ⟨"DripsOnBelow", "whose", "(II)I"⟩ ∈ TT := tt_mem 751 (by decide +kernel) rfl
theorem tw_752 : Cond.code ⟨"DripsOnBelow", "whose", "(II)I"⟩ prog_1_method_45_code 6 (Option.some Jvm.ClassFile.FieldType.int) ∈ TT := tt_mem 752 (by decide +kernel) rfl
theorem tw_753 : Cond.methodLink "DripsOnBelow" 265 ⟨"DripsOnBelow", "gain", "(I)I"⟩ ∈ TT := tt_mem 753 (by decide +kernel) rfl
theorem tw_755 : Cond.instanceMethod ⟨"DripsOnBelow", "gain", "(I)I"⟩ ∈ TT := tt_mem 755 (by decide +kernel) rfl
theorem tw_756 : Cond.code ⟨"DripsOnBelow", "gain", "(I)I"⟩ prog_1_method_17_code 2 (Option.some Jvm.ClassFile.FieldType.int) ∈ TT := tt_mem 756 (by decide +kernel) rfl
theorem tw_758 : Cond.instanceMethod ⟨"DripsOnBelow", "deal", "(II)I"⟩ ∈ TT := tt_mem 758 (by decide +kernel) rfl
theorem tw_759 : Cond.selects "DripsOnBelow" ⟨"DripsOnBelow", "deal", "(II)I"⟩ ⟨"DripsOnBelow", "deal", "(II)I"⟩ ∈ TT := tt_mem 759 (by decide +kernel) rfl
theorem tw_760 : Cond.code ⟨"DripsOnBelow", "deal", "(II)I"⟩ prog_1_method_46_code 5 (Option.some Jvm.ClassFile.FieldType.int) ∈ TT := tt_mem 760 (by decide +kernel) rfl
theorem tw_761 : Cond.constant "DripsOnBelow" 268 1000000000 ∈ TT := tt_mem 761 (by decide +kernel) rfl
theorem tw_762 : Cond.methodLink "DripsOnBelow" 269 ⟨"java/lang/Math", "abs", "(I)I"⟩ ∈ TT := tt_mem 762 (by decide +kernel) rfl
theorem tw_763 : Cond.static ⟨"java/lang/Math", "abs", "(I)I"⟩ ∈ TT := tt_mem 763 (by decide +kernel) rfl
theorem tw_764 : Cond.code ⟨"java/lang/Math", "abs", "(I)I"⟩ prog_10_method_59_code 1 (Option.some Jvm.ClassFile.FieldType.int) ∈ TT := tt_mem 764 (by decide +kernel) rfl
theorem tw_766 : Cond.instanceMethod ⟨"DripsOnBelow", "pays", "(III)I"⟩ ∈ TT := tt_mem 766 (by decide +kernel) rfl
theorem tw_767 : Cond.selects "DripsOnBelow" ⟨"DripsOnBelow", "pays", "(III)I"⟩ ⟨"DripsOnBelow", "pays", "(III)I"⟩ ∈ TT := tt_mem 767 (by decide +kernel) rfl
theorem tw_768 : Cond.code ⟨"DripsOnBelow", "pays", "(III)I"⟩ prog_1_method_47_code 7 (Option.some Jvm.ClassFile.FieldType.int) ∈ TT := tt_mem 768 (by decide +kernel) rfl
theorem tw_770 : Cond.instanceMethod ⟨"DripsOnBelow", "climbs", "()I"⟩ ∈ TT := tt_mem 770 (by decide +kernel) rfl
theorem tw_771 : Cond.selects "DripsOnBelow" ⟨"DripsOnBelow", "climbs", "()I"⟩ ⟨"DripsOnBelow", "climbs", "()I"⟩ ∈ TT := tt_mem 771 (by decide +kernel) rfl
theorem tw_772 : Cond.code ⟨"DripsOnBelow", "climbs", "()I"⟩ prog_1_method_48_code 4 (Option.some Jvm.ClassFile.FieldType.int) ∈ TT := tt_mem 772 (by decide +kernel) rfl
theorem tw_773 : Cond.methodLink "DripsOnBelow" 272 ⟨"DripsOnBelow$House", "takeRevenge", "()V"⟩ ∈ TT := tt_mem 773 (by decide +kernel) rfl
theorem tw_774 : Cond.instanceMethod ⟨"DripsOnBelow$House", "takeRevenge", "()V"⟩ ∈ TT := tt_mem 774 (by decide +kernel) rfl
theorem tw_775 : Cond.selects "DripsOnBelow$House" ⟨"DripsOnBelow$House", "takeRevenge", "()V"⟩ ⟨"DripsOnBelow$House", "takeRevenge", "()V"⟩ ∈ TT := tt_mem 775 (by decide +kernel) rfl
theorem tw_776 : Cond.code ⟨"DripsOnBelow$House", "takeRevenge", "()V"⟩ prog_4_method_9_code 2 (Option.none : Option Jvm.ClassFile.FieldType) ∈ TT := tt_mem 776 (by decide +kernel) rfl
theorem tw_777 : Cond.methodLink "DripsOnBelow$House" 136 ⟨"DripsOnBelow$Front", "tenants", "()I"⟩ ∈ TT := tt_mem 777 (by decide +kernel) rfl
theorem tw_778 : Cond.methodLink "DripsOnBelow$House" 140 ⟨"DripsOnBelow$Ledger", "isAngry", "(I)Z"⟩ ∈ TT := tt_mem 778 (by decide +kernel) rfl
theorem tw_779 : Cond.instanceMethod ⟨"DripsOnBelow$Ledger", "isAngry", "(I)Z"⟩ ∈ TT := tt_mem 779 (by decide +kernel) rfl
theorem tw_780 : Cond.selects "DripsOnBelow$Ledger" ⟨"DripsOnBelow$Ledger", "isAngry", "(I)Z"⟩ ⟨"DripsOnBelow$Ledger", "isAngry", "(I)Z"⟩ ∈ TT := tt_mem 780 (by decide +kernel) rfl
theorem tw_781 : Cond.code ⟨"DripsOnBelow$Ledger", "isAngry", "(I)Z"⟩ prog_5_method_7_code 4 (Option.some Jvm.ClassFile.FieldType.boolean) ∈ TT := tt_mem 781 (by decide +kernel) rfl
theorem tw_782 : Cond.methodLink "DripsOnBelow$House" 144 ⟨"DripsOnBelow$Habits", "raise", "(I)V"⟩ ∈ TT := tt_mem 782 (by decide +kernel) rfl
theorem tw_783 : Cond.instanceMethod ⟨"DripsOnBelow$Habits", "raise", "(I)V"⟩ ∈ TT := tt_mem 783 (by decide +kernel) rfl
theorem tw_784 : Cond.selects "DripsOnBelow$Habits" ⟨"DripsOnBelow$Habits", "raise", "(I)V"⟩ ⟨"DripsOnBelow$Habits", "raise", "(I)V"⟩ ∈ TT := tt_mem 784 (by decide +kernel) rfl
theorem tw_785 : Cond.code ⟨"DripsOnBelow$Habits", "raise", "(I)V"⟩ prog_3_method_6_code 3 (Option.none : Option Jvm.ClassFile.FieldType) ∈ TT := tt_mem 785 (by decide +kernel) rfl
theorem tw_786 : Cond.methodLink "DripsOnBelow$Habits" 44 ⟨"java/lang/Math", "min", "(II)I"⟩ ∈ TT := tt_mem 786 (by decide +kernel) rfl
theorem tw_788 : Cond.instanceMethod ⟨"DripsOnBelow", "worth", "(I)I"⟩ ∈ TT := tt_mem 788 (by decide +kernel) rfl
theorem tw_789 : Cond.selects "DripsOnBelow" ⟨"DripsOnBelow", "worth", "(I)I"⟩ ⟨"DripsOnBelow", "worth", "(I)I"⟩ ∈ TT := tt_mem 789 (by decide +kernel) rfl
theorem tw_790 : Cond.code ⟨"DripsOnBelow", "worth", "(I)I"⟩ prog_1_method_49_code 4 (Option.some Jvm.ClassFile.FieldType.int) ∈ TT := tt_mem 790 (by decide +kernel) rfl
theorem tw_791 : Cond.methodLink "DripsOnBelow" 275 ⟨"java/lang/Math", "max", "(II)I"⟩ ∈ TT := tt_mem 791 (by decide +kernel) rfl
theorem tw_793 : Cond.instanceMethod ⟨"DripsOnBelow", "swaps", "(I)I"⟩ ∈ TT := tt_mem 793 (by decide +kernel) rfl
theorem tw_794 : Cond.selects "DripsOnBelow" ⟨"DripsOnBelow", "swaps", "(I)I"⟩ ⟨"DripsOnBelow", "swaps", "(I)I"⟩ ∈ TT := tt_mem 794 (by decide +kernel) rfl
theorem tw_795 : Cond.code ⟨"DripsOnBelow", "swaps", "(I)I"⟩ prog_1_method_50_code 2 (Option.some Jvm.ClassFile.FieldType.int) ∈ TT := tt_mem 795 (by decide +kernel) rfl
theorem tw_796 : Cond.methodLink "DripsOnBelow" 278 ⟨"DripsOnBelow", "rings", "()I"⟩ ∈ TT := tt_mem 796 (by decide +kernel) rfl
theorem tw_798 : Cond.instanceMethod ⟨"DripsOnBelow", "rings", "()I"⟩ ∈ TT := tt_mem 798 (by decide +kernel) rfl
theorem tw_799 : Cond.code ⟨"DripsOnBelow", "rings", "()I"⟩ prog_1_method_52_code 5 (Option.some Jvm.ClassFile.FieldType.int) ∈ TT := tt_mem 799 (by decide +kernel) rfl
theorem tw_800 : Cond.methodLink "DripsOnBelow" 285 ⟨"DripsOnBelow$Front", "ring", "(III)V"⟩ ∈ TT := tt_mem 800 (by decide +kernel) rfl
theorem tw_801 : Cond.instanceMethod ⟨"DripsOnBelow$Front", "ring", "(III)V"⟩ ∈ TT := tt_mem 801 (by decide +kernel) rfl
theorem tw_802 : Cond.selects "DripsOnBelow$Front" ⟨"DripsOnBelow$Front", "ring", "(III)V"⟩ ⟨"DripsOnBelow$Front", "ring", "(III)V"⟩ ∈ TT := tt_mem 802 (by decide +kernel) rfl
theorem tw_803 : Cond.code ⟨"DripsOnBelow$Front", "ring", "(III)V"⟩ prog_2_method_10_code 5 (Option.none : Option Jvm.ClassFile.FieldType) ∈ TT := tt_mem 803 (by decide +kernel) rfl
theorem tw_804 : Cond.methodLink "DripsOnBelow" 281 ⟨"DripsOnBelow", "pairs", "(Z)I"⟩ ∈ TT := tt_mem 804 (by decide +kernel) rfl
theorem tw_806 : Cond.instanceMethod ⟨"DripsOnBelow", "pairs", "(Z)I"⟩ ∈ TT := tt_mem 806 (by decide +kernel) rfl
theorem tw_807 : Cond.code ⟨"DripsOnBelow", "pairs", "(Z)I"⟩ prog_1_method_51_code 5 (Option.some Jvm.ClassFile.FieldType.int) ∈ TT := tt_mem 807 (by decide +kernel) rfl
theorem tw_809 : Cond.instanceMethod ⟨"DripsOnBelow", "peg", "(III)J"⟩ ∈ TT := tt_mem 809 (by decide +kernel) rfl
theorem tw_810 : Cond.selects "DripsOnBelow" ⟨"DripsOnBelow", "peg", "(III)J"⟩ ⟨"DripsOnBelow", "peg", "(III)J"⟩ ∈ TT := tt_mem 810 (by decide +kernel) rfl
theorem tw_811 : Cond.code ⟨"DripsOnBelow", "peg", "(III)J"⟩ prog_1_method_53_code 10 (Option.some Jvm.ClassFile.FieldType.long) ∈ TT := tt_mem 811 (by decide +kernel) rfl
theorem tw_812 : Cond.constantLong "DripsOnBelow" 288 4000000000000000000 ∈ TT := tt_mem 812 (by decide +kernel) rfl
theorem tw_813 : Cond.constantLong "DripsOnBelow" 290 2 ∈ TT := tt_mem 813 (by decide +kernel) rfl
theorem tw_815 : Cond.instanceMethod ⟨"DripsOnBelow", "row", "(I)I"⟩ ∈ TT := tt_mem 815 (by decide +kernel) rfl
theorem tw_816 : Cond.selects "DripsOnBelow" ⟨"DripsOnBelow", "row", "(I)I"⟩ ⟨"DripsOnBelow", "row", "(I)I"⟩ ∈ TT := tt_mem 816 (by decide +kernel) rfl
theorem tw_817 : Cond.code ⟨"DripsOnBelow", "row", "(I)I"⟩ prog_1_method_54_code 2 (Option.some Jvm.ClassFile.FieldType.int) ∈ TT := tt_mem 817 (by decide +kernel) rfl
theorem tw_819 : Cond.instanceMethod ⟨"DripsOnBelow", "judge", "()I"⟩ ∈ TT := tt_mem 819 (by decide +kernel) rfl
theorem tw_820 : Cond.selects "DripsOnBelow" ⟨"DripsOnBelow", "judge", "()I"⟩ ⟨"DripsOnBelow", "judge", "()I"⟩ ∈ TT := tt_mem 820 (by decide +kernel) rfl
theorem tw_821 : Cond.code ⟨"DripsOnBelow", "judge", "()I"⟩ prog_1_method_55_code 3 (Option.some Jvm.ClassFile.FieldType.int) ∈ TT := tt_mem 821 (by decide +kernel) rfl
theorem tw_823 : Cond.instanceMethod ⟨"DripsOnBelow", "seeds", "(II)I"⟩ ∈ TT := tt_mem 823 (by decide +kernel) rfl
theorem tw_824 : Cond.selects "DripsOnBelow" ⟨"DripsOnBelow", "seeds", "(II)I"⟩ ⟨"DripsOnBelow", "seeds", "(II)I"⟩ ∈ TT := tt_mem 824 (by decide +kernel) rfl
theorem tw_825 : Cond.code ⟨"DripsOnBelow", "seeds", "(II)I"⟩ prog_1_method_56_code 7 (Option.some Jvm.ClassFile.FieldType.int) ∈ TT := tt_mem 825 (by decide +kernel) rfl
theorem tw_826 : Cond.constant "DripsOnBelow" 292 1103515245 ∈ TT := tt_mem 826 (by decide +kernel) rfl
theorem tw_827 : Cond.constant "DripsOnBelow" 293 2147483647 ∈ TT := tt_mem 827 (by decide +kernel) rfl
theorem tw_828 : Cond.constant "DripsOnBelow" 294 65536 ∈ TT := tt_mem 828 (by decide +kernel) rfl
theorem tw_830 : Cond.instanceMethod ⟨"DripsOnBelow", "image", "()I"⟩ ∈ TT := tt_mem 830 (by decide +kernel) rfl
theorem tw_831 : Cond.selects "DripsOnBelow" ⟨"DripsOnBelow", "image", "()I"⟩ ⟨"DripsOnBelow", "image", "()I"⟩ ∈ TT := tt_mem 831 (by decide +kernel) rfl
theorem tw_832 : Cond.code ⟨"DripsOnBelow", "image", "()I"⟩ prog_1_method_57_code 1 (Option.some Jvm.ClassFile.FieldType.int) ∈ TT := tt_mem 832 (by decide +kernel) rfl
theorem tw_834 : Cond.instanceMethod ⟨"DripsOnBelow", "restore", "()I"⟩ ∈ TT := tt_mem 834 (by decide +kernel) rfl
theorem tw_835 : Cond.selects "DripsOnBelow" ⟨"DripsOnBelow", "restore", "()I"⟩ ⟨"DripsOnBelow", "restore", "()I"⟩ ∈ TT := tt_mem 835 (by decide +kernel) rfl
theorem tw_836 : Cond.code ⟨"DripsOnBelow", "restore", "()I"⟩ prog_1_method_58_code 1 (Option.some Jvm.ClassFile.FieldType.int) ∈ TT := tt_mem 836 (by decide +kernel) rfl
theorem tw_843 : Cond.methodLink "DripsOnBelowModel" 101 ⟨"DripsOnBelowModel", "clearAll", "()V"⟩ ∈ TT := tt_mem 843 (by decide +kernel) rfl
theorem tw_845 : Cond.instanceMethod ⟨"DripsOnBelowModel", "clearAll", "()V"⟩ ∈ TT := tt_mem 845 (by decide +kernel) rfl
theorem tw_846 : Cond.code ⟨"DripsOnBelowModel", "clearAll", "()V"⟩ prog_9_method_4_code 2 (Option.none : Option Jvm.ClassFile.FieldType) ∈ TT := tt_mem 846 (by decide +kernel) rfl
theorem tw_847 : Cond.fieldLink "DripsOnBelowModel" 7 "DripsOnBelowModel" "storeys" "I" ∈ TT := tt_mem 847 (by decide +kernel) rfl
theorem tw_848 : Cond.fieldLink "DripsOnBelowModel" 13 "DripsOnBelowModel" "stacks" "I" ∈ TT := tt_mem 848 (by decide +kernel) rfl
theorem tw_849 : Cond.fieldLink "DripsOnBelowModel" 119 "DripsOnBelowModel" "blows" "I" ∈ TT := tt_mem 849 (by decide +kernel) rfl
theorem tw_850 : Cond.fieldLink "DripsOnBelowModel" 164 "DripsOnBelowModel" "weeks" "I" ∈ TT := tt_mem 850 (by decide +kernel) rfl
theorem tw_851 : Cond.fieldLink "DripsOnBelowModel" 104 "DripsOnBelowModel" "habits" "I" ∈ TT := tt_mem 851 (by decide +kernel) rfl
theorem tw_852 : Cond.fieldLink "DripsOnBelowModel" 16 "DripsOnBelowModel" "saucers" "[I" ∈ TT := tt_mem 852 (by decide +kernel) rfl
theorem tw_853 : Cond.fieldLink "DripsOnBelowModel" 20 "DripsOnBelowModel" "holds" "[I" ∈ TT := tt_mem 853 (by decide +kernel) rfl
theorem tw_854 : Cond.fieldLink "DripsOnBelowModel" 23 "DripsOnBelowModel" "awnings" "[I" ∈ TT := tt_mem 854 (by decide +kernel) rfl
theorem tw_855 : Cond.fieldLink "DripsOnBelowModel" 26 "DripsOnBelowModel" "washings" "[I" ∈ TT := tt_mem 855 (by decide +kernel) rfl
theorem tw_856 : Cond.fieldLink "DripsOnBelowModel" 29 "DripsOnBelowModel" "hungs" "[I" ∈ TT := tt_mem 856 (by decide +kernel) rfl
theorem tw_857 : Cond.fieldLink "DripsOnBelowModel" 32 "DripsOnBelowModel" "flatOf" "[I" ∈ TT := tt_mem 857 (by decide +kernel) rfl
theorem tw_858 : Cond.fieldLink "DripsOnBelowModel" 35 "DripsOnBelowModel" "harms" "[I" ∈ TT := tt_mem 858 (by decide +kernel) rfl
theorem tw_859 : Cond.fieldLink "DripsOnBelowModel" 38 "DripsOnBelowModel" "latest" "[I" ∈ TT := tt_mem 859 (by decide +kernel) rfl
theorem tw_860 : Cond.fieldLink "DripsOnBelowModel" 41 "DripsOnBelowModel" "angers" "[I" ∈ TT := tt_mem 860 (by decide +kernel) rfl
theorem tw_861 : Cond.fieldLink "DripsOnBelowModel" 44 "DripsOnBelowModel" "habitOf" "[I" ∈ TT := tt_mem 861 (by decide +kernel) rfl
theorem tw_862 : Cond.fieldLink "DripsOnBelowModel" 47 "DripsOnBelowModel" "kinds" "[I" ∈ TT := tt_mem 862 (by decide +kernel) rfl
theorem tw_863 : Cond.fieldLink "DripsOnBelowModel" 50 "DripsOnBelowModel" "figures" "[I" ∈ TT := tt_mem 863 (by decide +kernel) rfl
theorem tw_864 : Cond.fieldLink "DripsOnBelowModel" 53 "DripsOnBelowModel" "times" "[I" ∈ TT := tt_mem 864 (by decide +kernel) rfl
theorem tw_865 : Cond.fieldLink "DripsOnBelowModel" 98 "DripsOnBelowModel" "thrown" "I" ∈ TT := tt_mem 865 (by decide +kernel) rfl
theorem tw_866 : Cond.fieldLink "DripsOnBelowModel" 56 "DripsOnBelowModel" "refusals" "[I" ∈ TT := tt_mem 866 (by decide +kernel) rfl
theorem tw_867 : Cond.fieldLink "DripsOnBelowModel" 59 "DripsOnBelowModel" "held" "[I" ∈ TT := tt_mem 867 (by decide +kernel) rfl
theorem tw_868 : Cond.fieldLink "DripsOnBelowModel" 62 "DripsOnBelowModel" "harmed0" "[I" ∈ TT := tt_mem 868 (by decide +kernel) rfl
theorem tw_869 : Cond.fieldLink "DripsOnBelowModel" 65 "DripsOnBelowModel" "harmedBy" "[I" ∈ TT := tt_mem 869 (by decide +kernel) rfl
theorem tw_870 : Cond.fieldLink "DripsOnBelowModel" 68 "DripsOnBelowModel" "wayFlats" "[I" ∈ TT := tt_mem 870 (by decide +kernel) rfl
theorem tw_871 : Cond.fieldLink "DripsOnBelowModel" 132 "DripsOnBelowModel" "wayMany" "I" ∈ TT := tt_mem 871 (by decide +kernel) rfl
theorem tw_872 : Cond.fieldLink "DripsOnBelowModel" 71 "DripsOnBelowModel" "letters" "[I" ∈ TT := tt_mem 872 (by decide +kernel) rfl
theorem tw_873 : Cond.fieldLink "DripsOnBelowModel" 170 "DripsOnBelowModel" "letterMany" "I" ∈ TT := tt_mem 873 (by decide +kernel) rfl
theorem tw_874 : Cond.fieldLink "DripsOnBelowModel" 173 "DripsOnBelowModel" "at" "I" ∈ TT := tt_mem 874 (by decide +kernel) rfl
theorem tw_875 : Cond.fieldLink "DripsOnBelowModel" 176 "DripsOnBelowModel" "isBad" "Z" ∈ TT := tt_mem 875 (by decide +kernel) rfl
theorem tw_876 : Cond.fieldLink "DripsOnBelowModel" 192 "DripsOnBelowModel" "statements" "I" ∈ TT := tt_mem 876 (by decide +kernel) rfl
theorem tw_877 : Cond.fieldLink "DripsOnBelowModel" 74 "DripsOnBelowModel" "placeOf" "[I" ∈ TT := tt_mem 877 (by decide +kernel) rfl
theorem tw_878 : Cond.fieldLink "DripsOnBelowModel" 77 "DripsOnBelowModel" "letterOf" "[I" ∈ TT := tt_mem 878 (by decide +kernel) rfl
theorem tw_879 : Cond.fieldLink "DripsOnBelowModel" 80 "DripsOnBelowModel" "told" "[I" ∈ TT := tt_mem 879 (by decide +kernel) rfl
theorem tw_880 : Cond.fieldLink "DripsOnBelowModel" 83 "DripsOnBelowModel" "kept" "[I" ∈ TT := tt_mem 880 (by decide +kernel) rfl
theorem tw_881 : Cond.fieldLink "DripsOnBelowModel" 86 "DripsOnBelowModel" "imaged" "[I" ∈ TT := tt_mem 881 (by decide +kernel) rfl
theorem tw_882 : Cond.fieldLink "DripsOnBelowModel" 252 "DripsOnBelowModel" "hasImage" "Z" ∈ TT := tt_mem 882 (by decide +kernel) rfl
theorem tw_883 : Cond.fieldLink "DripsOnBelowModel" 246 "DripsOnBelowModel" "place" "I" ∈ TT := tt_mem 883 (by decide +kernel) rfl
theorem tw_884 : Cond.fieldLink "DripsOnBelowModel" 240 "DripsOnBelowModel" "isTaking" "Z" ∈ TT := tt_mem 884 (by decide +kernel) rfl
theorem tw_885 : Cond.fieldLink "DripsOnBelowModel" 243 "DripsOnBelowModel" "keptIn" "[I" ∈ TT := tt_mem 885 (by decide +kernel) rfl
theorem tw_886 : Cond.fieldLink "DripsOnBelowModel" 89 "DripsOnBelowModel" "timesWere" "[I" ∈ TT := tt_mem 886 (by decide +kernel) rfl
theorem tw_887 : Cond.fieldLink "DripsOnBelowModel" 92 "DripsOnBelowModel" "harmWas" "[I" ∈ TT := tt_mem 887 (by decide +kernel) rfl
theorem tw_888 : Cond.fieldLink "DripsOnBelowModel" 95 "DripsOnBelowModel" "row" "[I" ∈ TT := tt_mem 888 (by decide +kernel) rfl
theorem tw_889 : Cond.fieldLink "DripsOnBelowModel" 334 "DripsOnBelowModel" "rowMany" "I" ∈ TT := tt_mem 889 (by decide +kernel) rfl
theorem tw_978 : Cond.instanceMethod ⟨"DripsOnBelowModel", "feed", "(I)I"⟩ ∈ TT := tt_mem 978 (by decide +kernel) rfl
theorem tw_979 : Cond.selects "DripsOnBelowModel" ⟨"DripsOnBelowModel", "feed", "(I)I"⟩ ⟨"DripsOnBelowModel", "feed", "(I)I"⟩ ∈ TT := tt_mem 979 (by decide +kernel) rfl
theorem tw_980 : Cond.code ⟨"DripsOnBelowModel", "feed", "(I)I"⟩ prog_9_method_25_code 2 (Option.some Jvm.ClassFile.FieldType.int) ∈ TT := tt_mem 980 (by decide +kernel) rfl
theorem tw_981 : Cond.methodLink "DripsOnBelowModel" 167 ⟨"DripsOnBelowModel", "refuse", "(I)I"⟩ ∈ TT := tt_mem 981 (by decide +kernel) rfl
theorem tw_983 : Cond.instanceMethod ⟨"DripsOnBelowModel", "refuse", "(I)I"⟩ ∈ TT := tt_mem 983 (by decide +kernel) rfl
theorem tw_984 : Cond.code ⟨"DripsOnBelowModel", "refuse", "(I)I"⟩ prog_9_method_5_code 2 (Option.some Jvm.ClassFile.FieldType.int) ∈ TT := tt_mem 984 (by decide +kernel) rfl
theorem tw_986 : Cond.instanceMethod ⟨"DripsOnBelowModel", "front", "()I"⟩ ∈ TT := tt_mem 986 (by decide +kernel) rfl
theorem tw_987 : Cond.selects "DripsOnBelowModel" ⟨"DripsOnBelowModel", "front", "()I"⟩ ⟨"DripsOnBelowModel", "front", "()I"⟩ ∈ TT := tt_mem 987 (by decide +kernel) rfl
theorem tw_988 : Cond.code ⟨"DripsOnBelowModel", "front", "()I"⟩ prog_9_method_38_code 2 (Option.some Jvm.ClassFile.FieldType.int) ∈ TT := tt_mem 988 (by decide +kernel) rfl
theorem tw_989 : Cond.methodLink "DripsOnBelowModel" 230 ⟨"DripsOnBelowModel", "readStatement", "()V"⟩ ∈ TT := tt_mem 989 (by decide +kernel) rfl
theorem tw_991 : Cond.instanceMethod ⟨"DripsOnBelowModel", "readStatement", "()V"⟩ ∈ TT := tt_mem 991 (by decide +kernel) rfl
theorem tw_992 : Cond.code ⟨"DripsOnBelowModel", "readStatement", "()V"⟩ prog_9_method_32_code 4 (Option.none : Option Jvm.ClassFile.FieldType) ∈ TT := tt_mem 992 (by decide +kernel) rfl
theorem tw_993 : Cond.methodLink "DripsOnBelowModel" 180 ⟨"DripsOnBelowModel", "here", "()I"⟩ ∈ TT := tt_mem 993 (by decide +kernel) rfl
theorem tw_995 : Cond.instanceMethod ⟨"DripsOnBelowModel", "here", "()I"⟩ ∈ TT := tt_mem 995 (by decide +kernel) rfl
theorem tw_996 : Cond.code ⟨"DripsOnBelowModel", "here", "()I"⟩ prog_9_method_26_code 1 (Option.some Jvm.ClassFile.FieldType.int) ∈ TT := tt_mem 996 (by decide +kernel) rfl
theorem tw_997 : Cond.methodLink "DripsOnBelowModel" 187 ⟨"DripsOnBelowModel", "readDigit", "()I"⟩ ∈ TT := tt_mem 997 (by decide +kernel) rfl
theorem tw_999 : Cond.instanceMethod ⟨"DripsOnBelowModel", "readDigit", "()I"⟩ ∈ TT := tt_mem 999 (by decide +kernel) rfl
theorem tw_1000 : Cond.code ⟨"DripsOnBelowModel", "readDigit", "()I"⟩ prog_9_method_27_code 1 (Option.some Jvm.ClassFile.FieldType.int) ∈ TT := tt_mem 1000 (by decide +kernel) rfl
theorem tw_1001 : Cond.constantLong "DripsOnBelowModel" 183 48 ∈ TT := tt_mem 1001 (by decide +kernel) rfl
theorem tw_1002 : Cond.constantLong "DripsOnBelowModel" 185 57 ∈ TT := tt_mem 1002 (by decide +kernel) rfl
theorem tw_1003 : Cond.methodLink "DripsOnBelowModel" 111 ⟨"DripsOnBelowModel", "in", "(JJJ)Z"⟩ ∈ TT := tt_mem 1003 (by decide +kernel) rfl
theorem tw_1004 : Cond.static ⟨"DripsOnBelowModel", "in", "(JJJ)Z"⟩ ∈ TT := tt_mem 1004 (by decide +kernel) rfl
theorem tw_1005 : Cond.code ⟨"DripsOnBelowModel", "in", "(JJJ)Z"⟩ prog_9_method_3_code 6 (Option.some Jvm.ClassFile.FieldType.boolean) ∈ TT := tt_mem 1005 (by decide +kernel) rfl
theorem tw_1006 : Cond.methodLink "DripsOnBelowModel" 195 ⟨"DripsOnBelowModel", "readTwo", "()I"⟩ ∈ TT := tt_mem 1006 (by decide +kernel) rfl
theorem tw_1008 : Cond.instanceMethod ⟨"DripsOnBelowModel", "readTwo", "()I"⟩ ∈ TT := tt_mem 1008 (by decide +kernel) rfl
theorem tw_1009 : Cond.code ⟨"DripsOnBelowModel", "readTwo", "()I"⟩ prog_9_method_28_code 2 (Option.some Jvm.ClassFile.FieldType.int) ∈ TT := tt_mem 1009 (by decide +kernel) rfl
theorem tw_1010 : Cond.methodLink "DripsOnBelowModel" 198 ⟨"DripsOnBelowModel", "readSign", "()I"⟩ ∈ TT := tt_mem 1010 (by decide +kernel) rfl
theorem tw_1012 : Cond.instanceMethod ⟨"DripsOnBelowModel", "readSign", "()I"⟩ ∈ TT := tt_mem 1012 (by decide +kernel) rfl
theorem tw_1013 : Cond.code ⟨"DripsOnBelowModel", "readSign", "()I"⟩ prog_9_method_29_code 2 (Option.some Jvm.ClassFile.FieldType.int) ∈ TT := tt_mem 1013 (by decide +kernel) rfl
theorem tw_1014 : Cond.methodLink "DripsOnBelowModel" 201 ⟨"DripsOnBelowModel", "readHours", "()I"⟩ ∈ TT := tt_mem 1014 (by decide +kernel) rfl
theorem tw_1016 : Cond.instanceMethod ⟨"DripsOnBelowModel", "readHours", "()I"⟩ ∈ TT := tt_mem 1016 (by decide +kernel) rfl
theorem tw_1017 : Cond.code ⟨"DripsOnBelowModel", "readHours", "()I"⟩ prog_9_method_30_code 3 (Option.some Jvm.ClassFile.FieldType.int) ∈ TT := tt_mem 1017 (by decide +kernel) rfl
theorem tw_1018 : Cond.constantLong "DripsOnBelowModel" 190 55 ∈ TT := tt_mem 1018 (by decide +kernel) rfl
theorem tw_1019 : Cond.methodLink "DripsOnBelowModel" 204 ⟨"DripsOnBelowModel", "readTenant", "()I"⟩ ∈ TT := tt_mem 1019 (by decide +kernel) rfl
theorem tw_1021 : Cond.instanceMethod ⟨"DripsOnBelowModel", "readTenant", "()I"⟩ ∈ TT := tt_mem 1021 (by decide +kernel) rfl
theorem tw_1022 : Cond.code ⟨"DripsOnBelowModel", "readTenant", "()I"⟩ prog_9_method_31_code 2 (Option.some Jvm.ClassFile.FieldType.int) ∈ TT := tt_mem 1022 (by decide +kernel) rfl
theorem tw_1023 : Cond.methodLink "DripsOnBelowModel" 233 ⟨"DripsOnBelowModel", "carryAll", "([IZ)V"⟩ ∈ TT := tt_mem 1023 (by decide +kernel) rfl
theorem tw_1025 : Cond.instanceMethod ⟨"DripsOnBelowModel", "carryAll", "([IZ)V"⟩ ∈ TT := tt_mem 1025 (by decide +kernel) rfl
theorem tw_1026 : Cond.code ⟨"DripsOnBelowModel", "carryAll", "([IZ)V"⟩ prog_9_method_40_code 4 (Option.none : Option Jvm.ClassFile.FieldType) ∈ TT := tt_mem 1026 (by decide +kernel) rfl
theorem tw_1027 : Cond.methodLink "DripsOnBelowModel" 249 ⟨"DripsOnBelowModel", "carry", "(I)I"⟩ ∈ TT := tt_mem 1027 (by decide +kernel) rfl
theorem tw_1029 : Cond.instanceMethod ⟨"DripsOnBelowModel", "carry", "(I)I"⟩ ∈ TT := tt_mem 1029 (by decide +kernel) rfl
theorem tw_1030 : Cond.code ⟨"DripsOnBelowModel", "carry", "(I)I"⟩ prog_9_method_39_code 2 (Option.some Jvm.ClassFile.FieldType.int) ∈ TT := tt_mem 1030 (by decide +kernel) rfl
theorem tw_1031 : Cond.methodLink "DripsOnBelowModel" 237 ⟨"DripsOnBelowModel", "comes", "(I)Z"⟩ ∈ TT := tt_mem 1031 (by decide +kernel) rfl
theorem tw_1033 : Cond.instanceMethod ⟨"DripsOnBelowModel", "comes", "(I)Z"⟩ ∈ TT := tt_mem 1033 (by decide +kernel) rfl
theorem tw_1034 : Cond.code ⟨"DripsOnBelowModel", "comes", "(I)Z"⟩ prog_9_method_37_code 3 (Option.some Jvm.ClassFile.FieldType.boolean) ∈ TT := tt_mem 1034 (by decide +kernel) rfl
theorem tw_1035 : Cond.methodLink "DripsOnBelowModel" 220 ⟨"DripsOnBelowModel", "frontComes", "(II)Z"⟩ ∈ TT := tt_mem 1035 (by decide +kernel) rfl
theorem tw_1037 : Cond.instanceMethod ⟨"DripsOnBelowModel", "frontComes", "(II)Z"⟩ ∈ TT := tt_mem 1037 (by decide +kernel) rfl
theorem tw_1038 : Cond.code ⟨"DripsOnBelowModel", "frontComes", "(II)Z"⟩ prog_9_method_33_code 4 (Option.some Jvm.ClassFile.FieldType.boolean) ∈ TT := tt_mem 1038 (by decide +kernel) rfl
theorem tw_1039 : Cond.constantLong "DripsOnBelowModel" 207 2 ∈ TT := tt_mem 1039 (by decide +kernel) rfl
theorem tw_1040 : Cond.constantLong "DripsOnBelowModel" 209 6 ∈ TT := tt_mem 1040 (by decide +kernel) rfl
theorem tw_1041 : Cond.constantLong "DripsOnBelowModel" 211 4 ∈ TT := tt_mem 1041 (by decide +kernel) rfl
theorem tw_1042 : Cond.methodLink "DripsOnBelowModel" 224 ⟨"DripsOnBelowModel", "habitComes", "(I)Z"⟩ ∈ TT := tt_mem 1042 (by decide +kernel) rfl
theorem tw_1044 : Cond.instanceMethod ⟨"DripsOnBelowModel", "habitComes", "(I)Z"⟩ ∈ TT := tt_mem 1044 (by decide +kernel) rfl
theorem tw_1045 : Cond.code ⟨"DripsOnBelowModel", "habitComes", "(I)Z"⟩ prog_9_method_34_code 3 (Option.some Jvm.ClassFile.FieldType.boolean) ∈ TT := tt_mem 1045 (by decide +kernel) rfl
theorem tw_1046 : Cond.methodLink "DripsOnBelowModel" 107 ⟨"DripsOnBelowModel", "tenants", "()I"⟩ ∈ TT := tt_mem 1046 (by decide +kernel) rfl
theorem tw_1048 : Cond.instanceMethod ⟨"DripsOnBelowModel", "tenants", "()I"⟩ ∈ TT := tt_mem 1048 (by decide +kernel) rfl
theorem tw_1049 : Cond.code ⟨"DripsOnBelowModel", "tenants", "()I"⟩ prog_9_method_6_code 1 (Option.some Jvm.ClassFile.FieldType.int) ∈ TT := tt_mem 1049 (by decide +kernel) rfl
theorem tw_1050 : Cond.methodLink "DripsOnBelowModel" 227 ⟨"DripsOnBelowModel", "flatComes", "(II)Z"⟩ ∈ TT := tt_mem 1050 (by decide +kernel) rfl
theorem tw_1052 : Cond.instanceMethod ⟨"DripsOnBelowModel", "flatComes", "(II)Z"⟩ ∈ TT := tt_mem 1052 (by decide +kernel) rfl
theorem tw_1053 : Cond.code ⟨"DripsOnBelowModel", "flatComes", "(II)Z"⟩ prog_9_method_36_code 4 (Option.some Jvm.ClassFile.FieldType.boolean) ∈ TT := tt_mem 1053 (by decide +kernel) rfl
theorem tw_1054 : Cond.methodLink "DripsOnBelowModel" 213 ⟨"DripsOnBelowModel", "flatAt", "(I)I"⟩ ∈ TT := tt_mem 1054 (by decide +kernel) rfl
theorem tw_1056 : Cond.instanceMethod ⟨"DripsOnBelowModel", "flatAt", "(I)I"⟩ ∈ TT := tt_mem 1056 (by decide +kernel) rfl
theorem tw_1057 : Cond.code ⟨"DripsOnBelowModel", "flatAt", "(I)I"⟩ prog_9_method_7_code 3 (Option.some Jvm.ClassFile.FieldType.int) ∈ TT := tt_mem 1057 (by decide +kernel) rfl
theorem tw_1058 : Cond.methodLink "DripsOnBelowModel" 216 ⟨"DripsOnBelowModel", "saucerIs", "(II)V"⟩ ∈ TT := tt_mem 1058 (by decide +kernel) rfl
theorem tw_1060 : Cond.instanceMethod ⟨"DripsOnBelowModel", "saucerIs", "(II)V"⟩ ∈ TT := tt_mem 1060 (by decide +kernel) rfl
theorem tw_1061 : Cond.code ⟨"DripsOnBelowModel", "saucerIs", "(II)V"⟩ prog_9_method_35_code 3 (Option.none : Option Jvm.ClassFile.FieldType) ∈ TT := tt_mem 1061 (by decide +kernel) rfl
theorem tw_1062 : Cond.methodLink "DripsOnBelowModel" 122 ⟨"DripsOnBelowModel", "lesser", "(II)I"⟩ ∈ TT := tt_mem 1062 (by decide +kernel) rfl
theorem tw_1063 : Cond.static ⟨"DripsOnBelowModel", "lesser", "(II)I"⟩ ∈ TT := tt_mem 1063 (by decide +kernel) rfl
theorem tw_1064 : Cond.code ⟨"DripsOnBelowModel", "lesser", "(II)I"⟩ prog_9_method_14_code 2 (Option.some Jvm.ClassFile.FieldType.int) ∈ TT := tt_mem 1064 (by decide +kernel) rfl
theorem tw_1066 : Cond.instanceMethod ⟨"DripsOnBelowModel", "image", "()I"⟩ ∈ TT := tt_mem 1066 (by decide +kernel) rfl
theorem tw_1067 : Cond.selects "DripsOnBelowModel" ⟨"DripsOnBelowModel", "image", "()I"⟩ ⟨"DripsOnBelowModel", "image", "()I"⟩ ∈ TT := tt_mem 1067 (by decide +kernel) rfl
theorem tw_1068 : Cond.code ⟨"DripsOnBelowModel", "image", "()I"⟩ prog_9_method_41_code 1 (Option.some Jvm.ClassFile.FieldType.int) ∈ TT := tt_mem 1068 (by decide +kernel) rfl
theorem tw_1070 : Cond.instanceMethod ⟨"DripsOnBelowModel", "restore", "()I"⟩ ∈ TT := tt_mem 1070 (by decide +kernel) rfl
theorem tw_1071 : Cond.selects "DripsOnBelowModel" ⟨"DripsOnBelowModel", "restore", "()I"⟩ ⟨"DripsOnBelowModel", "restore", "()I"⟩ ∈ TT := tt_mem 1071 (by decide +kernel) rfl
theorem tw_1072 : Cond.code ⟨"DripsOnBelowModel", "restore", "()I"⟩ prog_9_method_42_code 1 (Option.some Jvm.ClassFile.FieldType.int) ∈ TT := tt_mem 1072 (by decide +kernel) rfl
theorem tw_1074 : Cond.instanceMethod ⟨"DripsOnBelowModel", "flat", "(II)I"⟩ ∈ TT := tt_mem 1074 (by decide +kernel) rfl
theorem tw_1075 : Cond.selects "DripsOnBelowModel" ⟨"DripsOnBelowModel", "flat", "(II)I"⟩ ⟨"DripsOnBelowModel", "flat", "(II)I"⟩ ∈ TT := tt_mem 1075 (by decide +kernel) rfl
theorem tw_1076 : Cond.code ⟨"DripsOnBelowModel", "flat", "(II)I"⟩ prog_9_method_43_code 4 (Option.some Jvm.ClassFile.FieldType.int) ∈ TT := tt_mem 1076 (by decide +kernel) rfl
theorem tw_1077 : Cond.constantLong "DripsOnBelowModel" 255 5 ∈ TT := tt_mem 1077 (by decide +kernel) rfl
theorem tw_1078 : Cond.methodLink "DripsOnBelowModel" 135 ⟨"DripsOnBelowModel", "livesIn", "(I)I"⟩ ∈ TT := tt_mem 1078 (by decide +kernel) rfl
theorem tw_1080 : Cond.instanceMethod ⟨"DripsOnBelowModel", "livesIn", "(I)I"⟩ ∈ TT := tt_mem 1080 (by decide +kernel) rfl
theorem tw_1081 : Cond.code ⟨"DripsOnBelowModel", "livesIn", "(I)I"⟩ prog_9_method_12_code 3 (Option.some Jvm.ClassFile.FieldType.int) ∈ TT := tt_mem 1081 (by decide +kernel) rfl
theorem tw_1083 : Cond.instanceMethod ⟨"DripsOnBelowModel", "tenant", "(II)I"⟩ ∈ TT := tt_mem 1083 (by decide +kernel) rfl
theorem tw_1084 : Cond.selects "DripsOnBelowModel" ⟨"DripsOnBelowModel", "tenant", "(II)I"⟩ ⟨"DripsOnBelowModel", "tenant", "(II)I"⟩ ∈ TT := tt_mem 1084 (by decide +kernel) rfl
theorem tw_1085 : Cond.code ⟨"DripsOnBelowModel", "tenant", "(II)I"⟩ prog_9_method_45_code 3 (Option.some Jvm.ClassFile.FieldType.int) ∈ TT := tt_mem 1085 (by decide +kernel) rfl
theorem tw_1086 : Cond.methodLink "DripsOnBelowModel" 115 ⟨"DripsOnBelowModel", "isTenant", "(I)Z"⟩ ∈ TT := tt_mem 1086 (by decide +kernel) rfl
theorem tw_1088 : Cond.instanceMethod ⟨"DripsOnBelowModel", "isTenant", "(I)Z"⟩ ∈ TT := tt_mem 1088 (by decide +kernel) rfl
theorem tw_1089 : Cond.code ⟨"DripsOnBelowModel", "isTenant", "(I)Z"⟩ prog_9_method_9_code 2 (Option.some Jvm.ClassFile.FieldType.boolean) ∈ TT := tt_mem 1089 (by decide +kernel) rfl
theorem tw_1090 : Cond.methodLink "DripsOnBelowModel" 257 ⟨"DripsOnBelowModel", "toldAs", "(I)I"⟩ ∈ TT := tt_mem 1090 (by decide +kernel) rfl
theorem tw_1091 : Cond.static ⟨"DripsOnBelowModel", "toldAs", "(I)I"⟩ ∈ TT := tt_mem 1091 (by decide +kernel) rfl
theorem tw_1092 : Cond.code ⟨"DripsOnBelowModel", "toldAs", "(I)I"⟩ prog_9_method_8_code 1 (Option.some Jvm.ClassFile.FieldType.int) ∈ TT := tt_mem 1092 (by decide +kernel) rfl
theorem tw_1093 : Cond.methodLink "DripsOnBelowModel" 260 ⟨"DripsOnBelowModel", "habitsOf", "(I)I"⟩ ∈ TT := tt_mem 1093 (by decide +kernel) rfl
theorem tw_1095 : Cond.instanceMethod ⟨"DripsOnBelowModel", "habitsOf", "(I)I"⟩ ∈ TT := tt_mem 1095 (by decide +kernel) rfl
theorem tw_1096 : Cond.code ⟨"DripsOnBelowModel", "habitsOf", "(I)I"⟩ prog_9_method_44_code 4 (Option.some Jvm.ClassFile.FieldType.int) ∈ TT := tt_mem 1096 (by decide +kernel) rfl
theorem tw_1098 : Cond.instanceMethod ⟨"DripsOnBelowModel", "anger", "(II)I"⟩ ∈ TT := tt_mem 1098 (by decide +kernel) rfl
theorem tw_1099 : Cond.selects "DripsOnBelowModel" ⟨"DripsOnBelowModel", "anger", "(II)I"⟩ ⟨"DripsOnBelowModel", "anger", "(II)I"⟩ ∈ TT := tt_mem 1099 (by decide +kernel) rfl
theorem tw_1100 : Cond.code ⟨"DripsOnBelowModel", "anger", "(II)I"⟩ prog_9_method_46_code 3 (Option.some Jvm.ClassFile.FieldType.int) ∈ TT := tt_mem 1100 (by decide +kernel) rfl
theorem tw_1101 : Cond.methodLink "DripsOnBelowModel" 263 ⟨"DripsOnBelowModel", "areTenants", "(II)Z"⟩ ∈ TT := tt_mem 1101 (by decide +kernel) rfl
theorem tw_1103 : Cond.instanceMethod ⟨"DripsOnBelowModel", "areTenants", "(II)Z"⟩ ∈ TT := tt_mem 1103 (by decide +kernel) rfl
theorem tw_1104 : Cond.code ⟨"DripsOnBelowModel", "areTenants", "(II)Z"⟩ prog_9_method_10_code 3 (Option.some Jvm.ClassFile.FieldType.boolean) ∈ TT := tt_mem 1104 (by decide +kernel) rfl
theorem tw_1106 : Cond.instanceMethod ⟨"DripsOnBelowModel", "habit", "(II)I"⟩ ∈ TT := tt_mem 1106 (by decide +kernel) rfl
theorem tw_1107 : Cond.selects "DripsOnBelowModel" ⟨"DripsOnBelowModel", "habit", "(II)I"⟩ ⟨"DripsOnBelowModel", "habit", "(II)I"⟩ ∈ TT := tt_mem 1107 (by decide +kernel) rfl
theorem tw_1108 : Cond.code ⟨"DripsOnBelowModel", "habit", "(II)I"⟩ prog_9_method_47_code 3 (Option.some Jvm.ClassFile.FieldType.int) ∈ TT := tt_mem 1108 (by decide +kernel) rfl
theorem tw_1109 : Cond.methodLink "DripsOnBelowModel" 266 ⟨"DripsOnBelowModel", "isHabit", "(I)Z"⟩ ∈ TT := tt_mem 1109 (by decide +kernel) rfl
theorem tw_1111 : Cond.instanceMethod ⟨"DripsOnBelowModel", "isHabit", "(I)Z"⟩ ∈ TT := tt_mem 1111 (by decide +kernel) rfl
theorem tw_1112 : Cond.code ⟨"DripsOnBelowModel", "isHabit", "(I)Z"⟩ prog_9_method_11_code 2 (Option.some Jvm.ClassFile.FieldType.boolean) ∈ TT := tt_mem 1112 (by decide +kernel) rfl
theorem tw_1113 : Cond.constantLong "DripsOnBelowModel" 269 3 ∈ TT := tt_mem 1113 (by decide +kernel) rfl
theorem tw_1115 : Cond.instanceMethod ⟨"DripsOnBelowModel", "put", "(II)I"⟩ ∈ TT := tt_mem 1115 (by decide +kernel) rfl
theorem tw_1116 : Cond.selects "DripsOnBelowModel" ⟨"DripsOnBelowModel", "put", "(II)I"⟩ ⟨"DripsOnBelowModel", "put", "(II)I"⟩ ∈ TT := tt_mem 1116 (by decide +kernel) rfl
theorem tw_1117 : Cond.code ⟨"DripsOnBelowModel", "put", "(II)I"⟩ prog_9_method_49_code 4 (Option.some Jvm.ClassFile.FieldType.int) ∈ TT := tt_mem 1117 (by decide +kernel) rfl
theorem tw_1118 : Cond.methodLink "DripsOnBelowModel" 273 ⟨"DripsOnBelowModel", "isTime", "(I)Z"⟩ ∈ TT := tt_mem 1118 (by decide +kernel) rfl
theorem tw_1119 : Cond.static ⟨"DripsOnBelowModel", "isTime", "(I)Z"⟩ ∈ TT := tt_mem 1119 (by decide +kernel) rfl
theorem tw_1120 : Cond.code ⟨"DripsOnBelowModel", "isTime", "(I)Z"⟩ prog_9_method_48_code 1 (Option.some Jvm.ClassFile.FieldType.boolean) ∈ TT := tt_mem 1120 (by decide +kernel) rfl
theorem tw_1121 : Cond.constantLong "DripsOnBelowModel" 271 7 ∈ TT := tt_mem 1121 (by decide +kernel) rfl
theorem tw_1123 : Cond.instanceMethod ⟨"DripsOnBelowModel", "saucer", "(II)I"⟩ ∈ TT := tt_mem 1123 (by decide +kernel) rfl
theorem tw_1124 : Cond.selects "DripsOnBelowModel" ⟨"DripsOnBelowModel", "saucer", "(II)I"⟩ ⟨"DripsOnBelowModel", "saucer", "(II)I"⟩ ∈ TT := tt_mem 1124 (by decide +kernel) rfl
theorem tw_1125 : Cond.code ⟨"DripsOnBelowModel", "saucer", "(II)I"⟩ prog_9_method_51_code 6 (Option.some Jvm.ClassFile.FieldType.int) ∈ TT := tt_mem 1125 (by decide +kernel) rfl
theorem tw_1126 : Cond.methodLink "DripsOnBelowModel" 276 ⟨"DripsOnBelowModel", "wrongNumber", "(III)I"⟩ ∈ TT := tt_mem 1126 (by decide +kernel) rfl
theorem tw_1127 : Cond.static ⟨"DripsOnBelowModel", "wrongNumber", "(III)I"⟩ ∈ TT := tt_mem 1127 (by decide +kernel) rfl
theorem tw_1128 : Cond.code ⟨"DripsOnBelowModel", "wrongNumber", "(III)I"⟩ prog_9_method_50_code 3 (Option.some Jvm.ClassFile.FieldType.int) ∈ TT := tt_mem 1128 (by decide +kernel) rfl
theorem tw_1130 : Cond.instanceMethod ⟨"DripsOnBelowModel", "awning", "(II)I"⟩ ∈ TT := tt_mem 1130 (by decide +kernel) rfl
theorem tw_1131 : Cond.selects "DripsOnBelowModel" ⟨"DripsOnBelowModel", "awning", "(II)I"⟩ ⟨"DripsOnBelowModel", "awning", "(II)I"⟩ ∈ TT := tt_mem 1131 (by decide +kernel) rfl
theorem tw_1132 : Cond.code ⟨"DripsOnBelowModel", "awning", "(II)I"⟩ prog_9_method_52_code 6 (Option.some Jvm.ClassFile.FieldType.int) ∈ TT := tt_mem 1132 (by decide +kernel) rfl
theorem tw_1134 : Cond.instanceMethod ⟨"DripsOnBelowModel", "wash", "(III)I"⟩ ∈ TT := tt_mem 1134 (by decide +kernel) rfl
theorem tw_1135 : Cond.selects "DripsOnBelowModel" ⟨"DripsOnBelowModel", "wash", "(III)I"⟩ ⟨"DripsOnBelowModel", "wash", "(III)I"⟩ ∈ TT := tt_mem 1135 (by decide +kernel) rfl
theorem tw_1136 : Cond.code ⟨"DripsOnBelowModel", "wash", "(III)I"⟩ prog_9_method_53_code 7 (Option.some Jvm.ClassFile.FieldType.int) ∈ TT := tt_mem 1136 (by decide +kernel) rfl
theorem tw_1138 : Cond.instanceMethod ⟨"DripsOnBelowModel", "wind", "(I)I"⟩ ∈ TT := tt_mem 1138 (by decide +kernel) rfl
theorem tw_1139 : Cond.selects "DripsOnBelowModel" ⟨"DripsOnBelowModel", "wind", "(I)I"⟩ ⟨"DripsOnBelowModel", "wind", "(I)I"⟩ ∈ TT := tt_mem 1139 (by decide +kernel) rfl
theorem tw_1140 : Cond.code ⟨"DripsOnBelowModel", "wind", "(I)I"⟩ prog_9_method_54_code 3 (Option.some Jvm.ClassFile.FieldType.int) ∈ TT := tt_mem 1140 (by decide +kernel) rfl
theorem tw_1142 : Cond.instanceMethod ⟨"DripsOnBelowModel", "move", "(II)I"⟩ ∈ TT := tt_mem 1142 (by decide +kernel) rfl
theorem tw_1143 : Cond.selects "DripsOnBelowModel" ⟨"DripsOnBelowModel", "move", "(II)I"⟩ ⟨"DripsOnBelowModel", "move", "(II)I"⟩ ∈ TT := tt_mem 1143 (by decide +kernel) rfl
theorem tw_1144 : Cond.code ⟨"DripsOnBelowModel", "move", "(II)I"⟩ prog_9_method_56_code 3 (Option.some Jvm.ClassFile.FieldType.int) ∈ TT := tt_mem 1144 (by decide +kernel) rfl
theorem tw_1145 : Cond.methodLink "DripsOnBelowModel" 279 ⟨"DripsOnBelowModel", "change", "(II)V"⟩ ∈ TT := tt_mem 1145 (by decide +kernel) rfl
theorem tw_1147 : Cond.instanceMethod ⟨"DripsOnBelowModel", "change", "(II)V"⟩ ∈ TT := tt_mem 1147 (by decide +kernel) rfl
theorem tw_1148 : Cond.code ⟨"DripsOnBelowModel", "change", "(II)V"⟩ prog_9_method_55_code 4 (Option.none : Option Jvm.ClassFile.FieldType) ∈ TT := tt_mem 1148 (by decide +kernel) rfl
theorem tw_1150 : Cond.instanceMethod ⟨"DripsOnBelowModel", "rain", "()I"⟩ ∈ TT := tt_mem 1150 (by decide +kernel) rfl
theorem tw_1151 : Cond.selects "DripsOnBelowModel" ⟨"DripsOnBelowModel", "rain", "()I"⟩ ⟨"DripsOnBelowModel", "rain", "()I"⟩ ∈ TT := tt_mem 1151 (by decide +kernel) rfl
theorem tw_1152 : Cond.code ⟨"DripsOnBelowModel", "rain", "()I"⟩ prog_9_method_57_code 3 (Option.some Jvm.ClassFile.FieldType.int) ∈ TT := tt_mem 1152 (by decide +kernel) rfl
theorem tw_1154 : Cond.instanceMethod ⟨"DripsOnBelowModel", "week", "()I"⟩ ∈ TT := tt_mem 1154 (by decide +kernel) rfl
theorem tw_1155 : Cond.selects "DripsOnBelowModel" ⟨"DripsOnBelowModel", "week", "()I"⟩ ⟨"DripsOnBelowModel", "week", "()I"⟩ ∈ TT := tt_mem 1155 (by decide +kernel) rfl
theorem tw_1156 : Cond.code ⟨"DripsOnBelowModel", "week", "()I"⟩ prog_9_method_58_code 2 (Option.some Jvm.ClassFile.FieldType.int) ∈ TT := tt_mem 1156 (by decide +kernel) rfl
theorem tw_1157 : Cond.methodLink "DripsOnBelowModel" 160 ⟨"DripsOnBelowModel", "oneWeek", "()I"⟩ ∈ TT := tt_mem 1157 (by decide +kernel) rfl
theorem tw_1159 : Cond.instanceMethod ⟨"DripsOnBelowModel", "oneWeek", "()I"⟩ ∈ TT := tt_mem 1159 (by decide +kernel) rfl
theorem tw_1160 : Cond.code ⟨"DripsOnBelowModel", "oneWeek", "()I"⟩ prog_9_method_22_code 1 (Option.some Jvm.ClassFile.FieldType.int) ∈ TT := tt_mem 1160 (by decide +kernel) rfl
theorem tw_1161 : Cond.methodLink "DripsOnBelowModel" 154 ⟨"DripsOnBelowModel", "beginMind", "()V"⟩ ∈ TT := tt_mem 1161 (by decide +kernel) rfl
theorem tw_1163 : Cond.instanceMethod ⟨"DripsOnBelowModel", "beginMind", "()V"⟩ ∈ TT := tt_mem 1163 (by decide +kernel) rfl
theorem tw_1164 : Cond.code ⟨"DripsOnBelowModel", "beginMind", "()V"⟩ prog_9_method_16_code 2 (Option.none : Option Jvm.ClassFile.FieldType) ∈ TT := tt_mem 1164 (by decide +kernel) rfl
theorem tw_1165 : Cond.methodLink "DripsOnBelowModel" 126 ⟨"DripsOnBelowModel", "clearHarm", "()V"⟩ ∈ TT := tt_mem 1165 (by decide +kernel) rfl
theorem tw_1167 : Cond.instanceMethod ⟨"DripsOnBelowModel", "clearHarm", "()V"⟩ ∈ TT := tt_mem 1167 (by decide +kernel) rfl
theorem tw_1168 : Cond.code ⟨"DripsOnBelowModel", "clearHarm", "()V"⟩ prog_9_method_17_code 2 (Option.none : Option Jvm.ClassFile.FieldType) ∈ TT := tt_mem 1168 (by decide +kernel) rfl
theorem tw_1169 : Cond.methodLink "DripsOnBelowModel" 157 ⟨"DripsOnBelowModel", "weekOn", "()I"⟩ ∈ TT := tt_mem 1169 (by decide +kernel) rfl
theorem tw_1171 : Cond.instanceMethod ⟨"DripsOnBelowModel", "weekOn", "()I"⟩ ∈ TT := tt_mem 1171 (by decide +kernel) rfl
theorem tw_1172 : Cond.code ⟨"DripsOnBelowModel", "weekOn", "()I"⟩ prog_9_method_21_code 3 (Option.some Jvm.ClassFile.FieldType.int) ∈ TT := tt_mem 1172 (by decide +kernel) rfl
theorem tw_1173 : Cond.methodLink "DripsOnBelowModel" 147 ⟨"DripsOnBelowModel", "fall", "(I)V"⟩ ∈ TT := tt_mem 1173 (by decide +kernel) rfl
theorem tw_1175 : Cond.instanceMethod ⟨"DripsOnBelowModel", "fall", "(I)V"⟩ ∈ TT := tt_mem 1175 (by decide +kernel) rfl
theorem tw_1176 : Cond.code ⟨"DripsOnBelowModel", "fall", "(I)V"⟩ prog_9_method_19_code 8 (Option.none : Option Jvm.ClassFile.FieldType) ∈ TT := tt_mem 1176 (by decide +kernel) rfl
theorem tw_1177 : Cond.methodLink "DripsOnBelowModel" 129 ⟨"DripsOnBelowModel", "nextOf", "(II)I"⟩ ∈ TT := tt_mem 1177 (by decide +kernel) rfl
theorem tw_1179 : Cond.instanceMethod ⟨"DripsOnBelowModel", "nextOf", "(II)I"⟩ ∈ TT := tt_mem 1179 (by decide +kernel) rfl
theorem tw_1180 : Cond.code ⟨"DripsOnBelowModel", "nextOf", "(II)I"⟩ prog_9_method_13_code 7 (Option.some Jvm.ClassFile.FieldType.int) ∈ TT := tt_mem 1180 (by decide +kernel) rfl
theorem tw_1181 : Cond.methodLink "DripsOnBelowModel" 139 ⟨"DripsOnBelowModel", "harmOf", "(IIII)I"⟩ ∈ TT := tt_mem 1181 (by decide +kernel) rfl
theorem tw_1183 : Cond.instanceMethod ⟨"DripsOnBelowModel", "harmOf", "(IIII)I"⟩ ∈ TT := tt_mem 1183 (by decide +kernel) rfl
theorem tw_1184 : Cond.code ⟨"DripsOnBelowModel", "harmOf", "(IIII)I"⟩ prog_9_method_15_code 6 (Option.some Jvm.ClassFile.FieldType.int) ∈ TT := tt_mem 1184 (by decide +kernel) rfl
theorem tw_1185 : Cond.methodLink "DripsOnBelowModel" 143 ⟨"DripsOnBelowModel", "keptAt", "(III)I"⟩ ∈ TT := tt_mem 1185 (by decide +kernel) rfl
theorem tw_1187 : Cond.instanceMethod ⟨"DripsOnBelowModel", "keptAt", "(III)I"⟩ ∈ TT := tt_mem 1187 (by decide +kernel) rfl
theorem tw_1188 : Cond.code ⟨"DripsOnBelowModel", "keptAt", "(III)I"⟩ prog_9_method_18_code 5 (Option.some Jvm.ClassFile.FieldType.int) ∈ TT := tt_mem 1188 (by decide +kernel) rfl
theorem tw_1189 : Cond.methodLink "DripsOnBelowModel" 151 ⟨"DripsOnBelowModel", "sumHarm", "()I"⟩ ∈ TT := tt_mem 1189 (by decide +kernel) rfl
theorem tw_1191 : Cond.instanceMethod ⟨"DripsOnBelowModel", "sumHarm", "()I"⟩ ∈ TT := tt_mem 1191 (by decide +kernel) rfl
theorem tw_1192 : Cond.code ⟨"DripsOnBelowModel", "sumHarm", "()I"⟩ prog_9_method_20_code 3 (Option.some Jvm.ClassFile.FieldType.int) ∈ TT := tt_mem 1192 (by decide +kernel) rfl
theorem tw_1193 : Cond.methodLink "DripsOnBelowModel" 282 ⟨"DripsOnBelowModel", "keepWeek", "()V"⟩ ∈ TT := tt_mem 1193 (by decide +kernel) rfl
theorem tw_1195 : Cond.instanceMethod ⟨"DripsOnBelowModel", "keepWeek", "()V"⟩ ∈ TT := tt_mem 1195 (by decide +kernel) rfl
theorem tw_1196 : Cond.code ⟨"DripsOnBelowModel", "keepWeek", "()V"⟩ prog_9_method_24_code 4 (Option.none : Option Jvm.ClassFile.FieldType) ∈ TT := tt_mem 1196 (by decide +kernel) rfl
theorem tw_1197 : Cond.constant "DripsOnBelowModel" 163 99999 ∈ TT := tt_mem 1197 (by decide +kernel) rfl
theorem tw_1199 : Cond.instanceMethod ⟨"DripsOnBelowModel", "steps", "(II)I"⟩ ∈ TT := tt_mem 1199 (by decide +kernel) rfl
theorem tw_1200 : Cond.selects "DripsOnBelowModel" ⟨"DripsOnBelowModel", "steps", "(II)I"⟩ ⟨"DripsOnBelowModel", "steps", "(II)I"⟩ ∈ TT := tt_mem 1200 (by decide +kernel) rfl
theorem tw_1201 : Cond.code ⟨"DripsOnBelowModel", "steps", "(II)I"⟩ prog_9_method_60_code 3 (Option.some Jvm.ClassFile.FieldType.int) ∈ TT := tt_mem 1201 (by decide +kernel) rfl
theorem tw_1202 : Cond.methodLink "DripsOnBelowModel" 285 ⟨"DripsOnBelowModel", "fallAlone", "(I)V"⟩ ∈ TT := tt_mem 1202 (by decide +kernel) rfl
theorem tw_1204 : Cond.instanceMethod ⟨"DripsOnBelowModel", "fallAlone", "(I)V"⟩ ∈ TT := tt_mem 1204 (by decide +kernel) rfl
theorem tw_1205 : Cond.code ⟨"DripsOnBelowModel", "fallAlone", "(I)V"⟩ prog_9_method_59_code 2 (Option.none : Option Jvm.ClassFile.FieldType) ∈ TT := tt_mem 1205 (by decide +kernel) rfl
theorem tw_1207 : Cond.instanceMethod ⟨"DripsOnBelowModel", "down", "(I)I"⟩ ∈ TT := tt_mem 1207 (by decide +kernel) rfl
theorem tw_1208 : Cond.selects "DripsOnBelowModel" ⟨"DripsOnBelowModel", "down", "(I)I"⟩ ⟨"DripsOnBelowModel", "down", "(I)I"⟩ ∈ TT := tt_mem 1208 (by decide +kernel) rfl
theorem tw_1209 : Cond.code ⟨"DripsOnBelowModel", "down", "(I)I"⟩ prog_9_method_61_code 2 (Option.some Jvm.ClassFile.FieldType.int) ∈ TT := tt_mem 1209 (by decide +kernel) rfl
theorem tw_1211 : Cond.instanceMethod ⟨"DripsOnBelowModel", "whom", "(II)I"⟩ ∈ TT := tt_mem 1211 (by decide +kernel) rfl
theorem tw_1212 : Cond.selects "DripsOnBelowModel" ⟨"DripsOnBelowModel", "whom", "(II)I"⟩ ⟨"DripsOnBelowModel", "whom", "(II)I"⟩ ∈ TT := tt_mem 1212 (by decide +kernel) rfl
theorem tw_1213 : Cond.code ⟨"DripsOnBelowModel", "whom", "(II)I"⟩ prog_9_method_63_code 6 (Option.some Jvm.ClassFile.FieldType.int) ∈ TT := tt_mem 1213 (by decide +kernel) rfl
theorem tw_1214 : Cond.methodLink "DripsOnBelowModel" 288 ⟨"DripsOnBelowModel", "comesTo", "(II)Z"⟩ ∈ TT := tt_mem 1214 (by decide +kernel) rfl
theorem tw_1216 : Cond.instanceMethod ⟨"DripsOnBelowModel", "comesTo", "(II)Z"⟩ ∈ TT := tt_mem 1216 (by decide +kernel) rfl
theorem tw_1217 : Cond.code ⟨"DripsOnBelowModel", "comesTo", "(II)Z"⟩ prog_9_method_62_code 4 (Option.some Jvm.ClassFile.FieldType.boolean) ∈ TT := tt_mem 1217 (by decide +kernel) rfl
theorem tw_1219 : Cond.instanceMethod ⟨"DripsOnBelowModel", "does", "(II)I"⟩ ∈ TT := tt_mem 1219 (by decide +kernel) rfl
theorem tw_1220 : Cond.selects "DripsOnBelowModel" ⟨"DripsOnBelowModel", "does", "(II)I"⟩ ⟨"DripsOnBelowModel", "does", "(II)I"⟩ ∈ TT := tt_mem 1220 (by decide +kernel) rfl
theorem tw_1221 : Cond.code ⟨"DripsOnBelowModel", "does", "(II)I"⟩ prog_9_method_64_code 3 (Option.some Jvm.ClassFile.FieldType.int) ∈ TT := tt_mem 1221 (by decide +kernel) rfl
theorem tw_1223 : Cond.instanceMethod ⟨"DripsOnBelowModel", "harmed", "(II)I"⟩ ∈ TT := tt_mem 1223 (by decide +kernel) rfl
theorem tw_1224 : Cond.selects "DripsOnBelowModel" ⟨"DripsOnBelowModel", "harmed", "(II)I"⟩ ⟨"DripsOnBelowModel", "harmed", "(II)I"⟩ ∈ TT := tt_mem 1224 (by decide +kernel) rfl
theorem tw_1225 : Cond.code ⟨"DripsOnBelowModel", "harmed", "(II)I"⟩ prog_9_method_65_code 7 (Option.some Jvm.ClassFile.FieldType.int) ∈ TT := tt_mem 1225 (by decide +kernel) rfl
theorem tw_1227 : Cond.instanceMethod ⟨"DripsOnBelowModel", "least", "(II)I"⟩ ∈ TT := tt_mem 1227 (by decide +kernel) rfl
theorem tw_1228 : Cond.selects "DripsOnBelowModel" ⟨"DripsOnBelowModel", "least", "(II)I"⟩ ⟨"DripsOnBelowModel", "least", "(II)I"⟩ ∈ TT := tt_mem 1228 (by decide +kernel) rfl
theorem tw_1229 : Cond.code ⟨"DripsOnBelowModel", "least", "(II)I"⟩ prog_9_method_66_code 9 (Option.some Jvm.ClassFile.FieldType.int) ∈ TT := tt_mem 1229 (by decide +kernel) rfl
theorem tw_1231 : Cond.instanceMethod ⟨"DripsOnBelowModel", "hours", "(III)I"⟩ ∈ TT := tt_mem 1231 (by decide +kernel) rfl
theorem tw_1232 : Cond.selects "DripsOnBelowModel" ⟨"DripsOnBelowModel", "hours", "(III)I"⟩ ⟨"DripsOnBelowModel", "hours", "(III)I"⟩ ∈ TT := tt_mem 1232 (by decide +kernel) rfl
theorem tw_1233 : Cond.code ⟨"DripsOnBelowModel", "hours", "(III)I"⟩ prog_9_method_67_code 11 (Option.some Jvm.ClassFile.FieldType.int) ∈ TT := tt_mem 1233 (by decide +kernel) rfl
theorem tw_1235 : Cond.instanceMethod ⟨"DripsOnBelowModel", "quiet", "(II)I"⟩ ∈ TT := tt_mem 1235 (by decide +kernel) rfl
theorem tw_1236 : Cond.selects "DripsOnBelowModel" ⟨"DripsOnBelowModel", "quiet", "(II)I"⟩ ⟨"DripsOnBelowModel", "quiet", "(II)I"⟩ ∈ TT := tt_mem 1236 (by decide +kernel) rfl
theorem tw_1237 : Cond.code ⟨"DripsOnBelowModel", "quiet", "(II)I"⟩ prog_9_method_71_code 3 (Option.some Jvm.ClassFile.FieldType.int) ∈ TT := tt_mem 1237 (by decide +kernel) rfl
theorem tw_1238 : Cond.methodLink "DripsOnBelowModel" 297 ⟨"DripsOnBelowModel", "quietHarm", "(II)I"⟩ ∈ TT := tt_mem 1238 (by decide +kernel) rfl
theorem tw_1240 : Cond.instanceMethod ⟨"DripsOnBelowModel", "quietHarm", "(II)I"⟩ ∈ TT := tt_mem 1240 (by decide +kernel) rfl
theorem tw_1241 : Cond.code ⟨"DripsOnBelowModel", "quietHarm", "(II)I"⟩ prog_9_method_70_code 5 (Option.some Jvm.ClassFile.FieldType.int) ∈ TT := tt_mem 1241 (by decide +kernel) rfl
theorem tw_1242 : Cond.methodLink "DripsOnBelowModel" 291 ⟨"DripsOnBelowModel", "keepTimes", "()V"⟩ ∈ TT := tt_mem 1242 (by decide +kernel) rfl
theorem tw_1244 : Cond.instanceMethod ⟨"DripsOnBelowModel", "keepTimes", "()V"⟩ ∈ TT := tt_mem 1244 (by decide +kernel) rfl
theorem tw_1245 : Cond.code ⟨"DripsOnBelowModel", "keepTimes", "()V"⟩ prog_9_method_68_code 2 (Option.none : Option Jvm.ClassFile.FieldType) ∈ TT := tt_mem 1245 (by decide +kernel) rfl
theorem tw_1246 : Cond.methodLink "DripsOnBelowModel" 294 ⟨"DripsOnBelowModel", "timesBack", "()V"⟩ ∈ TT := tt_mem 1246 (by decide +kernel) rfl
theorem tw_1248 : Cond.instanceMethod ⟨"DripsOnBelowModel", "timesBack", "()V"⟩ ∈ TT := tt_mem 1248 (by decide +kernel) rfl
theorem tw_1249 : Cond.code ⟨"DripsOnBelowModel", "timesBack", "()V"⟩ prog_9_method_69_code 2 (Option.none : Option Jvm.ClassFile.FieldType) ∈ TT := tt_mem 1249 (by decide +kernel) rfl
theorem tw_1251 : Cond.instanceMethod ⟨"DripsOnBelowModel", "rule", "()I"⟩ ∈ TT := tt_mem 1251 (by decide +kernel) rfl
theorem tw_1252 : Cond.selects "DripsOnBelowModel" ⟨"DripsOnBelowModel", "rule", "()I"⟩ ⟨"DripsOnBelowModel", "rule", "()I"⟩ ∈ TT := tt_mem 1252 (by decide +kernel) rfl
theorem tw_1253 : Cond.code ⟨"DripsOnBelowModel", "rule", "()I"⟩ prog_9_method_72_code 6 (Option.some Jvm.ClassFile.FieldType.int) ∈ TT := tt_mem 1253 (by decide +kernel) rfl
theorem tw_1255 : Cond.instanceMethod ⟨"DripsOnBelowModel", "hang", "(I)I"⟩ ∈ TT := tt_mem 1255 (by decide +kernel) rfl
theorem tw_1256 : Cond.selects "DripsOnBelowModel" ⟨"DripsOnBelowModel", "hang", "(I)I"⟩ ⟨"DripsOnBelowModel", "hang", "(I)I"⟩ ∈ TT := tt_mem 1256 (by decide +kernel) rfl
theorem tw_1257 : Cond.code ⟨"DripsOnBelowModel", "hang", "(I)I"⟩ prog_9_method_73_code 10 (Option.some Jvm.ClassFile.FieldType.int) ∈ TT := tt_mem 1257 (by decide +kernel) rfl
theorem tw_1258 : Cond.methodLink "DripsOnBelowModel" 300 ⟨"DripsOnBelowModel", "oneWeekOf", "(I)I"⟩ ∈ TT := tt_mem 1258 (by decide +kernel) rfl
theorem tw_1260 : Cond.instanceMethod ⟨"DripsOnBelowModel", "oneWeekOf", "(I)I"⟩ ∈ TT := tt_mem 1260 (by decide +kernel) rfl
theorem tw_1261 : Cond.code ⟨"DripsOnBelowModel", "oneWeekOf", "(I)I"⟩ prog_9_method_23_code 2 (Option.some Jvm.ClassFile.FieldType.int) ∈ TT := tt_mem 1261 (by decide +kernel) rfl
theorem tw_1263 : Cond.instanceMethod ⟨"DripsOnBelowModel", "big", "(I)I"⟩ ∈ TT := tt_mem 1263 (by decide +kernel) rfl
theorem tw_1264 : Cond.selects "DripsOnBelowModel" ⟨"DripsOnBelowModel", "big", "(I)I"⟩ ⟨"DripsOnBelowModel", "big", "(I)I"⟩ ∈ TT := tt_mem 1264 (by decide +kernel) rfl
theorem tw_1265 : Cond.code ⟨"DripsOnBelowModel", "big", "(I)I"⟩ prog_9_method_74_code 10 (Option.some Jvm.ClassFile.FieldType.int) ∈ TT := tt_mem 1265 (by decide +kernel) rfl
theorem tw_1267 : Cond.instanceMethod ⟨"DripsOnBelowModel", "leads", "(I)I"⟩ ∈ TT := tt_mem 1267 (by decide +kernel) rfl
theorem tw_1268 : Cond.selects "DripsOnBelowModel" ⟨"DripsOnBelowModel", "leads", "(I)I"⟩ ⟨"DripsOnBelowModel", "leads", "(I)I"⟩ ∈ TT := tt_mem 1268 (by decide +kernel) rfl
theorem tw_1269 : Cond.code ⟨"DripsOnBelowModel", "leads", "(I)I"⟩ prog_9_method_75_code 9 (Option.some Jvm.ClassFile.FieldType.int) ∈ TT := tt_mem 1269 (by decide +kernel) rfl
theorem tw_1271 : Cond.instanceMethod ⟨"DripsOnBelowModel", "whose", "(II)I"⟩ ∈ TT := tt_mem 1271 (by decide +kernel) rfl
theorem tw_1272 : Cond.selects "DripsOnBelowModel" ⟨"DripsOnBelowModel", "whose", "(II)I"⟩ ⟨"DripsOnBelowModel", "whose", "(II)I"⟩ ∈ TT := tt_mem 1272 (by decide +kernel) rfl
theorem tw_1273 : Cond.code ⟨"DripsOnBelowModel", "whose", "(II)I"⟩ prog_9_method_77_code 8 (Option.some Jvm.ClassFile.FieldType.int) ∈ TT := tt_mem 1273 (by decide +kernel) rfl
theorem tw_1274 : Cond.methodLink "DripsOnBelowModel" 303 ⟨"DripsOnBelowModel", "keepHarm", "()V"⟩ ∈ TT := tt_mem 1274 (by decide +kernel) rfl
theorem tw_1276 : Cond.instanceMethod ⟨"DripsOnBelowModel", "keepHarm", "()V"⟩ ∈ TT := tt_mem 1276 (by decide +kernel) rfl
theorem tw_1277 : Cond.code ⟨"DripsOnBelowModel", "keepHarm", "()V"⟩ prog_9_method_76_code 2 (Option.none : Option Jvm.ClassFile.FieldType) ∈ TT := tt_mem 1277 (by decide +kernel) rfl
theorem tw_1279 : Cond.instanceMethod ⟨"DripsOnBelowModel", "deal", "(II)I"⟩ ∈ TT := tt_mem 1279 (by decide +kernel) rfl
theorem tw_1280 : Cond.selects "DripsOnBelowModel" ⟨"DripsOnBelowModel", "deal", "(II)I"⟩ ⟨"DripsOnBelowModel", "deal", "(II)I"⟩ ∈ TT := tt_mem 1280 (by decide +kernel) rfl
theorem tw_1281 : Cond.code ⟨"DripsOnBelowModel", "deal", "(II)I"⟩ prog_9_method_79_code 5 (Option.some Jvm.ClassFile.FieldType.int) ∈ TT := tt_mem 1281 (by decide +kernel) rfl
theorem tw_1282 : Cond.constant "DripsOnBelowModel" 306 1000000000 ∈ TT := tt_mem 1282 (by decide +kernel) rfl
theorem tw_1283 : Cond.methodLink "DripsOnBelowModel" 307 ⟨"DripsOnBelowModel", "weekBoth", "(II)V"⟩ ∈ TT := tt_mem 1283 (by decide +kernel) rfl
theorem tw_1285 : Cond.instanceMethod ⟨"DripsOnBelowModel", "weekBoth", "(II)V"⟩ ∈ TT := tt_mem 1285 (by decide +kernel) rfl
theorem tw_1286 : Cond.code ⟨"DripsOnBelowModel", "weekBoth", "(II)V"⟩ prog_9_method_78_code 4 (Option.none : Option Jvm.ClassFile.FieldType) ∈ TT := tt_mem 1286 (by decide +kernel) rfl
theorem tw_1288 : Cond.instanceMethod ⟨"DripsOnBelowModel", "pays", "(III)I"⟩ ∈ TT := tt_mem 1288 (by decide +kernel) rfl
theorem tw_1289 : Cond.selects "DripsOnBelowModel" ⟨"DripsOnBelowModel", "pays", "(III)I"⟩ ⟨"DripsOnBelowModel", "pays", "(III)I"⟩ ∈ TT := tt_mem 1289 (by decide +kernel) rfl
theorem tw_1290 : Cond.code ⟨"DripsOnBelowModel", "pays", "(III)I"⟩ prog_9_method_80_code 8 (Option.some Jvm.ClassFile.FieldType.int) ∈ TT := tt_mem 1290 (by decide +kernel) rfl
theorem tw_1292 : Cond.instanceMethod ⟨"DripsOnBelowModel", "climbs", "()I"⟩ ∈ TT := tt_mem 1292 (by decide +kernel) rfl
theorem tw_1293 : Cond.selects "DripsOnBelowModel" ⟨"DripsOnBelowModel", "climbs", "()I"⟩ ⟨"DripsOnBelowModel", "climbs", "()I"⟩ ∈ TT := tt_mem 1293 (by decide +kernel) rfl
theorem tw_1294 : Cond.code ⟨"DripsOnBelowModel", "climbs", "()I"⟩ prog_9_method_83_code 5 (Option.some Jvm.ClassFile.FieldType.int) ∈ TT := tt_mem 1294 (by decide +kernel) rfl
theorem tw_1295 : Cond.methodLink "DripsOnBelowModel" 313 ⟨"DripsOnBelowModel", "revenge", "()V"⟩ ∈ TT := tt_mem 1295 (by decide +kernel) rfl
theorem tw_1297 : Cond.instanceMethod ⟨"DripsOnBelowModel", "revenge", "()V"⟩ ∈ TT := tt_mem 1297 (by decide +kernel) rfl
theorem tw_1298 : Cond.code ⟨"DripsOnBelowModel", "revenge", "()V"⟩ prog_9_method_82_code 2 (Option.none : Option Jvm.ClassFile.FieldType) ∈ TT := tt_mem 1298 (by decide +kernel) rfl
theorem tw_1299 : Cond.methodLink "DripsOnBelowModel" 310 ⟨"DripsOnBelowModel", "isAngry", "(I)Z"⟩ ∈ TT := tt_mem 1299 (by decide +kernel) rfl
theorem tw_1301 : Cond.instanceMethod ⟨"DripsOnBelowModel", "isAngry", "(I)Z"⟩ ∈ TT := tt_mem 1301 (by decide +kernel) rfl
theorem tw_1302 : Cond.code ⟨"DripsOnBelowModel", "isAngry", "(I)Z"⟩ prog_9_method_81_code 4 (Option.some Jvm.ClassFile.FieldType.boolean) ∈ TT := tt_mem 1302 (by decide +kernel) rfl
theorem tw_1304 : Cond.instanceMethod ⟨"DripsOnBelowModel", "worth", "(I)I"⟩ ∈ TT := tt_mem 1304 (by decide +kernel) rfl
theorem tw_1305 : Cond.selects "DripsOnBelowModel" ⟨"DripsOnBelowModel", "worth", "(I)I"⟩ ⟨"DripsOnBelowModel", "worth", "(I)I"⟩ ∈ TT := tt_mem 1305 (by decide +kernel) rfl
theorem tw_1306 : Cond.code ⟨"DripsOnBelowModel", "worth", "(I)I"⟩ prog_9_method_84_code 4 (Option.some Jvm.ClassFile.FieldType.int) ∈ TT := tt_mem 1306 (by decide +kernel) rfl
theorem tw_1308 : Cond.instanceMethod ⟨"DripsOnBelowModel", "swaps", "(I)I"⟩ ∈ TT := tt_mem 1308 (by decide +kernel) rfl
theorem tw_1309 : Cond.selects "DripsOnBelowModel" ⟨"DripsOnBelowModel", "swaps", "(I)I"⟩ ⟨"DripsOnBelowModel", "swaps", "(I)I"⟩ ∈ TT := tt_mem 1309 (by decide +kernel) rfl
theorem tw_1310 : Cond.code ⟨"DripsOnBelowModel", "swaps", "(I)I"⟩ prog_9_method_89_code 2 (Option.some Jvm.ClassFile.FieldType.int) ∈ TT := tt_mem 1310 (by decide +kernel) rfl
theorem tw_1311 : Cond.methodLink "DripsOnBelowModel" 323 ⟨"DripsOnBelowModel", "pairsOf", "(I)I"⟩ ∈ TT := tt_mem 1311 (by decide +kernel) rfl
theorem tw_1313 : Cond.instanceMethod ⟨"DripsOnBelowModel", "pairsOf", "(I)I"⟩ ∈ TT := tt_mem 1313 (by decide +kernel) rfl
theorem tw_1314 : Cond.code ⟨"DripsOnBelowModel", "pairsOf", "(I)I"⟩ prog_9_method_86_code 7 (Option.some Jvm.ClassFile.FieldType.int) ∈ TT := tt_mem 1314 (by decide +kernel) rfl
theorem tw_1315 : Cond.methodLink "DripsOnBelowModel" 316 ⟨"DripsOnBelowModel", "haveLess", "(II)Z"⟩ ∈ TT := tt_mem 1315 (by decide +kernel) rfl
theorem tw_1317 : Cond.instanceMethod ⟨"DripsOnBelowModel", "haveLess", "(II)Z"⟩ ∈ TT := tt_mem 1317 (by decide +kernel) rfl
theorem tw_1318 : Cond.code ⟨"DripsOnBelowModel", "haveLess", "(II)Z"⟩ prog_9_method_85_code 3 (Option.some Jvm.ClassFile.FieldType.boolean) ∈ TT := tt_mem 1318 (by decide +kernel) rfl
theorem tw_1319 : Cond.methodLink "DripsOnBelowModel" 326 ⟨"DripsOnBelowModel", "ringsOf", "()I"⟩ ∈ TT := tt_mem 1319 (by decide +kernel) rfl
theorem tw_1321 : Cond.instanceMethod ⟨"DripsOnBelowModel", "ringsOf", "()I"⟩ ∈ TT := tt_mem 1321 (by decide +kernel) rfl
theorem tw_1322 : Cond.code ⟨"DripsOnBelowModel", "ringsOf", "()I"⟩ prog_9_method_88_code 5 (Option.some Jvm.ClassFile.FieldType.int) ∈ TT := tt_mem 1322 (by decide +kernel) rfl
theorem tw_1323 : Cond.methodLink "DripsOnBelowModel" 319 ⟨"DripsOnBelowModel", "isRing", "(III)Z"⟩ ∈ TT := tt_mem 1323 (by decide +kernel) rfl
theorem tw_1325 : Cond.instanceMethod ⟨"DripsOnBelowModel", "isRing", "(III)Z"⟩ ∈ TT := tt_mem 1325 (by decide +kernel) rfl
theorem tw_1326 : Cond.code ⟨"DripsOnBelowModel", "isRing", "(III)Z"⟩ prog_9_method_87_code 6 (Option.some Jvm.ClassFile.FieldType.boolean) ∈ TT := tt_mem 1326 (by decide +kernel) rfl
theorem tw_1328 : Cond.instanceMethod ⟨"DripsOnBelowModel", "peg", "(III)J"⟩ ∈ TT := tt_mem 1328 (by decide +kernel) rfl
theorem tw_1329 : Cond.selects "DripsOnBelowModel" ⟨"DripsOnBelowModel", "peg", "(III)J"⟩ ⟨"DripsOnBelowModel", "peg", "(III)J"⟩ ∈ TT := tt_mem 1329 (by decide +kernel) rfl
theorem tw_1330 : Cond.code ⟨"DripsOnBelowModel", "peg", "(III)J"⟩ prog_9_method_91_code 9 (Option.some Jvm.ClassFile.FieldType.long) ∈ TT := tt_mem 1330 (by decide +kernel) rfl
theorem tw_1331 : Cond.constantLong "DripsOnBelowModel" 329 4000000000000000000 ∈ TT := tt_mem 1331 (by decide +kernel) rfl
theorem tw_1332 : Cond.methodLink "DripsOnBelowModel" 331 ⟨"DripsOnBelowModel", "divisor", "(II)I"⟩ ∈ TT := tt_mem 1332 (by decide +kernel) rfl
theorem tw_1333 : Cond.static ⟨"DripsOnBelowModel", "divisor", "(II)I"⟩ ∈ TT := tt_mem 1333 (by decide +kernel) rfl
theorem tw_1334 : Cond.code ⟨"DripsOnBelowModel", "divisor", "(II)I"⟩ prog_9_method_90_code 5 (Option.some Jvm.ClassFile.FieldType.int) ∈ TT := tt_mem 1334 (by decide +kernel) rfl
theorem tw_1336 : Cond.instanceMethod ⟨"DripsOnBelowModel", "row", "(I)I"⟩ ∈ TT := tt_mem 1336 (by decide +kernel) rfl
theorem tw_1337 : Cond.selects "DripsOnBelowModel" ⟨"DripsOnBelowModel", "row", "(I)I"⟩ ⟨"DripsOnBelowModel", "row", "(I)I"⟩ ∈ TT := tt_mem 1337 (by decide +kernel) rfl
theorem tw_1338 : Cond.code ⟨"DripsOnBelowModel", "row", "(I)I"⟩ prog_9_method_92_code 2 (Option.some Jvm.ClassFile.FieldType.int) ∈ TT := tt_mem 1338 (by decide +kernel) rfl
theorem tw_1340 : Cond.instanceMethod ⟨"DripsOnBelowModel", "judge", "()I"⟩ ∈ TT := tt_mem 1340 (by decide +kernel) rfl
theorem tw_1341 : Cond.selects "DripsOnBelowModel" ⟨"DripsOnBelowModel", "judge", "()I"⟩ ⟨"DripsOnBelowModel", "judge", "()I"⟩ ∈ TT := tt_mem 1341 (by decide +kernel) rfl
theorem tw_1342 : Cond.code ⟨"DripsOnBelowModel", "judge", "()I"⟩ prog_9_method_93_code 3 (Option.some Jvm.ClassFile.FieldType.int) ∈ TT := tt_mem 1342 (by decide +kernel) rfl
theorem tw_1344 : Cond.instanceMethod ⟨"DripsOnBelowModel", "seeds", "(II)I"⟩ ∈ TT := tt_mem 1344 (by decide +kernel) rfl
theorem tw_1345 : Cond.selects "DripsOnBelowModel" ⟨"DripsOnBelowModel", "seeds", "(II)I"⟩ ⟨"DripsOnBelowModel", "seeds", "(II)I"⟩ ∈ TT := tt_mem 1345 (by decide +kernel) rfl
theorem tw_1346 : Cond.code ⟨"DripsOnBelowModel", "seeds", "(II)I"⟩ prog_9_method_94_code 7 (Option.some Jvm.ClassFile.FieldType.int) ∈ TT := tt_mem 1346 (by decide +kernel) rfl
theorem tw_1347 : Cond.constant "DripsOnBelowModel" 337 1103515245 ∈ TT := tt_mem 1347 (by decide +kernel) rfl
theorem tw_1348 : Cond.constant "DripsOnBelowModel" 338 2147483647 ∈ TT := tt_mem 1348 (by decide +kernel) rfl
theorem tw_1349 : Cond.constant "DripsOnBelowModel" 339 65536 ∈ TT := tt_mem 1349 (by decide +kernel) rfl
theorem tw_1351 : Cond.instanceMethod ⟨"DripsOnBelowModel", "count", "(I)I"⟩ ∈ TT := tt_mem 1351 (by decide +kernel) rfl
theorem tw_1352 : Cond.selects "DripsOnBelowModel" ⟨"DripsOnBelowModel", "count", "(I)I"⟩ ⟨"DripsOnBelowModel", "count", "(I)I"⟩ ∈ TT := tt_mem 1352 (by decide +kernel) rfl
theorem tw_1353 : Cond.code ⟨"DripsOnBelowModel", "count", "(I)I"⟩ prog_9_method_96_code 2 (Option.some Jvm.ClassFile.FieldType.int) ∈ TT := tt_mem 1353 (by decide +kernel) rfl
theorem tw_1354 : Cond.methodLink "DripsOnBelowModel" 340 ⟨"DripsOnBelowModel", "sumOf", "([II)I"⟩ ∈ TT := tt_mem 1354 (by decide +kernel) rfl
theorem tw_1355 : Cond.static ⟨"DripsOnBelowModel", "sumOf", "([II)I"⟩ ∈ TT := tt_mem 1355 (by decide +kernel) rfl
theorem tw_1356 : Cond.code ⟨"DripsOnBelowModel", "sumOf", "([II)I"⟩ prog_9_method_95_code 4 (Option.some Jvm.ClassFile.FieldType.int) ∈ TT := tt_mem 1356 (by decide +kernel) rfl
theorem tw_1357 : Cond.constantLong "DripsOnBelowModel" 344 11 ∈ TT := tt_mem 1357 (by decide +kernel) rfl
theorem tw_1358 : Cond.constantLong "DripsOnBelowModel" 346 16 ∈ TT := tt_mem 1358 (by decide +kernel) rfl
abbrev mJ0_length_8abf5 : MI := (cJ0_length_8abf5, 1, RJ0, (Option.some Jvm.ClassFile.FieldType.int), 1, 20)
abbrev mJ0_isEmpty_aae02 : MI := (cJ0_isEmpty_aae02, 1, RJ0, (Option.some Jvm.ClassFile.FieldType.boolean), 0, 0)
abbrev mJ0_charAt_5068e : MI := (cJ0_charAt_5068e, 2, RJ0, (Option.some Jvm.ClassFile.FieldType.char), 3, 64)
abbrev mJ7_fill_53178 : MI := (cJ7_fill_53178, 4, RJ7, (Option.none : Option Jvm.ClassFile.FieldType), 0, 0)
abbrev mX6_set : MI := (cX6_set, 3, RX6, (Option.none : Option Jvm.ClassFile.FieldType), 0, 0)
abbrev mX0_settle : MI := (cX0_settle, 3, RX0, (Option.none : Option Jvm.ClassFile.FieldType), 1, 22)
abbrev mX0_build : MI := (cX0_build, 5, RX0, (Option.none : Option Jvm.ClassFile.FieldType), 2, 44)
abbrev mX6_copy : MI := (cX6_copy, 2, RX6, (Option.none : Option Jvm.ClassFile.FieldType), 1, 26)
abbrev mX0_copyFrom : MI := (cX0_copyFrom, 2, RX0, (Option.none : Option Jvm.ClassFile.FieldType), 2, 47)
abbrev mX0_tenants : MI := (cX0_tenants, 1, RX0, (Option.some Jvm.ClassFile.FieldType.int), 0, 0)
abbrev mX0_place : MI := (cX0_place, 4, RX0, (Option.some Jvm.ClassFile.FieldType.int), 0, 0)
abbrev mX0_placeOf : MI := (cX0_placeOf, 2, RX0, (Option.some Jvm.ClassFile.FieldType.int), 1, 23)
abbrev mX0_flatAt : MI := (cX0_flatAt, 1, RX0, (Option.some Jvm.ClassFile.FieldType.int), 0, 0)
abbrev mX6_get : MI := (cX6_get, 2, RX6, (Option.some Jvm.ClassFile.FieldType.int), 0, 0)
abbrev mX0_change : MI := (cX0_change, 4, RX0, (Option.none : Option Jvm.ClassFile.FieldType), 2, 44)
abbrev mX0_ring : MI := (cX0_ring, 5, RX0, (Option.none : Option Jvm.ClassFile.FieldType), 2, 44)
abbrev mX0_setSaucer : MI := (cX0_setSaucer, 3, RX0, (Option.none : Option Jvm.ClassFile.FieldType), 1, 22)
abbrev mX0_setWashing : MI := (cX0_setWashing, 4, RX0, (Option.none : Option Jvm.ClassFile.FieldType), 1, 22)
abbrev mX0_dry : MI := (cX0_dry, 2, RX0, (Option.none : Option Jvm.ClassFile.FieldType), 1, 21)
abbrev mX1_add : MI := (cX1_add, 5, RX1, (Option.none : Option Jvm.ClassFile.FieldType), 1, 22)
abbrev mX1_copyFrom : MI := (cX1_copyFrom, 2, RX1, (Option.none : Option Jvm.ClassFile.FieldType), 2, 47)
abbrev mX1_countOf : MI := (cX1_countOf, 4, RX1, (Option.some Jvm.ClassFile.FieldType.int), 1, 21)
abbrev mX6_within : MI := (cX6_within, 3, RX6, (Option.some Jvm.ClassFile.FieldType.boolean), 0, 0)
abbrev mX1_putOff : MI := (cX1_putOff, 4, RX1, (Option.none : Option Jvm.ClassFile.FieldType), 1, 22)
abbrev mX1_raise : MI := (cX1_raise, 3, RX1, (Option.none : Option Jvm.ClassFile.FieldType), 1, 22)
abbrev mX3_copyFrom : MI := (cX3_copyFrom, 2, RX3, (Option.none : Option Jvm.ClassFile.FieldType), 2, 47)
abbrev mX2_copyFrom : MI := (cX2_copyFrom, 2, RX2, (Option.none : Option Jvm.ClassFile.FieldType), 3, 68)
abbrev mX3_beginWeek : MI := (cX3_beginWeek, 1, RX3, (Option.none : Option Jvm.ClassFile.FieldType), 1, 23)
abbrev mX3_clear : MI := (cX3_clear, 1, RX3, (Option.none : Option Jvm.ClassFile.FieldType), 2, 43)
abbrev mX2_build : MI := (cX2_build, 3, RX2, (Option.none : Option Jvm.ClassFile.FieldType), 3, 68)
abbrev mX5_room : MI := (cX5_room, 4, RX5, (Option.some Jvm.ClassFile.FieldType.int), 1, 21)
abbrev mX5_hold : MI := (cX5_hold, 9, RX5, (Option.none : Option Jvm.ClassFile.FieldType), 2, 44)
abbrev mX5_next : MI := (cX5_next, 7, RX5, (Option.some Jvm.ClassFile.FieldType.int), 1, 23)
abbrev mX5_trace : MI := (cX5_trace, 7, RX5, (Option.none : Option Jvm.ClassFile.FieldType), 2, 49)
abbrev mX2_follow : MI := (cX2_follow, 2, RX2, (Option.some (Jvm.ClassFile.FieldType.object "DripsOnBelow$Way")), 3, 75)
abbrev mX2_trace : MI := (cX2_trace, 2, RX2, (Option.some (Jvm.ClassFile.FieldType.object "DripsOnBelow$Way")), 3, 75)
abbrev mX2_harmAt : MI := (cX2_harmAt, 7, RX2, (Option.some Jvm.ClassFile.FieldType.int), 1, 21)
abbrev mX3_pair : MI := (cX3_pair, 2, RX3, (Option.some Jvm.ClassFile.FieldType.int), 0, 0)
abbrev mX3_note : MI := (cX3_note, 5, RX3, (Option.none : Option Jvm.ClassFile.FieldType), 1, 22)
abbrev mX2_fall : MI := (cX2_fall, 5, RX2, (Option.none : Option Jvm.ClassFile.FieldType), 3, 75)
abbrev mX2_spendWeek : MI := (cX2_spendWeek, 3, RX2, (Option.some Jvm.ClassFile.FieldType.int), 4, 99)
abbrev mX3_isAngry : MI := (cX3_isAngry, 4, RX3, (Option.some Jvm.ClassFile.FieldType.boolean), 1, 21)
abbrev mX2_takeRevenge : MI := (cX2_takeRevenge, 2, RX2, (Option.none : Option Jvm.ClassFile.FieldType), 2, 44)
abbrev mX4_add : MI := (cX4_add, 2, RX4, (Option.some Jvm.ClassFile.FieldType.int), 1, 22)
abbrev mX4_letter : MI := (cX4_letter, 2, RX4, (Option.some Jvm.ClassFile.FieldType.int), 1, 21)
abbrev mX4_digit : MI := (cX4_digit, 3, RX4, (Option.some Jvm.ClassFile.FieldType.int), 2, 42)
abbrev mX4_sign : MI := (cX4_sign, 2, RX4, (Option.some Jvm.ClassFile.FieldType.int), 2, 42)
abbrev mX4_carryOutFront : MI := (cX4_carryOutFront, 6, RX4, (Option.some Jvm.ClassFile.FieldType.boolean), 4, 90)
abbrev mX6_isHour : MI := (cX6_isHour, 1, RX6, (Option.some Jvm.ClassFile.FieldType.boolean), 1, 22)
abbrev mX4_carryOutHabit : MI := (cX4_carryOutHabit, 9, RX4, (Option.some Jvm.ClassFile.FieldType.boolean), 3, 64)
abbrev mX4_hoursFrom : MI := (cX4_hoursFrom, 3, RX4, (Option.some Jvm.ClassFile.FieldType.int), 3, 64)
abbrev mX4_hourBits : MI := (cX4_hourBits, 5, RX4, (Option.some Jvm.ClassFile.FieldType.int), 4, 86)
abbrev mX4_carryOut : MI := (cX4_carryOut, 5, RX4, (Option.some Jvm.ClassFile.FieldType.boolean), 5, 115)
abbrev mX4_tell : MI := (cX4_tell, 4, RX4, (Option.some Jvm.ClassFile.FieldType.int), 6, 139)
abbrev mX4_formOf : MI := (cX4_formOf, 1, RX4, (Option.some (Jvm.ClassFile.FieldType.object "java/lang/String")), 0, 0)
abbrev mX4_lengthOf : MI := (cX4_lengthOf, 3, RX4, (Option.some Jvm.ClassFile.FieldType.int), 4, 86)
abbrev mX4_statementEnd : MI := (cX4_statementEnd, 6, RX4, (Option.some Jvm.ClassFile.FieldType.int), 5, 108)
abbrev mX4_formFault : MI := (cX4_formFault, 4, RX4, (Option.some Jvm.ClassFile.FieldType.int), 6, 133)
abbrev mX5_comesTo : MI := (cX5_comesTo, 3, RX5, (Option.some Jvm.ClassFile.FieldType.boolean), 1, 21)
abbrev mX6_sum : MI := (cX6_sum, 3, RX6, (Option.some Jvm.ClassFile.FieldType.int), 0, 0)
abbrev mX6_refuse : MI := (cX6_refuse, 2, RX6, (Option.some Jvm.ClassFile.FieldType.int), 1, 22)
abbrev mX6_isTenant : MI := (cX6_isTenant, 2, RX6, (Option.some Jvm.ClassFile.FieldType.boolean), 1, 22)
abbrev mX6_isHabit : MI := (cX6_isHabit, 2, RX6, (Option.some Jvm.ClassFile.FieldType.boolean), 1, 22)
abbrev mX6_tryAnew : MI := (cX6_tryAnew, 1, RX6, (Option.none : Option Jvm.ClassFile.FieldType), 3, 68)
abbrev mX6_tryAsIs : MI := (cX6_tryAsIs, 2, RX6, (Option.some Jvm.ClassFile.FieldType.int), 5, 121)
abbrev mX6_tryHour : MI := (cX6_tryHour, 3, RX6, (Option.some Jvm.ClassFile.FieldType.int), 5, 121)
abbrev mX6_tryQuiet : MI := (cX6_tryQuiet, 3, RX6, (Option.some Jvm.ClassFile.FieldType.int), 5, 121)
abbrev mX6_tryAwning : MI := (cX6_tryAwning, 3, RX6, (Option.some Jvm.ClassFile.FieldType.int), 5, 121)
abbrev mX6_doneTo : MI := (cX6_doneTo, 2, RX6, (Option.some Jvm.ClassFile.FieldType.int), 1, 21)
abbrev mX6_gain : MI := (cX6_gain, 2, RX6, (Option.some Jvm.ClassFile.FieldType.int), 2, 42)
abbrev mX6_feed : MI := (cX6_feed, 2, RX6, (Option.some Jvm.ClassFile.FieldType.int), 2, 43)
abbrev mX6_front : MI := (cX6_front, 3, RX6, (Option.some Jvm.ClassFile.FieldType.int), 7, 162)
abbrev mX6_flat : MI := (cX6_flat, 4, RX6, (Option.some Jvm.ClassFile.FieldType.int), 2, 44)
abbrev mX6_tenant : MI := (cX6_tenant, 3, RX6, (Option.some Jvm.ClassFile.FieldType.int), 2, 44)
abbrev mX6_anger : MI := (cX6_anger, 3, RX6, (Option.some Jvm.ClassFile.FieldType.int), 2, 43)
abbrev mX6_habit : MI := (cX6_habit, 3, RX6, (Option.some Jvm.ClassFile.FieldType.int), 2, 43)
abbrev mX6_count : MI := (cX6_count, 2, RX6, (Option.some Jvm.ClassFile.FieldType.int), 1, 22)
abbrev mX6_put : MI := (cX6_put, 4, RX6, (Option.some Jvm.ClassFile.FieldType.int), 2, 43)
abbrev mX6_saucer : MI := (cX6_saucer, 5, RX6, (Option.some Jvm.ClassFile.FieldType.int), 2, 44)
abbrev mX6_awning : MI := (cX6_awning, 5, RX6, (Option.some Jvm.ClassFile.FieldType.int), 2, 44)
abbrev mX6_wash : MI := (cX6_wash, 6, RX6, (Option.some Jvm.ClassFile.FieldType.int), 2, 45)
abbrev mX6_wind : MI := (cX6_wind, 3, RX6, (Option.some Jvm.ClassFile.FieldType.int), 2, 43)
abbrev mX6_move : MI := (cX6_move, 3, RX6, (Option.some Jvm.ClassFile.FieldType.int), 3, 67)
abbrev mX6_rain : MI := (cX6_rain, 2, RX6, (Option.some Jvm.ClassFile.FieldType.int), 1, 23)
abbrev mX6_week : MI := (cX6_week, 1, RX6, (Option.some Jvm.ClassFile.FieldType.int), 5, 121)
abbrev mX6_steps : MI := (cX6_steps, 4, RX6, (Option.some Jvm.ClassFile.FieldType.int), 4, 96)
abbrev mX6_down : MI := (cX6_down, 3, RX6, (Option.some Jvm.ClassFile.FieldType.int), 4, 96)
abbrev mX6_whom : MI := (cX6_whom, 6, RX6, (Option.some Jvm.ClassFile.FieldType.int), 4, 96)
abbrev mX6_does : MI := (cX6_does, 6, RX6, (Option.some Jvm.ClassFile.FieldType.int), 4, 96)
abbrev mX6_harmed : MI := (cX6_harmed, 6, RX6, (Option.some Jvm.ClassFile.FieldType.int), 5, 121)
abbrev mX6_least : MI := (cX6_least, 7, RX6, (Option.some Jvm.ClassFile.FieldType.int), 6, 143)
abbrev mX6_hours : MI := (cX6_hours, 9, RX6, (Option.some Jvm.ClassFile.FieldType.int), 5, 121)
abbrev mX6_quiet : MI := (cX6_quiet, 3, RX6, (Option.some Jvm.ClassFile.FieldType.int), 6, 143)
abbrev mX6_rule : MI := (cX6_rule, 6, RX6, (Option.some Jvm.ClassFile.FieldType.int), 6, 143)
abbrev mX6_hang : MI := (cX6_hang, 7, RX6, (Option.some Jvm.ClassFile.FieldType.int), 5, 121)
abbrev mX6_big : MI := (cX6_big, 7, RX6, (Option.some Jvm.ClassFile.FieldType.int), 5, 121)
abbrev mX6_leads : MI := (cX6_leads, 7, RX6, (Option.some Jvm.ClassFile.FieldType.int), 6, 143)
abbrev mX6_whose : MI := (cX6_whose, 6, RX6, (Option.some Jvm.ClassFile.FieldType.int), 6, 143)
abbrev mX6_deal : MI := (cX6_deal, 5, RX6, (Option.some Jvm.ClassFile.FieldType.int), 6, 143)
abbrev mX6_pays : MI := (cX6_pays, 7, RX6, (Option.some Jvm.ClassFile.FieldType.int), 6, 143)
abbrev mX6_climbs : MI := (cX6_climbs, 4, RX6, (Option.some Jvm.ClassFile.FieldType.int), 5, 121)
abbrev mX6_worth : MI := (cX6_worth, 4, RX6, (Option.some Jvm.ClassFile.FieldType.int), 6, 142)
abbrev mX6_pairs : MI := (cX6_pairs, 5, RX6, (Option.some Jvm.ClassFile.FieldType.int), 5, 121)
abbrev mX6_rings : MI := (cX6_rings, 5, RX6, (Option.some Jvm.ClassFile.FieldType.int), 5, 121)
abbrev mX6_swaps : MI := (cX6_swaps, 2, RX6, (Option.some Jvm.ClassFile.FieldType.int), 6, 145)
abbrev mX6_peg : MI := (cX6_peg, 10, RX6, (Option.some Jvm.ClassFile.FieldType.long), 2, 44)
abbrev mX6_row : MI := (cX6_row, 2, RX6, (Option.some Jvm.ClassFile.FieldType.int), 2, 43)
abbrev mX6_judge : MI := (cX6_judge, 3, RX6, (Option.some Jvm.ClassFile.FieldType.int), 5, 121)
abbrev mX6_seeds : MI := (cX6_seeds, 7, RX6, (Option.some Jvm.ClassFile.FieldType.int), 5, 121)
abbrev mX6_image : MI := (cX6_image, 1, RX6, (Option.some Jvm.ClassFile.FieldType.int), 4, 89)
abbrev mX6_restore : MI := (cX6_restore, 1, RX6, (Option.some Jvm.ClassFile.FieldType.int), 4, 89)
abbrev mX7_clearAll : MI := (cX7_clearAll, 2, RX7, (Option.none : Option Jvm.ClassFile.FieldType), 0, 0)
abbrev mX7_in : MI := (cX7_in, 6, RX7, (Option.some Jvm.ClassFile.FieldType.boolean), 0, 0)
abbrev mX7_refuse : MI := (cX7_refuse, 2, RX7, (Option.some Jvm.ClassFile.FieldType.int), 0, 0)
abbrev mX7_tenants : MI := (cX7_tenants, 1, RX7, (Option.some Jvm.ClassFile.FieldType.int), 0, 0)
abbrev mX7_flatAt : MI := (cX7_flatAt, 3, RX7, (Option.some Jvm.ClassFile.FieldType.int), 0, 0)
abbrev mX7_toldAs : MI := (cX7_toldAs, 1, RX7, (Option.some Jvm.ClassFile.FieldType.int), 0, 0)
abbrev mX7_isTenant : MI := (cX7_isTenant, 2, RX7, (Option.some Jvm.ClassFile.FieldType.boolean), 1, 25)
abbrev mX7_areTenants : MI := (cX7_areTenants, 3, RX7, (Option.some Jvm.ClassFile.FieldType.boolean), 2, 46)
abbrev mX7_isHabit : MI := (cX7_isHabit, 2, RX7, (Option.some Jvm.ClassFile.FieldType.boolean), 1, 25)
abbrev mX7_livesIn : MI := (cX7_livesIn, 3, RX7, (Option.some Jvm.ClassFile.FieldType.int), 0, 0)
abbrev mX7_nextOf : MI := (cX7_nextOf, 7, RX7, (Option.some Jvm.ClassFile.FieldType.int), 1, 25)
abbrev mX7_lesser : MI := (cX7_lesser, 2, RX7, (Option.some Jvm.ClassFile.FieldType.int), 0, 0)
abbrev mX7_harmOf : MI := (cX7_harmOf, 6, RX7, (Option.some Jvm.ClassFile.FieldType.int), 1, 21)
abbrev mX7_clearHarm : MI := (cX7_clearHarm, 2, RX7, (Option.none : Option Jvm.ClassFile.FieldType), 0, 0)
abbrev mX7_beginMind : MI := (cX7_beginMind, 2, RX7, (Option.none : Option Jvm.ClassFile.FieldType), 1, 21)
abbrev mX7_keptAt : MI := (cX7_keptAt, 5, RX7, (Option.some Jvm.ClassFile.FieldType.int), 1, 21)
abbrev mX7_fall : MI := (cX7_fall, 8, RX7, (Option.none : Option Jvm.ClassFile.FieldType), 2, 51)
abbrev mX7_sumHarm : MI := (cX7_sumHarm, 3, RX7, (Option.some Jvm.ClassFile.FieldType.int), 1, 20)
abbrev mX7_weekOn : MI := (cX7_weekOn, 3, RX7, (Option.some Jvm.ClassFile.FieldType.int), 3, 78)
abbrev mX7_oneWeek : MI := (cX7_oneWeek, 1, RX7, (Option.some Jvm.ClassFile.FieldType.int), 4, 100)
abbrev mX7_oneWeekOf : MI := (cX7_oneWeekOf, 2, RX7, (Option.some Jvm.ClassFile.FieldType.int), 5, 120)
abbrev mX7_keepWeek : MI := (cX7_keepWeek, 4, RX7, (Option.none : Option Jvm.ClassFile.FieldType), 1, 21)
abbrev mX7_feed : MI := (cX7_feed, 2, RX7, (Option.some Jvm.ClassFile.FieldType.int), 1, 21)
abbrev mX7_here : MI := (cX7_here, 1, RX7, (Option.some Jvm.ClassFile.FieldType.int), 0, 0)
abbrev mX7_readDigit : MI := (cX7_readDigit, 1, RX7, (Option.some Jvm.ClassFile.FieldType.int), 1, 25)
abbrev mX7_readTwo : MI := (cX7_readTwo, 2, RX7, (Option.some Jvm.ClassFile.FieldType.int), 2, 45)
abbrev mX7_readSign : MI := (cX7_readSign, 2, RX7, (Option.some Jvm.ClassFile.FieldType.int), 1, 20)
abbrev mX7_readHours : MI := (cX7_readHours, 3, RX7, (Option.some Jvm.ClassFile.FieldType.int), 2, 45)
abbrev mX7_readTenant : MI := (cX7_readTenant, 2, RX7, (Option.some Jvm.ClassFile.FieldType.int), 2, 45)
abbrev mX7_readStatement : MI := (cX7_readStatement, 4, RX7, (Option.none : Option Jvm.ClassFile.FieldType), 3, 67)
abbrev mX7_frontComes : MI := (cX7_frontComes, 4, RX7, (Option.some Jvm.ClassFile.FieldType.boolean), 1, 25)
abbrev mX7_habitComes : MI := (cX7_habitComes, 3, RX7, (Option.some Jvm.ClassFile.FieldType.boolean), 1, 20)
abbrev mX7_saucerIs : MI := (cX7_saucerIs, 3, RX7, (Option.none : Option Jvm.ClassFile.FieldType), 1, 21)
abbrev mX7_flatComes : MI := (cX7_flatComes, 4, RX7, (Option.some Jvm.ClassFile.FieldType.boolean), 2, 43)
abbrev mX7_comes : MI := (cX7_comes, 3, RX7, (Option.some Jvm.ClassFile.FieldType.boolean), 3, 66)
abbrev mX7_carry : MI := (cX7_carry, 2, RX7, (Option.some Jvm.ClassFile.FieldType.int), 0, 0)
abbrev mX7_carryAll : MI := (cX7_carryAll, 4, RX7, (Option.none : Option Jvm.ClassFile.FieldType), 1, 21)
abbrev mX7_front : MI := (cX7_front, 2, RX7, (Option.some Jvm.ClassFile.FieldType.int), 4, 90)
abbrev mX7_image : MI := (cX7_image, 1, RX7, (Option.some Jvm.ClassFile.FieldType.int), 2, 44)
abbrev mX7_restore : MI := (cX7_restore, 1, RX7, (Option.some Jvm.ClassFile.FieldType.int), 2, 44)
abbrev mX7_flat : MI := (cX7_flat, 4, RX7, (Option.some Jvm.ClassFile.FieldType.int), 1, 25)
abbrev mX7_habitsOf : MI := (cX7_habitsOf, 4, RX7, (Option.some Jvm.ClassFile.FieldType.int), 0, 0)
abbrev mX7_tenant : MI := (cX7_tenant, 3, RX7, (Option.some Jvm.ClassFile.FieldType.int), 2, 46)
abbrev mX7_anger : MI := (cX7_anger, 3, RX7, (Option.some Jvm.ClassFile.FieldType.int), 3, 68)
abbrev mX7_habit : MI := (cX7_habit, 3, RX7, (Option.some Jvm.ClassFile.FieldType.int), 2, 46)
abbrev mX7_isTime : MI := (cX7_isTime, 1, RX7, (Option.some Jvm.ClassFile.FieldType.boolean), 1, 25)
abbrev mX7_put : MI := (cX7_put, 4, RX7, (Option.some Jvm.ClassFile.FieldType.int), 2, 46)
abbrev mX7_wrongNumber : MI := (cX7_wrongNumber, 3, RX7, (Option.some Jvm.ClassFile.FieldType.int), 0, 0)
abbrev mX7_saucer : MI := (cX7_saucer, 6, RX7, (Option.some Jvm.ClassFile.FieldType.int), 2, 43)
abbrev mX7_awning : MI := (cX7_awning, 6, RX7, (Option.some Jvm.ClassFile.FieldType.int), 1, 22)
abbrev mX7_wash : MI := (cX7_wash, 7, RX7, (Option.some Jvm.ClassFile.FieldType.int), 1, 22)
abbrev mX7_wind : MI := (cX7_wind, 3, RX7, (Option.some Jvm.ClassFile.FieldType.int), 1, 22)
abbrev mX7_change : MI := (cX7_change, 4, RX7, (Option.none : Option Jvm.ClassFile.FieldType), 0, 0)
abbrev mX7_move : MI := (cX7_move, 3, RX7, (Option.some Jvm.ClassFile.FieldType.int), 3, 68)
abbrev mX7_rain : MI := (cX7_rain, 3, RX7, (Option.some Jvm.ClassFile.FieldType.int), 0, 0)
abbrev mX7_week : MI := (cX7_week, 2, RX7, (Option.some Jvm.ClassFile.FieldType.int), 5, 120)
abbrev mX7_fallAlone : MI := (cX7_fallAlone, 2, RX7, (Option.none : Option Jvm.ClassFile.FieldType), 3, 78)
abbrev mX7_steps : MI := (cX7_steps, 3, RX7, (Option.some Jvm.ClassFile.FieldType.int), 4, 99)
abbrev mX7_down : MI := (cX7_down, 2, RX7, (Option.some Jvm.ClassFile.FieldType.int), 4, 99)
abbrev mX7_comesTo : MI := (cX7_comesTo, 4, RX7, (Option.some Jvm.ClassFile.FieldType.boolean), 2, 51)
abbrev mX7_whom : MI := (cX7_whom, 6, RX7, (Option.some Jvm.ClassFile.FieldType.int), 3, 74)
abbrev mX7_does : MI := (cX7_does, 3, RX7, (Option.some Jvm.ClassFile.FieldType.int), 4, 99)
abbrev mX7_harmed : MI := (cX7_harmed, 7, RX7, (Option.some Jvm.ClassFile.FieldType.int), 4, 100)
abbrev mX7_least : MI := (cX7_least, 9, RX7, (Option.some Jvm.ClassFile.FieldType.int), 5, 120)
abbrev mX7_hours : MI := (cX7_hours, 11, RX7, (Option.some Jvm.ClassFile.FieldType.int), 5, 120)
abbrev mX7_keepTimes : MI := (cX7_keepTimes, 2, RX7, (Option.none : Option Jvm.ClassFile.FieldType), 0, 0)
abbrev mX7_timesBack : MI := (cX7_timesBack, 2, RX7, (Option.none : Option Jvm.ClassFile.FieldType), 0, 0)
abbrev mX7_quietHarm : MI := (cX7_quietHarm, 5, RX7, (Option.some Jvm.ClassFile.FieldType.int), 5, 120)
abbrev mX7_quiet : MI := (cX7_quiet, 3, RX7, (Option.some Jvm.ClassFile.FieldType.int), 6, 144)
abbrev mX7_rule : MI := (cX7_rule, 6, RX7, (Option.some Jvm.ClassFile.FieldType.int), 6, 144)
abbrev mX7_hang : MI := (cX7_hang, 10, RX7, (Option.some Jvm.ClassFile.FieldType.int), 6, 141)
abbrev mX7_big : MI := (cX7_big, 10, RX7, (Option.some Jvm.ClassFile.FieldType.int), 5, 120)
abbrev mX7_leads : MI := (cX7_leads, 9, RX7, (Option.some Jvm.ClassFile.FieldType.int), 5, 120)
abbrev mX7_keepHarm : MI := (cX7_keepHarm, 2, RX7, (Option.none : Option Jvm.ClassFile.FieldType), 0, 0)
abbrev mX7_whose : MI := (cX7_whose, 8, RX7, (Option.some Jvm.ClassFile.FieldType.int), 5, 120)
abbrev mX7_weekBoth : MI := (cX7_weekBoth, 4, RX7, (Option.none : Option Jvm.ClassFile.FieldType), 5, 120)
abbrev mX7_deal : MI := (cX7_deal, 5, RX7, (Option.some Jvm.ClassFile.FieldType.int), 6, 143)
abbrev mX7_pays : MI := (cX7_pays, 8, RX7, (Option.some Jvm.ClassFile.FieldType.int), 6, 143)
abbrev mX7_isAngry : MI := (cX7_isAngry, 4, RX7, (Option.some Jvm.ClassFile.FieldType.boolean), 0, 0)
abbrev mX7_revenge : MI := (cX7_revenge, 2, RX7, (Option.none : Option Jvm.ClassFile.FieldType), 1, 23)
abbrev mX7_climbs : MI := (cX7_climbs, 5, RX7, (Option.some Jvm.ClassFile.FieldType.int), 5, 120)
abbrev mX7_worth : MI := (cX7_worth, 4, RX7, (Option.some Jvm.ClassFile.FieldType.int), 6, 141)
abbrev mX7_haveLess : MI := (cX7_haveLess, 3, RX7, (Option.some Jvm.ClassFile.FieldType.boolean), 5, 120)
abbrev mX7_pairsOf : MI := (cX7_pairsOf, 7, RX7, (Option.some Jvm.ClassFile.FieldType.int), 6, 142)
abbrev mX7_isRing : MI := (cX7_isRing, 6, RX7, (Option.some Jvm.ClassFile.FieldType.boolean), 6, 142)
abbrev mX7_ringsOf : MI := (cX7_ringsOf, 5, RX7, (Option.some Jvm.ClassFile.FieldType.int), 7, 167)
abbrev mX7_swaps : MI := (cX7_swaps, 2, RX7, (Option.some Jvm.ClassFile.FieldType.int), 8, 191)
abbrev mX7_divisor : MI := (cX7_divisor, 5, RX7, (Option.some Jvm.ClassFile.FieldType.int), 0, 0)
abbrev mX7_peg : MI := (cX7_peg, 9, RX7, (Option.some Jvm.ClassFile.FieldType.long), 2, 46)
abbrev mX7_row : MI := (cX7_row, 2, RX7, (Option.some Jvm.ClassFile.FieldType.int), 1, 21)
abbrev mX7_judge : MI := (cX7_judge, 3, RX7, (Option.some Jvm.ClassFile.FieldType.int), 4, 100)
abbrev mX7_seeds : MI := (cX7_seeds, 7, RX7, (Option.some Jvm.ClassFile.FieldType.int), 4, 100)
abbrev mX7_sumOf : MI := (cX7_sumOf, 4, RX7, (Option.some Jvm.ClassFile.FieldType.int), 0, 0)
abbrev mX7_count : MI := (cX7_count, 2, RX7, (Option.some Jvm.ClassFile.FieldType.int), 1, 25)
theorem kc_J0_length_8abf5 : kVi mJ0_length_8abf5 yJ0_length_8abf5 0 := ⟨⟨tw_362, tw_363⟩, tw_70, tw_364, by decide, by decide, by decide +kernel⟩
theorem kc_J0_isEmpty_aae02 : kVi mJ0_isEmpty_aae02 yJ0_isEmpty_aae02 0 := ⟨⟨tw_358, tw_359⟩, tw_70, tw_360, by decide, by decide, by decide +kernel⟩
theorem kc_J0_charAt_5068e : kVi mJ0_charAt_5068e yJ0_charAt_5068e 1 := ⟨⟨tw_372, tw_373⟩, tw_70, tw_374, by decide, by decide, by decide +kernel⟩
theorem kc_J7_fill_53178 : kSt mJ7_fill_53178 yJ7_fill_53178 2 := ⟨tw_101, tw_64, tw_102, by decide, by decide, by decide +kernel⟩
theorem kc_X6_set : kSt mX6_set yX6_set 3 := ⟨tw_108, tw_61, tw_109, by decide, by decide, by decide +kernel⟩
theorem kc_X0_settle : kVi mX0_settle yX0_settle 2 := ⟨⟨tw_104, tw_105⟩, tw_63, tw_106, by decide, by decide, by decide +kernel⟩
theorem kc_X0_build : kVi mX0_build yX0_build 2 := ⟨⟨tw_97, tw_98⟩, tw_63, tw_99, by decide, by decide, by decide +kernel⟩
theorem kc_X6_copy : kSt mX6_copy yX6_copy 2 := ⟨tw_441, tw_61, tw_442, by decide, by decide, by decide +kernel⟩
theorem kc_X0_copyFrom : kVi mX0_copyFrom yX0_copyFrom 1 := ⟨⟨tw_437, tw_438⟩, tw_63, tw_439, by decide, by decide, by decide +kernel⟩
theorem kc_X0_tenants : kVi mX0_tenants yX0_tenants 0 := ⟨⟨tw_490, tw_491⟩, tw_63, tw_492, by decide, by decide, by decide +kernel⟩
theorem kc_X0_place : kVi mX0_place yX0_place 2 := ⟨⟨tw_499, tw_500⟩, tw_63, tw_501, by decide, by decide, by decide +kernel⟩
theorem kc_X0_placeOf : kVi mX0_placeOf yX0_placeOf 1 := ⟨⟨tw_522, tw_523⟩, tw_63, tw_524, by decide, by decide, by decide +kernel⟩
theorem kc_X0_flatAt : kSt mX0_flatAt yX0_flatAt 1 := ⟨tw_536, tw_63, tw_537, by decide, by decide, by decide +kernel⟩
theorem kc_X6_get : kSt mX6_get yX6_get 2 := ⟨tw_322, tw_61, tw_323, by decide, by decide, by decide +kernel⟩
theorem kc_X0_change : kVi mX0_change yX0_change 2 := ⟨⟨tw_593, tw_594⟩, tw_63, tw_595, by decide, by decide, by decide +kernel⟩
theorem kc_X0_ring : kVi mX0_ring yX0_ring 3 := ⟨⟨tw_801, tw_802⟩, tw_63, tw_803, by decide, by decide, by decide +kernel⟩
theorem kc_X0_setSaucer : kVi mX0_setSaucer yX0_setSaucer 2 := ⟨⟨tw_503, tw_504⟩, tw_63, tw_505, by decide, by decide, by decide +kernel⟩
theorem kc_X0_setWashing : kVi mX0_setWashing yX0_setWashing 3 := ⟨⟨tw_513, tw_514⟩, tw_63, tw_515, by decide, by decide, by decide +kernel⟩
theorem kc_X0_dry : kVi mX0_dry yX0_dry 0 := ⟨⟨tw_652, tw_653⟩, tw_63, tw_654, by decide, by decide, by decide +kernel⟩
theorem kc_X1_add : kVi mX1_add yX1_add 4 := ⟨⟨tw_494, tw_495⟩, tw_65, tw_496, by decide, by decide, by decide +kernel⟩
theorem kc_X1_copyFrom : kVi mX1_copyFrom yX1_copyFrom 1 := ⟨⟨tw_450, tw_451⟩, tw_65, tw_452, by decide, by decide, by decide +kernel⟩
theorem kc_X1_countOf : kVi mX1_countOf yX1_countOf 1 := ⟨⟨tw_539, tw_540⟩, tw_65, tw_541, by decide, by decide, by decide +kernel⟩
theorem kc_X6_within : kSt mX6_within yX6_within 3 := ⟨tw_418, tw_61, tw_419, by decide, by decide, by decide +kernel⟩
theorem kc_X1_putOff : kVi mX1_putOff yX1_putOff 2 := ⟨⟨tw_720, tw_721⟩, tw_65, tw_722, by decide, by decide, by decide +kernel⟩
theorem kc_X1_raise : kVi mX1_raise yX1_raise 1 := ⟨⟨tw_783, tw_784⟩, tw_65, tw_785, by decide, by decide, by decide +kernel⟩
theorem kc_X3_copyFrom : kVi mX3_copyFrom yX3_copyFrom 1 := ⟨⟨tw_455, tw_456⟩, tw_66, tw_457, by decide, by decide, by decide +kernel⟩
theorem kc_X2_copyFrom : kVi mX2_copyFrom yX2_copyFrom 1 := ⟨⟨tw_433, tw_434⟩, tw_62, tw_435, by decide, by decide, by decide +kernel⟩
theorem kc_X3_beginWeek : kVi mX3_beginWeek yX3_beginWeek 0 := ⟨⟨tw_482, tw_483⟩, tw_66, tw_484, by decide, by decide, by decide +kernel⟩
theorem kc_X3_clear : kVi mX3_clear yX3_clear 0 := ⟨⟨tw_477, tw_478⟩, tw_66, tw_479, by decide, by decide, by decide +kernel⟩
theorem kc_X2_build : kVi mX2_build yX2_build 2 := ⟨⟨tw_472, tw_473⟩, tw_62, tw_474, by decide, by decide, by decide +kernel⟩
theorem kc_X5_room : kSt mX5_room yX5_room 3 := ⟨tw_630, tw_67, tw_631, by decide, by decide, by decide +kernel⟩
theorem kc_X5_hold : kVi mX5_hold yX5_hold 3 := ⟨⟨tw_626, tw_627⟩, tw_67, tw_628, by decide, by decide, by decide +kernel⟩
theorem kc_X5_next : kSt mX5_next yX5_next 3 := ⟨tw_621, tw_67, tw_622, by decide, by decide, by decide +kernel⟩
theorem kc_X5_trace : kVi mX5_trace yX5_trace 3 := ⟨⟨tw_616, tw_617⟩, tw_67, tw_618, by decide, by decide, by decide +kernel⟩
theorem kc_X2_follow : kVi mX2_follow yX2_follow 1 := ⟨⟨tw_661, tw_662⟩, tw_62, tw_663, by decide, by decide, by decide +kernel⟩
theorem kc_X2_trace : kVi mX2_trace yX2_trace 1 := ⟨⟨tw_673, tw_674⟩, tw_62, tw_675, by decide, by decide, by decide +kernel⟩
theorem kc_X2_harmAt : kVi mX2_harmAt yX2_harmAt 2 := ⟨⟨tw_637, tw_638⟩, tw_62, tw_639, by decide, by decide, by decide +kernel⟩
theorem kc_X3_pair : kSt mX3_pair yX3_pair 2 := ⟨tw_548, tw_66, tw_549, by decide, by decide, by decide +kernel⟩
theorem kc_X3_note : kVi mX3_note yX3_note 3 := ⟨⟨tw_642, tw_643⟩, tw_66, tw_644, by decide, by decide, by decide +kernel⟩
theorem kc_X2_fall : kVi mX2_fall yX2_fall 1 := ⟨⟨tw_612, tw_613⟩, tw_62, tw_614, by decide, by decide, by decide +kernel⟩
theorem kc_X2_spendWeek : kVi mX2_spendWeek yX2_spendWeek 0 := ⟨⟨tw_606, tw_607⟩, tw_62, tw_608, by decide, by decide, by decide +kernel⟩
theorem kc_X3_isAngry : kVi mX3_isAngry yX3_isAngry 1 := ⟨⟨tw_779, tw_780⟩, tw_66, tw_781, by decide, by decide, by decide +kernel⟩
theorem kc_X2_takeRevenge : kVi mX2_takeRevenge yX2_takeRevenge 0 := ⟨⟨tw_774, tw_775⟩, tw_62, tw_776, by decide, by decide, by decide +kernel⟩
theorem kc_X4_add : kVi mX4_add yX4_add 1 := ⟨⟨tw_326, tw_327⟩, tw_68, tw_328, by decide, by decide, by decide +kernel⟩
theorem kc_X4_letter : kVi mX4_letter yX4_letter 1 := ⟨⟨tw_343, tw_344⟩, tw_68, tw_345, by decide, by decide, by decide +kernel⟩
theorem kc_X4_digit : kVi mX4_digit yX4_digit 1 := ⟨⟨tw_414, tw_415⟩, tw_68, tw_416, by decide, by decide, by decide +kernel⟩
theorem kc_X4_sign : kVi mX4_sign yX4_sign 1 := ⟨⟨tw_421, tw_422⟩, tw_68, tw_423, by decide, by decide, by decide +kernel⟩
theorem kc_X4_carryOutFront : kVi mX4_carryOutFront yX4_carryOutFront 2 := ⟨⟨tw_468, tw_469⟩, tw_68, tw_470, by decide, by decide, by decide +kernel⟩
theorem kc_X6_isHour : kSt mX6_isHour yX6_isHour 1 := ⟨tw_429, tw_61, tw_430, by decide, by decide, by decide +kernel⟩
theorem kc_X4_carryOutHabit : kVi mX4_carryOutHabit yX4_carryOutHabit 2 := ⟨⟨tw_486, tw_487⟩, tw_68, tw_488, by decide, by decide, by decide +kernel⟩
theorem kc_X4_hoursFrom : kVi mX4_hoursFrom yX4_hoursFrom 1 := ⟨⟨tw_425, tw_426⟩, tw_68, tw_427, by decide, by decide, by decide +kernel⟩
theorem kc_X4_hourBits : kVi mX4_hourBits yX4_hourBits 1 := ⟨⟨tw_509, tw_510⟩, tw_68, tw_511, by decide, by decide, by decide +kernel⟩
theorem kc_X4_carryOut : kVi mX4_carryOut yX4_carryOut 2 := ⟨⟨tw_464, tw_465⟩, tw_68, tw_466, by decide, by decide, by decide +kernel⟩
theorem kc_X4_tell : kVi mX4_tell yX4_tell 1 := ⟨⟨tw_460, tw_461⟩, tw_68, tw_462, by decide, by decide, by decide +kernel⟩
theorem kc_X4_formOf : kSt mX4_formOf yX4_formOf 1 := ⟨tw_348, tw_68, tw_349, by decide, by decide, by decide +kernel⟩
theorem kc_X4_lengthOf : kVi mX4_lengthOf yX4_lengthOf 2 := ⟨⟨tw_410, tw_411⟩, tw_68, tw_412, by decide, by decide, by decide +kernel⟩
theorem kc_X4_statementEnd : kVi mX4_statementEnd yX4_statementEnd 1 := ⟨⟨tw_339, tw_340⟩, tw_68, tw_341, by decide, by decide, by decide +kernel⟩
theorem kc_X4_formFault : kVi mX4_formFault yX4_formFault 0 := ⟨⟨tw_335, tw_336⟩, tw_68, tw_337, by decide, by decide, by decide +kernel⟩
theorem kc_X5_comesTo : kVi mX5_comesTo yX5_comesTo 1 := ⟨⟨tw_677, tw_678⟩, tw_67, tw_679, by decide, by decide, by decide +kernel⟩
theorem kc_X6_sum : kSt mX6_sum yX6_sum 1 := ⟨tw_563, tw_61, tw_564, by decide, by decide, by decide +kernel⟩
theorem kc_X6_refuse : kVi mX6_refuse yX6_refuse 1 := ⟨⟨tw_319, tw_0⟩, tw_61, tw_320, by decide, by decide, by decide +kernel⟩
theorem kc_X6_isTenant : kVi mX6_isTenant yX6_isTenant 1 := ⟨⟨tw_532, tw_1⟩, tw_61, tw_533, by decide, by decide, by decide +kernel⟩
theorem kc_X6_isHabit : kVi mX6_isHabit yX6_isHabit 1 := ⟨⟨tw_556, tw_2⟩, tw_61, tw_557, by decide, by decide, by decide +kernel⟩
theorem kc_X6_tryAnew : kVi mX6_tryAnew yX6_tryAnew 0 := ⟨⟨tw_691, tw_3⟩, tw_61, tw_692, by decide, by decide, by decide +kernel⟩
theorem kc_X6_tryAsIs : kVi mX6_tryAsIs yX6_tryAsIs 0 := ⟨⟨tw_730, tw_7⟩, tw_61, tw_731, by decide, by decide, by decide +kernel⟩
theorem kc_X6_tryHour : kVi mX6_tryHour yX6_tryHour 2 := ⟨⟨tw_705, tw_5⟩, tw_61, tw_706, by decide, by decide, by decide +kernel⟩
theorem kc_X6_tryQuiet : kVi mX6_tryQuiet yX6_tryQuiet 2 := ⟨⟨tw_717, tw_6⟩, tw_61, tw_718, by decide, by decide, by decide +kernel⟩
theorem kc_X6_tryAwning : kVi mX6_tryAwning yX6_tryAwning 2 := ⟨⟨tw_747, tw_8⟩, tw_61, tw_748, by decide, by decide, by decide +kernel⟩
theorem kc_X6_doneTo : kVi mX6_doneTo yX6_doneTo 1 := ⟨⟨tw_697, tw_4⟩, tw_61, tw_698, by decide, by decide, by decide +kernel⟩
theorem kc_X6_gain : kVi mX6_gain yX6_gain 1 := ⟨⟨tw_755, tw_9⟩, tw_61, tw_756, by decide, by decide, by decide +kernel⟩
theorem kc_X6_feed : kVi mX6_feed yX6_feed 1 := ⟨⟨tw_314, tw_315⟩, tw_61, tw_316, by decide, by decide, by decide +kernel⟩
theorem kc_X6_front : kVi mX6_front yX6_front 0 := ⟨⟨tw_331, tw_332⟩, tw_61, tw_333, by decide, by decide, by decide +kernel⟩
theorem kc_X6_flat : kVi mX6_flat yX6_flat 2 := ⟨⟨tw_518, tw_519⟩, tw_61, tw_520, by decide, by decide, by decide +kernel⟩
theorem kc_X6_tenant : kVi mX6_tenant yX6_tenant 2 := ⟨⟨tw_527, tw_528⟩, tw_61, tw_529, by decide, by decide, by decide +kernel⟩
theorem kc_X6_anger : kVi mX6_anger yX6_anger 2 := ⟨⟨tw_544, tw_545⟩, tw_61, tw_546, by decide, by decide, by decide +kernel⟩
theorem kc_X6_habit : kVi mX6_habit yX6_habit 2 := ⟨⟨tw_551, tw_552⟩, tw_61, tw_553, by decide, by decide, by decide +kernel⟩
theorem kc_X6_count : kVi mX6_count yX6_count 1 := ⟨⟨tw_559, tw_560⟩, tw_61, tw_561, by decide, by decide, by decide +kernel⟩
theorem kc_X6_put : kVi mX6_put yX6_put 2 := ⟨⟨tw_566, tw_567⟩, tw_61, tw_568, by decide, by decide, by decide +kernel⟩
theorem kc_X6_saucer : kVi mX6_saucer yX6_saucer 2 := ⟨⟨tw_571, tw_572⟩, tw_61, tw_573, by decide, by decide, by decide +kernel⟩
theorem kc_X6_awning : kVi mX6_awning yX6_awning 2 := ⟨⟨tw_576, tw_577⟩, tw_61, tw_578, by decide, by decide, by decide +kernel⟩
theorem kc_X6_wash : kVi mX6_wash yX6_wash 3 := ⟨⟨tw_580, tw_581⟩, tw_61, tw_582, by decide, by decide, by decide +kernel⟩
theorem kc_X6_wind : kVi mX6_wind yX6_wind 1 := ⟨⟨tw_585, tw_586⟩, tw_61, tw_587, by decide, by decide, by decide +kernel⟩
theorem kc_X6_move : kVi mX6_move yX6_move 2 := ⟨⟨tw_589, tw_590⟩, tw_61, tw_591, by decide, by decide, by decide +kernel⟩
theorem kc_X6_rain : kVi mX6_rain yX6_rain 0 := ⟨⟨tw_597, tw_598⟩, tw_61, tw_599, by decide, by decide, by decide +kernel⟩
theorem kc_X6_week : kVi mX6_week yX6_week 0 := ⟨⟨tw_602, tw_603⟩, tw_61, tw_604, by decide, by decide, by decide +kernel⟩
theorem kc_X6_steps : kVi mX6_steps yX6_steps 2 := ⟨⟨tw_657, tw_658⟩, tw_61, tw_659, by decide, by decide, by decide +kernel⟩
theorem kc_X6_down : kVi mX6_down yX6_down 1 := ⟨⟨tw_665, tw_666⟩, tw_61, tw_667, by decide, by decide, by decide +kernel⟩
theorem kc_X6_whom : kVi mX6_whom yX6_whom 2 := ⟨⟨tw_669, tw_670⟩, tw_61, tw_671, by decide, by decide, by decide +kernel⟩
theorem kc_X6_does : kVi mX6_does yX6_does 2 := ⟨⟨tw_681, tw_682⟩, tw_61, tw_683, by decide, by decide, by decide +kernel⟩
theorem kc_X6_harmed : kVi mX6_harmed yX6_harmed 2 := ⟨⟨tw_686, tw_687⟩, tw_61, tw_688, by decide, by decide, by decide +kernel⟩
theorem kc_X6_least : kVi mX6_least yX6_least 2 := ⟨⟨tw_700, tw_701⟩, tw_61, tw_702, by decide, by decide, by decide +kernel⟩
theorem kc_X6_hours : kVi mX6_hours yX6_hours 3 := ⟨⟨tw_708, tw_709⟩, tw_61, tw_710, by decide, by decide, by decide +kernel⟩
theorem kc_X6_quiet : kVi mX6_quiet yX6_quiet 2 := ⟨⟨tw_712, tw_713⟩, tw_61, tw_714, by decide, by decide, by decide +kernel⟩
theorem kc_X6_rule : kVi mX6_rule yX6_rule 0 := ⟨⟨tw_725, tw_726⟩, tw_61, tw_727, by decide, by decide, by decide +kernel⟩
theorem kc_X6_hang : kVi mX6_hang yX6_hang 1 := ⟨⟨tw_734, tw_735⟩, tw_61, tw_736, by decide, by decide, by decide +kernel⟩
theorem kc_X6_big : kVi mX6_big yX6_big 1 := ⟨⟨tw_738, tw_739⟩, tw_61, tw_740, by decide, by decide, by decide +kernel⟩
theorem kc_X6_leads : kVi mX6_leads yX6_leads 1 := ⟨⟨tw_742, tw_743⟩, tw_61, tw_744, by decide, by decide, by decide +kernel⟩
theorem kc_X6_whose : kVi mX6_whose yX6_whose 2 := ⟨⟨tw_750, tw_751⟩, tw_61, tw_752, by decide, by decide, by decide +kernel⟩
theorem kc_X6_deal : kVi mX6_deal yX6_deal 2 := ⟨⟨tw_758, tw_759⟩, tw_61, tw_760, by decide, by decide, by decide +kernel⟩
theorem kc_X6_pays : kVi mX6_pays yX6_pays 3 := ⟨⟨tw_766, tw_767⟩, tw_61, tw_768, by decide, by decide, by decide +kernel⟩
theorem kc_X6_climbs : kVi mX6_climbs yX6_climbs 0 := ⟨⟨tw_770, tw_771⟩, tw_61, tw_772, by decide, by decide, by decide +kernel⟩
theorem kc_X6_worth : kVi mX6_worth yX6_worth 1 := ⟨⟨tw_788, tw_789⟩, tw_61, tw_790, by decide, by decide, by decide +kernel⟩
theorem kc_X6_pairs : kVi mX6_pairs yX6_pairs 1 := ⟨⟨tw_806, tw_11⟩, tw_61, tw_807, by decide, by decide, by decide +kernel⟩
theorem kc_X6_rings : kVi mX6_rings yX6_rings 0 := ⟨⟨tw_798, tw_10⟩, tw_61, tw_799, by decide, by decide, by decide +kernel⟩
theorem kc_X6_swaps : kVi mX6_swaps yX6_swaps 1 := ⟨⟨tw_793, tw_794⟩, tw_61, tw_795, by decide, by decide, by decide +kernel⟩
theorem kc_X6_peg : kVi mX6_peg yX6_peg 3 := ⟨⟨tw_809, tw_810⟩, tw_61, tw_811, by decide, by decide, by decide +kernel⟩
theorem kc_X6_row : kVi mX6_row yX6_row 1 := ⟨⟨tw_815, tw_816⟩, tw_61, tw_817, by decide, by decide, by decide +kernel⟩
theorem kc_X6_judge : kVi mX6_judge yX6_judge 0 := ⟨⟨tw_819, tw_820⟩, tw_61, tw_821, by decide, by decide, by decide +kernel⟩
theorem kc_X6_seeds : kVi mX6_seeds yX6_seeds 2 := ⟨⟨tw_823, tw_824⟩, tw_61, tw_825, by decide, by decide, by decide +kernel⟩
theorem kc_X6_image : kVi mX6_image yX6_image 0 := ⟨⟨tw_830, tw_831⟩, tw_61, tw_832, by decide, by decide, by decide +kernel⟩
theorem kc_X6_restore : kVi mX6_restore yX6_restore 0 := ⟨⟨tw_834, tw_835⟩, tw_61, tw_836, by decide, by decide, by decide +kernel⟩
theorem kc_X7_clearAll : kVi mX7_clearAll yX7_clearAll 0 := ⟨⟨tw_845, tw_12⟩, tw_69, tw_846, by decide, by decide, by decide +kernel⟩
theorem kc_X7_in : kSt mX7_in yX7_in 3 := ⟨tw_1004, tw_69, tw_1005, by decide, by decide, by decide +kernel⟩
theorem kc_X7_refuse : kVi mX7_refuse yX7_refuse 1 := ⟨⟨tw_983, tw_13⟩, tw_69, tw_984, by decide, by decide, by decide +kernel⟩
theorem kc_X7_tenants : kVi mX7_tenants yX7_tenants 0 := ⟨⟨tw_1048, tw_26⟩, tw_69, tw_1049, by decide, by decide, by decide +kernel⟩
theorem kc_X7_flatAt : kVi mX7_flatAt yX7_flatAt 1 := ⟨⟨tw_1056, tw_28⟩, tw_69, tw_1057, by decide, by decide, by decide +kernel⟩
theorem kc_X7_toldAs : kSt mX7_toldAs yX7_toldAs 1 := ⟨tw_1091, tw_69, tw_1092, by decide, by decide, by decide +kernel⟩
theorem kc_X7_isTenant : kVi mX7_isTenant yX7_isTenant 1 := ⟨⟨tw_1088, tw_31⟩, tw_69, tw_1089, by decide, by decide, by decide +kernel⟩
theorem kc_X7_areTenants : kVi mX7_areTenants yX7_areTenants 2 := ⟨⟨tw_1103, tw_33⟩, tw_69, tw_1104, by decide, by decide, by decide +kernel⟩
theorem kc_X7_isHabit : kVi mX7_isHabit yX7_isHabit 1 := ⟨⟨tw_1111, tw_34⟩, tw_69, tw_1112, by decide, by decide, by decide +kernel⟩
theorem kc_X7_livesIn : kVi mX7_livesIn yX7_livesIn 1 := ⟨⟨tw_1080, tw_30⟩, tw_69, tw_1081, by decide, by decide, by decide +kernel⟩
theorem kc_X7_nextOf : kVi mX7_nextOf yX7_nextOf 2 := ⟨⟨tw_1179, tw_41⟩, tw_69, tw_1180, by decide, by decide, by decide +kernel⟩
theorem kc_X7_lesser : kSt mX7_lesser yX7_lesser 2 := ⟨tw_1063, tw_69, tw_1064, by decide, by decide, by decide +kernel⟩
theorem kc_X7_harmOf : kVi mX7_harmOf yX7_harmOf 4 := ⟨⟨tw_1183, tw_42⟩, tw_69, tw_1184, by decide, by decide, by decide +kernel⟩
theorem kc_X7_clearHarm : kVi mX7_clearHarm yX7_clearHarm 0 := ⟨⟨tw_1167, tw_38⟩, tw_69, tw_1168, by decide, by decide, by decide +kernel⟩
theorem kc_X7_beginMind : kVi mX7_beginMind yX7_beginMind 0 := ⟨⟨tw_1163, tw_37⟩, tw_69, tw_1164, by decide, by decide, by decide +kernel⟩
theorem kc_X7_keptAt : kVi mX7_keptAt yX7_keptAt 3 := ⟨⟨tw_1187, tw_43⟩, tw_69, tw_1188, by decide, by decide, by decide +kernel⟩
theorem kc_X7_fall : kVi mX7_fall yX7_fall 1 := ⟨⟨tw_1175, tw_40⟩, tw_69, tw_1176, by decide, by decide, by decide +kernel⟩
theorem kc_X7_sumHarm : kVi mX7_sumHarm yX7_sumHarm 0 := ⟨⟨tw_1191, tw_44⟩, tw_69, tw_1192, by decide, by decide, by decide +kernel⟩
theorem kc_X7_weekOn : kVi mX7_weekOn yX7_weekOn 0 := ⟨⟨tw_1171, tw_39⟩, tw_69, tw_1172, by decide, by decide, by decide +kernel⟩
theorem kc_X7_oneWeek : kVi mX7_oneWeek yX7_oneWeek 0 := ⟨⟨tw_1159, tw_36⟩, tw_69, tw_1160, by decide, by decide, by decide +kernel⟩
theorem kc_X7_oneWeekOf : kVi mX7_oneWeekOf yX7_oneWeekOf 1 := ⟨⟨tw_1260, tw_51⟩, tw_69, tw_1261, by decide, by decide, by decide +kernel⟩
theorem kc_X7_keepWeek : kVi mX7_keepWeek yX7_keepWeek 0 := ⟨⟨tw_1195, tw_45⟩, tw_69, tw_1196, by decide, by decide, by decide +kernel⟩
theorem kc_X7_feed : kVi mX7_feed yX7_feed 1 := ⟨⟨tw_978, tw_979⟩, tw_69, tw_980, by decide, by decide, by decide +kernel⟩
theorem kc_X7_here : kVi mX7_here yX7_here 0 := ⟨⟨tw_995, tw_15⟩, tw_69, tw_996, by decide, by decide, by decide +kernel⟩
theorem kc_X7_readDigit : kVi mX7_readDigit yX7_readDigit 0 := ⟨⟨tw_999, tw_16⟩, tw_69, tw_1000, by decide, by decide, by decide +kernel⟩
theorem kc_X7_readTwo : kVi mX7_readTwo yX7_readTwo 0 := ⟨⟨tw_1008, tw_17⟩, tw_69, tw_1009, by decide, by decide, by decide +kernel⟩
theorem kc_X7_readSign : kVi mX7_readSign yX7_readSign 0 := ⟨⟨tw_1012, tw_18⟩, tw_69, tw_1013, by decide, by decide, by decide +kernel⟩
theorem kc_X7_readHours : kVi mX7_readHours yX7_readHours 0 := ⟨⟨tw_1016, tw_19⟩, tw_69, tw_1017, by decide, by decide, by decide +kernel⟩
theorem kc_X7_readTenant : kVi mX7_readTenant yX7_readTenant 0 := ⟨⟨tw_1021, tw_20⟩, tw_69, tw_1022, by decide, by decide, by decide +kernel⟩
theorem kc_X7_readStatement : kVi mX7_readStatement yX7_readStatement 0 := ⟨⟨tw_991, tw_14⟩, tw_69, tw_992, by decide, by decide, by decide +kernel⟩
theorem kc_X7_frontComes : kVi mX7_frontComes yX7_frontComes 2 := ⟨⟨tw_1037, tw_24⟩, tw_69, tw_1038, by decide, by decide, by decide +kernel⟩
theorem kc_X7_habitComes : kVi mX7_habitComes yX7_habitComes 1 := ⟨⟨tw_1044, tw_25⟩, tw_69, tw_1045, by decide, by decide, by decide +kernel⟩
theorem kc_X7_saucerIs : kVi mX7_saucerIs yX7_saucerIs 2 := ⟨⟨tw_1060, tw_29⟩, tw_69, tw_1061, by decide, by decide, by decide +kernel⟩
theorem kc_X7_flatComes : kVi mX7_flatComes yX7_flatComes 2 := ⟨⟨tw_1052, tw_27⟩, tw_69, tw_1053, by decide, by decide, by decide +kernel⟩
theorem kc_X7_comes : kVi mX7_comes yX7_comes 1 := ⟨⟨tw_1033, tw_23⟩, tw_69, tw_1034, by decide, by decide, by decide +kernel⟩
theorem kc_X7_carry : kVi mX7_carry yX7_carry 1 := ⟨⟨tw_1029, tw_22⟩, tw_69, tw_1030, by decide, by decide, by decide +kernel⟩
theorem kc_X7_carryAll : kVi mX7_carryAll yX7_carryAll 2 := ⟨⟨tw_1025, tw_21⟩, tw_69, tw_1026, by decide, by decide, by decide +kernel⟩
theorem kc_X7_front : kVi mX7_front yX7_front 0 := ⟨⟨tw_986, tw_987⟩, tw_69, tw_988, by decide, by decide, by decide +kernel⟩
theorem kc_X7_image : kVi mX7_image yX7_image 0 := ⟨⟨tw_1066, tw_1067⟩, tw_69, tw_1068, by decide, by decide, by decide +kernel⟩
theorem kc_X7_restore : kVi mX7_restore yX7_restore 0 := ⟨⟨tw_1070, tw_1071⟩, tw_69, tw_1072, by decide, by decide, by decide +kernel⟩
theorem kc_X7_flat : kVi mX7_flat yX7_flat 2 := ⟨⟨tw_1074, tw_1075⟩, tw_69, tw_1076, by decide, by decide, by decide +kernel⟩
theorem kc_X7_habitsOf : kVi mX7_habitsOf yX7_habitsOf 1 := ⟨⟨tw_1095, tw_32⟩, tw_69, tw_1096, by decide, by decide, by decide +kernel⟩
theorem kc_X7_tenant : kVi mX7_tenant yX7_tenant 2 := ⟨⟨tw_1083, tw_1084⟩, tw_69, tw_1085, by decide, by decide, by decide +kernel⟩
theorem kc_X7_anger : kVi mX7_anger yX7_anger 2 := ⟨⟨tw_1098, tw_1099⟩, tw_69, tw_1100, by decide, by decide, by decide +kernel⟩
theorem kc_X7_habit : kVi mX7_habit yX7_habit 2 := ⟨⟨tw_1106, tw_1107⟩, tw_69, tw_1108, by decide, by decide, by decide +kernel⟩
theorem kc_X7_isTime : kSt mX7_isTime yX7_isTime 1 := ⟨tw_1119, tw_69, tw_1120, by decide, by decide, by decide +kernel⟩
theorem kc_X7_put : kVi mX7_put yX7_put 2 := ⟨⟨tw_1115, tw_1116⟩, tw_69, tw_1117, by decide, by decide, by decide +kernel⟩
theorem kc_X7_wrongNumber : kSt mX7_wrongNumber yX7_wrongNumber 3 := ⟨tw_1127, tw_69, tw_1128, by decide, by decide, by decide +kernel⟩
theorem kc_X7_saucer : kVi mX7_saucer yX7_saucer 2 := ⟨⟨tw_1123, tw_1124⟩, tw_69, tw_1125, by decide, by decide, by decide +kernel⟩
theorem kc_X7_awning : kVi mX7_awning yX7_awning 2 := ⟨⟨tw_1130, tw_1131⟩, tw_69, tw_1132, by decide, by decide, by decide +kernel⟩
theorem kc_X7_wash : kVi mX7_wash yX7_wash 3 := ⟨⟨tw_1134, tw_1135⟩, tw_69, tw_1136, by decide, by decide, by decide +kernel⟩
theorem kc_X7_wind : kVi mX7_wind yX7_wind 1 := ⟨⟨tw_1138, tw_1139⟩, tw_69, tw_1140, by decide, by decide, by decide +kernel⟩
theorem kc_X7_change : kVi mX7_change yX7_change 2 := ⟨⟨tw_1147, tw_35⟩, tw_69, tw_1148, by decide, by decide, by decide +kernel⟩
theorem kc_X7_move : kVi mX7_move yX7_move 2 := ⟨⟨tw_1142, tw_1143⟩, tw_69, tw_1144, by decide, by decide, by decide +kernel⟩
theorem kc_X7_rain : kVi mX7_rain yX7_rain 0 := ⟨⟨tw_1150, tw_1151⟩, tw_69, tw_1152, by decide, by decide, by decide +kernel⟩
theorem kc_X7_week : kVi mX7_week yX7_week 0 := ⟨⟨tw_1154, tw_1155⟩, tw_69, tw_1156, by decide, by decide, by decide +kernel⟩
theorem kc_X7_fallAlone : kVi mX7_fallAlone yX7_fallAlone 1 := ⟨⟨tw_1204, tw_46⟩, tw_69, tw_1205, by decide, by decide, by decide +kernel⟩
theorem kc_X7_steps : kVi mX7_steps yX7_steps 2 := ⟨⟨tw_1199, tw_1200⟩, tw_69, tw_1201, by decide, by decide, by decide +kernel⟩
theorem kc_X7_down : kVi mX7_down yX7_down 1 := ⟨⟨tw_1207, tw_1208⟩, tw_69, tw_1209, by decide, by decide, by decide +kernel⟩
theorem kc_X7_comesTo : kVi mX7_comesTo yX7_comesTo 2 := ⟨⟨tw_1216, tw_47⟩, tw_69, tw_1217, by decide, by decide, by decide +kernel⟩
theorem kc_X7_whom : kVi mX7_whom yX7_whom 2 := ⟨⟨tw_1211, tw_1212⟩, tw_69, tw_1213, by decide, by decide, by decide +kernel⟩
theorem kc_X7_does : kVi mX7_does yX7_does 2 := ⟨⟨tw_1219, tw_1220⟩, tw_69, tw_1221, by decide, by decide, by decide +kernel⟩
theorem kc_X7_harmed : kVi mX7_harmed yX7_harmed 2 := ⟨⟨tw_1223, tw_1224⟩, tw_69, tw_1225, by decide, by decide, by decide +kernel⟩
theorem kc_X7_least : kVi mX7_least yX7_least 2 := ⟨⟨tw_1227, tw_1228⟩, tw_69, tw_1229, by decide, by decide, by decide +kernel⟩
theorem kc_X7_hours : kVi mX7_hours yX7_hours 3 := ⟨⟨tw_1231, tw_1232⟩, tw_69, tw_1233, by decide, by decide, by decide +kernel⟩
theorem kc_X7_keepTimes : kVi mX7_keepTimes yX7_keepTimes 0 := ⟨⟨tw_1244, tw_49⟩, tw_69, tw_1245, by decide, by decide, by decide +kernel⟩
theorem kc_X7_timesBack : kVi mX7_timesBack yX7_timesBack 0 := ⟨⟨tw_1248, tw_50⟩, tw_69, tw_1249, by decide, by decide, by decide +kernel⟩
theorem kc_X7_quietHarm : kVi mX7_quietHarm yX7_quietHarm 2 := ⟨⟨tw_1240, tw_48⟩, tw_69, tw_1241, by decide, by decide, by decide +kernel⟩
theorem kc_X7_quiet : kVi mX7_quiet yX7_quiet 2 := ⟨⟨tw_1235, tw_1236⟩, tw_69, tw_1237, by decide, by decide, by decide +kernel⟩
theorem kc_X7_rule : kVi mX7_rule yX7_rule 0 := ⟨⟨tw_1251, tw_1252⟩, tw_69, tw_1253, by decide, by decide, by decide +kernel⟩
theorem kc_X7_hang : kVi mX7_hang yX7_hang 1 := ⟨⟨tw_1255, tw_1256⟩, tw_69, tw_1257, by decide, by decide, by decide +kernel⟩
theorem kc_X7_big : kVi mX7_big yX7_big 1 := ⟨⟨tw_1263, tw_1264⟩, tw_69, tw_1265, by decide, by decide, by decide +kernel⟩
theorem kc_X7_leads : kVi mX7_leads yX7_leads 1 := ⟨⟨tw_1267, tw_1268⟩, tw_69, tw_1269, by decide, by decide, by decide +kernel⟩
theorem kc_X7_keepHarm : kVi mX7_keepHarm yX7_keepHarm 0 := ⟨⟨tw_1276, tw_52⟩, tw_69, tw_1277, by decide, by decide, by decide +kernel⟩
theorem kc_X7_whose : kVi mX7_whose yX7_whose 2 := ⟨⟨tw_1271, tw_1272⟩, tw_69, tw_1273, by decide, by decide, by decide +kernel⟩
theorem kc_X7_weekBoth : kVi mX7_weekBoth yX7_weekBoth 2 := ⟨⟨tw_1285, tw_53⟩, tw_69, tw_1286, by decide, by decide, by decide +kernel⟩
theorem kc_X7_deal : kVi mX7_deal yX7_deal 2 := ⟨⟨tw_1279, tw_1280⟩, tw_69, tw_1281, by decide, by decide, by decide +kernel⟩
theorem kc_X7_pays : kVi mX7_pays yX7_pays 3 := ⟨⟨tw_1288, tw_1289⟩, tw_69, tw_1290, by decide, by decide, by decide +kernel⟩
theorem kc_X7_isAngry : kVi mX7_isAngry yX7_isAngry 1 := ⟨⟨tw_1301, tw_55⟩, tw_69, tw_1302, by decide, by decide, by decide +kernel⟩
theorem kc_X7_revenge : kVi mX7_revenge yX7_revenge 0 := ⟨⟨tw_1297, tw_54⟩, tw_69, tw_1298, by decide, by decide, by decide +kernel⟩
theorem kc_X7_climbs : kVi mX7_climbs yX7_climbs 0 := ⟨⟨tw_1292, tw_1293⟩, tw_69, tw_1294, by decide, by decide, by decide +kernel⟩
theorem kc_X7_worth : kVi mX7_worth yX7_worth 1 := ⟨⟨tw_1304, tw_1305⟩, tw_69, tw_1306, by decide, by decide, by decide +kernel⟩
theorem kc_X7_haveLess : kVi mX7_haveLess yX7_haveLess 2 := ⟨⟨tw_1317, tw_57⟩, tw_69, tw_1318, by decide, by decide, by decide +kernel⟩
theorem kc_X7_pairsOf : kVi mX7_pairsOf yX7_pairsOf 1 := ⟨⟨tw_1313, tw_56⟩, tw_69, tw_1314, by decide, by decide, by decide +kernel⟩
theorem kc_X7_isRing : kVi mX7_isRing yX7_isRing 3 := ⟨⟨tw_1325, tw_59⟩, tw_69, tw_1326, by decide, by decide, by decide +kernel⟩
theorem kc_X7_ringsOf : kVi mX7_ringsOf yX7_ringsOf 0 := ⟨⟨tw_1321, tw_58⟩, tw_69, tw_1322, by decide, by decide, by decide +kernel⟩
theorem kc_X7_swaps : kVi mX7_swaps yX7_swaps 1 := ⟨⟨tw_1308, tw_1309⟩, tw_69, tw_1310, by decide, by decide, by decide +kernel⟩
theorem kc_X7_divisor : kSt mX7_divisor yX7_divisor 2 := ⟨tw_1333, tw_69, tw_1334, by decide, by decide, by decide +kernel⟩
theorem kc_X7_peg : kVi mX7_peg yX7_peg 3 := ⟨⟨tw_1328, tw_1329⟩, tw_69, tw_1330, by decide, by decide, by decide +kernel⟩
theorem kc_X7_row : kVi mX7_row yX7_row 1 := ⟨⟨tw_1336, tw_1337⟩, tw_69, tw_1338, by decide, by decide, by decide +kernel⟩
theorem kc_X7_judge : kVi mX7_judge yX7_judge 0 := ⟨⟨tw_1340, tw_1341⟩, tw_69, tw_1342, by decide, by decide, by decide +kernel⟩
theorem kc_X7_seeds : kVi mX7_seeds yX7_seeds 2 := ⟨⟨tw_1344, tw_1345⟩, tw_69, tw_1346, by decide, by decide, by decide +kernel⟩
theorem kc_X7_sumOf : kSt mX7_sumOf yX7_sumOf 2 := ⟨tw_1355, tw_69, tw_1356, by decide, by decide, by decide +kernel⟩
theorem kc_X7_count : kVi mX7_count yX7_count 1 := ⟨⟨tw_1351, tw_1352⟩, tw_69, tw_1353, by decide, by decide, by decide +kernel⟩
end
section
abbrev isStr (i : Nat × Nat) : Prop := i.1 = 5 ∧ i.2 < 7
def f_J0_length_8abf5 (i0 : Nat × Nat) (t0 : Sg) : Option (Int32 × Sg) := some (nI (strLen.getD i0.2 0), t0)
def f_J0_isEmpty_aae02 (i0 : Nat × Nat) (t0 : Sg) : Option (Int32 × Sg) := some ((if strLen.getD i0.2 0 = 0 then 1 else 0), t0)
def f_J0_charAt_5068e (i0 : Nat × Nat) (v1 : Int32) (t0 : Sg) : Option (Int32 × Sg) := chk (inb v1 (strLen.getD i0.2 0)) (some ((strByt.getD i0.2 []).getD v1.toNatClampNeg 0, t0))
def f_J7_fill_53178_5 (i0 : Nat × Nat)  : Nat → Int32 → Int32 → Int32 → Sg → Option (Unit × Sg)
  | 0, _, _, _, _ => none
  | n + 1, v1, v2, v3, t0 =>
  (if v3 ≤ v2 then (some ((), t0)) else (chk (inb v2 (alen i0)) ((bv (upS t0 i0 (v2).toNatClampNeg v1) (fun t4 => ((f_J7_fill_53178_5 i0 n) v1 (v2 + (1 : Int32)) v3 t4))))))
def f_J7_fill_53178 (i0 : Nat × Nat) (v1 : Int32) (t0 : Sg) : Option (Unit × Sg) :=
  (bv ((Int32.ofNat (alen i0))) (fun x1 => (f_J7_fill_53178_5 i0 fuel v1 (0 : Int32) x1 t0)))
def f_X6_set (i0 : Nat × Nat) (v1 : Int32) (v2 : Int32) (t0 : Sg) : Option (Unit × Sg) :=
  (if v1 < 0 then (some ((), t0)) else (if (Int32.ofNat (alen i0)) ≤ v1 then (some ((), t0)) else (chk (inb v1 (alen i0)) ((bv (upS t0 i0 (v1).toNatClampNeg v2) (fun t4 => (some ((), t4))))))))
def f_X0_settle (h : Nat) (v1 : Int32) (v2 : Int32) (t0 : Sg) : Option (Unit × Sg) :=
  (bd (f_X6_set (h, 14) v1 v2 t0) (fun _ t2 => (bd (f_X6_set (h, 13) v2 v1 t2) (fun _ t5 => (some ((), t5))))))
def f_X0_build_76 (h : Nat) (k68 : Int32 → Int32 → Int32 → Sg → Option (Unit × Sg)) : Nat → Int32 → Int32 → Int32 → Int32 → Sg → Option (Unit × Sg)
  | 0, _, _, _, _, _ => none
  | n + 1, v1, v2, v3, v4, t0 =>
  (if v2 ≤ v4 then (k68 v1 v2 (v3 + (1 : Int32)) t0) else (bd (f_X0_settle h ((v3 * v2) + v4) ((v3 * (4 : Int32)) + v4) t0) (fun _ t27 => ((f_X0_build_76 h k68 n) v1 v2 v3 (v4 + (1 : Int32)) t27))))
def f_X0_build_68 (h : Nat)  : Nat → Int32 → Int32 → Int32 → Sg → Option (Unit × Sg)
  | 0, _, _, _, _ => none
  | n + 1, v1, v2, v3, t0 =>
  (if v1 ≤ v3 then (some ((), t0)) else (f_X0_build_76 h (f_X0_build_68 h n) fuel v1 v2 v3 (0 : Int32) t0))
def f_X0_build (h : Nat) (v1 : Int32) (v2 : Int32) (t0 : Sg) : Option (Unit × Sg) :=
  (bv (upS t0 (h, 7) 0 v1) (fun t1 => (bv (upS t1 (h, 7) 1 v2) (fun t2 => (bd (f_J7_fill_53178 (h, 8) (0 : Int32) t2) (fun _ t4 => (bd (f_J7_fill_53178 (h, 9) (0 : Int32) t4) (fun _ t7 => (bd (f_J7_fill_53178 (h, 10) (0 : Int32) t7) (fun _ t10 => (bd (f_J7_fill_53178 (h, 11) (0 : Int32) t10) (fun _ t13 => (bd (f_J7_fill_53178 (h, 12) (0 : Int32) t13) (fun _ t16 => (bd (f_J7_fill_53178 (h, 13) (-1 : Int32) t16) (fun _ t19 => (bd (f_J7_fill_53178 (h, 14) (-1 : Int32) t19) (fun _ t22 => (f_X0_build_68 h fuel v1 v2 (0 : Int32) t22)))))))))))))))))))
def f_X6_copy (i0 : Nat × Nat) (i1 : Nat × Nat) (t0 : Sg) : Option (Unit × Sg) :=
  (chk (¬ (jmin (Int32.ofNat (alen i0)) (Int32.ofNat (alen i1))) < 0 ∧ (jmin (Int32.ofNat (alen i0)) (Int32.ofNat (alen i1))).toNatClampNeg ≤ (alen i0) ∧ (jmin (Int32.ofNat (alen i0)) (Int32.ofNat (alen i1))).toNatClampNeg ≤ (alen i1)) ((bv (upA t0 i1 (va_cpy (t0 i0) (t0 i1) (0 : Int32).toNatClampNeg (0 : Int32).toNatClampNeg (jmin (Int32.ofNat (alen i0)) (Int32.ofNat (alen i1))).toNatClampNeg)) (fun t2 => (some ((), t2))))))
def f_X0_copyFrom (h : Nat) (g : Nat) (t0 : Sg) : Option (Unit × Sg) :=
  (bv (upS t0 (h, 7) 0 (t0 (g, 7) 0)) (fun t1 => (bv (upS t1 (h, 7) 1 (t1 (g, 7) 1)) (fun t2 => (bv (upS t2 (h, 7) 2 (t2 (g, 7) 2)) (fun t3 => (bd (f_X6_copy (g, 8) (h, 8) t3) (fun _ t5 => (bd (f_X6_copy (g, 9) (h, 9) t5) (fun _ t8 => (bd (f_X6_copy (g, 10) (h, 10) t8) (fun _ t11 => (bd (f_X6_copy (g, 11) (h, 11) t11) (fun _ t14 => (bd (f_X6_copy (g, 12) (h, 12) t14) (fun _ t17 => (bd (f_X6_copy (g, 13) (h, 13) t17) (fun _ t20 => (bd (f_X6_copy (g, 14) (h, 14) t20) (fun _ t23 => (some ((), t23))))))))))))))))))))))
def f_X0_tenants (h : Nat) (t0 : Sg) : Option (Int32 × Sg) :=
  (some (((t0 (h, 7) 0) * (t0 (h, 7) 1)), t0))
def f_X0_place (h : Nat) (v1 : Int32) (v2 : Int32) (t0 : Sg) : Option (Int32 × Sg) :=
  (bv ((if v1 < 0 then (0 : Int32) else (if (t0 (h, 7) 0) ≤ v1 then (0 : Int32) else (if v2 < 0 then (0 : Int32) else (if (t0 (h, 7) 1) ≤ v2 then (0 : Int32) else (1 : Int32)))))) (fun x6 => (some ((if x6 = 0 then (-1 : Int32) else ((v1 * (4 : Int32)) + v2)), t0))))
def f_X0_placeOf (h : Nat) (v1 : Int32) (t0 : Sg) : Option (Int32 × Sg) :=
  (if 0 ≤ v1 then (bd (f_X0_place h (v1 / (10 : Int32)) (v1 - v1 / (10 : Int32) * (10 : Int32)) t0) (fun x2 t3 => (some (x2, t3)))) else (some ((-1 : Int32), t0)))
def f_X0_flatAt (v0 : Int32) (t0 : Sg) : Option (Int32 × Sg) :=
  (some ((((v0 / (4 : Int32)) * (10 : Int32)) + (v0 - v0 / (4 : Int32) * (4 : Int32))), t0))
def f_X6_get (i0 : Nat × Nat) (v1 : Int32) (t0 : Sg) : Option (Int32 × Sg) :=
  (if v1 < 0 then (some ((0 : Int32), t0)) else (if (Int32.ofNat (alen i0)) ≤ v1 then (some ((0 : Int32), t0)) else (chk (inb v1 (alen i0)) ((some ((t0 i0 (v1).toNatClampNeg), t0))))))
def f_X0_change (h : Nat) (v1 : Int32) (v2 : Int32) (t0 : Sg) : Option (Unit × Sg) :=
  (bd (f_X6_get (h, 14) v1 t0) (fun x1 t2 => (bd (f_X6_get (h, 14) v2 t2) (fun x4 t5 => (bd (f_X0_settle h v1 x4 t5) (fun _ t8 => (bd (f_X0_settle h v2 x1 t8) (fun _ t11 => (some ((), t11))))))))))
def f_X0_ring (h : Nat) (v1 : Int32) (v2 : Int32) (v3 : Int32) (t0 : Sg) : Option (Unit × Sg) :=
  (bd (f_X6_get (h, 14) v1 t0) (fun x1 t2 => (bd (f_X6_get (h, 14) v2 t2) (fun x4 t5 => (bd (f_X0_settle h v1 x4 t5) (fun _ t8 => (bd (f_X6_get (h, 14) v3 t8) (fun x10 t11 => (bd (f_X0_settle h v2 x10 t11) (fun _ t14 => (bd (f_X0_settle h v3 x1 t14) (fun _ t17 => (some ((), t17))))))))))))))
def f_X0_setSaucer (h : Nat) (v1 : Int32) (v2 : Int32) (t0 : Sg) : Option (Unit × Sg) :=
  (bd (f_X6_set (h, 8) v1 v2 t0) (fun _ t2 => (bd (f_X6_get (h, 9) v1 t2) (fun x4 t5 => (bd (f_X6_set (h, 9) v1 (jmin x4 v2) t5) (fun _ t8 => (some ((), t8))))))))
def f_X0_setWashing (h : Nat) (v1 : Int32) (v2 : Int32) (v3 : Int32) (t0 : Sg) : Option (Unit × Sg) :=
  (bd (f_X6_set (h, 11) v1 v2 t0) (fun _ t2 => (bd (f_X6_set (h, 12) v1 v3 t2) (fun _ t5 => (some ((), t5))))))
def f_X0_dry_2 (h : Nat)  : Nat → Int32 → Sg → Option (Unit × Sg)
  | 0, _, _ => none
  | n + 1, v1, t0 =>
  (if (24 : Int32) ≤ v1 then (some ((), t0)) else (chk (inb v1 24) ((chk (inb v1 24) ((bv (upS t0 (h, 9) (v1).toNatClampNeg (jmax (0 : Int32) ((t0 (h, 9) (v1).toNatClampNeg) - (1 : Int32)))) (fun t4 => ((f_X0_dry_2 h n) (v1 + (1 : Int32)) t4))))))))
def f_X0_dry (h : Nat) (t0 : Sg) : Option (Unit × Sg) :=
  (f_X0_dry_2 h fuel (0 : Int32) t0)
def f_X1_add (h : Nat) (v1 : Int32) (v2 : Int32) (v3 : Int32) (v4 : Int32) (t0 : Sg) : Option (Unit × Sg) :=
  (if (8 : Int32) ≤ (t0 (h, 15) 0) then (some ((), t0)) else (bd (f_X6_set (h, 16) (t0 (h, 15) 0) v1 t0) (fun _ t3 => (bd (f_X6_set (h, 17) (t3 (h, 15) 0) v2 t3) (fun _ t6 => (bd (f_X6_set (h, 18) (t6 (h, 15) 0) v3 t6) (fun _ t9 => (bd (f_X6_set (h, 19) (t9 (h, 15) 0) v4 t9) (fun _ t12 => (bv (upS t12 (h, 15) 0 ((t12 (h, 15) 0) + (1 : Int32))) (fun t14 => (some ((), t14)))))))))))))
def f_X1_copyFrom (h : Nat) (g : Nat) (t0 : Sg) : Option (Unit × Sg) :=
  (bv (upS t0 (h, 15) 0 (t0 (g, 15) 0)) (fun t1 => (bd (f_X6_copy (g, 16) (h, 16) t1) (fun _ t3 => (bd (f_X6_copy (g, 17) (h, 17) t3) (fun _ t6 => (bd (f_X6_copy (g, 18) (h, 18) t6) (fun _ t9 => (bd (f_X6_copy (g, 19) (h, 19) t9) (fun _ t12 => (some ((), t12))))))))))))
def f_X1_countOf_4 (h : Nat)  : Nat → Int32 → Int32 → Int32 → Sg → Option (Int32 × Sg)
  | 0, _, _, _, _ => none
  | n + 1, v1, v2, v3, t0 =>
  (if (t0 (h, 15) 0) ≤ v3 then (some (v2, t0)) else (bd (f_X6_get (h, 16) v3 t0) (fun x2 t3 => (bv ((v2 + (if x2 = v1 then (1 : Int32) else (0 : Int32)))) (fun x7 => ((f_X1_countOf_4 h n) v1 x7 (v3 + (1 : Int32)) t3))))))
def f_X1_countOf (h : Nat) (v1 : Int32) (t0 : Sg) : Option (Int32 × Sg) :=
  (f_X1_countOf_4 h fuel v1 (0 : Int32) (0 : Int32) t0)
def f_X6_within (v0 : Int32) (v1 : Int32) (v2 : Int32) (t0 : Sg) : Option (Int32 × Sg) :=
  (some ((if v0 < v1 then (0 : Int32) else (if v2 < v0 then (0 : Int32) else (1 : Int32))), t0))
def f_X1_putOff_58 (h : Nat) (k13 : Int32 → Int32 → Int32 → Sg → Option (Unit × Sg)) (v1 : Int32) (v2 : Int32) (v3 : Int32) (t0 : Sg) : Option (Unit × Sg) :=
  (k13 v1 v2 (v3 + (1 : Int32)) t0)
def f_X1_putOff_13 (h : Nat)  : Nat → Int32 → Int32 → Int32 → Sg → Option (Unit × Sg)
  | 0, _, _, _, _ => none
  | n + 1, v1, v2, v3, t0 =>
  (if (t0 (h, 15) 0) ≤ v3 then (some ((), t0)) else (bd (f_X6_get (h, 19) v3 t0) (fun x4 t5 => (bd (f_X6_within x4 v1 v2 t5) (fun x7 t8 => (if x7 = 0 then (f_X1_putOff_58 h (f_X1_putOff_13 h n) v1 v2 v3 t8) else (bd (f_X6_set (h, 19) v3 (if v2 = (7 : Int32) then (0 : Int32) else (v2 + (1 : Int32))) t8) (fun _ t14 => (f_X1_putOff_58 h (f_X1_putOff_13 h n) v1 v2 v3 t14)))))))))
def f_X1_putOff_11 (h : Nat)  (v1 : Int32) (v2 : Int32) (t0 : Sg) : Option (Unit × Sg) :=
  (f_X1_putOff_13 h fuel v1 v2 (0 : Int32) t0)
def f_X1_putOff (h : Nat) (v1 : Int32) (v2 : Int32) (t0 : Sg) : Option (Unit × Sg) :=
  (if v1 = 0 then (if v2 = (7 : Int32) then (some ((), t0)) else (f_X1_putOff_11 h v1 v2 t0)) else (f_X1_putOff_11 h v1 v2 t0))
def f_X1_raise_45 (h : Nat) (k2 : Int32 → Int32 → Sg → Option (Unit × Sg)) (v1 : Int32) (v2 : Int32) (t0 : Sg) : Option (Unit × Sg) :=
  (k2 v1 (v2 + (1 : Int32)) t0)
def f_X1_raise_2 (h : Nat)  : Nat → Int32 → Int32 → Sg → Option (Unit × Sg)
  | 0, _, _, _ => none
  | n + 1, v1, v2, t0 =>
  (if (t0 (h, 15) 0) ≤ v2 then (some ((), t0)) else (bd (f_X6_get (h, 16) v2 t0) (fun x2 t3 => (if x2 = v1 then (bd (f_X6_get (h, 18) v2 t3) (fun x6 t7 => (bd (f_X6_set (h, 18) v2 (jmin (9 : Int32) (x6 + (1 : Int32))) t7) (fun _ t10 => (f_X1_raise_45 h (f_X1_raise_2 h n) v1 v2 t10))))) else (f_X1_raise_45 h (f_X1_raise_2 h n) v1 v2 t3)))))
def f_X1_raise (h : Nat) (v1 : Int32) (t0 : Sg) : Option (Unit × Sg) :=
  (f_X1_raise_2 h fuel v1 (0 : Int32) t0)
def f_X3_copyFrom (h : Nat) (g : Nat) (t0 : Sg) : Option (Unit × Sg) :=
  (bd (f_X6_copy (g, 21) (h, 21) t0) (fun _ t2 => (bd (f_X6_copy (g, 22) (h, 22) t2) (fun _ t5 => (bd (f_X6_copy (g, 23) (h, 23) t5) (fun _ t8 => (bd (f_X6_copy (g, 24) (h, 24) t8) (fun _ t11 => (bv (upS t11 (h, 20) 4 (t11 (g, 20) 4)) (fun t13 => (some ((), t13))))))))))))
def f_X2_copyFrom (h : Nat) (g : Nat) (t0 : Sg) : Option (Unit × Sg) :=
  (bd (f_X0_copyFrom h g t0) (fun _ t2 => (bd (f_X1_copyFrom h g t2) (fun _ t5 => (bd (f_X3_copyFrom h g t5) (fun _ t8 => (bv (upS t8 (h, 6) 4 (t8 (g, 6) 4)) (fun t10 => (some ((), t10))))))))))
def f_X3_beginWeek (h : Nat) (t0 : Sg) : Option (Unit × Sg) :=
  (bd (f_J7_fill_53178 (h, 23) (0 : Int32) t0) (fun _ t2 => (bd (f_J7_fill_53178 (h, 24) (0 : Int32) t2) (fun _ t5 => (bv (upS t5 (h, 20) 4 (0 : Int32)) (fun t7 => (some ((), t7))))))))
def f_X3_clear (h : Nat) (t0 : Sg) : Option (Unit × Sg) :=
  (bd (f_J7_fill_53178 (h, 21) (0 : Int32) t0) (fun _ t2 => (bd (f_J7_fill_53178 (h, 22) (0 : Int32) t2) (fun _ t5 => (bd (f_X3_beginWeek h t5) (fun _ t8 => (some ((), t8))))))))
def f_X2_build (h : Nat) (v1 : Int32) (v2 : Int32) (t0 : Sg) : Option (Unit × Sg) :=
  (bd (f_X0_build h v1 v2 t0) (fun _ t2 => (bv (upS t2 (h, 15) 0 (0 : Int32)) (fun t4 => (bd (f_X3_clear h t4) (fun _ t6 => (some ((), t6))))))))
def f_X5_room (h : Nat) (v1 : Int32) (v2 : Int32) (t0 : Sg) : Option (Int32 × Sg) :=
  (if v1 = (3 : Int32) then (some ((0 : Int32), t0)) else (if v1 = (4 : Int32) then (some ((0 : Int32), t0)) else (bd (f_X6_get (h, 8) v2 t0) (fun x3 t4 => (bd (f_X6_get (h, 9) v2 t4) (fun x6 t7 => (bv ((jmax (0 : Int32) (x3 - x6))) (fun x9 => (if v1 = (5 : Int32) then (some ((x9 / (2 : Int32)), t7)) else (some (x9, t7)))))))))))
def f_X5_hold_34 (h : Nat) (g : Nat) (q : Nat)  : Nat → Int32 → Int32 → Int32 → Int32 → Sg → Option (Unit × Sg)
  | 0, _, _, _, _, _ => none
  | n + 1, v4, v5, v6, v7, t0 =>
  (if v6 ≤ v7 then (some ((), t0)) else (if v5 ≤ 0 then (some ((), t0)) else (bd (f_X6_get (h, 26) v7 t0) (fun x11 t12 => (bd (f_X5_room g v4 x11 t12) (fun x14 t15 => (bv ((jmin v5 x14)) (fun x17 => (bd (f_X6_set (h, 27) v7 v5 t15) (fun _ t19 => (bd (f_X6_set (h, 28) v7 x17 t19) (fun _ t22 => (bv (upS t22 (h, 25) 3 (v7 + (1 : Int32))) (fun t24 => (bv ((v5 - x17)) (fun x25 => ((f_X5_hold_34 h g q n) v4 x25 v6 (v7 + (1 : Int32)) t24)))))))))))))))))
def f_X5_hold (h : Nat) (g : Nat) (q : Nat) (v3 : Int32) (t0 : Sg) : Option (Unit × Sg) :=
  (bd (f_X6_get (q, 17) v3 t0) (fun x1 t2 => (bd (f_X6_get (q, 18) v3 t2) (fun x4 t5 => (bv ((t5 (h, 25) 3)) (fun x7 => (bv (upS t5 (h, 25) 3 (0 : Int32)) (fun t8 => (f_X5_hold_34 h g q fuel x1 x4 x7 (0 : Int32) t8)))))))))
def f_X5_next_153 (h : Nat)  (v3 : Int32) (v4 : Int32) (t0 : Sg) : Option (Int32 × Sg) :=
  (bd (f_X0_place h (v3 - (1 : Int32)) v4 t0) (fun x15 t16 => (some (x15, t16))))
def f_X5_next (h : Nat) (v1 : Int32) (v2 : Int32) (t0 : Sg) : Option (Int32 × Sg) :=
  (bv ((v2 / (4 : Int32))) (fun x1 => (bv ((v2 - v2 / (4 : Int32) * (4 : Int32))) (fun x2 => (if v1 = (1 : Int32) then (bd (f_X0_place h (x1 - (1 : Int32)) (x2 + (t0 (h, 7) 2)) t0) (fun x4 t5 => (some (x4, t5)))) else (if v1 = (2 : Int32) then (bd (f_X6_get (h, 10) v2 t0) (fun x8 t9 => (bd (f_X0_place h (x1 - (1 : Int32)) (x2 + x8) t9) (fun x11 t12 => (some (x11, t12)))))) else (if v1 = (3 : Int32) then (f_X5_next_153 h x1 x2 t0) else (if v1 = (4 : Int32) then (bd (f_X0_place h (x1 + (1 : Int32)) x2 t0) (fun x19 t20 => (bd (f_X6_get (h, 10) x19 t20) (fun x22 t23 => (some ((if x22 = 0 then x19 else (-1 : Int32)), t23)))))) else (if v1 = (5 : Int32) then (bv ((if (t0 (h, 7) 2) = 0 then (if x1 < (2 : Int32) then (0 : Int32) else (1 : Int32)) else (0 : Int32))) (fun x31 => (bd (f_X0_place h (if x31 = 0 then (x1 - (1 : Int32)) else (x1 - (2 : Int32))) (x2 + (t0 (h, 7) 2)) t0) (fun x34 t35 => (some (x34, t35)))))) else (f_X5_next_153 h x1 x2 t0))))))))))
def f_X5_trace_41 (h : Nat) (g : Nat) (q : Nat)  : Nat → Int32 → Int32 → Int32 → Sg → Option (Unit × Sg)
  | 0, _, _, _, _ => none
  | n + 1, v4, v5, v6, t0 =>
  (if (6 : Int32) ≤ v6 then (some ((), t0)) else (if v5 < 0 then (some ((), t0)) else (bd (f_X6_set (h, 26) v6 v5 t0) (fun _ t17 => (bv (upS t17 (h, 25) 3 (v6 + (1 : Int32))) (fun t19 => (bd (f_X5_next g v4 v5 t19) (fun x20 t21 => ((f_X5_trace_41 h g q n) v4 x20 (v6 + (1 : Int32)) t21)))))))))
def f_X5_trace (h : Nat) (g : Nat) (q : Nat) (v3 : Int32) (t0 : Sg) : Option (Unit × Sg) :=
  (bv (upS t0 (h, 25) 3 (0 : Int32)) (fun t1 => (bd (f_X6_get (q, 17) v3 t1) (fun x2 t3 => (bd (f_X6_get (q, 16) v3 t3) (fun x5 t6 => (bd (f_X6_get (g, 14) x5 t6) (fun x8 t9 => (bd (f_X5_next g x2 x8 t9) (fun x11 t12 => (f_X5_trace_41 h g q fuel x2 x11 (0 : Int32) t12)))))))))))
def f_X2_follow (h : Nat) (v1 : Int32) (t0 : Sg) : Option (Unit × Sg) :=
  (bd (f_X5_trace h h h v1 t0) (fun _ t2 => (bd (f_X5_hold h h h v1 t2) (fun _ t5 => (some ((), t5))))))
def f_X2_trace (h : Nat) (v1 : Int32) (t0 : Sg) : Option (Unit × Sg) :=
  (bd (f_X5_trace h h h v1 t0) (fun _ t2 => (some ((), t2))))
def f_X2_harmAt (h : Nat) (v1 : Int32) (v2 : Int32) (t0 : Sg) : Option (Int32 × Sg) :=
  (bd (f_X6_get (h, 26) v2 t0) (fun x1 t2 => (bd (f_X6_get (h, 11) x1 t2) (fun x4 t5 => (bd (f_X6_get (h, 12) x1 t5) (fun x7 t8 => (bd (f_X6_get (h, 19) v1 t8) (fun x10 t11 => (bv ((if ((x7 >>> (x10 &&& 31)) &&& (1 : Int32)) = (1 : Int32) then (1 : Int32) else (0 : Int32))) (fun x15 => (if x4 = 0 then (some ((0 : Int32), t11)) else (if x15 = 0 then (some ((0 : Int32), t11)) else (bd (f_X6_get (h, 27) v2 t11) (fun x18 t19 => (bv ((jmin x4 x18)) (fun x21 => (bd (f_X6_get (h, 17) v1 t19) (fun x22 t23 => (if x22 = (1 : Int32) then (some ((x21 / (2 : Int32)), t23)) else (if x22 = (2 : Int32) then (some (x21, t23)) else (if x22 = (3 : Int32) then (some (((2 : Int32) * x21), t23)) else (if x22 = (4 : Int32) then (some ((1 : Int32), t23)) else (if x22 = (5 : Int32) then (some (((x21 / (2 : Int32)) + (2 : Int32)), t23)) else (some (x21, t23)))))))))))))))))))))))))
def f_X3_pair (v0 : Int32) (v1 : Int32) (t0 : Sg) : Option (Int32 × Sg) :=
  (some (((v0 * (24 : Int32)) + v1), t0))
def f_X3_note (h : Nat) (v1 : Int32) (v2 : Int32) (v3 : Int32) (t0 : Sg) : Option (Unit × Sg) :=
  (if 0 < v3 then (bv (upS t0 (h, 20) 4 ((t0 (h, 20) 4) + v3)) (fun t2 => (bd (f_X6_get (h, 23) v1 t2) (fun x3 t4 => (bd (f_X6_set (h, 23) v1 (x3 + v3) t4) (fun _ t7 => (bd (f_X6_get (h, 24) v1 t7) (fun x9 t10 => (bd (f_X6_set (h, 24) v1 (x9 ||| ((1 : Int32) <<< (v2 &&& 31))) t10) (fun _ t13 => (bd (f_X6_get (h, 21) v1 t13) (fun x15 t16 => (bd (f_X6_set (h, 21) v1 (jmin (99999 : Int32) (x15 + v3)) t16) (fun _ t19 => (if v1 = v2 then (some ((), t19)) else (bd (f_X3_pair v1 v2 t19) (fun x22 t23 => (bd (f_X6_get (h, 22) x22 t23) (fun x25 t26 => (bd (f_X6_set (h, 22) x22 (jmin (999 : Int32) (x25 + v3)) t26) (fun _ t29 => (some ((), t29))))))))))))))))))))))) else (some ((), t0)))
def f_X2_fall_46 (h : Nat)  : Nat → Int32 → Int32 → Int32 → Sg → Option (Unit × Sg)
  | 0, _, _, _, _ => none
  | n + 1, v1, v2, v3, t0 =>
  (if (t0 (h, 25) 3) ≤ v3 then (some ((), t0)) else (bd (f_X6_get (h, 26) v3 t0) (fun x11 t12 => (bd (f_X6_get (h, 13) x11 t12) (fun x14 t15 => (bd (f_X2_harmAt h v1 v3 t15) (fun x17 t18 => (bd (f_X3_note h x14 v2 x17 t18) (fun _ t21 => (bd (f_X6_get (h, 9) x11 t21) (fun x23 t24 => (bd (f_X6_get (h, 28) v3 t24) (fun x26 t27 => (bd (f_X6_set (h, 9) x11 (x23 + x26) t27) (fun _ t30 => ((f_X2_fall_46 h n) v1 v2 (v3 + (1 : Int32)) t30))))))))))))))))
def f_X2_fall (h : Nat) (v1 : Int32) (t0 : Sg) : Option (Unit × Sg) :=
  (bd (f_X5_trace h h h v1 t0) (fun _ t2 => (bd (f_X5_hold h h h v1 t2) (fun _ t5 => (bd (f_X6_get (h, 16) v1 t5) (fun x7 t8 => (f_X2_fall_46 h fuel v1 x7 (0 : Int32) t8)))))))
def f_X2_spendWeek_48 (h : Nat) (k9 : Int32 → Sg → Option (Int32 × Sg)) (k17 : Int32 → Int32 → Sg → Option (Int32 × Sg)) (v1 : Int32) (v2 : Int32) (t0 : Sg) : Option (Int32 × Sg) :=
  (k17 v1 (v2 + (1 : Int32)) t0)
def f_X2_spendWeek_17 (h : Nat) (k9 : Int32 → Sg → Option (Int32 × Sg)) : Nat → Int32 → Int32 → Sg → Option (Int32 × Sg)
  | 0, _, _, _ => none
  | n + 1, v1, v2, t0 =>
  (if (t0 (h, 15) 0) ≤ v2 then (k9 (v1 + (1 : Int32)) t0) else (bd (f_X6_get (h, 19) v2 t0) (fun x10 t11 => (if x10 = v1 then (bd (f_X2_fall h v2 t11) (fun _ t15 => (f_X2_spendWeek_48 h k9 (f_X2_spendWeek_17 h k9 n) v1 v2 t15))) else (f_X2_spendWeek_48 h k9 (f_X2_spendWeek_17 h k9 n) v1 v2 t11)))))
def f_X2_spendWeek_9 (h : Nat)  : Nat → Int32 → Sg → Option (Int32 × Sg)
  | 0, _, _ => none
  | n + 1, v1, t0 =>
  (if (8 : Int32) ≤ v1 then (bd (f_X0_dry h t0) (fun _ t6 => (bv (upS t6 (h, 6) 4 ((t6 (h, 6) 4) + (1 : Int32))) (fun t8 => (some ((t8 (h, 20) 4), t8)))))) else (f_X2_spendWeek_17 h (f_X2_spendWeek_9 h n) fuel v1 (0 : Int32) t0))
def f_X2_spendWeek (h : Nat) (t0 : Sg) : Option (Int32 × Sg) :=
  (bd (f_X3_beginWeek h t0) (fun _ t2 => (f_X2_spendWeek_9 h fuel (0 : Int32) t2)))
def f_X3_isAngry_52 (h : Nat) (k2 : Int32 → Int32 → Sg → Option (Int32 × Sg)) (v1 : Int32) (v2 : Int32) (t0 : Sg) : Option (Int32 × Sg) :=
  (k2 v1 (v2 + (1 : Int32)) t0)
def f_X3_isAngry_2 (h : Nat)  : Nat → Int32 → Int32 → Sg → Option (Int32 × Sg)
  | 0, _, _, _ => none
  | n + 1, v1, v2, t0 =>
  (if (24 : Int32) ≤ v2 then (some ((0 : Int32), t0)) else (bd (f_X6_get (h, 24) v1 t0) (fun x2 t3 => (bv ((if ((x2 >>> (v2 &&& 31)) &&& (1 : Int32)) = (1 : Int32) then (1 : Int32) else (0 : Int32))) (fun x7 => (if x7 = 0 then (f_X3_isAngry_52 h (f_X3_isAngry_2 h n) v1 v2 t3) else (bd (f_X3_pair v1 v2 t3) (fun x9 t10 => (bd (f_X6_get (h, 22) x9 t10) (fun x12 t13 => (if x12 < (5 : Int32) then (f_X3_isAngry_52 h (f_X3_isAngry_2 h n) v1 v2 t13) else (some ((1 : Int32), t13)))))))))))))
def f_X3_isAngry (h : Nat) (v1 : Int32) (t0 : Sg) : Option (Int32 × Sg) :=
  (f_X3_isAngry_2 h fuel v1 (0 : Int32) t0)
def f_X2_takeRevenge_32 (h : Nat) (k2 : Int32 → Sg → Option (Unit × Sg)) (v1 : Int32) (t0 : Sg) : Option (Unit × Sg) :=
  (k2 (v1 + (1 : Int32)) t0)
def f_X2_takeRevenge_2 (h : Nat)  : Nat → Int32 → Sg → Option (Unit × Sg)
  | 0, _, _ => none
  | n + 1, v1, t0 =>
  (bd (f_X0_tenants h t0) (fun x1 t2 => (if x1 ≤ v1 then (some ((), t2)) else (bd (f_X3_isAngry h v1 t2) (fun x5 t6 => (if x5 = 0 then (f_X2_takeRevenge_32 h (f_X2_takeRevenge_2 h n) v1 t6) else (bd (f_X1_raise h v1 t6) (fun _ t10 => (f_X2_takeRevenge_32 h (f_X2_takeRevenge_2 h n) v1 t10)))))))))
def f_X2_takeRevenge (h : Nat) (t0 : Sg) : Option (Unit × Sg) :=
  (f_X2_takeRevenge_2 h fuel (0 : Int32) t0)
def f_X4_add (v1 : Int32) (t0 : Sg) : Option (Int32 × Sg) :=
  (if (96 : Int32) ≤ (t0 (0, 4) 1) then (some ((t0 (0, 4) 1), t0)) else (bd (f_X6_set (0, 5) (t0 (0, 4) 1) v1 t0) (fun _ t3 => (bv (upS t3 (0, 4) 1 ((t3 (0, 4) 1) + (1 : Int32))) (fun t5 => (some ((t5 (0, 4) 1), t5)))))))
def f_X4_letter (v1 : Int32) (t0 : Sg) : Option (Int32 × Sg) :=
  (if v1 < 0 then (some ((-1 : Int32), t0)) else (if (t0 (0, 4) 1) ≤ v1 then (some ((-1 : Int32), t0)) else (bd (f_X6_get (0, 5) v1 t0) (fun x3 t4 => (some (x3, t4))))))
def f_X4_digit (v1 : Int32) (t0 : Sg) : Option (Int32 × Sg) :=
  (bd (f_X4_letter v1 t0) (fun x1 t2 => (bd (f_X6_within x1 (48 : Int32) (57 : Int32) t2) (fun x4 t5 => (some ((if x4 = 0 then (-1 : Int32) else (x1 - (48 : Int32))), t5))))))
def f_X4_sign (v1 : Int32) (t0 : Sg) : Option (Int32 × Sg) :=
  (bd (f_X4_letter v1 t0) (fun x1 t2 => (if x1 = (43 : Int32) then (some ((1 : Int32), t2)) else (if x1 = (45 : Int32) then (some ((-1 : Int32), t2)) else (if x1 = (48 : Int32) then (some ((0 : Int32), t2)) else (some ((-2 : Int32), t2)))))))
def f_X4_carryOutFront_42 (h : Nat)  (v3 : Int32) (v4 : Int32) (w0 : Int32) (t0 : Sg) : Option (Int32 × Sg) :=
  (if w0 = 0 then (chk (w0 = 0 ∨ w0 = 1) ((some (w0, t0)))) else (bd (f_X2_build h v3 v4 t0) (fun _ t14 => (chk (w0 = 0 ∨ w0 = 1) ((some (w0, t14)))))))
def f_X4_carryOutFront_41 (h : Nat)  (v3 : Int32) (v4 : Int32) (t0 : Sg) : Option (Int32 × Sg) :=
  (f_X4_carryOutFront_42 h v3 v4 (0 : Int32) t0)
def f_X4_carryOutFront (v1 : Int32) (h : Nat) (t0 : Sg) : Option (Int32 × Sg) :=
  (bd (f_X4_digit (v1 + (1 : Int32)) t0) (fun x1 t2 => (bd (f_X4_digit (v1 + (2 : Int32)) t2) (fun x4 t5 => (bd (f_X6_within x1 (2 : Int32) (6 : Int32) t5) (fun x7 t8 => (if x7 = 0 then (f_X4_carryOutFront_41 h x1 x4 t8) else (bd (f_X6_within x4 (1 : Int32) (4 : Int32) t8) (fun x17 t18 => (if x17 = 0 then (f_X4_carryOutFront_41 h x1 x4 t18) else (f_X4_carryOutFront_42 h x1 x4 (1 : Int32) t18)))))))))))
def f_X6_isHour (v0 : Int32) (t0 : Sg) : Option (Int32 × Sg) :=
  (bd (f_X6_within v0 (0 : Int32) (7 : Int32) t0) (fun x1 t2 => (chk (x1 = 0 ∨ x1 = 1) ((some (x1, t2))))))
def f_X4_carryOutHabit_126 (h : Nat)  (v4 : Int32) (v5 : Int32) (v6 : Int32) (v7 : Int32) (w0 : Int32) (t0 : Sg) : Option (Int32 × Sg) :=
  (if w0 = 0 then (chk (w0 = 0 ∨ w0 = 1) ((some (w0, t0)))) else (bd (f_X4_digit (v5 + (1 : Int32)) t0) (fun x26 t27 => (bd (f_X1_add h v4 v6 x26 v7 t27) (fun _ t30 => (chk (w0 = 0 ∨ w0 = 1) ((some (w0, t30)))))))))
def f_X4_carryOutHabit_125 (h : Nat)  (v4 : Int32) (v5 : Int32) (v6 : Int32) (v7 : Int32) (t0 : Sg) : Option (Int32 × Sg) :=
  (f_X4_carryOutHabit_126 h v4 v5 v6 v7 (0 : Int32) t0)
def f_X4_carryOutHabit_48 (h : Nat)  (v1 : Int32) (v3 : Int32) (w0 : Int32) (t0 : Sg) : Option (Int32 × Sg) :=
  (bv ((if v3 = 0 then (v1 + (3 : Int32)) else (v1 + (4 : Int32)))) (fun x13 => (bd (f_X4_digit x13 t0) (fun x14 t15 => (bd (f_X4_digit (x13 + (2 : Int32)) t15) (fun x17 t18 => (bd (f_X0_tenants h t18) (fun x20 t21 => (if x20 ≤ w0 then (f_X4_carryOutHabit_125 h w0 x13 x14 x17 t21) else (if (5 : Int32) < x14 then (f_X4_carryOutHabit_125 h w0 x13 x14 x17 t21) else (bd (f_X6_isHour x17 t21) (fun x34 t35 => (if x34 = 0 then (f_X4_carryOutHabit_125 h w0 x13 x14 x17 t35) else (if (8 : Int32) ≤ (t35 (h, 15) 0) then (f_X4_carryOutHabit_125 h w0 x13 x14 x17 t35) else (f_X4_carryOutHabit_126 h w0 x13 x14 x17 (1 : Int32) t35)))))))))))))))
def f_X4_carryOutHabit (v1 : Int32) (h : Nat) (t0 : Sg) : Option (Int32 × Sg) :=
  (bd (f_X4_digit (v1 + (2 : Int32)) t0) (fun x1 t2 => (bv ((if x1 < 0 then (0 : Int32) else (1 : Int32))) (fun x6 => (if x6 = 0 then (bd (f_X4_digit (v1 + (1 : Int32)) t2) (fun x8 t9 => (f_X4_carryOutHabit_48 h v1 x6 x8 t9))) else (bd (f_X4_digit (v1 + (1 : Int32)) t2) (fun x39 t40 => (bd (f_X4_digit (v1 + (2 : Int32)) t40) (fun x42 t43 => (f_X4_carryOutHabit_48 h v1 x6 (((10 : Int32) * x39) + x42) t43))))))))))
def f_X4_hoursFrom_2   : Nat → Int32 → Int32 → Sg → Option (Int32 × Sg)
  | 0, _, _, _ => none
  | n + 1, v1, v2, t0 =>
  (if (8 : Int32) ≤ v2 then (some ((8 : Int32), t0)) else (bd (f_X4_digit (v1 + v2) t0) (fun x2 t3 => (bd (f_X6_isHour x2 t3) (fun x5 t6 => (if x5 = 0 then (some (v2, t6)) else ((f_X4_hoursFrom_2 n) v1 (v2 + (1 : Int32)) t6)))))))
def f_X4_hoursFrom (v1 : Int32) (t0 : Sg) : Option (Int32 × Sg) :=
  (f_X4_hoursFrom_2 fuel v1 (0 : Int32) t0)
def f_X4_hourBits_11   : Nat → Int32 → Int32 → Int32 → Int32 → Sg → Option (Int32 × Sg)
  | 0, _, _, _, _, _ => none
  | n + 1, v1, v2, v3, v4, t0 =>
  (if v3 ≤ v4 then (some (v2, t0)) else (bd (f_X4_digit (v1 + v4) t0) (fun x5 t6 => (bv ((v2 ||| ((1 : Int32) <<< (x5 &&& 31)))) (fun x8 => ((f_X4_hourBits_11 n) v1 x8 v3 (v4 + (1 : Int32)) t6))))))
def f_X4_hourBits (v1 : Int32) (t0 : Sg) : Option (Int32 × Sg) :=
  (bd (f_X4_hoursFrom v1 t0) (fun x1 t2 => (f_X4_hourBits_11 fuel v1 (0 : Int32) x1 (0 : Int32) t2)))
def f_X4_carryOut (v1 : Int32) (h : Nat) (t0 : Sg) : Option (Int32 × Sg) :=
  (bd (f_X4_letter v1 t0) (fun x1 t2 => (if x1 = (98 : Int32) then (bd (f_X4_sign (v1 + (1 : Int32)) t2) (fun x5 t6 => (bv (upS t6 (h, 7) 2 x5) (fun t8 => (some ((1 : Int32), t8)))))) else (bd (f_X4_letter v1 t2) (fun x9 t10 => (if x9 = (102 : Int32) then (bd (f_X4_carryOutFront v1 h t10) (fun x13 t14 => (chk (x13 = 0 ∨ x13 = 1) ((some (x13, t14)))))) else (bd (f_X4_letter v1 t10) (fun x17 t18 => (if x17 = (104 : Int32) then (bd (f_X4_carryOutHabit v1 h t18) (fun x21 t22 => (chk (x21 = 0 ∨ x21 = 1) ((some (x21, t22)))))) else (bd (f_X4_digit (v1 + (1 : Int32)) t18) (fun x25 t26 => (bd (f_X4_digit (v1 + (2 : Int32)) t26) (fun x28 t29 => (bd (f_X0_place h x25 x28 t29) (fun x31 t32 => (if 0 ≤ x31 then (bd (f_X4_letter v1 t32) (fun x35 t36 => (if x35 = (97 : Int32) then (bd (f_X4_sign (v1 + (3 : Int32)) t36) (fun x39 t40 => (bd (f_X6_set (h, 10) x31 x39 t40) (fun _ t43 => (some ((1 : Int32), t43)))))) else (if x35 = (115 : Int32) then (bd (f_X4_digit (v1 + (3 : Int32)) t36) (fun x46 t47 => (bd (f_X0_setSaucer h x31 x46 t47) (fun _ t50 => (some ((1 : Int32), t50)))))) else (bd (f_X4_digit (v1 + (3 : Int32)) t36) (fun x52 t53 => (bd (f_X4_hourBits (v1 + (4 : Int32)) t53) (fun x55 t56 => (bd (f_X0_setWashing h x31 x52 x55 t56) (fun _ t59 => (some ((1 : Int32), t59)))))))))))) else (some ((0 : Int32), t32))))))))))))))))))
def f_X4_tell_46 (h : Nat) (k4 : Int32 → Int32 → Sg → Option (Int32 × Sg)) (v2 : Int32) (v3 : Int32) (t0 : Sg) : Option (Int32 × Sg) :=
  (k4 v2 (v3 + (1 : Int32)) t0)
def f_X4_tell_28 (h : Nat) (k4 : Int32 → Int32 → Sg → Option (Int32 × Sg)) (v2 : Int32) (v3 : Int32) (t0 : Sg) : Option (Int32 × Sg) :=
  (bd (f_X4_carryOut v3 h t0) (fun x3 t4 => (if x3 = 0 then (some (((-2000 : Int32) - v3), t4)) else (f_X4_tell_46 h k4 (v2 + (1 : Int32)) v3 t4))))
def f_X4_tell_4 (h : Nat)  : Nat → Int32 → Int32 → Sg → Option (Int32 × Sg)
  | 0, _, _, _ => none
  | n + 1, v2, v3, t0 =>
  (if (t0 (0, 4) 1) ≤ v3 then (some (v2, t0)) else (if v3 = 0 then (f_X4_tell_28 h (f_X4_tell_4 h n) v2 v3 t0) else (bd (f_X4_letter (v3 - (1 : Int32)) t0) (fun x7 t8 => (if x7 = (59 : Int32) then (f_X4_tell_28 h (f_X4_tell_4 h n) v2 v3 t8) else (f_X4_tell_46 h (f_X4_tell_4 h n) v2 v3 t8))))))
def f_X4_tell (h : Nat) (t0 : Sg) : Option (Int32 × Sg) :=
  (f_X4_tell_4 h fuel (0 : Int32) (0 : Int32) t0)
def f_X4_formOf (v0 : Int32) (t0 : Sg) : Option ((Nat × Nat) × Sg) :=
  (if v0 = (97 : Int32) then (some (((5, 2) : Nat × Nat), t0)) else (if v0 = (98 : Int32) then (some (((5, 4) : Nat × Nat), t0)) else (if v0 = (102 : Int32) then (some (((5, 0) : Nat × Nat), t0)) else (if v0 = (104 : Int32) then (some (((5, 5) : Nat × Nat), t0)) else (if v0 = (115 : Int32) then (some (((5, 1) : Nat × Nat), t0)) else (if v0 = (119 : Int32) then (some (((5, 3) : Nat × Nat), t0)) else (some (((5, 6) : Nat × Nat), t0))))))))
def f_X4_lengthOf (v1 : Int32) (v2 : Int32) (t0 : Sg) : Option (Int32 × Sg) :=
  (if v1 = (100 : Int32) then (bd (f_X4_digit v2 t0) (fun x2 t3 => (some ((if x2 < 0 then (-1 : Int32) else (1 : Int32)), t3)))) else (if v1 = (104 : Int32) then (bd (f_X4_hoursFrom v2 t0) (fun x8 t9 => (some (x8, t9)))) else (if v1 = (111 : Int32) then (bd (f_X4_digit v2 t0) (fun x12 t13 => (some ((if x12 < 0 then (0 : Int32) else (1 : Int32)), t13)))) else (if v1 = (115 : Int32) then (bd (f_X4_sign v2 t0) (fun x18 t19 => (some ((if x18 = (-2 : Int32) then (-1 : Int32) else (1 : Int32)), t19)))) else (bd (f_X4_letter v2 t0) (fun x23 t24 => (some ((if x23 = v1 then (1 : Int32) else (-1 : Int32)), t24))))))))
def f_X4_statementEnd_27   : Nat → (Nat × Nat) → Int32 → Int32 → Sg → Option (Int32 × Sg)
  | 0, _, _, _, _ => none
  | n + 1, v2, v3, v4, t0 =>
  (chk (isStr v2) ((bd (f_J0_length_8abf5 v2 t0) (fun x15 t16 => (if x15 ≤ v4 then (chk (isStr v2) ((bd (f_J0_isEmpty_aae02 v2 t16) (fun x20 t21 => (some ((if x20 = 0 then v3 else ((-1 : Int32) - v3)), t21)))))) else (chk (isStr v2) ((bd (f_J0_charAt_5068e v2 v4 t16) (fun x26 t27 => (bd (f_X4_lengthOf x26 v3 t27) (fun x29 t30 => (if 0 ≤ x29 then (bv ((v3 + x29)) (fun x33 => ((f_X4_statementEnd_27 n) v2 x33 (v4 + (1 : Int32)) t30))) else (some (((-1 : Int32) - v3), t30))))))))))))))
def f_X4_statementEnd (v1 : Int32) (t0 : Sg) : Option (Int32 × Sg) :=
  (bd (f_X4_letter v1 t0) (fun x1 t2 => (bd (f_X4_formOf x1 t2) (fun x4 t5 => (chk (isStr x4) ((bd (f_J0_isEmpty_aae02 x4 t5) (fun x8 t9 => (bv ((if x8 = 0 then (v1 + (1 : Int32)) else v1)) (fun x13 => (f_X4_statementEnd_27 fuel x4 x13 (0 : Int32) t9)))))))))))
def f_X4_formFault_4   : Nat → Int32 → Int32 → Sg → Option (Int32 × Sg)
  | 0, _, _, _ => none
  | n + 1, v1, v2, t0 =>
  (if (96 : Int32) ≤ v2 then (some (v1, t0)) else (bd (f_X4_statementEnd v1 t0) (fun x2 t3 => (if 0 ≤ x2 then (if x2 < (t3 (0, 4) 1) then ((f_X4_formFault_4 n) x2 (v2 + (1 : Int32)) t3) else (some ((-1 : Int32), t3))) else (some (((-1 : Int32) - x2), t3))))))
def f_X4_formFault  (t0 : Sg) : Option (Int32 × Sg) :=
  (f_X4_formFault_4 fuel (0 : Int32) (0 : Int32) t0)
def f_X5_comesTo_2 (h : Nat)  : Nat → Int32 → Int32 → Sg → Option (Int32 × Sg)
  | 0, _, _, _ => none
  | n + 1, v1, v2, t0 =>
  (if (t0 (h, 25) 3) ≤ v2 then (some ((0 : Int32), t0)) else (bd (f_X6_get (h, 26) v2 t0) (fun x2 t3 => (if x2 = v1 then (some ((1 : Int32), t3)) else ((f_X5_comesTo_2 h n) v1 (v2 + (1 : Int32)) t3)))))
def f_X5_comesTo (h : Nat) (v1 : Int32) (t0 : Sg) : Option (Int32 × Sg) :=
  (f_X5_comesTo_2 h fuel v1 (0 : Int32) t0)
def f_X6_sum_4 (i0 : Nat × Nat)  : Nat → Int32 → Int32 → Sg → Option (Int32 × Sg)
  | 0, _, _, _ => none
  | n + 1, v1, v2, t0 =>
  (if (Int32.ofNat (alen i0)) ≤ v2 then (some (v1, t0)) else (chk (inb v2 (alen i0)) ((bv ((v1 + (t0 i0 (v2).toNatClampNeg))) (fun x3 => ((f_X6_sum_4 i0 n) x3 (v2 + (1 : Int32)) t0))))))
def f_X6_sum (i0 : Nat × Nat) (t0 : Sg) : Option (Int32 × Sg) :=
  (f_X6_sum_4 i0 fuel (0 : Int32) (0 : Int32) t0)
def f_X6_refuse (v1 : Int32) (t0 : Sg) : Option (Int32 × Sg) :=
  (bd (f_X6_get (0, 2) (-v1) t0) (fun x1 t2 => (bd (f_X6_set (0, 2) (-v1) (x1 + (1 : Int32)) t2) (fun _ t5 => (some (v1, t5))))))
def f_X6_isTenant (v1 : Int32) (t0 : Sg) : Option (Int32 × Sg) :=
  (bd (f_X0_tenants 1 t0) (fun x1 t2 => (bd (f_X6_within v1 (0 : Int32) (x1 - (1 : Int32)) t2) (fun x4 t5 => (chk (x4 = 0 ∨ x4 = 1) ((some (x4, t5))))))))
def f_X6_isHabit (v1 : Int32) (t0 : Sg) : Option (Int32 × Sg) :=
  (bd (f_X6_within v1 (0 : Int32) ((t0 (1, 15) 0) - (1 : Int32)) t0) (fun x1 t2 => (chk (x1 = 0 ∨ x1 = 1) ((some (x1, t2))))))
def f_X6_tryAnew  (t0 : Sg) : Option (Unit × Sg) :=
  (bd (f_X0_copyFrom 3 1 t0) (fun _ t2 => (bd (f_X1_copyFrom 3 1 t2) (fun _ t5 => (some ((), t5))))))
def f_X6_tryAsIs  (t0 : Sg) : Option (Int32 × Sg) :=
  (bd (f_X6_tryAnew t0) (fun _ t2 => (bd (f_X2_spendWeek 3 t2) (fun x4 t5 => (bd (f_X6_copy (3, 23) (0, 3) t5) (fun _ t8 => (some (x4, t8))))))))
def f_X6_tryHour (v1 : Int32) (v2 : Int32) (t0 : Sg) : Option (Int32 × Sg) :=
  (bd (f_X6_tryAnew t0) (fun _ t2 => (bd (f_X6_set (3, 19) v1 v2 t2) (fun _ t5 => (bd (f_X2_spendWeek 3 t5) (fun x7 t8 => (some (x7, t8))))))))
def f_X6_tryQuiet (v1 : Int32) (v2 : Int32) (t0 : Sg) : Option (Int32 × Sg) :=
  (bd (f_X6_tryAnew t0) (fun _ t2 => (bd (f_X1_putOff 3 v1 v2 t2) (fun _ t5 => (bd (f_X2_spendWeek 3 t5) (fun x7 t8 => (some (x7, t8))))))))
def f_X6_tryAwning (v1 : Int32) (v2 : Int32) (t0 : Sg) : Option (Int32 × Sg) :=
  (bd (f_X6_tryAnew t0) (fun _ t2 => (bd (f_X6_set (3, 10) v1 v2 t2) (fun _ t5 => (bd (f_X2_spendWeek 3 t5) (fun x7 t8 => (some (x7, t8))))))))
def f_X6_doneTo (v1 : Int32) (t0 : Sg) : Option (Int32 × Sg) :=
  (bd (f_X6_get (3, 23) v1 t0) (fun x1 t2 => (some (x1, t2))))
def f_X6_gain (v1 : Int32) (t0 : Sg) : Option (Int32 × Sg) :=
  (bd (f_X6_get (0, 3) v1 t0) (fun x1 t2 => (bd (f_X6_doneTo v1 t2) (fun x4 t5 => (some ((x1 - x4), t5))))))
def f_X6_feed_30    (t0 : Sg) : Option (Int32 × Sg) :=
  (bd (f_X6_refuse (-6 : Int32) t0) (fun x3 t4 => (some (x3, t4))))
def f_X6_feed (v1 : Int32) (t0 : Sg) : Option (Int32 × Sg) :=
  (if 0 ≤ v1 then (if (255 : Int32) < v1 then (f_X6_feed_30 t0) else (if (t0 (0, 4) 1) < (96 : Int32) then (bd (f_X4_add v1 t0) (fun x7 t8 => (some (x7, t8)))) else (f_X6_feed_30 t0))) else (bd (f_X6_refuse (-4 : Int32) t0) (fun x10 t11 => (some (x10, t11)))))
def f_X6_front_56   (v2 : Int32) (t0 : Sg) : Option (Int32 × Sg) :=
  (bv (upS t0 (0, 4) 1 (0 : Int32)) (fun t7 => (some (v2, t7))))
def f_X6_front_41   (v2 : Int32) (t0 : Sg) : Option (Int32 × Sg) :=
  (if v2 < 0 then (f_X6_front_56 v2 t0) else (bd (f_X2_copyFrom 1 3 t0) (fun _ t9 => (f_X6_front_56 v2 t9))))
def f_X6_front  (t0 : Sg) : Option (Int32 × Sg) :=
  (bd (f_X4_formFault t0) (fun x1 t2 => (bv (((-1000 : Int32) - x1)) (fun x4 => (if 0 ≤ x1 then (f_X6_front_41 x4 t2) else (bd (f_X2_copyFrom 3 1 t2) (fun _ t12 => (bd (f_X4_tell 3 t12) (fun x14 t15 => (f_X6_front_41 x14 t15))))))))))
def f_X6_flat (v1 : Int32) (v2 : Int32) (t0 : Sg) : Option (Int32 × Sg) :=
  (bd (f_X0_placeOf 1 v1 t0) (fun x1 t2 => (if 0 ≤ x1 then (if v2 = (0 : Int32) then (bd (f_X6_get (1, 8) x1 t2) (fun x6 t7 => (some (x6, t7)))) else (if v2 = (1 : Int32) then (bd (f_X6_get (1, 9) x1 t2) (fun x10 t11 => (some (x10, t11)))) else (if v2 = (2 : Int32) then (bd (f_X6_get (1, 10) x1 t2) (fun x14 t15 => (some ((x14 + (1 : Int32)), t15)))) else (if v2 = (3 : Int32) then (bd (f_X6_get (1, 11) x1 t2) (fun x18 t19 => (some (x18, t19)))) else (if v2 = (4 : Int32) then (bd (f_X6_get (1, 12) x1 t2) (fun x22 t23 => (some (x22, t23)))) else (if v2 = (5 : Int32) then (bd (f_X6_get (1, 13) x1 t2) (fun x26 t27 => (some (x26, t27)))) else (bd (f_X6_refuse (-2 : Int32) t2) (fun x29 t30 => (some (x29, t30)))))))))) else (bd (f_X6_refuse (-1 : Int32) t2) (fun x32 t33 => (some (x32, t33)))))))
def f_X6_tenant (v1 : Int32) (v2 : Int32) (t0 : Sg) : Option (Int32 × Sg) :=
  (bd (f_X6_isTenant v1 t0) (fun x1 t2 => (if x1 = 0 then (bd (f_X6_refuse (-1 : Int32) t2) (fun x5 t6 => (some (x5, t6)))) else (if v2 = (0 : Int32) then (bd (f_X6_get (1, 14) v1 t2) (fun x9 t10 => (bd (f_X0_flatAt x9 t10) (fun x12 t13 => (some (x12, t13)))))) else (if v2 = (1 : Int32) then (bd (f_X6_get (1, 21) v1 t2) (fun x16 t17 => (some (x16, t17)))) else (if v2 = (2 : Int32) then (bd (f_X1_countOf 1 v1 t2) (fun x20 t21 => (some (x20, t21)))) else (bd (f_X6_refuse (-2 : Int32) t2) (fun x23 t24 => (some (x23, t24))))))))))
def f_X6_anger_21    (t0 : Sg) : Option (Int32 × Sg) :=
  (bd (f_X6_refuse (-1 : Int32) t0) (fun x5 t6 => (some (x5, t6))))
def f_X6_anger (v1 : Int32) (v2 : Int32) (t0 : Sg) : Option (Int32 × Sg) :=
  (bd (f_X6_isTenant v1 t0) (fun x1 t2 => (if x1 = 0 then (f_X6_anger_21 t2) else (bd (f_X6_isTenant v2 t2) (fun x8 t9 => (if x8 = 0 then (f_X6_anger_21 t9) else (if v1 = v2 then (f_X6_anger_21 t9) else (bd (f_X3_pair v1 v2 t9) (fun x13 t14 => (bd (f_X6_get (1, 22) x13 t14) (fun x16 t17 => (some (x16, t17)))))))))))))
def f_X6_habit (v1 : Int32) (v2 : Int32) (t0 : Sg) : Option (Int32 × Sg) :=
  (bd (f_X6_isHabit v1 t0) (fun x1 t2 => (if x1 = 0 then (bd (f_X6_refuse (-1 : Int32) t2) (fun x5 t6 => (some (x5, t6)))) else (if v2 = (0 : Int32) then (bd (f_X6_get (1, 16) v1 t2) (fun x9 t10 => (some (x9, t10)))) else (if v2 = (1 : Int32) then (bd (f_X6_get (1, 17) v1 t2) (fun x13 t14 => (some (x13, t14)))) else (if v2 = (2 : Int32) then (bd (f_X6_get (1, 18) v1 t2) (fun x17 t18 => (some (x17, t18)))) else (if v2 = (3 : Int32) then (bd (f_X6_get (1, 19) v1 t2) (fun x21 t22 => (some (x21, t22)))) else (bd (f_X6_refuse (-2 : Int32) t2) (fun x24 t25 => (some (x24, t25)))))))))))
def f_X6_count (v1 : Int32) (t0 : Sg) : Option (Int32 × Sg) :=
  (bd (f_X6_within v1 (11 : Int32) (16 : Int32) t0) (fun x1 t2 => (if x1 = 0 then (if v1 = (0 : Int32) then (some ((t2 (1, 7) 0), t2)) else (if v1 = (1 : Int32) then (some ((t2 (1, 7) 1), t2)) else (if v1 = (2 : Int32) then (some ((t2 (1, 15) 0), t2)) else (if v1 = (3 : Int32) then (some ((t2 (1, 6) 4), t2)) else (if v1 = (4 : Int32) then (some (((t2 (1, 7) 2) + (1 : Int32)), t2)) else (if v1 = (5 : Int32) then (bd (f_X6_sum (1, 9) t2) (fun x11 t12 => (some (x11, t12)))) else (if v1 = (6 : Int32) then (bd (f_X6_sum (1, 21) t2) (fun x15 t16 => (some (x15, t16)))) else (if v1 = (7 : Int32) then (bd (f_X6_sum (1, 22) t2) (fun x19 t20 => (some (x19, t20)))) else (if v1 = (8 : Int32) then (some ((t2 (0, 4) 1), t2)) else (if v1 = (9 : Int32) then (some ((t2 (0, 0) 7), t2)) else (some ((-9 : Int32), t2)))))))))))) else (bd (f_X6_get (0, 2) (v1 - (10 : Int32)) t2) (fun x24 t25 => (some (x24, t25)))))))
def f_X6_put (v1 : Int32) (v2 : Int32) (t0 : Sg) : Option (Int32 × Sg) :=
  (bd (f_X6_isHabit v1 t0) (fun x1 t2 => (if x1 = 0 then (bd (f_X6_refuse (-1 : Int32) t2) (fun x5 t6 => (some (x5, t6)))) else (bd (f_X6_isHour v2 t2) (fun x8 t9 => (if x8 = 0 then (bd (f_X6_refuse (-2 : Int32) t9) (fun x12 t13 => (some (x12, t13)))) else (bd (f_X6_get (1, 19) v1 t9) (fun x15 t16 => (bd (f_X6_set (1, 19) v1 v2 t16) (fun _ t19 => (some (x15, t19))))))))))))
def f_X6_saucer (v1 : Int32) (v2 : Int32) (t0 : Sg) : Option (Int32 × Sg) :=
  (bd (f_X0_placeOf 1 v1 t0) (fun x1 t2 => (if 0 ≤ x1 then (if 0 ≤ v2 then (if v2 ≤ (9 : Int32) then (bd (f_X6_get (1, 8) x1 t2) (fun x7 t8 => (bd (f_X0_setSaucer 1 x1 v2 t8) (fun _ t11 => (some (x7, t11)))))) else (bd (f_X6_refuse (-6 : Int32) t2) (fun x13 t14 => (some (x13, t14))))) else (bd (f_X6_refuse (-4 : Int32) t2) (fun x16 t17 => (some (x16, t17))))) else (bd (f_X6_refuse (-1 : Int32) t2) (fun x19 t20 => (some (x19, t20)))))))
def f_X6_awning (v1 : Int32) (v2 : Int32) (t0 : Sg) : Option (Int32 × Sg) :=
  (bd (f_X0_placeOf 1 v1 t0) (fun x1 t2 => (if 0 ≤ x1 then (if (-1 : Int32) ≤ v2 then (if v2 ≤ (1 : Int32) then (bd (f_X6_get (1, 10) x1 t2) (fun x7 t8 => (bd (f_X6_set (1, 10) x1 v2 t8) (fun _ t11 => (some ((x7 + (1 : Int32)), t11)))))) else (bd (f_X6_refuse (-6 : Int32) t2) (fun x13 t14 => (some (x13, t14))))) else (bd (f_X6_refuse (-4 : Int32) t2) (fun x16 t17 => (some (x16, t17))))) else (bd (f_X6_refuse (-1 : Int32) t2) (fun x19 t20 => (some (x19, t20)))))))
def f_X6_wash_32    (t0 : Sg) : Option (Int32 × Sg) :=
  (bd (f_X6_refuse (-4 : Int32) t0) (fun x6 t7 => (some (x6, t7))))
def f_X6_wash_52    (t0 : Sg) : Option (Int32 × Sg) :=
  (bd (f_X6_refuse (-6 : Int32) t0) (fun x11 t12 => (some (x11, t12))))
def f_X6_wash (v1 : Int32) (v2 : Int32) (v3 : Int32) (t0 : Sg) : Option (Int32 × Sg) :=
  (bd (f_X0_placeOf 1 v1 t0) (fun x1 t2 => (if 0 ≤ x1 then (if v2 < 0 then (f_X6_wash_32 t2) else (if 0 ≤ v3 then (if (9 : Int32) < v2 then (f_X6_wash_52 t2) else (if v3 ≤ (255 : Int32) then (bd (f_X6_get (1, 11) x1 t2) (fun x15 t16 => (bd (f_X0_setWashing 1 x1 v2 v3 t16) (fun _ t19 => (some (x15, t19)))))) else (f_X6_wash_52 t2))) else (f_X6_wash_32 t2))) else (bd (f_X6_refuse (-1 : Int32) t2) (fun x21 t22 => (some (x21, t22)))))))
def f_X6_wind (v1 : Int32) (t0 : Sg) : Option (Int32 × Sg) :=
  (if (-1 : Int32) ≤ v1 then (if v1 ≤ (1 : Int32) then (bv ((t0 (1, 7) 2)) (fun x3 => (bv (upS t0 (1, 7) 2 v1) (fun t4 => (some ((x3 + (1 : Int32)), t4)))))) else (bd (f_X6_refuse (-6 : Int32) t0) (fun x5 t6 => (some (x5, t6))))) else (bd (f_X6_refuse (-4 : Int32) t0) (fun x8 t9 => (some (x8, t9)))))
def f_X6_move_21    (t0 : Sg) : Option (Int32 × Sg) :=
  (bd (f_X6_refuse (-1 : Int32) t0) (fun x5 t6 => (some (x5, t6))))
def f_X6_move (v1 : Int32) (v2 : Int32) (t0 : Sg) : Option (Int32 × Sg) :=
  (bd (f_X6_isTenant v1 t0) (fun x1 t2 => (if x1 = 0 then (f_X6_move_21 t2) else (bd (f_X6_isTenant v2 t2) (fun x8 t9 => (if x8 = 0 then (f_X6_move_21 t9) else (if v1 = v2 then (f_X6_move_21 t9) else (bd (f_X0_change 1 v1 v2 t9) (fun _ t14 => (bd (f_X6_get (1, 14) v1 t14) (fun x16 t17 => (bd (f_X0_flatAt x16 t17) (fun x19 t20 => (some (x19, t20)))))))))))))))
def f_X6_rain  (t0 : Sg) : Option (Int32 × Sg) :=
  (bd (f_X6_sum (1, 9) t0) (fun x1 t2 => (bd (f_J7_fill_53178 (1, 9) (0 : Int32) t2) (fun _ t5 => (some (x1, t5))))))
def f_X6_week  (t0 : Sg) : Option (Int32 × Sg) :=
  (if (t0 (1, 6) 4) < (9999 : Int32) then (bd (f_X2_spendWeek 1 t0) (fun x2 t3 => (some (x2, t3)))) else (bd (f_X6_refuse (-6 : Int32) t0) (fun x5 t6 => (some (x5, t6)))))
def f_X6_steps (v1 : Int32) (v2 : Int32) (t0 : Sg) : Option (Int32 × Sg) :=
  (bd (f_X6_isHabit v1 t0) (fun x1 t2 => (if x1 = 0 then (bd (f_X6_refuse (-1 : Int32) t2) (fun x5 t6 => (some (x5, t6)))) else (if (-1 : Int32) ≤ v2 then (bd (f_X2_follow 1 v1 t2) (fun _ t10 => (if v2 = (-1 : Int32) then (some ((t10 (1, 25) 3), t10)) else (if (t10 (1, 25) 3) ≤ v2 then (some ((-9 : Int32), t10)) else (bd (f_X6_get (1, 26) v2 t10) (fun x14 t15 => (bd (f_X0_flatAt x14 t15) (fun x17 t18 => (some (x17, t18)))))))))) else (bd (f_X6_refuse (-4 : Int32) t2) (fun x20 t21 => (some (x20, t21))))))))
def f_X6_down (v1 : Int32) (t0 : Sg) : Option (Int32 × Sg) :=
  (bd (f_X6_isHabit v1 t0) (fun x1 t2 => (if x1 = 0 then (bd (f_X6_refuse (-1 : Int32) t2) (fun x5 t6 => (some (x5, t6)))) else (bd (f_X2_follow 1 v1 t2) (fun _ t9 => (if (t9 (1, 25) 3) ≤ 0 then (some ((-9 : Int32), t9)) else (bd (f_X6_get (1, 26) ((t9 (1, 25) 3) - (1 : Int32)) t9) (fun x12 t13 => (bd (f_X0_flatAt x12 t13) (fun x15 t16 => (some (x15, t16))))))))))))
def f_X6_whom_101  (k42 : Int32 → Int32 → Int32 → Int32 → Sg → Option (Int32 × Sg)) (v2 : Int32) (v3 : Int32) (v4 : Int32) (v5 : Int32) (t0 : Sg) : Option (Int32 × Sg) :=
  (k42 v2 v3 v4 (v5 + (1 : Int32)) t0)
def f_X6_whom_42   : Nat → Int32 → Int32 → Int32 → Int32 → Sg → Option (Int32 × Sg)
  | 0, _, _, _, _, _ => none
  | n + 1, v2, v3, v4, v5, t0 =>
  (if (t0 (1, 15) 0) ≤ v5 then (some (v4, t0)) else (bd (f_X6_get (1, 19) v5 t0) (fun x13 t14 => (if x13 = v2 then (bd (f_X2_trace 1 v5 t14) (fun _ t18 => (bd (f_X5_comesTo 1 v3 t18) (fun x20 t21 => (if x20 = 0 then (f_X6_whom_101 (f_X6_whom_42 n) v2 v3 v4 v5 t21) else (bv ((v4 ||| ((1 : Int32) <<< (v5 &&& 31)))) (fun x24 => (f_X6_whom_101 (f_X6_whom_42 n) v2 v3 x24 v5 t21)))))))) else (f_X6_whom_101 (f_X6_whom_42 n) v2 v3 v4 v5 t14)))))
def f_X6_whom (v1 : Int32) (v2 : Int32) (t0 : Sg) : Option (Int32 × Sg) :=
  (bd (f_X0_placeOf 1 v1 t0) (fun x1 t2 => (if 0 ≤ x1 then (bd (f_X6_isHour v2 t2) (fun x5 t6 => (if x5 = 0 then (bd (f_X6_refuse (-2 : Int32) t6) (fun x9 t10 => (some (x9, t10)))) else (f_X6_whom_42 fuel v2 x1 (0 : Int32) (0 : Int32) t6)))) else (bd (f_X6_refuse (-1 : Int32) t2) (fun x25 t26 => (some (x25, t26)))))))
def f_X6_does_16    (t0 : Sg) : Option (Int32 × Sg) :=
  (bd (f_X6_refuse (-1 : Int32) t0) (fun x5 t6 => (some (x5, t6))))
def f_X6_does_87  (k37 : Int32 → Int32 → Int32 → Int32 → Sg → Option (Int32 × Sg)) (v1 : Int32) (v2 : Int32) (v4 : Int32) (v5 : Int32) (t0 : Sg) : Option (Int32 × Sg) :=
  (k37 v1 v2 v4 (v5 + (1 : Int32)) t0)
def f_X6_does_37   : Nat → Int32 → Int32 → Int32 → Int32 → Sg → Option (Int32 × Sg)
  | 0, _, _, _, _, _ => none
  | n + 1, v1, v2, v4, v5, t0 =>
  (if (t0 (1, 25) 3) ≤ v5 then (some (v4, t0)) else (bd (f_X6_get (1, 26) v5 t0) (fun x16 t17 => (bd (f_X6_get (1, 13) x16 t17) (fun x19 t20 => (if x19 = v2 then (bd (f_X2_harmAt 1 v1 v5 t20) (fun x23 t24 => (bv ((v4 + x23)) (fun x26 => (f_X6_does_87 (f_X6_does_37 n) v1 v2 x26 v5 t24))))) else (f_X6_does_87 (f_X6_does_37 n) v1 v2 v4 v5 t20)))))))
def f_X6_does (v1 : Int32) (v2 : Int32) (t0 : Sg) : Option (Int32 × Sg) :=
  (bd (f_X6_isHabit v1 t0) (fun x1 t2 => (if x1 = 0 then (f_X6_does_16 t2) else (bd (f_X6_isTenant v2 t2) (fun x8 t9 => (if x8 = 0 then (f_X6_does_16 t9) else (bd (f_X2_follow 1 v1 t9) (fun _ t13 => (f_X6_does_37 fuel v1 v2 (0 : Int32) (0 : Int32) t13)))))))))
def f_X6_harmed_84  (k53 : Int32 → Int32 → Int32 → Int32 → Sg → Option (Int32 × Sg)) (v1 : Int32) (v2 : Int32) (v4 : Int32) (w0 : Int32) (w1 : Int32) (t0 : Sg) : Option (Int32 × Sg) :=
  (bv ((w1 + w0)) (fun x12 => (k53 v1 v2 x12 (v4 + (1 : Int32)) t0)))
def f_X6_harmed_53   : Nat → Int32 → Int32 → Int32 → Int32 → Sg → Option (Int32 × Sg)
  | 0, _, _, _, _, _ => none
  | n + 1, v1, v2, v3, v4, t0 =>
  (if v2 ≤ v4 then (some (v3, t0)) else (bd (f_X2_spendWeek 3 t0) (fun x8 t9 => (if v1 = (-1 : Int32) then (f_X6_harmed_84 (f_X6_harmed_53 n) v1 v2 v4 x8 v3 t9) else (bd (f_X6_doneTo v1 t9) (fun x13 t14 => (f_X6_harmed_84 (f_X6_harmed_53 n) v1 v2 v4 x13 v3 t14)))))))
def f_X6_harmed_19   (v1 : Int32) (v2 : Int32) (t0 : Sg) : Option (Int32 × Sg) :=
  (if (1 : Int32) ≤ v2 then (if v2 ≤ (20 : Int32) then (bd (f_X6_tryAnew t0) (fun _ t5 => (f_X6_harmed_53 fuel v1 v2 (0 : Int32) (0 : Int32) t5))) else (bd (f_X6_refuse (-6 : Int32) t0) (fun x16 t17 => (some (x16, t17))))) else (bd (f_X6_refuse (-4 : Int32) t0) (fun x19 t20 => (some (x19, t20)))))
def f_X6_harmed (v1 : Int32) (v2 : Int32) (t0 : Sg) : Option (Int32 × Sg) :=
  (if v1 = (-1 : Int32) then (f_X6_harmed_19 v1 v2 t0) else (bd (f_X6_isTenant v1 t0) (fun x22 t23 => (if x22 = 0 then (bd (f_X6_refuse (-1 : Int32) t23) (fun x26 t27 => (some (x26, t27)))) else (f_X6_harmed_19 v1 v2 t23)))))
def f_X6_least_73  (k43 : Int32 → Int32 → Int32 → Int32 → Int32 → Sg → Option (Int32 × Sg)) (v1 : Int32) (v2 : Int32) (v3 : Int32) (v4 : Int32) (v5 : Int32) (t0 : Sg) : Option (Int32 × Sg) :=
  (k43 v1 v2 v3 v4 (v5 + (1 : Int32)) t0)
def f_X6_least_43   : Nat → Int32 → Int32 → Int32 → Int32 → Int32 → Sg → Option (Int32 × Sg)
  | 0, _, _, _, _, _, _ => none
  | n + 1, v1, v2, v3, v4, v5, t0 =>
  (if (8 : Int32) ≤ v5 then (some ((if v2 = 0 then v3 else v4), t0)) else (bd (f_X6_tryHour v1 v5 t0) (fun x15 t16 => (if v4 ≤ x15 then (f_X6_least_73 (f_X6_least_43 n) v1 v2 v3 v4 v5 t16) else (f_X6_least_73 (f_X6_least_43 n) v1 v2 v5 x15 v5 t16)))))
def f_X6_least_30   (v1 : Int32) (v2 : Int32) (t0 : Sg) : Option (Int32 × Sg) :=
  (bd (f_X6_tryHour v1 (0 : Int32) t0) (fun x9 t10 => (f_X6_least_43 fuel v1 v2 (0 : Int32) x9 (1 : Int32) t10)))
def f_X6_least (v1 : Int32) (v2 : Int32) (t0 : Sg) : Option (Int32 × Sg) :=
  (bd (f_X6_isHabit v1 t0) (fun x1 t2 => (if x1 = 0 then (bd (f_X6_refuse (-1 : Int32) t2) (fun x5 t6 => (some (x5, t6)))) else (if v2 = 0 then (f_X6_least_30 v1 v2 t2) else (if v2 = (1 : Int32) then (f_X6_least_30 v1 v2 t2) else (bd (f_X6_refuse (-2 : Int32) t2) (fun x20 t21 => (some (x20, t21)))))))))
def f_X6_hours_21    (t0 : Sg) : Option (Int32 × Sg) :=
  (bd (f_X6_refuse (-1 : Int32) t0) (fun x5 t6 => (some (x5, t6))))
def f_X6_hours_143  (k53 : Int32 → Int32 → Int32 → Int32 → Int32 → Int32 → Sg → Option (Int32 × Sg)) (k63 : Int32 → Int32 → Int32 → Int32 → Int32 → Int32 → Int32 → Sg → Option (Int32 × Sg)) (v1 : Int32) (v2 : Int32) (v3 : Int32) (v4 : Int32) (v5 : Int32) (v6 : Int32) (v7 : Int32) (t0 : Sg) : Option (Int32 × Sg) :=
  (k63 v1 v2 v3 v4 v5 v6 (v7 + (1 : Int32)) t0)
def f_X6_hours_129  (k53 : Int32 → Int32 → Int32 → Int32 → Int32 → Int32 → Sg → Option (Int32 × Sg)) (k63 : Int32 → Int32 → Int32 → Int32 → Int32 → Int32 → Int32 → Sg → Option (Int32 × Sg)) (v1 : Int32) (v2 : Int32) (v3 : Int32) (v6 : Int32) (v7 : Int32) (v8 : Int32) (t0 : Sg) : Option (Int32 × Sg) :=
  (bv ((((10 : Int32) * v6) + v7)) (fun x31 => (f_X6_hours_143 k53 k63 v1 v2 v3 x31 v8 v6 v7 t0)))
def f_X6_hours_63  (k53 : Int32 → Int32 → Int32 → Int32 → Int32 → Int32 → Sg → Option (Int32 × Sg)) : Nat → Int32 → Int32 → Int32 → Int32 → Int32 → Int32 → Int32 → Sg → Option (Int32 × Sg)
  | 0, _, _, _, _, _, _, _, _ => none
  | n + 1, v1, v2, v3, v4, v5, v6, v7, t0 =>
  (if (8 : Int32) ≤ v7 then (k53 v1 v2 v3 v4 v5 (v6 + (1 : Int32)) t0) else (bd (f_X6_tryAnew t0) (fun _ t19 => (bd (f_X6_set (3, 19) v1 v6 t19) (fun _ t22 => (bd (f_X6_set (3, 19) v2 v7 t22) (fun _ t25 => (bd (f_X2_spendWeek 3 t25) (fun x27 t28 => (if v4 = (-9 : Int32) then (f_X6_hours_129 k53 (f_X6_hours_63 k53 n) v1 v2 v3 v6 v7 x27 t28) else (if v5 ≤ x27 then (f_X6_hours_143 k53 (f_X6_hours_63 k53 n) v1 v2 v3 v4 v5 v6 v7 t28) else (f_X6_hours_129 k53 (f_X6_hours_63 k53 n) v1 v2 v3 v6 v7 x27 t28))))))))))))
def f_X6_hours_53   : Nat → Int32 → Int32 → Int32 → Int32 → Int32 → Int32 → Sg → Option (Int32 × Sg)
  | 0, _, _, _, _, _, _, _ => none
  | n + 1, v1, v2, v3, v4, v5, v6, t0 =>
  (if (8 : Int32) ≤ v6 then (some ((if v3 = 0 then v4 else v5), t0)) else (f_X6_hours_63 (f_X6_hours_53 n) fuel v1 v2 v3 v4 v5 v6 (0 : Int32) t0))
def f_X6_hours_43   (v1 : Int32) (v2 : Int32) (v3 : Int32) (t0 : Sg) : Option (Int32 × Sg) :=
  (f_X6_hours_53 fuel v1 v2 v3 (-9 : Int32) (0 : Int32) (0 : Int32) t0)
def f_X6_hours (v1 : Int32) (v2 : Int32) (v3 : Int32) (t0 : Sg) : Option (Int32 × Sg) :=
  (bd (f_X6_isHabit v1 t0) (fun x1 t2 => (if x1 = 0 then (f_X6_hours_21 t2) else (bd (f_X6_isHabit v2 t2) (fun x8 t9 => (if x8 = 0 then (f_X6_hours_21 t9) else (if v1 = v2 then (f_X6_hours_21 t9) else (if v3 = 0 then (f_X6_hours_43 v1 v2 v3 t9) else (if v3 = (1 : Int32) then (f_X6_hours_43 v1 v2 v3 t9) else (bd (f_X6_refuse (-2 : Int32) t9) (fun x34 t35 => (some (x34, t35)))))))))))))
def f_X6_quiet_14    (t0 : Sg) : Option (Int32 × Sg) :=
  (bd (f_X6_refuse (-2 : Int32) t0) (fun x5 t6 => (some (x5, t6))))
def f_X6_quiet (v1 : Int32) (v2 : Int32) (t0 : Sg) : Option (Int32 × Sg) :=
  (bd (f_X6_isHour v1 t0) (fun x1 t2 => (if x1 = 0 then (f_X6_quiet_14 t2) else (bd (f_X6_isHour v2 t2) (fun x8 t9 => (if x8 = 0 then (f_X6_quiet_14 t9) else (if v1 ≤ v2 then (bd (f_X6_tryQuiet v1 v2 t9) (fun x13 t14 => (some (x13, t14)))) else (bd (f_X6_refuse (-3 : Int32) t9) (fun x16 t17 => (some (x16, t17)))))))))))
def f_X6_rule_52  (k10 : Int32 → Int32 → Int32 → Sg → Option (Int32 × Sg)) (k19 : Int32 → Int32 → Int32 → Int32 → Sg → Option (Int32 × Sg)) (v1 : Int32) (v2 : Int32) (v3 : Int32) (v4 : Int32) (t0 : Sg) : Option (Int32 × Sg) :=
  (k19 v1 v2 v3 (v4 + (1 : Int32)) t0)
def f_X6_rule_19  (k10 : Int32 → Int32 → Int32 → Sg → Option (Int32 × Sg)) : Nat → Int32 → Int32 → Int32 → Int32 → Sg → Option (Int32 × Sg)
  | 0, _, _, _, _, _ => none
  | n + 1, v1, v2, v3, v4, t0 =>
  (if (8 : Int32) ≤ v4 then (k10 v1 v2 (v3 + (1 : Int32)) t0) else (bd (f_X6_tryQuiet v3 v4 t0) (fun x6 t7 => (if v2 ≤ x6 then (f_X6_rule_52 k10 (f_X6_rule_19 k10 n) v1 v2 v3 v4 t7) else (bv ((((10 : Int32) * v3) + v4)) (fun x10 => (f_X6_rule_52 k10 (f_X6_rule_19 k10 n) x10 x6 v3 v4 t7)))))))
def f_X6_rule_10   : Nat → Int32 → Int32 → Int32 → Sg → Option (Int32 × Sg)
  | 0, _, _, _, _ => none
  | n + 1, v1, v2, v3, t0 =>
  (if (8 : Int32) ≤ v3 then (some (v1, t0)) else (f_X6_rule_19 (f_X6_rule_10 n) fuel v1 v2 v3 v3 t0))
def f_X6_rule  (t0 : Sg) : Option (Int32 × Sg) :=
  (bd (f_X6_tryAsIs t0) (fun x1 t2 => (f_X6_rule_10 fuel (-9 : Int32) x1 (0 : Int32) t2)))
def f_X6_hang_112  (k47 : Int32 → Int32 → Int32 → Int32 → Int32 → Sg → Option (Int32 × Sg)) (v2 : Int32) (v3 : Int32) (v4 : Int32) (v5 : Int32) (v6 : Int32) (t0 : Sg) : Option (Int32 × Sg) :=
  (k47 v2 v3 v4 v5 (v6 + (1 : Int32)) t0)
def f_X6_hang_101  (k47 : Int32 → Int32 → Int32 → Int32 → Int32 → Sg → Option (Int32 × Sg)) (v2 : Int32) (v3 : Int32) (v6 : Int32) (t0 : Sg) : Option (Int32 × Sg) :=
  (bd (f_X6_doneTo v3 t0) (fun x19 t20 => (f_X6_hang_112 k47 v2 v3 v6 x19 v6 t20)))
def f_X6_hang_47   : Nat → Int32 → Int32 → Int32 → Int32 → Int32 → Sg → Option (Int32 × Sg)
  | 0, _, _, _, _, _, _ => none
  | n + 1, v2, v3, v4, v5, v6, t0 =>
  (if (8 : Int32) ≤ v6 then (some (v4, t0)) else (bd (f_X6_tryAnew t0) (fun _ t10 => (bd (f_X6_set (3, 12) v2 ((1 : Int32) <<< (v6 &&& 31)) t10) (fun _ t13 => (bd (f_X2_spendWeek 3 t13) (fun x15 t16 => (if v4 = (-9 : Int32) then (f_X6_hang_101 (f_X6_hang_47 n) v2 v3 v6 t16) else (bd (f_X6_doneTo v3 t16) (fun x22 t23 => (if v5 ≤ x22 then (f_X6_hang_112 (f_X6_hang_47 n) v2 v3 v4 v5 v6 t23) else (f_X6_hang_101 (f_X6_hang_47 n) v2 v3 v6 t23))))))))))))
def f_X6_hang (v1 : Int32) (t0 : Sg) : Option (Int32 × Sg) :=
  (bd (f_X0_placeOf 1 v1 t0) (fun x1 t2 => (if 0 ≤ x1 then (bd (f_X6_get (1, 13) x1 t2) (fun x5 t6 => (f_X6_hang_47 fuel x1 x5 (-9 : Int32) (0 : Int32) (0 : Int32) t6))) else (bd (f_X6_refuse (-1 : Int32) t2) (fun x26 t27 => (some (x26, t27)))))))
def f_X6_big_102  (k31 : Int32 → Int32 → Int32 → Int32 → Sg → Option (Int32 × Sg)) (v2 : Int32) (v3 : Int32) (v4 : Int32) (v5 : Int32) (t0 : Sg) : Option (Int32 × Sg) :=
  (k31 v2 v3 v4 (v5 + (1 : Int32)) t0)
def f_X6_big_95  (k31 : Int32 → Int32 → Int32 → Int32 → Sg → Option (Int32 × Sg)) (v2 : Int32) (v5 : Int32) (v6 : Int32) (t0 : Sg) : Option (Int32 × Sg) :=
  (f_X6_big_102 k31 v2 v5 v6 v5 t0)
def f_X6_big_31   : Nat → Int32 → Int32 → Int32 → Int32 → Sg → Option (Int32 × Sg)
  | 0, _, _, _, _, _ => none
  | n + 1, v2, v3, v4, v5, t0 =>
  (if (9 : Int32) < v5 then (some (v3, t0)) else (bd (f_X6_tryAnew t0) (fun _ t7 => (bd (f_X6_set (3, 8) v2 v5 t7) (fun _ t10 => (bd (f_X6_set (3, 9) v2 (0 : Int32) t10) (fun _ t13 => (bd (f_X2_spendWeek 3 t13) (fun x15 t16 => (if v3 = (-9 : Int32) then (f_X6_big_95 (f_X6_big_31 n) v2 v5 x15 t16) else (if v4 ≤ x15 then (f_X6_big_102 (f_X6_big_31 n) v2 v3 v4 v5 t16) else (f_X6_big_95 (f_X6_big_31 n) v2 v5 x15 t16))))))))))))
def f_X6_big (v1 : Int32) (t0 : Sg) : Option (Int32 × Sg) :=
  (bd (f_X0_placeOf 1 v1 t0) (fun x1 t2 => (if 0 ≤ x1 then (f_X6_big_31 fuel x1 (-9 : Int32) (0 : Int32) (0 : Int32) t2) else (bd (f_X6_refuse (-1 : Int32) t2) (fun x20 t21 => (some (x20, t21)))))))
def f_X6_leads_64  (k35 : Int32 → Int32 → Int32 → Int32 → Sg → Option (Int32 × Sg)) (v2 : Int32) (v3 : Int32) (v4 : Int32) (v5 : Int32) (t0 : Sg) : Option (Int32 × Sg) :=
  (k35 v2 v3 v4 (v5 + (1 : Int32)) t0)
def f_X6_leads_35   : Nat → Int32 → Int32 → Int32 → Int32 → Sg → Option (Int32 × Sg)
  | 0, _, _, _, _, _ => none
  | n + 1, v2, v3, v4, v5, t0 =>
  (if (1 : Int32) < v5 then (some ((v3 + (1 : Int32)), t0)) else (bd (f_X6_tryAwning v2 v5 t0) (fun x9 t10 => (if v4 ≤ x9 then (f_X6_leads_64 (f_X6_leads_35 n) v2 v3 v4 v5 t10) else (f_X6_leads_64 (f_X6_leads_35 n) v2 v5 x9 v5 t10)))))
def f_X6_leads (v1 : Int32) (t0 : Sg) : Option (Int32 × Sg) :=
  (bd (f_X0_placeOf 1 v1 t0) (fun x1 t2 => (if 0 ≤ x1 then (bd (f_X6_tryAwning x1 (-1 : Int32) t2) (fun x5 t6 => (f_X6_leads_35 fuel x1 (-1 : Int32) x5 (0 : Int32) t6))) else (bd (f_X6_refuse (-1 : Int32) t2) (fun x13 t14 => (some (x13, t14)))))))
def f_X6_whose_108  (k83 : Int32 → Int32 → Sg → Option (Int32 × Sg)) (v4 : Int32) (v5 : Int32) (t0 : Sg) : Option (Int32 × Sg) :=
  (k83 v4 (v5 + (1 : Int32)) t0)
def f_X6_whose_83   : Nat → Int32 → Int32 → Sg → Option (Int32 × Sg)
  | 0, _, _, _ => none
  | n + 1, v4, v5, t0 =>
  (if (24 : Int32) ≤ v5 then (some (v4, t0)) else (bd (f_X6_gain v5 t0) (fun x17 t18 => (if 0 ≤ x17 then (f_X6_whose_108 (f_X6_whose_83 n) v4 v5 t18) else (bv ((v4 ||| ((1 : Int32) <<< (v5 &&& 31)))) (fun x21 => (f_X6_whose_108 (f_X6_whose_83 n) x21 v5 t18)))))))
def f_X6_whose (v1 : Int32) (v2 : Int32) (t0 : Sg) : Option (Int32 × Sg) :=
  (bd (f_X0_placeOf 1 v1 t0) (fun x1 t2 => (if 0 ≤ x1 then (if (-1 : Int32) ≤ v2 then (if v2 ≤ (1 : Int32) then (bd (f_X6_tryAwning x1 (0 : Int32) t2) (fun x7 t8 => (bd (f_X6_copy (3, 23) (0, 3) t8) (fun _ t11 => (bd (f_X6_tryAwning x1 v2 t11) (fun x13 t14 => (f_X6_whose_83 fuel (0 : Int32) (0 : Int32) t14))))))) else (bd (f_X6_refuse (-6 : Int32) t2) (fun x22 t23 => (some (x22, t23))))) else (bd (f_X6_refuse (-4 : Int32) t2) (fun x25 t26 => (some (x25, t26))))) else (bd (f_X6_refuse (-1 : Int32) t2) (fun x28 t29 => (some (x28, t29)))))))
def f_X6_deal (v1 : Int32) (v2 : Int32) (t0 : Sg) : Option (Int32 × Sg) :=
  (bd (f_X6_isHabit v1 t0) (fun x1 t2 => (if x1 = 0 then (bd (f_X6_refuse (-1 : Int32) t2) (fun x5 t6 => (some (((1000000000 : Int32) - x5), t6)))) else (bd (f_X6_isHour v2 t2) (fun x8 t9 => (if x8 = 0 then (bd (f_X6_refuse (-2 : Int32) t9) (fun x12 t13 => (some (((1000000000 : Int32) - x12), t13)))) else (bd (f_X6_get (1, 16) v1 t9) (fun x15 t16 => (bd (f_X6_tryAsIs t16) (fun x18 t19 => (bd (f_X6_get (0, 3) x15 t19) (fun x21 t22 => (bv ((x18 - x21)) (fun x24 => (bd (f_X6_tryHour v1 v2 t22) (fun x25 t26 => (bd (f_X6_doneTo x15 t26) (fun x28 t29 => (bv ((x24 - (x25 - x28))) (fun x31 => (bd (f_X6_get (1, 19) v1 t29) (fun x32 t33 => (some ((x31 - (jabs (v2 - x32))), t33))))))))))))))))))))))))
def f_X6_pays_30    (t0 : Sg) : Option (Int32 × Sg) :=
  (bd (f_X6_refuse (-2 : Int32) t0) (fun x12 t13 => (some (x12, t13))))
def f_X6_pays_89  (k59 : Int32 → Int32 → Int32 → Int32 → Sg → Option (Int32 × Sg)) (v3 : Int32) (v4 : Int32) (v5 : Int32) (v6 : Int32) (t0 : Sg) : Option (Int32 × Sg) :=
  (k59 v3 v4 v5 (v6 + (1 : Int32)) t0)
def f_X6_pays_59   : Nat → Int32 → Int32 → Int32 → Int32 → Sg → Option (Int32 × Sg)
  | 0, _, _, _, _, _ => none
  | n + 1, v3, v4, v5, v6, t0 =>
  (if (24 : Int32) ≤ v6 then (some ((if v3 = 0 then v4 else v5), t0)) else (bd (f_X6_gain v6 t0) (fun x25 t26 => (if x25 ≤ v5 then (f_X6_pays_89 (f_X6_pays_59 n) v3 v4 v5 v6 t26) else (bd (f_X6_gain v6 t26) (fun x29 t30 => (f_X6_pays_89 (f_X6_pays_59 n) v3 v6 x29 v6 t30)))))))
def f_X6_pays_37   (v1 : Int32) (v2 : Int32) (v3 : Int32) (t0 : Sg) : Option (Int32 × Sg) :=
  (bd (f_X6_tryAsIs t0) (fun x16 t17 => (bd (f_X6_tryHour v1 v2 t17) (fun x19 t20 => (f_X6_pays_59 fuel v3 (-9 : Int32) (0 : Int32) (0 : Int32) t20)))))
def f_X6_pays (v1 : Int32) (v2 : Int32) (v3 : Int32) (t0 : Sg) : Option (Int32 × Sg) :=
  (bd (f_X6_isHabit v1 t0) (fun x1 t2 => (if x1 = 0 then (bd (f_X6_refuse (-1 : Int32) t2) (fun x5 t6 => (some (x5, t6)))) else (bd (f_X6_isHour v2 t2) (fun x8 t9 => (if x8 = 0 then (f_X6_pays_30 t9) else (if v3 = 0 then (f_X6_pays_37 v1 v2 v3 t9) else (if v3 = (1 : Int32) then (f_X6_pays_37 v1 v2 v3 t9) else (f_X6_pays_30 t9)))))))))
def f_X6_climbs_47  (k15 : Int32 → Int32 → Sg → Option (Int32 × Sg)) (v2 : Int32) (v3 : Int32) (t0 : Sg) : Option (Int32 × Sg) :=
  (k15 v3 (v2 + (1 : Int32)) t0)
def f_X6_climbs_15   : Nat → Int32 → Int32 → Sg → Option (Int32 × Sg)
  | 0, _, _, _ => none
  | n + 1, v1, v2, t0 =>
  (if (10 : Int32) ≤ v2 then (some ((-9 : Int32), t0)) else (bd (f_X2_takeRevenge 3 t0) (fun _ t6 => (bd (f_X2_spendWeek 3 t6) (fun x8 t9 => (if v2 ≤ 0 then (f_X6_climbs_47 (f_X6_climbs_15 n) v2 x8 t9) else (if v1 < x8 then (f_X6_climbs_47 (f_X6_climbs_15 n) v2 x8 t9) else (some (v2, t9)))))))))
def f_X6_climbs  (t0 : Sg) : Option (Int32 × Sg) :=
  (bd (f_X2_copyFrom 3 1 t0) (fun _ t2 => (f_X6_climbs_15 fuel (0 : Int32) (0 : Int32) t2)))
def f_X6_worth (v1 : Int32) (t0 : Sg) : Option (Int32 × Sg) :=
  (bd (f_X0_placeOf 1 v1 t0) (fun x1 t2 => (if 0 ≤ x1 then (bd (f_X6_tryAsIs t2) (fun x5 t6 => (bv ((x1 / (4 : Int32))) (fun x8 => (bd (f_X6_get (1, 13) x1 t6) (fun x9 t10 => (bd (f_X6_doneTo x9 t10) (fun x12 t13 => (some ((jmax (0 : Int32) (((100 : Int32) + ((5 : Int32) * x8)) - x12)), t13)))))))))) else (bd (f_X6_refuse (-1 : Int32) t2) (fun x15 t16 => (some (x15, t16)))))))
def f_X6_pairs_102  (k4 : Int32 → Int32 → Int32 → Sg → Option (Int32 × Sg)) (k15 : Int32 → Int32 → Int32 → Int32 → Sg → Option (Int32 × Sg)) (v1 : Int32) (v2 : Int32) (v3 : Int32) (v4 : Int32) (t0 : Sg) : Option (Int32 × Sg) :=
  (k15 v1 v2 v3 (v4 + (1 : Int32)) t0)
def f_X6_pairs_15  (k4 : Int32 → Int32 → Int32 → Sg → Option (Int32 × Sg)) : Nat → Int32 → Int32 → Int32 → Int32 → Sg → Option (Int32 × Sg)
  | 0, _, _, _, _, _ => none
  | n + 1, v1, v2, v3, v4, t0 =>
  (if (24 : Int32) ≤ v4 then (k4 v1 v2 (v3 + (1 : Int32)) t0) else (bd (f_X6_get (0, 3) v3 t0) (fun x6 t7 => (if x6 ≤ 0 then (f_X6_pairs_102 k4 (f_X6_pairs_15 k4 n) v1 v2 v3 v4 t7) else (bd (f_X6_get (0, 3) v4 t7) (fun x10 t11 => (if x10 ≤ 0 then (f_X6_pairs_102 k4 (f_X6_pairs_15 k4 n) v1 v2 v3 v4 t11) else (bd (f_X6_tryAnew t11) (fun _ t15 => (bd (f_X0_change 3 v3 v4 t15) (fun _ t18 => (bd (f_X2_spendWeek 3 t18) (fun x20 t21 => (bd (f_X6_gain v3 t21) (fun x23 t24 => (if x23 ≤ 0 then (f_X6_pairs_102 k4 (f_X6_pairs_15 k4 n) v1 v2 v3 v4 t24) else (bd (f_X6_gain v4 t24) (fun x27 t28 => (if x27 ≤ 0 then (f_X6_pairs_102 k4 (f_X6_pairs_15 k4 n) v1 v2 v3 v4 t28) else (if v1 = 0 then (f_X6_pairs_102 k4 (f_X6_pairs_15 k4 n) v1 (v2 + (1 : Int32)) v3 v4 t28) else (some ((((100 : Int32) * v3) + v4), t28))))))))))))))))))))))
def f_X6_pairs_4   : Nat → Int32 → Int32 → Int32 → Sg → Option (Int32 × Sg)
  | 0, _, _, _, _ => none
  | n + 1, v1, v2, v3, t0 =>
  (if (24 : Int32) ≤ v3 then (some ((if v1 = 0 then v2 else (-9 : Int32)), t0)) else (bv ((v3 + (1 : Int32))) (fun x4 => (f_X6_pairs_15 (f_X6_pairs_4 n) fuel v1 v2 v3 x4 t0))))
def f_X6_pairs (v1 : Int32) (t0 : Sg) : Option (Int32 × Sg) :=
  (f_X6_pairs_4 fuel v1 (0 : Int32) (0 : Int32) t0)
def f_X6_rings_143  (k4 : Int32 → Int32 → Sg → Option (Int32 × Sg)) (v1 : Int32) (v2 : Int32) (t0 : Sg) : Option (Int32 × Sg) :=
  (k4 v1 (v2 + (1 : Int32)) t0)
def f_X6_rings_137  (k4 : Int32 → Int32 → Sg → Option (Int32 × Sg)) (k14 : Int32 → Int32 → Int32 → Sg → Option (Int32 × Sg)) (v1 : Int32) (v2 : Int32) (v3 : Int32) (t0 : Sg) : Option (Int32 × Sg) :=
  (k14 v1 v2 (v3 + (1 : Int32)) t0)
def f_X6_rings_131  (k4 : Int32 → Int32 → Sg → Option (Int32 × Sg)) (k14 : Int32 → Int32 → Int32 → Sg → Option (Int32 × Sg)) (k36 : Int32 → Int32 → Int32 → Int32 → Sg → Option (Int32 × Sg)) (v1 : Int32) (v2 : Int32) (v3 : Int32) (v4 : Int32) (t0 : Sg) : Option (Int32 × Sg) :=
  (k36 v1 v2 v3 (v4 + (1 : Int32)) t0)
def f_X6_rings_129  (k4 : Int32 → Int32 → Sg → Option (Int32 × Sg)) (k14 : Int32 → Int32 → Int32 → Sg → Option (Int32 × Sg)) (k36 : Int32 → Int32 → Int32 → Int32 → Sg → Option (Int32 × Sg)) (v2 : Int32) (v3 : Int32) (v4 : Int32) (w0 : Int32) (w1 : Int32) (t0 : Sg) : Option (Int32 × Sg) :=
  (bv ((w1 + w0)) (fun x32 => (f_X6_rings_131 k4 k14 k36 x32 v2 v3 v4 t0)))
def f_X6_rings_128  (k4 : Int32 → Int32 → Sg → Option (Int32 × Sg)) (k14 : Int32 → Int32 → Int32 → Sg → Option (Int32 × Sg)) (k36 : Int32 → Int32 → Int32 → Int32 → Sg → Option (Int32 × Sg)) (v2 : Int32) (v3 : Int32) (v4 : Int32) (w0 : Int32) (t0 : Sg) : Option (Int32 × Sg) :=
  (f_X6_rings_129 k4 k14 k36 v2 v3 v4 (0 : Int32) w0 t0)
def f_X6_rings_36  (k4 : Int32 → Int32 → Sg → Option (Int32 × Sg)) (k14 : Int32 → Int32 → Int32 → Sg → Option (Int32 × Sg)) : Nat → Int32 → Int32 → Int32 → Int32 → Sg → Option (Int32 × Sg)
  | 0, _, _, _, _, _ => none
  | n + 1, v1, v2, v3, v4, t0 =>
  (if (24 : Int32) ≤ v4 then (f_X6_rings_137 k4 k14 v1 v2 v3 t0) else (bd (f_X6_get (0, 3) v3 t0) (fun x10 t11 => (if x10 ≤ 0 then (f_X6_rings_137 k4 k14 v1 v2 v3 t11) else (if v4 = v3 then (f_X6_rings_131 k4 k14 (f_X6_rings_36 k4 k14 n) v1 v2 v3 v4 t11) else (bd (f_X6_get (0, 3) v4 t11) (fun x15 t16 => (if x15 ≤ 0 then (f_X6_rings_131 k4 k14 (f_X6_rings_36 k4 k14 n) v1 v2 v3 v4 t16) else (bd (f_X6_tryAnew t16) (fun _ t20 => (bd (f_X0_ring 3 v2 v3 v4 t20) (fun _ t23 => (bd (f_X2_spendWeek 3 t23) (fun x25 t26 => (bd (f_X6_gain v2 t26) (fun x28 t29 => (if x28 ≤ 0 then (f_X6_rings_128 k4 k14 (f_X6_rings_36 k4 k14 n) v2 v3 v4 v1 t29) else (bd (f_X6_gain v3 t29) (fun x33 t34 => (if x33 ≤ 0 then (f_X6_rings_128 k4 k14 (f_X6_rings_36 k4 k14 n) v2 v3 v4 v1 t34) else (bd (f_X6_gain v4 t34) (fun x37 t38 => (if x37 ≤ 0 then (f_X6_rings_128 k4 k14 (f_X6_rings_36 k4 k14 n) v2 v3 v4 v1 t38) else (f_X6_rings_129 k4 k14 (f_X6_rings_36 k4 k14 n) v2 v3 v4 (1 : Int32) v1 t38))))))))))))))))))))))))
def f_X6_rings_14  (k4 : Int32 → Int32 → Sg → Option (Int32 × Sg)) : Nat → Int32 → Int32 → Int32 → Sg → Option (Int32 × Sg)
  | 0, _, _, _, _ => none
  | n + 1, v1, v2, v3, t0 =>
  (if (24 : Int32) ≤ v3 then (f_X6_rings_143 k4 v1 v2 t0) else (bd (f_X6_get (0, 3) v2 t0) (fun x4 t5 => (if x4 ≤ 0 then (f_X6_rings_143 k4 v1 v2 t5) else (bv ((v2 + (1 : Int32))) (fun x8 => (f_X6_rings_36 k4 (f_X6_rings_14 k4 n) fuel v1 v2 v3 x8 t5)))))))
def f_X6_rings_4   : Nat → Int32 → Int32 → Sg → Option (Int32 × Sg)
  | 0, _, _, _ => none
  | n + 1, v1, v2, t0 =>
  (if (24 : Int32) ≤ v2 then (some (v1, t0)) else (bv ((v2 + (1 : Int32))) (fun x2 => (f_X6_rings_14 (f_X6_rings_4 n) fuel v1 v2 x2 t0))))
def f_X6_rings  (t0 : Sg) : Option (Int32 × Sg) :=
  (f_X6_rings_4 fuel (0 : Int32) (0 : Int32) t0)
def f_X6_swaps (v1 : Int32) (t0 : Sg) : Option (Int32 × Sg) :=
  (bd (f_X6_within v1 (0 : Int32) (2 : Int32) t0) (fun x1 t2 => (if x1 = 0 then (bd (f_X6_refuse (-2 : Int32) t2) (fun x5 t6 => (some (x5, t6)))) else (bd (f_X6_tryAsIs t2) (fun x8 t9 => (if v1 = (2 : Int32) then (bd (f_X6_rings t9) (fun x12 t13 => (some (x12, t13)))) else (bd (f_X6_pairs (if v1 = (1 : Int32) then (1 : Int32) else (0 : Int32)) t9) (fun x17 t18 => (some (x17, t18))))))))))
def f_X6_peg_26    (t0 : Sg) : Option (Int64 × Sg) :=
  (bd (f_X6_refuse (-1 : Int32) t0) (fun x5 t6 => (some (((4000000000000000000 : Int64) - (x5).toInt64), t6))))
def f_X6_peg_141   (v3 : Int32) (v7 : Int32) (v8 : Int32) (w0 : Int32) (t0 : Sg) : Option (Int64 × Sg) :=
  (if v3 = (1 : Int32) then (if w0 = 0 then (some ((v8).toInt64, t0)) else (some (((v8 / (2 : Int32))).toInt64, t0))) else (some ((if v7 = (1 : Int32) then (if w0 = 0 then (2 : Int64) else (1 : Int64)) else (1 : Int64)), t0)))
def f_X6_peg_140   (v3 : Int32) (v7 : Int32) (v8 : Int32) (t0 : Sg) : Option (Int64 × Sg) :=
  (f_X6_peg_141 v3 v7 v8 (0 : Int32) t0)
def f_X6_peg_58   (v2 : Int32) (v3 : Int32) (v4 : Int32) (t0 : Sg) : Option (Int64 × Sg) :=
  (bv ((v4 / (4 : Int32))) (fun x13 => (bd (f_X6_get (1, 14) v2 t0) (fun x14 t15 => (bv (((x14 / (4 : Int32)) - x13)) (fun x17 => (if (x14 - x14 / (4 : Int32) * (4 : Int32)) = (v4 - v4 / (4 : Int32) * (4 : Int32)) then (if 0 < x17 then (bv (((t15 (1, 7) 0) - x13)) (fun x20 => (if x17 = (1 : Int32) then (if (x20 - x20 / (2 : Int32) * (2 : Int32)) = 0 then (f_X6_peg_141 v3 x17 x20 (1 : Int32) t15) else (f_X6_peg_140 v3 x17 x20 t15)) else (f_X6_peg_140 v3 x17 x20 t15)))) else (some ((v3).toInt64, t15))) else (some ((v3).toInt64, t15)))))))))
def f_X6_peg (v1 : Int32) (v2 : Int32) (v3 : Int32) (t0 : Sg) : Option (Int64 × Sg) :=
  (bd (f_X0_placeOf 1 v1 t0) (fun x1 t2 => (if x1 < 0 then (f_X6_peg_26 t2) else (bd (f_X6_isTenant v2 t2) (fun x8 t9 => (if x8 = 0 then (f_X6_peg_26 t9) else (if v3 = 0 then (f_X6_peg_58 v2 v3 x1 t9) else (if v3 = (1 : Int32) then (f_X6_peg_58 v2 v3 x1 t9) else (bd (f_X6_refuse (-2 : Int32) t9) (fun x29 t30 => (some (((4000000000000000000 : Int64) - (x29).toInt64), t30))))))))))))
def f_X6_row_27    (t0 : Sg) : Option (Int32 × Sg) :=
  (bd (f_X6_refuse (-6 : Int32) t0) (fun x3 t4 => (some (x3, t4))))
def f_X6_row (v1 : Int32) (t0 : Sg) : Option (Int32 × Sg) :=
  (if 0 ≤ v1 then (if (999 : Int32) < v1 then (f_X6_row_27 t0) else (if (t0 (0, 0) 7) < (10 : Int32) then (bd (f_X6_set (0, 1) (t0 (0, 0) 7) v1 t0) (fun _ t8 => (bv (upS t8 (0, 0) 7 ((t8 (0, 0) 7) + (1 : Int32))) (fun t10 => (some ((t10 (0, 0) 7), t10)))))) else (f_X6_row_27 t0))) else (bd (f_X6_refuse (-4 : Int32) t0) (fun x11 t12 => (some (x11, t12)))))
def f_X6_judge_49   (v1 : Int32) (t0 : Sg) : Option (Int32 × Sg) :=
  (bv (upS t0 (0, 0) 7 (0 : Int32)) (fun t5 => (some (v1, t5))))
def f_X6_judge_43  (k9 : Int32 → Int32 → Sg → Option (Int32 × Sg)) (v1 : Int32) (v2 : Int32) (t0 : Sg) : Option (Int32 × Sg) :=
  (k9 v1 (v2 + (1 : Int32)) t0)
def f_X6_judge_9   : Nat → Int32 → Int32 → Sg → Option (Int32 × Sg)
  | 0, _, _, _ => none
  | n + 1, v1, v2, t0 =>
  (if (t0 (0, 0) 7) ≤ v2 then (f_X6_judge_49 v1 t0) else (if v1 = (-9 : Int32) then (bd (f_X2_spendWeek 3 t0) (fun x7 t8 => (bd (f_X6_get (0, 1) v2 t8) (fun x10 t11 => (if x7 = x10 then (f_X6_judge_43 (f_X6_judge_9 n) v1 v2 t11) else (f_X6_judge_43 (f_X6_judge_9 n) v2 v2 t11)))))) else (f_X6_judge_49 v1 t0)))
def f_X6_judge  (t0 : Sg) : Option (Int32 × Sg) :=
  (bd (f_X6_tryAnew t0) (fun _ t2 => (f_X6_judge_9 fuel (-9 : Int32) (0 : Int32) t2)))
def f_X6_seeds_46  (k37 : Int32 → Int32 → Int32 → Int32 → Sg → Option (Int32 × Sg)) : Nat → Int32 → Int32 → Int32 → Int32 → Int32 → Sg → Option (Int32 × Sg)
  | 0, _, _, _, _, _, _ => none
  | n + 1, v1, v3, v4, v5, v6, t0 =>
  (if (t0 (3, 15) 0) ≤ v6 then (bd (f_X2_spendWeek 3 t0) (fun x8 t9 => (bv ((v4 + x8)) (fun x11 => (k37 v1 v3 x11 (v5 + (1 : Int32)) t9))))) else (bv (((v3 * (1103515245 : Int32)) + (12345 : Int32))) (fun x12 => (bd (f_X6_set (3, 19) v6 (((x12 &&& (2147483647 : Int32)) / (65536 : Int32)) - ((x12 &&& (2147483647 : Int32)) / (65536 : Int32)) / (8 : Int32) * (8 : Int32)) t0) (fun _ t14 => ((f_X6_seeds_46 k37 n) v1 x12 v4 v5 (v6 + (1 : Int32)) t14))))))
def f_X6_seeds_37   : Nat → Int32 → Int32 → Int32 → Int32 → Sg → Option (Int32 × Sg)
  | 0, _, _, _, _, _ => none
  | n + 1, v1, v3, v4, v5, t0 =>
  (if v1 ≤ v5 then (some (v4, t0)) else (f_X6_seeds_46 (f_X6_seeds_37 n) fuel v1 v3 v4 v5 (0 : Int32) t0))
def f_X6_seeds (v1 : Int32) (v2 : Int32) (t0 : Sg) : Option (Int32 × Sg) :=
  (if (1 : Int32) ≤ v1 then (if v1 ≤ (20 : Int32) then (bd (f_X6_tryAnew t0) (fun _ t4 => (f_X6_seeds_37 fuel v1 v2 (0 : Int32) (0 : Int32) t4))) else (bd (f_X6_refuse (-6 : Int32) t0) (fun x16 t17 => (some (x16, t17))))) else (bd (f_X6_refuse (-4 : Int32) t0) (fun x19 t20 => (some (x19, t20)))))
def f_X6_image  (t0 : Sg) : Option (Int32 × Sg) :=
  (bd (f_X2_copyFrom 2 1 t0) (fun _ t2 => (bv (upS t2 (0, 0) 8 (1 : Int32)) (fun t4 => (some ((t4 (1, 6) 4), t4))))))
def f_X6_restore  (t0 : Sg) : Option (Int32 × Sg) :=
  (if (t0 (0, 0) 8) = 0 then (bd (f_X6_refuse (-3 : Int32) t0) (fun x2 t3 => (some (x2, t3)))) else (bd (f_X2_copyFrom 1 2 t0) (fun _ t6 => (some ((t6 (1, 6) 4), t6)))))
def f_X7_clearAll_91   : Nat → Int32 → Sg → Option (Unit × Sg)
  | 0, _, _ => none
  | n + 1, v1, t0 =>
  (if (576 : Int32) ≤ v1 then (some ((), t0)) else (chk (inb v1 576) ((bv (upS t0 (0, 38) (v1).toNatClampNeg (0 : Int32)) (fun t5 => ((f_X7_clearAll_91 n) (v1 + (1 : Int32)) t5))))))
def f_X7_clearAll_7   : Nat → Int32 → Sg → Option (Unit × Sg)
  | 0, _, _ => none
  | n + 1, v1, t0 =>
  (if (24 : Int32) ≤ v1 then (f_X7_clearAll_91 fuel (0 : Int32) t0) else (chk (inb v1 24) ((bv (upS t0 (0, 30) (v1).toNatClampNeg (0 : Int32)) (fun t7 => (chk (inb v1 24) ((bv (upS t7 (0, 31) (v1).toNatClampNeg (0 : Int32)) (fun t9 => (chk (inb v1 24) ((bv (upS t9 (0, 32) (v1).toNatClampNeg (0 : Int32)) (fun t11 => (chk (inb v1 24) ((bv (upS t11 (0, 33) (v1).toNatClampNeg (0 : Int32)) (fun t13 => (chk (inb v1 24) ((bv (upS t13 (0, 34) (v1).toNatClampNeg (0 : Int32)) (fun t15 => (chk (¬ (t15 (0, 29) 1) = 0) ((chk (¬ (t15 (0, 29) 1) = 0) ((chk (inb v1 24) ((bv (upS t15 (0, 35) (v1).toNatClampNeg (((4 : Int32) * (v1 / (t15 (0, 29) 1))) + (v1 - v1 / (t15 (0, 29) 1) * (t15 (0, 29) 1)))) (fun t19 => (chk (inb v1 24) ((bv (upS t19 (0, 36) (v1).toNatClampNeg (0 : Int32)) (fun t21 => (chk (inb v1 24) ((bv (upS t21 (0, 37) (v1).toNatClampNeg (0 : Int32)) (fun t23 => ((f_X7_clearAll_7 n) (v1 + (1 : Int32)) t23))))))))))))))))))))))))))))))))))))))
def f_X7_clearAll  (t0 : Sg) : Option (Unit × Sg) :=
  (bv (upS t0 (0, 29) 4 (0 : Int32)) (fun t1 => (f_X7_clearAll_7 fuel (0 : Int32) t1)))
def f_X7_in (v0 : Int64) (v2 : Int64) (v4 : Int64) (t0 : Sg) : Option (Int32 × Sg) :=
  (some ((if (lg_cmp v0 v2) < 0 then (0 : Int32) else (if 0 < (lg_cmp v0 v4) then (0 : Int32) else (1 : Int32))), t0))
def f_X7_refuse (v1 : Int32) (t0 : Sg) : Option (Int32 × Sg) :=
  (chk (inb (-v1) 7) ((chk (inb (-v1) 7) ((bv (upS t0 (0, 43) ((-v1)).toNatClampNeg ((t0 (0, 43) ((-v1)).toNatClampNeg) + (1 : Int32))) (fun t3 => (some (v1, t3))))))))
def f_X7_tenants  (t0 : Sg) : Option (Int32 × Sg) :=
  (some (((t0 (0, 29) 0) * (t0 (0, 29) 1)), t0))
def f_X7_flatAt_31   (v1 : Int32) (w0 : Int32) (t0 : Sg) : Option (Int32 × Sg) :=
  (if w0 = 0 then (some ((-1 : Int32), t0)) else (some ((((4 : Int32) * (v1 / (10 : Int32))) + (v1 - v1 / (10 : Int32) * (10 : Int32))), t0)))
def f_X7_flatAt_30   (v1 : Int32) (t0 : Sg) : Option (Int32 × Sg) :=
  (f_X7_flatAt_31 v1 (0 : Int32) t0)
def f_X7_flatAt (v1 : Int32) (t0 : Sg) : Option (Int32 × Sg) :=
  (if v1 < 0 then (f_X7_flatAt_30 v1 t0) else (if (t0 (0, 29) 0) ≤ (v1 / (10 : Int32)) then (f_X7_flatAt_30 v1 t0) else (if (t0 (0, 29) 1) ≤ (v1 - v1 / (10 : Int32) * (10 : Int32)) then (f_X7_flatAt_30 v1 t0) else (f_X7_flatAt_31 v1 (1 : Int32) t0))))
def f_X7_toldAs (v0 : Int32) (t0 : Sg) : Option (Int32 × Sg) :=
  (some ((((10 : Int32) * (v0 / (4 : Int32))) + (v0 - v0 / (4 : Int32) * (4 : Int32))), t0))
def f_X7_isTenant (v1 : Int32) (t0 : Sg) : Option (Int32 × Sg) :=
  (bd (f_X7_tenants t0) (fun x1 t2 => (bd (f_X7_in (v1).toInt64 (0 : Int64) ((x1 - (1 : Int32))).toInt64 t2) (fun x4 t5 => (chk (x4 = 0 ∨ x4 = 1) ((some (x4, t5))))))))
def f_X7_areTenants (v1 : Int32) (v2 : Int32) (t0 : Sg) : Option (Int32 × Sg) :=
  (bd (f_X7_isTenant v1 t0) (fun x1 t2 => (if x1 = 0 then (some ((0 : Int32), t2)) else (bd (f_X7_isTenant v2 t2) (fun x5 t6 => (if x5 = 0 then (some ((0 : Int32), t6)) else (if v1 = v2 then (some ((0 : Int32), t6)) else (some ((1 : Int32), t6)))))))))
def f_X7_isHabit (v1 : Int32) (t0 : Sg) : Option (Int32 × Sg) :=
  (bd (f_X7_in (v1).toInt64 (0 : Int64) (((t0 (0, 29) 4) - (1 : Int32))).toInt64 t0) (fun x1 t2 => (chk (x1 = 0 ∨ x1 = 1) ((some (x1, t2))))))
def f_X7_livesIn_2   : Nat → Int32 → Int32 → Sg → Option (Int32 × Sg)
  | 0, _, _, _ => none
  | n + 1, v1, v2, t0 =>
  (chk (inb v2 24) ((if (t0 (0, 35) (v2).toNatClampNeg) = v1 then (some (v2, t0)) else ((f_X7_livesIn_2 n) v1 (v2 + (1 : Int32)) t0))))
def f_X7_livesIn (v1 : Int32) (t0 : Sg) : Option (Int32 × Sg) :=
  (f_X7_livesIn_2 fuel v1 (0 : Int32) t0)
def f_X7_nextOf_68   (v1 : Int32) (v2 : Int32) (v3 : Int32) (v4 : Int32) (t0 : Sg) : Option (Int32 × Sg) :=
  (bv (((v2 - v2 / (4 : Int32) * (4 : Int32)) + v4)) (fun x8 => (bd (f_X7_in (v3).toInt64 (0 : Int64) (((t0 (0, 29) 0) - (1 : Int32))).toInt64 t0) (fun x9 t10 => (if x9 = 0 then (some ((-1 : Int32), t10)) else (bd (f_X7_in (x8).toInt64 (0 : Int64) (((t10 (0, 29) 1) - (1 : Int32))).toInt64 t10) (fun x13 t14 => (if x13 = 0 then (some ((-1 : Int32), t14)) else (bv ((((4 : Int32) * v3) + x8)) (fun x17 => (if v1 = (4 : Int32) then (chk (inb x17 24) ((if (t14 (0, 32) (x17).toNatClampNeg) = 0 then (some (x17, t14)) else (some ((-1 : Int32), t14))))) else (some (x17, t14)))))))))))))
def f_X7_nextOf_47   (v1 : Int32) (v2 : Int32) (v3 : Int32) (w0 : Int32) (t0 : Sg) : Option (Int32 × Sg) :=
  (if v1 = (5 : Int32) then (if (t0 (0, 29) 2) = 0 then (if v3 ≤ 0 then (f_X7_nextOf_68 v1 v2 v3 w0 t0) else (f_X7_nextOf_68 v1 v2 (v3 + (-1 : Int32)) w0 t0)) else (f_X7_nextOf_68 v1 v2 v3 w0 t0)) else (f_X7_nextOf_68 v1 v2 v3 w0 t0))
def f_X7_nextOf_25   (v1 : Int32) (v2 : Int32) (v3 : Int32) (t0 : Sg) : Option (Int32 × Sg) :=
  (f_X7_nextOf_47 v1 v2 v3 (t0 (0, 29) 2) t0)
def f_X7_nextOf (v1 : Int32) (v2 : Int32) (t0 : Sg) : Option (Int32 × Sg) :=
  (bv (((v2 / (4 : Int32)) + (if v1 = (4 : Int32) then (1 : Int32) else (-1 : Int32)))) (fun x3 => (if v1 = (1 : Int32) then (f_X7_nextOf_25 v1 v2 x3 t0) else (if v1 = (5 : Int32) then (f_X7_nextOf_25 v1 v2 x3 t0) else (if v1 = (2 : Int32) then (chk (inb v2 24) ((f_X7_nextOf_47 v1 v2 x3 (t0 (0, 32) (v2).toNatClampNeg) t0))) else (f_X7_nextOf_47 v1 v2 x3 (0 : Int32) t0))))))
def f_X7_lesser (v0 : Int32) (v1 : Int32) (t0 : Sg) : Option (Int32 × Sg) :=
  (some ((if v1 ≤ v0 then v1 else v0), t0))
def f_X7_harmOf (v1 : Int32) (v2 : Int32) (v3 : Int32) (v4 : Int32) (t0 : Sg) : Option (Int32 × Sg) :=
  (chk (inb v2 24) ((if (t0 (0, 33) (v2).toNatClampNeg) = 0 then (some ((0 : Int32), t0)) else (chk (inb v2 24) ((if (((t0 (0, 34) (v2).toNatClampNeg) >>> (v3 &&& 31)) &&& (1 : Int32)) = 0 then (some ((0 : Int32), t0)) else (chk (inb v2 24) ((bd (f_X7_lesser v4 (t0 (0, 33) (v2).toNatClampNeg) t0) (fun x6 t7 => (if v1 = (1 : Int32) then (some ((x6 / (2 : Int32)), t7)) else (if v1 = (2 : Int32) then (some (x6, t7)) else (if v1 = (3 : Int32) then (some (((2 : Int32) * x6), t7)) else (if v1 = (4 : Int32) then (some ((1 : Int32), t7)) else (if v1 = (5 : Int32) then (some (((x6 / (2 : Int32)) + (2 : Int32)), t7)) else (some (x6, t7)))))))))))))))))
def f_X7_clearHarm_23   : Nat → Int32 → Sg → Option (Unit × Sg)
  | 0, _, _ => none
  | n + 1, v1, t0 =>
  (if (576 : Int32) ≤ v1 then (some ((), t0)) else (chk (inb v1 576) ((bv (upS t0 (0, 46) (v1).toNatClampNeg (0 : Int32)) (fun t4 => ((f_X7_clearHarm_23 n) (v1 + (1 : Int32)) t4))))))
def f_X7_clearHarm_2   : Nat → Int32 → Sg → Option (Unit × Sg)
  | 0, _, _ => none
  | n + 1, v1, t0 =>
  (if (24 : Int32) ≤ v1 then (f_X7_clearHarm_23 fuel (0 : Int32) t0) else (chk (inb v1 24) ((bv (upS t0 (0, 45) (v1).toNatClampNeg (0 : Int32)) (fun t6 => ((f_X7_clearHarm_2 n) (v1 + (1 : Int32)) t6))))))
def f_X7_clearHarm  (t0 : Sg) : Option (Unit × Sg) :=
  (f_X7_clearHarm_2 fuel (0 : Int32) t0)
def f_X7_beginMind_2   : Nat → Int32 → Sg → Option (Unit × Sg)
  | 0, _, _ => none
  | n + 1, v1, t0 =>
  (if (24 : Int32) ≤ v1 then (bd (f_X7_clearHarm t0) (fun _ t3 => (some ((), t3)))) else (chk (inb v1 24) ((chk (inb v1 24) ((bv (upS t0 (0, 44) (v1).toNatClampNeg (t0 (0, 31) (v1).toNatClampNeg)) (fun t7 => ((f_X7_beginMind_2 n) (v1 + (1 : Int32)) t7))))))))
def f_X7_beginMind  (t0 : Sg) : Option (Unit × Sg) :=
  (f_X7_beginMind_2 fuel (0 : Int32) t0)
def f_X7_keptAt_44   (w0 : Int32) (w1 : Int32) (t0 : Sg) : Option (Int32 × Sg) :=
  (bd (f_X7_lesser w1 w0 t0) (fun x7 t8 => (some (x7, t8))))
def f_X7_keptAt (v1 : Int32) (v2 : Int32) (v3 : Int32) (t0 : Sg) : Option (Int32 × Sg) :=
  (chk (inb v2 24) ((chk (inb v2 24) ((bv (((t0 (0, 30) (v2).toNatClampNeg) - (t0 (0, 44) (v2).toNatClampNeg))) (fun x3 => (if v1 = (3 : Int32) then (some ((0 : Int32), t0)) else (if v1 = (4 : Int32) then (some ((0 : Int32), t0)) else (if v1 = (5 : Int32) then (f_X7_keptAt_44 (x3 / (2 : Int32)) v3 t0) else (f_X7_keptAt_44 x3 v3 t0))))))))))
def f_X7_fall_171  (k45 : Int32 → Int32 → Int32 → Int32 → Sg → Option (Unit × Sg)) (v1 : Int32) (v2 : Int32) (v3 : Int32) (w0 : Int32) (t0 : Sg) : Option (Unit × Sg) :=
  (k45 v1 v2 v3 w0 t0)
def f_X7_fall_45   : Nat → Int32 → Int32 → Int32 → Int32 → Sg → Option (Unit × Sg)
  | 0, _, _, _, _, _ => none
  | n + 1, v1, v2, v3, v4, t0 =>
  (if v4 < 0 then (some ((), t0)) else (bd (f_X7_livesIn v4 t0) (fun x8 t9 => (chk (inb v1 8) ((bd (f_X7_harmOf v2 v4 (t9 (0, 42) (v1).toNatClampNeg) v3 t9) (fun x12 t13 => (bd (f_X7_keptAt v2 v4 v3 t13) (fun x15 t16 => (chk (inb (t16 (0, 29) 24) 8) ((bv (upS t16 (0, 47) ((t16 (0, 29) 24)).toNatClampNeg v4) (fun t19 => (bv (upS t19 (0, 29) 24 ((t19 (0, 29) 24) + (1 : Int32))) (fun t20 => (chk (inb x8 24) ((chk (inb x8 24) ((bv (upS t20 (0, 45) (x8).toNatClampNeg ((t20 (0, 45) (x8).toNatClampNeg) + x12)) (fun t23 => (chk (inb v1 8) ((chk (inb (((24 : Int32) * x8) + (t23 (0, 39) (v1).toNatClampNeg)) 576) ((chk (inb (((24 : Int32) * x8) + (t23 (0, 39) (v1).toNatClampNeg)) 576) ((bv (upS t23 (0, 46) ((((24 : Int32) * x8) + (t23 (0, 39) (v1).toNatClampNeg))).toNatClampNeg ((t23 (0, 46) ((((24 : Int32) * x8) + (t23 (0, 39) (v1).toNatClampNeg))).toNatClampNeg) + x12)) (fun t27 => (chk (inb v4 24) ((chk (inb v4 24) ((bv (upS t27 (0, 44) (v4).toNatClampNeg ((t27 (0, 44) (v4).toNatClampNeg) + x15)) (fun t30 => (bv ((v3 - x15)) (fun x31 => (if x31 = 0 then (f_X7_fall_171 (f_X7_fall_45 n) v1 v2 x31 (-1 : Int32) t30) else (bd (f_X7_nextOf v2 v4 t30) (fun x33 t34 => (f_X7_fall_171 (f_X7_fall_45 n) v1 v2 x31 x33 t34)))))))))))))))))))))))))))))))))))))))))
def f_X7_fall_38   (v1 : Int32) (v2 : Int32) (v3 : Int32) (w0 : Int32) (t0 : Sg) : Option (Unit × Sg) :=
  (bv (upS t0 (0, 29) 24 (0 : Int32)) (fun t6 => (f_X7_fall_45 fuel v1 v2 v3 w0 t6)))
def f_X7_fall (v1 : Int32) (t0 : Sg) : Option (Unit × Sg) :=
  (chk (inb v1 8) ((bv ((t0 (0, 40) (v1).toNatClampNeg)) (fun x2 => (chk (inb v1 8) ((bv ((t0 (0, 41) (v1).toNatClampNeg)) (fun x4 => (if x4 = 0 then (f_X7_fall_38 v1 x2 x4 (-1 : Int32) t0) else (chk (inb v1 8) ((chk (inb (t0 (0, 39) (v1).toNatClampNeg) 24) ((bd (f_X7_nextOf x2 (t0 (0, 35) ((t0 (0, 39) (v1).toNatClampNeg)).toNatClampNeg) t0) (fun x38 t39 => (f_X7_fall_38 v1 x2 x4 x38 t39))))))))))))))))
def f_X7_sumHarm_4   : Nat → Int32 → Int32 → Sg → Option (Int32 × Sg)
  | 0, _, _, _ => none
  | n + 1, v1, v2, t0 =>
  (bd (f_X7_tenants t0) (fun x1 t2 => (if x1 ≤ v2 then (some (v1, t2)) else (chk (inb v2 24) ((bv ((v1 + (t2 (0, 45) (v2).toNatClampNeg))) (fun x6 => ((f_X7_sumHarm_4 n) x6 (v2 + (1 : Int32)) t2))))))))
def f_X7_sumHarm  (t0 : Sg) : Option (Int32 × Sg) :=
  (f_X7_sumHarm_4 fuel (0 : Int32) (0 : Int32) t0)
def f_X7_weekOn_51   : Nat → Int32 → Sg → Option (Int32 × Sg)
  | 0, _, _ => none
  | n + 1, v1, t0 =>
  (if (24 : Int32) ≤ v1 then (bd (f_X7_sumHarm t0) (fun x6 t7 => (some (x6, t7)))) else (chk (inb v1 24) ((chk (inb v1 24) ((chk (inb v1 24) ((bv (upS t0 (0, 44) (v1).toNatClampNeg ((t0 (0, 44) (v1).toNatClampNeg) - (if (t0 (0, 44) (v1).toNatClampNeg) ≤ 0 then (0 : Int32) else (1 : Int32)))) (fun t14 => ((f_X7_weekOn_51 n) (v1 + (1 : Int32)) t14))))))))))
def f_X7_weekOn_37  (k6 : Int32 → Sg → Option (Int32 × Sg)) (k14 : Int32 → Int32 → Sg → Option (Int32 × Sg)) (v1 : Int32) (v2 : Int32) (t0 : Sg) : Option (Int32 × Sg) :=
  (k14 v1 (v2 + (1 : Int32)) t0)
def f_X7_weekOn_14  (k6 : Int32 → Sg → Option (Int32 × Sg)) : Nat → Int32 → Int32 → Sg → Option (Int32 × Sg)
  | 0, _, _, _ => none
  | n + 1, v1, v2, t0 =>
  (if (t0 (0, 29) 4) ≤ v2 then (k6 (v1 + (1 : Int32)) t0) else (chk (inb v2 8) ((if (t0 (0, 42) (v2).toNatClampNeg) = v1 then (bd (f_X7_fall v2 t0) (fun _ t19 => (f_X7_weekOn_37 k6 (f_X7_weekOn_14 k6 n) v1 v2 t19))) else (f_X7_weekOn_37 k6 (f_X7_weekOn_14 k6 n) v1 v2 t0)))))
def f_X7_weekOn_6   : Nat → Int32 → Sg → Option (Int32 × Sg)
  | 0, _, _ => none
  | n + 1, v1, t0 =>
  (if (8 : Int32) ≤ v1 then (f_X7_weekOn_51 fuel (0 : Int32) t0) else (f_X7_weekOn_14 (f_X7_weekOn_6 n) fuel v1 (0 : Int32) t0))
def f_X7_weekOn  (t0 : Sg) : Option (Int32 × Sg) :=
  (bd (f_X7_clearHarm t0) (fun _ t2 => (f_X7_weekOn_6 fuel (0 : Int32) t2)))
def f_X7_oneWeek  (t0 : Sg) : Option (Int32 × Sg) :=
  (bd (f_X7_beginMind t0) (fun _ t2 => (bd (f_X7_weekOn t2) (fun x4 t5 => (some (x4, t5))))))
def f_X7_oneWeekOf (v1 : Int32) (t0 : Sg) : Option (Int32 × Sg) :=
  (bd (f_X7_oneWeek t0) (fun x1 t2 => (chk (inb v1 24) ((some ((t2 (0, 45) (v1).toNatClampNeg), t2))))))
def f_X7_keepWeek_67  (k28 : Int32 → Sg → Option (Unit × Sg)) : Nat → Int32 → Int32 → Sg → Option (Unit × Sg)
  | 0, _, _, _ => none
  | n + 1, v1, v2, t0 =>
  (if (24 : Int32) ≤ v2 then (k28 (v1 + (1 : Int32)) t0) else (chk (inb (((24 : Int32) * v1) + v2) 576) ((bv ((t0 (0, 46) ((((24 : Int32) * v1) + v2)).toNatClampNeg)) (fun x15 => (chk (inb (((24 : Int32) * v1) + v2) 576) ((bd (f_X7_lesser (999 : Int32) ((t0 (0, 38) ((((24 : Int32) * v1) + v2)).toNatClampNeg) + x15) t0) (fun x17 t18 => (chk (inb (((24 : Int32) * v1) + v2) 576) ((bv (upS t18 (0, 38) ((((24 : Int32) * v1) + v2)).toNatClampNeg x17) (fun t21 => (chk (inb v1 24) ((chk (inb v1 24) ((bv (upS t21 (0, 37) (v1).toNatClampNeg ((t21 (0, 37) (v1).toNatClampNeg) ||| (if x15 ≤ 0 then (0 : Int32) else ((1 : Int32) <<< (v2 &&& 31))))) (fun t26 => ((f_X7_keepWeek_67 k28 n) v1 (v2 + (1 : Int32)) t26))))))))))))))))))))
def f_X7_keepWeek_28   : Nat → Int32 → Sg → Option (Unit × Sg)
  | 0, _, _ => none
  | n + 1, v1, t0 =>
  (if (24 : Int32) ≤ v1 then (bv (upS t0 (0, 29) 3 ((t0 (0, 29) 3) + (1 : Int32))) (fun t3 => (some ((), t3)))) else (chk (inb v1 24) ((chk (inb v1 24) ((bd (f_X7_lesser (99999 : Int32) ((t0 (0, 36) (v1).toNatClampNeg) + (t0 (0, 45) (v1).toNatClampNeg)) t0) (fun x6 t7 => (chk (inb v1 24) ((bv (upS t7 (0, 36) (v1).toNatClampNeg x6) (fun t10 => (chk (inb v1 24) ((bv (upS t10 (0, 37) (v1).toNatClampNeg (0 : Int32)) (fun t12 => (f_X7_keepWeek_67 (f_X7_keepWeek_28 n) fuel v1 (0 : Int32) t12))))))))))))))))
def f_X7_keepWeek_2   : Nat → Int32 → Sg → Option (Unit × Sg)
  | 0, _, _ => none
  | n + 1, v1, t0 =>
  (if (24 : Int32) ≤ v1 then (f_X7_keepWeek_28 fuel (0 : Int32) t0) else (chk (inb v1 24) ((chk (inb v1 24) ((bv (upS t0 (0, 31) (v1).toNatClampNeg (t0 (0, 44) (v1).toNatClampNeg)) (fun t29 => ((f_X7_keepWeek_2 n) (v1 + (1 : Int32)) t29))))))))
def f_X7_keepWeek  (t0 : Sg) : Option (Unit × Sg) :=
  (f_X7_keepWeek_2 fuel (0 : Int32) t0)
def f_X7_feed_32    (t0 : Sg) : Option (Int32 × Sg) :=
  (bd (f_X7_refuse (-6 : Int32) t0) (fun x4 t5 => (some (x4, t5))))
def f_X7_feed (v1 : Int32) (t0 : Sg) : Option (Int32 × Sg) :=
  (bv (upS t0 (0, 29) 18 (0 : Int32)) (fun t1 => (if 0 ≤ v1 then (if (255 : Int32) < v1 then (f_X7_feed_32 t1) else (if (t1 (0, 29) 26) = (96 : Int32) then (f_X7_feed_32 t1) else (chk (inb (t1 (0, 29) 26) 96) ((bv (upS t1 (0, 48) ((t1 (0, 29) 26)).toNatClampNeg v1) (fun t9 => (bv (upS t9 (0, 29) 26 ((t9 (0, 29) 26) + (1 : Int32))) (fun t10 => (some ((t10 (0, 29) 26), t10)))))))))) else (bd (f_X7_refuse (-4 : Int32) t1) (fun x11 t12 => (some (x11, t12)))))))
def f_X7_here  (t0 : Sg) : Option (Int32 × Sg) :=
  (if (t0 (0, 29) 26) ≤ (t0 (0, 29) 27) then (some ((-1 : Int32), t0)) else (chk (inb (t0 (0, 29) 27) 96) ((some ((t0 (0, 48) ((t0 (0, 29) 27)).toNatClampNeg), t0)))))
def f_X7_readDigit_30   (w0 : Int32) (t0 : Sg) : Option (Int32 × Sg) :=
  (chk (w0 = 0 ∨ w0 = 1) ((bv (upS t0 (0, 29) 28 w0) (fun t9 => (if (t9 (0, 29) 28) = 0 then (bv (upS t9 (0, 29) 27 ((t9 (0, 29) 27) + (1 : Int32))) (fun t12 => (chk (inb ((t12 (0, 29) 27) - (1 : Int32)) 96) ((some (((t12 (0, 48) (((t12 (0, 29) 27) - (1 : Int32))).toNatClampNeg) - (48 : Int32)), t12)))))) else (some ((0 : Int32), t9)))))))
def f_X7_readDigit_25    (t0 : Sg) : Option (Int32 × Sg) :=
  (f_X7_readDigit_30 (1 : Int32) t0)
def f_X7_readDigit  (t0 : Sg) : Option (Int32 × Sg) :=
  (if (t0 (0, 29) 28) = 0 then (bd (f_X7_here t0) (fun x2 t3 => (bd (f_X7_in (x2).toInt64 (48 : Int64) (57 : Int64) t3) (fun x5 t6 => (if x5 = 0 then (f_X7_readDigit_25 t6) else (f_X7_readDigit_30 (0 : Int32) t6)))))) else (f_X7_readDigit_25 t0))
def f_X7_readTwo  (t0 : Sg) : Option (Int32 × Sg) :=
  (bd (f_X7_readDigit t0) (fun x1 t2 => (bd (f_X7_readDigit t2) (fun x4 t5 => (some ((((10 : Int32) * x1) + x4), t5))))))
def f_X7_readSign  (t0 : Sg) : Option (Int32 × Sg) :=
  (bd (f_X7_here t0) (fun x1 t2 => (bv (upS t2 (0, 29) 28 (if (t2 (0, 29) 28) = 0 then (if x1 = (43 : Int32) then (0 : Int32) else (if x1 = (45 : Int32) then (0 : Int32) else (if x1 = (48 : Int32) then (0 : Int32) else (1 : Int32)))) else (1 : Int32))) (fun t9 => (bv (upS t9 (0, 29) 27 ((t9 (0, 29) 27) + (if (t9 (0, 29) 28) = 0 then (1 : Int32) else (0 : Int32)))) (fun t12 => (some ((if x1 = (43 : Int32) then (1 : Int32) else (if x1 = (45 : Int32) then (-1 : Int32) else (0 : Int32))), t12))))))))
def f_X7_readHours_4   : Nat → Int32 → Int32 → Sg → Option (Int32 × Sg)
  | 0, _, _, _ => none
  | n + 1, v1, v2, t0 =>
  (if (8 : Int32) ≤ v2 then (some (v1, t0)) else (if (t0 (0, 29) 28) = 0 then (bd (f_X7_here t0) (fun x3 t4 => (bd (f_X7_in (x3).toInt64 (48 : Int64) (55 : Int64) t4) (fun x6 t7 => (if x6 = 0 then (some (v1, t7)) else (bd (f_X7_readDigit t7) (fun x10 t11 => (bv ((v1 ||| ((1 : Int32) <<< (x10 &&& 31)))) (fun x13 => ((f_X7_readHours_4 n) x13 (v2 + (1 : Int32)) t11)))))))))) else (some (v1, t0))))
def f_X7_readHours  (t0 : Sg) : Option (Int32 × Sg) :=
  (f_X7_readHours_4 fuel (0 : Int32) (0 : Int32) t0)
def f_X7_readTenant_61   (v1 : Int32) (w0 : Int32) (t0 : Sg) : Option (Int32 × Sg) :=
  (chk (w0 = 0 ∨ w0 = 1) ((bv (upS t0 (0, 29) 28 w0) (fun t17 => (bv (upS t17 (0, 29) 27 ((t17 (0, 29) 27) + (if (t17 (0, 29) 28) = 0 then (1 : Int32) else (0 : Int32)))) (fun t21 => (some (v1, t21))))))))
def f_X7_readTenant_56   (v1 : Int32) (t0 : Sg) : Option (Int32 × Sg) :=
  (f_X7_readTenant_61 v1 (1 : Int32) t0)
def f_X7_readTenant_39   (v1 : Int32) (t0 : Sg) : Option (Int32 × Sg) :=
  (if (t0 (0, 29) 28) = 0 then (bd (f_X7_here t0) (fun x13 t14 => (if x13 = (44 : Int32) then (f_X7_readTenant_61 v1 (0 : Int32) t14) else (f_X7_readTenant_56 v1 t14)))) else (f_X7_readTenant_56 v1 t0))
def f_X7_readTenant  (t0 : Sg) : Option (Int32 × Sg) :=
  (bd (f_X7_readDigit t0) (fun x1 t2 => (if (t2 (0, 29) 28) = 0 then (bd (f_X7_here t2) (fun x5 t6 => (bd (f_X7_in (x5).toInt64 (48 : Int64) (57 : Int64) t6) (fun x8 t9 => (if x8 = 0 then (f_X7_readTenant_39 x1 t9) else (bd (f_X7_readDigit t9) (fun x22 t23 => (bv ((((10 : Int32) * x1) + x22)) (fun x25 => (f_X7_readTenant_39 x25 t23)))))))))) else (f_X7_readTenant_39 x1 t2))))
def f_X7_readStatement_349   (w0 : Int32) (t0 : Sg) : Option (Unit × Sg) :=
  (chk (w0 = 0 ∨ w0 = 1) ((bv (upS t0 (0, 29) 28 w0) (fun t38 => (bv (upS t38 (0, 29) 27 ((t38 (0, 29) 27) + (if (t38 (0, 29) 28) = 0 then (1 : Int32) else (0 : Int32)))) (fun t42 => (bv (upS t42 (0, 29) 29 ((t42 (0, 29) 29) + (1 : Int32))) (fun t43 => (some ((), t43))))))))))
def f_X7_readStatement_344    (t0 : Sg) : Option (Unit × Sg) :=
  (f_X7_readStatement_349 (1 : Int32) t0)
def f_X7_readStatement_327    (t0 : Sg) : Option (Unit × Sg) :=
  (if (t0 (0, 29) 28) = 0 then (bd (f_X7_here t0) (fun x34 t35 => (if x34 = (59 : Int32) then (f_X7_readStatement_349 (0 : Int32) t35) else (f_X7_readStatement_344 t35)))) else (f_X7_readStatement_344 t0))
def f_X7_readStatement  (t0 : Sg) : Option (Unit × Sg) :=
  (bv ((t0 (0, 29) 29)) (fun x1 => (bd (f_X7_here t0) (fun x2 t3 => (chk (inb x1 49) ((bv (upS t3 (0, 49) (x1).toNatClampNeg (t3 (0, 29) 27)) (fun t6 => (chk (inb x1 49) ((bv (upS t6 (0, 50) (x1).toNatClampNeg x2) (fun t8 => (bv (upS t8 (0, 29) 28 (if (t8 (0, 29) 28) = 0 then (if x2 = (102 : Int32) then (0 : Int32) else (if x2 = (115 : Int32) then (0 : Int32) else (if x2 = (97 : Int32) then (0 : Int32) else (if x2 = (119 : Int32) then (0 : Int32) else (if x2 = (98 : Int32) then (0 : Int32) else (if x2 = (104 : Int32) then (0 : Int32) else (1 : Int32))))))) else (1 : Int32))) (fun t17 => (bv (upS t17 (0, 29) 27 ((t17 (0, 29) 27) + (if (t17 (0, 29) 28) = 0 then (1 : Int32) else (0 : Int32)))) (fun t20 => (bv (((4 : Int32) * x1)) (fun x21 => (if x2 = (97 : Int32) then (bd (f_X7_readTwo t20) (fun x23 t24 => (chk (inb x21 196) ((bv (upS t24 (0, 51) (x21).toNatClampNeg x23) (fun t27 => (bd (f_X7_readSign t27) (fun x28 t29 => (chk (inb (x21 + (1 : Int32)) 196) ((bv (upS t29 (0, 51) ((x21 + (1 : Int32))).toNatClampNeg x28) (fun t32 => (f_X7_readStatement_327 t32))))))))))))) else (if x2 = (98 : Int32) then (bd (f_X7_readSign t20) (fun x45 t46 => (chk (inb x21 196) ((bv (upS t46 (0, 51) (x21).toNatClampNeg x45) (fun t49 => (f_X7_readStatement_327 t49))))))) else (if x2 = (102 : Int32) then (bd (f_X7_readDigit t20) (fun x51 t52 => (chk (inb x21 196) ((bv (upS t52 (0, 51) (x21).toNatClampNeg x51) (fun t55 => (bd (f_X7_readDigit t55) (fun x56 t57 => (chk (inb (x21 + (1 : Int32)) 196) ((bv (upS t57 (0, 51) ((x21 + (1 : Int32))).toNatClampNeg x56) (fun t60 => (f_X7_readStatement_327 t60))))))))))))) else (if x2 = (115 : Int32) then (bd (f_X7_readTwo t20) (fun x62 t63 => (chk (inb x21 196) ((bv (upS t63 (0, 51) (x21).toNatClampNeg x62) (fun t66 => (bd (f_X7_readDigit t66) (fun x67 t68 => (chk (inb (x21 + (1 : Int32)) 196) ((bv (upS t68 (0, 51) ((x21 + (1 : Int32))).toNatClampNeg x67) (fun t71 => (f_X7_readStatement_327 t71))))))))))))) else (if x2 = (119 : Int32) then (bd (f_X7_readTwo t20) (fun x73 t74 => (chk (inb x21 196) ((bv (upS t74 (0, 51) (x21).toNatClampNeg x73) (fun t77 => (bd (f_X7_readDigit t77) (fun x78 t79 => (chk (inb (x21 + (1 : Int32)) 196) ((bv (upS t79 (0, 51) ((x21 + (1 : Int32))).toNatClampNeg x78) (fun t82 => (bd (f_X7_readHours t82) (fun x83 t84 => (chk (inb (x21 + (2 : Int32)) 196) ((bv (upS t84 (0, 51) ((x21 + (2 : Int32))).toNatClampNeg x83) (fun t87 => (f_X7_readStatement_327 t87))))))))))))))))))) else (bd (f_X7_readTenant t20) (fun x88 t89 => (chk (inb x21 196) ((bv (upS t89 (0, 51) (x21).toNatClampNeg x88) (fun t92 => (bd (f_X7_readDigit t92) (fun x93 t94 => (chk (inb (x21 + (1 : Int32)) 196) ((bv (upS t94 (0, 51) ((x21 + (1 : Int32))).toNatClampNeg x93) (fun t97 => (bd (f_X7_readDigit t97) (fun x98 t99 => (chk (inb (x21 + (2 : Int32)) 196) ((bv (upS t99 (0, 51) ((x21 + (2 : Int32))).toNatClampNeg x98) (fun t102 => (bd (f_X7_readDigit t102) (fun x103 t104 => (chk (inb (x21 + (3 : Int32)) 196) ((bv (upS t104 (0, 51) ((x21 + (3 : Int32))).toNatClampNeg x103) (fun t107 => (f_X7_readStatement_327 t107))))))))))))))))))))))))))))))))))))))))))))))))
def f_X7_frontComes_31   (v1 : Int32) (v2 : Int32) (w0 : Int32) (t0 : Sg) : Option (Int32 × Sg) :=
  (if w0 = 0 then (chk (w0 = 0 ∨ w0 = 1) ((some (w0, t0)))) else (bv (upS t0 (0, 29) 0 v1) (fun t7 => (bv (upS t7 (0, 29) 1 v2) (fun t8 => (bd (f_X7_clearAll t8) (fun _ t10 => (chk (w0 = 0 ∨ w0 = 1) ((some (w0, t10)))))))))))
def f_X7_frontComes_30   (v1 : Int32) (v2 : Int32) (t0 : Sg) : Option (Int32 × Sg) :=
  (f_X7_frontComes_31 v1 v2 (0 : Int32) t0)
def f_X7_frontComes (v1 : Int32) (v2 : Int32) (t0 : Sg) : Option (Int32 × Sg) :=
  (bd (f_X7_in (v1).toInt64 (2 : Int64) (6 : Int64) t0) (fun x1 t2 => (if x1 = 0 then (f_X7_frontComes_30 v1 v2 t2) else (bd (f_X7_in (v2).toInt64 (1 : Int64) (4 : Int64) t2) (fun x13 t14 => (if x13 = 0 then (f_X7_frontComes_30 v1 v2 t14) else (f_X7_frontComes_31 v1 v2 (1 : Int32) t14)))))))
def f_X7_habitComes_53   (v1 : Int32) (w0 : Int32) (t0 : Sg) : Option (Int32 × Sg) :=
  (if w0 = 0 then (chk (w0 = 0 ∨ w0 = 1) ((some (w0, t0)))) else (chk (inb v1 196) ((chk (inb (t0 (0, 29) 4) 8) ((bv (upS t0 (0, 39) ((t0 (0, 29) 4)).toNatClampNeg (t0 (0, 51) (v1).toNatClampNeg)) (fun t10 => (chk (inb (v1 + (1 : Int32)) 196) ((chk (inb (t10 (0, 29) 4) 8) ((bv (upS t10 (0, 40) ((t10 (0, 29) 4)).toNatClampNeg (t10 (0, 51) ((v1 + (1 : Int32))).toNatClampNeg)) (fun t13 => (chk (inb (v1 + (2 : Int32)) 196) ((chk (inb (t13 (0, 29) 4) 8) ((bv (upS t13 (0, 41) ((t13 (0, 29) 4)).toNatClampNeg (t13 (0, 51) ((v1 + (2 : Int32))).toNatClampNeg)) (fun t16 => (chk (inb (v1 + (3 : Int32)) 196) ((chk (inb (t16 (0, 29) 4) 8) ((bv (upS t16 (0, 42) ((t16 (0, 29) 4)).toNatClampNeg (t16 (0, 51) ((v1 + (3 : Int32))).toNatClampNeg)) (fun t19 => (bv (upS t19 (0, 29) 4 ((t19 (0, 29) 4) + (1 : Int32))) (fun t20 => (chk (w0 = 0 ∨ w0 = 1) ((some (w0, t20)))))))))))))))))))))))))))))))
def f_X7_habitComes_52   (v1 : Int32) (t0 : Sg) : Option (Int32 × Sg) :=
  (f_X7_habitComes_53 v1 (0 : Int32) t0)
def f_X7_habitComes (v1 : Int32) (t0 : Sg) : Option (Int32 × Sg) :=
  (chk (inb v1 196) ((bd (f_X7_tenants t0) (fun x2 t3 => (if x2 ≤ (t0 (0, 51) (v1).toNatClampNeg) then (f_X7_habitComes_52 v1 t3) else (chk (inb (v1 + (1 : Int32)) 196) ((if (6 : Int32) ≤ (t3 (0, 51) ((v1 + (1 : Int32))).toNatClampNeg) then (f_X7_habitComes_52 v1 t3) else (chk (inb (v1 + (3 : Int32)) 196) ((if (8 : Int32) ≤ (t3 (0, 51) ((v1 + (3 : Int32))).toNatClampNeg) then (f_X7_habitComes_52 v1 t3) else (if (8 : Int32) ≤ (t3 (0, 29) 4) then (f_X7_habitComes_52 v1 t3) else (f_X7_habitComes_53 v1 (1 : Int32) t3)))))))))))))
def f_X7_saucerIs (v1 : Int32) (v2 : Int32) (t0 : Sg) : Option (Unit × Sg) :=
  (chk (inb v1 24) ((bv (upS t0 (0, 30) (v1).toNatClampNeg v2) (fun t2 => (chk (inb v1 24) ((bd (f_X7_lesser (t2 (0, 31) (v1).toNatClampNeg) v2 t2) (fun x4 t5 => (chk (inb v1 24) ((bv (upS t5 (0, 31) (v1).toNatClampNeg x4) (fun t8 => (some ((), t8))))))))))))))
def f_X7_flatComes (v1 : Int32) (v2 : Int32) (t0 : Sg) : Option (Int32 × Sg) :=
  (chk (inb v2 196) ((bd (f_X7_flatAt (t0 (0, 51) (v2).toNatClampNeg) t0) (fun x2 t3 => (if 0 ≤ x2 then (if v1 = (115 : Int32) then (chk (inb (v2 + (1 : Int32)) 196) ((bd (f_X7_saucerIs x2 (t3 (0, 51) ((v2 + (1 : Int32))).toNatClampNeg) t3) (fun _ t9 => (some ((1 : Int32), t9)))))) else (if v1 = (97 : Int32) then (chk (inb (v2 + (1 : Int32)) 196) ((chk (inb x2 24) ((bv (upS t3 (0, 32) (x2).toNatClampNeg (t3 (0, 51) ((v2 + (1 : Int32))).toNatClampNeg)) (fun t14 => (some ((1 : Int32), t14)))))))) else (chk (inb (v2 + (1 : Int32)) 196) ((chk (inb x2 24) ((bv (upS t3 (0, 33) (x2).toNatClampNeg (t3 (0, 51) ((v2 + (1 : Int32))).toNatClampNeg)) (fun t17 => (chk (inb (v2 + (2 : Int32)) 196) ((chk (inb x2 24) ((bv (upS t17 (0, 34) (x2).toNatClampNeg (t17 (0, 51) ((v2 + (2 : Int32))).toNatClampNeg)) (fun t20 => (some ((1 : Int32), t20)))))))))))))))) else (some ((0 : Int32), t3)))))))
def f_X7_comes (v1 : Int32) (t0 : Sg) : Option (Int32 × Sg) :=
  (bv (((4 : Int32) * v1)) (fun x1 => (chk (inb v1 49) ((bv ((t0 (0, 50) (v1).toNatClampNeg)) (fun x3 => (if x3 = (98 : Int32) then (chk (inb x1 196) ((bv (upS t0 (0, 29) 2 (t0 (0, 51) (x1).toNatClampNeg)) (fun t6 => (some ((1 : Int32), t6)))))) else (if x3 = (102 : Int32) then (chk (inb x1 196) ((chk (inb (x1 + (1 : Int32)) 196) ((bd (f_X7_frontComes (t0 (0, 51) (x1).toNatClampNeg) (t0 (0, 51) ((x1 + (1 : Int32))).toNatClampNeg) t0) (fun x10 t11 => (chk (x10 = 0 ∨ x10 = 1) ((some (x10, t11)))))))))) else (if x3 = (104 : Int32) then (bd (f_X7_habitComes x1 t0) (fun x15 t16 => (chk (x15 = 0 ∨ x15 = 1) ((some (x15, t16)))))) else (chk (inb v1 49) ((bd (f_X7_flatComes (t0 (0, 50) (v1).toNatClampNeg) x1 t0) (fun x20 t21 => (chk (x20 = 0 ∨ x20 = 1) ((some (x20, t21)))))))))))))))))
def f_X7_carry_17    (t0 : Sg) : Option (Int32 × Sg) :=
  (bv (upS t0 (0, 29) 36 ((t0 (0, 29) 36) + (1 : Int32))) (fun t2 => (chk ((t2 (0, 29) 38) = 1 ∨ (t2 (0, 29) 38) = 2) ((chk (inb ((t2 (0, 29) 36) - (1 : Int32)) 810) ((some ((t2 (dynId (t2 (0, 29) 38)) (((t2 (0, 29) 36) - (1 : Int32))).toNatClampNeg), t2))))))))
def f_X7_carry (v1 : Int32) (t0 : Sg) : Option (Int32 × Sg) :=
  (if (t0 (0, 29) 37) = 0 then (f_X7_carry_17 t0) else (chk ((t0 (0, 29) 38) = 1 ∨ (t0 (0, 29) 38) = 2) ((chk (inb (t0 (0, 29) 36) 810) ((bv (upS t0 (dynId (t0 (0, 29) 38)) ((t0 (0, 29) 36)).toNatClampNeg v1) (fun t7 => (f_X7_carry_17 t7))))))))
def f_X7_carryAll_250 (i1 : Nat × Nat)  : Nat → Int32 → Sg → Option (Unit × Sg)
  | 0, _, _ => none
  | n + 1, v3, t0 =>
  (if (8 : Int32) ≤ v3 then (some ((), t0)) else (chk (inb v3 8) ((bd (f_X7_carry (t0 (0, 39) (v3).toNatClampNeg) t0) (fun x30 t31 => (chk (inb v3 8) ((bv (upS t31 (0, 39) (v3).toNatClampNeg x30) (fun t34 => (chk (inb v3 8) ((bd (f_X7_carry (t34 (0, 40) (v3).toNatClampNeg) t34) (fun x36 t37 => (chk (inb v3 8) ((bv (upS t37 (0, 40) (v3).toNatClampNeg x36) (fun t40 => (chk (inb v3 8) ((bd (f_X7_carry (t40 (0, 41) (v3).toNatClampNeg) t40) (fun x42 t43 => (chk (inb v3 8) ((bv (upS t43 (0, 41) (v3).toNatClampNeg x42) (fun t46 => (chk (inb v3 8) ((bd (f_X7_carry (t46 (0, 42) (v3).toNatClampNeg) t46) (fun x48 t49 => (chk (inb v3 8) ((bv (upS t49 (0, 42) (v3).toNatClampNeg x48) (fun t52 => ((f_X7_carryAll_250 i1 n) (v3 + (1 : Int32)) t52))))))))))))))))))))))))))))))))))
def f_X7_carryAll_219 (i1 : Nat × Nat)  : Nat → Int32 → Sg → Option (Unit × Sg)
  | 0, _, _ => none
  | n + 1, v3, t0 =>
  (if (576 : Int32) ≤ v3 then (f_X7_carryAll_250 i1 fuel (0 : Int32) t0) else (chk (inb v3 576) ((bd (f_X7_carry (t0 (0, 38) (v3).toNatClampNeg) t0) (fun x54 t55 => (chk (inb v3 576) ((bv (upS t55 (0, 38) (v3).toNatClampNeg x54) (fun t58 => ((f_X7_carryAll_219 i1 n) (v3 + (1 : Int32)) t58))))))))))
def f_X7_carryAll_77 (i1 : Nat × Nat)  : Nat → Int32 → Sg → Option (Unit × Sg)
  | 0, _, _ => none
  | n + 1, v3, t0 =>
  (if (24 : Int32) ≤ v3 then (f_X7_carryAll_219 i1 fuel (0 : Int32) t0) else (chk (inb v3 24) ((bd (f_X7_carry (t0 (0, 30) (v3).toNatClampNeg) t0) (fun x60 t61 => (chk (inb v3 24) ((bv (upS t61 (0, 30) (v3).toNatClampNeg x60) (fun t64 => (chk (inb v3 24) ((bd (f_X7_carry (t64 (0, 31) (v3).toNatClampNeg) t64) (fun x66 t67 => (chk (inb v3 24) ((bv (upS t67 (0, 31) (v3).toNatClampNeg x66) (fun t70 => (chk (inb v3 24) ((bd (f_X7_carry (t70 (0, 32) (v3).toNatClampNeg) t70) (fun x72 t73 => (chk (inb v3 24) ((bv (upS t73 (0, 32) (v3).toNatClampNeg x72) (fun t76 => (chk (inb v3 24) ((bd (f_X7_carry (t76 (0, 33) (v3).toNatClampNeg) t76) (fun x78 t79 => (chk (inb v3 24) ((bv (upS t79 (0, 33) (v3).toNatClampNeg x78) (fun t82 => (chk (inb v3 24) ((bd (f_X7_carry (t82 (0, 34) (v3).toNatClampNeg) t82) (fun x84 t85 => (chk (inb v3 24) ((bv (upS t85 (0, 34) (v3).toNatClampNeg x84) (fun t88 => (chk (inb v3 24) ((bd (f_X7_carry (t88 (0, 35) (v3).toNatClampNeg) t88) (fun x90 t91 => (chk (inb v3 24) ((bv (upS t91 (0, 35) (v3).toNatClampNeg x90) (fun t94 => (chk (inb v3 24) ((bd (f_X7_carry (t94 (0, 36) (v3).toNatClampNeg) t94) (fun x96 t97 => (chk (inb v3 24) ((bv (upS t97 (0, 36) (v3).toNatClampNeg x96) (fun t100 => (chk (inb v3 24) ((bd (f_X7_carry (t100 (0, 37) (v3).toNatClampNeg) t100) (fun x102 t103 => (chk (inb v3 24) ((bv (upS t103 (0, 37) (v3).toNatClampNeg x102) (fun t106 => ((f_X7_carryAll_77 i1 n) (v3 + (1 : Int32)) t106))))))))))))))))))))))))))))))))))))))))))))))))))))))))))))))))))
def f_X7_carryAll (i1 : Nat × Nat) (v2 : Int32) (t0 : Sg) : Option (Unit × Sg) :=
  (chk (i1 = (0, ly_kept) ∨ i1 = (0, ly_imaged)) ((bv (upS t0 (0, 29) 38 (if i1 = (0, ly_kept) then (1 : Int32) else 2)) (fun t1 => (chk (v2 = 0 ∨ v2 = 1) ((bv (upS t1 (0, 29) 37 v2) (fun t3 => (bv (upS t3 (0, 29) 36 (0 : Int32)) (fun t5 => (bd (f_X7_carry (t5 (0, 29) 0) t5) (fun x6 t7 => (bv (upS t7 (0, 29) 0 x6) (fun t9 => (bd (f_X7_carry (t9 (0, 29) 1) t9) (fun x10 t11 => (bv (upS t11 (0, 29) 1 x10) (fun t13 => (bd (f_X7_carry (t13 (0, 29) 2) t13) (fun x14 t15 => (bv (upS t15 (0, 29) 2 x14) (fun t17 => (bd (f_X7_carry (t17 (0, 29) 3) t17) (fun x18 t19 => (bv (upS t19 (0, 29) 3 x18) (fun t21 => (bd (f_X7_carry (t21 (0, 29) 4) t21) (fun x22 t23 => (bv (upS t23 (0, 29) 4 x22) (fun t25 => (f_X7_carryAll_77 i1 fuel (0 : Int32) t25)))))))))))))))))))))))))))))))
def f_X7_front_45  (k20 : Sg → Option (Int32 × Sg))  (t0 : Sg) : Option (Int32 × Sg) :=
  (bd (f_X7_readStatement t0) (fun _ t8 => (k20 t8)))
def f_X7_front_84   : Nat → Int32 → Sg → Option (Int32 × Sg)
  | 0, _, _ => none
  | n + 1, v1, t0 =>
  (if (t0 (0, 29) 29) ≤ v1 then (some ((t0 (0, 29) 29), t0)) else (bd (f_X7_comes v1 t0) (fun x17 t18 => (if x17 = 0 then (bd (f_X7_carryAll (0, 52) (0 : Int32) t18) (fun _ t22 => (chk (inb v1 49) ((some (((-2000 : Int32) - (t22 (0, 49) (v1).toNatClampNeg)), t22)))))) else ((f_X7_front_84 n) (v1 + (1 : Int32)) t18)))))
def f_X7_front_52    (t0 : Sg) : Option (Int32 × Sg) :=
  (bv (upS t0 (0, 29) 26 (0 : Int32)) (fun t11 => (if (t11 (0, 29) 28) = 0 then (bd (f_X7_carryAll (0, 52) (1 : Int32) t11) (fun _ t14 => (f_X7_front_84 fuel (0 : Int32) t14))) else (some (((-1000 : Int32) - (t11 (0, 29) 27)), t11)))))
def f_X7_front_20   : Nat → Sg → Option (Int32 × Sg)
  | 0, _ => none
  | n + 1, t0 =>
  (if (t0 (0, 29) 28) = 0 then (if (t0 (0, 29) 29) = 0 then (f_X7_front_45 (f_X7_front_20 n) t0) else (if (t0 (0, 29) 26) ≤ (t0 (0, 29) 27) then (f_X7_front_52 t0) else (f_X7_front_45 (f_X7_front_20 n) t0))) else (f_X7_front_52 t0))
def f_X7_front  (t0 : Sg) : Option (Int32 × Sg) :=
  (bv (upS t0 (0, 29) 18 (0 : Int32)) (fun t1 => (bv (upS t1 (0, 29) 27 (0 : Int32)) (fun t2 => (bv (upS t2 (0, 29) 28 (0 : Int32)) (fun t3 => (bv (upS t3 (0, 29) 29 (0 : Int32)) (fun t4 => (f_X7_front_20 fuel t4)))))))))
def f_X7_image  (t0 : Sg) : Option (Int32 × Sg) :=
  (bv (upS t0 (0, 29) 18 (0 : Int32)) (fun t1 => (bv (upS t1 (0, 29) 35 (1 : Int32)) (fun t2 => (bd (f_X7_carryAll (0, 53) (1 : Int32) t2) (fun _ t4 => (some ((t4 (0, 29) 3), t4))))))))
def f_X7_restore  (t0 : Sg) : Option (Int32 × Sg) :=
  (bv (upS t0 (0, 29) 18 (0 : Int32)) (fun t1 => (if (t1 (0, 29) 35) = 0 then (bd (f_X7_refuse (-3 : Int32) t1) (fun x3 t4 => (some (x3, t4)))) else (bd (f_X7_carryAll (0, 53) (0 : Int32) t1) (fun _ t7 => (some ((t7 (0, 29) 3), t7)))))))
def f_X7_flat_27   (v3 : Int32) (t0 : Sg) : Option (Int32 × Sg) :=
  (bd (f_X7_refuse (if 0 ≤ v3 then (-2 : Int32) else (-1 : Int32)) t0) (fun x8 t9 => (some (x8, t9))))
def f_X7_flat (v1 : Int32) (v2 : Int32) (t0 : Sg) : Option (Int32 × Sg) :=
  (bv (upS t0 (0, 29) 18 (0 : Int32)) (fun t1 => (bd (f_X7_flatAt v1 t1) (fun x2 t3 => (if x2 < 0 then (f_X7_flat_27 x2 t3) else (bd (f_X7_in (v2).toInt64 (0 : Int64) (5 : Int64) t3) (fun x11 t12 => (if x11 = 0 then (f_X7_flat_27 x2 t12) else (if v2 = (0 : Int32) then (chk (inb x2 24) ((some ((t12 (0, 30) (x2).toNatClampNeg), t12)))) else (if v2 = (1 : Int32) then (chk (inb x2 24) ((some ((t12 (0, 31) (x2).toNatClampNeg), t12)))) else (if v2 = (2 : Int32) then (chk (inb x2 24) ((some (((1 : Int32) + (t12 (0, 32) (x2).toNatClampNeg)), t12)))) else (if v2 = (3 : Int32) then (chk (inb x2 24) ((some ((t12 (0, 33) (x2).toNatClampNeg), t12)))) else (if v2 = (4 : Int32) then (chk (inb x2 24) ((some ((t12 (0, 34) (x2).toNatClampNeg), t12)))) else (bd (f_X7_livesIn x2 t12) (fun x25 t26 => (some (x25, t26)))))))))))))))))
def f_X7_habitsOf_4   : Nat → Int32 → Int32 → Int32 → Sg → Option (Int32 × Sg)
  | 0, _, _, _, _ => none
  | n + 1, v1, v2, v3, t0 =>
  (if (t0 (0, 29) 4) ≤ v3 then (some (v2, t0)) else (chk (inb v3 8) ((bv ((v2 + (if (t0 (0, 39) (v3).toNatClampNeg) = v1 then (1 : Int32) else (0 : Int32)))) (fun x5 => ((f_X7_habitsOf_4 n) v1 x5 (v3 + (1 : Int32)) t0))))))
def f_X7_habitsOf (v1 : Int32) (t0 : Sg) : Option (Int32 × Sg) :=
  (f_X7_habitsOf_4 fuel v1 (0 : Int32) (0 : Int32) t0)
def f_X7_tenant_25   (v1 : Int32) (t0 : Sg) : Option (Int32 × Sg) :=
  (bd (f_X7_isTenant v1 t0) (fun x6 t7 => (bd (f_X7_refuse (if x6 = 0 then (-1 : Int32) else (-2 : Int32)) t7) (fun x11 t12 => (some (x11, t12))))))
def f_X7_tenant (v1 : Int32) (v2 : Int32) (t0 : Sg) : Option (Int32 × Sg) :=
  (bv (upS t0 (0, 29) 18 (0 : Int32)) (fun t1 => (bd (f_X7_isTenant v1 t1) (fun x2 t3 => (if x2 = 0 then (f_X7_tenant_25 v1 t3) else (bd (f_X7_in (v2).toInt64 (0 : Int64) (2 : Int64) t3) (fun x14 t15 => (if x14 = 0 then (f_X7_tenant_25 v1 t15) else (if v2 = 0 then (chk (inb v1 24) ((bd (f_X7_toldAs (t15 (0, 35) (v1).toNatClampNeg) t15) (fun x20 t21 => (some (x20, t21)))))) else (if v2 = (1 : Int32) then (chk (inb v1 24) ((some ((t15 (0, 36) (v1).toNatClampNeg), t15)))) else (bd (f_X7_habitsOf v1 t15) (fun x25 t26 => (some (x25, t26))))))))))))))
def f_X7_anger (v1 : Int32) (v2 : Int32) (t0 : Sg) : Option (Int32 × Sg) :=
  (bv (upS t0 (0, 29) 18 (0 : Int32)) (fun t1 => (bd (f_X7_areTenants v1 v2 t1) (fun x2 t3 => (if x2 = 0 then (bd (f_X7_refuse (-1 : Int32) t3) (fun x6 t7 => (some (x6, t7)))) else (chk (inb (((24 : Int32) * v1) + v2) 576) ((some ((t3 (0, 38) ((((24 : Int32) * v1) + v2)).toNatClampNeg), t3)))))))))
def f_X7_habit_25   (v1 : Int32) (t0 : Sg) : Option (Int32 × Sg) :=
  (bd (f_X7_isHabit v1 t0) (fun x6 t7 => (bd (f_X7_refuse (if x6 = 0 then (-1 : Int32) else (-2 : Int32)) t7) (fun x11 t12 => (some (x11, t12))))))
def f_X7_habit (v1 : Int32) (v2 : Int32) (t0 : Sg) : Option (Int32 × Sg) :=
  (bv (upS t0 (0, 29) 18 (0 : Int32)) (fun t1 => (bd (f_X7_isHabit v1 t1) (fun x2 t3 => (if x2 = 0 then (f_X7_habit_25 v1 t3) else (bd (f_X7_in (v2).toInt64 (0 : Int64) (3 : Int64) t3) (fun x14 t15 => (if x14 = 0 then (f_X7_habit_25 v1 t15) else (if v2 = 0 then (chk (inb v1 8) ((some ((t15 (0, 39) (v1).toNatClampNeg), t15)))) else (if v2 = (1 : Int32) then (chk (inb v1 8) ((some ((t15 (0, 40) (v1).toNatClampNeg), t15)))) else (if v2 = (2 : Int32) then (chk (inb v1 8) ((some ((t15 (0, 41) (v1).toNatClampNeg), t15)))) else (chk (inb v1 8) ((some ((t15 (0, 42) (v1).toNatClampNeg), t15)))))))))))))))
def f_X7_isTime (v0 : Int32) (t0 : Sg) : Option (Int32 × Sg) :=
  (bd (f_X7_in (v0).toInt64 (0 : Int64) (7 : Int64) t0) (fun x1 t2 => (chk (x1 = 0 ∨ x1 = 1) ((some (x1, t2))))))
def f_X7_put_20   (v1 : Int32) (t0 : Sg) : Option (Int32 × Sg) :=
  (bd (f_X7_isHabit v1 t0) (fun x6 t7 => (bd (f_X7_refuse (if x6 = 0 then (-1 : Int32) else (-2 : Int32)) t7) (fun x11 t12 => (some (x11, t12))))))
def f_X7_put (v1 : Int32) (v2 : Int32) (t0 : Sg) : Option (Int32 × Sg) :=
  (bv (upS t0 (0, 29) 18 (0 : Int32)) (fun t1 => (bd (f_X7_isHabit v1 t1) (fun x2 t3 => (if x2 = 0 then (f_X7_put_20 v1 t3) else (bd (f_X7_isTime v2 t3) (fun x14 t15 => (if x14 = 0 then (f_X7_put_20 v1 t15) else (chk (inb v1 8) ((bv ((t15 (0, 42) (v1).toNatClampNeg)) (fun x19 => (chk (inb v1 8) ((bv (upS t15 (0, 42) (v1).toNatClampNeg v2) (fun t21 => (some (x19, t21))))))))))))))))))
def f_X7_wrongNumber (v0 : Int32) (v1 : Int32) (v2 : Int32) (t0 : Sg) : Option (Int32 × Sg) :=
  (some ((if v1 ≤ v0 then (if v0 ≤ v2 then (0 : Int32) else (-6 : Int32)) else (-4 : Int32)), t0))
def f_X7_saucer_26   (v2 : Int32) (v3 : Int32) (w0 : Int32) (t0 : Sg) : Option (Int32 × Sg) :=
  (if 0 ≤ w0 then (chk (inb v3 24) ((bv ((t0 (0, 30) (v3).toNatClampNeg)) (fun x11 => (bd (f_X7_saucerIs v3 v2 t0) (fun _ t13 => (some (x11, t13)))))))) else (bd (f_X7_refuse w0 t0) (fun x15 t16 => (some (x15, t16)))))
def f_X7_saucer (v1 : Int32) (v2 : Int32) (t0 : Sg) : Option (Int32 × Sg) :=
  (bv (upS t0 (0, 29) 18 (0 : Int32)) (fun t1 => (bd (f_X7_flatAt v1 t1) (fun x2 t3 => (if 0 ≤ x2 then (bd (f_X7_wrongNumber v2 (0 : Int32) (9 : Int32) t3) (fun x6 t7 => (f_X7_saucer_26 v2 x2 x6 t7))) else (f_X7_saucer_26 v2 x2 (-1 : Int32) t3))))))
def f_X7_awning_25   (v2 : Int32) (v3 : Int32) (w0 : Int32) (t0 : Sg) : Option (Int32 × Sg) :=
  (if 0 ≤ w0 then (chk (inb v3 24) ((bv ((t0 (0, 32) (v3).toNatClampNeg)) (fun x11 => (chk (inb v3 24) ((bv (upS t0 (0, 32) (v3).toNatClampNeg v2) (fun t13 => (some (((1 : Int32) + x11), t13)))))))))) else (bd (f_X7_refuse w0 t0) (fun x14 t15 => (some (x14, t15)))))
def f_X7_awning (v1 : Int32) (v2 : Int32) (t0 : Sg) : Option (Int32 × Sg) :=
  (bv (upS t0 (0, 29) 18 (0 : Int32)) (fun t1 => (bd (f_X7_flatAt v1 t1) (fun x2 t3 => (if 0 ≤ x2 then (bd (f_X7_wrongNumber v2 (-1 : Int32) (1 : Int32) t3) (fun x6 t7 => (f_X7_awning_25 v2 x2 x6 t7))) else (f_X7_awning_25 v2 x2 (-1 : Int32) t3))))))
def f_X7_wash (v1 : Int32) (v2 : Int32) (v3 : Int32) (t0 : Sg) : Option (Int32 × Sg) :=
  (bv (upS t0 (0, 29) 18 (0 : Int32)) (fun t1 => (bd (f_X7_flatAt v1 t1) (fun x2 t3 => (bv ((if 0 ≤ x2 then (if v2 < 0 then (-4 : Int32) else (if 0 ≤ v3 then (if (9 : Int32) < v2 then (-6 : Int32) else (if v3 ≤ (255 : Int32) then (0 : Int32) else (-6 : Int32))) else (-4 : Int32))) else (-1 : Int32))) (fun x11 => (if 0 ≤ x11 then (chk (inb x2 24) ((bv ((t3 (0, 33) (x2).toNatClampNeg)) (fun x14 => (chk (inb x2 24) ((bv (upS t3 (0, 33) (x2).toNatClampNeg v2) (fun t16 => (chk (inb x2 24) ((bv (upS t16 (0, 34) (x2).toNatClampNeg v3) (fun t18 => (some (x14, t18)))))))))))))) else (bd (f_X7_refuse x11 t3) (fun x19 t20 => (some (x19, t20)))))))))))
def f_X7_wind (v1 : Int32) (t0 : Sg) : Option (Int32 × Sg) :=
  (bv (upS t0 (0, 29) 18 (0 : Int32)) (fun t1 => (bd (f_X7_wrongNumber v1 (-1 : Int32) (1 : Int32) t1) (fun x2 t3 => (if 0 ≤ x2 then (bv ((t3 (0, 29) 2)) (fun x6 => (bv (upS t3 (0, 29) 2 v1) (fun t7 => (some (((1 : Int32) + x6), t7)))))) else (bd (f_X7_wrongNumber v1 (-1 : Int32) (1 : Int32) t3) (fun x8 t9 => (bd (f_X7_refuse x8 t9) (fun x11 t12 => (some (x11, t12)))))))))))
def f_X7_change (v1 : Int32) (v2 : Int32) (t0 : Sg) : Option (Unit × Sg) :=
  (chk (inb v1 24) ((bv ((t0 (0, 35) (v1).toNatClampNeg)) (fun x2 => (chk (inb v2 24) ((chk (inb v1 24) ((bv (upS t0 (0, 35) (v1).toNatClampNeg (t0 (0, 35) (v2).toNatClampNeg)) (fun t5 => (chk (inb v2 24) ((bv (upS t5 (0, 35) (v2).toNatClampNeg x2) (fun t7 => (some ((), t7))))))))))))))))
def f_X7_move (v1 : Int32) (v2 : Int32) (t0 : Sg) : Option (Int32 × Sg) :=
  (bv (upS t0 (0, 29) 18 (0 : Int32)) (fun t1 => (bd (f_X7_areTenants v1 v2 t1) (fun x2 t3 => (if x2 = 0 then (bd (f_X7_refuse (-1 : Int32) t3) (fun x6 t7 => (some (x6, t7)))) else (bd (f_X7_change v1 v2 t3) (fun _ t10 => (chk (inb v1 24) ((bd (f_X7_toldAs (t10 (0, 35) (v1).toNatClampNeg) t10) (fun x13 t14 => (some (x13, t14)))))))))))))
def f_X7_rain_9   : Nat → Int32 → Int32 → Sg → Option (Int32 × Sg)
  | 0, _, _, _ => none
  | n + 1, v1, v2, t0 =>
  (if (24 : Int32) ≤ v2 then (some (v1, t0)) else (chk (inb v2 24) ((bv ((v1 + (t0 (0, 31) (v2).toNatClampNeg))) (fun x4 => (chk (inb v2 24) ((bv (upS t0 (0, 31) (v2).toNatClampNeg (0 : Int32)) (fun t6 => ((f_X7_rain_9 n) x4 (v2 + (1 : Int32)) t6))))))))))
def f_X7_rain  (t0 : Sg) : Option (Int32 × Sg) :=
  (bv (upS t0 (0, 29) 18 (0 : Int32)) (fun t1 => (f_X7_rain_9 fuel (0 : Int32) (0 : Int32) t1)))
def f_X7_week  (t0 : Sg) : Option (Int32 × Sg) :=
  (bv (upS t0 (0, 29) 18 (0 : Int32)) (fun t1 => (if (t1 (0, 29) 3) = (9999 : Int32) then (bd (f_X7_refuse (-6 : Int32) t1) (fun x3 t4 => (some (x3, t4)))) else (bd (f_X7_oneWeek t1) (fun x6 t7 => (bd (f_X7_keepWeek t7) (fun _ t10 => (some (x6, t10)))))))))
def f_X7_fallAlone (v1 : Int32) (t0 : Sg) : Option (Unit × Sg) :=
  (bd (f_X7_beginMind t0) (fun _ t2 => (bd (f_X7_fall v1 t2) (fun _ t5 => (some ((), t5))))))
def f_X7_steps_18   (v1 : Int32) (t0 : Sg) : Option (Int32 × Sg) :=
  (bd (f_X7_isHabit v1 t0) (fun x6 t7 => (bd (f_X7_refuse (if x6 = 0 then (-1 : Int32) else (-4 : Int32)) t7) (fun x11 t12 => (some (x11, t12))))))
def f_X7_steps (v1 : Int32) (v2 : Int32) (t0 : Sg) : Option (Int32 × Sg) :=
  (bv (upS t0 (0, 29) 18 (0 : Int32)) (fun t1 => (bd (f_X7_isHabit v1 t1) (fun x2 t3 => (if x2 = 0 then (f_X7_steps_18 v1 t3) else (if (-1 : Int32) ≤ v2 then (bd (f_X7_fallAlone v1 t3) (fun _ t16 => (if 0 ≤ v2 then (if (t16 (0, 29) 24) ≤ v2 then (some ((-9 : Int32), t16)) else (chk (inb v2 8) ((bd (f_X7_toldAs (t16 (0, 47) (v2).toNatClampNeg) t16) (fun x21 t22 => (some (x21, t22))))))) else (some ((t16 (0, 29) 24), t16))))) else (f_X7_steps_18 v1 t3)))))))
def f_X7_down (v1 : Int32) (t0 : Sg) : Option (Int32 × Sg) :=
  (bv (upS t0 (0, 29) 18 (0 : Int32)) (fun t1 => (bd (f_X7_isHabit v1 t1) (fun x2 t3 => (if x2 = 0 then (bd (f_X7_refuse (-1 : Int32) t3) (fun x6 t7 => (some (x6, t7)))) else (bd (f_X7_fallAlone v1 t3) (fun _ t10 => (if (t10 (0, 29) 24) = 0 then (some ((-9 : Int32), t10)) else (chk (inb ((t10 (0, 29) 24) - (1 : Int32)) 8) ((bd (f_X7_toldAs (t10 (0, 47) (((t10 (0, 29) 24) - (1 : Int32))).toNatClampNeg) t10) (fun x14 t15 => (some (x14, t15))))))))))))))
def f_X7_comesTo_46   (v3 : Int32) (t0 : Sg) : Option (Int32 × Sg) :=
  (some ((if v3 < 0 then (0 : Int32) else (1 : Int32)), t0))
def f_X7_comesTo_22   : Nat → Int32 → Int32 → Int32 → Sg → Option (Int32 × Sg)
  | 0, _, _, _, _ => none
  | n + 1, v1, v2, v3, t0 =>
  (if v3 < 0 then (f_X7_comesTo_46 v3 t0) else (if v3 = v2 then (f_X7_comesTo_46 v3 t0) else (chk (inb v1 8) ((bd (f_X7_nextOf (t0 (0, 40) (v1).toNatClampNeg) v3 t0) (fun x12 t13 => ((f_X7_comesTo_22 n) v1 v2 x12 t13)))))))
def f_X7_comesTo (v1 : Int32) (v2 : Int32) (t0 : Sg) : Option (Int32 × Sg) :=
  (chk (inb v1 8) ((chk (inb v1 8) ((chk (inb (t0 (0, 39) (v1).toNatClampNeg) 24) ((bd (f_X7_nextOf (t0 (0, 40) (v1).toNatClampNeg) (t0 (0, 35) ((t0 (0, 39) (v1).toNatClampNeg)).toNatClampNeg) t0) (fun x4 t5 => (f_X7_comesTo_22 fuel v1 v2 x4 t5)))))))))
def f_X7_whom_22   (v3 : Int32) (t0 : Sg) : Option (Int32 × Sg) :=
  (bd (f_X7_refuse (if 0 ≤ v3 then (-2 : Int32) else (-1 : Int32)) t0) (fun x8 t9 => (some (x8, t9))))
def f_X7_whom_83  (k43 : Int32 → Int32 → Int32 → Int32 → Sg → Option (Int32 × Sg)) (v2 : Int32) (v3 : Int32) (v5 : Int32) (w0 : Int32) (w1 : Int32) (t0 : Sg) : Option (Int32 × Sg) :=
  (bv ((w1 ||| w0)) (fun x22 => (k43 v2 v3 x22 (v5 + (1 : Int32)) t0)))
def f_X7_whom_82  (k43 : Int32 → Int32 → Int32 → Int32 → Sg → Option (Int32 × Sg)) (v2 : Int32) (v3 : Int32) (v5 : Int32) (w0 : Int32) (t0 : Sg) : Option (Int32 × Sg) :=
  (f_X7_whom_83 k43 v2 v3 v5 (0 : Int32) w0 t0)
def f_X7_whom_43   : Nat → Int32 → Int32 → Int32 → Int32 → Sg → Option (Int32 × Sg)
  | 0, _, _, _, _, _ => none
  | n + 1, v2, v3, v4, v5, t0 =>
  (if (t0 (0, 29) 4) ≤ v5 then (some (v4, t0)) else (chk (inb v5 8) ((if (t0 (0, 42) (v5).toNatClampNeg) = v2 then (bd (f_X7_comesTo v5 v3 t0) (fun x18 t19 => (if x18 = 0 then (f_X7_whom_82 (f_X7_whom_43 n) v2 v3 v5 v4 t19) else (f_X7_whom_83 (f_X7_whom_43 n) v2 v3 v5 ((1 : Int32) <<< (v5 &&& 31)) v4 t19)))) else (f_X7_whom_82 (f_X7_whom_43 n) v2 v3 v5 v4 t0)))))
def f_X7_whom (v1 : Int32) (v2 : Int32) (t0 : Sg) : Option (Int32 × Sg) :=
  (bv (upS t0 (0, 29) 18 (0 : Int32)) (fun t1 => (bd (f_X7_flatAt v1 t1) (fun x2 t3 => (if x2 < 0 then (f_X7_whom_22 x2 t3) else (bd (f_X7_isTime v2 t3) (fun x11 t12 => (if x11 = 0 then (f_X7_whom_22 x2 t12) else (f_X7_whom_43 fuel v2 x2 (0 : Int32) (0 : Int32) t12)))))))))
def f_X7_does_21    (t0 : Sg) : Option (Int32 × Sg) :=
  (bd (f_X7_refuse (-1 : Int32) t0) (fun x6 t7 => (some (x6, t7))))
def f_X7_does (v1 : Int32) (v2 : Int32) (t0 : Sg) : Option (Int32 × Sg) :=
  (bv (upS t0 (0, 29) 18 (0 : Int32)) (fun t1 => (bd (f_X7_isHabit v1 t1) (fun x2 t3 => (if x2 = 0 then (f_X7_does_21 t3) else (bd (f_X7_isTenant v2 t3) (fun x9 t10 => (if x9 = 0 then (f_X7_does_21 t10) else (bd (f_X7_fallAlone v1 t10) (fun _ t14 => (chk (inb v2 24) ((some ((t14 (0, 45) (v2).toNatClampNeg), t14))))))))))))))
def f_X7_harmed_79  (k50 : Int32 → Int32 → Int32 → Int32 → Sg → Option (Int32 × Sg)) (v1 : Int32) (v2 : Int32) (v5 : Int32) (w0 : Int32) (w1 : Int32) (t0 : Sg) : Option (Int32 × Sg) :=
  (bv ((w1 + w0)) (fun x16 => (k50 v1 v2 x16 (v5 + (1 : Int32)) t0)))
def f_X7_harmed_50   : Nat → Int32 → Int32 → Int32 → Int32 → Sg → Option (Int32 × Sg)
  | 0, _, _, _, _, _ => none
  | n + 1, v1, v2, v4, v5, t0 =>
  (if v2 ≤ v5 then (some (v4, t0)) else (bd (f_X7_weekOn t0) (fun x11 t12 => (if 0 ≤ v1 then (chk (inb v1 24) ((f_X7_harmed_79 (f_X7_harmed_50 n) v1 v2 v5 (t12 (0, 45) (v1).toNatClampNeg) v4 t12))) else (f_X7_harmed_79 (f_X7_harmed_50 n) v1 v2 v5 x11 v4 t12)))))
def f_X7_harmed_29   (v1 : Int32) (v2 : Int32) (w0 : Int32) (t0 : Sg) : Option (Int32 × Sg) :=
  (if 0 ≤ w0 then (bd (f_X7_beginMind t0) (fun _ t8 => (f_X7_harmed_50 fuel v1 v2 (0 : Int32) (0 : Int32) t8))) else (bd (f_X7_refuse w0 t0) (fun x17 t18 => (some (x17, t18)))))
def f_X7_harmed_18   (v1 : Int32) (v2 : Int32) (t0 : Sg) : Option (Int32 × Sg) :=
  (bd (f_X7_wrongNumber v2 (1 : Int32) (20 : Int32) t0) (fun x3 t4 => (f_X7_harmed_29 v1 v2 x3 t4)))
def f_X7_harmed (v1 : Int32) (v2 : Int32) (t0 : Sg) : Option (Int32 × Sg) :=
  (bv (upS t0 (0, 29) 18 (0 : Int32)) (fun t1 => (if v1 = (-1 : Int32) then (f_X7_harmed_18 v1 v2 t1) else (bd (f_X7_isTenant v1 t1) (fun x20 t21 => (if x20 = 0 then (f_X7_harmed_29 v1 v2 (-1 : Int32) t21) else (f_X7_harmed_18 v1 v2 t21)))))))
def f_X7_least_23   (v1 : Int32) (t0 : Sg) : Option (Int32 × Sg) :=
  (bd (f_X7_isHabit v1 t0) (fun x6 t7 => (bd (f_X7_refuse (if x6 = 0 then (-1 : Int32) else (-2 : Int32)) t7) (fun x11 t12 => (some (x11, t12))))))
def f_X7_least_58   : Nat → Int32 → Int32 → Int32 → Int32 → Int32 → Int32 → Sg → Option (Int32 × Sg)
  | 0, _, _, _, _, _, _, _ => none
  | n + 1, v1, v2, v3, v4, v5, v6, t0 =>
  (if (8 : Int32) ≤ v6 then (chk (inb v1 8) ((bv (upS t0 (0, 42) (v1).toNatClampNeg v3) (fun t22 => (some ((if v2 = 0 then v4 else v5), t22)))))) else (chk (inb v1 8) ((bv (upS t0 (0, 42) (v1).toNatClampNeg v6) (fun t26 => (bd (f_X7_oneWeek t26) (fun x27 t28 => (bv ((if v4 < 0 then (1 : Int32) else (if v5 ≤ x27 then (0 : Int32) else (1 : Int32)))) (fun x33 => (bv ((if x33 = 0 then v4 else v6)) (fun x36 => (bv ((if x33 = 0 then v5 else x27)) (fun x39 => ((f_X7_least_58 n) v1 v2 v3 x36 x39 (v6 + (1 : Int32)) t28))))))))))))))
def f_X7_least (v1 : Int32) (v2 : Int32) (t0 : Sg) : Option (Int32 × Sg) :=
  (bv (upS t0 (0, 29) 18 (0 : Int32)) (fun t1 => (bd (f_X7_isHabit v1 t1) (fun x2 t3 => (if x2 = 0 then (f_X7_least_23 v1 t3) else (bd (f_X7_in (v2).toInt64 (0 : Int64) (1 : Int64) t3) (fun x14 t15 => (if x14 = 0 then (f_X7_least_23 v1 t15) else (chk (inb v1 8) ((bv ((t15 (0, 42) (v1).toNatClampNeg)) (fun x19 => (f_X7_least_58 fuel v1 v2 x19 (-1 : Int32) (0 : Int32) (0 : Int32) t15)))))))))))))
def f_X7_hours_26    (t0 : Sg) : Option (Int32 × Sg) :=
  (bd (f_X7_refuse (-1 : Int32) t0) (fun x6 t7 => (some (x6, t7))))
def f_X7_hours_152  (k74 : Int32 → Int32 → Int32 → Int32 → Int32 → Int32 → Int32 → Int32 → Sg → Option (Int32 × Sg)) (v1 : Int32) (v2 : Int32) (v3 : Int32) (v4 : Int32) (v5 : Int32) (v7 : Int32) (v8 : Int32) (v9 : Int32) (v10 : Int32) (w0 : Int32) (t0 : Sg) : Option (Int32 × Sg) :=
  (bv ((if v10 = 0 then v7 else v9)) (fun x46 => (k74 v1 v2 v3 v4 v5 w0 x46 (v8 + (1 : Int32)) t0)))
def f_X7_hours_74   : Nat → Int32 → Int32 → Int32 → Int32 → Int32 → Int32 → Int32 → Int32 → Sg → Option (Int32 × Sg)
  | 0, _, _, _, _, _, _, _, _, _ => none
  | n + 1, v1, v2, v3, v4, v5, v6, v7, v8, t0 =>
  (if (64 : Int32) ≤ v8 then (chk (inb v1 8) ((bv (upS t0 (0, 42) (v1).toNatClampNeg v4) (fun t27 => (chk (inb v2 8) ((bv (upS t27 (0, 42) (v2).toNatClampNeg v5) (fun t29 => (some ((if v3 = 0 then v6 else v7), t29)))))))))) else (chk (inb v1 8) ((bv (upS t0 (0, 42) (v1).toNatClampNeg (v8 / (8 : Int32))) (fun t33 => (chk (inb v2 8) ((bv (upS t33 (0, 42) (v2).toNatClampNeg (v8 - v8 / (8 : Int32) * (8 : Int32))) (fun t35 => (bd (f_X7_oneWeek t35) (fun x36 t37 => (bv ((if v6 < 0 then (1 : Int32) else (if v7 ≤ x36 then (0 : Int32) else (1 : Int32)))) (fun x42 => (if x42 = 0 then (f_X7_hours_152 (f_X7_hours_74 n) v1 v2 v3 v4 v5 v7 v8 x36 x42 v6 t37) else (f_X7_hours_152 (f_X7_hours_74 n) v1 v2 v3 v4 v5 v7 v8 x36 x42 (((10 : Int32) * (v8 / (8 : Int32))) + (v8 - v8 / (8 : Int32) * (8 : Int32))) t37)))))))))))))))
def f_X7_hours (v1 : Int32) (v2 : Int32) (v3 : Int32) (t0 : Sg) : Option (Int32 × Sg) :=
  (bv (upS t0 (0, 29) 18 (0 : Int32)) (fun t1 => (bd (f_X7_isHabit v1 t1) (fun x2 t3 => (if x2 = 0 then (f_X7_hours_26 t3) else (bd (f_X7_isHabit v2 t3) (fun x9 t10 => (if x9 = 0 then (f_X7_hours_26 t10) else (if v1 = v2 then (f_X7_hours_26 t10) else (bd (f_X7_in (v3).toInt64 (0 : Int64) (1 : Int64) t10) (fun x14 t15 => (if x14 = 0 then (bd (f_X7_refuse (-2 : Int32) t15) (fun x18 t19 => (some (x18, t19)))) else (chk (inb v1 8) ((bv ((t15 (0, 42) (v1).toNatClampNeg)) (fun x22 => (chk (inb v2 8) ((bv ((t15 (0, 42) (v2).toNatClampNeg)) (fun x24 => (f_X7_hours_74 fuel v1 v2 v3 x22 x24 (-1 : Int32) (0 : Int32) (0 : Int32) t15)))))))))))))))))))))
def f_X7_keepTimes_2   : Nat → Int32 → Sg → Option (Unit × Sg)
  | 0, _, _ => none
  | n + 1, v1, t0 =>
  (if (8 : Int32) ≤ v1 then (some ((), t0)) else (chk (inb v1 8) ((chk (inb v1 8) ((bv (upS t0 (0, 54) (v1).toNatClampNeg (t0 (0, 42) (v1).toNatClampNeg)) (fun t4 => ((f_X7_keepTimes_2 n) (v1 + (1 : Int32)) t4))))))))
def f_X7_keepTimes  (t0 : Sg) : Option (Unit × Sg) :=
  (f_X7_keepTimes_2 fuel (0 : Int32) t0)
def f_X7_timesBack_2   : Nat → Int32 → Sg → Option (Unit × Sg)
  | 0, _, _ => none
  | n + 1, v1, t0 =>
  (if (8 : Int32) ≤ v1 then (some ((), t0)) else (chk (inb v1 8) ((chk (inb v1 8) ((bv (upS t0 (0, 42) (v1).toNatClampNeg (t0 (0, 54) (v1).toNatClampNeg)) (fun t4 => ((f_X7_timesBack_2 n) (v1 + (1 : Int32)) t4))))))))
def f_X7_timesBack  (t0 : Sg) : Option (Unit × Sg) :=
  (f_X7_timesBack_2 fuel (0 : Int32) t0)
def f_X7_quietHarm_71  (k6 : Int32 → Int32 → Int32 → Sg → Option (Int32 × Sg)) (v1 : Int32) (v2 : Int32) (v3 : Int32) (w0 : Int32) (w1 : Int32) (t0 : Sg) : Option (Int32 × Sg) :=
  (chk (inb w1 8) ((bv (upS t0 (0, 42) (w1).toNatClampNeg w0) (fun t22 => (k6 v1 v2 (v3 + (1 : Int32)) t22)))))
def f_X7_quietHarm_6   : Nat → Int32 → Int32 → Int32 → Sg → Option (Int32 × Sg)
  | 0, _, _, _, _ => none
  | n + 1, v1, v2, v3, t0 =>
  (if (t0 (0, 29) 4) ≤ v3 then (bd (f_X7_oneWeek t0) (fun x5 t6 => (bd (f_X7_timesBack t6) (fun _ t9 => (some (x5, t9)))))) else (chk (inb v3 8) ((bd (f_X7_in ((t0 (0, 42) (v3).toNatClampNeg)).toInt64 (v1).toInt64 (v2).toInt64 t0) (fun x12 t13 => (bv ((if x12 = 0 then (0 : Int32) else (if (7 : Int32) ≤ (v2 - v1) then (0 : Int32) else (1 : Int32)))) (fun x18 => (if x18 = 0 then (chk (inb v3 8) ((f_X7_quietHarm_71 (f_X7_quietHarm_6 n) v1 v2 v3 (t13 (0, 42) (v3).toNatClampNeg) v3 t13))) else (f_X7_quietHarm_71 (f_X7_quietHarm_6 n) v1 v2 v3 ((v2 + (1 : Int32)) - (v2 + (1 : Int32)) / (8 : Int32) * (8 : Int32)) v3 t13)))))))))
def f_X7_quietHarm (v1 : Int32) (v2 : Int32) (t0 : Sg) : Option (Int32 × Sg) :=
  (bd (f_X7_keepTimes t0) (fun _ t2 => (f_X7_quietHarm_6 fuel v1 v2 (0 : Int32) t2)))
def f_X7_quiet_19    (t0 : Sg) : Option (Int32 × Sg) :=
  (bd (f_X7_refuse (-2 : Int32) t0) (fun x6 t7 => (some (x6, t7))))
def f_X7_quiet (v1 : Int32) (v2 : Int32) (t0 : Sg) : Option (Int32 × Sg) :=
  (bv (upS t0 (0, 29) 18 (0 : Int32)) (fun t1 => (bd (f_X7_isTime v1 t1) (fun x2 t3 => (if x2 = 0 then (f_X7_quiet_19 t3) else (bd (f_X7_isTime v2 t3) (fun x9 t10 => (if x9 = 0 then (f_X7_quiet_19 t10) else (if v1 ≤ v2 then (bd (f_X7_quietHarm v1 v2 t10) (fun x14 t15 => (some (x14, t15)))) else (bd (f_X7_refuse (-3 : Int32) t10) (fun x17 t18 => (some (x17, t18)))))))))))))
def f_X7_rule_24  (k15 : Int32 → Int32 → Int32 → Sg → Option (Int32 × Sg)) : Nat → Int32 → Int32 → Int32 → Int32 → Sg → Option (Int32 × Sg)
  | 0, _, _, _, _, _ => none
  | n + 1, v1, v2, v3, v4, t0 =>
  (if (8 : Int32) ≤ v4 then (k15 v1 v2 (v3 + (1 : Int32)) t0) else (bd (f_X7_quietHarm v3 v4 t0) (fun x7 t8 => (bv ((if v1 ≤ x7 then v2 else (((10 : Int32) * v3) + v4))) (fun x12 => (bv ((if v1 ≤ x7 then v1 else x7)) (fun x15 => ((f_X7_rule_24 k15 n) x15 x12 v3 (v4 + (1 : Int32)) t8))))))))
def f_X7_rule_15   : Nat → Int32 → Int32 → Int32 → Sg → Option (Int32 × Sg)
  | 0, _, _, _, _ => none
  | n + 1, v1, v2, v3, t0 =>
  (if (8 : Int32) ≤ v3 then (some (v2, t0)) else (f_X7_rule_24 (f_X7_rule_15 n) fuel v1 v2 v3 v3 t0))
def f_X7_rule  (t0 : Sg) : Option (Int32 × Sg) :=
  (bv (upS t0 (0, 29) 18 (0 : Int32)) (fun t1 => (bd (f_X7_oneWeek t1) (fun x2 t3 => (f_X7_rule_15 fuel x2 (-9 : Int32) (0 : Int32) t3)))))
def f_X7_hang_44   : Nat → Int32 → Int32 → Int32 → Int32 → Int32 → Int32 → Sg → Option (Int32 × Sg)
  | 0, _, _, _, _, _, _, _ => none
  | n + 1, v2, v3, v4, v5, v6, v7, t0 =>
  (if (8 : Int32) ≤ v7 then (chk (inb v2 24) ((bv (upS t0 (0, 34) (v2).toNatClampNeg v3) (fun t13 => (some (v5, t13)))))) else (chk (inb v2 24) ((bv (upS t0 (0, 34) (v2).toNatClampNeg ((1 : Int32) <<< (v7 &&& 31))) (fun t15 => (bd (f_X7_oneWeekOf v4 t15) (fun x16 t17 => (bv ((if v5 < 0 then (1 : Int32) else (if v6 ≤ x16 then (0 : Int32) else (1 : Int32)))) (fun x22 => (bv ((if x22 = 0 then v5 else v7)) (fun x25 => (bv ((if x22 = 0 then v6 else x16)) (fun x28 => ((f_X7_hang_44 n) v2 v3 v4 x25 x28 (v7 + (1 : Int32)) t17))))))))))))))
def f_X7_hang (v1 : Int32) (t0 : Sg) : Option (Int32 × Sg) :=
  (bv (upS t0 (0, 29) 18 (0 : Int32)) (fun t1 => (bd (f_X7_flatAt v1 t1) (fun x2 t3 => (if 0 ≤ x2 then (chk (inb x2 24) ((bv ((t3 (0, 34) (x2).toNatClampNeg)) (fun x7 => (bd (f_X7_livesIn x2 t3) (fun x8 t9 => (f_X7_hang_44 fuel x2 x7 x8 (-1 : Int32) (0 : Int32) (0 : Int32) t9))))))) else (bd (f_X7_refuse (-1 : Int32) t3) (fun x29 t30 => (some (x29, t30)))))))))
def f_X7_big_52   : Nat → Int32 → Int32 → Int32 → Int32 → Int32 → Int32 → Sg → Option (Int32 × Sg)
  | 0, _, _, _, _, _, _, _ => none
  | n + 1, v2, v3, v4, v5, v6, v7, t0 =>
  (if (10 : Int32) ≤ v7 then (chk (inb v2 24) ((bv (upS t0 (0, 30) (v2).toNatClampNeg v3) (fun t14 => (chk (inb v2 24) ((bv (upS t14 (0, 31) (v2).toNatClampNeg v4) (fun t16 => (some (v5, t16)))))))))) else (chk (inb v2 24) ((bv (upS t0 (0, 30) (v2).toNatClampNeg v7) (fun t18 => (bd (f_X7_oneWeek t18) (fun x19 t20 => (bv ((if v5 < 0 then (1 : Int32) else (if v6 ≤ x19 then (0 : Int32) else (1 : Int32)))) (fun x25 => (bv ((if x25 = 0 then v5 else v7)) (fun x28 => (bv ((if x25 = 0 then v6 else x19)) (fun x31 => ((f_X7_big_52 n) v2 v3 v4 x28 x31 (v7 + (1 : Int32)) t20))))))))))))))
def f_X7_big (v1 : Int32) (t0 : Sg) : Option (Int32 × Sg) :=
  (bv (upS t0 (0, 29) 18 (0 : Int32)) (fun t1 => (bd (f_X7_flatAt v1 t1) (fun x2 t3 => (if 0 ≤ x2 then (chk (inb x2 24) ((bv ((t3 (0, 30) (x2).toNatClampNeg)) (fun x7 => (chk (inb x2 24) ((bv ((t3 (0, 31) (x2).toNatClampNeg)) (fun x9 => (chk (inb x2 24) ((bv (upS t3 (0, 31) (x2).toNatClampNeg (0 : Int32)) (fun t11 => (f_X7_big_52 fuel x2 x7 x9 (-1 : Int32) (0 : Int32) (0 : Int32) t11))))))))))))) else (bd (f_X7_refuse (-1 : Int32) t3) (fun x32 t33 => (some (x32, t33)))))))))
def f_X7_leads_38   : Nat → Int32 → Int32 → Int32 → Int32 → Int32 → Sg → Option (Int32 × Sg)
  | 0, _, _, _, _, _, _ => none
  | n + 1, v2, v3, v4, v5, v6, t0 =>
  (if (2 : Int32) ≤ v6 then (chk (inb v2 24) ((bv (upS t0 (0, 32) (v2).toNatClampNeg v3) (fun t10 => (some (((1 : Int32) + v4), t10)))))) else (chk (inb v2 24) ((bv (upS t0 (0, 32) (v2).toNatClampNeg v6) (fun t12 => (bd (f_X7_oneWeek t12) (fun x13 t14 => (bv ((if v4 < (-1 : Int32) then (1 : Int32) else (if v5 ≤ x13 then (0 : Int32) else (1 : Int32)))) (fun x19 => (bv ((if x19 = 0 then v4 else v6)) (fun x22 => (bv ((if x19 = 0 then v5 else x13)) (fun x25 => ((f_X7_leads_38 n) v2 v3 x22 x25 (v6 + (1 : Int32)) t14))))))))))))))
def f_X7_leads (v1 : Int32) (t0 : Sg) : Option (Int32 × Sg) :=
  (bv (upS t0 (0, 29) 18 (0 : Int32)) (fun t1 => (bd (f_X7_flatAt v1 t1) (fun x2 t3 => (if 0 ≤ x2 then (chk (inb x2 24) ((bv ((t3 (0, 32) (x2).toNatClampNeg)) (fun x7 => (f_X7_leads_38 fuel x2 x7 (-2 : Int32) (0 : Int32) (-1 : Int32) t3))))) else (bd (f_X7_refuse (-1 : Int32) t3) (fun x26 t27 => (some (x26, t27)))))))))
def f_X7_keepHarm_2   : Nat → Int32 → Sg → Option (Unit × Sg)
  | 0, _, _ => none
  | n + 1, v1, t0 =>
  (if (24 : Int32) ≤ v1 then (some ((), t0)) else (chk (inb v1 24) ((chk (inb v1 24) ((bv (upS t0 (0, 55) (v1).toNatClampNeg (t0 (0, 45) (v1).toNatClampNeg)) (fun t4 => ((f_X7_keepHarm_2 n) (v1 + (1 : Int32)) t4))))))))
def f_X7_keepHarm  (t0 : Sg) : Option (Unit × Sg) :=
  (f_X7_keepHarm_2 fuel (0 : Int32) t0)
def f_X7_whose_89   : Nat → Int32 → Int32 → Sg → Option (Int32 × Sg)
  | 0, _, _, _ => none
  | n + 1, v6, v7, t0 =>
  (bd (f_X7_tenants t0) (fun x27 t28 => (if x27 ≤ v7 then (some (v6, t28)) else (chk (inb v7 24) ((chk (inb v7 24) ((bv ((v6 ||| (if (t28 (0, 45) (v7).toNatClampNeg) ≤ (t28 (0, 55) (v7).toNatClampNeg) then (0 : Int32) else ((1 : Int32) <<< (v7 &&& 31))))) (fun x35 => ((f_X7_whose_89 n) x35 (v7 + (1 : Int32)) t28))))))))))
def f_X7_whose_25   (v2 : Int32) (v3 : Int32) (w0 : Int32) (t0 : Sg) : Option (Int32 × Sg) :=
  (if 0 ≤ w0 then (chk (inb v3 24) ((bv ((t0 (0, 32) (v3).toNatClampNeg)) (fun x11 => (chk (inb v3 24) ((bv (upS t0 (0, 32) (v3).toNatClampNeg (0 : Int32)) (fun t13 => (bd (f_X7_oneWeek t13) (fun x14 t15 => (bd (f_X7_keepHarm t15) (fun _ t18 => (chk (inb v3 24) ((bv (upS t18 (0, 32) (v3).toNatClampNeg v2) (fun t21 => (bd (f_X7_oneWeek t21) (fun x22 t23 => (chk (inb v3 24) ((bv (upS t23 (0, 32) (v3).toNatClampNeg x11) (fun t26 => (f_X7_whose_89 fuel (0 : Int32) (0 : Int32) t26))))))))))))))))))))))) else (bd (f_X7_refuse w0 t0) (fun x36 t37 => (some (x36, t37)))))
def f_X7_whose (v1 : Int32) (v2 : Int32) (t0 : Sg) : Option (Int32 × Sg) :=
  (bv (upS t0 (0, 29) 18 (0 : Int32)) (fun t1 => (bd (f_X7_flatAt v1 t1) (fun x2 t3 => (if 0 ≤ x2 then (bd (f_X7_wrongNumber v2 (-1 : Int32) (1 : Int32) t3) (fun x6 t7 => (f_X7_whose_25 v2 x2 x6 t7))) else (f_X7_whose_25 v2 x2 (-1 : Int32) t3))))))
def f_X7_weekBoth (v1 : Int32) (v2 : Int32) (t0 : Sg) : Option (Unit × Sg) :=
  (chk (inb v1 8) ((bv ((t0 (0, 42) (v1).toNatClampNeg)) (fun x2 => (bd (f_X7_oneWeek t0) (fun x3 t4 => (bd (f_X7_keepHarm t4) (fun _ t7 => (chk (inb v1 8) ((bv (upS t7 (0, 42) (v1).toNatClampNeg v2) (fun t10 => (bd (f_X7_oneWeek t10) (fun x11 t12 => (chk (inb v1 8) ((bv (upS t12 (0, 42) (v1).toNatClampNeg x2) (fun t15 => (some ((), t15))))))))))))))))))))
def f_X7_deal_20   (v1 : Int32) (t0 : Sg) : Option (Int32 × Sg) :=
  (bd (f_X7_isHabit v1 t0) (fun x6 t7 => (bd (f_X7_refuse (if x6 = 0 then (-1 : Int32) else (-2 : Int32)) t7) (fun x11 t12 => (some (((1000000000 : Int32) - x11), t12))))))
def f_X7_deal_94  (k54 : Int32 → Int32 → Int32 → Int32 → Sg → Option (Int32 × Sg)) (v1 : Int32) (v2 : Int32) (v4 : Int32) (w0 : Int32) (w1 : Int32) (t0 : Sg) : Option (Int32 × Sg) :=
  (bv ((w1 + w0)) (fun x31 => (k54 v1 v2 x31 (v4 + (1 : Int32)) t0)))
def f_X7_deal_54   : Nat → Int32 → Int32 → Int32 → Int32 → Sg → Option (Int32 × Sg)
  | 0, _, _, _, _, _ => none
  | n + 1, v1, v2, v3, v4, t0 =>
  (bd (f_X7_tenants t0) (fun x21 t22 => (if x21 ≤ v4 then (chk (inb v1 8) ((if v2 ≤ (t22 (0, 42) (v1).toNatClampNeg) then (chk (inb v1 8) ((some ((v3 - ((t22 (0, 42) (v1).toNatClampNeg) - v2)), t22)))) else (chk (inb v1 8) ((some ((v3 - (v2 - (t22 (0, 42) (v1).toNatClampNeg))), t22))))))) else (chk (inb v1 8) ((if v4 = (t22 (0, 39) (v1).toNatClampNeg) then (f_X7_deal_94 (f_X7_deal_54 n) v1 v2 v4 (0 : Int32) v3 t22) else (chk (inb v4 24) ((chk (inb v4 24) ((f_X7_deal_94 (f_X7_deal_54 n) v1 v2 v4 ((t22 (0, 55) (v4).toNatClampNeg) - (t22 (0, 45) (v4).toNatClampNeg)) v3 t22)))))))))))
def f_X7_deal (v1 : Int32) (v2 : Int32) (t0 : Sg) : Option (Int32 × Sg) :=
  (bv (upS t0 (0, 29) 18 (0 : Int32)) (fun t1 => (bd (f_X7_isHabit v1 t1) (fun x2 t3 => (if x2 = 0 then (f_X7_deal_20 v1 t3) else (bd (f_X7_isTime v2 t3) (fun x14 t15 => (if x14 = 0 then (f_X7_deal_20 v1 t15) else (bd (f_X7_weekBoth v1 v2 t15) (fun _ t19 => (f_X7_deal_54 fuel v1 v2 (0 : Int32) (0 : Int32) t19)))))))))))
def f_X7_pays_36    (t0 : Sg) : Option (Int32 × Sg) :=
  (bd (f_X7_refuse (-2 : Int32) t0) (fun x13 t14 => (some (x13, t14))))
def f_X7_pays_59   : Nat → Int32 → Int32 → Int32 → Int32 → Sg → Option (Int32 × Sg)
  | 0, _, _, _, _, _ => none
  | n + 1, v3, v4, v5, v6, t0 =>
  (bd (f_X7_tenants t0) (fun x23 t24 => (if x23 ≤ v6 then (some ((if v3 = 0 then v4 else v5), t24)) else (chk (inb v6 24) ((chk (inb v6 24) ((bv (((t24 (0, 55) (v6).toNatClampNeg) - (t24 (0, 45) (v6).toNatClampNeg))) (fun x31 => (bv ((if x31 ≤ v5 then v4 else v6)) (fun x34 => (bv ((if x31 ≤ v5 then v5 else x31)) (fun x37 => ((f_X7_pays_59 n) v3 x34 x37 (v6 + (1 : Int32)) t24))))))))))))))
def f_X7_pays (v1 : Int32) (v2 : Int32) (v3 : Int32) (t0 : Sg) : Option (Int32 × Sg) :=
  (bv (upS t0 (0, 29) 18 (0 : Int32)) (fun t1 => (bd (f_X7_isHabit v1 t1) (fun x2 t3 => (if x2 = 0 then (bd (f_X7_refuse (-1 : Int32) t3) (fun x6 t7 => (some (x6, t7)))) else (bd (f_X7_isTime v2 t3) (fun x9 t10 => (if x9 = 0 then (f_X7_pays_36 t10) else (bd (f_X7_in (v3).toInt64 (0 : Int64) (1 : Int64) t10) (fun x16 t17 => (if x16 = 0 then (f_X7_pays_36 t17) else (bd (f_X7_weekBoth v1 v2 t17) (fun _ t21 => (f_X7_pays_59 fuel v3 (-9 : Int32) (0 : Int32) (0 : Int32) t21))))))))))))))
def f_X7_isAngry_48  (k4 : Int32 → Int32 → Int32 → Sg → Option (Int32 × Sg)) (v1 : Int32) (v3 : Int32) (w0 : Int32) (t0 : Sg) : Option (Int32 × Sg) :=
  (k4 v1 w0 (v3 + (1 : Int32)) t0)
def f_X7_isAngry_47  (k4 : Int32 → Int32 → Int32 → Sg → Option (Int32 × Sg)) (v1 : Int32) (v3 : Int32) (t0 : Sg) : Option (Int32 × Sg) :=
  (f_X7_isAngry_48 k4 v1 v3 (0 : Int32) t0)
def f_X7_isAngry_43  (k4 : Int32 → Int32 → Int32 → Sg → Option (Int32 × Sg)) (v1 : Int32) (v3 : Int32) (t0 : Sg) : Option (Int32 × Sg) :=
  (f_X7_isAngry_48 k4 v1 v3 (1 : Int32) t0)
def f_X7_isAngry_4   : Nat → Int32 → Int32 → Int32 → Sg → Option (Int32 × Sg)
  | 0, _, _, _, _ => none
  | n + 1, v1, v2, v3, t0 =>
  (if (24 : Int32) ≤ v3 then (chk (v2 = 0 ∨ v2 = 1) ((some (v2, t0)))) else (if v2 = 0 then (chk (inb v1 24) ((if (((t0 (0, 37) (v1).toNatClampNeg) >>> (v3 &&& 31)) &&& (1 : Int32)) = (1 : Int32) then (chk (inb (((24 : Int32) * v1) + v3) 576) ((if (t0 (0, 38) ((((24 : Int32) * v1) + v3)).toNatClampNeg) < (5 : Int32) then (f_X7_isAngry_47 (f_X7_isAngry_4 n) v1 v3 t0) else (f_X7_isAngry_43 (f_X7_isAngry_4 n) v1 v3 t0)))) else (f_X7_isAngry_47 (f_X7_isAngry_4 n) v1 v3 t0)))) else (f_X7_isAngry_43 (f_X7_isAngry_4 n) v1 v3 t0)))
def f_X7_isAngry (v1 : Int32) (t0 : Sg) : Option (Int32 × Sg) :=
  (f_X7_isAngry_4 fuel v1 (0 : Int32) (0 : Int32) t0)
def f_X7_revenge_46  (k2 : Int32 → Sg → Option (Unit × Sg)) (v1 : Int32) (w0 : Int32) (w1 : Int32) (w2 : Int32) (t0 : Sg) : Option (Unit × Sg) :=
  (chk (inb w2 8) ((bv (upS t0 (0, 41) (w2).toNatClampNeg (w1 + w0)) (fun t9 => (k2 (v1 + (1 : Int32)) t9)))))
def f_X7_revenge_45  (k2 : Int32 → Sg → Option (Unit × Sg)) (v1 : Int32) (w0 : Int32) (w1 : Int32) (t0 : Sg) : Option (Unit × Sg) :=
  (f_X7_revenge_46 k2 v1 (0 : Int32) w0 w1 t0)
def f_X7_revenge_2   : Nat → Int32 → Sg → Option (Unit × Sg)
  | 0, _, _ => none
  | n + 1, v1, t0 =>
  (if (t0 (0, 29) 4) ≤ v1 then (some ((), t0)) else (chk (inb v1 8) ((chk (inb v1 8) ((bd (f_X7_isAngry (t0 (0, 39) (v1).toNatClampNeg) t0) (fun x4 t5 => (if x4 = 0 then (f_X7_revenge_45 (f_X7_revenge_2 n) v1 (t0 (0, 41) (v1).toNatClampNeg) v1 t5) else (chk (inb v1 8) ((if (9 : Int32) ≤ (t5 (0, 41) (v1).toNatClampNeg) then (f_X7_revenge_45 (f_X7_revenge_2 n) v1 (t0 (0, 41) (v1).toNatClampNeg) v1 t5) else (f_X7_revenge_46 (f_X7_revenge_2 n) v1 (1 : Int32) (t0 (0, 41) (v1).toNatClampNeg) v1 t5))))))))))))
def f_X7_revenge  (t0 : Sg) : Option (Unit × Sg) :=
  (f_X7_revenge_2 fuel (0 : Int32) t0)
def f_X7_climbs_71   (v1 : Int32) (t0 : Sg) : Option (Int32 × Sg) :=
  (bd (f_X7_carryAll (0, 52) (0 : Int32) t0) (fun _ t7 => (some (v1, t7))))
def f_X7_climbs_21   : Nat → Int32 → Int32 → Int32 → Sg → Option (Int32 × Sg)
  | 0, _, _, _, _ => none
  | n + 1, v1, v2, v3, t0 =>
  (if (10 : Int32) ≤ v3 then (f_X7_climbs_71 v1 t0) else (if 0 ≤ v1 then (f_X7_climbs_71 v1 t0) else (bd (f_X7_revenge t0) (fun _ t11 => (bd (f_X7_oneWeek t11) (fun x13 t14 => (bd (f_X7_keepWeek t14) (fun _ t17 => (bv ((if v3 ≤ 0 then (-9 : Int32) else (if v2 < x13 then (-9 : Int32) else v3))) (fun x22 => ((f_X7_climbs_21 n) x22 x13 (v3 + (1 : Int32)) t17)))))))))))
def f_X7_climbs  (t0 : Sg) : Option (Int32 × Sg) :=
  (bv (upS t0 (0, 29) 18 (0 : Int32)) (fun t1 => (bd (f_X7_carryAll (0, 52) (1 : Int32) t1) (fun _ t3 => (f_X7_climbs_21 fuel (-9 : Int32) (0 : Int32) (0 : Int32) t3)))))
def f_X7_worth (v1 : Int32) (t0 : Sg) : Option (Int32 × Sg) :=
  (bv (upS t0 (0, 29) 18 (0 : Int32)) (fun t1 => (bd (f_X7_flatAt v1 t1) (fun x2 t3 => (if 0 ≤ x2 then (bd (f_X7_livesIn x2 t3) (fun x6 t7 => (bd (f_X7_oneWeekOf x6 t7) (fun x9 t10 => (bv ((((100 : Int32) + ((5 : Int32) * (x2 / (4 : Int32)))) - x9)) (fun x12 => (some ((if 0 ≤ x12 then x12 else (0 : Int32)), t10)))))))) else (bd (f_X7_refuse (-1 : Int32) t3) (fun x15 t16 => (some (x15, t16)))))))))
def f_X7_haveLess (v1 : Int32) (v2 : Int32) (t0 : Sg) : Option (Int32 × Sg) :=
  (bd (f_X7_oneWeek t0) (fun x1 t2 => (chk (inb v1 24) ((chk (inb v1 24) ((if (t2 (0, 55) (v1).toNatClampNeg) ≤ (t2 (0, 45) (v1).toNatClampNeg) then (some ((0 : Int32), t2)) else (chk (inb v2 24) ((chk (inb v2 24) ((if (t2 (0, 55) (v2).toNatClampNeg) ≤ (t2 (0, 45) (v2).toNatClampNeg) then (some ((0 : Int32), t2)) else (some ((1 : Int32), t2))))))))))))))
def f_X7_pairsOf_23  (k8 : Int32 → Int32 → Int32 → Int32 → Sg → Option (Int32 × Sg)) : Nat → Int32 → Int32 → Int32 → Int32 → Int32 → Sg → Option (Int32 × Sg)
  | 0, _, _, _, _, _, _ => none
  | n + 1, v1, v2, v3, v4, v5, t0 =>
  (bd (f_X7_tenants t0) (fun x8 t9 => (if x8 ≤ v5 then (k8 v1 v2 v3 (v4 + (1 : Int32)) t9) else (bd (f_X7_change v4 v5 t9) (fun _ t13 => (bd (f_X7_haveLess v4 v5 t13) (fun x15 t16 => (bd (f_X7_change v4 v5 t16) (fun _ t19 => (bv ((if x15 = 0 then v3 else (if v2 = 0 then (((100 : Int32) * v4) + v5) else v3))) (fun x24 => (bv ((v2 + (if x15 = 0 then (0 : Int32) else (1 : Int32)))) (fun x27 => ((f_X7_pairsOf_23 k8 n) v1 x27 x24 v4 (v5 + (1 : Int32)) t19))))))))))))))
def f_X7_pairsOf_8   : Nat → Int32 → Int32 → Int32 → Int32 → Sg → Option (Int32 × Sg)
  | 0, _, _, _, _, _ => none
  | n + 1, v1, v2, v3, v4, t0 =>
  (bd (f_X7_tenants t0) (fun x1 t2 => (if x1 ≤ v4 then (some ((if v1 = 0 then v2 else v3), t2)) else (bv ((v4 + (1 : Int32))) (fun x7 => (f_X7_pairsOf_23 (f_X7_pairsOf_8 n) fuel v1 v2 v3 v4 x7 t2))))))
def f_X7_pairsOf (v1 : Int32) (t0 : Sg) : Option (Int32 × Sg) :=
  (f_X7_pairsOf_8 fuel v1 (0 : Int32) (-9 : Int32) (0 : Int32) t0)
def f_X7_isRing_69   (v1 : Int32) (v2 : Int32) (v3 : Int32) (v4 : Int32) (w0 : Int32) (t0 : Sg) : Option (Int32 × Sg) :=
  (chk (inb v2 24) ((chk (inb v3 24) ((bv (upS t0 (0, 35) (v3).toNatClampNeg (t0 (0, 35) (v2).toNatClampNeg)) (fun t17 => (chk (inb v1 24) ((chk (inb v2 24) ((bv (upS t17 (0, 35) (v2).toNatClampNeg (t17 (0, 35) (v1).toNatClampNeg)) (fun t20 => (chk (inb v1 24) ((bv (upS t20 (0, 35) (v1).toNatClampNeg v4) (fun t22 => (chk (w0 = 0 ∨ w0 = 1) ((some (w0, t22))))))))))))))))))))
def f_X7_isRing_68   (v1 : Int32) (v2 : Int32) (v3 : Int32) (v4 : Int32) (t0 : Sg) : Option (Int32 × Sg) :=
  (f_X7_isRing_69 v1 v2 v3 v4 (0 : Int32) t0)
def f_X7_isRing (v1 : Int32) (v2 : Int32) (v3 : Int32) (t0 : Sg) : Option (Int32 × Sg) :=
  (chk (inb v1 24) ((bv ((t0 (0, 35) (v1).toNatClampNeg)) (fun x2 => (chk (inb v2 24) ((chk (inb v1 24) ((bv (upS t0 (0, 35) (v1).toNatClampNeg (t0 (0, 35) (v2).toNatClampNeg)) (fun t5 => (chk (inb v3 24) ((chk (inb v2 24) ((bv (upS t5 (0, 35) (v2).toNatClampNeg (t5 (0, 35) (v3).toNatClampNeg)) (fun t8 => (chk (inb v3 24) ((bv (upS t8 (0, 35) (v3).toNatClampNeg x2) (fun t10 => (bd (f_X7_haveLess v1 v2 t10) (fun x11 t12 => (if x11 = 0 then (f_X7_isRing_68 v1 v2 v3 x2 t12) else (chk (inb v3 24) ((chk (inb v3 24) ((if (t12 (0, 55) (v3).toNatClampNeg) ≤ (t12 (0, 45) (v3).toNatClampNeg) then (f_X7_isRing_68 v1 v2 v3 x2 t12) else (f_X7_isRing_69 v1 v2 v3 x2 (1 : Int32) t12)))))))))))))))))))))))))))))
def f_X7_ringsOf_61  (k4 : Int32 → Int32 → Sg → Option (Int32 × Sg)) (k16 : Int32 → Int32 → Int32 → Sg → Option (Int32 × Sg)) (k29 : Int32 → Int32 → Int32 → Int32 → Sg → Option (Int32 × Sg)) (v2 : Int32) (v3 : Int32) (v4 : Int32) (w0 : Int32) (w1 : Int32) (t0 : Sg) : Option (Int32 × Sg) :=
  (bv ((w1 + w0)) (fun x16 => (k29 x16 v2 v3 (v4 + (1 : Int32)) t0)))
def f_X7_ringsOf_60  (k4 : Int32 → Int32 → Sg → Option (Int32 × Sg)) (k16 : Int32 → Int32 → Int32 → Sg → Option (Int32 × Sg)) (k29 : Int32 → Int32 → Int32 → Int32 → Sg → Option (Int32 × Sg)) (v2 : Int32) (v3 : Int32) (v4 : Int32) (w0 : Int32) (t0 : Sg) : Option (Int32 × Sg) :=
  (f_X7_ringsOf_61 k4 k16 k29 v2 v3 v4 (0 : Int32) w0 t0)
def f_X7_ringsOf_29  (k4 : Int32 → Int32 → Sg → Option (Int32 × Sg)) (k16 : Int32 → Int32 → Int32 → Sg → Option (Int32 × Sg)) : Nat → Int32 → Int32 → Int32 → Int32 → Sg → Option (Int32 × Sg)
  | 0, _, _, _, _, _ => none
  | n + 1, v1, v2, v3, v4, t0 =>
  (bd (f_X7_tenants t0) (fun x11 t12 => (if x11 ≤ v4 then (k16 v1 v2 (v3 + (1 : Int32)) t12) else (if v3 = v4 then (f_X7_ringsOf_60 k4 k16 (f_X7_ringsOf_29 k4 k16 n) v2 v3 v4 v1 t12) else (bd (f_X7_isRing v2 v3 v4 t12) (fun x17 t18 => (if x17 = 0 then (f_X7_ringsOf_60 k4 k16 (f_X7_ringsOf_29 k4 k16 n) v2 v3 v4 v1 t18) else (f_X7_ringsOf_61 k4 k16 (f_X7_ringsOf_29 k4 k16 n) v2 v3 v4 (1 : Int32) v1 t18))))))))
def f_X7_ringsOf_16  (k4 : Int32 → Int32 → Sg → Option (Int32 × Sg)) : Nat → Int32 → Int32 → Int32 → Sg → Option (Int32 × Sg)
  | 0, _, _, _, _ => none
  | n + 1, v1, v2, v3, t0 =>
  (bd (f_X7_tenants t0) (fun x6 t7 => (if x6 ≤ v3 then (k4 v1 (v2 + (1 : Int32)) t7) else (bv ((v2 + (1 : Int32))) (fun x10 => (f_X7_ringsOf_29 k4 (f_X7_ringsOf_16 k4 n) fuel v1 v2 v3 x10 t7))))))
def f_X7_ringsOf_4   : Nat → Int32 → Int32 → Sg → Option (Int32 × Sg)
  | 0, _, _, _ => none
  | n + 1, v1, v2, t0 =>
  (bd (f_X7_tenants t0) (fun x1 t2 => (if x1 ≤ v2 then (some (v1, t2)) else (bv ((v2 + (1 : Int32))) (fun x5 => (f_X7_ringsOf_16 (f_X7_ringsOf_4 n) fuel v1 v2 x5 t2))))))
def f_X7_ringsOf  (t0 : Sg) : Option (Int32 × Sg) :=
  (f_X7_ringsOf_4 fuel (0 : Int32) (0 : Int32) t0)
def f_X7_swaps (v1 : Int32) (t0 : Sg) : Option (Int32 × Sg) :=
  (bv (upS t0 (0, 29) 18 (0 : Int32)) (fun t1 => (bd (f_X7_in (v1).toInt64 (0 : Int64) (2 : Int64) t1) (fun x2 t3 => (if x2 = 0 then (bd (f_X7_refuse (-2 : Int32) t3) (fun x6 t7 => (some (x6, t7)))) else (bd (f_X7_oneWeek t3) (fun x9 t10 => (bd (f_X7_keepHarm t10) (fun _ t13 => (if (2 : Int32) ≤ v1 then (bd (f_X7_ringsOf t13) (fun x16 t17 => (some (x16, t17)))) else (bd (f_X7_pairsOf v1 t13) (fun x19 t20 => (some (x19, t20))))))))))))))
def f_X7_divisor_4   : Nat → Int32 → Int32 → Sg → Option (Int32 × Sg)
  | 0, _, _, _ => none
  | n + 1, v2, v3, t0 =>
  (if v3 = 0 then (some (v2, t0)) else (chk (¬ v3 = 0) ((bv ((v2 - v2 / v3 * v3)) (fun x3 => ((f_X7_divisor_4 n) v3 x3 t0))))))
def f_X7_divisor (v0 : Int32) (v1 : Int32) (t0 : Sg) : Option (Int32 × Sg) :=
  (f_X7_divisor_4 fuel v0 v1 t0)
def f_X7_peg_25    (t0 : Sg) : Option (Int64 × Sg) :=
  (bd (f_X7_refuse (-1 : Int32) t0) (fun x6 t7 => (some (((4000000000000000000 : Int64) - (x6).toInt64), t7))))
def f_X7_peg_70   : Nat → Int32 → Int32 → Int32 → Int32 → Int32 → Int32 → Sg → Option (Int64 × Sg)
  | 0, _, _, _, _, _, _, _ => none
  | n + 1, v2, v3, v4, v5, v6, v7, t0 =>
  (if ((4 : Int32) * (t0 (0, 29) 0)) ≤ v7 then (if v6 = 0 then (some ((v3).toInt64, t0)) else (bd (f_X7_divisor v5 v6 t0) (fun x23 t24 => (if v3 = 0 then (chk (¬ x23 = 0) ((some (((v6 / x23)).toInt64, t24)))) else (chk (¬ x23 = 0) ((some (((v5 / x23)).toInt64, t24)))))))) else (bv ((if v7 = (v4 + (4 : Int32)) then (2 : Int32) else (1 : Int32))) (fun x31 => (bv ((v5 + x31)) (fun x32 => (bd (f_X7_livesIn v7 t0) (fun x33 t34 => (bv ((v6 + (if x33 = v2 then x31 else (0 : Int32)))) (fun x38 => ((f_X7_peg_70 n) v2 v3 v4 x32 x38 (v7 + (4 : Int32)) t34))))))))))
def f_X7_peg (v1 : Int32) (v2 : Int32) (v3 : Int32) (t0 : Sg) : Option (Int64 × Sg) :=
  (bv (upS t0 (0, 29) 18 (0 : Int32)) (fun t1 => (bd (f_X7_flatAt v1 t1) (fun x2 t3 => (if x2 < 0 then (f_X7_peg_25 t3) else (bd (f_X7_isTenant v2 t3) (fun x9 t10 => (if x9 = 0 then (f_X7_peg_25 t10) else (bd (f_X7_in (v3).toInt64 (0 : Int64) (1 : Int64) t10) (fun x13 t14 => (if x13 = 0 then (bd (f_X7_refuse (-2 : Int32) t14) (fun x17 t18 => (some (((4000000000000000000 : Int64) - (x17).toInt64), t18)))) else (bv ((x2 + (4 : Int32))) (fun x20 => (f_X7_peg_70 fuel v2 v3 x2 (0 : Int32) (0 : Int32) x20 t14))))))))))))))
def f_X7_row_32    (t0 : Sg) : Option (Int32 × Sg) :=
  (bd (f_X7_refuse (-6 : Int32) t0) (fun x4 t5 => (some (x4, t5))))
def f_X7_row (v1 : Int32) (t0 : Sg) : Option (Int32 × Sg) :=
  (bv (upS t0 (0, 29) 18 (0 : Int32)) (fun t1 => (if 0 ≤ v1 then (if (999 : Int32) < v1 then (f_X7_row_32 t1) else (if (t1 (0, 29) 42) = (10 : Int32) then (f_X7_row_32 t1) else (chk (inb (t1 (0, 29) 42) 10) ((bv (upS t1 (0, 56) ((t1 (0, 29) 42)).toNatClampNeg v1) (fun t9 => (bv (upS t9 (0, 29) 42 ((t9 (0, 29) 42) + (1 : Int32))) (fun t10 => (some ((t10 (0, 29) 42), t10)))))))))) else (bd (f_X7_refuse (-4 : Int32) t1) (fun x11 t12 => (some (x11, t12)))))))
def f_X7_judge_21   : Nat → Int32 → Int32 → Sg → Option (Int32 × Sg)
  | 0, _, _, _ => none
  | n + 1, v1, v2, t0 =>
  (if v1 ≤ v2 then (some ((-9 : Int32), t0)) else (bd (f_X7_weekOn t0) (fun x8 t9 => (chk (inb v2 10) ((if x8 = (t9 (0, 56) (v2).toNatClampNeg) then ((f_X7_judge_21 n) v1 (v2 + (1 : Int32)) t9) else (some (v2, t9))))))))
def f_X7_judge  (t0 : Sg) : Option (Int32 × Sg) :=
  (bv (upS t0 (0, 29) 18 (0 : Int32)) (fun t1 => (bv ((t1 (0, 29) 42)) (fun x2 => (bv (upS t1 (0, 29) 42 (0 : Int32)) (fun t3 => (bd (f_X7_beginMind t3) (fun _ t5 => (f_X7_judge_21 fuel x2 (0 : Int32) t5)))))))))
def f_X7_seeds_52  (k43 : Int32 → Int32 → Int32 → Int32 → Sg → Option (Int32 × Sg)) : Nat → Int32 → Int32 → Int32 → Int32 → Int32 → Sg → Option (Int32 × Sg)
  | 0, _, _, _, _, _, _ => none
  | n + 1, v1, v3, v4, v5, v6, t0 =>
  (if (t0 (0, 29) 4) ≤ v6 then (bd (f_X7_weekOn t0) (fun x17 t18 => (bv ((v4 + x17)) (fun x20 => (k43 v1 v3 x20 (v5 + (1 : Int32)) t18))))) else (bv (((v3 * (1103515245 : Int32)) + (12345 : Int32))) (fun x21 => (chk (inb v6 8) ((bv (upS t0 (0, 42) (v6).toNatClampNeg (((x21 &&& (2147483647 : Int32)) / (65536 : Int32)) - ((x21 &&& (2147483647 : Int32)) / (65536 : Int32)) / (8 : Int32) * (8 : Int32))) (fun t23 => ((f_X7_seeds_52 k43 n) v1 x21 v4 v5 (v6 + (1 : Int32)) t23))))))))
def f_X7_seeds_43   : Nat → Int32 → Int32 → Int32 → Int32 → Sg → Option (Int32 × Sg)
  | 0, _, _, _, _, _ => none
  | n + 1, v1, v3, v4, v5, t0 =>
  (if v1 ≤ v5 then (bd (f_X7_timesBack t0) (fun _ t14 => (some (v4, t14)))) else (f_X7_seeds_52 (f_X7_seeds_43 n) fuel v1 v3 v4 v5 (0 : Int32) t0))
def f_X7_seeds (v1 : Int32) (v2 : Int32) (t0 : Sg) : Option (Int32 × Sg) :=
  (bv (upS t0 (0, 29) 18 (0 : Int32)) (fun t1 => (bd (f_X7_wrongNumber v1 (1 : Int32) (20 : Int32) t1) (fun x2 t3 => (if 0 ≤ x2 then (bd (f_X7_keepTimes t3) (fun _ t7 => (bd (f_X7_beginMind t7) (fun _ t10 => (f_X7_seeds_43 fuel v1 v2 (0 : Int32) (0 : Int32) t10))))) else (bd (f_X7_wrongNumber v1 (1 : Int32) (20 : Int32) t3) (fun x24 t25 => (bd (f_X7_refuse x24 t25) (fun x27 t28 => (some (x27, t28)))))))))))
def f_X7_sumOf_4 (i0 : Nat × Nat)  : Nat → Int32 → Int32 → Int32 → Sg → Option (Int32 × Sg)
  | 0, _, _, _, _ => none
  | n + 1, v1, v2, v3, t0 =>
  (if v1 ≤ v3 then (some (v2, t0)) else (chk (inb v3 (alen i0)) ((bv ((v2 + (t0 i0 (v3).toNatClampNeg))) (fun x3 => ((f_X7_sumOf_4 i0 n) v1 x3 (v3 + (1 : Int32)) t0))))))
def f_X7_sumOf (i0 : Nat × Nat) (v1 : Int32) (t0 : Sg) : Option (Int32 × Sg) :=
  (f_X7_sumOf_4 i0 fuel v1 (0 : Int32) (0 : Int32) t0)
def f_X7_count (v1 : Int32) (t0 : Sg) : Option (Int32 × Sg) :=
  (bv (upS t0 (0, 29) 18 (0 : Int32)) (fun t1 => (if v1 = (0 : Int32) then (some ((t1 (0, 29) 0), t1)) else (if v1 = (1 : Int32) then (some ((t1 (0, 29) 1), t1)) else (if v1 = (2 : Int32) then (some ((t1 (0, 29) 4), t1)) else (if v1 = (3 : Int32) then (some ((t1 (0, 29) 3), t1)) else (if v1 = (4 : Int32) then (some (((1 : Int32) + (t1 (0, 29) 2)), t1)) else (if v1 = (5 : Int32) then (bd (f_X7_sumOf (0, 31) (24 : Int32) t1) (fun x8 t9 => (some (x8, t9)))) else (if v1 = (6 : Int32) then (bd (f_X7_sumOf (0, 36) (24 : Int32) t1) (fun x12 t13 => (some (x12, t13)))) else (if v1 = (7 : Int32) then (bd (f_X7_sumOf (0, 38) (576 : Int32) t1) (fun x16 t17 => (some (x16, t17)))) else (if v1 = (8 : Int32) then (some ((t1 (0, 29) 26), t1)) else (if v1 = (9 : Int32) then (some ((t1 (0, 29) 42), t1)) else (bd (f_X7_in (v1).toInt64 (11 : Int64) (16 : Int64) t1) (fun x21 t22 => (if x21 = 0 then (some ((-9 : Int32), t22)) else (chk (inb (v1 - (10 : Int32)) 7) ((some ((t22 (0, 43) ((v1 - (10 : Int32))).toNatClampNeg), t22)))))))))))))))))))
end
section
theorem dJ7_fill_53178_0 : decode cJ7_fill_53178 0 = .ok (.iconst 0, 1) := by decide +kernel
theorem dJ7_fill_53178_1 : decode cJ7_fill_53178 1 = .ok (.istore_n 2, 1) := by decide +kernel
theorem dJ7_fill_53178_2 : decode cJ7_fill_53178 2 = .ok (.aload_n 0, 1) := by decide +kernel
theorem dJ7_fill_53178_3 : decode cJ7_fill_53178 3 = .ok (.arraylength, 1) := by decide +kernel
theorem dJ7_fill_53178_4 : decode cJ7_fill_53178 4 = .ok (.istore_n 3, 1) := by decide +kernel
theorem dJ7_fill_53178_5 : decode cJ7_fill_53178 5 = .ok (.iload_n 2, 1) := by decide +kernel
theorem dJ7_fill_53178_6 : decode cJ7_fill_53178 6 = .ok (.iload_n 3, 1) := by decide +kernel
theorem dJ7_fill_53178_7 : decode cJ7_fill_53178 7 = .ok (.if_icmp .ge 13, 3) := by decide +kernel
theorem dJ7_fill_53178_10 : decode cJ7_fill_53178 10 = .ok (.aload_n 0, 1) := by decide +kernel
theorem dJ7_fill_53178_11 : decode cJ7_fill_53178 11 = .ok (.iload_n 2, 1) := by decide +kernel
theorem dJ7_fill_53178_12 : decode cJ7_fill_53178 12 = .ok (.iload_n 1, 1) := by decide +kernel
theorem dJ7_fill_53178_13 : decode cJ7_fill_53178 13 = .ok (.iastore, 1) := by decide +kernel
theorem dJ7_fill_53178_14 : decode cJ7_fill_53178 14 = .ok (.iinc 2 1, 3) := by decide +kernel
theorem dJ7_fill_53178_17 : decode cJ7_fill_53178 17 = .ok (.goto (-12), 3) := by decide +kernel
theorem dJ7_fill_53178_20 : decode cJ7_fill_53178 20 = .ok (.return_, 1) := by decide +kernel
set_option maxRecDepth 100000 in
set_option maxHeartbeats 4000000 in
theorem g_J7_fill_53178_5 (ids : List (Nat × Nat)) (Hn : Ndp ids) (i0 : Nat × Nat) (Ki0 : i0 ∈ ids) (Ni0 : ly_len i0.2 = some (alen i0))  : ∀ (n : Nat) (v1 : Int32) (v2 : Int32) (v3 : Int32) (t0 : Sg), Gj kV mJ7_fill_53178 ids 5 [some (aR i0), some (aI v1), some (aI v2), some (aI v3)] [] t0 (f_J7_fill_53178_5 i0 n v1 v2 v3 t0) := by
  intro n
  induction n with
  | zero => intro v1 v2 v3 t0; exact G_none
  | succ n ih =>
    intro v1 v2 v3 t0
    rw [f_J7_fill_53178_5]
    refine G_st (x_iload_n dJ7_fill_53178_5 rfl) ?_
    refine G_st (x_iload_n dJ7_fill_53178_6 rfl) ?_
    refine G_ite (fun c2 => ?_) (fun c2 => ?_)
    · refine G_st (x_icmp_ge_t (tgt := 20) dJ7_fill_53178_7 (by decide) c2) ?_
      exact G_ret rfl ⟨rfl, dJ7_fill_53178_20⟩ rfl
    · refine G_st (x_icmp_ge_f 20 dJ7_fill_53178_7 (by decide) c2) ?_
      refine G_st (x_aload_n dJ7_fill_53178_10 rfl) ?_
      refine G_st (x_iload_n dJ7_fill_53178_11 rfl) ?_
      refine G_st (x_iload_n dJ7_fill_53178_12 rfl) ?_
      refine G_chk (fun c3 => ?_)
      refine G_st (x_iastore dJ7_fill_53178_13 Ki0 Ni0 c3) ?_
      refine G_bvS (fun t4 => ?_)
      refine G_st (x_iinc (v2 + (1 : Int32)) [some (aR i0), some (aI v1), some (aI (v2 + (1 : Int32))), some (aI v3)] dJ7_fill_53178_14 (Nat.le_of_ble_eq_true rfl) rfl rfl rfl rfl) ?_
      refine G_st (x_goto (tgt := 5) dJ7_fill_53178_17 (by decide)) ?_
      refine G_weak _ ?_ ((ih) v1 (v2 + (1 : Int32)) v3 t4)
      exact (leL_s (leL_s (leL_s (leL_s (leL_e _)))))
set_option maxRecDepth 100000 in
set_option maxHeartbeats 4000000 in
theorem g_J7_fill_53178 (ids : List (Nat × Nat)) (Hn : Ndp ids) (i0 : Nat × Nat) (v1 : Int32) (Ki0 : i0 ∈ ids) (Ni0 : ly_len i0.2 = some (alen i0)) (t0 : Sg) : Gj kV mJ7_fill_53178 ids 0 [some (aR i0), some (aI v1), none, none] [] t0 (f_J7_fill_53178 i0 v1 t0) := by
  unfold f_J7_fill_53178
  refine G_st (x_iconst (0 : Int32) dJ7_fill_53178_0 rfl) ?_
  refine G_st (x_istore_n [some (aR i0), some (aI v1), some (aI (0 : Int32)), none] dJ7_fill_53178_1 (Nat.le_of_ble_eq_true rfl) rfl rfl) ?_
  refine G_st (x_aload_n dJ7_fill_53178_2 rfl) ?_
  refine G_st (x_alen (v := (Int32.ofNat (alen i0))) dJ7_fill_53178_3 Ki0 Ni0 rfl) ?_
  refine G_bvI (fun x1 => ?_)
  refine G_st (x_istore_n [some (aR i0), some (aI v1), some (aI (0 : Int32)), some (aI x1)] dJ7_fill_53178_4 (Nat.le_of_ble_eq_true rfl) rfl rfl) ?_
  refine G_weak _ ?_ (g_J7_fill_53178_5 ids Hn i0 Ki0 Ni0 fuel v1 (0 : Int32) x1 t0)
  exact (leL_s (leL_s (leL_s (leL_s (leL_e _)))))
set_option maxRecDepth 100000 in
set_option maxHeartbeats 4000000 in
theorem c_J7_fill_53178 (ids : List (Nat × Nat)) (Hn : Ndp ids) (i0 : Nat × Nat) (v1 : Int32) (Ki0 : i0 ∈ ids) (Ni0 : ly_len i0.2 = some (alen i0)) (t0 : Sg) (r : Unit) (t1 : Sg) (hf : f_J7_fill_53178 i0 v1 t0 = some (r, t1)) : Mt0 mJ7_fill_53178 yJ7_fill_53178 ids [aR i0, aI v1] t0 none t1 :=
  Mt_of (x := (r, t1)) (g_J7_fill_53178 ids Hn i0 v1 Ki0 Ni0 t0) hf (by decide) rfl Hn (fun _ => rfl) (fun _ => Nat.le_of_ble_eq_true rfl)
theorem dX6_set_0 : decode cX6_set 0 = .ok (.iload_n 1, 1) := by decide +kernel
theorem dX6_set_1 : decode cX6_set 1 = .ok (.ifCond .lt 13, 3) := by decide +kernel
theorem dX6_set_4 : decode cX6_set 4 = .ok (.iload_n 1, 1) := by decide +kernel
theorem dX6_set_5 : decode cX6_set 5 = .ok (.aload_n 0, 1) := by decide +kernel
theorem dX6_set_6 : decode cX6_set 6 = .ok (.arraylength, 1) := by decide +kernel
theorem dX6_set_7 : decode cX6_set 7 = .ok (.if_icmp .ge 7, 3) := by decide +kernel
theorem dX6_set_10 : decode cX6_set 10 = .ok (.aload_n 0, 1) := by decide +kernel
theorem dX6_set_11 : decode cX6_set 11 = .ok (.iload_n 1, 1) := by decide +kernel
theorem dX6_set_12 : decode cX6_set 12 = .ok (.iload_n 2, 1) := by decide +kernel
theorem dX6_set_13 : decode cX6_set 13 = .ok (.iastore, 1) := by decide +kernel
theorem dX6_set_14 : decode cX6_set 14 = .ok (.return_, 1) := by decide +kernel
set_option maxRecDepth 100000 in
set_option maxHeartbeats 4000000 in
theorem g_X6_set (ids : List (Nat × Nat)) (Hn : Ndp ids) (i0 : Nat × Nat) (v1 : Int32) (v2 : Int32) (Ki0 : i0 ∈ ids) (Ni0 : ly_len i0.2 = some (alen i0)) (t0 : Sg) : Gj kV mX6_set ids 0 [some (aR i0), some (aI v1), some (aI v2)] [] t0 (f_X6_set i0 v1 v2 t0) := by
  unfold f_X6_set
  refine G_st (x_iload_n dX6_set_0 rfl) ?_
  refine G_ite (fun c1 => ?_) (fun c1 => ?_)
  · refine G_st (x_if_lt_t (tgt := 14) dX6_set_1 (by decide) c1) ?_
    exact G_ret rfl ⟨rfl, dX6_set_14⟩ rfl
  · refine G_st (x_if_lt_f 14 dX6_set_1 (by decide) c1) ?_
    refine G_st (x_iload_n dX6_set_4 rfl) ?_
    refine G_st (x_aload_n dX6_set_5 rfl) ?_
    refine G_st (x_alen (v := (Int32.ofNat (alen i0))) dX6_set_6 Ki0 Ni0 rfl) ?_
    refine G_ite (fun c2 => ?_) (fun c2 => ?_)
    · refine G_st (x_icmp_ge_t (tgt := 14) dX6_set_7 (by decide) c2) ?_
      exact G_ret rfl ⟨rfl, dX6_set_14⟩ rfl
    · refine G_st (x_icmp_ge_f 14 dX6_set_7 (by decide) c2) ?_
      refine G_st (x_aload_n dX6_set_10 rfl) ?_
      refine G_st (x_iload_n dX6_set_11 rfl) ?_
      refine G_st (x_iload_n dX6_set_12 rfl) ?_
      refine G_chk (fun c3 => ?_)
      refine G_st (x_iastore dX6_set_13 Ki0 Ni0 c3) ?_
      refine G_bvS (fun t4 => ?_)
      exact G_ret rfl ⟨rfl, dX6_set_14⟩ rfl
set_option maxRecDepth 100000 in
set_option maxHeartbeats 4000000 in
theorem c_X6_set (ids : List (Nat × Nat)) (Hn : Ndp ids) (i0 : Nat × Nat) (v1 : Int32) (v2 : Int32) (Ki0 : i0 ∈ ids) (Ni0 : ly_len i0.2 = some (alen i0)) (t0 : Sg) (r : Unit) (t1 : Sg) (hf : f_X6_set i0 v1 v2 t0 = some (r, t1)) : Mt0 mX6_set yX6_set ids [aR i0, aI v1, aI v2] t0 none t1 :=
  Mt_of (x := (r, t1)) (g_X6_set ids Hn i0 v1 v2 Ki0 Ni0 t0) hf (by decide) rfl Hn (fun _ => rfl) (fun _ => Nat.le_of_ble_eq_true rfl)
theorem dX0_settle_0 : decode cX0_settle 0 = .ok (.aload_n 0, 1) := by decide +kernel
theorem dX0_settle_1 : decode cX0_settle 1 = .ok (.getfield 30, 3) := by decide +kernel
theorem dX0_settle_4 : decode cX0_settle 4 = .ok (.iload_n 1, 1) := by decide +kernel
theorem dX0_settle_5 : decode cX0_settle 5 = .ok (.iload_n 2, 1) := by decide +kernel
theorem dX0_settle_6 : decode cX0_settle 6 = .ok (.invokestatic 64, 3) := by decide +kernel
theorem dX0_settle_9 : decode cX0_settle 9 = .ok (.aload_n 0, 1) := by decide +kernel
theorem dX0_settle_10 : decode cX0_settle 10 = .ok (.getfield 27, 3) := by decide +kernel
theorem dX0_settle_13 : decode cX0_settle 13 = .ok (.iload_n 2, 1) := by decide +kernel
theorem dX0_settle_14 : decode cX0_settle 14 = .ok (.iload_n 1, 1) := by decide +kernel
theorem dX0_settle_15 : decode cX0_settle 15 = .ok (.invokestatic 64, 3) := by decide +kernel
theorem dX0_settle_18 : decode cX0_settle 18 = .ok (.return_, 1) := by decide +kernel
set_option maxRecDepth 100000 in
set_option maxHeartbeats 4000000 in
theorem g_X0_settle (ids : List (Nat × Nat)) (Hn : Ndp ids) (h : Nat) (v1 : Int32) (v2 : Int32) (Hh : InR ids h 7 14) (t0 : Sg) : Gj kV mX0_settle ids 0 [some (aR (h, 7)), some (aI v1), some (aI v2)] [] t0 (f_X0_settle h v1 v2 t0) := by
  unfold f_X0_settle
  refine G_st (x_aload_n dX0_settle_0 rfl) ?_
  refine G_st (x_get (k := 9) (aR (h, 14)) dX0_settle_1 (Hh 7 (Nat.le_of_ble_eq_true rfl) (Nat.le_of_ble_eq_true rfl)) rfl rfl rfl rfl inTX0 (Nat.le_of_ble_eq_true rfl) tw_138 (fun ad => rfl)) ?_
  refine G_st (x_iload_n dX0_settle_4 rfl) ?_
  refine G_st (x_iload_n dX0_settle_5 rfl) ?_
  refine G_bd (fun _ t2 h3 => ?_)
  refine G_st (x_callN [] (c_X6_set ids Hn (h, 14) v1 v2 (Hh 14 (Nat.le_of_ble_eq_true rfl) (Nat.le_of_ble_eq_true rfl)) rfl _ _ _ h3) dX0_settle_6 (List.mem_of_getElem? (i := 1) rfl) kc_X6_set rfl ⟨Nat.le_of_ble_eq_true rfl, Nat.le_of_ble_eq_true rfl⟩ (Nat.le_of_ble_eq_true rfl) rfl) ?_
  refine G_st (x_aload_n dX0_settle_9 rfl) ?_
  refine G_st (x_get (k := 8) (aR (h, 13)) dX0_settle_10 (Hh 7 (Nat.le_of_ble_eq_true rfl) (Nat.le_of_ble_eq_true rfl)) rfl rfl rfl rfl inTX0 (Nat.le_of_ble_eq_true rfl) tw_135 (fun ad => rfl)) ?_
  refine G_st (x_iload_n dX0_settle_13 rfl) ?_
  refine G_st (x_iload_n dX0_settle_14 rfl) ?_
  refine G_bd (fun _ t5 h6 => ?_)
  refine G_st (x_callN [] (c_X6_set ids Hn (h, 13) v2 v1 (Hh 13 (Nat.le_of_ble_eq_true rfl) (Nat.le_of_ble_eq_true rfl)) rfl _ _ _ h6) dX0_settle_15 (List.mem_of_getElem? (i := 1) rfl) kc_X6_set rfl ⟨Nat.le_of_ble_eq_true rfl, Nat.le_of_ble_eq_true rfl⟩ (Nat.le_of_ble_eq_true rfl) rfl) ?_
  exact G_ret rfl ⟨rfl, dX0_settle_18⟩ rfl
set_option maxRecDepth 100000 in
set_option maxHeartbeats 4000000 in
theorem c_X0_settle (ids : List (Nat × Nat)) (Hn : Ndp ids) (h : Nat) (v1 : Int32) (v2 : Int32) (Hh : InR ids h 7 14) (t0 : Sg) (r : Unit) (t1 : Sg) (hf : f_X0_settle h v1 v2 t0 = some (r, t1)) : Mt0 mX0_settle yX0_settle ids [aR (h, 7), aI v1, aI v2] t0 none t1 :=
  Mt_of (x := (r, t1)) (g_X0_settle ids Hn h v1 v2 Hh t0) hf (by decide) rfl Hn (fun _ => rfl) (fun _ => Nat.le_of_ble_eq_true rfl)
theorem dX0_build_0 : decode cX0_build 0 = .ok (.aload_n 0, 1) := by decide +kernel
theorem dX0_build_1 : decode cX0_build 1 = .ok (.iload_n 1, 1) := by decide +kernel
theorem dX0_build_2 : decode cX0_build 2 = .ok (.putfield 37, 3) := by decide +kernel
theorem dX0_build_5 : decode cX0_build 5 = .ok (.aload_n 0, 1) := by decide +kernel
theorem dX0_build_6 : decode cX0_build 6 = .ok (.iload_n 2, 1) := by decide +kernel
theorem dX0_build_7 : decode cX0_build 7 = .ok (.putfield 41, 3) := by decide +kernel
theorem dX0_build_10 : decode cX0_build 10 = .ok (.aload_n 0, 1) := by decide +kernel
theorem dX0_build_11 : decode cX0_build 11 = .ok (.getfield 9, 3) := by decide +kernel
theorem dX0_build_14 : decode cX0_build 14 = .ok (.iconst 0, 1) := by decide +kernel
theorem dX0_build_15 : decode cX0_build 15 = .ok (.invokestatic 44, 3) := by decide +kernel
theorem dX0_build_18 : decode cX0_build 18 = .ok (.aload_n 0, 1) := by decide +kernel
theorem dX0_build_19 : decode cX0_build 19 = .ok (.getfield 15, 3) := by decide +kernel
theorem dX0_build_22 : decode cX0_build 22 = .ok (.iconst 0, 1) := by decide +kernel
theorem dX0_build_23 : decode cX0_build 23 = .ok (.invokestatic 44, 3) := by decide +kernel
theorem dX0_build_26 : decode cX0_build 26 = .ok (.aload_n 0, 1) := by decide +kernel
theorem dX0_build_27 : decode cX0_build 27 = .ok (.getfield 18, 3) := by decide +kernel
theorem dX0_build_30 : decode cX0_build 30 = .ok (.iconst 0, 1) := by decide +kernel
theorem dX0_build_31 : decode cX0_build 31 = .ok (.invokestatic 44, 3) := by decide +kernel
theorem dX0_build_34 : decode cX0_build 34 = .ok (.aload_n 0, 1) := by decide +kernel
theorem dX0_build_35 : decode cX0_build 35 = .ok (.getfield 21, 3) := by decide +kernel
theorem dX0_build_38 : decode cX0_build 38 = .ok (.iconst 0, 1) := by decide +kernel
theorem dX0_build_39 : decode cX0_build 39 = .ok (.invokestatic 44, 3) := by decide +kernel
theorem dX0_build_42 : decode cX0_build 42 = .ok (.aload_n 0, 1) := by decide +kernel
theorem dX0_build_43 : decode cX0_build 43 = .ok (.getfield 24, 3) := by decide +kernel
theorem dX0_build_46 : decode cX0_build 46 = .ok (.iconst 0, 1) := by decide +kernel
theorem dX0_build_47 : decode cX0_build 47 = .ok (.invokestatic 44, 3) := by decide +kernel
theorem dX0_build_50 : decode cX0_build 50 = .ok (.aload_n 0, 1) := by decide +kernel
theorem dX0_build_51 : decode cX0_build 51 = .ok (.getfield 27, 3) := by decide +kernel
theorem dX0_build_54 : decode cX0_build 54 = .ok (.iconst (-1), 1) := by decide +kernel
theorem dX0_build_55 : decode cX0_build 55 = .ok (.invokestatic 44, 3) := by decide +kernel
theorem dX0_build_58 : decode cX0_build 58 = .ok (.aload_n 0, 1) := by decide +kernel
theorem dX0_build_59 : decode cX0_build 59 = .ok (.getfield 30, 3) := by decide +kernel
theorem dX0_build_62 : decode cX0_build 62 = .ok (.iconst (-1), 1) := by decide +kernel
theorem dX0_build_63 : decode cX0_build 63 = .ok (.invokestatic 44, 3) := by decide +kernel
theorem dX0_build_66 : decode cX0_build 66 = .ok (.iconst 0, 1) := by decide +kernel
theorem dX0_build_67 : decode cX0_build 67 = .ok (.istore_n 3, 1) := by decide +kernel
theorem dX0_build_68 : decode cX0_build 68 = .ok (.iload_n 3, 1) := by decide +kernel
theorem dX0_build_69 : decode cX0_build 69 = .ok (.iload_n 1, 1) := by decide +kernel
theorem dX0_build_70 : decode cX0_build 70 = .ok (.if_icmp .ge 40, 3) := by decide +kernel
theorem dX0_build_73 : decode cX0_build 73 = .ok (.iconst 0, 1) := by decide +kernel
theorem dX0_build_74 : decode cX0_build 74 = .ok (.istore 4, 2) := by decide +kernel
theorem dX0_build_76 : decode cX0_build 76 = .ok (.iload 4, 2) := by decide +kernel
theorem dX0_build_78 : decode cX0_build 78 = .ok (.iload_n 2, 1) := by decide +kernel
theorem dX0_build_79 : decode cX0_build 79 = .ok (.if_icmp .ge 25, 3) := by decide +kernel
theorem dX0_build_82 : decode cX0_build 82 = .ok (.aload_n 0, 1) := by decide +kernel
theorem dX0_build_83 : decode cX0_build 83 = .ok (.iload_n 3, 1) := by decide +kernel
theorem dX0_build_84 : decode cX0_build 84 = .ok (.iload_n 2, 1) := by decide +kernel
theorem dX0_build_85 : decode cX0_build 85 = .ok (.imul, 1) := by decide +kernel
theorem dX0_build_86 : decode cX0_build 86 = .ok (.iload 4, 2) := by decide +kernel
theorem dX0_build_88 : decode cX0_build 88 = .ok (.iadd, 1) := by decide +kernel
theorem dX0_build_89 : decode cX0_build 89 = .ok (.iload_n 3, 1) := by decide +kernel
theorem dX0_build_90 : decode cX0_build 90 = .ok (.iconst 4, 1) := by decide +kernel
theorem dX0_build_91 : decode cX0_build 91 = .ok (.imul, 1) := by decide +kernel
theorem dX0_build_92 : decode cX0_build 92 = .ok (.iload 4, 2) := by decide +kernel
theorem dX0_build_94 : decode cX0_build 94 = .ok (.iadd, 1) := by decide +kernel
theorem dX0_build_95 : decode cX0_build 95 = .ok (.invokevirtual 50, 3) := by decide +kernel
theorem dX0_build_98 : decode cX0_build 98 = .ok (.iinc 4 1, 3) := by decide +kernel
theorem dX0_build_101 : decode cX0_build 101 = .ok (.goto (-25), 3) := by decide +kernel
theorem dX0_build_104 : decode cX0_build 104 = .ok (.iinc 3 1, 3) := by decide +kernel
theorem dX0_build_107 : decode cX0_build 107 = .ok (.goto (-39), 3) := by decide +kernel
theorem dX0_build_110 : decode cX0_build 110 = .ok (.return_, 1) := by decide +kernel
set_option maxRecDepth 100000 in
set_option maxHeartbeats 4000000 in
theorem g_X0_build_76 (ids : List (Nat × Nat)) (Hn : Ndp ids) (h : Nat) (Hh : InR ids h 7 14) (k68 : Int32 → Int32 → Int32 → Sg → Option (Unit × Sg)) (hk68 : ∀ (v1 : Int32) (v2 : Int32) (v3 : Int32) (t0 : Sg), Gj kV mX0_build ids 68 [some (aR (h, 7)), some (aI v1), some (aI v2), some (aI v3), none] [] t0 (k68 v1 v2 v3 t0)) : ∀ (n : Nat) (v1 : Int32) (v2 : Int32) (v3 : Int32) (v4 : Int32) (t0 : Sg), Gj kV mX0_build ids 76 [some (aR (h, 7)), some (aI v1), some (aI v2), some (aI v3), some (aI v4)] [] t0 (f_X0_build_76 h k68 n v1 v2 v3 v4 t0) := by
  intro n
  induction n with
  | zero => intro v1 v2 v3 v4 t0; exact G_none
  | succ n ih =>
    intro v1 v2 v3 v4 t0
    rw [f_X0_build_76]
    refine G_st (x_iload dX0_build_76 rfl) ?_
    refine G_st (x_iload_n dX0_build_78 rfl) ?_
    refine G_ite (fun c25 => ?_) (fun c25 => ?_)
    · refine G_st (x_icmp_ge_t (tgt := 104) dX0_build_79 (by decide) c25) ?_
      refine G_st (x_iinc (v3 + (1 : Int32)) [some (aR (h, 7)), some (aI v1), some (aI v2), some (aI (v3 + (1 : Int32))), some (aI v4)] dX0_build_104 (Nat.le_of_ble_eq_true rfl) rfl rfl rfl rfl) ?_
      refine G_st (x_goto (tgt := 68) dX0_build_107 (by decide)) ?_
      refine G_weak _ ?_ (hk68 v1 v2 (v3 + (1 : Int32)) t0)
      exact (leL_s (leL_s (leL_s (leL_s (leL_n (leL_e _))))))
    · refine G_st (x_icmp_ge_f 104 dX0_build_79 (by decide) c25) ?_
      refine G_st (x_aload_n dX0_build_82 rfl) ?_
      refine G_st (x_iload_n dX0_build_83 rfl) ?_
      refine G_st (x_iload_n dX0_build_84 rfl) ?_
      refine G_st (x_imul dX0_build_85) ?_
      refine G_st (x_iload dX0_build_86 rfl) ?_
      refine G_st (x_iadd dX0_build_88) ?_
      refine G_st (x_iload_n dX0_build_89 rfl) ?_
      refine G_st (x_iconst (4 : Int32) dX0_build_90 rfl) ?_
      refine G_st (x_imul dX0_build_91) ?_
      refine G_st (x_iload dX0_build_92 rfl) ?_
      refine G_st (x_iadd dX0_build_94) ?_
      refine G_bd (fun _ t27 h28 => ?_)
      refine G_st (x_callV [] (c_X0_settle ids Hn h ((v3 * v2) + v4) ((v3 * (4 : Int32)) + v4) Hh _ _ _ h28) dX0_build_95 tw_103 kc_X0_settle (Hh 7 (Nat.le_of_ble_eq_true rfl) (Nat.le_of_ble_eq_true rfl)) rfl rfl rfl rfl ⟨Nat.le_of_ble_eq_true rfl, Nat.le_of_ble_eq_true rfl⟩ (Nat.le_of_ble_eq_true rfl) rfl) ?_
      refine G_st (x_iinc (v4 + (1 : Int32)) [some (aR (h, 7)), some (aI v1), some (aI v2), some (aI v3), some (aI (v4 + (1 : Int32)))] dX0_build_98 (Nat.le_of_ble_eq_true rfl) rfl rfl rfl rfl) ?_
      refine G_st (x_goto (tgt := 76) dX0_build_101 (by decide)) ?_
      refine G_weak _ ?_ ((ih) v1 v2 v3 (v4 + (1 : Int32)) t27)
      exact (leL_s (leL_s (leL_s (leL_s (leL_s (leL_e _))))))
set_option maxRecDepth 100000 in
set_option maxHeartbeats 4000000 in
theorem g_X0_build_68 (ids : List (Nat × Nat)) (Hn : Ndp ids) (h : Nat) (Hh : InR ids h 7 14)  : ∀ (n : Nat) (v1 : Int32) (v2 : Int32) (v3 : Int32) (t0 : Sg), Gj kV mX0_build ids 68 [some (aR (h, 7)), some (aI v1), some (aI v2), some (aI v3), none] [] t0 (f_X0_build_68 h n v1 v2 v3 t0) := by
  intro n
  induction n with
  | zero => intro v1 v2 v3 t0; exact G_none
  | succ n ih =>
    intro v1 v2 v3 t0
    rw [f_X0_build_68]
    refine G_st (x_iload_n dX0_build_68 rfl) ?_
    refine G_st (x_iload_n dX0_build_69 rfl) ?_
    refine G_ite (fun c24 => ?_) (fun c24 => ?_)
    · refine G_st (x_icmp_ge_t (tgt := 110) dX0_build_70 (by decide) c24) ?_
      exact G_ret rfl ⟨rfl, dX0_build_110⟩ rfl
    · refine G_st (x_icmp_ge_f 110 dX0_build_70 (by decide) c24) ?_
      refine G_st (x_iconst (0 : Int32) dX0_build_73 rfl) ?_
      refine G_st (x_istore [some (aR (h, 7)), some (aI v1), some (aI v2), some (aI v3), some (aI (0 : Int32))] dX0_build_74 (Nat.le_of_ble_eq_true rfl) rfl rfl) ?_
      refine G_weak _ ?_ (g_X0_build_76 ids Hn h Hh (f_X0_build_68 h n) (ih) fuel v1 v2 v3 (0 : Int32) t0)
      exact (leL_s (leL_s (leL_s (leL_s (leL_s (leL_e _))))))
set_option maxRecDepth 100000 in
set_option maxHeartbeats 4000000 in
theorem g_X0_build (ids : List (Nat × Nat)) (Hn : Ndp ids) (h : Nat) (v1 : Int32) (v2 : Int32) (Hh : InR ids h 7 14) (t0 : Sg) : Gj kV mX0_build ids 0 [some (aR (h, 7)), some (aI v1), some (aI v2), none, none] [] t0 (f_X0_build h v1 v2 t0) := by
  unfold f_X0_build
  refine G_st (x_aload_n dX0_build_0 rfl) ?_
  refine G_st (x_iload_n dX0_build_1 rfl) ?_
  refine G_st (x_put (k := 0) (ty := .int) (v := aI v1) (z := v1) (upS t0 (h, 7) 0 v1) dX0_build_2 (Hh 7 (Nat.le_of_ble_eq_true rfl) (Nat.le_of_ble_eq_true rfl)) rfl rfl rfl rfl inTX0 tyX0_ok nmX0 (Nat.le_of_ble_eq_true rfl) tw_110 rfl rfl (fun ad => rfl) (fun ad => rfl) (fun ad => put_i0 ad _ _ _ _ rfl) rfl) ?_
  refine G_bvS (fun t1 => ?_)
  refine G_st (x_aload_n dX0_build_5 rfl) ?_
  refine G_st (x_iload_n dX0_build_6 rfl) ?_
  refine G_st (x_put (k := 1) (ty := .int) (v := aI v2) (z := v2) (upS t1 (h, 7) 1 v2) dX0_build_7 (Hh 7 (Nat.le_of_ble_eq_true rfl) (Nat.le_of_ble_eq_true rfl)) rfl rfl rfl rfl inTX0 tyX0_ok nmX0 (Nat.le_of_ble_eq_true rfl) tw_112 rfl rfl (fun ad => rfl) (fun ad => rfl) (fun ad => put_i0 ad _ _ _ _ rfl) rfl) ?_
  refine G_bvS (fun t2 => ?_)
  refine G_st (x_aload_n dX0_build_10 rfl) ?_
  refine G_st (x_get (k := 3) (aR (h, 8)) dX0_build_11 (Hh 7 (Nat.le_of_ble_eq_true rfl) (Nat.le_of_ble_eq_true rfl)) rfl rfl rfl rfl inTX0 (Nat.le_of_ble_eq_true rfl) tw_118 (fun ad => rfl)) ?_
  refine G_st (x_iconst (0 : Int32) dX0_build_14 rfl) ?_
  refine G_bd (fun _ t4 h5 => ?_)
  refine G_st (x_callS [] (c_J7_fill_53178 ids Hn (h, 8) (0 : Int32) (Hh 8 (Nat.le_of_ble_eq_true rfl) (Nat.le_of_ble_eq_true rfl)) rfl _ _ _ h5) dX0_build_15 tw_100 kc_J7_fill_53178 rfl ⟨Nat.le_of_ble_eq_true rfl, Nat.le_of_ble_eq_true rfl⟩ (Nat.le_of_ble_eq_true rfl) rfl) ?_
  refine G_st (x_aload_n dX0_build_18 rfl) ?_
  refine G_st (x_get (k := 4) (aR (h, 9)) dX0_build_19 (Hh 7 (Nat.le_of_ble_eq_true rfl) (Nat.le_of_ble_eq_true rfl)) rfl rfl rfl rfl inTX0 (Nat.le_of_ble_eq_true rfl) tw_121 (fun ad => rfl)) ?_
  refine G_st (x_iconst (0 : Int32) dX0_build_22 rfl) ?_
  refine G_bd (fun _ t7 h8 => ?_)
  refine G_st (x_callS [] (c_J7_fill_53178 ids Hn (h, 9) (0 : Int32) (Hh 9 (Nat.le_of_ble_eq_true rfl) (Nat.le_of_ble_eq_true rfl)) rfl _ _ _ h8) dX0_build_23 tw_100 kc_J7_fill_53178 rfl ⟨Nat.le_of_ble_eq_true rfl, Nat.le_of_ble_eq_true rfl⟩ (Nat.le_of_ble_eq_true rfl) rfl) ?_
  refine G_st (x_aload_n dX0_build_26 rfl) ?_
  refine G_st (x_get (k := 5) (aR (h, 10)) dX0_build_27 (Hh 7 (Nat.le_of_ble_eq_true rfl) (Nat.le_of_ble_eq_true rfl)) rfl rfl rfl rfl inTX0 (Nat.le_of_ble_eq_true rfl) tw_125 (fun ad => rfl)) ?_
  refine G_st (x_iconst (0 : Int32) dX0_build_30 rfl) ?_
  refine G_bd (fun _ t10 h11 => ?_)
  refine G_st (x_callS [] (c_J7_fill_53178 ids Hn (h, 10) (0 : Int32) (Hh 10 (Nat.le_of_ble_eq_true rfl) (Nat.le_of_ble_eq_true rfl)) rfl _ _ _ h11) dX0_build_31 tw_100 kc_J7_fill_53178 rfl ⟨Nat.le_of_ble_eq_true rfl, Nat.le_of_ble_eq_true rfl⟩ (Nat.le_of_ble_eq_true rfl) rfl) ?_
  refine G_st (x_aload_n dX0_build_34 rfl) ?_
  refine G_st (x_get (k := 6) (aR (h, 11)) dX0_build_35 (Hh 7 (Nat.le_of_ble_eq_true rfl) (Nat.le_of_ble_eq_true rfl)) rfl rfl rfl rfl inTX0 (Nat.le_of_ble_eq_true rfl) tw_129 (fun ad => rfl)) ?_
  refine G_st (x_iconst (0 : Int32) dX0_build_38 rfl) ?_
  refine G_bd (fun _ t13 h14 => ?_)
  refine G_st (x_callS [] (c_J7_fill_53178 ids Hn (h, 11) (0 : Int32) (Hh 11 (Nat.le_of_ble_eq_true rfl) (Nat.le_of_ble_eq_true rfl)) rfl _ _ _ h14) dX0_build_39 tw_100 kc_J7_fill_53178 rfl ⟨Nat.le_of_ble_eq_true rfl, Nat.le_of_ble_eq_true rfl⟩ (Nat.le_of_ble_eq_true rfl) rfl) ?_
  refine G_st (x_aload_n dX0_build_42 rfl) ?_
  refine G_st (x_get (k := 7) (aR (h, 12)) dX0_build_43 (Hh 7 (Nat.le_of_ble_eq_true rfl) (Nat.le_of_ble_eq_true rfl)) rfl rfl rfl rfl inTX0 (Nat.le_of_ble_eq_true rfl) tw_132 (fun ad => rfl)) ?_
  refine G_st (x_iconst (0 : Int32) dX0_build_46 rfl) ?_
  refine G_bd (fun _ t16 h17 => ?_)
  refine G_st (x_callS [] (c_J7_fill_53178 ids Hn (h, 12) (0 : Int32) (Hh 12 (Nat.le_of_ble_eq_true rfl) (Nat.le_of_ble_eq_true rfl)) rfl _ _ _ h17) dX0_build_47 tw_100 kc_J7_fill_53178 rfl ⟨Nat.le_of_ble_eq_true rfl, Nat.le_of_ble_eq_true rfl⟩ (Nat.le_of_ble_eq_true rfl) rfl) ?_
  refine G_st (x_aload_n dX0_build_50 rfl) ?_
  refine G_st (x_get (k := 8) (aR (h, 13)) dX0_build_51 (Hh 7 (Nat.le_of_ble_eq_true rfl) (Nat.le_of_ble_eq_true rfl)) rfl rfl rfl rfl inTX0 (Nat.le_of_ble_eq_true rfl) tw_135 (fun ad => rfl)) ?_
  refine G_st (x_iconst (-1 : Int32) dX0_build_54 rfl) ?_
  refine G_bd (fun _ t19 h20 => ?_)
  refine G_st (x_callS [] (c_J7_fill_53178 ids Hn (h, 13) (-1 : Int32) (Hh 13 (Nat.le_of_ble_eq_true rfl) (Nat.le_of_ble_eq_true rfl)) rfl _ _ _ h20) dX0_build_55 tw_100 kc_J7_fill_53178 rfl ⟨Nat.le_of_ble_eq_true rfl, Nat.le_of_ble_eq_true rfl⟩ (Nat.le_of_ble_eq_true rfl) rfl) ?_
  refine G_st (x_aload_n dX0_build_58 rfl) ?_
  refine G_st (x_get (k := 9) (aR (h, 14)) dX0_build_59 (Hh 7 (Nat.le_of_ble_eq_true rfl) (Nat.le_of_ble_eq_true rfl)) rfl rfl rfl rfl inTX0 (Nat.le_of_ble_eq_true rfl) tw_138 (fun ad => rfl)) ?_
  refine G_st (x_iconst (-1 : Int32) dX0_build_62 rfl) ?_
  refine G_bd (fun _ t22 h23 => ?_)
  refine G_st (x_callS [] (c_J7_fill_53178 ids Hn (h, 14) (-1 : Int32) (Hh 14 (Nat.le_of_ble_eq_true rfl) (Nat.le_of_ble_eq_true rfl)) rfl _ _ _ h23) dX0_build_63 tw_100 kc_J7_fill_53178 rfl ⟨Nat.le_of_ble_eq_true rfl, Nat.le_of_ble_eq_true rfl⟩ (Nat.le_of_ble_eq_true rfl) rfl) ?_
  refine G_st (x_iconst (0 : Int32) dX0_build_66 rfl) ?_
  refine G_st (x_istore_n [some (aR (h, 7)), some (aI v1), some (aI v2), some (aI (0 : Int32)), none] dX0_build_67 (Nat.le_of_ble_eq_true rfl) rfl rfl) ?_
  refine G_weak _ ?_ (g_X0_build_68 ids Hn h Hh fuel v1 v2 (0 : Int32) t22)
  exact (leL_s (leL_s (leL_s (leL_s (leL_n (leL_e _))))))
set_option maxRecDepth 100000 in
set_option maxHeartbeats 4000000 in
theorem c_X0_build (ids : List (Nat × Nat)) (Hn : Ndp ids) (h : Nat) (v1 : Int32) (v2 : Int32) (Hh : InR ids h 7 14) (t0 : Sg) (r : Unit) (t1 : Sg) (hf : f_X0_build h v1 v2 t0 = some (r, t1)) : Mt0 mX0_build yX0_build ids [aR (h, 7), aI v1, aI v2] t0 none t1 :=
  Mt_of (x := (r, t1)) (g_X0_build ids Hn h v1 v2 Hh t0) hf (by decide) rfl Hn (fun _ => rfl) (fun _ => Nat.le_of_ble_eq_true rfl)
theorem dX6_copy_0 : decode cX6_copy 0 = .ok (.aload_n 0, 1) := by decide +kernel
theorem dX6_copy_1 : decode cX6_copy 1 = .ok (.iconst 0, 1) := by decide +kernel
theorem dX6_copy_2 : decode cX6_copy 2 = .ok (.aload_n 1, 1) := by decide +kernel
theorem dX6_copy_3 : decode cX6_copy 3 = .ok (.iconst 0, 1) := by decide +kernel
theorem dX6_copy_4 : decode cX6_copy 4 = .ok (.aload_n 0, 1) := by decide +kernel
theorem dX6_copy_5 : decode cX6_copy 5 = .ok (.arraylength, 1) := by decide +kernel
theorem dX6_copy_6 : decode cX6_copy 6 = .ok (.aload_n 1, 1) := by decide +kernel
theorem dX6_copy_7 : decode cX6_copy 7 = .ok (.arraylength, 1) := by decide +kernel
theorem dX6_copy_8 : decode cX6_copy 8 = .ok (.invokestatic 47, 3) := by decide +kernel
theorem dX6_copy_11 : decode cX6_copy 11 = .ok (.invokestatic 53, 3) := by decide +kernel
theorem dX6_copy_14 : decode cX6_copy 14 = .ok (.return_, 1) := by decide +kernel
set_option maxRecDepth 100000 in
set_option maxHeartbeats 4000000 in
theorem g_X6_copy (ids : List (Nat × Nat)) (Hn : Ndp ids) (i0 : Nat × Nat) (i1 : Nat × Nat) (Ki0 : i0 ∈ ids) (Ni0 : ly_len i0.2 = some (alen i0)) (Ki1 : i1 ∈ ids) (Ni1 : ly_len i1.2 = some (alen i1)) (t0 : Sg) : Gj kV mX6_copy ids 0 [some (aR i0), some (aR i1)] [] t0 (f_X6_copy i0 i1 t0) := by
  unfold f_X6_copy
  refine G_st (x_aload_n dX6_copy_0 rfl) ?_
  refine G_st (x_iconst (0 : Int32) dX6_copy_1 rfl) ?_
  refine G_st (x_aload_n dX6_copy_2 rfl) ?_
  refine G_st (x_iconst (0 : Int32) dX6_copy_3 rfl) ?_
  refine G_st (x_aload_n dX6_copy_4 rfl) ?_
  refine G_st (x_alen (v := (Int32.ofNat (alen i0))) dX6_copy_5 Ki0 Ni0 rfl) ?_
  refine G_st (x_aload_n dX6_copy_6 rfl) ?_
  refine G_st (x_alen (v := (Int32.ofNat (alen i1))) dX6_copy_7 Ki1 Ni1 rfl) ?_
  refine G_st (x_mmin dX6_copy_8 tw_443 tw_444 tw_74 tw_445 ⟨Nat.le_of_ble_eq_true rfl, Nat.le_of_ble_eq_true rfl⟩ (Nat.le_of_ble_eq_true rfl)) ?_
  refine G_chk (fun c1 => ?_)
  refine G_st (x_copy dX6_copy_11 tw_446 tw_448 tw_447 tw_75 Ki0 Ki1 Ni0 Ni1 (by decide) (by decide) c1.1 (cp_le c1.2.1) (cp_le c1.2.2) ⟨Nat.le_of_ble_eq_true rfl, Nat.le_of_ble_eq_true rfl⟩ (Nat.le_of_ble_eq_true rfl)) ?_
  refine G_bvS (fun t2 => ?_)
  exact G_ret rfl ⟨rfl, dX6_copy_14⟩ rfl
set_option maxRecDepth 100000 in
set_option maxHeartbeats 4000000 in
theorem c_X6_copy (ids : List (Nat × Nat)) (Hn : Ndp ids) (i0 : Nat × Nat) (i1 : Nat × Nat) (Ki0 : i0 ∈ ids) (Ni0 : ly_len i0.2 = some (alen i0)) (Ki1 : i1 ∈ ids) (Ni1 : ly_len i1.2 = some (alen i1)) (t0 : Sg) (r : Unit) (t1 : Sg) (hf : f_X6_copy i0 i1 t0 = some (r, t1)) : Mt0 mX6_copy yX6_copy ids [aR i0, aR i1] t0 none t1 :=
  Mt_of (x := (r, t1)) (g_X6_copy ids Hn i0 i1 Ki0 Ni0 Ki1 Ni1 t0) hf (by decide) rfl Hn (fun _ => rfl) (fun _ => Nat.le_of_ble_eq_true rfl)
theorem dX0_copyFrom_0 : decode cX0_copyFrom 0 = .ok (.aload_n 0, 1) := by decide +kernel
theorem dX0_copyFrom_1 : decode cX0_copyFrom 1 = .ok (.aload_n 1, 1) := by decide +kernel
theorem dX0_copyFrom_2 : decode cX0_copyFrom 2 = .ok (.getfield 37, 3) := by decide +kernel
theorem dX0_copyFrom_5 : decode cX0_copyFrom 5 = .ok (.putfield 37, 3) := by decide +kernel
theorem dX0_copyFrom_8 : decode cX0_copyFrom 8 = .ok (.aload_n 0, 1) := by decide +kernel
theorem dX0_copyFrom_9 : decode cX0_copyFrom 9 = .ok (.aload_n 1, 1) := by decide +kernel
theorem dX0_copyFrom_10 : decode cX0_copyFrom 10 = .ok (.getfield 41, 3) := by decide +kernel
theorem dX0_copyFrom_13 : decode cX0_copyFrom 13 = .ok (.putfield 41, 3) := by decide +kernel
theorem dX0_copyFrom_16 : decode cX0_copyFrom 16 = .ok (.aload_n 0, 1) := by decide +kernel
theorem dX0_copyFrom_17 : decode cX0_copyFrom 17 = .ok (.aload_n 1, 1) := by decide +kernel
theorem dX0_copyFrom_18 : decode cX0_copyFrom 18 = .ok (.getfield 53, 3) := by decide +kernel
theorem dX0_copyFrom_21 : decode cX0_copyFrom 21 = .ok (.putfield 53, 3) := by decide +kernel
theorem dX0_copyFrom_24 : decode cX0_copyFrom 24 = .ok (.aload_n 1, 1) := by decide +kernel
theorem dX0_copyFrom_25 : decode cX0_copyFrom 25 = .ok (.getfield 9, 3) := by decide +kernel
theorem dX0_copyFrom_28 : decode cX0_copyFrom 28 = .ok (.aload_n 0, 1) := by decide +kernel
theorem dX0_copyFrom_29 : decode cX0_copyFrom 29 = .ok (.getfield 9, 3) := by decide +kernel
theorem dX0_copyFrom_32 : decode cX0_copyFrom 32 = .ok (.invokestatic 56, 3) := by decide +kernel
theorem dX0_copyFrom_35 : decode cX0_copyFrom 35 = .ok (.aload_n 1, 1) := by decide +kernel
theorem dX0_copyFrom_36 : decode cX0_copyFrom 36 = .ok (.getfield 15, 3) := by decide +kernel
theorem dX0_copyFrom_39 : decode cX0_copyFrom 39 = .ok (.aload_n 0, 1) := by decide +kernel
theorem dX0_copyFrom_40 : decode cX0_copyFrom 40 = .ok (.getfield 15, 3) := by decide +kernel
theorem dX0_copyFrom_43 : decode cX0_copyFrom 43 = .ok (.invokestatic 56, 3) := by decide +kernel
theorem dX0_copyFrom_46 : decode cX0_copyFrom 46 = .ok (.aload_n 1, 1) := by decide +kernel
theorem dX0_copyFrom_47 : decode cX0_copyFrom 47 = .ok (.getfield 18, 3) := by decide +kernel
theorem dX0_copyFrom_50 : decode cX0_copyFrom 50 = .ok (.aload_n 0, 1) := by decide +kernel
theorem dX0_copyFrom_51 : decode cX0_copyFrom 51 = .ok (.getfield 18, 3) := by decide +kernel
theorem dX0_copyFrom_54 : decode cX0_copyFrom 54 = .ok (.invokestatic 56, 3) := by decide +kernel
theorem dX0_copyFrom_57 : decode cX0_copyFrom 57 = .ok (.aload_n 1, 1) := by decide +kernel
theorem dX0_copyFrom_58 : decode cX0_copyFrom 58 = .ok (.getfield 21, 3) := by decide +kernel
theorem dX0_copyFrom_61 : decode cX0_copyFrom 61 = .ok (.aload_n 0, 1) := by decide +kernel
theorem dX0_copyFrom_62 : decode cX0_copyFrom 62 = .ok (.getfield 21, 3) := by decide +kernel
theorem dX0_copyFrom_65 : decode cX0_copyFrom 65 = .ok (.invokestatic 56, 3) := by decide +kernel
theorem dX0_copyFrom_68 : decode cX0_copyFrom 68 = .ok (.aload_n 1, 1) := by decide +kernel
theorem dX0_copyFrom_69 : decode cX0_copyFrom 69 = .ok (.getfield 24, 3) := by decide +kernel
theorem dX0_copyFrom_72 : decode cX0_copyFrom 72 = .ok (.aload_n 0, 1) := by decide +kernel
theorem dX0_copyFrom_73 : decode cX0_copyFrom 73 = .ok (.getfield 24, 3) := by decide +kernel
theorem dX0_copyFrom_76 : decode cX0_copyFrom 76 = .ok (.invokestatic 56, 3) := by decide +kernel
theorem dX0_copyFrom_79 : decode cX0_copyFrom 79 = .ok (.aload_n 1, 1) := by decide +kernel
theorem dX0_copyFrom_80 : decode cX0_copyFrom 80 = .ok (.getfield 27, 3) := by decide +kernel
theorem dX0_copyFrom_83 : decode cX0_copyFrom 83 = .ok (.aload_n 0, 1) := by decide +kernel
theorem dX0_copyFrom_84 : decode cX0_copyFrom 84 = .ok (.getfield 27, 3) := by decide +kernel
theorem dX0_copyFrom_87 : decode cX0_copyFrom 87 = .ok (.invokestatic 56, 3) := by decide +kernel
theorem dX0_copyFrom_90 : decode cX0_copyFrom 90 = .ok (.aload_n 1, 1) := by decide +kernel
theorem dX0_copyFrom_91 : decode cX0_copyFrom 91 = .ok (.getfield 30, 3) := by decide +kernel
theorem dX0_copyFrom_94 : decode cX0_copyFrom 94 = .ok (.aload_n 0, 1) := by decide +kernel
theorem dX0_copyFrom_95 : decode cX0_copyFrom 95 = .ok (.getfield 30, 3) := by decide +kernel
theorem dX0_copyFrom_98 : decode cX0_copyFrom 98 = .ok (.invokestatic 56, 3) := by decide +kernel
theorem dX0_copyFrom_101 : decode cX0_copyFrom 101 = .ok (.return_, 1) := by decide +kernel
set_option maxRecDepth 100000 in
set_option maxHeartbeats 4000000 in
theorem g_X0_copyFrom (ids : List (Nat × Nat)) (Hn : Ndp ids) (h : Nat) (g : Nat) (Hh : InR ids h 7 14) (Hg : InR ids g 7 14) (t0 : Sg) : Gj kV mX0_copyFrom ids 0 [some (aR (h, 7)), some (aR (g, 7))] [] t0 (f_X0_copyFrom h g t0) := by
  unfold f_X0_copyFrom
  refine G_st (x_aload_n dX0_copyFrom_0 rfl) ?_
  refine G_st (x_aload_n dX0_copyFrom_1 rfl) ?_
  refine G_st (x_get (k := 0) (aI (t0 (g, 7) 0)) dX0_copyFrom_2 (Hg 7 (Nat.le_of_ble_eq_true rfl) (Nat.le_of_ble_eq_true rfl)) rfl rfl rfl rfl inTX0 (Nat.le_of_ble_eq_true rfl) tw_110 (fun ad => rfl)) ?_
  refine G_st (x_put (k := 0) (ty := .int) (v := aI (t0 (g, 7) 0)) (z := (t0 (g, 7) 0)) (upS t0 (h, 7) 0 (t0 (g, 7) 0)) dX0_copyFrom_5 (Hh 7 (Nat.le_of_ble_eq_true rfl) (Nat.le_of_ble_eq_true rfl)) rfl rfl rfl rfl inTX0 tyX0_ok nmX0 (Nat.le_of_ble_eq_true rfl) tw_110 rfl rfl (fun ad => rfl) (fun ad => rfl) (fun ad => put_i0 ad _ _ _ _ rfl) rfl) ?_
  refine G_bvS (fun t1 => ?_)
  refine G_st (x_aload_n dX0_copyFrom_8 rfl) ?_
  refine G_st (x_aload_n dX0_copyFrom_9 rfl) ?_
  refine G_st (x_get (k := 1) (aI (t1 (g, 7) 1)) dX0_copyFrom_10 (Hg 7 (Nat.le_of_ble_eq_true rfl) (Nat.le_of_ble_eq_true rfl)) rfl rfl rfl rfl inTX0 (Nat.le_of_ble_eq_true rfl) tw_112 (fun ad => rfl)) ?_
  refine G_st (x_put (k := 1) (ty := .int) (v := aI (t1 (g, 7) 1)) (z := (t1 (g, 7) 1)) (upS t1 (h, 7) 1 (t1 (g, 7) 1)) dX0_copyFrom_13 (Hh 7 (Nat.le_of_ble_eq_true rfl) (Nat.le_of_ble_eq_true rfl)) rfl rfl rfl rfl inTX0 tyX0_ok nmX0 (Nat.le_of_ble_eq_true rfl) tw_112 rfl rfl (fun ad => rfl) (fun ad => rfl) (fun ad => put_i0 ad _ _ _ _ rfl) rfl) ?_
  refine G_bvS (fun t2 => ?_)
  refine G_st (x_aload_n dX0_copyFrom_16 rfl) ?_
  refine G_st (x_aload_n dX0_copyFrom_17 rfl) ?_
  refine G_st (x_get (k := 2) (aI (t2 (g, 7) 2)) dX0_copyFrom_18 (Hg 7 (Nat.le_of_ble_eq_true rfl) (Nat.le_of_ble_eq_true rfl)) rfl rfl rfl rfl inTX0 (Nat.le_of_ble_eq_true rfl) tw_114 (fun ad => rfl)) ?_
  refine G_st (x_put (k := 2) (ty := .int) (v := aI (t2 (g, 7) 2)) (z := (t2 (g, 7) 2)) (upS t2 (h, 7) 2 (t2 (g, 7) 2)) dX0_copyFrom_21 (Hh 7 (Nat.le_of_ble_eq_true rfl) (Nat.le_of_ble_eq_true rfl)) rfl rfl rfl rfl inTX0 tyX0_ok nmX0 (Nat.le_of_ble_eq_true rfl) tw_114 rfl rfl (fun ad => rfl) (fun ad => rfl) (fun ad => put_i0 ad _ _ _ _ rfl) rfl) ?_
  refine G_bvS (fun t3 => ?_)
  refine G_st (x_aload_n dX0_copyFrom_24 rfl) ?_
  refine G_st (x_get (k := 3) (aR (g, 8)) dX0_copyFrom_25 (Hg 7 (Nat.le_of_ble_eq_true rfl) (Nat.le_of_ble_eq_true rfl)) rfl rfl rfl rfl inTX0 (Nat.le_of_ble_eq_true rfl) tw_118 (fun ad => rfl)) ?_
  refine G_st (x_aload_n dX0_copyFrom_28 rfl) ?_
  refine G_st (x_get (k := 3) (aR (h, 8)) dX0_copyFrom_29 (Hh 7 (Nat.le_of_ble_eq_true rfl) (Nat.le_of_ble_eq_true rfl)) rfl rfl rfl rfl inTX0 (Nat.le_of_ble_eq_true rfl) tw_118 (fun ad => rfl)) ?_
  refine G_bd (fun _ t5 h6 => ?_)
  refine G_st (x_callN [] (c_X6_copy ids Hn (g, 8) (h, 8) (Hg 8 (Nat.le_of_ble_eq_true rfl) (Nat.le_of_ble_eq_true rfl)) rfl (Hh 8 (Nat.le_of_ble_eq_true rfl) (Nat.le_of_ble_eq_true rfl)) rfl _ _ _ h6) dX0_copyFrom_32 (List.mem_of_getElem? (i := 10) rfl) kc_X6_copy rfl ⟨Nat.le_of_ble_eq_true rfl, Nat.le_of_ble_eq_true rfl⟩ (Nat.le_of_ble_eq_true rfl) rfl) ?_
  refine G_st (x_aload_n dX0_copyFrom_35 rfl) ?_
  refine G_st (x_get (k := 4) (aR (g, 9)) dX0_copyFrom_36 (Hg 7 (Nat.le_of_ble_eq_true rfl) (Nat.le_of_ble_eq_true rfl)) rfl rfl rfl rfl inTX0 (Nat.le_of_ble_eq_true rfl) tw_121 (fun ad => rfl)) ?_
  refine G_st (x_aload_n dX0_copyFrom_39 rfl) ?_
  refine G_st (x_get (k := 4) (aR (h, 9)) dX0_copyFrom_40 (Hh 7 (Nat.le_of_ble_eq_true rfl) (Nat.le_of_ble_eq_true rfl)) rfl rfl rfl rfl inTX0 (Nat.le_of_ble_eq_true rfl) tw_121 (fun ad => rfl)) ?_
  refine G_bd (fun _ t8 h9 => ?_)
  refine G_st (x_callN [] (c_X6_copy ids Hn (g, 9) (h, 9) (Hg 9 (Nat.le_of_ble_eq_true rfl) (Nat.le_of_ble_eq_true rfl)) rfl (Hh 9 (Nat.le_of_ble_eq_true rfl) (Nat.le_of_ble_eq_true rfl)) rfl _ _ _ h9) dX0_copyFrom_43 (List.mem_of_getElem? (i := 10) rfl) kc_X6_copy rfl ⟨Nat.le_of_ble_eq_true rfl, Nat.le_of_ble_eq_true rfl⟩ (Nat.le_of_ble_eq_true rfl) rfl) ?_
  refine G_st (x_aload_n dX0_copyFrom_46 rfl) ?_
  refine G_st (x_get (k := 5) (aR (g, 10)) dX0_copyFrom_47 (Hg 7 (Nat.le_of_ble_eq_true rfl) (Nat.le_of_ble_eq_true rfl)) rfl rfl rfl rfl inTX0 (Nat.le_of_ble_eq_true rfl) tw_125 (fun ad => rfl)) ?_
  refine G_st (x_aload_n dX0_copyFrom_50 rfl) ?_
  refine G_st (x_get (k := 5) (aR (h, 10)) dX0_copyFrom_51 (Hh 7 (Nat.le_of_ble_eq_true rfl) (Nat.le_of_ble_eq_true rfl)) rfl rfl rfl rfl inTX0 (Nat.le_of_ble_eq_true rfl) tw_125 (fun ad => rfl)) ?_
  refine G_bd (fun _ t11 h12 => ?_)
  refine G_st (x_callN [] (c_X6_copy ids Hn (g, 10) (h, 10) (Hg 10 (Nat.le_of_ble_eq_true rfl) (Nat.le_of_ble_eq_true rfl)) rfl (Hh 10 (Nat.le_of_ble_eq_true rfl) (Nat.le_of_ble_eq_true rfl)) rfl _ _ _ h12) dX0_copyFrom_54 (List.mem_of_getElem? (i := 10) rfl) kc_X6_copy rfl ⟨Nat.le_of_ble_eq_true rfl, Nat.le_of_ble_eq_true rfl⟩ (Nat.le_of_ble_eq_true rfl) rfl) ?_
  refine G_st (x_aload_n dX0_copyFrom_57 rfl) ?_
  refine G_st (x_get (k := 6) (aR (g, 11)) dX0_copyFrom_58 (Hg 7 (Nat.le_of_ble_eq_true rfl) (Nat.le_of_ble_eq_true rfl)) rfl rfl rfl rfl inTX0 (Nat.le_of_ble_eq_true rfl) tw_129 (fun ad => rfl)) ?_
  refine G_st (x_aload_n dX0_copyFrom_61 rfl) ?_
  refine G_st (x_get (k := 6) (aR (h, 11)) dX0_copyFrom_62 (Hh 7 (Nat.le_of_ble_eq_true rfl) (Nat.le_of_ble_eq_true rfl)) rfl rfl rfl rfl inTX0 (Nat.le_of_ble_eq_true rfl) tw_129 (fun ad => rfl)) ?_
  refine G_bd (fun _ t14 h15 => ?_)
  refine G_st (x_callN [] (c_X6_copy ids Hn (g, 11) (h, 11) (Hg 11 (Nat.le_of_ble_eq_true rfl) (Nat.le_of_ble_eq_true rfl)) rfl (Hh 11 (Nat.le_of_ble_eq_true rfl) (Nat.le_of_ble_eq_true rfl)) rfl _ _ _ h15) dX0_copyFrom_65 (List.mem_of_getElem? (i := 10) rfl) kc_X6_copy rfl ⟨Nat.le_of_ble_eq_true rfl, Nat.le_of_ble_eq_true rfl⟩ (Nat.le_of_ble_eq_true rfl) rfl) ?_
  refine G_st (x_aload_n dX0_copyFrom_68 rfl) ?_
  refine G_st (x_get (k := 7) (aR (g, 12)) dX0_copyFrom_69 (Hg 7 (Nat.le_of_ble_eq_true rfl) (Nat.le_of_ble_eq_true rfl)) rfl rfl rfl rfl inTX0 (Nat.le_of_ble_eq_true rfl) tw_132 (fun ad => rfl)) ?_
  refine G_st (x_aload_n dX0_copyFrom_72 rfl) ?_
  refine G_st (x_get (k := 7) (aR (h, 12)) dX0_copyFrom_73 (Hh 7 (Nat.le_of_ble_eq_true rfl) (Nat.le_of_ble_eq_true rfl)) rfl rfl rfl rfl inTX0 (Nat.le_of_ble_eq_true rfl) tw_132 (fun ad => rfl)) ?_
  refine G_bd (fun _ t17 h18 => ?_)
  refine G_st (x_callN [] (c_X6_copy ids Hn (g, 12) (h, 12) (Hg 12 (Nat.le_of_ble_eq_true rfl) (Nat.le_of_ble_eq_true rfl)) rfl (Hh 12 (Nat.le_of_ble_eq_true rfl) (Nat.le_of_ble_eq_true rfl)) rfl _ _ _ h18) dX0_copyFrom_76 (List.mem_of_getElem? (i := 10) rfl) kc_X6_copy rfl ⟨Nat.le_of_ble_eq_true rfl, Nat.le_of_ble_eq_true rfl⟩ (Nat.le_of_ble_eq_true rfl) rfl) ?_
  refine G_st (x_aload_n dX0_copyFrom_79 rfl) ?_
  refine G_st (x_get (k := 8) (aR (g, 13)) dX0_copyFrom_80 (Hg 7 (Nat.le_of_ble_eq_true rfl) (Nat.le_of_ble_eq_true rfl)) rfl rfl rfl rfl inTX0 (Nat.le_of_ble_eq_true rfl) tw_135 (fun ad => rfl)) ?_
  refine G_st (x_aload_n dX0_copyFrom_83 rfl) ?_
  refine G_st (x_get (k := 8) (aR (h, 13)) dX0_copyFrom_84 (Hh 7 (Nat.le_of_ble_eq_true rfl) (Nat.le_of_ble_eq_true rfl)) rfl rfl rfl rfl inTX0 (Nat.le_of_ble_eq_true rfl) tw_135 (fun ad => rfl)) ?_
  refine G_bd (fun _ t20 h21 => ?_)
  refine G_st (x_callN [] (c_X6_copy ids Hn (g, 13) (h, 13) (Hg 13 (Nat.le_of_ble_eq_true rfl) (Nat.le_of_ble_eq_true rfl)) rfl (Hh 13 (Nat.le_of_ble_eq_true rfl) (Nat.le_of_ble_eq_true rfl)) rfl _ _ _ h21) dX0_copyFrom_87 (List.mem_of_getElem? (i := 10) rfl) kc_X6_copy rfl ⟨Nat.le_of_ble_eq_true rfl, Nat.le_of_ble_eq_true rfl⟩ (Nat.le_of_ble_eq_true rfl) rfl) ?_
  refine G_st (x_aload_n dX0_copyFrom_90 rfl) ?_
  refine G_st (x_get (k := 9) (aR (g, 14)) dX0_copyFrom_91 (Hg 7 (Nat.le_of_ble_eq_true rfl) (Nat.le_of_ble_eq_true rfl)) rfl rfl rfl rfl inTX0 (Nat.le_of_ble_eq_true rfl) tw_138 (fun ad => rfl)) ?_
  refine G_st (x_aload_n dX0_copyFrom_94 rfl) ?_
  refine G_st (x_get (k := 9) (aR (h, 14)) dX0_copyFrom_95 (Hh 7 (Nat.le_of_ble_eq_true rfl) (Nat.le_of_ble_eq_true rfl)) rfl rfl rfl rfl inTX0 (Nat.le_of_ble_eq_true rfl) tw_138 (fun ad => rfl)) ?_
  refine G_bd (fun _ t23 h24 => ?_)
  refine G_st (x_callN [] (c_X6_copy ids Hn (g, 14) (h, 14) (Hg 14 (Nat.le_of_ble_eq_true rfl) (Nat.le_of_ble_eq_true rfl)) rfl (Hh 14 (Nat.le_of_ble_eq_true rfl) (Nat.le_of_ble_eq_true rfl)) rfl _ _ _ h24) dX0_copyFrom_98 (List.mem_of_getElem? (i := 10) rfl) kc_X6_copy rfl ⟨Nat.le_of_ble_eq_true rfl, Nat.le_of_ble_eq_true rfl⟩ (Nat.le_of_ble_eq_true rfl) rfl) ?_
  exact G_ret rfl ⟨rfl, dX0_copyFrom_101⟩ rfl
set_option maxRecDepth 100000 in
set_option maxHeartbeats 4000000 in
theorem c_X0_copyFrom (ids : List (Nat × Nat)) (Hn : Ndp ids) (h : Nat) (g : Nat) (Hh : InR ids h 7 14) (Hg : InR ids g 7 14) (t0 : Sg) (r : Unit) (t1 : Sg) (hf : f_X0_copyFrom h g t0 = some (r, t1)) : Mt0 mX0_copyFrom yX0_copyFrom ids [aR (h, 7), aR (g, 7)] t0 none t1 :=
  Mt_of (x := (r, t1)) (g_X0_copyFrom ids Hn h g Hh Hg t0) hf (by decide) rfl Hn (fun _ => rfl) (fun _ => Nat.le_of_ble_eq_true rfl)
theorem dX0_tenants_0 : decode cX0_tenants 0 = .ok (.aload_n 0, 1) := by decide +kernel
theorem dX0_tenants_1 : decode cX0_tenants 1 = .ok (.getfield 37, 3) := by decide +kernel
theorem dX0_tenants_4 : decode cX0_tenants 4 = .ok (.aload_n 0, 1) := by decide +kernel
theorem dX0_tenants_5 : decode cX0_tenants 5 = .ok (.getfield 41, 3) := by decide +kernel
theorem dX0_tenants_8 : decode cX0_tenants 8 = .ok (.imul, 1) := by decide +kernel
theorem dX0_tenants_9 : decode cX0_tenants 9 = .ok (.ireturn, 1) := by decide +kernel
set_option maxRecDepth 100000 in
set_option maxHeartbeats 4000000 in
theorem g_X0_tenants (ids : List (Nat × Nat)) (Hn : Ndp ids) (h : Nat) (Hh : InR ids h 7 14) (t0 : Sg) : Gj kI mX0_tenants ids 0 [some (aR (h, 7))] [] t0 (f_X0_tenants h t0) := by
  unfold f_X0_tenants
  refine G_st (x_aload_n dX0_tenants_0 rfl) ?_
  refine G_st (x_get (k := 0) (aI (t0 (h, 7) 0)) dX0_tenants_1 (Hh 7 (Nat.le_of_ble_eq_true rfl) (Nat.le_of_ble_eq_true rfl)) rfl rfl rfl rfl inTX0 (Nat.le_of_ble_eq_true rfl) tw_110 (fun ad => rfl)) ?_
  refine G_st (x_aload_n dX0_tenants_4 rfl) ?_
  refine G_st (x_get (k := 1) (aI (t0 (h, 7) 1)) dX0_tenants_5 (Hh 7 (Nat.le_of_ble_eq_true rfl) (Nat.le_of_ble_eq_true rfl)) rfl rfl rfl rfl inTX0 (Nat.le_of_ble_eq_true rfl) tw_112 (fun ad => rfl)) ?_
  refine G_st (x_imul dX0_tenants_8) ?_
  exact G_ret rfl ⟨dX0_tenants_9, _, rfl, rfl⟩ rfl
set_option maxRecDepth 100000 in
set_option maxHeartbeats 4000000 in
theorem c_X0_tenants (ids : List (Nat × Nat)) (Hn : Ndp ids) (h : Nat) (Hh : InR ids h 7 14) (t0 : Sg) (r : Int32) (t1 : Sg) (hf : f_X0_tenants h t0 = some (r, t1)) : Mt0 mX0_tenants yX0_tenants ids [aR (h, 7)] t0 (some (aI r)) t1 :=
  Mt_of (x := (r, t1)) (g_X0_tenants ids Hn h Hh t0) hf (by decide) rfl Hn (fun _ => rfl) (fun _ => Nat.le_of_ble_eq_true rfl)
theorem dX0_place_0 : decode cX0_place 0 = .ok (.iload_n 1, 1) := by decide +kernel
theorem dX0_place_1 : decode cX0_place 1 = .ok (.ifCond .lt 27, 3) := by decide +kernel
theorem dX0_place_4 : decode cX0_place 4 = .ok (.iload_n 1, 1) := by decide +kernel
theorem dX0_place_5 : decode cX0_place 5 = .ok (.aload_n 0, 1) := by decide +kernel
theorem dX0_place_6 : decode cX0_place 6 = .ok (.getfield 37, 3) := by decide +kernel
theorem dX0_place_9 : decode cX0_place 9 = .ok (.if_icmp .ge 19, 3) := by decide +kernel
theorem dX0_place_12 : decode cX0_place 12 = .ok (.iload_n 2, 1) := by decide +kernel
theorem dX0_place_13 : decode cX0_place 13 = .ok (.ifCond .lt 15, 3) := by decide +kernel
theorem dX0_place_16 : decode cX0_place 16 = .ok (.iload_n 2, 1) := by decide +kernel
theorem dX0_place_17 : decode cX0_place 17 = .ok (.aload_n 0, 1) := by decide +kernel
theorem dX0_place_18 : decode cX0_place 18 = .ok (.getfield 41, 3) := by decide +kernel
theorem dX0_place_21 : decode cX0_place 21 = .ok (.if_icmp .ge 7, 3) := by decide +kernel
theorem dX0_place_24 : decode cX0_place 24 = .ok (.iconst 1, 1) := by decide +kernel
theorem dX0_place_25 : decode cX0_place 25 = .ok (.goto 4, 3) := by decide +kernel
theorem dX0_place_28 : decode cX0_place 28 = .ok (.iconst 0, 1) := by decide +kernel
theorem dX0_place_29 : decode cX0_place 29 = .ok (.istore_n 3, 1) := by decide +kernel
theorem dX0_place_30 : decode cX0_place 30 = .ok (.iload_n 3, 1) := by decide +kernel
theorem dX0_place_31 : decode cX0_place 31 = .ok (.ifCond .eq 11, 3) := by decide +kernel
theorem dX0_place_34 : decode cX0_place 34 = .ok (.iload_n 1, 1) := by decide +kernel
theorem dX0_place_35 : decode cX0_place 35 = .ok (.iconst 4, 1) := by decide +kernel
theorem dX0_place_36 : decode cX0_place 36 = .ok (.imul, 1) := by decide +kernel
theorem dX0_place_37 : decode cX0_place 37 = .ok (.iload_n 2, 1) := by decide +kernel
theorem dX0_place_38 : decode cX0_place 38 = .ok (.iadd, 1) := by decide +kernel
theorem dX0_place_39 : decode cX0_place 39 = .ok (.goto 4, 3) := by decide +kernel
theorem dX0_place_42 : decode cX0_place 42 = .ok (.iconst (-1), 1) := by decide +kernel
theorem dX0_place_43 : decode cX0_place 43 = .ok (.ireturn, 1) := by decide +kernel
set_option maxRecDepth 100000 in
set_option maxHeartbeats 4000000 in
theorem g_X0_place (ids : List (Nat × Nat)) (Hn : Ndp ids) (h : Nat) (v1 : Int32) (v2 : Int32) (Hh : InR ids h 7 14) (t0 : Sg) : Gj kI mX0_place ids 0 [some (aR (h, 7)), some (aI v1), some (aI v2), none] [] t0 (f_X0_place h v1 v2 t0) := by
  unfold f_X0_place
  refine G_st (x_iload_n dX0_place_0 rfl) ?_
  have e5 : Tj mX0_place ids 1 [some (aR (h, 7)), some (aI v1), some (aI v2), none] [aI v1] t0 29 [some (aR (h, 7)), some (aI v1), some (aI v2), none] [aI (if v1 < 0 then (0 : Int32) else (if (t0 (h, 7) 0) ≤ v1 then (0 : Int32) else (if v2 < 0 then (0 : Int32) else (if (t0 (h, 7) 1) ≤ v2 then (0 : Int32) else (1 : Int32)))))] t0 := by
    refine Tj.dia (fun c1 => ?_) (fun c1 => ?_)
    · refine Tj.tr (x_if_lt_t (tgt := 28) dX0_place_1 (by decide) c1) ?_
      refine Tj.tr (x_iconst (0 : Int32) dX0_place_28 rfl) ?_
      exact Tj.rf
    · refine Tj.tr (x_if_lt_f 28 dX0_place_1 (by decide) c1) ?_
      refine Tj.tr (x_iload_n dX0_place_4 rfl) ?_
      refine Tj.tr (x_aload_n dX0_place_5 rfl) ?_
      refine Tj.tr (x_get (k := 0) (aI (t0 (h, 7) 0)) dX0_place_6 (Hh 7 (Nat.le_of_ble_eq_true rfl) (Nat.le_of_ble_eq_true rfl)) rfl rfl rfl rfl inTX0 (Nat.le_of_ble_eq_true rfl) tw_110 (fun ad => rfl)) ?_
      refine Tj.dia (fun c2 => ?_) (fun c2 => ?_)
      · refine Tj.tr (x_icmp_ge_t (tgt := 28) dX0_place_9 (by decide) c2) ?_
        refine Tj.tr (x_iconst (0 : Int32) dX0_place_28 rfl) ?_
        exact Tj.rf
      · refine Tj.tr (x_icmp_ge_f 28 dX0_place_9 (by decide) c2) ?_
        refine Tj.tr (x_iload_n dX0_place_12 rfl) ?_
        refine Tj.dia (fun c3 => ?_) (fun c3 => ?_)
        · refine Tj.tr (x_if_lt_t (tgt := 28) dX0_place_13 (by decide) c3) ?_
          refine Tj.tr (x_iconst (0 : Int32) dX0_place_28 rfl) ?_
          exact Tj.rf
        · refine Tj.tr (x_if_lt_f 28 dX0_place_13 (by decide) c3) ?_
          refine Tj.tr (x_iload_n dX0_place_16 rfl) ?_
          refine Tj.tr (x_aload_n dX0_place_17 rfl) ?_
          refine Tj.tr (x_get (k := 1) (aI (t0 (h, 7) 1)) dX0_place_18 (Hh 7 (Nat.le_of_ble_eq_true rfl) (Nat.le_of_ble_eq_true rfl)) rfl rfl rfl rfl inTX0 (Nat.le_of_ble_eq_true rfl) tw_112 (fun ad => rfl)) ?_
          refine Tj.dia (fun c4 => ?_) (fun c4 => ?_)
          · refine Tj.tr (x_icmp_ge_t (tgt := 28) dX0_place_21 (by decide) c4) ?_
            refine Tj.tr (x_iconst (0 : Int32) dX0_place_28 rfl) ?_
            exact Tj.rf
          · refine Tj.tr (x_icmp_ge_f 28 dX0_place_21 (by decide) c4) ?_
            refine Tj.tr (x_iconst (1 : Int32) dX0_place_24 rfl) ?_
            refine Tj.tr (x_goto (tgt := 29) dX0_place_25 (by decide)) ?_
            exact Tj.rf
  refine G_st e5 ?_
  refine G_bvI (fun x6 => ?_)
  refine G_st (x_istore_n [some (aR (h, 7)), some (aI v1), some (aI v2), some (aI x6)] dX0_place_29 (Nat.le_of_ble_eq_true rfl) rfl rfl) ?_
  refine G_st (x_iload_n dX0_place_30 rfl) ?_
  have e8 : Tj mX0_place ids 31 [some (aR (h, 7)), some (aI v1), some (aI v2), some (aI x6)] [aI x6] t0 43 [some (aR (h, 7)), some (aI v1), some (aI v2), some (aI x6)] [aI (if x6 = 0 then (-1 : Int32) else ((v1 * (4 : Int32)) + v2))] t0 := by
    refine Tj.dia (fun c7 => ?_) (fun c7 => ?_)
    · refine Tj.tr (x_if_eq_t (tgt := 42) dX0_place_31 (by decide) c7) ?_
      refine Tj.tr (x_iconst (-1 : Int32) dX0_place_42 rfl) ?_
      exact Tj.rf
    · refine Tj.tr (x_if_eq_f 42 dX0_place_31 (by decide) c7) ?_
      refine Tj.tr (x_iload_n dX0_place_34 rfl) ?_
      refine Tj.tr (x_iconst (4 : Int32) dX0_place_35 rfl) ?_
      refine Tj.tr (x_imul dX0_place_36) ?_
      refine Tj.tr (x_iload_n dX0_place_37 rfl) ?_
      refine Tj.tr (x_iadd dX0_place_38) ?_
      refine Tj.tr (x_goto (tgt := 43) dX0_place_39 (by decide)) ?_
      exact Tj.rf
  refine G_st e8 ?_
  exact G_ret rfl ⟨dX0_place_43, _, rfl, rfl⟩ rfl
set_option maxRecDepth 100000 in
set_option maxHeartbeats 4000000 in
theorem c_X0_place (ids : List (Nat × Nat)) (Hn : Ndp ids) (h : Nat) (v1 : Int32) (v2 : Int32) (Hh : InR ids h 7 14) (t0 : Sg) (r : Int32) (t1 : Sg) (hf : f_X0_place h v1 v2 t0 = some (r, t1)) : Mt0 mX0_place yX0_place ids [aR (h, 7), aI v1, aI v2] t0 (some (aI r)) t1 :=
  Mt_of (x := (r, t1)) (g_X0_place ids Hn h v1 v2 Hh t0) hf (by decide) rfl Hn (fun _ => rfl) (fun _ => Nat.le_of_ble_eq_true rfl)
theorem dX0_placeOf_0 : decode cX0_placeOf 0 = .ok (.iload_n 1, 1) := by decide +kernel
theorem dX0_placeOf_1 : decode cX0_placeOf 1 = .ok (.ifCond .ge 7, 3) := by decide +kernel
theorem dX0_placeOf_4 : decode cX0_placeOf 4 = .ok (.iconst (-1), 1) := by decide +kernel
theorem dX0_placeOf_5 : decode cX0_placeOf 5 = .ok (.goto 15, 3) := by decide +kernel
theorem dX0_placeOf_8 : decode cX0_placeOf 8 = .ok (.aload_n 0, 1) := by decide +kernel
theorem dX0_placeOf_9 : decode cX0_placeOf 9 = .ok (.iload_n 1, 1) := by decide +kernel
theorem dX0_placeOf_10 : decode cX0_placeOf 10 = .ok (.bipush 10, 2) := by decide +kernel
theorem dX0_placeOf_12 : decode cX0_placeOf 12 = .ok (.idiv, 1) := by decide +kernel
theorem dX0_placeOf_13 : decode cX0_placeOf 13 = .ok (.iload_n 1, 1) := by decide +kernel
theorem dX0_placeOf_14 : decode cX0_placeOf 14 = .ok (.bipush 10, 2) := by decide +kernel
theorem dX0_placeOf_16 : decode cX0_placeOf 16 = .ok (.irem, 1) := by decide +kernel
theorem dX0_placeOf_17 : decode cX0_placeOf 17 = .ok (.invokevirtual 60, 3) := by decide +kernel
theorem dX0_placeOf_20 : decode cX0_placeOf 20 = .ok (.ireturn, 1) := by decide +kernel
set_option maxRecDepth 100000 in
set_option maxHeartbeats 4000000 in
theorem g_X0_placeOf (ids : List (Nat × Nat)) (Hn : Ndp ids) (h : Nat) (v1 : Int32) (Hh : InR ids h 7 14) (t0 : Sg) : Gj kI mX0_placeOf ids 0 [some (aR (h, 7)), some (aI v1)] [] t0 (f_X0_placeOf h v1 t0) := by
  unfold f_X0_placeOf
  refine G_st (x_iload_n dX0_placeOf_0 rfl) ?_
  refine G_ite (fun c1 => ?_) (fun c1 => ?_)
  · refine G_st (x_if_ge_t (tgt := 8) dX0_placeOf_1 (by decide) c1) ?_
    refine G_st (x_aload_n dX0_placeOf_8 rfl) ?_
    refine G_st (x_iload_n dX0_placeOf_9 rfl) ?_
    refine G_st (x_bipush (10 : Int32) dX0_placeOf_10 rfl) ?_
    refine G_st (x_idiv dX0_placeOf_12 (by decide)) ?_
    refine G_st (x_iload_n dX0_placeOf_13 rfl) ?_
    refine G_st (x_bipush (10 : Int32) dX0_placeOf_14 rfl) ?_
    refine G_st (x_irem dX0_placeOf_16 (by decide)) ?_
    refine G_bd (fun x2 t3 h4 => ?_)
    refine G_st (x_callV [] (c_X0_place ids Hn h (v1 / (10 : Int32)) (v1 - v1 / (10 : Int32) * (10 : Int32)) Hh _ _ _ h4) dX0_placeOf_17 tw_525 kc_X0_place (Hh 7 (Nat.le_of_ble_eq_true rfl) (Nat.le_of_ble_eq_true rfl)) rfl rfl rfl rfl ⟨Nat.le_of_ble_eq_true rfl, Nat.le_of_ble_eq_true rfl⟩ (Nat.le_of_ble_eq_true rfl) rfl) ?_
    exact G_ret rfl ⟨dX0_placeOf_20, _, rfl, rfl⟩ rfl
  · refine G_st (x_if_ge_f 8 dX0_placeOf_1 (by decide) c1) ?_
    refine G_st (x_iconst (-1 : Int32) dX0_placeOf_4 rfl) ?_
    refine G_st (x_goto (tgt := 20) dX0_placeOf_5 (by decide)) ?_
    exact G_ret rfl ⟨dX0_placeOf_20, _, rfl, rfl⟩ rfl
set_option maxRecDepth 100000 in
set_option maxHeartbeats 4000000 in
theorem c_X0_placeOf (ids : List (Nat × Nat)) (Hn : Ndp ids) (h : Nat) (v1 : Int32) (Hh : InR ids h 7 14) (t0 : Sg) (r : Int32) (t1 : Sg) (hf : f_X0_placeOf h v1 t0 = some (r, t1)) : Mt0 mX0_placeOf yX0_placeOf ids [aR (h, 7), aI v1] t0 (some (aI r)) t1 :=
  Mt_of (x := (r, t1)) (g_X0_placeOf ids Hn h v1 Hh t0) hf (by decide) rfl Hn (fun _ => rfl) (fun _ => Nat.le_of_ble_eq_true rfl)
theorem dX0_flatAt_0 : decode cX0_flatAt 0 = .ok (.iload_n 0, 1) := by decide +kernel
theorem dX0_flatAt_1 : decode cX0_flatAt 1 = .ok (.iconst 4, 1) := by decide +kernel
theorem dX0_flatAt_2 : decode cX0_flatAt 2 = .ok (.idiv, 1) := by decide +kernel
theorem dX0_flatAt_3 : decode cX0_flatAt 3 = .ok (.bipush 10, 2) := by decide +kernel
theorem dX0_flatAt_5 : decode cX0_flatAt 5 = .ok (.imul, 1) := by decide +kernel
theorem dX0_flatAt_6 : decode cX0_flatAt 6 = .ok (.iload_n 0, 1) := by decide +kernel
theorem dX0_flatAt_7 : decode cX0_flatAt 7 = .ok (.iconst 4, 1) := by decide +kernel
theorem dX0_flatAt_8 : decode cX0_flatAt 8 = .ok (.irem, 1) := by decide +kernel
theorem dX0_flatAt_9 : decode cX0_flatAt 9 = .ok (.iadd, 1) := by decide +kernel
theorem dX0_flatAt_10 : decode cX0_flatAt 10 = .ok (.ireturn, 1) := by decide +kernel
set_option maxRecDepth 100000 in
set_option maxHeartbeats 4000000 in
theorem g_X0_flatAt (ids : List (Nat × Nat)) (Hn : Ndp ids) (v0 : Int32)  (t0 : Sg) : Gj kI mX0_flatAt ids 0 [some (aI v0)] [] t0 (f_X0_flatAt v0 t0) := by
  unfold f_X0_flatAt
  refine G_st (x_iload_n dX0_flatAt_0 rfl) ?_
  refine G_st (x_iconst (4 : Int32) dX0_flatAt_1 rfl) ?_
  refine G_st (x_idiv dX0_flatAt_2 (by decide)) ?_
  refine G_st (x_bipush (10 : Int32) dX0_flatAt_3 rfl) ?_
  refine G_st (x_imul dX0_flatAt_5) ?_
  refine G_st (x_iload_n dX0_flatAt_6 rfl) ?_
  refine G_st (x_iconst (4 : Int32) dX0_flatAt_7 rfl) ?_
  refine G_st (x_irem dX0_flatAt_8 (by decide)) ?_
  refine G_st (x_iadd dX0_flatAt_9) ?_
  exact G_ret rfl ⟨dX0_flatAt_10, _, rfl, rfl⟩ rfl
set_option maxRecDepth 100000 in
set_option maxHeartbeats 4000000 in
theorem c_X0_flatAt (ids : List (Nat × Nat)) (Hn : Ndp ids) (v0 : Int32)  (t0 : Sg) (r : Int32) (t1 : Sg) (hf : f_X0_flatAt v0 t0 = some (r, t1)) : Mt0 mX0_flatAt yX0_flatAt ids [aI v0] t0 (some (aI r)) t1 :=
  Mt_of (x := (r, t1)) (g_X0_flatAt ids Hn v0  t0) hf (by decide) rfl Hn (fun _ => rfl) (fun _ => Nat.le_of_ble_eq_true rfl)
theorem dX6_get_0 : decode cX6_get 0 = .ok (.iload_n 1, 1) := by decide +kernel
theorem dX6_get_1 : decode cX6_get 1 = .ok (.ifCond .lt 15, 3) := by decide +kernel
theorem dX6_get_4 : decode cX6_get 4 = .ok (.iload_n 1, 1) := by decide +kernel
theorem dX6_get_5 : decode cX6_get 5 = .ok (.aload_n 0, 1) := by decide +kernel
theorem dX6_get_6 : decode cX6_get 6 = .ok (.arraylength, 1) := by decide +kernel
theorem dX6_get_7 : decode cX6_get 7 = .ok (.if_icmp .ge 9, 3) := by decide +kernel
theorem dX6_get_10 : decode cX6_get 10 = .ok (.aload_n 0, 1) := by decide +kernel
theorem dX6_get_11 : decode cX6_get 11 = .ok (.iload_n 1, 1) := by decide +kernel
theorem dX6_get_12 : decode cX6_get 12 = .ok (.iaload, 1) := by decide +kernel
theorem dX6_get_13 : decode cX6_get 13 = .ok (.goto 4, 3) := by decide +kernel
theorem dX6_get_16 : decode cX6_get 16 = .ok (.iconst 0, 1) := by decide +kernel
theorem dX6_get_17 : decode cX6_get 17 = .ok (.ireturn, 1) := by decide +kernel
set_option maxRecDepth 100000 in
set_option maxHeartbeats 4000000 in
theorem g_X6_get (ids : List (Nat × Nat)) (Hn : Ndp ids) (i0 : Nat × Nat) (v1 : Int32) (Ki0 : i0 ∈ ids) (Ni0 : ly_len i0.2 = some (alen i0)) (t0 : Sg) : Gj kI mX6_get ids 0 [some (aR i0), some (aI v1)] [] t0 (f_X6_get i0 v1 t0) := by
  unfold f_X6_get
  refine G_st (x_iload_n dX6_get_0 rfl) ?_
  refine G_ite (fun c1 => ?_) (fun c1 => ?_)
  · refine G_st (x_if_lt_t (tgt := 16) dX6_get_1 (by decide) c1) ?_
    refine G_st (x_iconst (0 : Int32) dX6_get_16 rfl) ?_
    exact G_ret rfl ⟨dX6_get_17, _, rfl, rfl⟩ rfl
  · refine G_st (x_if_lt_f 16 dX6_get_1 (by decide) c1) ?_
    refine G_st (x_iload_n dX6_get_4 rfl) ?_
    refine G_st (x_aload_n dX6_get_5 rfl) ?_
    refine G_st (x_alen (v := (Int32.ofNat (alen i0))) dX6_get_6 Ki0 Ni0 rfl) ?_
    refine G_ite (fun c2 => ?_) (fun c2 => ?_)
    · refine G_st (x_icmp_ge_t (tgt := 16) dX6_get_7 (by decide) c2) ?_
      refine G_st (x_iconst (0 : Int32) dX6_get_16 rfl) ?_
      exact G_ret rfl ⟨dX6_get_17, _, rfl, rfl⟩ rfl
    · refine G_st (x_icmp_ge_f 16 dX6_get_7 (by decide) c2) ?_
      refine G_st (x_aload_n dX6_get_10 rfl) ?_
      refine G_st (x_iload_n dX6_get_11 rfl) ?_
      refine G_chk (fun c3 => ?_)
      refine G_st (x_iaload dX6_get_12 Ki0 Ni0 c3) ?_
      refine G_st (x_goto (tgt := 17) dX6_get_13 (by decide)) ?_
      exact G_ret rfl ⟨dX6_get_17, _, rfl, rfl⟩ rfl
set_option maxRecDepth 100000 in
set_option maxHeartbeats 4000000 in
theorem c_X6_get (ids : List (Nat × Nat)) (Hn : Ndp ids) (i0 : Nat × Nat) (v1 : Int32) (Ki0 : i0 ∈ ids) (Ni0 : ly_len i0.2 = some (alen i0)) (t0 : Sg) (r : Int32) (t1 : Sg) (hf : f_X6_get i0 v1 t0 = some (r, t1)) : Mt0 mX6_get yX6_get ids [aR i0, aI v1] t0 (some (aI r)) t1 :=
  Mt_of (x := (r, t1)) (g_X6_get ids Hn i0 v1 Ki0 Ni0 t0) hf (by decide) rfl Hn (fun _ => rfl) (fun _ => Nat.le_of_ble_eq_true rfl)
theorem dX0_change_0 : decode cX0_change 0 = .ok (.aload_n 0, 1) := by decide +kernel
theorem dX0_change_1 : decode cX0_change 1 = .ok (.getfield 30, 3) := by decide +kernel
theorem dX0_change_4 : decode cX0_change 4 = .ok (.iload_n 1, 1) := by decide +kernel
theorem dX0_change_5 : decode cX0_change 5 = .ok (.invokestatic 68, 3) := by decide +kernel
theorem dX0_change_8 : decode cX0_change 8 = .ok (.istore_n 3, 1) := by decide +kernel
theorem dX0_change_9 : decode cX0_change 9 = .ok (.aload_n 0, 1) := by decide +kernel
theorem dX0_change_10 : decode cX0_change 10 = .ok (.iload_n 1, 1) := by decide +kernel
theorem dX0_change_11 : decode cX0_change 11 = .ok (.aload_n 0, 1) := by decide +kernel
theorem dX0_change_12 : decode cX0_change 12 = .ok (.getfield 30, 3) := by decide +kernel
theorem dX0_change_15 : decode cX0_change 15 = .ok (.iload_n 2, 1) := by decide +kernel
theorem dX0_change_16 : decode cX0_change 16 = .ok (.invokestatic 68, 3) := by decide +kernel
theorem dX0_change_19 : decode cX0_change 19 = .ok (.invokevirtual 50, 3) := by decide +kernel
theorem dX0_change_22 : decode cX0_change 22 = .ok (.aload_n 0, 1) := by decide +kernel
theorem dX0_change_23 : decode cX0_change 23 = .ok (.iload_n 2, 1) := by decide +kernel
theorem dX0_change_24 : decode cX0_change 24 = .ok (.iload_n 3, 1) := by decide +kernel
theorem dX0_change_25 : decode cX0_change 25 = .ok (.invokevirtual 50, 3) := by decide +kernel
theorem dX0_change_28 : decode cX0_change 28 = .ok (.return_, 1) := by decide +kernel
set_option maxRecDepth 100000 in
set_option maxHeartbeats 4000000 in
theorem g_X0_change (ids : List (Nat × Nat)) (Hn : Ndp ids) (h : Nat) (v1 : Int32) (v2 : Int32) (Hh : InR ids h 7 14) (t0 : Sg) : Gj kV mX0_change ids 0 [some (aR (h, 7)), some (aI v1), some (aI v2), none] [] t0 (f_X0_change h v1 v2 t0) := by
  unfold f_X0_change
  refine G_st (x_aload_n dX0_change_0 rfl) ?_
  refine G_st (x_get (k := 9) (aR (h, 14)) dX0_change_1 (Hh 7 (Nat.le_of_ble_eq_true rfl) (Nat.le_of_ble_eq_true rfl)) rfl rfl rfl rfl inTX0 (Nat.le_of_ble_eq_true rfl) tw_138 (fun ad => rfl)) ?_
  refine G_st (x_iload_n dX0_change_4 rfl) ?_
  refine G_bd (fun x1 t2 h3 => ?_)
  refine G_st (x_callN [] (c_X6_get ids Hn (h, 14) v1 (Hh 14 (Nat.le_of_ble_eq_true rfl) (Nat.le_of_ble_eq_true rfl)) rfl _ _ _ h3) dX0_change_5 (List.mem_of_getElem? (i := 14) rfl) kc_X6_get rfl ⟨Nat.le_of_ble_eq_true rfl, Nat.le_of_ble_eq_true rfl⟩ (Nat.le_of_ble_eq_true rfl) rfl) ?_
  refine G_st (x_istore_n [some (aR (h, 7)), some (aI v1), some (aI v2), some (aI x1)] dX0_change_8 (Nat.le_of_ble_eq_true rfl) rfl rfl) ?_
  refine G_st (x_aload_n dX0_change_9 rfl) ?_
  refine G_st (x_iload_n dX0_change_10 rfl) ?_
  refine G_st (x_aload_n dX0_change_11 rfl) ?_
  refine G_st (x_get (k := 9) (aR (h, 14)) dX0_change_12 (Hh 7 (Nat.le_of_ble_eq_true rfl) (Nat.le_of_ble_eq_true rfl)) rfl rfl rfl rfl inTX0 (Nat.le_of_ble_eq_true rfl) tw_138 (fun ad => rfl)) ?_
  refine G_st (x_iload_n dX0_change_15 rfl) ?_
  refine G_bd (fun x4 t5 h6 => ?_)
  refine G_st (x_callN [aI v1, aR (h, 7)] (c_X6_get ids Hn (h, 14) v2 (Hh 14 (Nat.le_of_ble_eq_true rfl) (Nat.le_of_ble_eq_true rfl)) rfl _ _ _ h6) dX0_change_16 (List.mem_of_getElem? (i := 14) rfl) kc_X6_get rfl ⟨Nat.le_of_ble_eq_true rfl, Nat.le_of_ble_eq_true rfl⟩ (Nat.le_of_ble_eq_true rfl) rfl) ?_
  refine G_bd (fun _ t8 h9 => ?_)
  refine G_st (x_callV [] (c_X0_settle ids Hn h v1 x4 Hh _ _ _ h9) dX0_change_19 tw_103 kc_X0_settle (Hh 7 (Nat.le_of_ble_eq_true rfl) (Nat.le_of_ble_eq_true rfl)) rfl rfl rfl rfl ⟨Nat.le_of_ble_eq_true rfl, Nat.le_of_ble_eq_true rfl⟩ (Nat.le_of_ble_eq_true rfl) rfl) ?_
  refine G_st (x_aload_n dX0_change_22 rfl) ?_
  refine G_st (x_iload_n dX0_change_23 rfl) ?_
  refine G_st (x_iload_n dX0_change_24 rfl) ?_
  refine G_bd (fun _ t11 h12 => ?_)
  refine G_st (x_callV [] (c_X0_settle ids Hn h v2 x1 Hh _ _ _ h12) dX0_change_25 tw_103 kc_X0_settle (Hh 7 (Nat.le_of_ble_eq_true rfl) (Nat.le_of_ble_eq_true rfl)) rfl rfl rfl rfl ⟨Nat.le_of_ble_eq_true rfl, Nat.le_of_ble_eq_true rfl⟩ (Nat.le_of_ble_eq_true rfl) rfl) ?_
  exact G_ret rfl ⟨rfl, dX0_change_28⟩ rfl
set_option maxRecDepth 100000 in
set_option maxHeartbeats 4000000 in
theorem c_X0_change (ids : List (Nat × Nat)) (Hn : Ndp ids) (h : Nat) (v1 : Int32) (v2 : Int32) (Hh : InR ids h 7 14) (t0 : Sg) (r : Unit) (t1 : Sg) (hf : f_X0_change h v1 v2 t0 = some (r, t1)) : Mt0 mX0_change yX0_change ids [aR (h, 7), aI v1, aI v2] t0 none t1 :=
  Mt_of (x := (r, t1)) (g_X0_change ids Hn h v1 v2 Hh t0) hf (by decide) rfl Hn (fun _ => rfl) (fun _ => Nat.le_of_ble_eq_true rfl)
theorem dX0_ring_0 : decode cX0_ring 0 = .ok (.aload_n 0, 1) := by decide +kernel
theorem dX0_ring_1 : decode cX0_ring 1 = .ok (.getfield 30, 3) := by decide +kernel
theorem dX0_ring_4 : decode cX0_ring 4 = .ok (.iload_n 1, 1) := by decide +kernel
theorem dX0_ring_5 : decode cX0_ring 5 = .ok (.invokestatic 68, 3) := by decide +kernel
theorem dX0_ring_8 : decode cX0_ring 8 = .ok (.istore 4, 2) := by decide +kernel
theorem dX0_ring_10 : decode cX0_ring 10 = .ok (.aload_n 0, 1) := by decide +kernel
theorem dX0_ring_11 : decode cX0_ring 11 = .ok (.iload_n 1, 1) := by decide +kernel
theorem dX0_ring_12 : decode cX0_ring 12 = .ok (.aload_n 0, 1) := by decide +kernel
theorem dX0_ring_13 : decode cX0_ring 13 = .ok (.getfield 30, 3) := by decide +kernel
theorem dX0_ring_16 : decode cX0_ring 16 = .ok (.iload_n 2, 1) := by decide +kernel
theorem dX0_ring_17 : decode cX0_ring 17 = .ok (.invokestatic 68, 3) := by decide +kernel
theorem dX0_ring_20 : decode cX0_ring 20 = .ok (.invokevirtual 50, 3) := by decide +kernel
theorem dX0_ring_23 : decode cX0_ring 23 = .ok (.aload_n 0, 1) := by decide +kernel
theorem dX0_ring_24 : decode cX0_ring 24 = .ok (.iload_n 2, 1) := by decide +kernel
theorem dX0_ring_25 : decode cX0_ring 25 = .ok (.aload_n 0, 1) := by decide +kernel
theorem dX0_ring_26 : decode cX0_ring 26 = .ok (.getfield 30, 3) := by decide +kernel
theorem dX0_ring_29 : decode cX0_ring 29 = .ok (.iload_n 3, 1) := by decide +kernel
theorem dX0_ring_30 : decode cX0_ring 30 = .ok (.invokestatic 68, 3) := by decide +kernel
theorem dX0_ring_33 : decode cX0_ring 33 = .ok (.invokevirtual 50, 3) := by decide +kernel
theorem dX0_ring_36 : decode cX0_ring 36 = .ok (.aload_n 0, 1) := by decide +kernel
theorem dX0_ring_37 : decode cX0_ring 37 = .ok (.iload_n 3, 1) := by decide +kernel
theorem dX0_ring_38 : decode cX0_ring 38 = .ok (.iload 4, 2) := by decide +kernel
theorem dX0_ring_40 : decode cX0_ring 40 = .ok (.invokevirtual 50, 3) := by decide +kernel
theorem dX0_ring_43 : decode cX0_ring 43 = .ok (.return_, 1) := by decide +kernel
set_option maxRecDepth 100000 in
set_option maxHeartbeats 4000000 in
theorem g_X0_ring (ids : List (Nat × Nat)) (Hn : Ndp ids) (h : Nat) (v1 : Int32) (v2 : Int32) (v3 : Int32) (Hh : InR ids h 7 14) (t0 : Sg) : Gj kV mX0_ring ids 0 [some (aR (h, 7)), some (aI v1), some (aI v2), some (aI v3), none] [] t0 (f_X0_ring h v1 v2 v3 t0) := by
  unfold f_X0_ring
  refine G_st (x_aload_n dX0_ring_0 rfl) ?_
  refine G_st (x_get (k := 9) (aR (h, 14)) dX0_ring_1 (Hh 7 (Nat.le_of_ble_eq_true rfl) (Nat.le_of_ble_eq_true rfl)) rfl rfl rfl rfl inTX0 (Nat.le_of_ble_eq_true rfl) tw_138 (fun ad => rfl)) ?_
  refine G_st (x_iload_n dX0_ring_4 rfl) ?_
  refine G_bd (fun x1 t2 h3 => ?_)
  refine G_st (x_callN [] (c_X6_get ids Hn (h, 14) v1 (Hh 14 (Nat.le_of_ble_eq_true rfl) (Nat.le_of_ble_eq_true rfl)) rfl _ _ _ h3) dX0_ring_5 (List.mem_of_getElem? (i := 14) rfl) kc_X6_get rfl ⟨Nat.le_of_ble_eq_true rfl, Nat.le_of_ble_eq_true rfl⟩ (Nat.le_of_ble_eq_true rfl) rfl) ?_
  refine G_st (x_istore [some (aR (h, 7)), some (aI v1), some (aI v2), some (aI v3), some (aI x1)] dX0_ring_8 (Nat.le_of_ble_eq_true rfl) rfl rfl) ?_
  refine G_st (x_aload_n dX0_ring_10 rfl) ?_
  refine G_st (x_iload_n dX0_ring_11 rfl) ?_
  refine G_st (x_aload_n dX0_ring_12 rfl) ?_
  refine G_st (x_get (k := 9) (aR (h, 14)) dX0_ring_13 (Hh 7 (Nat.le_of_ble_eq_true rfl) (Nat.le_of_ble_eq_true rfl)) rfl rfl rfl rfl inTX0 (Nat.le_of_ble_eq_true rfl) tw_138 (fun ad => rfl)) ?_
  refine G_st (x_iload_n dX0_ring_16 rfl) ?_
  refine G_bd (fun x4 t5 h6 => ?_)
  refine G_st (x_callN [aI v1, aR (h, 7)] (c_X6_get ids Hn (h, 14) v2 (Hh 14 (Nat.le_of_ble_eq_true rfl) (Nat.le_of_ble_eq_true rfl)) rfl _ _ _ h6) dX0_ring_17 (List.mem_of_getElem? (i := 14) rfl) kc_X6_get rfl ⟨Nat.le_of_ble_eq_true rfl, Nat.le_of_ble_eq_true rfl⟩ (Nat.le_of_ble_eq_true rfl) rfl) ?_
  refine G_bd (fun _ t8 h9 => ?_)
  refine G_st (x_callV [] (c_X0_settle ids Hn h v1 x4 Hh _ _ _ h9) dX0_ring_20 tw_103 kc_X0_settle (Hh 7 (Nat.le_of_ble_eq_true rfl) (Nat.le_of_ble_eq_true rfl)) rfl rfl rfl rfl ⟨Nat.le_of_ble_eq_true rfl, Nat.le_of_ble_eq_true rfl⟩ (Nat.le_of_ble_eq_true rfl) rfl) ?_
  refine G_st (x_aload_n dX0_ring_23 rfl) ?_
  refine G_st (x_iload_n dX0_ring_24 rfl) ?_
  refine G_st (x_aload_n dX0_ring_25 rfl) ?_
  refine G_st (x_get (k := 9) (aR (h, 14)) dX0_ring_26 (Hh 7 (Nat.le_of_ble_eq_true rfl) (Nat.le_of_ble_eq_true rfl)) rfl rfl rfl rfl inTX0 (Nat.le_of_ble_eq_true rfl) tw_138 (fun ad => rfl)) ?_
  refine G_st (x_iload_n dX0_ring_29 rfl) ?_
  refine G_bd (fun x10 t11 h12 => ?_)
  refine G_st (x_callN [aI v2, aR (h, 7)] (c_X6_get ids Hn (h, 14) v3 (Hh 14 (Nat.le_of_ble_eq_true rfl) (Nat.le_of_ble_eq_true rfl)) rfl _ _ _ h12) dX0_ring_30 (List.mem_of_getElem? (i := 14) rfl) kc_X6_get rfl ⟨Nat.le_of_ble_eq_true rfl, Nat.le_of_ble_eq_true rfl⟩ (Nat.le_of_ble_eq_true rfl) rfl) ?_
  refine G_bd (fun _ t14 h15 => ?_)
  refine G_st (x_callV [] (c_X0_settle ids Hn h v2 x10 Hh _ _ _ h15) dX0_ring_33 tw_103 kc_X0_settle (Hh 7 (Nat.le_of_ble_eq_true rfl) (Nat.le_of_ble_eq_true rfl)) rfl rfl rfl rfl ⟨Nat.le_of_ble_eq_true rfl, Nat.le_of_ble_eq_true rfl⟩ (Nat.le_of_ble_eq_true rfl) rfl) ?_
  refine G_st (x_aload_n dX0_ring_36 rfl) ?_
  refine G_st (x_iload_n dX0_ring_37 rfl) ?_
  refine G_st (x_iload dX0_ring_38 rfl) ?_
  refine G_bd (fun _ t17 h18 => ?_)
  refine G_st (x_callV [] (c_X0_settle ids Hn h v3 x1 Hh _ _ _ h18) dX0_ring_40 tw_103 kc_X0_settle (Hh 7 (Nat.le_of_ble_eq_true rfl) (Nat.le_of_ble_eq_true rfl)) rfl rfl rfl rfl ⟨Nat.le_of_ble_eq_true rfl, Nat.le_of_ble_eq_true rfl⟩ (Nat.le_of_ble_eq_true rfl) rfl) ?_
  exact G_ret rfl ⟨rfl, dX0_ring_43⟩ rfl
set_option maxRecDepth 100000 in
set_option maxHeartbeats 4000000 in
theorem c_X0_ring (ids : List (Nat × Nat)) (Hn : Ndp ids) (h : Nat) (v1 : Int32) (v2 : Int32) (v3 : Int32) (Hh : InR ids h 7 14) (t0 : Sg) (r : Unit) (t1 : Sg) (hf : f_X0_ring h v1 v2 v3 t0 = some (r, t1)) : Mt0 mX0_ring yX0_ring ids [aR (h, 7), aI v1, aI v2, aI v3] t0 none t1 :=
  Mt_of (x := (r, t1)) (g_X0_ring ids Hn h v1 v2 v3 Hh t0) hf (by decide) rfl Hn (fun _ => rfl) (fun _ => Nat.le_of_ble_eq_true rfl)
theorem dX0_setSaucer_0 : decode cX0_setSaucer 0 = .ok (.aload_n 0, 1) := by decide +kernel
theorem dX0_setSaucer_1 : decode cX0_setSaucer 1 = .ok (.getfield 9, 3) := by decide +kernel
theorem dX0_setSaucer_4 : decode cX0_setSaucer 4 = .ok (.iload_n 1, 1) := by decide +kernel
theorem dX0_setSaucer_5 : decode cX0_setSaucer 5 = .ok (.iload_n 2, 1) := by decide +kernel
theorem dX0_setSaucer_6 : decode cX0_setSaucer 6 = .ok (.invokestatic 64, 3) := by decide +kernel
theorem dX0_setSaucer_9 : decode cX0_setSaucer 9 = .ok (.aload_n 0, 1) := by decide +kernel
theorem dX0_setSaucer_10 : decode cX0_setSaucer 10 = .ok (.getfield 15, 3) := by decide +kernel
theorem dX0_setSaucer_13 : decode cX0_setSaucer 13 = .ok (.iload_n 1, 1) := by decide +kernel
theorem dX0_setSaucer_14 : decode cX0_setSaucer 14 = .ok (.aload_n 0, 1) := by decide +kernel
theorem dX0_setSaucer_15 : decode cX0_setSaucer 15 = .ok (.getfield 15, 3) := by decide +kernel
theorem dX0_setSaucer_18 : decode cX0_setSaucer 18 = .ok (.iload_n 1, 1) := by decide +kernel
theorem dX0_setSaucer_19 : decode cX0_setSaucer 19 = .ok (.invokestatic 68, 3) := by decide +kernel
theorem dX0_setSaucer_22 : decode cX0_setSaucer 22 = .ok (.iload_n 2, 1) := by decide +kernel
theorem dX0_setSaucer_23 : decode cX0_setSaucer 23 = .ok (.invokestatic 72, 3) := by decide +kernel
theorem dX0_setSaucer_26 : decode cX0_setSaucer 26 = .ok (.invokestatic 64, 3) := by decide +kernel
theorem dX0_setSaucer_29 : decode cX0_setSaucer 29 = .ok (.return_, 1) := by decide +kernel
set_option maxRecDepth 100000 in
set_option maxHeartbeats 4000000 in
theorem g_X0_setSaucer (ids : List (Nat × Nat)) (Hn : Ndp ids) (h : Nat) (v1 : Int32) (v2 : Int32) (Hh : InR ids h 7 14) (t0 : Sg) : Gj kV mX0_setSaucer ids 0 [some (aR (h, 7)), some (aI v1), some (aI v2)] [] t0 (f_X0_setSaucer h v1 v2 t0) := by
  unfold f_X0_setSaucer
  refine G_st (x_aload_n dX0_setSaucer_0 rfl) ?_
  refine G_st (x_get (k := 3) (aR (h, 8)) dX0_setSaucer_1 (Hh 7 (Nat.le_of_ble_eq_true rfl) (Nat.le_of_ble_eq_true rfl)) rfl rfl rfl rfl inTX0 (Nat.le_of_ble_eq_true rfl) tw_118 (fun ad => rfl)) ?_
  refine G_st (x_iload_n dX0_setSaucer_4 rfl) ?_
  refine G_st (x_iload_n dX0_setSaucer_5 rfl) ?_
  refine G_bd (fun _ t2 h3 => ?_)
  refine G_st (x_callN [] (c_X6_set ids Hn (h, 8) v1 v2 (Hh 8 (Nat.le_of_ble_eq_true rfl) (Nat.le_of_ble_eq_true rfl)) rfl _ _ _ h3) dX0_setSaucer_6 (List.mem_of_getElem? (i := 1) rfl) kc_X6_set rfl ⟨Nat.le_of_ble_eq_true rfl, Nat.le_of_ble_eq_true rfl⟩ (Nat.le_of_ble_eq_true rfl) rfl) ?_
  refine G_st (x_aload_n dX0_setSaucer_9 rfl) ?_
  refine G_st (x_get (k := 4) (aR (h, 9)) dX0_setSaucer_10 (Hh 7 (Nat.le_of_ble_eq_true rfl) (Nat.le_of_ble_eq_true rfl)) rfl rfl rfl rfl inTX0 (Nat.le_of_ble_eq_true rfl) tw_121 (fun ad => rfl)) ?_
  refine G_st (x_iload_n dX0_setSaucer_13 rfl) ?_
  refine G_st (x_aload_n dX0_setSaucer_14 rfl) ?_
  refine G_st (x_get (k := 4) (aR (h, 9)) dX0_setSaucer_15 (Hh 7 (Nat.le_of_ble_eq_true rfl) (Nat.le_of_ble_eq_true rfl)) rfl rfl rfl rfl inTX0 (Nat.le_of_ble_eq_true rfl) tw_121 (fun ad => rfl)) ?_
  refine G_st (x_iload_n dX0_setSaucer_18 rfl) ?_
  refine G_bd (fun x4 t5 h6 => ?_)
  refine G_st (x_callN [aI v1, aR (h, 9)] (c_X6_get ids Hn (h, 9) v1 (Hh 9 (Nat.le_of_ble_eq_true rfl) (Nat.le_of_ble_eq_true rfl)) rfl _ _ _ h6) dX0_setSaucer_19 (List.mem_of_getElem? (i := 14) rfl) kc_X6_get rfl ⟨Nat.le_of_ble_eq_true rfl, Nat.le_of_ble_eq_true rfl⟩ (Nat.le_of_ble_eq_true rfl) rfl) ?_
  refine G_st (x_iload_n dX0_setSaucer_22 rfl) ?_
  refine G_st (x_mmin dX0_setSaucer_23 tw_507 tw_444 tw_74 tw_445 ⟨Nat.le_of_ble_eq_true rfl, Nat.le_of_ble_eq_true rfl⟩ (Nat.le_of_ble_eq_true rfl)) ?_
  refine G_bd (fun _ t8 h9 => ?_)
  refine G_st (x_callN [] (c_X6_set ids Hn (h, 9) v1 (jmin x4 v2) (Hh 9 (Nat.le_of_ble_eq_true rfl) (Nat.le_of_ble_eq_true rfl)) rfl _ _ _ h9) dX0_setSaucer_26 (List.mem_of_getElem? (i := 1) rfl) kc_X6_set rfl ⟨Nat.le_of_ble_eq_true rfl, Nat.le_of_ble_eq_true rfl⟩ (Nat.le_of_ble_eq_true rfl) rfl) ?_
  exact G_ret rfl ⟨rfl, dX0_setSaucer_29⟩ rfl
set_option maxRecDepth 100000 in
set_option maxHeartbeats 4000000 in
theorem c_X0_setSaucer (ids : List (Nat × Nat)) (Hn : Ndp ids) (h : Nat) (v1 : Int32) (v2 : Int32) (Hh : InR ids h 7 14) (t0 : Sg) (r : Unit) (t1 : Sg) (hf : f_X0_setSaucer h v1 v2 t0 = some (r, t1)) : Mt0 mX0_setSaucer yX0_setSaucer ids [aR (h, 7), aI v1, aI v2] t0 none t1 :=
  Mt_of (x := (r, t1)) (g_X0_setSaucer ids Hn h v1 v2 Hh t0) hf (by decide) rfl Hn (fun _ => rfl) (fun _ => Nat.le_of_ble_eq_true rfl)
theorem dX0_setWashing_0 : decode cX0_setWashing 0 = .ok (.aload_n 0, 1) := by decide +kernel
theorem dX0_setWashing_1 : decode cX0_setWashing 1 = .ok (.getfield 21, 3) := by decide +kernel
theorem dX0_setWashing_4 : decode cX0_setWashing 4 = .ok (.iload_n 1, 1) := by decide +kernel
theorem dX0_setWashing_5 : decode cX0_setWashing 5 = .ok (.iload_n 2, 1) := by decide +kernel
theorem dX0_setWashing_6 : decode cX0_setWashing 6 = .ok (.invokestatic 64, 3) := by decide +kernel
theorem dX0_setWashing_9 : decode cX0_setWashing 9 = .ok (.aload_n 0, 1) := by decide +kernel
theorem dX0_setWashing_10 : decode cX0_setWashing 10 = .ok (.getfield 24, 3) := by decide +kernel
theorem dX0_setWashing_13 : decode cX0_setWashing 13 = .ok (.iload_n 1, 1) := by decide +kernel
theorem dX0_setWashing_14 : decode cX0_setWashing 14 = .ok (.iload_n 3, 1) := by decide +kernel
theorem dX0_setWashing_15 : decode cX0_setWashing 15 = .ok (.invokestatic 64, 3) := by decide +kernel
theorem dX0_setWashing_18 : decode cX0_setWashing 18 = .ok (.return_, 1) := by decide +kernel
set_option maxRecDepth 100000 in
set_option maxHeartbeats 4000000 in
theorem g_X0_setWashing (ids : List (Nat × Nat)) (Hn : Ndp ids) (h : Nat) (v1 : Int32) (v2 : Int32) (v3 : Int32) (Hh : InR ids h 7 14) (t0 : Sg) : Gj kV mX0_setWashing ids 0 [some (aR (h, 7)), some (aI v1), some (aI v2), some (aI v3)] [] t0 (f_X0_setWashing h v1 v2 v3 t0) := by
  unfold f_X0_setWashing
  refine G_st (x_aload_n dX0_setWashing_0 rfl) ?_
  refine G_st (x_get (k := 6) (aR (h, 11)) dX0_setWashing_1 (Hh 7 (Nat.le_of_ble_eq_true rfl) (Nat.le_of_ble_eq_true rfl)) rfl rfl rfl rfl inTX0 (Nat.le_of_ble_eq_true rfl) tw_129 (fun ad => rfl)) ?_
  refine G_st (x_iload_n dX0_setWashing_4 rfl) ?_
  refine G_st (x_iload_n dX0_setWashing_5 rfl) ?_
  refine G_bd (fun _ t2 h3 => ?_)
  refine G_st (x_callN [] (c_X6_set ids Hn (h, 11) v1 v2 (Hh 11 (Nat.le_of_ble_eq_true rfl) (Nat.le_of_ble_eq_true rfl)) rfl _ _ _ h3) dX0_setWashing_6 (List.mem_of_getElem? (i := 1) rfl) kc_X6_set rfl ⟨Nat.le_of_ble_eq_true rfl, Nat.le_of_ble_eq_true rfl⟩ (Nat.le_of_ble_eq_true rfl) rfl) ?_
  refine G_st (x_aload_n dX0_setWashing_9 rfl) ?_
  refine G_st (x_get (k := 7) (aR (h, 12)) dX0_setWashing_10 (Hh 7 (Nat.le_of_ble_eq_true rfl) (Nat.le_of_ble_eq_true rfl)) rfl rfl rfl rfl inTX0 (Nat.le_of_ble_eq_true rfl) tw_132 (fun ad => rfl)) ?_
  refine G_st (x_iload_n dX0_setWashing_13 rfl) ?_
  refine G_st (x_iload_n dX0_setWashing_14 rfl) ?_
  refine G_bd (fun _ t5 h6 => ?_)
  refine G_st (x_callN [] (c_X6_set ids Hn (h, 12) v1 v3 (Hh 12 (Nat.le_of_ble_eq_true rfl) (Nat.le_of_ble_eq_true rfl)) rfl _ _ _ h6) dX0_setWashing_15 (List.mem_of_getElem? (i := 1) rfl) kc_X6_set rfl ⟨Nat.le_of_ble_eq_true rfl, Nat.le_of_ble_eq_true rfl⟩ (Nat.le_of_ble_eq_true rfl) rfl) ?_
  exact G_ret rfl ⟨rfl, dX0_setWashing_18⟩ rfl
set_option maxRecDepth 100000 in
set_option maxHeartbeats 4000000 in
theorem c_X0_setWashing (ids : List (Nat × Nat)) (Hn : Ndp ids) (h : Nat) (v1 : Int32) (v2 : Int32) (v3 : Int32) (Hh : InR ids h 7 14) (t0 : Sg) (r : Unit) (t1 : Sg) (hf : f_X0_setWashing h v1 v2 v3 t0 = some (r, t1)) : Mt0 mX0_setWashing yX0_setWashing ids [aR (h, 7), aI v1, aI v2, aI v3] t0 none t1 :=
  Mt_of (x := (r, t1)) (g_X0_setWashing ids Hn h v1 v2 v3 Hh t0) hf (by decide) rfl Hn (fun _ => rfl) (fun _ => Nat.le_of_ble_eq_true rfl)
theorem dX0_dry_0 : decode cX0_dry 0 = .ok (.iconst 0, 1) := by decide +kernel
theorem dX0_dry_1 : decode cX0_dry 1 = .ok (.istore_n 1, 1) := by decide +kernel
theorem dX0_dry_2 : decode cX0_dry 2 = .ok (.iload_n 1, 1) := by decide +kernel
theorem dX0_dry_3 : decode cX0_dry 3 = .ok (.aload_n 0, 1) := by decide +kernel
theorem dX0_dry_4 : decode cX0_dry 4 = .ok (.getfield 15, 3) := by decide +kernel
theorem dX0_dry_7 : decode cX0_dry 7 = .ok (.arraylength, 1) := by decide +kernel
theorem dX0_dry_8 : decode cX0_dry 8 = .ok (.if_icmp .ge 27, 3) := by decide +kernel
theorem dX0_dry_11 : decode cX0_dry 11 = .ok (.aload_n 0, 1) := by decide +kernel
theorem dX0_dry_12 : decode cX0_dry 12 = .ok (.getfield 15, 3) := by decide +kernel
theorem dX0_dry_15 : decode cX0_dry 15 = .ok (.iload_n 1, 1) := by decide +kernel
theorem dX0_dry_16 : decode cX0_dry 16 = .ok (.iconst 0, 1) := by decide +kernel
theorem dX0_dry_17 : decode cX0_dry 17 = .ok (.aload_n 0, 1) := by decide +kernel
theorem dX0_dry_18 : decode cX0_dry 18 = .ok (.getfield 15, 3) := by decide +kernel
theorem dX0_dry_21 : decode cX0_dry 21 = .ok (.iload_n 1, 1) := by decide +kernel
theorem dX0_dry_22 : decode cX0_dry 22 = .ok (.iaload, 1) := by decide +kernel
theorem dX0_dry_23 : decode cX0_dry 23 = .ok (.iconst 1, 1) := by decide +kernel
theorem dX0_dry_24 : decode cX0_dry 24 = .ok (.isub, 1) := by decide +kernel
theorem dX0_dry_25 : decode cX0_dry 25 = .ok (.invokestatic 77, 3) := by decide +kernel
theorem dX0_dry_28 : decode cX0_dry 28 = .ok (.iastore, 1) := by decide +kernel
theorem dX0_dry_29 : decode cX0_dry 29 = .ok (.iinc 1 1, 3) := by decide +kernel
theorem dX0_dry_32 : decode cX0_dry 32 = .ok (.goto (-30), 3) := by decide +kernel
theorem dX0_dry_35 : decode cX0_dry 35 = .ok (.return_, 1) := by decide +kernel
set_option maxRecDepth 100000 in
set_option maxHeartbeats 4000000 in
theorem g_X0_dry_2 (ids : List (Nat × Nat)) (Hn : Ndp ids) (h : Nat) (Hh : InR ids h 7 14)  : ∀ (n : Nat) (v1 : Int32) (t0 : Sg), Gj kV mX0_dry ids 2 [some (aR (h, 7)), some (aI v1)] [] t0 (f_X0_dry_2 h n v1 t0) := by
  intro n
  induction n with
  | zero => intro v1 t0; exact G_none
  | succ n ih =>
    intro v1 t0
    rw [f_X0_dry_2]
    refine G_st (x_iload_n dX0_dry_2 rfl) ?_
    refine G_st (x_aload_n dX0_dry_3 rfl) ?_
    refine G_st (x_get (k := 4) (aR (h, 9)) dX0_dry_4 (Hh 7 (Nat.le_of_ble_eq_true rfl) (Nat.le_of_ble_eq_true rfl)) rfl rfl rfl rfl inTX0 (Nat.le_of_ble_eq_true rfl) tw_121 (fun ad => rfl)) ?_
    refine G_st (x_alen (v := (24 : Int32)) dX0_dry_7 (Hh 9 (Nat.le_of_ble_eq_true rfl) (Nat.le_of_ble_eq_true rfl)) rfl rfl) ?_
    refine G_ite (fun c1 => ?_) (fun c1 => ?_)
    · refine G_st (x_icmp_ge_t (tgt := 35) dX0_dry_8 (by decide) c1) ?_
      exact G_ret rfl ⟨rfl, dX0_dry_35⟩ rfl
    · refine G_st (x_icmp_ge_f 35 dX0_dry_8 (by decide) c1) ?_
      refine G_st (x_aload_n dX0_dry_11 rfl) ?_
      refine G_st (x_get (k := 4) (aR (h, 9)) dX0_dry_12 (Hh 7 (Nat.le_of_ble_eq_true rfl) (Nat.le_of_ble_eq_true rfl)) rfl rfl rfl rfl inTX0 (Nat.le_of_ble_eq_true rfl) tw_121 (fun ad => rfl)) ?_
      refine G_st (x_iload_n dX0_dry_15 rfl) ?_
      refine G_st (x_iconst (0 : Int32) dX0_dry_16 rfl) ?_
      refine G_st (x_aload_n dX0_dry_17 rfl) ?_
      refine G_st (x_get (k := 4) (aR (h, 9)) dX0_dry_18 (Hh 7 (Nat.le_of_ble_eq_true rfl) (Nat.le_of_ble_eq_true rfl)) rfl rfl rfl rfl inTX0 (Nat.le_of_ble_eq_true rfl) tw_121 (fun ad => rfl)) ?_
      refine G_st (x_iload_n dX0_dry_21 rfl) ?_
      refine G_chk (fun c2 => ?_)
      refine G_st (x_iaload dX0_dry_22 (Hh 9 (Nat.le_of_ble_eq_true rfl) (Nat.le_of_ble_eq_true rfl)) rfl c2) ?_
      refine G_st (x_iconst (1 : Int32) dX0_dry_23 rfl) ?_
      refine G_st (x_isub dX0_dry_24) ?_
      refine G_st (x_mmax dX0_dry_25 tw_655 tw_633 tw_74 tw_634 ⟨Nat.le_of_ble_eq_true rfl, Nat.le_of_ble_eq_true rfl⟩ (Nat.le_of_ble_eq_true rfl)) ?_
      refine G_chk (fun c3 => ?_)
      refine G_st (x_iastore dX0_dry_28 (Hh 9 (Nat.le_of_ble_eq_true rfl) (Nat.le_of_ble_eq_true rfl)) rfl c3) ?_
      refine G_bvS (fun t4 => ?_)
      refine G_st (x_iinc (v1 + (1 : Int32)) [some (aR (h, 7)), some (aI (v1 + (1 : Int32)))] dX0_dry_29 (Nat.le_of_ble_eq_true rfl) rfl rfl rfl rfl) ?_
      refine G_st (x_goto (tgt := 2) dX0_dry_32 (by decide)) ?_
      refine G_weak _ ?_ ((ih) (v1 + (1 : Int32)) t4)
      exact (leL_s (leL_s (leL_e _)))
set_option maxRecDepth 100000 in
set_option maxHeartbeats 4000000 in
theorem g_X0_dry (ids : List (Nat × Nat)) (Hn : Ndp ids) (h : Nat) (Hh : InR ids h 7 14) (t0 : Sg) : Gj kV mX0_dry ids 0 [some (aR (h, 7)), none] [] t0 (f_X0_dry h t0) := by
  unfold f_X0_dry
  refine G_st (x_iconst (0 : Int32) dX0_dry_0 rfl) ?_
  refine G_st (x_istore_n [some (aR (h, 7)), some (aI (0 : Int32))] dX0_dry_1 (Nat.le_of_ble_eq_true rfl) rfl rfl) ?_
  refine G_weak _ ?_ (g_X0_dry_2 ids Hn h Hh fuel (0 : Int32) t0)
  exact (leL_s (leL_s (leL_e _)))
set_option maxRecDepth 100000 in
set_option maxHeartbeats 4000000 in
theorem c_X0_dry (ids : List (Nat × Nat)) (Hn : Ndp ids) (h : Nat) (Hh : InR ids h 7 14) (t0 : Sg) (r : Unit) (t1 : Sg) (hf : f_X0_dry h t0 = some (r, t1)) : Mt0 mX0_dry yX0_dry ids [aR (h, 7)] t0 none t1 :=
  Mt_of (x := (r, t1)) (g_X0_dry ids Hn h Hh t0) hf (by decide) rfl Hn (fun _ => rfl) (fun _ => Nat.le_of_ble_eq_true rfl)
theorem dX1_add_0 : decode cX1_add 0 = .ok (.aload_n 0, 1) := by decide +kernel
theorem dX1_add_1 : decode cX1_add 1 = .ok (.getfield 24, 3) := by decide +kernel
theorem dX1_add_4 : decode cX1_add 4 = .ok (.bipush 8, 2) := by decide +kernel
theorem dX1_add_6 : decode cX1_add 6 = .ok (.if_icmp .ge 62, 3) := by decide +kernel
theorem dX1_add_9 : decode cX1_add 9 = .ok (.aload_n 0, 1) := by decide +kernel
theorem dX1_add_10 : decode cX1_add 10 = .ok (.getfield 9, 3) := by decide +kernel
theorem dX1_add_13 : decode cX1_add 13 = .ok (.aload_n 0, 1) := by decide +kernel
theorem dX1_add_14 : decode cX1_add 14 = .ok (.getfield 24, 3) := by decide +kernel
theorem dX1_add_17 : decode cX1_add 17 = .ok (.iload_n 1, 1) := by decide +kernel
theorem dX1_add_18 : decode cX1_add 18 = .ok (.invokestatic 28, 3) := by decide +kernel
theorem dX1_add_21 : decode cX1_add 21 = .ok (.aload_n 0, 1) := by decide +kernel
theorem dX1_add_22 : decode cX1_add 22 = .ok (.getfield 15, 3) := by decide +kernel
theorem dX1_add_25 : decode cX1_add 25 = .ok (.aload_n 0, 1) := by decide +kernel
theorem dX1_add_26 : decode cX1_add 26 = .ok (.getfield 24, 3) := by decide +kernel
theorem dX1_add_29 : decode cX1_add 29 = .ok (.iload_n 2, 1) := by decide +kernel
theorem dX1_add_30 : decode cX1_add 30 = .ok (.invokestatic 28, 3) := by decide +kernel
theorem dX1_add_33 : decode cX1_add 33 = .ok (.aload_n 0, 1) := by decide +kernel
theorem dX1_add_34 : decode cX1_add 34 = .ok (.getfield 18, 3) := by decide +kernel
theorem dX1_add_37 : decode cX1_add 37 = .ok (.aload_n 0, 1) := by decide +kernel
theorem dX1_add_38 : decode cX1_add 38 = .ok (.getfield 24, 3) := by decide +kernel
theorem dX1_add_41 : decode cX1_add 41 = .ok (.iload_n 3, 1) := by decide +kernel
theorem dX1_add_42 : decode cX1_add 42 = .ok (.invokestatic 28, 3) := by decide +kernel
theorem dX1_add_45 : decode cX1_add 45 = .ok (.aload_n 0, 1) := by decide +kernel
theorem dX1_add_46 : decode cX1_add 46 = .ok (.getfield 21, 3) := by decide +kernel
theorem dX1_add_49 : decode cX1_add 49 = .ok (.aload_n 0, 1) := by decide +kernel
theorem dX1_add_50 : decode cX1_add 50 = .ok (.getfield 24, 3) := by decide +kernel
theorem dX1_add_53 : decode cX1_add 53 = .ok (.iload 4, 2) := by decide +kernel
theorem dX1_add_55 : decode cX1_add 55 = .ok (.invokestatic 28, 3) := by decide +kernel
theorem dX1_add_58 : decode cX1_add 58 = .ok (.aload_n 0, 1) := by decide +kernel
theorem dX1_add_59 : decode cX1_add 59 = .ok (.dup, 1) := by decide +kernel
theorem dX1_add_60 : decode cX1_add 60 = .ok (.getfield 24, 3) := by decide +kernel
theorem dX1_add_63 : decode cX1_add 63 = .ok (.iconst 1, 1) := by decide +kernel
theorem dX1_add_64 : decode cX1_add 64 = .ok (.iadd, 1) := by decide +kernel
theorem dX1_add_65 : decode cX1_add 65 = .ok (.putfield 24, 3) := by decide +kernel
theorem dX1_add_68 : decode cX1_add 68 = .ok (.return_, 1) := by decide +kernel
set_option maxRecDepth 100000 in
set_option maxHeartbeats 4000000 in
theorem g_X1_add (ids : List (Nat × Nat)) (Hn : Ndp ids) (h : Nat) (v1 : Int32) (v2 : Int32) (v3 : Int32) (v4 : Int32) (Hh : InR ids h 15 19) (t0 : Sg) : Gj kV mX1_add ids 0 [some (aR (h, 15)), some (aI v1), some (aI v2), some (aI v3), some (aI v4)] [] t0 (f_X1_add h v1 v2 v3 v4 t0) := by
  unfold f_X1_add
  refine G_st (x_aload_n dX1_add_0 rfl) ?_
  refine G_st (x_get (k := 0) (aI (t0 (h, 15) 0)) dX1_add_1 (Hh 15 (Nat.le_of_ble_eq_true rfl) (Nat.le_of_ble_eq_true rfl)) rfl rfl rfl rfl inTX1 (Nat.le_of_ble_eq_true rfl) tw_169 (fun ad => rfl)) ?_
  refine G_st (x_bipush (8 : Int32) dX1_add_4 rfl) ?_
  refine G_ite (fun c1 => ?_) (fun c1 => ?_)
  · refine G_st (x_icmp_ge_t (tgt := 68) dX1_add_6 (by decide) c1) ?_
    exact G_ret rfl ⟨rfl, dX1_add_68⟩ rfl
  · refine G_st (x_icmp_ge_f 68 dX1_add_6 (by decide) c1) ?_
    refine G_st (x_aload_n dX1_add_9 rfl) ?_
    refine G_st (x_get (k := 1) (aR (h, 16)) dX1_add_10 (Hh 15 (Nat.le_of_ble_eq_true rfl) (Nat.le_of_ble_eq_true rfl)) rfl rfl rfl rfl inTX1 (Nat.le_of_ble_eq_true rfl) tw_173 (fun ad => rfl)) ?_
    refine G_st (x_aload_n dX1_add_13 rfl) ?_
    refine G_st (x_get (k := 0) (aI (t0 (h, 15) 0)) dX1_add_14 (Hh 15 (Nat.le_of_ble_eq_true rfl) (Nat.le_of_ble_eq_true rfl)) rfl rfl rfl rfl inTX1 (Nat.le_of_ble_eq_true rfl) tw_169 (fun ad => rfl)) ?_
    refine G_st (x_iload_n dX1_add_17 rfl) ?_
    refine G_bd (fun _ t3 h4 => ?_)
    refine G_st (x_callN [] (c_X6_set ids Hn (h, 16) (t0 (h, 15) 0) v1 (Hh 16 (Nat.le_of_ble_eq_true rfl) (Nat.le_of_ble_eq_true rfl)) rfl _ _ _ h4) dX1_add_18 (List.mem_of_getElem? (i := 13) rfl) kc_X6_set rfl ⟨Nat.le_of_ble_eq_true rfl, Nat.le_of_ble_eq_true rfl⟩ (Nat.le_of_ble_eq_true rfl) rfl) ?_
    refine G_st (x_aload_n dX1_add_21 rfl) ?_
    refine G_st (x_get (k := 2) (aR (h, 17)) dX1_add_22 (Hh 15 (Nat.le_of_ble_eq_true rfl) (Nat.le_of_ble_eq_true rfl)) rfl rfl rfl rfl inTX1 (Nat.le_of_ble_eq_true rfl) tw_177 (fun ad => rfl)) ?_
    refine G_st (x_aload_n dX1_add_25 rfl) ?_
    refine G_st (x_get (k := 0) (aI (t3 (h, 15) 0)) dX1_add_26 (Hh 15 (Nat.le_of_ble_eq_true rfl) (Nat.le_of_ble_eq_true rfl)) rfl rfl rfl rfl inTX1 (Nat.le_of_ble_eq_true rfl) tw_169 (fun ad => rfl)) ?_
    refine G_st (x_iload_n dX1_add_29 rfl) ?_
    refine G_bd (fun _ t6 h7 => ?_)
    refine G_st (x_callN [] (c_X6_set ids Hn (h, 17) (t3 (h, 15) 0) v2 (Hh 17 (Nat.le_of_ble_eq_true rfl) (Nat.le_of_ble_eq_true rfl)) rfl _ _ _ h7) dX1_add_30 (List.mem_of_getElem? (i := 13) rfl) kc_X6_set rfl ⟨Nat.le_of_ble_eq_true rfl, Nat.le_of_ble_eq_true rfl⟩ (Nat.le_of_ble_eq_true rfl) rfl) ?_
    refine G_st (x_aload_n dX1_add_33 rfl) ?_
    refine G_st (x_get (k := 3) (aR (h, 18)) dX1_add_34 (Hh 15 (Nat.le_of_ble_eq_true rfl) (Nat.le_of_ble_eq_true rfl)) rfl rfl rfl rfl inTX1 (Nat.le_of_ble_eq_true rfl) tw_181 (fun ad => rfl)) ?_
    refine G_st (x_aload_n dX1_add_37 rfl) ?_
    refine G_st (x_get (k := 0) (aI (t6 (h, 15) 0)) dX1_add_38 (Hh 15 (Nat.le_of_ble_eq_true rfl) (Nat.le_of_ble_eq_true rfl)) rfl rfl rfl rfl inTX1 (Nat.le_of_ble_eq_true rfl) tw_169 (fun ad => rfl)) ?_
    refine G_st (x_iload_n dX1_add_41 rfl) ?_
    refine G_bd (fun _ t9 h10 => ?_)
    refine G_st (x_callN [] (c_X6_set ids Hn (h, 18) (t6 (h, 15) 0) v3 (Hh 18 (Nat.le_of_ble_eq_true rfl) (Nat.le_of_ble_eq_true rfl)) rfl _ _ _ h10) dX1_add_42 (List.mem_of_getElem? (i := 13) rfl) kc_X6_set rfl ⟨Nat.le_of_ble_eq_true rfl, Nat.le_of_ble_eq_true rfl⟩ (Nat.le_of_ble_eq_true rfl) rfl) ?_
    refine G_st (x_aload_n dX1_add_45 rfl) ?_
    refine G_st (x_get (k := 4) (aR (h, 19)) dX1_add_46 (Hh 15 (Nat.le_of_ble_eq_true rfl) (Nat.le_of_ble_eq_true rfl)) rfl rfl rfl rfl inTX1 (Nat.le_of_ble_eq_true rfl) tw_184 (fun ad => rfl)) ?_
    refine G_st (x_aload_n dX1_add_49 rfl) ?_
    refine G_st (x_get (k := 0) (aI (t9 (h, 15) 0)) dX1_add_50 (Hh 15 (Nat.le_of_ble_eq_true rfl) (Nat.le_of_ble_eq_true rfl)) rfl rfl rfl rfl inTX1 (Nat.le_of_ble_eq_true rfl) tw_169 (fun ad => rfl)) ?_
    refine G_st (x_iload dX1_add_53 rfl) ?_
    refine G_bd (fun _ t12 h13 => ?_)
    refine G_st (x_callN [] (c_X6_set ids Hn (h, 19) (t9 (h, 15) 0) v4 (Hh 19 (Nat.le_of_ble_eq_true rfl) (Nat.le_of_ble_eq_true rfl)) rfl _ _ _ h13) dX1_add_55 (List.mem_of_getElem? (i := 13) rfl) kc_X6_set rfl ⟨Nat.le_of_ble_eq_true rfl, Nat.le_of_ble_eq_true rfl⟩ (Nat.le_of_ble_eq_true rfl) rfl) ?_
    refine G_st (x_aload_n dX1_add_58 rfl) ?_
    refine G_st (x_dup dX1_add_59 rfl) ?_
    refine G_st (x_get (k := 0) (aI (t12 (h, 15) 0)) dX1_add_60 (Hh 15 (Nat.le_of_ble_eq_true rfl) (Nat.le_of_ble_eq_true rfl)) rfl rfl rfl rfl inTX1 (Nat.le_of_ble_eq_true rfl) tw_169 (fun ad => rfl)) ?_
    refine G_st (x_iconst (1 : Int32) dX1_add_63 rfl) ?_
    refine G_st (x_iadd dX1_add_64) ?_
    refine G_st (x_put (k := 0) (ty := .int) (v := aI ((t12 (h, 15) 0) + (1 : Int32))) (z := ((t12 (h, 15) 0) + (1 : Int32))) (upS t12 (h, 15) 0 ((t12 (h, 15) 0) + (1 : Int32))) dX1_add_65 (Hh 15 (Nat.le_of_ble_eq_true rfl) (Nat.le_of_ble_eq_true rfl)) rfl rfl rfl rfl inTX1 tyX1_ok nmX1 (Nat.le_of_ble_eq_true rfl) tw_169 rfl rfl (fun ad => rfl) (fun ad => rfl) (fun ad => put_i0 ad _ _ _ _ rfl) rfl) ?_
    refine G_bvS (fun t14 => ?_)
    exact G_ret rfl ⟨rfl, dX1_add_68⟩ rfl
set_option maxRecDepth 100000 in
set_option maxHeartbeats 4000000 in
theorem c_X1_add (ids : List (Nat × Nat)) (Hn : Ndp ids) (h : Nat) (v1 : Int32) (v2 : Int32) (v3 : Int32) (v4 : Int32) (Hh : InR ids h 15 19) (t0 : Sg) (r : Unit) (t1 : Sg) (hf : f_X1_add h v1 v2 v3 v4 t0 = some (r, t1)) : Mt0 mX1_add yX1_add ids [aR (h, 15), aI v1, aI v2, aI v3, aI v4] t0 none t1 :=
  Mt_of (x := (r, t1)) (g_X1_add ids Hn h v1 v2 v3 v4 Hh t0) hf (by decide) rfl Hn (fun _ => rfl) (fun _ => Nat.le_of_ble_eq_true rfl)
theorem dX1_copyFrom_0 : decode cX1_copyFrom 0 = .ok (.aload_n 0, 1) := by decide +kernel
theorem dX1_copyFrom_1 : decode cX1_copyFrom 1 = .ok (.aload_n 1, 1) := by decide +kernel
theorem dX1_copyFrom_2 : decode cX1_copyFrom 2 = .ok (.getfield 24, 3) := by decide +kernel
theorem dX1_copyFrom_5 : decode cX1_copyFrom 5 = .ok (.putfield 24, 3) := by decide +kernel
theorem dX1_copyFrom_8 : decode cX1_copyFrom 8 = .ok (.aload_n 1, 1) := by decide +kernel
theorem dX1_copyFrom_9 : decode cX1_copyFrom 9 = .ok (.getfield 9, 3) := by decide +kernel
theorem dX1_copyFrom_12 : decode cX1_copyFrom 12 = .ok (.aload_n 0, 1) := by decide +kernel
theorem dX1_copyFrom_13 : decode cX1_copyFrom 13 = .ok (.getfield 9, 3) := by decide +kernel
theorem dX1_copyFrom_16 : decode cX1_copyFrom 16 = .ok (.invokestatic 32, 3) := by decide +kernel
theorem dX1_copyFrom_19 : decode cX1_copyFrom 19 = .ok (.aload_n 1, 1) := by decide +kernel
theorem dX1_copyFrom_20 : decode cX1_copyFrom 20 = .ok (.getfield 15, 3) := by decide +kernel
theorem dX1_copyFrom_23 : decode cX1_copyFrom 23 = .ok (.aload_n 0, 1) := by decide +kernel
theorem dX1_copyFrom_24 : decode cX1_copyFrom 24 = .ok (.getfield 15, 3) := by decide +kernel
theorem dX1_copyFrom_27 : decode cX1_copyFrom 27 = .ok (.invokestatic 32, 3) := by decide +kernel
theorem dX1_copyFrom_30 : decode cX1_copyFrom 30 = .ok (.aload_n 1, 1) := by decide +kernel
theorem dX1_copyFrom_31 : decode cX1_copyFrom 31 = .ok (.getfield 18, 3) := by decide +kernel
theorem dX1_copyFrom_34 : decode cX1_copyFrom 34 = .ok (.aload_n 0, 1) := by decide +kernel
theorem dX1_copyFrom_35 : decode cX1_copyFrom 35 = .ok (.getfield 18, 3) := by decide +kernel
theorem dX1_copyFrom_38 : decode cX1_copyFrom 38 = .ok (.invokestatic 32, 3) := by decide +kernel
theorem dX1_copyFrom_41 : decode cX1_copyFrom 41 = .ok (.aload_n 1, 1) := by decide +kernel
theorem dX1_copyFrom_42 : decode cX1_copyFrom 42 = .ok (.getfield 21, 3) := by decide +kernel
theorem dX1_copyFrom_45 : decode cX1_copyFrom 45 = .ok (.aload_n 0, 1) := by decide +kernel
theorem dX1_copyFrom_46 : decode cX1_copyFrom 46 = .ok (.getfield 21, 3) := by decide +kernel
theorem dX1_copyFrom_49 : decode cX1_copyFrom 49 = .ok (.invokestatic 32, 3) := by decide +kernel
theorem dX1_copyFrom_52 : decode cX1_copyFrom 52 = .ok (.return_, 1) := by decide +kernel
set_option maxRecDepth 100000 in
set_option maxHeartbeats 4000000 in
theorem g_X1_copyFrom (ids : List (Nat × Nat)) (Hn : Ndp ids) (h : Nat) (g : Nat) (Hh : InR ids h 15 19) (Hg : InR ids g 15 19) (t0 : Sg) : Gj kV mX1_copyFrom ids 0 [some (aR (h, 15)), some (aR (g, 15))] [] t0 (f_X1_copyFrom h g t0) := by
  unfold f_X1_copyFrom
  refine G_st (x_aload_n dX1_copyFrom_0 rfl) ?_
  refine G_st (x_aload_n dX1_copyFrom_1 rfl) ?_
  refine G_st (x_get (k := 0) (aI (t0 (g, 15) 0)) dX1_copyFrom_2 (Hg 15 (Nat.le_of_ble_eq_true rfl) (Nat.le_of_ble_eq_true rfl)) rfl rfl rfl rfl inTX1 (Nat.le_of_ble_eq_true rfl) tw_169 (fun ad => rfl)) ?_
  refine G_st (x_put (k := 0) (ty := .int) (v := aI (t0 (g, 15) 0)) (z := (t0 (g, 15) 0)) (upS t0 (h, 15) 0 (t0 (g, 15) 0)) dX1_copyFrom_5 (Hh 15 (Nat.le_of_ble_eq_true rfl) (Nat.le_of_ble_eq_true rfl)) rfl rfl rfl rfl inTX1 tyX1_ok nmX1 (Nat.le_of_ble_eq_true rfl) tw_169 rfl rfl (fun ad => rfl) (fun ad => rfl) (fun ad => put_i0 ad _ _ _ _ rfl) rfl) ?_
  refine G_bvS (fun t1 => ?_)
  refine G_st (x_aload_n dX1_copyFrom_8 rfl) ?_
  refine G_st (x_get (k := 1) (aR (g, 16)) dX1_copyFrom_9 (Hg 15 (Nat.le_of_ble_eq_true rfl) (Nat.le_of_ble_eq_true rfl)) rfl rfl rfl rfl inTX1 (Nat.le_of_ble_eq_true rfl) tw_173 (fun ad => rfl)) ?_
  refine G_st (x_aload_n dX1_copyFrom_12 rfl) ?_
  refine G_st (x_get (k := 1) (aR (h, 16)) dX1_copyFrom_13 (Hh 15 (Nat.le_of_ble_eq_true rfl) (Nat.le_of_ble_eq_true rfl)) rfl rfl rfl rfl inTX1 (Nat.le_of_ble_eq_true rfl) tw_173 (fun ad => rfl)) ?_
  refine G_bd (fun _ t3 h4 => ?_)
  refine G_st (x_callN [] (c_X6_copy ids Hn (g, 16) (h, 16) (Hg 16 (Nat.le_of_ble_eq_true rfl) (Nat.le_of_ble_eq_true rfl)) rfl (Hh 16 (Nat.le_of_ble_eq_true rfl) (Nat.le_of_ble_eq_true rfl)) rfl _ _ _ h4) dX1_copyFrom_16 (List.mem_of_getElem? (i := 11) rfl) kc_X6_copy rfl ⟨Nat.le_of_ble_eq_true rfl, Nat.le_of_ble_eq_true rfl⟩ (Nat.le_of_ble_eq_true rfl) rfl) ?_
  refine G_st (x_aload_n dX1_copyFrom_19 rfl) ?_
  refine G_st (x_get (k := 2) (aR (g, 17)) dX1_copyFrom_20 (Hg 15 (Nat.le_of_ble_eq_true rfl) (Nat.le_of_ble_eq_true rfl)) rfl rfl rfl rfl inTX1 (Nat.le_of_ble_eq_true rfl) tw_177 (fun ad => rfl)) ?_
  refine G_st (x_aload_n dX1_copyFrom_23 rfl) ?_
  refine G_st (x_get (k := 2) (aR (h, 17)) dX1_copyFrom_24 (Hh 15 (Nat.le_of_ble_eq_true rfl) (Nat.le_of_ble_eq_true rfl)) rfl rfl rfl rfl inTX1 (Nat.le_of_ble_eq_true rfl) tw_177 (fun ad => rfl)) ?_
  refine G_bd (fun _ t6 h7 => ?_)
  refine G_st (x_callN [] (c_X6_copy ids Hn (g, 17) (h, 17) (Hg 17 (Nat.le_of_ble_eq_true rfl) (Nat.le_of_ble_eq_true rfl)) rfl (Hh 17 (Nat.le_of_ble_eq_true rfl) (Nat.le_of_ble_eq_true rfl)) rfl _ _ _ h7) dX1_copyFrom_27 (List.mem_of_getElem? (i := 11) rfl) kc_X6_copy rfl ⟨Nat.le_of_ble_eq_true rfl, Nat.le_of_ble_eq_true rfl⟩ (Nat.le_of_ble_eq_true rfl) rfl) ?_
  refine G_st (x_aload_n dX1_copyFrom_30 rfl) ?_
  refine G_st (x_get (k := 3) (aR (g, 18)) dX1_copyFrom_31 (Hg 15 (Nat.le_of_ble_eq_true rfl) (Nat.le_of_ble_eq_true rfl)) rfl rfl rfl rfl inTX1 (Nat.le_of_ble_eq_true rfl) tw_181 (fun ad => rfl)) ?_
  refine G_st (x_aload_n dX1_copyFrom_34 rfl) ?_
  refine G_st (x_get (k := 3) (aR (h, 18)) dX1_copyFrom_35 (Hh 15 (Nat.le_of_ble_eq_true rfl) (Nat.le_of_ble_eq_true rfl)) rfl rfl rfl rfl inTX1 (Nat.le_of_ble_eq_true rfl) tw_181 (fun ad => rfl)) ?_
  refine G_bd (fun _ t9 h10 => ?_)
  refine G_st (x_callN [] (c_X6_copy ids Hn (g, 18) (h, 18) (Hg 18 (Nat.le_of_ble_eq_true rfl) (Nat.le_of_ble_eq_true rfl)) rfl (Hh 18 (Nat.le_of_ble_eq_true rfl) (Nat.le_of_ble_eq_true rfl)) rfl _ _ _ h10) dX1_copyFrom_38 (List.mem_of_getElem? (i := 11) rfl) kc_X6_copy rfl ⟨Nat.le_of_ble_eq_true rfl, Nat.le_of_ble_eq_true rfl⟩ (Nat.le_of_ble_eq_true rfl) rfl) ?_
  refine G_st (x_aload_n dX1_copyFrom_41 rfl) ?_
  refine G_st (x_get (k := 4) (aR (g, 19)) dX1_copyFrom_42 (Hg 15 (Nat.le_of_ble_eq_true rfl) (Nat.le_of_ble_eq_true rfl)) rfl rfl rfl rfl inTX1 (Nat.le_of_ble_eq_true rfl) tw_184 (fun ad => rfl)) ?_
  refine G_st (x_aload_n dX1_copyFrom_45 rfl) ?_
  refine G_st (x_get (k := 4) (aR (h, 19)) dX1_copyFrom_46 (Hh 15 (Nat.le_of_ble_eq_true rfl) (Nat.le_of_ble_eq_true rfl)) rfl rfl rfl rfl inTX1 (Nat.le_of_ble_eq_true rfl) tw_184 (fun ad => rfl)) ?_
  refine G_bd (fun _ t12 h13 => ?_)
  refine G_st (x_callN [] (c_X6_copy ids Hn (g, 19) (h, 19) (Hg 19 (Nat.le_of_ble_eq_true rfl) (Nat.le_of_ble_eq_true rfl)) rfl (Hh 19 (Nat.le_of_ble_eq_true rfl) (Nat.le_of_ble_eq_true rfl)) rfl _ _ _ h13) dX1_copyFrom_49 (List.mem_of_getElem? (i := 11) rfl) kc_X6_copy rfl ⟨Nat.le_of_ble_eq_true rfl, Nat.le_of_ble_eq_true rfl⟩ (Nat.le_of_ble_eq_true rfl) rfl) ?_
  exact G_ret rfl ⟨rfl, dX1_copyFrom_52⟩ rfl
set_option maxRecDepth 100000 in
set_option maxHeartbeats 4000000 in
theorem c_X1_copyFrom (ids : List (Nat × Nat)) (Hn : Ndp ids) (h : Nat) (g : Nat) (Hh : InR ids h 15 19) (Hg : InR ids g 15 19) (t0 : Sg) (r : Unit) (t1 : Sg) (hf : f_X1_copyFrom h g t0 = some (r, t1)) : Mt0 mX1_copyFrom yX1_copyFrom ids [aR (h, 15), aR (g, 15)] t0 none t1 :=
  Mt_of (x := (r, t1)) (g_X1_copyFrom ids Hn h g Hh Hg t0) hf (by decide) rfl Hn (fun _ => rfl) (fun _ => Nat.le_of_ble_eq_true rfl)
theorem dX1_countOf_0 : decode cX1_countOf 0 = .ok (.iconst 0, 1) := by decide +kernel
theorem dX1_countOf_1 : decode cX1_countOf 1 = .ok (.istore_n 2, 1) := by decide +kernel
theorem dX1_countOf_2 : decode cX1_countOf 2 = .ok (.iconst 0, 1) := by decide +kernel
theorem dX1_countOf_3 : decode cX1_countOf 3 = .ok (.istore_n 3, 1) := by decide +kernel
theorem dX1_countOf_4 : decode cX1_countOf 4 = .ok (.iload_n 3, 1) := by decide +kernel
theorem dX1_countOf_5 : decode cX1_countOf 5 = .ok (.aload_n 0, 1) := by decide +kernel
theorem dX1_countOf_6 : decode cX1_countOf 6 = .ok (.getfield 24, 3) := by decide +kernel
theorem dX1_countOf_9 : decode cX1_countOf 9 = .ok (.if_icmp .ge 29, 3) := by decide +kernel
theorem dX1_countOf_12 : decode cX1_countOf 12 = .ok (.iload_n 2, 1) := by decide +kernel
theorem dX1_countOf_13 : decode cX1_countOf 13 = .ok (.aload_n 0, 1) := by decide +kernel
theorem dX1_countOf_14 : decode cX1_countOf 14 = .ok (.getfield 9, 3) := by decide +kernel
theorem dX1_countOf_17 : decode cX1_countOf 17 = .ok (.iload_n 3, 1) := by decide +kernel
theorem dX1_countOf_18 : decode cX1_countOf 18 = .ok (.invokestatic 36, 3) := by decide +kernel
theorem dX1_countOf_21 : decode cX1_countOf 21 = .ok (.iload_n 1, 1) := by decide +kernel
theorem dX1_countOf_22 : decode cX1_countOf 22 = .ok (.if_icmp .ne 7, 3) := by decide +kernel
theorem dX1_countOf_25 : decode cX1_countOf 25 = .ok (.iconst 1, 1) := by decide +kernel
theorem dX1_countOf_26 : decode cX1_countOf 26 = .ok (.goto 4, 3) := by decide +kernel
theorem dX1_countOf_29 : decode cX1_countOf 29 = .ok (.iconst 0, 1) := by decide +kernel
theorem dX1_countOf_30 : decode cX1_countOf 30 = .ok (.iadd, 1) := by decide +kernel
theorem dX1_countOf_31 : decode cX1_countOf 31 = .ok (.istore_n 2, 1) := by decide +kernel
theorem dX1_countOf_32 : decode cX1_countOf 32 = .ok (.iinc 3 1, 3) := by decide +kernel
theorem dX1_countOf_35 : decode cX1_countOf 35 = .ok (.goto (-31), 3) := by decide +kernel
theorem dX1_countOf_38 : decode cX1_countOf 38 = .ok (.iload_n 2, 1) := by decide +kernel
theorem dX1_countOf_39 : decode cX1_countOf 39 = .ok (.ireturn, 1) := by decide +kernel
set_option maxRecDepth 100000 in
set_option maxHeartbeats 4000000 in
theorem g_X1_countOf_4 (ids : List (Nat × Nat)) (Hn : Ndp ids) (h : Nat) (Hh : InR ids h 15 19)  : ∀ (n : Nat) (v1 : Int32) (v2 : Int32) (v3 : Int32) (t0 : Sg), Gj kI mX1_countOf ids 4 [some (aR (h, 15)), some (aI v1), some (aI v2), some (aI v3)] [] t0 (f_X1_countOf_4 h n v1 v2 v3 t0) := by
  intro n
  induction n with
  | zero => intro v1 v2 v3 t0; exact G_none
  | succ n ih =>
    intro v1 v2 v3 t0
    rw [f_X1_countOf_4]
    refine G_st (x_iload_n dX1_countOf_4 rfl) ?_
    refine G_st (x_aload_n dX1_countOf_5 rfl) ?_
    refine G_st (x_get (k := 0) (aI (t0 (h, 15) 0)) dX1_countOf_6 (Hh 15 (Nat.le_of_ble_eq_true rfl) (Nat.le_of_ble_eq_true rfl)) rfl rfl rfl rfl inTX1 (Nat.le_of_ble_eq_true rfl) tw_169 (fun ad => rfl)) ?_
    refine G_ite (fun c1 => ?_) (fun c1 => ?_)
    · refine G_st (x_icmp_ge_t (tgt := 38) dX1_countOf_9 (by decide) c1) ?_
      refine G_st (x_iload_n dX1_countOf_38 rfl) ?_
      exact G_ret rfl ⟨dX1_countOf_39, _, rfl, rfl⟩ rfl
    · refine G_st (x_icmp_ge_f 38 dX1_countOf_9 (by decide) c1) ?_
      refine G_st (x_iload_n dX1_countOf_12 rfl) ?_
      refine G_st (x_aload_n dX1_countOf_13 rfl) ?_
      refine G_st (x_get (k := 1) (aR (h, 16)) dX1_countOf_14 (Hh 15 (Nat.le_of_ble_eq_true rfl) (Nat.le_of_ble_eq_true rfl)) rfl rfl rfl rfl inTX1 (Nat.le_of_ble_eq_true rfl) tw_173 (fun ad => rfl)) ?_
      refine G_st (x_iload_n dX1_countOf_17 rfl) ?_
      refine G_bd (fun x2 t3 h4 => ?_)
      refine G_st (x_callN [aI v2] (c_X6_get ids Hn (h, 16) v3 (Hh 16 (Nat.le_of_ble_eq_true rfl) (Nat.le_of_ble_eq_true rfl)) rfl _ _ _ h4) dX1_countOf_18 (List.mem_of_getElem? (i := 15) rfl) kc_X6_get rfl ⟨Nat.le_of_ble_eq_true rfl, Nat.le_of_ble_eq_true rfl⟩ (Nat.le_of_ble_eq_true rfl) rfl) ?_
      refine G_st (x_iload_n dX1_countOf_21 rfl) ?_
      have e6 : Tj mX1_countOf ids 22 [some (aR (h, 15)), some (aI v1), some (aI v2), some (aI v3)] [aI v1, aI x2, aI v2] t3 30 [some (aR (h, 15)), some (aI v1), some (aI v2), some (aI v3)] [aI (if x2 = v1 then (1 : Int32) else (0 : Int32)), aI v2] t3 := by
        refine Tj.dia (fun c5 => ?_) (fun c5 => ?_)
        · refine Tj.tr (x_icmp_ne_f 29 dX1_countOf_22 (by decide) c5) ?_
          refine Tj.tr (x_iconst (1 : Int32) dX1_countOf_25 rfl) ?_
          refine Tj.tr (x_goto (tgt := 30) dX1_countOf_26 (by decide)) ?_
          exact Tj.rf
        · refine Tj.tr (x_icmp_ne_t (tgt := 29) dX1_countOf_22 (by decide) c5) ?_
          refine Tj.tr (x_iconst (0 : Int32) dX1_countOf_29 rfl) ?_
          exact Tj.rf
      refine G_st e6 ?_
      refine G_st (x_iadd dX1_countOf_30) ?_
      refine G_bvI (fun x7 => ?_)
      refine G_st (x_istore_n [some (aR (h, 15)), some (aI v1), some (aI x7), some (aI v3)] dX1_countOf_31 (Nat.le_of_ble_eq_true rfl) rfl rfl) ?_
      refine G_st (x_iinc (v3 + (1 : Int32)) [some (aR (h, 15)), some (aI v1), some (aI x7), some (aI (v3 + (1 : Int32)))] dX1_countOf_32 (Nat.le_of_ble_eq_true rfl) rfl rfl rfl rfl) ?_
      refine G_st (x_goto (tgt := 4) dX1_countOf_35 (by decide)) ?_
      refine G_weak _ ?_ ((ih) v1 x7 (v3 + (1 : Int32)) t3)
      exact (leL_s (leL_s (leL_s (leL_s (leL_e _)))))
set_option maxRecDepth 100000 in
set_option maxHeartbeats 4000000 in
theorem g_X1_countOf (ids : List (Nat × Nat)) (Hn : Ndp ids) (h : Nat) (v1 : Int32) (Hh : InR ids h 15 19) (t0 : Sg) : Gj kI mX1_countOf ids 0 [some (aR (h, 15)), some (aI v1), none, none] [] t0 (f_X1_countOf h v1 t0) := by
  unfold f_X1_countOf
  refine G_st (x_iconst (0 : Int32) dX1_countOf_0 rfl) ?_
  refine G_st (x_istore_n [some (aR (h, 15)), some (aI v1), some (aI (0 : Int32)), none] dX1_countOf_1 (Nat.le_of_ble_eq_true rfl) rfl rfl) ?_
  refine G_st (x_iconst (0 : Int32) dX1_countOf_2 rfl) ?_
  refine G_st (x_istore_n [some (aR (h, 15)), some (aI v1), some (aI (0 : Int32)), some (aI (0 : Int32))] dX1_countOf_3 (Nat.le_of_ble_eq_true rfl) rfl rfl) ?_
  refine G_weak _ ?_ (g_X1_countOf_4 ids Hn h Hh fuel v1 (0 : Int32) (0 : Int32) t0)
  exact (leL_s (leL_s (leL_s (leL_s (leL_e _)))))
set_option maxRecDepth 100000 in
set_option maxHeartbeats 4000000 in
theorem c_X1_countOf (ids : List (Nat × Nat)) (Hn : Ndp ids) (h : Nat) (v1 : Int32) (Hh : InR ids h 15 19) (t0 : Sg) (r : Int32) (t1 : Sg) (hf : f_X1_countOf h v1 t0 = some (r, t1)) : Mt0 mX1_countOf yX1_countOf ids [aR (h, 15), aI v1] t0 (some (aI r)) t1 :=
  Mt_of (x := (r, t1)) (g_X1_countOf ids Hn h v1 Hh t0) hf (by decide) rfl Hn (fun _ => rfl) (fun _ => Nat.le_of_ble_eq_true rfl)
theorem dX6_within_0 : decode cX6_within 0 = .ok (.iload_n 0, 1) := by decide +kernel
theorem dX6_within_1 : decode cX6_within 1 = .ok (.iload_n 1, 1) := by decide +kernel
theorem dX6_within_2 : decode cX6_within 2 = .ok (.if_icmp .lt 12, 3) := by decide +kernel
theorem dX6_within_5 : decode cX6_within 5 = .ok (.iload_n 0, 1) := by decide +kernel
theorem dX6_within_6 : decode cX6_within 6 = .ok (.iload_n 2, 1) := by decide +kernel
theorem dX6_within_7 : decode cX6_within 7 = .ok (.if_icmp .gt 7, 3) := by decide +kernel
theorem dX6_within_10 : decode cX6_within 10 = .ok (.iconst 1, 1) := by decide +kernel
theorem dX6_within_11 : decode cX6_within 11 = .ok (.goto 4, 3) := by decide +kernel
theorem dX6_within_14 : decode cX6_within 14 = .ok (.iconst 0, 1) := by decide +kernel
theorem dX6_within_15 : decode cX6_within 15 = .ok (.ireturn, 1) := by decide +kernel
set_option maxRecDepth 100000 in
set_option maxHeartbeats 4000000 in
theorem g_X6_within (ids : List (Nat × Nat)) (Hn : Ndp ids) (v0 : Int32) (v1 : Int32) (v2 : Int32)  (t0 : Sg) : Gj kI mX6_within ids 0 [some (aI v0), some (aI v1), some (aI v2)] [] t0 (f_X6_within v0 v1 v2 t0) := by
  unfold f_X6_within
  refine G_st (x_iload_n dX6_within_0 rfl) ?_
  refine G_st (x_iload_n dX6_within_1 rfl) ?_
  have e3 : Tj mX6_within ids 2 [some (aI v0), some (aI v1), some (aI v2)] [aI v1, aI v0] t0 15 [some (aI v0), some (aI v1), some (aI v2)] [aI (if v0 < v1 then (0 : Int32) else (if v2 < v0 then (0 : Int32) else (1 : Int32)))] t0 := by
    refine Tj.dia (fun c1 => ?_) (fun c1 => ?_)
    · refine Tj.tr (x_icmp_lt_t (tgt := 14) dX6_within_2 (by decide) c1) ?_
      refine Tj.tr (x_iconst (0 : Int32) dX6_within_14 rfl) ?_
      exact Tj.rf
    · refine Tj.tr (x_icmp_lt_f 14 dX6_within_2 (by decide) c1) ?_
      refine Tj.tr (x_iload_n dX6_within_5 rfl) ?_
      refine Tj.tr (x_iload_n dX6_within_6 rfl) ?_
      refine Tj.dia (fun c2 => ?_) (fun c2 => ?_)
      · refine Tj.tr (x_icmp_gt_t (tgt := 14) dX6_within_7 (by decide) c2) ?_
        refine Tj.tr (x_iconst (0 : Int32) dX6_within_14 rfl) ?_
        exact Tj.rf
      · refine Tj.tr (x_icmp_gt_f 14 dX6_within_7 (by decide) c2) ?_
        refine Tj.tr (x_iconst (1 : Int32) dX6_within_10 rfl) ?_
        refine Tj.tr (x_goto (tgt := 15) dX6_within_11 (by decide)) ?_
        exact Tj.rf
  refine G_st e3 ?_
  exact G_ret rfl ⟨dX6_within_15, _, rfl, nar_b (b_ite (by decide) (b_ite (by decide) (by decide)))⟩ rfl
set_option maxRecDepth 100000 in
set_option maxHeartbeats 4000000 in
theorem c_X6_within (ids : List (Nat × Nat)) (Hn : Ndp ids) (v0 : Int32) (v1 : Int32) (v2 : Int32)  (t0 : Sg) (r : Int32) (t1 : Sg) (hf : f_X6_within v0 v1 v2 t0 = some (r, t1)) : Mt0 mX6_within yX6_within ids [aI v0, aI v1, aI v2] t0 (some (aI r)) t1 :=
  Mt_of (x := (r, t1)) (g_X6_within ids Hn v0 v1 v2  t0) hf (by decide) rfl Hn (fun _ => rfl) (fun _ => Nat.le_of_ble_eq_true rfl)
theorem dX1_putOff_0 : decode cX1_putOff 0 = .ok (.iload_n 1, 1) := by decide +kernel
theorem dX1_putOff_1 : decode cX1_putOff 1 = .ok (.ifCond .ne 10, 3) := by decide +kernel
theorem dX1_putOff_4 : decode cX1_putOff 4 = .ok (.iload_n 2, 1) := by decide +kernel
theorem dX1_putOff_5 : decode cX1_putOff 5 = .ok (.bipush 7, 2) := by decide +kernel
theorem dX1_putOff_7 : decode cX1_putOff 7 = .ok (.if_icmp .ne 4, 3) := by decide +kernel
theorem dX1_putOff_10 : decode cX1_putOff 10 = .ok (.return_, 1) := by decide +kernel
theorem dX1_putOff_11 : decode cX1_putOff 11 = .ok (.iconst 0, 1) := by decide +kernel
theorem dX1_putOff_12 : decode cX1_putOff 12 = .ok (.istore_n 3, 1) := by decide +kernel
theorem dX1_putOff_13 : decode cX1_putOff 13 = .ok (.iload_n 3, 1) := by decide +kernel
theorem dX1_putOff_14 : decode cX1_putOff 14 = .ok (.aload_n 0, 1) := by decide +kernel
theorem dX1_putOff_15 : decode cX1_putOff 15 = .ok (.getfield 24, 3) := by decide +kernel
theorem dX1_putOff_18 : decode cX1_putOff 18 = .ok (.if_icmp .ge 46, 3) := by decide +kernel
theorem dX1_putOff_21 : decode cX1_putOff 21 = .ok (.aload_n 0, 1) := by decide +kernel
theorem dX1_putOff_22 : decode cX1_putOff 22 = .ok (.getfield 21, 3) := by decide +kernel
theorem dX1_putOff_25 : decode cX1_putOff 25 = .ok (.iload_n 3, 1) := by decide +kernel
theorem dX1_putOff_26 : decode cX1_putOff 26 = .ok (.invokestatic 36, 3) := by decide +kernel
theorem dX1_putOff_29 : decode cX1_putOff 29 = .ok (.iload_n 1, 1) := by decide +kernel
theorem dX1_putOff_30 : decode cX1_putOff 30 = .ok (.iload_n 2, 1) := by decide +kernel
theorem dX1_putOff_31 : decode cX1_putOff 31 = .ok (.invokestatic 40, 3) := by decide +kernel
theorem dX1_putOff_34 : decode cX1_putOff 34 = .ok (.ifCond .eq 24, 3) := by decide +kernel
theorem dX1_putOff_37 : decode cX1_putOff 37 = .ok (.aload_n 0, 1) := by decide +kernel
theorem dX1_putOff_38 : decode cX1_putOff 38 = .ok (.getfield 21, 3) := by decide +kernel
theorem dX1_putOff_41 : decode cX1_putOff 41 = .ok (.iload_n 3, 1) := by decide +kernel
theorem dX1_putOff_42 : decode cX1_putOff 42 = .ok (.iload_n 2, 1) := by decide +kernel
theorem dX1_putOff_43 : decode cX1_putOff 43 = .ok (.bipush 7, 2) := by decide +kernel
theorem dX1_putOff_45 : decode cX1_putOff 45 = .ok (.if_icmp .ne 7, 3) := by decide +kernel
theorem dX1_putOff_48 : decode cX1_putOff 48 = .ok (.iconst 0, 1) := by decide +kernel
theorem dX1_putOff_49 : decode cX1_putOff 49 = .ok (.goto 6, 3) := by decide +kernel
theorem dX1_putOff_52 : decode cX1_putOff 52 = .ok (.iload_n 2, 1) := by decide +kernel
theorem dX1_putOff_53 : decode cX1_putOff 53 = .ok (.iconst 1, 1) := by decide +kernel
theorem dX1_putOff_54 : decode cX1_putOff 54 = .ok (.iadd, 1) := by decide +kernel
theorem dX1_putOff_55 : decode cX1_putOff 55 = .ok (.invokestatic 28, 3) := by decide +kernel
theorem dX1_putOff_58 : decode cX1_putOff 58 = .ok (.iinc 3 1, 3) := by decide +kernel
theorem dX1_putOff_61 : decode cX1_putOff 61 = .ok (.goto (-48), 3) := by decide +kernel
theorem dX1_putOff_64 : decode cX1_putOff 64 = .ok (.return_, 1) := by decide +kernel
set_option maxRecDepth 100000 in
set_option maxHeartbeats 4000000 in
theorem g_X1_putOff_58 (ids : List (Nat × Nat)) (Hn : Ndp ids) (h : Nat) (Hh : InR ids h 15 19) (k13 : Int32 → Int32 → Int32 → Sg → Option (Unit × Sg)) (hk13 : ∀ (v1 : Int32) (v2 : Int32) (v3 : Int32) (t0 : Sg), Gj kV mX1_putOff ids 13 [some (aR (h, 15)), some (aI v1), some (aI v2), some (aI v3)] [] t0 (k13 v1 v2 v3 t0)) (v1 : Int32) (v2 : Int32) (v3 : Int32) (t0 : Sg) : Gj kV mX1_putOff ids 58 [some (aR (h, 15)), some (aI v1), some (aI v2), some (aI v3)] [] t0 (f_X1_putOff_58 h k13 v1 v2 v3 t0) := by
  unfold f_X1_putOff_58
  refine G_st (x_iinc (v3 + (1 : Int32)) [some (aR (h, 15)), some (aI v1), some (aI v2), some (aI (v3 + (1 : Int32)))] dX1_putOff_58 (Nat.le_of_ble_eq_true rfl) rfl rfl rfl rfl) ?_
  refine G_st (x_goto (tgt := 13) dX1_putOff_61 (by decide)) ?_
  refine G_weak _ ?_ (hk13 v1 v2 (v3 + (1 : Int32)) t0)
  exact (leL_s (leL_s (leL_s (leL_s (leL_e _)))))
set_option maxRecDepth 100000 in
set_option maxHeartbeats 4000000 in
theorem g_X1_putOff_13 (ids : List (Nat × Nat)) (Hn : Ndp ids) (h : Nat) (Hh : InR ids h 15 19)  : ∀ (n : Nat) (v1 : Int32) (v2 : Int32) (v3 : Int32) (t0 : Sg), Gj kV mX1_putOff ids 13 [some (aR (h, 15)), some (aI v1), some (aI v2), some (aI v3)] [] t0 (f_X1_putOff_13 h n v1 v2 v3 t0) := by
  intro n
  induction n with
  | zero => intro v1 v2 v3 t0; exact G_none
  | succ n ih =>
    intro v1 v2 v3 t0
    rw [f_X1_putOff_13]
    refine G_st (x_iload_n dX1_putOff_13 rfl) ?_
    refine G_st (x_aload_n dX1_putOff_14 rfl) ?_
    refine G_st (x_get (k := 0) (aI (t0 (h, 15) 0)) dX1_putOff_15 (Hh 15 (Nat.le_of_ble_eq_true rfl) (Nat.le_of_ble_eq_true rfl)) rfl rfl rfl rfl inTX1 (Nat.le_of_ble_eq_true rfl) tw_169 (fun ad => rfl)) ?_
    refine G_ite (fun c3 => ?_) (fun c3 => ?_)
    · refine G_st (x_icmp_ge_t (tgt := 64) dX1_putOff_18 (by decide) c3) ?_
      exact G_ret rfl ⟨rfl, dX1_putOff_64⟩ rfl
    · refine G_st (x_icmp_ge_f 64 dX1_putOff_18 (by decide) c3) ?_
      refine G_st (x_aload_n dX1_putOff_21 rfl) ?_
      refine G_st (x_get (k := 4) (aR (h, 19)) dX1_putOff_22 (Hh 15 (Nat.le_of_ble_eq_true rfl) (Nat.le_of_ble_eq_true rfl)) rfl rfl rfl rfl inTX1 (Nat.le_of_ble_eq_true rfl) tw_184 (fun ad => rfl)) ?_
      refine G_st (x_iload_n dX1_putOff_25 rfl) ?_
      refine G_bd (fun x4 t5 h6 => ?_)
      refine G_st (x_callN [] (c_X6_get ids Hn (h, 19) v3 (Hh 19 (Nat.le_of_ble_eq_true rfl) (Nat.le_of_ble_eq_true rfl)) rfl _ _ _ h6) dX1_putOff_26 (List.mem_of_getElem? (i := 15) rfl) kc_X6_get rfl ⟨Nat.le_of_ble_eq_true rfl, Nat.le_of_ble_eq_true rfl⟩ (Nat.le_of_ble_eq_true rfl) rfl) ?_
      refine G_st (x_iload_n dX1_putOff_29 rfl) ?_
      refine G_st (x_iload_n dX1_putOff_30 rfl) ?_
      refine G_bd (fun x7 t8 h9 => ?_)
      refine G_st (x_callN [] (c_X6_within ids Hn x4 v1 v2  _ _ _ h9) dX1_putOff_31 (List.mem_of_getElem? (i := 22) rfl) kc_X6_within rfl ⟨Nat.le_of_ble_eq_true rfl, Nat.le_of_ble_eq_true rfl⟩ (Nat.le_of_ble_eq_true rfl) rfl) ?_
      refine G_ite (fun c10 => ?_) (fun c10 => ?_)
      · refine G_st (x_if_eq_t (tgt := 58) dX1_putOff_34 (by decide) c10) ?_
        refine G_weak _ ?_ (g_X1_putOff_58 ids Hn h Hh (f_X1_putOff_13 h n) (ih) v1 v2 v3 t8)
        exact (leL_s (leL_s (leL_s (leL_s (leL_e _)))))
      · refine G_st (x_if_eq_f 58 dX1_putOff_34 (by decide) c10) ?_
        refine G_st (x_aload_n dX1_putOff_37 rfl) ?_
        refine G_st (x_get (k := 4) (aR (h, 19)) dX1_putOff_38 (Hh 15 (Nat.le_of_ble_eq_true rfl) (Nat.le_of_ble_eq_true rfl)) rfl rfl rfl rfl inTX1 (Nat.le_of_ble_eq_true rfl) tw_184 (fun ad => rfl)) ?_
        refine G_st (x_iload_n dX1_putOff_41 rfl) ?_
        refine G_st (x_iload_n dX1_putOff_42 rfl) ?_
        refine G_st (x_bipush (7 : Int32) dX1_putOff_43 rfl) ?_
        have e12 : Tj mX1_putOff ids 45 [some (aR (h, 15)), some (aI v1), some (aI v2), some (aI v3)] [aI (7 : Int32), aI v2, aI v3, aR (h, 19)] t8 55 [some (aR (h, 15)), some (aI v1), some (aI v2), some (aI v3)] [aI (if v2 = (7 : Int32) then (0 : Int32) else (v2 + (1 : Int32))), aI v3, aR (h, 19)] t8 := by
          refine Tj.dia (fun c11 => ?_) (fun c11 => ?_)
          · refine Tj.tr (x_icmp_ne_f 52 dX1_putOff_45 (by decide) c11) ?_
            refine Tj.tr (x_iconst (0 : Int32) dX1_putOff_48 rfl) ?_
            refine Tj.tr (x_goto (tgt := 55) dX1_putOff_49 (by decide)) ?_
            exact Tj.rf
          · refine Tj.tr (x_icmp_ne_t (tgt := 52) dX1_putOff_45 (by decide) c11) ?_
            refine Tj.tr (x_iload_n dX1_putOff_52 rfl) ?_
            refine Tj.tr (x_iconst (1 : Int32) dX1_putOff_53 rfl) ?_
            refine Tj.tr (x_iadd dX1_putOff_54) ?_
            exact Tj.rf
        refine G_st e12 ?_
        refine G_bd (fun _ t14 h15 => ?_)
        refine G_st (x_callN [] (c_X6_set ids Hn (h, 19) v3 (if v2 = (7 : Int32) then (0 : Int32) else (v2 + (1 : Int32))) (Hh 19 (Nat.le_of_ble_eq_true rfl) (Nat.le_of_ble_eq_true rfl)) rfl _ _ _ h15) dX1_putOff_55 (List.mem_of_getElem? (i := 13) rfl) kc_X6_set rfl ⟨Nat.le_of_ble_eq_true rfl, Nat.le_of_ble_eq_true rfl⟩ (Nat.le_of_ble_eq_true rfl) rfl) ?_
        refine G_weak _ ?_ (g_X1_putOff_58 ids Hn h Hh (f_X1_putOff_13 h n) (ih) v1 v2 v3 t14)
        exact (leL_s (leL_s (leL_s (leL_s (leL_e _)))))
set_option maxRecDepth 100000 in
set_option maxHeartbeats 4000000 in
theorem g_X1_putOff_11 (ids : List (Nat × Nat)) (Hn : Ndp ids) (h : Nat) (Hh : InR ids h 15 19)  (v1 : Int32) (v2 : Int32) (t0 : Sg) : Gj kV mX1_putOff ids 11 [some (aR (h, 15)), some (aI v1), some (aI v2), none] [] t0 (f_X1_putOff_11 h v1 v2 t0) := by
  unfold f_X1_putOff_11
  refine G_st (x_iconst (0 : Int32) dX1_putOff_11 rfl) ?_
  refine G_st (x_istore_n [some (aR (h, 15)), some (aI v1), some (aI v2), some (aI (0 : Int32))] dX1_putOff_12 (Nat.le_of_ble_eq_true rfl) rfl rfl) ?_
  refine G_weak _ ?_ (g_X1_putOff_13 ids Hn h Hh fuel v1 v2 (0 : Int32) t0)
  exact (leL_s (leL_s (leL_s (leL_s (leL_e _)))))
set_option maxRecDepth 100000 in
set_option maxHeartbeats 4000000 in
theorem g_X1_putOff (ids : List (Nat × Nat)) (Hn : Ndp ids) (h : Nat) (v1 : Int32) (v2 : Int32) (Hh : InR ids h 15 19) (t0 : Sg) : Gj kV mX1_putOff ids 0 [some (aR (h, 15)), some (aI v1), some (aI v2), none] [] t0 (f_X1_putOff h v1 v2 t0) := by
  unfold f_X1_putOff
  refine G_st (x_iload_n dX1_putOff_0 rfl) ?_
  refine G_ite (fun c1 => ?_) (fun c1 => ?_)
  · refine G_st (x_if_ne_f 11 dX1_putOff_1 (by decide) c1) ?_
    refine G_st (x_iload_n dX1_putOff_4 rfl) ?_
    refine G_st (x_bipush (7 : Int32) dX1_putOff_5 rfl) ?_
    refine G_ite (fun c2 => ?_) (fun c2 => ?_)
    · refine G_st (x_icmp_ne_f 11 dX1_putOff_7 (by decide) c2) ?_
      exact G_ret rfl ⟨rfl, dX1_putOff_10⟩ rfl
    · refine G_st (x_icmp_ne_t (tgt := 11) dX1_putOff_7 (by decide) c2) ?_
      refine G_weak _ ?_ (g_X1_putOff_11 ids Hn h Hh v1 v2 t0)
      exact (leL_s (leL_s (leL_s (leL_n (leL_e _)))))
  · refine G_st (x_if_ne_t (tgt := 11) dX1_putOff_1 (by decide) c1) ?_
    refine G_weak _ ?_ (g_X1_putOff_11 ids Hn h Hh v1 v2 t0)
    exact (leL_s (leL_s (leL_s (leL_n (leL_e _)))))
set_option maxRecDepth 100000 in
set_option maxHeartbeats 4000000 in
theorem c_X1_putOff (ids : List (Nat × Nat)) (Hn : Ndp ids) (h : Nat) (v1 : Int32) (v2 : Int32) (Hh : InR ids h 15 19) (t0 : Sg) (r : Unit) (t1 : Sg) (hf : f_X1_putOff h v1 v2 t0 = some (r, t1)) : Mt0 mX1_putOff yX1_putOff ids [aR (h, 15), aI v1, aI v2] t0 none t1 :=
  Mt_of (x := (r, t1)) (g_X1_putOff ids Hn h v1 v2 Hh t0) hf (by decide) rfl Hn (fun _ => rfl) (fun _ => Nat.le_of_ble_eq_true rfl)
theorem dX1_raise_0 : decode cX1_raise 0 = .ok (.iconst 0, 1) := by decide +kernel
theorem dX1_raise_1 : decode cX1_raise 1 = .ok (.istore_n 2, 1) := by decide +kernel
theorem dX1_raise_2 : decode cX1_raise 2 = .ok (.iload_n 2, 1) := by decide +kernel
theorem dX1_raise_3 : decode cX1_raise 3 = .ok (.aload_n 0, 1) := by decide +kernel
theorem dX1_raise_4 : decode cX1_raise 4 = .ok (.getfield 24, 3) := by decide +kernel
theorem dX1_raise_7 : decode cX1_raise 7 = .ok (.if_icmp .ge 44, 3) := by decide +kernel
theorem dX1_raise_10 : decode cX1_raise 10 = .ok (.aload_n 0, 1) := by decide +kernel
theorem dX1_raise_11 : decode cX1_raise 11 = .ok (.getfield 9, 3) := by decide +kernel
theorem dX1_raise_14 : decode cX1_raise 14 = .ok (.iload_n 2, 1) := by decide +kernel
theorem dX1_raise_15 : decode cX1_raise 15 = .ok (.invokestatic 36, 3) := by decide +kernel
theorem dX1_raise_18 : decode cX1_raise 18 = .ok (.iload_n 1, 1) := by decide +kernel
theorem dX1_raise_19 : decode cX1_raise 19 = .ok (.if_icmp .ne 26, 3) := by decide +kernel
theorem dX1_raise_22 : decode cX1_raise 22 = .ok (.aload_n 0, 1) := by decide +kernel
theorem dX1_raise_23 : decode cX1_raise 23 = .ok (.getfield 18, 3) := by decide +kernel
theorem dX1_raise_26 : decode cX1_raise 26 = .ok (.iload_n 2, 1) := by decide +kernel
theorem dX1_raise_27 : decode cX1_raise 27 = .ok (.bipush 9, 2) := by decide +kernel
theorem dX1_raise_29 : decode cX1_raise 29 = .ok (.aload_n 0, 1) := by decide +kernel
theorem dX1_raise_30 : decode cX1_raise 30 = .ok (.getfield 18, 3) := by decide +kernel
theorem dX1_raise_33 : decode cX1_raise 33 = .ok (.iload_n 2, 1) := by decide +kernel
theorem dX1_raise_34 : decode cX1_raise 34 = .ok (.invokestatic 36, 3) := by decide +kernel
theorem dX1_raise_37 : decode cX1_raise 37 = .ok (.iconst 1, 1) := by decide +kernel
theorem dX1_raise_38 : decode cX1_raise 38 = .ok (.iadd, 1) := by decide +kernel
theorem dX1_raise_39 : decode cX1_raise 39 = .ok (.invokestatic 44, 3) := by decide +kernel
theorem dX1_raise_42 : decode cX1_raise 42 = .ok (.invokestatic 28, 3) := by decide +kernel
theorem dX1_raise_45 : decode cX1_raise 45 = .ok (.iinc 2 1, 3) := by decide +kernel
theorem dX1_raise_48 : decode cX1_raise 48 = .ok (.goto (-46), 3) := by decide +kernel
theorem dX1_raise_51 : decode cX1_raise 51 = .ok (.return_, 1) := by decide +kernel
set_option maxRecDepth 100000 in
set_option maxHeartbeats 4000000 in
theorem g_X1_raise_45 (ids : List (Nat × Nat)) (Hn : Ndp ids) (h : Nat) (Hh : InR ids h 15 19) (k2 : Int32 → Int32 → Sg → Option (Unit × Sg)) (hk2 : ∀ (v1 : Int32) (v2 : Int32) (t0 : Sg), Gj kV mX1_raise ids 2 [some (aR (h, 15)), some (aI v1), some (aI v2)] [] t0 (k2 v1 v2 t0)) (v1 : Int32) (v2 : Int32) (t0 : Sg) : Gj kV mX1_raise ids 45 [some (aR (h, 15)), some (aI v1), some (aI v2)] [] t0 (f_X1_raise_45 h k2 v1 v2 t0) := by
  unfold f_X1_raise_45
  refine G_st (x_iinc (v2 + (1 : Int32)) [some (aR (h, 15)), some (aI v1), some (aI (v2 + (1 : Int32)))] dX1_raise_45 (Nat.le_of_ble_eq_true rfl) rfl rfl rfl rfl) ?_
  refine G_st (x_goto (tgt := 2) dX1_raise_48 (by decide)) ?_
  refine G_weak _ ?_ (hk2 v1 (v2 + (1 : Int32)) t0)
  exact (leL_s (leL_s (leL_s (leL_e _))))
set_option maxRecDepth 100000 in
set_option maxHeartbeats 4000000 in
theorem g_X1_raise_2 (ids : List (Nat × Nat)) (Hn : Ndp ids) (h : Nat) (Hh : InR ids h 15 19)  : ∀ (n : Nat) (v1 : Int32) (v2 : Int32) (t0 : Sg), Gj kV mX1_raise ids 2 [some (aR (h, 15)), some (aI v1), some (aI v2)] [] t0 (f_X1_raise_2 h n v1 v2 t0) := by
  intro n
  induction n with
  | zero => intro v1 v2 t0; exact G_none
  | succ n ih =>
    intro v1 v2 t0
    rw [f_X1_raise_2]
    refine G_st (x_iload_n dX1_raise_2 rfl) ?_
    refine G_st (x_aload_n dX1_raise_3 rfl) ?_
    refine G_st (x_get (k := 0) (aI (t0 (h, 15) 0)) dX1_raise_4 (Hh 15 (Nat.le_of_ble_eq_true rfl) (Nat.le_of_ble_eq_true rfl)) rfl rfl rfl rfl inTX1 (Nat.le_of_ble_eq_true rfl) tw_169 (fun ad => rfl)) ?_
    refine G_ite (fun c1 => ?_) (fun c1 => ?_)
    · refine G_st (x_icmp_ge_t (tgt := 51) dX1_raise_7 (by decide) c1) ?_
      exact G_ret rfl ⟨rfl, dX1_raise_51⟩ rfl
    · refine G_st (x_icmp_ge_f 51 dX1_raise_7 (by decide) c1) ?_
      refine G_st (x_aload_n dX1_raise_10 rfl) ?_
      refine G_st (x_get (k := 1) (aR (h, 16)) dX1_raise_11 (Hh 15 (Nat.le_of_ble_eq_true rfl) (Nat.le_of_ble_eq_true rfl)) rfl rfl rfl rfl inTX1 (Nat.le_of_ble_eq_true rfl) tw_173 (fun ad => rfl)) ?_
      refine G_st (x_iload_n dX1_raise_14 rfl) ?_
      refine G_bd (fun x2 t3 h4 => ?_)
      refine G_st (x_callN [] (c_X6_get ids Hn (h, 16) v2 (Hh 16 (Nat.le_of_ble_eq_true rfl) (Nat.le_of_ble_eq_true rfl)) rfl _ _ _ h4) dX1_raise_15 (List.mem_of_getElem? (i := 15) rfl) kc_X6_get rfl ⟨Nat.le_of_ble_eq_true rfl, Nat.le_of_ble_eq_true rfl⟩ (Nat.le_of_ble_eq_true rfl) rfl) ?_
      refine G_st (x_iload_n dX1_raise_18 rfl) ?_
      refine G_ite (fun c5 => ?_) (fun c5 => ?_)
      · refine G_st (x_icmp_ne_f 45 dX1_raise_19 (by decide) c5) ?_
        refine G_st (x_aload_n dX1_raise_22 rfl) ?_
        refine G_st (x_get (k := 3) (aR (h, 18)) dX1_raise_23 (Hh 15 (Nat.le_of_ble_eq_true rfl) (Nat.le_of_ble_eq_true rfl)) rfl rfl rfl rfl inTX1 (Nat.le_of_ble_eq_true rfl) tw_181 (fun ad => rfl)) ?_
        refine G_st (x_iload_n dX1_raise_26 rfl) ?_
        refine G_st (x_bipush (9 : Int32) dX1_raise_27 rfl) ?_
        refine G_st (x_aload_n dX1_raise_29 rfl) ?_
        refine G_st (x_get (k := 3) (aR (h, 18)) dX1_raise_30 (Hh 15 (Nat.le_of_ble_eq_true rfl) (Nat.le_of_ble_eq_true rfl)) rfl rfl rfl rfl inTX1 (Nat.le_of_ble_eq_true rfl) tw_181 (fun ad => rfl)) ?_
        refine G_st (x_iload_n dX1_raise_33 rfl) ?_
        refine G_bd (fun x6 t7 h8 => ?_)
        refine G_st (x_callN [aI (9 : Int32), aI v2, aR (h, 18)] (c_X6_get ids Hn (h, 18) v2 (Hh 18 (Nat.le_of_ble_eq_true rfl) (Nat.le_of_ble_eq_true rfl)) rfl _ _ _ h8) dX1_raise_34 (List.mem_of_getElem? (i := 15) rfl) kc_X6_get rfl ⟨Nat.le_of_ble_eq_true rfl, Nat.le_of_ble_eq_true rfl⟩ (Nat.le_of_ble_eq_true rfl) rfl) ?_
        refine G_st (x_iconst (1 : Int32) dX1_raise_37 rfl) ?_
        refine G_st (x_iadd dX1_raise_38) ?_
        refine G_st (x_mmin dX1_raise_39 tw_786 tw_444 tw_74 tw_445 ⟨Nat.le_of_ble_eq_true rfl, Nat.le_of_ble_eq_true rfl⟩ (Nat.le_of_ble_eq_true rfl)) ?_
        refine G_bd (fun _ t10 h11 => ?_)
        refine G_st (x_callN [] (c_X6_set ids Hn (h, 18) v2 (jmin (9 : Int32) (x6 + (1 : Int32))) (Hh 18 (Nat.le_of_ble_eq_true rfl) (Nat.le_of_ble_eq_true rfl)) rfl _ _ _ h11) dX1_raise_42 (List.mem_of_getElem? (i := 13) rfl) kc_X6_set rfl ⟨Nat.le_of_ble_eq_true rfl, Nat.le_of_ble_eq_true rfl⟩ (Nat.le_of_ble_eq_true rfl) rfl) ?_
        refine G_weak _ ?_ (g_X1_raise_45 ids Hn h Hh (f_X1_raise_2 h n) (ih) v1 v2 t10)
        exact (leL_s (leL_s (leL_s (leL_e _))))
      · refine G_st (x_icmp_ne_t (tgt := 45) dX1_raise_19 (by decide) c5) ?_
        refine G_weak _ ?_ (g_X1_raise_45 ids Hn h Hh (f_X1_raise_2 h n) (ih) v1 v2 t3)
        exact (leL_s (leL_s (leL_s (leL_e _))))
set_option maxRecDepth 100000 in
set_option maxHeartbeats 4000000 in
theorem g_X1_raise (ids : List (Nat × Nat)) (Hn : Ndp ids) (h : Nat) (v1 : Int32) (Hh : InR ids h 15 19) (t0 : Sg) : Gj kV mX1_raise ids 0 [some (aR (h, 15)), some (aI v1), none] [] t0 (f_X1_raise h v1 t0) := by
  unfold f_X1_raise
  refine G_st (x_iconst (0 : Int32) dX1_raise_0 rfl) ?_
  refine G_st (x_istore_n [some (aR (h, 15)), some (aI v1), some (aI (0 : Int32))] dX1_raise_1 (Nat.le_of_ble_eq_true rfl) rfl rfl) ?_
  refine G_weak _ ?_ (g_X1_raise_2 ids Hn h Hh fuel v1 (0 : Int32) t0)
  exact (leL_s (leL_s (leL_s (leL_e _))))
set_option maxRecDepth 100000 in
set_option maxHeartbeats 4000000 in
theorem c_X1_raise (ids : List (Nat × Nat)) (Hn : Ndp ids) (h : Nat) (v1 : Int32) (Hh : InR ids h 15 19) (t0 : Sg) (r : Unit) (t1 : Sg) (hf : f_X1_raise h v1 t0 = some (r, t1)) : Mt0 mX1_raise yX1_raise ids [aR (h, 15), aI v1] t0 none t1 :=
  Mt_of (x := (r, t1)) (g_X1_raise ids Hn h v1 Hh t0) hf (by decide) rfl Hn (fun _ => rfl) (fun _ => Nat.le_of_ble_eq_true rfl)
theorem dX3_copyFrom_0 : decode cX3_copyFrom 0 = .ok (.aload_n 1, 1) := by decide +kernel
theorem dX3_copyFrom_1 : decode cX3_copyFrom 1 = .ok (.getfield 9, 3) := by decide +kernel
theorem dX3_copyFrom_4 : decode cX3_copyFrom 4 = .ok (.aload_n 0, 1) := by decide +kernel
theorem dX3_copyFrom_5 : decode cX3_copyFrom 5 = .ok (.getfield 9, 3) := by decide +kernel
theorem dX3_copyFrom_8 : decode cX3_copyFrom 8 = .ok (.invokestatic 33, 3) := by decide +kernel
theorem dX3_copyFrom_11 : decode cX3_copyFrom 11 = .ok (.aload_n 1, 1) := by decide +kernel
theorem dX3_copyFrom_12 : decode cX3_copyFrom 12 = .ok (.getfield 15, 3) := by decide +kernel
theorem dX3_copyFrom_15 : decode cX3_copyFrom 15 = .ok (.aload_n 0, 1) := by decide +kernel
theorem dX3_copyFrom_16 : decode cX3_copyFrom 16 = .ok (.getfield 15, 3) := by decide +kernel
theorem dX3_copyFrom_19 : decode cX3_copyFrom 19 = .ok (.invokestatic 33, 3) := by decide +kernel
theorem dX3_copyFrom_22 : decode cX3_copyFrom 22 = .ok (.aload_n 1, 1) := by decide +kernel
theorem dX3_copyFrom_23 : decode cX3_copyFrom 23 = .ok (.getfield 18, 3) := by decide +kernel
theorem dX3_copyFrom_26 : decode cX3_copyFrom 26 = .ok (.aload_n 0, 1) := by decide +kernel
theorem dX3_copyFrom_27 : decode cX3_copyFrom 27 = .ok (.getfield 18, 3) := by decide +kernel
theorem dX3_copyFrom_30 : decode cX3_copyFrom 30 = .ok (.invokestatic 33, 3) := by decide +kernel
theorem dX3_copyFrom_33 : decode cX3_copyFrom 33 = .ok (.aload_n 1, 1) := by decide +kernel
theorem dX3_copyFrom_34 : decode cX3_copyFrom 34 = .ok (.getfield 21, 3) := by decide +kernel
theorem dX3_copyFrom_37 : decode cX3_copyFrom 37 = .ok (.aload_n 0, 1) := by decide +kernel
theorem dX3_copyFrom_38 : decode cX3_copyFrom 38 = .ok (.getfield 21, 3) := by decide +kernel
theorem dX3_copyFrom_41 : decode cX3_copyFrom 41 = .ok (.invokestatic 33, 3) := by decide +kernel
theorem dX3_copyFrom_44 : decode cX3_copyFrom 44 = .ok (.aload_n 0, 1) := by decide +kernel
theorem dX3_copyFrom_45 : decode cX3_copyFrom 45 = .ok (.aload_n 1, 1) := by decide +kernel
theorem dX3_copyFrom_46 : decode cX3_copyFrom 46 = .ok (.getfield 37, 3) := by decide +kernel
theorem dX3_copyFrom_49 : decode cX3_copyFrom 49 = .ok (.putfield 37, 3) := by decide +kernel
theorem dX3_copyFrom_52 : decode cX3_copyFrom 52 = .ok (.return_, 1) := by decide +kernel
set_option maxRecDepth 100000 in
set_option maxHeartbeats 4000000 in
theorem g_X3_copyFrom (ids : List (Nat × Nat)) (Hn : Ndp ids) (h : Nat) (g : Nat) (Hh : InR ids h 20 24) (Hg : InR ids g 20 24) (t0 : Sg) : Gj kV mX3_copyFrom ids 0 [some (aR (h, 20)), some (aR (g, 20))] [] t0 (f_X3_copyFrom h g t0) := by
  unfold f_X3_copyFrom
  refine G_st (x_aload_n dX3_copyFrom_0 rfl) ?_
  refine G_st (x_get (k := 0) (aR (g, 21)) dX3_copyFrom_1 (Hg 20 (Nat.le_of_ble_eq_true rfl) (Nat.le_of_ble_eq_true rfl)) rfl rfl rfl rfl inTX3 (Nat.le_of_ble_eq_true rfl) tw_204 (fun ad => rfl)) ?_
  refine G_st (x_aload_n dX3_copyFrom_4 rfl) ?_
  refine G_st (x_get (k := 0) (aR (h, 21)) dX3_copyFrom_5 (Hh 20 (Nat.le_of_ble_eq_true rfl) (Nat.le_of_ble_eq_true rfl)) rfl rfl rfl rfl inTX3 (Nat.le_of_ble_eq_true rfl) tw_204 (fun ad => rfl)) ?_
  refine G_bd (fun _ t2 h3 => ?_)
  refine G_st (x_callN [] (c_X6_copy ids Hn (g, 21) (h, 21) (Hg 21 (Nat.le_of_ble_eq_true rfl) (Nat.le_of_ble_eq_true rfl)) rfl (Hh 21 (Nat.le_of_ble_eq_true rfl) (Nat.le_of_ble_eq_true rfl)) rfl _ _ _ h3) dX3_copyFrom_8 (List.mem_of_getElem? (i := 12) rfl) kc_X6_copy rfl ⟨Nat.le_of_ble_eq_true rfl, Nat.le_of_ble_eq_true rfl⟩ (Nat.le_of_ble_eq_true rfl) rfl) ?_
  refine G_st (x_aload_n dX3_copyFrom_11 rfl) ?_
  refine G_st (x_get (k := 1) (aR (g, 22)) dX3_copyFrom_12 (Hg 20 (Nat.le_of_ble_eq_true rfl) (Nat.le_of_ble_eq_true rfl)) rfl rfl rfl rfl inTX3 (Nat.le_of_ble_eq_true rfl) tw_206 (fun ad => rfl)) ?_
  refine G_st (x_aload_n dX3_copyFrom_15 rfl) ?_
  refine G_st (x_get (k := 1) (aR (h, 22)) dX3_copyFrom_16 (Hh 20 (Nat.le_of_ble_eq_true rfl) (Nat.le_of_ble_eq_true rfl)) rfl rfl rfl rfl inTX3 (Nat.le_of_ble_eq_true rfl) tw_206 (fun ad => rfl)) ?_
  refine G_bd (fun _ t5 h6 => ?_)
  refine G_st (x_callN [] (c_X6_copy ids Hn (g, 22) (h, 22) (Hg 22 (Nat.le_of_ble_eq_true rfl) (Nat.le_of_ble_eq_true rfl)) rfl (Hh 22 (Nat.le_of_ble_eq_true rfl) (Nat.le_of_ble_eq_true rfl)) rfl _ _ _ h6) dX3_copyFrom_19 (List.mem_of_getElem? (i := 12) rfl) kc_X6_copy rfl ⟨Nat.le_of_ble_eq_true rfl, Nat.le_of_ble_eq_true rfl⟩ (Nat.le_of_ble_eq_true rfl) rfl) ?_
  refine G_st (x_aload_n dX3_copyFrom_22 rfl) ?_
  refine G_st (x_get (k := 2) (aR (g, 23)) dX3_copyFrom_23 (Hg 20 (Nat.le_of_ble_eq_true rfl) (Nat.le_of_ble_eq_true rfl)) rfl rfl rfl rfl inTX3 (Nat.le_of_ble_eq_true rfl) tw_208 (fun ad => rfl)) ?_
  refine G_st (x_aload_n dX3_copyFrom_26 rfl) ?_
  refine G_st (x_get (k := 2) (aR (h, 23)) dX3_copyFrom_27 (Hh 20 (Nat.le_of_ble_eq_true rfl) (Nat.le_of_ble_eq_true rfl)) rfl rfl rfl rfl inTX3 (Nat.le_of_ble_eq_true rfl) tw_208 (fun ad => rfl)) ?_
  refine G_bd (fun _ t8 h9 => ?_)
  refine G_st (x_callN [] (c_X6_copy ids Hn (g, 23) (h, 23) (Hg 23 (Nat.le_of_ble_eq_true rfl) (Nat.le_of_ble_eq_true rfl)) rfl (Hh 23 (Nat.le_of_ble_eq_true rfl) (Nat.le_of_ble_eq_true rfl)) rfl _ _ _ h9) dX3_copyFrom_30 (List.mem_of_getElem? (i := 12) rfl) kc_X6_copy rfl ⟨Nat.le_of_ble_eq_true rfl, Nat.le_of_ble_eq_true rfl⟩ (Nat.le_of_ble_eq_true rfl) rfl) ?_
  refine G_st (x_aload_n dX3_copyFrom_33 rfl) ?_
  refine G_st (x_get (k := 3) (aR (g, 24)) dX3_copyFrom_34 (Hg 20 (Nat.le_of_ble_eq_true rfl) (Nat.le_of_ble_eq_true rfl)) rfl rfl rfl rfl inTX3 (Nat.le_of_ble_eq_true rfl) tw_210 (fun ad => rfl)) ?_
  refine G_st (x_aload_n dX3_copyFrom_37 rfl) ?_
  refine G_st (x_get (k := 3) (aR (h, 24)) dX3_copyFrom_38 (Hh 20 (Nat.le_of_ble_eq_true rfl) (Nat.le_of_ble_eq_true rfl)) rfl rfl rfl rfl inTX3 (Nat.le_of_ble_eq_true rfl) tw_210 (fun ad => rfl)) ?_
  refine G_bd (fun _ t11 h12 => ?_)
  refine G_st (x_callN [] (c_X6_copy ids Hn (g, 24) (h, 24) (Hg 24 (Nat.le_of_ble_eq_true rfl) (Nat.le_of_ble_eq_true rfl)) rfl (Hh 24 (Nat.le_of_ble_eq_true rfl) (Nat.le_of_ble_eq_true rfl)) rfl _ _ _ h12) dX3_copyFrom_41 (List.mem_of_getElem? (i := 12) rfl) kc_X6_copy rfl ⟨Nat.le_of_ble_eq_true rfl, Nat.le_of_ble_eq_true rfl⟩ (Nat.le_of_ble_eq_true rfl) rfl) ?_
  refine G_st (x_aload_n dX3_copyFrom_44 rfl) ?_
  refine G_st (x_aload_n dX3_copyFrom_45 rfl) ?_
  refine G_st (x_get (k := 4) (aI (t11 (g, 20) 4)) dX3_copyFrom_46 (Hg 20 (Nat.le_of_ble_eq_true rfl) (Nat.le_of_ble_eq_true rfl)) rfl rfl rfl rfl inTX3 (Nat.le_of_ble_eq_true rfl) tw_211 (fun ad => rfl)) ?_
  refine G_st (x_put (k := 4) (ty := .int) (v := aI (t11 (g, 20) 4)) (z := (t11 (g, 20) 4)) (upS t11 (h, 20) 4 (t11 (g, 20) 4)) dX3_copyFrom_49 (Hh 20 (Nat.le_of_ble_eq_true rfl) (Nat.le_of_ble_eq_true rfl)) rfl rfl rfl rfl inTX3 tyX3_ok nmX3 (Nat.le_of_ble_eq_true rfl) tw_211 rfl rfl (fun ad => rfl) (fun ad => rfl) (fun ad => put_i0 ad _ _ _ _ rfl) rfl) ?_
  refine G_bvS (fun t13 => ?_)
  exact G_ret rfl ⟨rfl, dX3_copyFrom_52⟩ rfl
set_option maxRecDepth 100000 in
set_option maxHeartbeats 4000000 in
theorem c_X3_copyFrom (ids : List (Nat × Nat)) (Hn : Ndp ids) (h : Nat) (g : Nat) (Hh : InR ids h 20 24) (Hg : InR ids g 20 24) (t0 : Sg) (r : Unit) (t1 : Sg) (hf : f_X3_copyFrom h g t0 = some (r, t1)) : Mt0 mX3_copyFrom yX3_copyFrom ids [aR (h, 20), aR (g, 20)] t0 none t1 :=
  Mt_of (x := (r, t1)) (g_X3_copyFrom ids Hn h g Hh Hg t0) hf (by decide) rfl Hn (fun _ => rfl) (fun _ => Nat.le_of_ble_eq_true rfl)
theorem dX2_copyFrom_0 : decode cX2_copyFrom 0 = .ok (.aload_n 0, 1) := by decide +kernel
theorem dX2_copyFrom_1 : decode cX2_copyFrom 1 = .ok (.getfield 12, 3) := by decide +kernel
theorem dX2_copyFrom_4 : decode cX2_copyFrom 4 = .ok (.aload_n 1, 1) := by decide +kernel
theorem dX2_copyFrom_5 : decode cX2_copyFrom 5 = .ok (.getfield 12, 3) := by decide +kernel
theorem dX2_copyFrom_8 : decode cX2_copyFrom 8 = .ok (.invokevirtual 39, 3) := by decide +kernel
theorem dX2_copyFrom_11 : decode cX2_copyFrom 11 = .ok (.aload_n 0, 1) := by decide +kernel
theorem dX2_copyFrom_12 : decode cX2_copyFrom 12 = .ok (.getfield 21, 3) := by decide +kernel
theorem dX2_copyFrom_15 : decode cX2_copyFrom 15 = .ok (.aload_n 1, 1) := by decide +kernel
theorem dX2_copyFrom_16 : decode cX2_copyFrom 16 = .ok (.getfield 21, 3) := by decide +kernel
theorem dX2_copyFrom_19 : decode cX2_copyFrom 19 = .ok (.invokevirtual 43, 3) := by decide +kernel
theorem dX2_copyFrom_22 : decode cX2_copyFrom 22 = .ok (.aload_n 0, 1) := by decide +kernel
theorem dX2_copyFrom_23 : decode cX2_copyFrom 23 = .ok (.getfield 28, 3) := by decide +kernel
theorem dX2_copyFrom_26 : decode cX2_copyFrom 26 = .ok (.aload_n 1, 1) := by decide +kernel
theorem dX2_copyFrom_27 : decode cX2_copyFrom 27 = .ok (.getfield 28, 3) := by decide +kernel
theorem dX2_copyFrom_30 : decode cX2_copyFrom 30 = .ok (.invokevirtual 46, 3) := by decide +kernel
theorem dX2_copyFrom_33 : decode cX2_copyFrom 33 = .ok (.aload_n 0, 1) := by decide +kernel
theorem dX2_copyFrom_34 : decode cX2_copyFrom 34 = .ok (.aload_n 1, 1) := by decide +kernel
theorem dX2_copyFrom_35 : decode cX2_copyFrom 35 = .ok (.getfield 49, 3) := by decide +kernel
theorem dX2_copyFrom_38 : decode cX2_copyFrom 38 = .ok (.putfield 49, 3) := by decide +kernel
theorem dX2_copyFrom_41 : decode cX2_copyFrom 41 = .ok (.return_, 1) := by decide +kernel
set_option maxRecDepth 100000 in
set_option maxHeartbeats 4000000 in
theorem g_X2_copyFrom (ids : List (Nat × Nat)) (Hn : Ndp ids) (h : Nat) (g : Nat) (Hh : InR ids h 6 28) (Hg : InR ids g 6 28) (t0 : Sg) : Gj kV mX2_copyFrom ids 0 [some (aR (h, 6)), some (aR (g, 6))] [] t0 (f_X2_copyFrom h g t0) := by
  unfold f_X2_copyFrom
  refine G_st (x_aload_n dX2_copyFrom_0 rfl) ?_
  refine G_st (x_get (k := 0) (aR (h, 7)) dX2_copyFrom_1 (Hh 6 (Nat.le_of_ble_eq_true rfl) (Nat.le_of_ble_eq_true rfl)) rfl rfl rfl rfl inTX2 (Nat.le_of_ble_eq_true rfl) tw_249 (fun ad => rfl)) ?_
  refine G_st (x_aload_n dX2_copyFrom_4 rfl) ?_
  refine G_st (x_get (k := 0) (aR (g, 7)) dX2_copyFrom_5 (Hg 6 (Nat.le_of_ble_eq_true rfl) (Nat.le_of_ble_eq_true rfl)) rfl rfl rfl rfl inTX2 (Nat.le_of_ble_eq_true rfl) tw_249 (fun ad => rfl)) ?_
  refine G_bd (fun _ t2 h3 => ?_)
  refine G_st (x_callV [] (c_X0_copyFrom ids Hn h g (Hh.sub (Nat.le_of_ble_eq_true rfl) (Nat.le_of_ble_eq_true rfl)) (Hg.sub (Nat.le_of_ble_eq_true rfl) (Nat.le_of_ble_eq_true rfl)) _ _ _ h3) dX2_copyFrom_8 tw_436 kc_X0_copyFrom (Hh 7 (Nat.le_of_ble_eq_true rfl) (Nat.le_of_ble_eq_true rfl)) rfl rfl rfl rfl ⟨Nat.le_of_ble_eq_true rfl, Nat.le_of_ble_eq_true rfl⟩ (Nat.le_of_ble_eq_true rfl) rfl) ?_
  refine G_st (x_aload_n dX2_copyFrom_11 rfl) ?_
  refine G_st (x_get (k := 1) (aR (h, 15)) dX2_copyFrom_12 (Hh 6 (Nat.le_of_ble_eq_true rfl) (Nat.le_of_ble_eq_true rfl)) rfl rfl rfl rfl inTX2 (Nat.le_of_ble_eq_true rfl) tw_252 (fun ad => rfl)) ?_
  refine G_st (x_aload_n dX2_copyFrom_15 rfl) ?_
  refine G_st (x_get (k := 1) (aR (g, 15)) dX2_copyFrom_16 (Hg 6 (Nat.le_of_ble_eq_true rfl) (Nat.le_of_ble_eq_true rfl)) rfl rfl rfl rfl inTX2 (Nat.le_of_ble_eq_true rfl) tw_252 (fun ad => rfl)) ?_
  refine G_bd (fun _ t5 h6 => ?_)
  refine G_st (x_callV [] (c_X1_copyFrom ids Hn h g (Hh.sub (Nat.le_of_ble_eq_true rfl) (Nat.le_of_ble_eq_true rfl)) (Hg.sub (Nat.le_of_ble_eq_true rfl) (Nat.le_of_ble_eq_true rfl)) _ _ _ h6) dX2_copyFrom_19 tw_449 kc_X1_copyFrom (Hh 15 (Nat.le_of_ble_eq_true rfl) (Nat.le_of_ble_eq_true rfl)) rfl rfl rfl rfl ⟨Nat.le_of_ble_eq_true rfl, Nat.le_of_ble_eq_true rfl⟩ (Nat.le_of_ble_eq_true rfl) rfl) ?_
  refine G_st (x_aload_n dX2_copyFrom_22 rfl) ?_
  refine G_st (x_get (k := 2) (aR (h, 20)) dX2_copyFrom_23 (Hh 6 (Nat.le_of_ble_eq_true rfl) (Nat.le_of_ble_eq_true rfl)) rfl rfl rfl rfl inTX2 (Nat.le_of_ble_eq_true rfl) tw_255 (fun ad => rfl)) ?_
  refine G_st (x_aload_n dX2_copyFrom_26 rfl) ?_
  refine G_st (x_get (k := 2) (aR (g, 20)) dX2_copyFrom_27 (Hg 6 (Nat.le_of_ble_eq_true rfl) (Nat.le_of_ble_eq_true rfl)) rfl rfl rfl rfl inTX2 (Nat.le_of_ble_eq_true rfl) tw_255 (fun ad => rfl)) ?_
  refine G_bd (fun _ t8 h9 => ?_)
  refine G_st (x_callV [] (c_X3_copyFrom ids Hn h g (Hh.sub (Nat.le_of_ble_eq_true rfl) (Nat.le_of_ble_eq_true rfl)) (Hg.sub (Nat.le_of_ble_eq_true rfl) (Nat.le_of_ble_eq_true rfl)) _ _ _ h9) dX2_copyFrom_30 tw_454 kc_X3_copyFrom (Hh 20 (Nat.le_of_ble_eq_true rfl) (Nat.le_of_ble_eq_true rfl)) rfl rfl rfl rfl ⟨Nat.le_of_ble_eq_true rfl, Nat.le_of_ble_eq_true rfl⟩ (Nat.le_of_ble_eq_true rfl) rfl) ?_
  refine G_st (x_aload_n dX2_copyFrom_33 rfl) ?_
  refine G_st (x_aload_n dX2_copyFrom_34 rfl) ?_
  refine G_st (x_get (k := 4) (aI (t8 (g, 6) 4)) dX2_copyFrom_35 (Hg 6 (Nat.le_of_ble_eq_true rfl) (Nat.le_of_ble_eq_true rfl)) rfl rfl rfl rfl inTX2 (Nat.le_of_ble_eq_true rfl) tw_258 (fun ad => rfl)) ?_
  refine G_st (x_put (k := 4) (ty := .int) (v := aI (t8 (g, 6) 4)) (z := (t8 (g, 6) 4)) (upS t8 (h, 6) 4 (t8 (g, 6) 4)) dX2_copyFrom_38 (Hh 6 (Nat.le_of_ble_eq_true rfl) (Nat.le_of_ble_eq_true rfl)) rfl rfl rfl rfl inTX2 tyX2_ok nmX2 (Nat.le_of_ble_eq_true rfl) tw_258 rfl rfl (fun ad => rfl) (fun ad => rfl) (fun ad => put_i0 ad _ _ _ _ rfl) rfl) ?_
  refine G_bvS (fun t10 => ?_)
  exact G_ret rfl ⟨rfl, dX2_copyFrom_41⟩ rfl
set_option maxRecDepth 100000 in
set_option maxHeartbeats 4000000 in
theorem c_X2_copyFrom (ids : List (Nat × Nat)) (Hn : Ndp ids) (h : Nat) (g : Nat) (Hh : InR ids h 6 28) (Hg : InR ids g 6 28) (t0 : Sg) (r : Unit) (t1 : Sg) (hf : f_X2_copyFrom h g t0 = some (r, t1)) : Mt0 mX2_copyFrom yX2_copyFrom ids [aR (h, 6), aR (g, 6)] t0 none t1 :=
  Mt_of (x := (r, t1)) (g_X2_copyFrom ids Hn h g Hh Hg t0) hf (by decide) rfl Hn (fun _ => rfl) (fun _ => Nat.le_of_ble_eq_true rfl)
theorem dX3_beginWeek_0 : decode cX3_beginWeek 0 = .ok (.aload_n 0, 1) := by decide +kernel
theorem dX3_beginWeek_1 : decode cX3_beginWeek 1 = .ok (.getfield 18, 3) := by decide +kernel
theorem dX3_beginWeek_4 : decode cX3_beginWeek 4 = .ok (.iconst 0, 1) := by decide +kernel
theorem dX3_beginWeek_5 : decode cX3_beginWeek 5 = .ok (.invokestatic 24, 3) := by decide +kernel
theorem dX3_beginWeek_8 : decode cX3_beginWeek 8 = .ok (.aload_n 0, 1) := by decide +kernel
theorem dX3_beginWeek_9 : decode cX3_beginWeek 9 = .ok (.getfield 21, 3) := by decide +kernel
theorem dX3_beginWeek_12 : decode cX3_beginWeek 12 = .ok (.iconst 0, 1) := by decide +kernel
theorem dX3_beginWeek_13 : decode cX3_beginWeek 13 = .ok (.invokestatic 24, 3) := by decide +kernel
theorem dX3_beginWeek_16 : decode cX3_beginWeek 16 = .ok (.aload_n 0, 1) := by decide +kernel
theorem dX3_beginWeek_17 : decode cX3_beginWeek 17 = .ok (.iconst 0, 1) := by decide +kernel
theorem dX3_beginWeek_18 : decode cX3_beginWeek 18 = .ok (.putfield 37, 3) := by decide +kernel
theorem dX3_beginWeek_21 : decode cX3_beginWeek 21 = .ok (.return_, 1) := by decide +kernel
set_option maxRecDepth 100000 in
set_option maxHeartbeats 4000000 in
theorem g_X3_beginWeek (ids : List (Nat × Nat)) (Hn : Ndp ids) (h : Nat) (Hh : InR ids h 20 24) (t0 : Sg) : Gj kV mX3_beginWeek ids 0 [some (aR (h, 20))] [] t0 (f_X3_beginWeek h t0) := by
  unfold f_X3_beginWeek
  refine G_st (x_aload_n dX3_beginWeek_0 rfl) ?_
  refine G_st (x_get (k := 2) (aR (h, 23)) dX3_beginWeek_1 (Hh 20 (Nat.le_of_ble_eq_true rfl) (Nat.le_of_ble_eq_true rfl)) rfl rfl rfl rfl inTX3 (Nat.le_of_ble_eq_true rfl) tw_208 (fun ad => rfl)) ?_
  refine G_st (x_iconst (0 : Int32) dX3_beginWeek_4 rfl) ?_
  refine G_bd (fun _ t2 h3 => ?_)
  refine G_st (x_callS [] (c_J7_fill_53178 ids Hn (h, 23) (0 : Int32) (Hh 23 (Nat.le_of_ble_eq_true rfl) (Nat.le_of_ble_eq_true rfl)) rfl _ _ _ h3) dX3_beginWeek_5 tw_480 kc_J7_fill_53178 rfl ⟨Nat.le_of_ble_eq_true rfl, Nat.le_of_ble_eq_true rfl⟩ (Nat.le_of_ble_eq_true rfl) rfl) ?_
  refine G_st (x_aload_n dX3_beginWeek_8 rfl) ?_
  refine G_st (x_get (k := 3) (aR (h, 24)) dX3_beginWeek_9 (Hh 20 (Nat.le_of_ble_eq_true rfl) (Nat.le_of_ble_eq_true rfl)) rfl rfl rfl rfl inTX3 (Nat.le_of_ble_eq_true rfl) tw_210 (fun ad => rfl)) ?_
  refine G_st (x_iconst (0 : Int32) dX3_beginWeek_12 rfl) ?_
  refine G_bd (fun _ t5 h6 => ?_)
  refine G_st (x_callS [] (c_J7_fill_53178 ids Hn (h, 24) (0 : Int32) (Hh 24 (Nat.le_of_ble_eq_true rfl) (Nat.le_of_ble_eq_true rfl)) rfl _ _ _ h6) dX3_beginWeek_13 tw_480 kc_J7_fill_53178 rfl ⟨Nat.le_of_ble_eq_true rfl, Nat.le_of_ble_eq_true rfl⟩ (Nat.le_of_ble_eq_true rfl) rfl) ?_
  refine G_st (x_aload_n dX3_beginWeek_16 rfl) ?_
  refine G_st (x_iconst (0 : Int32) dX3_beginWeek_17 rfl) ?_
  refine G_st (x_put (k := 4) (ty := .int) (v := aI (0 : Int32)) (z := (0 : Int32)) (upS t5 (h, 20) 4 (0 : Int32)) dX3_beginWeek_18 (Hh 20 (Nat.le_of_ble_eq_true rfl) (Nat.le_of_ble_eq_true rfl)) rfl rfl rfl rfl inTX3 tyX3_ok nmX3 (Nat.le_of_ble_eq_true rfl) tw_211 rfl rfl (fun ad => rfl) (fun ad => rfl) (fun ad => put_i0 ad _ _ _ _ rfl) rfl) ?_
  refine G_bvS (fun t7 => ?_)
  exact G_ret rfl ⟨rfl, dX3_beginWeek_21⟩ rfl
set_option maxRecDepth 100000 in
set_option maxHeartbeats 4000000 in
theorem c_X3_beginWeek (ids : List (Nat × Nat)) (Hn : Ndp ids) (h : Nat) (Hh : InR ids h 20 24) (t0 : Sg) (r : Unit) (t1 : Sg) (hf : f_X3_beginWeek h t0 = some (r, t1)) : Mt0 mX3_beginWeek yX3_beginWeek ids [aR (h, 20)] t0 none t1 :=
  Mt_of (x := (r, t1)) (g_X3_beginWeek ids Hn h Hh t0) hf (by decide) rfl Hn (fun _ => rfl) (fun _ => Nat.le_of_ble_eq_true rfl)
theorem dX3_clear_0 : decode cX3_clear 0 = .ok (.aload_n 0, 1) := by decide +kernel
theorem dX3_clear_1 : decode cX3_clear 1 = .ok (.getfield 9, 3) := by decide +kernel
theorem dX3_clear_4 : decode cX3_clear 4 = .ok (.iconst 0, 1) := by decide +kernel
theorem dX3_clear_5 : decode cX3_clear 5 = .ok (.invokestatic 24, 3) := by decide +kernel
theorem dX3_clear_8 : decode cX3_clear 8 = .ok (.aload_n 0, 1) := by decide +kernel
theorem dX3_clear_9 : decode cX3_clear 9 = .ok (.getfield 15, 3) := by decide +kernel
theorem dX3_clear_12 : decode cX3_clear 12 = .ok (.iconst 0, 1) := by decide +kernel
theorem dX3_clear_13 : decode cX3_clear 13 = .ok (.invokestatic 24, 3) := by decide +kernel
theorem dX3_clear_16 : decode cX3_clear 16 = .ok (.aload_n 0, 1) := by decide +kernel
theorem dX3_clear_17 : decode cX3_clear 17 = .ok (.invokevirtual 30, 3) := by decide +kernel
theorem dX3_clear_20 : decode cX3_clear 20 = .ok (.return_, 1) := by decide +kernel
set_option maxRecDepth 100000 in
set_option maxHeartbeats 4000000 in
theorem g_X3_clear (ids : List (Nat × Nat)) (Hn : Ndp ids) (h : Nat) (Hh : InR ids h 20 24) (t0 : Sg) : Gj kV mX3_clear ids 0 [some (aR (h, 20))] [] t0 (f_X3_clear h t0) := by
  unfold f_X3_clear
  refine G_st (x_aload_n dX3_clear_0 rfl) ?_
  refine G_st (x_get (k := 0) (aR (h, 21)) dX3_clear_1 (Hh 20 (Nat.le_of_ble_eq_true rfl) (Nat.le_of_ble_eq_true rfl)) rfl rfl rfl rfl inTX3 (Nat.le_of_ble_eq_true rfl) tw_204 (fun ad => rfl)) ?_
  refine G_st (x_iconst (0 : Int32) dX3_clear_4 rfl) ?_
  refine G_bd (fun _ t2 h3 => ?_)
  refine G_st (x_callS [] (c_J7_fill_53178 ids Hn (h, 21) (0 : Int32) (Hh 21 (Nat.le_of_ble_eq_true rfl) (Nat.le_of_ble_eq_true rfl)) rfl _ _ _ h3) dX3_clear_5 tw_480 kc_J7_fill_53178 rfl ⟨Nat.le_of_ble_eq_true rfl, Nat.le_of_ble_eq_true rfl⟩ (Nat.le_of_ble_eq_true rfl) rfl) ?_
  refine G_st (x_aload_n dX3_clear_8 rfl) ?_
  refine G_st (x_get (k := 1) (aR (h, 22)) dX3_clear_9 (Hh 20 (Nat.le_of_ble_eq_true rfl) (Nat.le_of_ble_eq_true rfl)) rfl rfl rfl rfl inTX3 (Nat.le_of_ble_eq_true rfl) tw_206 (fun ad => rfl)) ?_
  refine G_st (x_iconst (0 : Int32) dX3_clear_12 rfl) ?_
  refine G_bd (fun _ t5 h6 => ?_)
  refine G_st (x_callS [] (c_J7_fill_53178 ids Hn (h, 22) (0 : Int32) (Hh 22 (Nat.le_of_ble_eq_true rfl) (Nat.le_of_ble_eq_true rfl)) rfl _ _ _ h6) dX3_clear_13 tw_480 kc_J7_fill_53178 rfl ⟨Nat.le_of_ble_eq_true rfl, Nat.le_of_ble_eq_true rfl⟩ (Nat.le_of_ble_eq_true rfl) rfl) ?_
  refine G_st (x_aload_n dX3_clear_16 rfl) ?_
  refine G_bd (fun _ t8 h9 => ?_)
  refine G_st (x_callV [] (c_X3_beginWeek ids Hn h Hh _ _ _ h9) dX3_clear_17 tw_481 kc_X3_beginWeek (Hh 20 (Nat.le_of_ble_eq_true rfl) (Nat.le_of_ble_eq_true rfl)) rfl rfl rfl rfl ⟨Nat.le_of_ble_eq_true rfl, Nat.le_of_ble_eq_true rfl⟩ (Nat.le_of_ble_eq_true rfl) rfl) ?_
  exact G_ret rfl ⟨rfl, dX3_clear_20⟩ rfl
set_option maxRecDepth 100000 in
set_option maxHeartbeats 4000000 in
theorem c_X3_clear (ids : List (Nat × Nat)) (Hn : Ndp ids) (h : Nat) (Hh : InR ids h 20 24) (t0 : Sg) (r : Unit) (t1 : Sg) (hf : f_X3_clear h t0 = some (r, t1)) : Mt0 mX3_clear yX3_clear ids [aR (h, 20)] t0 none t1 :=
  Mt_of (x := (r, t1)) (g_X3_clear ids Hn h Hh t0) hf (by decide) rfl Hn (fun _ => rfl) (fun _ => Nat.le_of_ble_eq_true rfl)
theorem dX2_build_0 : decode cX2_build 0 = .ok (.aload_n 0, 1) := by decide +kernel
theorem dX2_build_1 : decode cX2_build 1 = .ok (.getfield 12, 3) := by decide +kernel
theorem dX2_build_4 : decode cX2_build 4 = .ok (.iload_n 1, 1) := by decide +kernel
theorem dX2_build_5 : decode cX2_build 5 = .ok (.iload_n 2, 1) := by decide +kernel
theorem dX2_build_6 : decode cX2_build 6 = .ok (.invokevirtual 53, 3) := by decide +kernel
theorem dX2_build_9 : decode cX2_build 9 = .ok (.aload_n 0, 1) := by decide +kernel
theorem dX2_build_10 : decode cX2_build 10 = .ok (.getfield 21, 3) := by decide +kernel
theorem dX2_build_13 : decode cX2_build 13 = .ok (.iconst 0, 1) := by decide +kernel
theorem dX2_build_14 : decode cX2_build 14 = .ok (.putfield 57, 3) := by decide +kernel
theorem dX2_build_17 : decode cX2_build 17 = .ok (.aload_n 0, 1) := by decide +kernel
theorem dX2_build_18 : decode cX2_build 18 = .ok (.getfield 28, 3) := by decide +kernel
theorem dX2_build_21 : decode cX2_build 21 = .ok (.invokevirtual 60, 3) := by decide +kernel
theorem dX2_build_24 : decode cX2_build 24 = .ok (.return_, 1) := by decide +kernel
set_option maxRecDepth 100000 in
set_option maxHeartbeats 4000000 in
theorem g_X2_build (ids : List (Nat × Nat)) (Hn : Ndp ids) (h : Nat) (v1 : Int32) (v2 : Int32) (Hh : InR ids h 6 28) (t0 : Sg) : Gj kV mX2_build ids 0 [some (aR (h, 6)), some (aI v1), some (aI v2)] [] t0 (f_X2_build h v1 v2 t0) := by
  unfold f_X2_build
  refine G_st (x_aload_n dX2_build_0 rfl) ?_
  refine G_st (x_get (k := 0) (aR (h, 7)) dX2_build_1 (Hh 6 (Nat.le_of_ble_eq_true rfl) (Nat.le_of_ble_eq_true rfl)) rfl rfl rfl rfl inTX2 (Nat.le_of_ble_eq_true rfl) tw_249 (fun ad => rfl)) ?_
  refine G_st (x_iload_n dX2_build_4 rfl) ?_
  refine G_st (x_iload_n dX2_build_5 rfl) ?_
  refine G_bd (fun _ t2 h3 => ?_)
  refine G_st (x_callV [] (c_X0_build ids Hn h v1 v2 (Hh.sub (Nat.le_of_ble_eq_true rfl) (Nat.le_of_ble_eq_true rfl)) _ _ _ h3) dX2_build_6 tw_475 kc_X0_build (Hh 7 (Nat.le_of_ble_eq_true rfl) (Nat.le_of_ble_eq_true rfl)) rfl rfl rfl rfl ⟨Nat.le_of_ble_eq_true rfl, Nat.le_of_ble_eq_true rfl⟩ (Nat.le_of_ble_eq_true rfl) rfl) ?_
  refine G_st (x_aload_n dX2_build_9 rfl) ?_
  refine G_st (x_get (k := 1) (aR (h, 15)) dX2_build_10 (Hh 6 (Nat.le_of_ble_eq_true rfl) (Nat.le_of_ble_eq_true rfl)) rfl rfl rfl rfl inTX2 (Nat.le_of_ble_eq_true rfl) tw_252 (fun ad => rfl)) ?_
  refine G_st (x_iconst (0 : Int32) dX2_build_13 rfl) ?_
  refine G_st (x_put (k := 0) (ty := .int) (v := aI (0 : Int32)) (z := (0 : Int32)) (upS t2 (h, 15) 0 (0 : Int32)) dX2_build_14 (Hh 15 (Nat.le_of_ble_eq_true rfl) (Nat.le_of_ble_eq_true rfl)) rfl rfl rfl rfl inTX1 tyX1_ok nmX1 (Nat.le_of_ble_eq_true rfl) tw_170 rfl rfl (fun ad => rfl) (fun ad => rfl) (fun ad => put_i0 ad _ _ _ _ rfl) rfl) ?_
  refine G_bvS (fun t4 => ?_)
  refine G_st (x_aload_n dX2_build_17 rfl) ?_
  refine G_st (x_get (k := 2) (aR (h, 20)) dX2_build_18 (Hh 6 (Nat.le_of_ble_eq_true rfl) (Nat.le_of_ble_eq_true rfl)) rfl rfl rfl rfl inTX2 (Nat.le_of_ble_eq_true rfl) tw_255 (fun ad => rfl)) ?_
  refine G_bd (fun _ t6 h7 => ?_)
  refine G_st (x_callV [] (c_X3_clear ids Hn h (Hh.sub (Nat.le_of_ble_eq_true rfl) (Nat.le_of_ble_eq_true rfl)) _ _ _ h7) dX2_build_21 tw_476 kc_X3_clear (Hh 20 (Nat.le_of_ble_eq_true rfl) (Nat.le_of_ble_eq_true rfl)) rfl rfl rfl rfl ⟨Nat.le_of_ble_eq_true rfl, Nat.le_of_ble_eq_true rfl⟩ (Nat.le_of_ble_eq_true rfl) rfl) ?_
  exact G_ret rfl ⟨rfl, dX2_build_24⟩ rfl
set_option maxRecDepth 100000 in
set_option maxHeartbeats 4000000 in
theorem c_X2_build (ids : List (Nat × Nat)) (Hn : Ndp ids) (h : Nat) (v1 : Int32) (v2 : Int32) (Hh : InR ids h 6 28) (t0 : Sg) (r : Unit) (t1 : Sg) (hf : f_X2_build h v1 v2 t0 = some (r, t1)) : Mt0 mX2_build yX2_build ids [aR (h, 6), aI v1, aI v2] t0 none t1 :=
  Mt_of (x := (r, t1)) (g_X2_build ids Hn h v1 v2 Hh t0) hf (by decide) rfl Hn (fun _ => rfl) (fun _ => Nat.le_of_ble_eq_true rfl)
theorem dX5_room_0 : decode cX5_room 0 = .ok (.iload_n 1, 1) := by decide +kernel
theorem dX5_room_1 : decode cX5_room 1 = .ok (.iconst 3, 1) := by decide +kernel
theorem dX5_room_2 : decode cX5_room 2 = .ok (.if_icmp .eq 8, 3) := by decide +kernel
theorem dX5_room_5 : decode cX5_room 5 = .ok (.iload_n 1, 1) := by decide +kernel
theorem dX5_room_6 : decode cX5_room 6 = .ok (.iconst 4, 1) := by decide +kernel
theorem dX5_room_7 : decode cX5_room 7 = .ok (.if_icmp .ne 5, 3) := by decide +kernel
theorem dX5_room_10 : decode cX5_room 10 = .ok (.iconst 0, 1) := by decide +kernel
theorem dX5_room_11 : decode cX5_room 11 = .ok (.ireturn, 1) := by decide +kernel
theorem dX5_room_12 : decode cX5_room 12 = .ok (.iconst 0, 1) := by decide +kernel
theorem dX5_room_13 : decode cX5_room 13 = .ok (.aload_n 0, 1) := by decide +kernel
theorem dX5_room_14 : decode cX5_room 14 = .ok (.getfield 71, 3) := by decide +kernel
theorem dX5_room_17 : decode cX5_room 17 = .ok (.iload_n 2, 1) := by decide +kernel
theorem dX5_room_18 : decode cX5_room 18 = .ok (.invokestatic 30, 3) := by decide +kernel
theorem dX5_room_21 : decode cX5_room 21 = .ok (.aload_n 0, 1) := by decide +kernel
theorem dX5_room_22 : decode cX5_room 22 = .ok (.getfield 74, 3) := by decide +kernel
theorem dX5_room_25 : decode cX5_room 25 = .ok (.iload_n 2, 1) := by decide +kernel
theorem dX5_room_26 : decode cX5_room 26 = .ok (.invokestatic 30, 3) := by decide +kernel
theorem dX5_room_29 : decode cX5_room 29 = .ok (.isub, 1) := by decide +kernel
theorem dX5_room_30 : decode cX5_room 30 = .ok (.invokestatic 77, 3) := by decide +kernel
theorem dX5_room_33 : decode cX5_room 33 = .ok (.istore_n 3, 1) := by decide +kernel
theorem dX5_room_34 : decode cX5_room 34 = .ok (.iload_n 1, 1) := by decide +kernel
theorem dX5_room_35 : decode cX5_room 35 = .ok (.iconst 5, 1) := by decide +kernel
theorem dX5_room_36 : decode cX5_room 36 = .ok (.if_icmp .ne 9, 3) := by decide +kernel
theorem dX5_room_39 : decode cX5_room 39 = .ok (.iload_n 3, 1) := by decide +kernel
theorem dX5_room_40 : decode cX5_room 40 = .ok (.iconst 2, 1) := by decide +kernel
theorem dX5_room_41 : decode cX5_room 41 = .ok (.idiv, 1) := by decide +kernel
theorem dX5_room_42 : decode cX5_room 42 = .ok (.goto 4, 3) := by decide +kernel
theorem dX5_room_45 : decode cX5_room 45 = .ok (.iload_n 3, 1) := by decide +kernel
theorem dX5_room_46 : decode cX5_room 46 = .ok (.ireturn, 1) := by decide +kernel
set_option maxRecDepth 100000 in
set_option maxHeartbeats 4000000 in
theorem g_X5_room (ids : List (Nat × Nat)) (Hn : Ndp ids) (h : Nat) (v1 : Int32) (v2 : Int32) (Hh : InR ids h 7 14) (t0 : Sg) : Gj kI mX5_room ids 0 [some (aR (h, 7)), some (aI v1), some (aI v2), none] [] t0 (f_X5_room h v1 v2 t0) := by
  unfold f_X5_room
  refine G_st (x_iload_n dX5_room_0 rfl) ?_
  refine G_st (x_iconst (3 : Int32) dX5_room_1 rfl) ?_
  refine G_ite (fun c1 => ?_) (fun c1 => ?_)
  · refine G_st (x_icmp_eq_t (tgt := 10) dX5_room_2 (by decide) c1) ?_
    refine G_st (x_iconst (0 : Int32) dX5_room_10 rfl) ?_
    exact G_ret rfl ⟨dX5_room_11, _, rfl, rfl⟩ rfl
  · refine G_st (x_icmp_eq_f 10 dX5_room_2 (by decide) c1) ?_
    refine G_st (x_iload_n dX5_room_5 rfl) ?_
    refine G_st (x_iconst (4 : Int32) dX5_room_6 rfl) ?_
    refine G_ite (fun c2 => ?_) (fun c2 => ?_)
    · refine G_st (x_icmp_ne_f 12 dX5_room_7 (by decide) c2) ?_
      refine G_st (x_iconst (0 : Int32) dX5_room_10 rfl) ?_
      exact G_ret rfl ⟨dX5_room_11, _, rfl, rfl⟩ rfl
    · refine G_st (x_icmp_ne_t (tgt := 12) dX5_room_7 (by decide) c2) ?_
      refine G_st (x_iconst (0 : Int32) dX5_room_12 rfl) ?_
      refine G_st (x_aload_n dX5_room_13 rfl) ?_
      refine G_st (x_get (k := 3) (aR (h, 8)) dX5_room_14 (Hh 7 (Nat.le_of_ble_eq_true rfl) (Nat.le_of_ble_eq_true rfl)) rfl rfl rfl rfl inTX0 (Nat.le_of_ble_eq_true rfl) tw_119 (fun ad => rfl)) ?_
      refine G_st (x_iload_n dX5_room_17 rfl) ?_
      refine G_bd (fun x3 t4 h5 => ?_)
      refine G_st (x_callN [aI (0 : Int32)] (c_X6_get ids Hn (h, 8) v2 (Hh 8 (Nat.le_of_ble_eq_true rfl) (Nat.le_of_ble_eq_true rfl)) rfl _ _ _ h5) dX5_room_18 (List.mem_of_getElem? (i := 17) rfl) kc_X6_get rfl ⟨Nat.le_of_ble_eq_true rfl, Nat.le_of_ble_eq_true rfl⟩ (Nat.le_of_ble_eq_true rfl) rfl) ?_
      refine G_st (x_aload_n dX5_room_21 rfl) ?_
      refine G_st (x_get (k := 4) (aR (h, 9)) dX5_room_22 (Hh 7 (Nat.le_of_ble_eq_true rfl) (Nat.le_of_ble_eq_true rfl)) rfl rfl rfl rfl inTX0 (Nat.le_of_ble_eq_true rfl) tw_122 (fun ad => rfl)) ?_
      refine G_st (x_iload_n dX5_room_25 rfl) ?_
      refine G_bd (fun x6 t7 h8 => ?_)
      refine G_st (x_callN [aI x3, aI (0 : Int32)] (c_X6_get ids Hn (h, 9) v2 (Hh 9 (Nat.le_of_ble_eq_true rfl) (Nat.le_of_ble_eq_true rfl)) rfl _ _ _ h8) dX5_room_26 (List.mem_of_getElem? (i := 17) rfl) kc_X6_get rfl ⟨Nat.le_of_ble_eq_true rfl, Nat.le_of_ble_eq_true rfl⟩ (Nat.le_of_ble_eq_true rfl) rfl) ?_
      refine G_st (x_isub dX5_room_29) ?_
      refine G_st (x_mmax dX5_room_30 tw_632 tw_633 tw_74 tw_634 ⟨Nat.le_of_ble_eq_true rfl, Nat.le_of_ble_eq_true rfl⟩ (Nat.le_of_ble_eq_true rfl)) ?_
      refine G_bvI (fun x9 => ?_)
      refine G_st (x_istore_n [some (aR (h, 7)), some (aI v1), some (aI v2), some (aI x9)] dX5_room_33 (Nat.le_of_ble_eq_true rfl) rfl rfl) ?_
      refine G_st (x_iload_n dX5_room_34 rfl) ?_
      refine G_st (x_iconst (5 : Int32) dX5_room_35 rfl) ?_
      refine G_ite (fun c10 => ?_) (fun c10 => ?_)
      · refine G_st (x_icmp_ne_f 45 dX5_room_36 (by decide) c10) ?_
        refine G_st (x_iload_n dX5_room_39 rfl) ?_
        refine G_st (x_iconst (2 : Int32) dX5_room_40 rfl) ?_
        refine G_st (x_idiv dX5_room_41 (by decide)) ?_
        refine G_st (x_goto (tgt := 46) dX5_room_42 (by decide)) ?_
        exact G_ret rfl ⟨dX5_room_46, _, rfl, rfl⟩ rfl
      · refine G_st (x_icmp_ne_t (tgt := 45) dX5_room_36 (by decide) c10) ?_
        refine G_st (x_iload_n dX5_room_45 rfl) ?_
        exact G_ret rfl ⟨dX5_room_46, _, rfl, rfl⟩ rfl
set_option maxRecDepth 100000 in
set_option maxHeartbeats 4000000 in
theorem c_X5_room (ids : List (Nat × Nat)) (Hn : Ndp ids) (h : Nat) (v1 : Int32) (v2 : Int32) (Hh : InR ids h 7 14) (t0 : Sg) (r : Int32) (t1 : Sg) (hf : f_X5_room h v1 v2 t0 = some (r, t1)) : Mt0 mX5_room yX5_room ids [aR (h, 7), aI v1, aI v2] t0 (some (aI r)) t1 :=
  Mt_of (x := (r, t1)) (g_X5_room ids Hn h v1 v2 Hh t0) hf (by decide) rfl Hn (fun _ => rfl) (fun _ => Nat.le_of_ble_eq_true rfl)
theorem dX5_hold_0 : decode cX5_hold 0 = .ok (.aload_n 2, 1) := by decide +kernel
theorem dX5_hold_1 : decode cX5_hold 1 = .ok (.getfield 25, 3) := by decide +kernel
theorem dX5_hold_4 : decode cX5_hold 4 = .ok (.iload_n 3, 1) := by decide +kernel
theorem dX5_hold_5 : decode cX5_hold 5 = .ok (.invokestatic 30, 3) := by decide +kernel
theorem dX5_hold_8 : decode cX5_hold 8 = .ok (.istore 4, 2) := by decide +kernel
theorem dX5_hold_10 : decode cX5_hold 10 = .ok (.aload_n 2, 1) := by decide +kernel
theorem dX5_hold_11 : decode cX5_hold 11 = .ok (.getfield 50, 3) := by decide +kernel
theorem dX5_hold_14 : decode cX5_hold 14 = .ok (.iload_n 3, 1) := by decide +kernel
theorem dX5_hold_15 : decode cX5_hold 15 = .ok (.invokestatic 30, 3) := by decide +kernel
theorem dX5_hold_18 : decode cX5_hold 18 = .ok (.istore 5, 2) := by decide +kernel
theorem dX5_hold_20 : decode cX5_hold 20 = .ok (.aload_n 0, 1) := by decide +kernel
theorem dX5_hold_21 : decode cX5_hold 21 = .ok (.getfield 21, 3) := by decide +kernel
theorem dX5_hold_24 : decode cX5_hold 24 = .ok (.istore 6, 2) := by decide +kernel
theorem dX5_hold_26 : decode cX5_hold 26 = .ok (.aload_n 0, 1) := by decide +kernel
theorem dX5_hold_27 : decode cX5_hold 27 = .ok (.iconst 0, 1) := by decide +kernel
theorem dX5_hold_28 : decode cX5_hold 28 = .ok (.putfield 21, 3) := by decide +kernel
theorem dX5_hold_31 : decode cX5_hold 31 = .ok (.iconst 0, 1) := by decide +kernel
theorem dX5_hold_32 : decode cX5_hold 32 = .ok (.istore 7, 2) := by decide +kernel
theorem dX5_hold_34 : decode cX5_hold 34 = .ok (.iload 7, 2) := by decide +kernel
theorem dX5_hold_36 : decode cX5_hold 36 = .ok (.iload 6, 2) := by decide +kernel
theorem dX5_hold_38 : decode cX5_hold 38 = .ok (.if_icmp .ge 73, 3) := by decide +kernel
theorem dX5_hold_41 : decode cX5_hold 41 = .ok (.iload 5, 2) := by decide +kernel
theorem dX5_hold_43 : decode cX5_hold 43 = .ok (.ifCond .le 68, 3) := by decide +kernel
theorem dX5_hold_46 : decode cX5_hold 46 = .ok (.iload 5, 2) := by decide +kernel
theorem dX5_hold_48 : decode cX5_hold 48 = .ok (.aload_n 1, 1) := by decide +kernel
theorem dX5_hold_49 : decode cX5_hold 49 = .ok (.iload 4, 2) := by decide +kernel
theorem dX5_hold_51 : decode cX5_hold 51 = .ok (.aload_n 0, 1) := by decide +kernel
theorem dX5_hold_52 : decode cX5_hold 52 = .ok (.getfield 9, 3) := by decide +kernel
theorem dX5_hold_55 : decode cX5_hold 55 = .ok (.iload 7, 2) := by decide +kernel
theorem dX5_hold_57 : decode cX5_hold 57 = .ok (.invokestatic 30, 3) := by decide +kernel
theorem dX5_hold_60 : decode cX5_hold 60 = .ok (.invokestatic 53, 3) := by decide +kernel
theorem dX5_hold_63 : decode cX5_hold 63 = .ok (.invokestatic 56, 3) := by decide +kernel
theorem dX5_hold_66 : decode cX5_hold 66 = .ok (.istore 8, 2) := by decide +kernel
theorem dX5_hold_68 : decode cX5_hold 68 = .ok (.aload_n 0, 1) := by decide +kernel
theorem dX5_hold_69 : decode cX5_hold 69 = .ok (.getfield 15, 3) := by decide +kernel
theorem dX5_hold_72 : decode cX5_hold 72 = .ok (.iload 7, 2) := by decide +kernel
theorem dX5_hold_74 : decode cX5_hold 74 = .ok (.iload 5, 2) := by decide +kernel
theorem dX5_hold_76 : decode cX5_hold 76 = .ok (.invokestatic 46, 3) := by decide +kernel
theorem dX5_hold_79 : decode cX5_hold 79 = .ok (.aload_n 0, 1) := by decide +kernel
theorem dX5_hold_80 : decode cX5_hold 80 = .ok (.getfield 18, 3) := by decide +kernel
theorem dX5_hold_83 : decode cX5_hold 83 = .ok (.iload 7, 2) := by decide +kernel
theorem dX5_hold_85 : decode cX5_hold 85 = .ok (.iload 8, 2) := by decide +kernel
theorem dX5_hold_87 : decode cX5_hold 87 = .ok (.invokestatic 46, 3) := by decide +kernel
theorem dX5_hold_90 : decode cX5_hold 90 = .ok (.aload_n 0, 1) := by decide +kernel
theorem dX5_hold_91 : decode cX5_hold 91 = .ok (.iload 7, 2) := by decide +kernel
theorem dX5_hold_93 : decode cX5_hold 93 = .ok (.iconst 1, 1) := by decide +kernel
theorem dX5_hold_94 : decode cX5_hold 94 = .ok (.iadd, 1) := by decide +kernel
theorem dX5_hold_95 : decode cX5_hold 95 = .ok (.putfield 21, 3) := by decide +kernel
theorem dX5_hold_98 : decode cX5_hold 98 = .ok (.iload 5, 2) := by decide +kernel
theorem dX5_hold_100 : decode cX5_hold 100 = .ok (.iload 8, 2) := by decide +kernel
theorem dX5_hold_102 : decode cX5_hold 102 = .ok (.isub, 1) := by decide +kernel
theorem dX5_hold_103 : decode cX5_hold 103 = .ok (.istore 5, 2) := by decide +kernel
theorem dX5_hold_105 : decode cX5_hold 105 = .ok (.iinc 7 1, 3) := by decide +kernel
theorem dX5_hold_108 : decode cX5_hold 108 = .ok (.goto (-74), 3) := by decide +kernel
theorem dX5_hold_111 : decode cX5_hold 111 = .ok (.return_, 1) := by decide +kernel
set_option maxRecDepth 100000 in
set_option maxHeartbeats 4000000 in
theorem g_X5_hold_34 (ids : List (Nat × Nat)) (Hn : Ndp ids) (h : Nat) (g : Nat) (q : Nat) (Hh : InR ids h 25 28) (Hg : InR ids g 7 14) (Hq : InR ids q 15 19)  : ∀ (n : Nat) (v4 : Int32) (v5 : Int32) (v6 : Int32) (v7 : Int32) (t0 : Sg), Gj kV mX5_hold ids 34 [some (aR (h, 25)), some (aR (g, 7)), none, none, some (aI v4), some (aI v5), some (aI v6), some (aI v7), none] [] t0 (f_X5_hold_34 h g q n v4 v5 v6 v7 t0) := by
  intro n
  induction n with
  | zero => intro v4 v5 v6 v7 t0; exact G_none
  | succ n ih =>
    intro v4 v5 v6 v7 t0
    rw [f_X5_hold_34]
    refine G_st (x_iload dX5_hold_34 rfl) ?_
    refine G_st (x_iload dX5_hold_36 rfl) ?_
    refine G_ite (fun c9 => ?_) (fun c9 => ?_)
    · refine G_st (x_icmp_ge_t (tgt := 111) dX5_hold_38 (by decide) c9) ?_
      exact G_ret rfl ⟨rfl, dX5_hold_111⟩ rfl
    · refine G_st (x_icmp_ge_f 111 dX5_hold_38 (by decide) c9) ?_
      refine G_st (x_iload dX5_hold_41 rfl) ?_
      refine G_ite (fun c10 => ?_) (fun c10 => ?_)
      · refine G_st (x_if_le_t (tgt := 111) dX5_hold_43 (by decide) c10) ?_
        exact G_ret rfl ⟨rfl, dX5_hold_111⟩ rfl
      · refine G_st (x_if_le_f 111 dX5_hold_43 (by decide) c10) ?_
        refine G_st (x_iload dX5_hold_46 rfl) ?_
        refine G_st (x_aload_n dX5_hold_48 rfl) ?_
        refine G_st (x_iload dX5_hold_49 rfl) ?_
        refine G_st (x_aload_n dX5_hold_51 rfl) ?_
        refine G_st (x_get (k := 0) (aR (h, 26)) dX5_hold_52 (Hh 25 (Nat.le_of_ble_eq_true rfl) (Nat.le_of_ble_eq_true rfl)) rfl rfl rfl rfl inTX5 (Nat.le_of_ble_eq_true rfl) tw_230 (fun ad => rfl)) ?_
        refine G_st (x_iload dX5_hold_55 rfl) ?_
        refine G_bd (fun x11 t12 h13 => ?_)
        refine G_st (x_callN [aI v4, aR (g, 7), aI v5] (c_X6_get ids Hn (h, 26) v7 (Hh 26 (Nat.le_of_ble_eq_true rfl) (Nat.le_of_ble_eq_true rfl)) rfl _ _ _ h13) dX5_hold_57 (List.mem_of_getElem? (i := 17) rfl) kc_X6_get rfl ⟨Nat.le_of_ble_eq_true rfl, Nat.le_of_ble_eq_true rfl⟩ (Nat.le_of_ble_eq_true rfl) rfl) ?_
        refine G_bd (fun x14 t15 h16 => ?_)
        refine G_st (x_callS [aI v5] (c_X5_room ids Hn g v4 x11 Hg _ _ _ h16) dX5_hold_60 tw_629 kc_X5_room rfl ⟨Nat.le_of_ble_eq_true rfl, Nat.le_of_ble_eq_true rfl⟩ (Nat.le_of_ble_eq_true rfl) rfl) ?_
        refine G_st (x_mmin dX5_hold_63 tw_635 tw_444 tw_74 tw_445 ⟨Nat.le_of_ble_eq_true rfl, Nat.le_of_ble_eq_true rfl⟩ (Nat.le_of_ble_eq_true rfl)) ?_
        refine G_bvI (fun x17 => ?_)
        refine G_st (x_istore [some (aR (h, 25)), some (aR (g, 7)), none, none, some (aI v4), some (aI v5), some (aI v6), some (aI v7), some (aI x17)] dX5_hold_66 (Nat.le_of_ble_eq_true rfl) rfl rfl) ?_
        refine G_st (x_aload_n dX5_hold_68 rfl) ?_
        refine G_st (x_get (k := 1) (aR (h, 27)) dX5_hold_69 (Hh 25 (Nat.le_of_ble_eq_true rfl) (Nat.le_of_ble_eq_true rfl)) rfl rfl rfl rfl inTX5 (Nat.le_of_ble_eq_true rfl) tw_233 (fun ad => rfl)) ?_
        refine G_st (x_iload dX5_hold_72 rfl) ?_
        refine G_st (x_iload dX5_hold_74 rfl) ?_
        refine G_bd (fun _ t19 h20 => ?_)
        refine G_st (x_callN [] (c_X6_set ids Hn (h, 27) v7 v5 (Hh 27 (Nat.le_of_ble_eq_true rfl) (Nat.le_of_ble_eq_true rfl)) rfl _ _ _ h20) dX5_hold_76 (List.mem_of_getElem? (i := 18) rfl) kc_X6_set rfl ⟨Nat.le_of_ble_eq_true rfl, Nat.le_of_ble_eq_true rfl⟩ (Nat.le_of_ble_eq_true rfl) rfl) ?_
        refine G_st (x_aload_n dX5_hold_79 rfl) ?_
        refine G_st (x_get (k := 2) (aR (h, 28)) dX5_hold_80 (Hh 25 (Nat.le_of_ble_eq_true rfl) (Nat.le_of_ble_eq_true rfl)) rfl rfl rfl rfl inTX5 (Nat.le_of_ble_eq_true rfl) tw_235 (fun ad => rfl)) ?_
        refine G_st (x_iload dX5_hold_83 rfl) ?_
        refine G_st (x_iload dX5_hold_85 rfl) ?_
        refine G_bd (fun _ t22 h23 => ?_)
        refine G_st (x_callN [] (c_X6_set ids Hn (h, 28) v7 x17 (Hh 28 (Nat.le_of_ble_eq_true rfl) (Nat.le_of_ble_eq_true rfl)) rfl _ _ _ h23) dX5_hold_87 (List.mem_of_getElem? (i := 18) rfl) kc_X6_set rfl ⟨Nat.le_of_ble_eq_true rfl, Nat.le_of_ble_eq_true rfl⟩ (Nat.le_of_ble_eq_true rfl) rfl) ?_
        refine G_st (x_aload_n dX5_hold_90 rfl) ?_
        refine G_st (x_iload dX5_hold_91 rfl) ?_
        refine G_st (x_iconst (1 : Int32) dX5_hold_93 rfl) ?_
        refine G_st (x_iadd dX5_hold_94) ?_
        refine G_st (x_put (k := 3) (ty := .int) (v := aI (v7 + (1 : Int32))) (z := (v7 + (1 : Int32))) (upS t22 (h, 25) 3 (v7 + (1 : Int32))) dX5_hold_95 (Hh 25 (Nat.le_of_ble_eq_true rfl) (Nat.le_of_ble_eq_true rfl)) rfl rfl rfl rfl inTX5 tyX5_ok nmX5 (Nat.le_of_ble_eq_true rfl) tw_237 rfl rfl (fun ad => rfl) (fun ad => rfl) (fun ad => put_i0 ad _ _ _ _ rfl) rfl) ?_
        refine G_bvS (fun t24 => ?_)
        refine G_st (x_iload dX5_hold_98 rfl) ?_
        refine G_st (x_iload dX5_hold_100 rfl) ?_
        refine G_st (x_isub dX5_hold_102) ?_
        refine G_bvI (fun x25 => ?_)
        refine G_st (x_istore [some (aR (h, 25)), some (aR (g, 7)), none, none, some (aI v4), some (aI x25), some (aI v6), some (aI v7), some (aI x17)] dX5_hold_103 (Nat.le_of_ble_eq_true rfl) rfl rfl) ?_
        refine G_st (x_iinc (v7 + (1 : Int32)) [some (aR (h, 25)), some (aR (g, 7)), none, none, some (aI v4), some (aI x25), some (aI v6), some (aI (v7 + (1 : Int32))), some (aI x17)] dX5_hold_105 (Nat.le_of_ble_eq_true rfl) rfl rfl rfl rfl) ?_
        refine G_st (x_goto (tgt := 34) dX5_hold_108 (by decide)) ?_
        refine G_weak _ ?_ ((ih) v4 x25 v6 (v7 + (1 : Int32)) t24)
        exact (leL_s (leL_s (leL_n (leL_n (leL_s (leL_s (leL_s (leL_s (leL_n (leL_e _))))))))))
set_option maxRecDepth 100000 in
set_option maxHeartbeats 4000000 in
theorem g_X5_hold (ids : List (Nat × Nat)) (Hn : Ndp ids) (h : Nat) (g : Nat) (q : Nat) (v3 : Int32) (Hh : InR ids h 25 28) (Hg : InR ids g 7 14) (Hq : InR ids q 15 19) (t0 : Sg) : Gj kV mX5_hold ids 0 [some (aR (h, 25)), some (aR (g, 7)), some (aR (q, 15)), some (aI v3), none, none, none, none, none] [] t0 (f_X5_hold h g q v3 t0) := by
  unfold f_X5_hold
  refine G_st (x_aload_n dX5_hold_0 rfl) ?_
  refine G_st (x_get (k := 2) (aR (q, 17)) dX5_hold_1 (Hq 15 (Nat.le_of_ble_eq_true rfl) (Nat.le_of_ble_eq_true rfl)) rfl rfl rfl rfl inTX1 (Nat.le_of_ble_eq_true rfl) tw_178 (fun ad => rfl)) ?_
  refine G_st (x_iload_n dX5_hold_4 rfl) ?_
  refine G_bd (fun x1 t2 h3 => ?_)
  refine G_st (x_callN [] (c_X6_get ids Hn (q, 17) v3 (Hq 17 (Nat.le_of_ble_eq_true rfl) (Nat.le_of_ble_eq_true rfl)) rfl _ _ _ h3) dX5_hold_5 (List.mem_of_getElem? (i := 17) rfl) kc_X6_get rfl ⟨Nat.le_of_ble_eq_true rfl, Nat.le_of_ble_eq_true rfl⟩ (Nat.le_of_ble_eq_true rfl) rfl) ?_
  refine G_st (x_istore [some (aR (h, 25)), some (aR (g, 7)), some (aR (q, 15)), some (aI v3), some (aI x1), none, none, none, none] dX5_hold_8 (Nat.le_of_ble_eq_true rfl) rfl rfl) ?_
  refine G_st (x_aload_n dX5_hold_10 rfl) ?_
  refine G_st (x_get (k := 3) (aR (q, 18)) dX5_hold_11 (Hq 15 (Nat.le_of_ble_eq_true rfl) (Nat.le_of_ble_eq_true rfl)) rfl rfl rfl rfl inTX1 (Nat.le_of_ble_eq_true rfl) tw_182 (fun ad => rfl)) ?_
  refine G_st (x_iload_n dX5_hold_14 rfl) ?_
  refine G_bd (fun x4 t5 h6 => ?_)
  refine G_st (x_callN [] (c_X6_get ids Hn (q, 18) v3 (Hq 18 (Nat.le_of_ble_eq_true rfl) (Nat.le_of_ble_eq_true rfl)) rfl _ _ _ h6) dX5_hold_15 (List.mem_of_getElem? (i := 17) rfl) kc_X6_get rfl ⟨Nat.le_of_ble_eq_true rfl, Nat.le_of_ble_eq_true rfl⟩ (Nat.le_of_ble_eq_true rfl) rfl) ?_
  refine G_st (x_istore [some (aR (h, 25)), some (aR (g, 7)), some (aR (q, 15)), some (aI v3), some (aI x1), some (aI x4), none, none, none] dX5_hold_18 (Nat.le_of_ble_eq_true rfl) rfl rfl) ?_
  refine G_st (x_aload_n dX5_hold_20 rfl) ?_
  refine G_st (x_get (k := 3) (aI (t5 (h, 25) 3)) dX5_hold_21 (Hh 25 (Nat.le_of_ble_eq_true rfl) (Nat.le_of_ble_eq_true rfl)) rfl rfl rfl rfl inTX5 (Nat.le_of_ble_eq_true rfl) tw_237 (fun ad => rfl)) ?_
  refine G_bvI (fun x7 => ?_)
  refine G_st (x_istore [some (aR (h, 25)), some (aR (g, 7)), some (aR (q, 15)), some (aI v3), some (aI x1), some (aI x4), some (aI x7), none, none] dX5_hold_24 (Nat.le_of_ble_eq_true rfl) rfl rfl) ?_
  refine G_st (x_aload_n dX5_hold_26 rfl) ?_
  refine G_st (x_iconst (0 : Int32) dX5_hold_27 rfl) ?_
  refine G_st (x_put (k := 3) (ty := .int) (v := aI (0 : Int32)) (z := (0 : Int32)) (upS t5 (h, 25) 3 (0 : Int32)) dX5_hold_28 (Hh 25 (Nat.le_of_ble_eq_true rfl) (Nat.le_of_ble_eq_true rfl)) rfl rfl rfl rfl inTX5 tyX5_ok nmX5 (Nat.le_of_ble_eq_true rfl) tw_237 rfl rfl (fun ad => rfl) (fun ad => rfl) (fun ad => put_i0 ad _ _ _ _ rfl) rfl) ?_
  refine G_bvS (fun t8 => ?_)
  refine G_st (x_iconst (0 : Int32) dX5_hold_31 rfl) ?_
  refine G_st (x_istore [some (aR (h, 25)), some (aR (g, 7)), some (aR (q, 15)), some (aI v3), some (aI x1), some (aI x4), some (aI x7), some (aI (0 : Int32)), none] dX5_hold_32 (Nat.le_of_ble_eq_true rfl) rfl rfl) ?_
  refine G_weak _ ?_ (g_X5_hold_34 ids Hn h g q Hh Hg Hq fuel x1 x4 x7 (0 : Int32) t8)
  exact (leL_s (leL_s (leL_n (leL_n (leL_s (leL_s (leL_s (leL_s (leL_n (leL_e _))))))))))
set_option maxRecDepth 100000 in
set_option maxHeartbeats 4000000 in
theorem c_X5_hold (ids : List (Nat × Nat)) (Hn : Ndp ids) (h : Nat) (g : Nat) (q : Nat) (v3 : Int32) (Hh : InR ids h 25 28) (Hg : InR ids g 7 14) (Hq : InR ids q 15 19) (t0 : Sg) (r : Unit) (t1 : Sg) (hf : f_X5_hold h g q v3 t0 = some (r, t1)) : Mt0 mX5_hold yX5_hold ids [aR (h, 25), aR (g, 7), aR (q, 15), aI v3] t0 none t1 :=
  Mt_of (x := (r, t1)) (g_X5_hold ids Hn h g q v3 Hh Hg Hq t0) hf (by decide) rfl Hn (fun _ => rfl) (fun _ => Nat.le_of_ble_eq_true rfl)
theorem dX5_next_0 : decode cX5_next 0 = .ok (.iload_n 2, 1) := by decide +kernel
theorem dX5_next_1 : decode cX5_next 1 = .ok (.iconst 4, 1) := by decide +kernel
theorem dX5_next_2 : decode cX5_next 2 = .ok (.idiv, 1) := by decide +kernel
theorem dX5_next_3 : decode cX5_next 3 = .ok (.istore_n 3, 1) := by decide +kernel
theorem dX5_next_4 : decode cX5_next 4 = .ok (.iload_n 2, 1) := by decide +kernel
theorem dX5_next_5 : decode cX5_next 5 = .ok (.iconst 4, 1) := by decide +kernel
theorem dX5_next_6 : decode cX5_next 6 = .ok (.irem, 1) := by decide +kernel
theorem dX5_next_7 : decode cX5_next 7 = .ok (.istore 4, 2) := by decide +kernel
theorem dX5_next_9 : decode cX5_next 9 = .ok (.iload_n 1, 1) := by decide +kernel
theorem dX5_next_10 : decode cX5_next 10 = .ok (.tableswitch 143 1 5 #[34, 49, 143, 68, 98], 34) := by decide +kernel
theorem dX5_next_44 : decode cX5_next 44 = .ok (.aload_n 0, 1) := by decide +kernel
theorem dX5_next_45 : decode cX5_next 45 = .ok (.iload_n 3, 1) := by decide +kernel
theorem dX5_next_46 : decode cX5_next 46 = .ok (.iconst 1, 1) := by decide +kernel
theorem dX5_next_47 : decode cX5_next 47 = .ok (.isub, 1) := by decide +kernel
theorem dX5_next_48 : decode cX5_next 48 = .ok (.iload 4, 2) := by decide +kernel
theorem dX5_next_50 : decode cX5_next 50 = .ok (.aload_n 0, 1) := by decide +kernel
theorem dX5_next_51 : decode cX5_next 51 = .ok (.getfield 62, 3) := by decide +kernel
theorem dX5_next_54 : decode cX5_next 54 = .ok (.iadd, 1) := by decide +kernel
theorem dX5_next_55 : decode cX5_next 55 = .ok (.invokevirtual 65, 3) := by decide +kernel
theorem dX5_next_58 : decode cX5_next 58 = .ok (.ireturn, 1) := by decide +kernel
theorem dX5_next_59 : decode cX5_next 59 = .ok (.aload_n 0, 1) := by decide +kernel
theorem dX5_next_60 : decode cX5_next 60 = .ok (.iload_n 3, 1) := by decide +kernel
theorem dX5_next_61 : decode cX5_next 61 = .ok (.iconst 1, 1) := by decide +kernel
theorem dX5_next_62 : decode cX5_next 62 = .ok (.isub, 1) := by decide +kernel
theorem dX5_next_63 : decode cX5_next 63 = .ok (.iload 4, 2) := by decide +kernel
theorem dX5_next_65 : decode cX5_next 65 = .ok (.aload_n 0, 1) := by decide +kernel
theorem dX5_next_66 : decode cX5_next 66 = .ok (.getfield 68, 3) := by decide +kernel
theorem dX5_next_69 : decode cX5_next 69 = .ok (.iload_n 2, 1) := by decide +kernel
theorem dX5_next_70 : decode cX5_next 70 = .ok (.invokestatic 30, 3) := by decide +kernel
theorem dX5_next_73 : decode cX5_next 73 = .ok (.iadd, 1) := by decide +kernel
theorem dX5_next_74 : decode cX5_next 74 = .ok (.invokevirtual 65, 3) := by decide +kernel
theorem dX5_next_77 : decode cX5_next 77 = .ok (.ireturn, 1) := by decide +kernel
theorem dX5_next_78 : decode cX5_next 78 = .ok (.aload_n 0, 1) := by decide +kernel
theorem dX5_next_79 : decode cX5_next 79 = .ok (.iload_n 3, 1) := by decide +kernel
theorem dX5_next_80 : decode cX5_next 80 = .ok (.iconst 1, 1) := by decide +kernel
theorem dX5_next_81 : decode cX5_next 81 = .ok (.iadd, 1) := by decide +kernel
theorem dX5_next_82 : decode cX5_next 82 = .ok (.iload 4, 2) := by decide +kernel
theorem dX5_next_84 : decode cX5_next 84 = .ok (.invokevirtual 65, 3) := by decide +kernel
theorem dX5_next_87 : decode cX5_next 87 = .ok (.istore 5, 2) := by decide +kernel
theorem dX5_next_89 : decode cX5_next 89 = .ok (.aload_n 0, 1) := by decide +kernel
theorem dX5_next_90 : decode cX5_next 90 = .ok (.getfield 68, 3) := by decide +kernel
theorem dX5_next_93 : decode cX5_next 93 = .ok (.iload 5, 2) := by decide +kernel
theorem dX5_next_95 : decode cX5_next 95 = .ok (.invokestatic 30, 3) := by decide +kernel
theorem dX5_next_98 : decode cX5_next 98 = .ok (.ifCond .eq 7, 3) := by decide +kernel
theorem dX5_next_101 : decode cX5_next 101 = .ok (.iconst (-1), 1) := by decide +kernel
theorem dX5_next_102 : decode cX5_next 102 = .ok (.goto 5, 3) := by decide +kernel
theorem dX5_next_105 : decode cX5_next 105 = .ok (.iload 5, 2) := by decide +kernel
theorem dX5_next_107 : decode cX5_next 107 = .ok (.ireturn, 1) := by decide +kernel
theorem dX5_next_108 : decode cX5_next 108 = .ok (.aload_n 0, 1) := by decide +kernel
theorem dX5_next_109 : decode cX5_next 109 = .ok (.getfield 62, 3) := by decide +kernel
theorem dX5_next_112 : decode cX5_next 112 = .ok (.ifCond .ne 12, 3) := by decide +kernel
theorem dX5_next_115 : decode cX5_next 115 = .ok (.iload_n 3, 1) := by decide +kernel
theorem dX5_next_116 : decode cX5_next 116 = .ok (.iconst 2, 1) := by decide +kernel
theorem dX5_next_117 : decode cX5_next 117 = .ok (.if_icmp .lt 7, 3) := by decide +kernel
theorem dX5_next_120 : decode cX5_next 120 = .ok (.iconst 1, 1) := by decide +kernel
theorem dX5_next_121 : decode cX5_next 121 = .ok (.goto 4, 3) := by decide +kernel
theorem dX5_next_124 : decode cX5_next 124 = .ok (.iconst 0, 1) := by decide +kernel
theorem dX5_next_125 : decode cX5_next 125 = .ok (.istore 6, 2) := by decide +kernel
theorem dX5_next_127 : decode cX5_next 127 = .ok (.aload_n 0, 1) := by decide +kernel
theorem dX5_next_128 : decode cX5_next 128 = .ok (.iload 6, 2) := by decide +kernel
theorem dX5_next_130 : decode cX5_next 130 = .ok (.ifCond .eq 9, 3) := by decide +kernel
theorem dX5_next_133 : decode cX5_next 133 = .ok (.iload_n 3, 1) := by decide +kernel
theorem dX5_next_134 : decode cX5_next 134 = .ok (.iconst 2, 1) := by decide +kernel
theorem dX5_next_135 : decode cX5_next 135 = .ok (.isub, 1) := by decide +kernel
theorem dX5_next_136 : decode cX5_next 136 = .ok (.goto 6, 3) := by decide +kernel
theorem dX5_next_139 : decode cX5_next 139 = .ok (.iload_n 3, 1) := by decide +kernel
theorem dX5_next_140 : decode cX5_next 140 = .ok (.iconst 1, 1) := by decide +kernel
theorem dX5_next_141 : decode cX5_next 141 = .ok (.isub, 1) := by decide +kernel
theorem dX5_next_142 : decode cX5_next 142 = .ok (.iload 4, 2) := by decide +kernel
theorem dX5_next_144 : decode cX5_next 144 = .ok (.aload_n 0, 1) := by decide +kernel
theorem dX5_next_145 : decode cX5_next 145 = .ok (.getfield 62, 3) := by decide +kernel
theorem dX5_next_148 : decode cX5_next 148 = .ok (.iadd, 1) := by decide +kernel
theorem dX5_next_149 : decode cX5_next 149 = .ok (.invokevirtual 65, 3) := by decide +kernel
theorem dX5_next_152 : decode cX5_next 152 = .ok (.ireturn, 1) := by decide +kernel
theorem dX5_next_153 : decode cX5_next 153 = .ok (.aload_n 0, 1) := by decide +kernel
theorem dX5_next_154 : decode cX5_next 154 = .ok (.iload_n 3, 1) := by decide +kernel
theorem dX5_next_155 : decode cX5_next 155 = .ok (.iconst 1, 1) := by decide +kernel
theorem dX5_next_156 : decode cX5_next 156 = .ok (.isub, 1) := by decide +kernel
theorem dX5_next_157 : decode cX5_next 157 = .ok (.iload 4, 2) := by decide +kernel
theorem dX5_next_159 : decode cX5_next 159 = .ok (.invokevirtual 65, 3) := by decide +kernel
theorem dX5_next_162 : decode cX5_next 162 = .ok (.ireturn, 1) := by decide +kernel
set_option maxRecDepth 100000 in
set_option maxHeartbeats 4000000 in
theorem g_X5_next_153 (ids : List (Nat × Nat)) (Hn : Ndp ids) (h : Nat) (Hh : InR ids h 7 14)  (v3 : Int32) (v4 : Int32) (t0 : Sg) : Gj kI mX5_next ids 153 [some (aR (h, 7)), none, none, some (aI v3), some (aI v4), none, none] [] t0 (f_X5_next_153 h v3 v4 t0) := by
  unfold f_X5_next_153
  refine G_st (x_aload_n dX5_next_153 rfl) ?_
  refine G_st (x_iload_n dX5_next_154 rfl) ?_
  refine G_st (x_iconst (1 : Int32) dX5_next_155 rfl) ?_
  refine G_st (x_isub dX5_next_156) ?_
  refine G_st (x_iload dX5_next_157 rfl) ?_
  refine G_bd (fun x15 t16 h17 => ?_)
  refine G_st (x_callV [] (c_X0_place ids Hn h (v3 - (1 : Int32)) v4 Hh _ _ _ h17) dX5_next_159 tw_623 kc_X0_place (Hh 7 (Nat.le_of_ble_eq_true rfl) (Nat.le_of_ble_eq_true rfl)) rfl rfl rfl rfl ⟨Nat.le_of_ble_eq_true rfl, Nat.le_of_ble_eq_true rfl⟩ (Nat.le_of_ble_eq_true rfl) rfl) ?_
  exact G_ret rfl ⟨dX5_next_162, _, rfl, rfl⟩ rfl
set_option maxRecDepth 100000 in
set_option maxHeartbeats 4000000 in
theorem g_X5_next (ids : List (Nat × Nat)) (Hn : Ndp ids) (h : Nat) (v1 : Int32) (v2 : Int32) (Hh : InR ids h 7 14) (t0 : Sg) : Gj kI mX5_next ids 0 [some (aR (h, 7)), some (aI v1), some (aI v2), none, none, none, none] [] t0 (f_X5_next h v1 v2 t0) := by
  unfold f_X5_next
  refine G_st (x_iload_n dX5_next_0 rfl) ?_
  refine G_st (x_iconst (4 : Int32) dX5_next_1 rfl) ?_
  refine G_st (x_idiv dX5_next_2 (by decide)) ?_
  refine G_bvI (fun x1 => ?_)
  refine G_st (x_istore_n [some (aR (h, 7)), some (aI v1), some (aI v2), some (aI x1), none, none, none] dX5_next_3 (Nat.le_of_ble_eq_true rfl) rfl rfl) ?_
  refine G_st (x_iload_n dX5_next_4 rfl) ?_
  refine G_st (x_iconst (4 : Int32) dX5_next_5 rfl) ?_
  refine G_st (x_irem dX5_next_6 (by decide)) ?_
  refine G_bvI (fun x2 => ?_)
  refine G_st (x_istore [some (aR (h, 7)), some (aI v1), some (aI v2), some (aI x1), some (aI x2), none, none] dX5_next_7 (Nat.le_of_ble_eq_true rfl) rfl rfl) ?_
  refine G_st (x_iload_n dX5_next_9 rfl) ?_
  refine G_ite (fun c3 => ?_) (fun c3 => ?_)
  · refine G_st (x_tabIn (tgt := 44) (1 : Int32) dX5_next_10 c3 (by decide) (by decide) rfl (by decide)) ?_
    refine G_st (x_aload_n dX5_next_44 rfl) ?_
    refine G_st (x_iload_n dX5_next_45 rfl) ?_
    refine G_st (x_iconst (1 : Int32) dX5_next_46 rfl) ?_
    refine G_st (x_isub dX5_next_47) ?_
    refine G_st (x_iload dX5_next_48 rfl) ?_
    refine G_st (x_aload_n dX5_next_50 rfl) ?_
    refine G_st (x_get (k := 2) (aI (t0 (h, 7) 2)) dX5_next_51 (Hh 7 (Nat.le_of_ble_eq_true rfl) (Nat.le_of_ble_eq_true rfl)) rfl rfl rfl rfl inTX0 (Nat.le_of_ble_eq_true rfl) tw_115 (fun ad => rfl)) ?_
    refine G_st (x_iadd dX5_next_54) ?_
    refine G_bd (fun x4 t5 h6 => ?_)
    refine G_st (x_callV [] (c_X0_place ids Hn h (x1 - (1 : Int32)) (x2 + (t0 (h, 7) 2)) Hh _ _ _ h6) dX5_next_55 tw_623 kc_X0_place (Hh 7 (Nat.le_of_ble_eq_true rfl) (Nat.le_of_ble_eq_true rfl)) rfl rfl rfl rfl ⟨Nat.le_of_ble_eq_true rfl, Nat.le_of_ble_eq_true rfl⟩ (Nat.le_of_ble_eq_true rfl) rfl) ?_
    exact G_ret rfl ⟨dX5_next_58, _, rfl, rfl⟩ rfl
  refine G_ite (fun c7 => ?_) (fun c7 => ?_)
  · refine G_st (x_tabIn (tgt := 59) (2 : Int32) dX5_next_10 c7 (by decide) (by decide) rfl (by decide)) ?_
    refine G_st (x_aload_n dX5_next_59 rfl) ?_
    refine G_st (x_iload_n dX5_next_60 rfl) ?_
    refine G_st (x_iconst (1 : Int32) dX5_next_61 rfl) ?_
    refine G_st (x_isub dX5_next_62) ?_
    refine G_st (x_iload dX5_next_63 rfl) ?_
    refine G_st (x_aload_n dX5_next_65 rfl) ?_
    refine G_st (x_get (k := 5) (aR (h, 10)) dX5_next_66 (Hh 7 (Nat.le_of_ble_eq_true rfl) (Nat.le_of_ble_eq_true rfl)) rfl rfl rfl rfl inTX0 (Nat.le_of_ble_eq_true rfl) tw_126 (fun ad => rfl)) ?_
    refine G_st (x_iload_n dX5_next_69 rfl) ?_
    refine G_bd (fun x8 t9 h10 => ?_)
    refine G_st (x_callN [aI x2, aI (x1 - (1 : Int32)), aR (h, 7)] (c_X6_get ids Hn (h, 10) v2 (Hh 10 (Nat.le_of_ble_eq_true rfl) (Nat.le_of_ble_eq_true rfl)) rfl _ _ _ h10) dX5_next_70 (List.mem_of_getElem? (i := 17) rfl) kc_X6_get rfl ⟨Nat.le_of_ble_eq_true rfl, Nat.le_of_ble_eq_true rfl⟩ (Nat.le_of_ble_eq_true rfl) rfl) ?_
    refine G_st (x_iadd dX5_next_73) ?_
    refine G_bd (fun x11 t12 h13 => ?_)
    refine G_st (x_callV [] (c_X0_place ids Hn h (x1 - (1 : Int32)) (x2 + x8) Hh _ _ _ h13) dX5_next_74 tw_623 kc_X0_place (Hh 7 (Nat.le_of_ble_eq_true rfl) (Nat.le_of_ble_eq_true rfl)) rfl rfl rfl rfl ⟨Nat.le_of_ble_eq_true rfl, Nat.le_of_ble_eq_true rfl⟩ (Nat.le_of_ble_eq_true rfl) rfl) ?_
    exact G_ret rfl ⟨dX5_next_77, _, rfl, rfl⟩ rfl
  refine G_ite (fun c14 => ?_) (fun c14 => ?_)
  · refine G_st (x_tabIn (tgt := 153) (3 : Int32) dX5_next_10 c14 (by decide) (by decide) rfl (by decide)) ?_
    refine G_weak _ ?_ (g_X5_next_153 ids Hn h Hh x1 x2 t0)
    exact (leL_s (leL_n (leL_n (leL_s (leL_s (leL_n (leL_n (leL_e _))))))))
  refine G_ite (fun c18 => ?_) (fun c18 => ?_)
  · refine G_st (x_tabIn (tgt := 78) (4 : Int32) dX5_next_10 c18 (by decide) (by decide) rfl (by decide)) ?_
    refine G_st (x_aload_n dX5_next_78 rfl) ?_
    refine G_st (x_iload_n dX5_next_79 rfl) ?_
    refine G_st (x_iconst (1 : Int32) dX5_next_80 rfl) ?_
    refine G_st (x_iadd dX5_next_81) ?_
    refine G_st (x_iload dX5_next_82 rfl) ?_
    refine G_bd (fun x19 t20 h21 => ?_)
    refine G_st (x_callV [] (c_X0_place ids Hn h (x1 + (1 : Int32)) x2 Hh _ _ _ h21) dX5_next_84 tw_623 kc_X0_place (Hh 7 (Nat.le_of_ble_eq_true rfl) (Nat.le_of_ble_eq_true rfl)) rfl rfl rfl rfl ⟨Nat.le_of_ble_eq_true rfl, Nat.le_of_ble_eq_true rfl⟩ (Nat.le_of_ble_eq_true rfl) rfl) ?_
    refine G_st (x_istore [some (aR (h, 7)), some (aI v1), some (aI v2), some (aI x1), some (aI x2), some (aI x19), none] dX5_next_87 (Nat.le_of_ble_eq_true rfl) rfl rfl) ?_
    refine G_st (x_aload_n dX5_next_89 rfl) ?_
    refine G_st (x_get (k := 5) (aR (h, 10)) dX5_next_90 (Hh 7 (Nat.le_of_ble_eq_true rfl) (Nat.le_of_ble_eq_true rfl)) rfl rfl rfl rfl inTX0 (Nat.le_of_ble_eq_true rfl) tw_126 (fun ad => rfl)) ?_
    refine G_st (x_iload dX5_next_93 rfl) ?_
    refine G_bd (fun x22 t23 h24 => ?_)
    refine G_st (x_callN [] (c_X6_get ids Hn (h, 10) x19 (Hh 10 (Nat.le_of_ble_eq_true rfl) (Nat.le_of_ble_eq_true rfl)) rfl _ _ _ h24) dX5_next_95 (List.mem_of_getElem? (i := 17) rfl) kc_X6_get rfl ⟨Nat.le_of_ble_eq_true rfl, Nat.le_of_ble_eq_true rfl⟩ (Nat.le_of_ble_eq_true rfl) rfl) ?_
    have e26 : Tj mX5_next ids 98 [some (aR (h, 7)), some (aI v1), some (aI v2), some (aI x1), some (aI x2), some (aI x19), none] [aI x22] t23 107 [some (aR (h, 7)), some (aI v1), some (aI v2), some (aI x1), some (aI x2), some (aI x19), none] [aI (if x22 = 0 then x19 else (-1 : Int32))] t23 := by
      refine Tj.dia (fun c25 => ?_) (fun c25 => ?_)
      · refine Tj.tr (x_if_eq_t (tgt := 105) dX5_next_98 (by decide) c25) ?_
        refine Tj.tr (x_iload dX5_next_105 rfl) ?_
        exact Tj.rf
      · refine Tj.tr (x_if_eq_f 105 dX5_next_98 (by decide) c25) ?_
        refine Tj.tr (x_iconst (-1 : Int32) dX5_next_101 rfl) ?_
        refine Tj.tr (x_goto (tgt := 107) dX5_next_102 (by decide)) ?_
        exact Tj.rf
    refine G_st e26 ?_
    exact G_ret rfl ⟨dX5_next_107, _, rfl, rfl⟩ rfl
  refine G_ite (fun c27 => ?_) (fun c27 => ?_)
  · refine G_st (x_tabIn (tgt := 108) (5 : Int32) dX5_next_10 c27 (by decide) (by decide) rfl (by decide)) ?_
    refine G_st (x_aload_n dX5_next_108 rfl) ?_
    refine G_st (x_get (k := 2) (aI (t0 (h, 7) 2)) dX5_next_109 (Hh 7 (Nat.le_of_ble_eq_true rfl) (Nat.le_of_ble_eq_true rfl)) rfl rfl rfl rfl inTX0 (Nat.le_of_ble_eq_true rfl) tw_115 (fun ad => rfl)) ?_
    have e30 : Tj mX5_next ids 112 [some (aR (h, 7)), some (aI v1), some (aI v2), some (aI x1), some (aI x2), none, none] [aI (t0 (h, 7) 2)] t0 125 [some (aR (h, 7)), some (aI v1), some (aI v2), some (aI x1), some (aI x2), none, none] [aI (if (t0 (h, 7) 2) = 0 then (if x1 < (2 : Int32) then (0 : Int32) else (1 : Int32)) else (0 : Int32))] t0 := by
      refine Tj.dia (fun c28 => ?_) (fun c28 => ?_)
      · refine Tj.tr (x_if_ne_f 124 dX5_next_112 (by decide) c28) ?_
        refine Tj.tr (x_iload_n dX5_next_115 rfl) ?_
        refine Tj.tr (x_iconst (2 : Int32) dX5_next_116 rfl) ?_
        refine Tj.dia (fun c29 => ?_) (fun c29 => ?_)
        · refine Tj.tr (x_icmp_lt_t (tgt := 124) dX5_next_117 (by decide) c29) ?_
          refine Tj.tr (x_iconst (0 : Int32) dX5_next_124 rfl) ?_
          exact Tj.rf
        · refine Tj.tr (x_icmp_lt_f 124 dX5_next_117 (by decide) c29) ?_
          refine Tj.tr (x_iconst (1 : Int32) dX5_next_120 rfl) ?_
          refine Tj.tr (x_goto (tgt := 125) dX5_next_121 (by decide)) ?_
          exact Tj.rf
      · refine Tj.tr (x_if_ne_t (tgt := 124) dX5_next_112 (by decide) c28) ?_
        refine Tj.tr (x_iconst (0 : Int32) dX5_next_124 rfl) ?_
        exact Tj.rf
    refine G_st e30 ?_
    refine G_bvI (fun x31 => ?_)
    refine G_st (x_istore [some (aR (h, 7)), some (aI v1), some (aI v2), some (aI x1), some (aI x2), none, some (aI x31)] dX5_next_125 (Nat.le_of_ble_eq_true rfl) rfl rfl) ?_
    refine G_st (x_aload_n dX5_next_127 rfl) ?_
    refine G_st (x_iload dX5_next_128 rfl) ?_
    have e33 : Tj mX5_next ids 130 [some (aR (h, 7)), some (aI v1), some (aI v2), some (aI x1), some (aI x2), none, some (aI x31)] [aI x31, aR (h, 7)] t0 142 [some (aR (h, 7)), some (aI v1), some (aI v2), some (aI x1), some (aI x2), none, some (aI x31)] [aI (if x31 = 0 then (x1 - (1 : Int32)) else (x1 - (2 : Int32))), aR (h, 7)] t0 := by
      refine Tj.dia (fun c32 => ?_) (fun c32 => ?_)
      · refine Tj.tr (x_if_eq_t (tgt := 139) dX5_next_130 (by decide) c32) ?_
        refine Tj.tr (x_iload_n dX5_next_139 rfl) ?_
        refine Tj.tr (x_iconst (1 : Int32) dX5_next_140 rfl) ?_
        refine Tj.tr (x_isub dX5_next_141) ?_
        exact Tj.rf
      · refine Tj.tr (x_if_eq_f 139 dX5_next_130 (by decide) c32) ?_
        refine Tj.tr (x_iload_n dX5_next_133 rfl) ?_
        refine Tj.tr (x_iconst (2 : Int32) dX5_next_134 rfl) ?_
        refine Tj.tr (x_isub dX5_next_135) ?_
        refine Tj.tr (x_goto (tgt := 142) dX5_next_136 (by decide)) ?_
        exact Tj.rf
    refine G_st e33 ?_
    refine G_st (x_iload dX5_next_142 rfl) ?_
    refine G_st (x_aload_n dX5_next_144 rfl) ?_
    refine G_st (x_get (k := 2) (aI (t0 (h, 7) 2)) dX5_next_145 (Hh 7 (Nat.le_of_ble_eq_true rfl) (Nat.le_of_ble_eq_true rfl)) rfl rfl rfl rfl inTX0 (Nat.le_of_ble_eq_true rfl) tw_115 (fun ad => rfl)) ?_
    refine G_st (x_iadd dX5_next_148) ?_
    refine G_bd (fun x34 t35 h36 => ?_)
    refine G_st (x_callV [] (c_X0_place ids Hn h (if x31 = 0 then (x1 - (1 : Int32)) else (x1 - (2 : Int32))) (x2 + (t0 (h, 7) 2)) Hh _ _ _ h36) dX5_next_149 tw_623 kc_X0_place (Hh 7 (Nat.le_of_ble_eq_true rfl) (Nat.le_of_ble_eq_true rfl)) rfl rfl rfl rfl ⟨Nat.le_of_ble_eq_true rfl, Nat.le_of_ble_eq_true rfl⟩ (Nat.le_of_ble_eq_true rfl) rfl) ?_
    exact G_ret rfl ⟨dX5_next_152, _, rfl, rfl⟩ rfl
  refine G_st (x_tabOut (tgt := 153) dX5_next_10 (by have c3q : ¬ (v1).toInt = (1 : Int) := lv_neT c3 rfl; have c7q : ¬ (v1).toInt = (2 : Int) := lv_neT c7 rfl; have c14q : ¬ (v1).toInt = (3 : Int) := lv_neT c14 rfl; have c18q : ¬ (v1).toInt = (4 : Int) := lv_neT c18 rfl; have c27q : ¬ (v1).toInt = (5 : Int) := lv_neT c27 rfl; omega) (by decide)) ?_
  refine G_weak _ ?_ (g_X5_next_153 ids Hn h Hh x1 x2 t0)
  exact (leL_s (leL_n (leL_n (leL_s (leL_s (leL_n (leL_n (leL_e _))))))))
set_option maxRecDepth 100000 in
set_option maxHeartbeats 4000000 in
theorem c_X5_next (ids : List (Nat × Nat)) (Hn : Ndp ids) (h : Nat) (v1 : Int32) (v2 : Int32) (Hh : InR ids h 7 14) (t0 : Sg) (r : Int32) (t1 : Sg) (hf : f_X5_next h v1 v2 t0 = some (r, t1)) : Mt0 mX5_next yX5_next ids [aR (h, 7), aI v1, aI v2] t0 (some (aI r)) t1 :=
  Mt_of (x := (r, t1)) (g_X5_next ids Hn h v1 v2 Hh t0) hf (by decide) rfl Hn (fun _ => rfl) (fun _ => Nat.le_of_ble_eq_true rfl)
theorem dX5_trace_0 : decode cX5_trace 0 = .ok (.aload_n 0, 1) := by decide +kernel
theorem dX5_trace_1 : decode cX5_trace 1 = .ok (.iconst 0, 1) := by decide +kernel
theorem dX5_trace_2 : decode cX5_trace 2 = .ok (.putfield 21, 3) := by decide +kernel
theorem dX5_trace_5 : decode cX5_trace 5 = .ok (.aload_n 2, 1) := by decide +kernel
theorem dX5_trace_6 : decode cX5_trace 6 = .ok (.getfield 25, 3) := by decide +kernel
theorem dX5_trace_9 : decode cX5_trace 9 = .ok (.iload_n 3, 1) := by decide +kernel
theorem dX5_trace_10 : decode cX5_trace 10 = .ok (.invokestatic 30, 3) := by decide +kernel
theorem dX5_trace_13 : decode cX5_trace 13 = .ok (.istore 4, 2) := by decide +kernel
theorem dX5_trace_15 : decode cX5_trace 15 = .ok (.aload_n 1, 1) := by decide +kernel
theorem dX5_trace_16 : decode cX5_trace 16 = .ok (.iload 4, 2) := by decide +kernel
theorem dX5_trace_18 : decode cX5_trace 18 = .ok (.aload_n 1, 1) := by decide +kernel
theorem dX5_trace_19 : decode cX5_trace 19 = .ok (.getfield 34, 3) := by decide +kernel
theorem dX5_trace_22 : decode cX5_trace 22 = .ok (.aload_n 2, 1) := by decide +kernel
theorem dX5_trace_23 : decode cX5_trace 23 = .ok (.getfield 39, 3) := by decide +kernel
theorem dX5_trace_26 : decode cX5_trace 26 = .ok (.iload_n 3, 1) := by decide +kernel
theorem dX5_trace_27 : decode cX5_trace 27 = .ok (.invokestatic 30, 3) := by decide +kernel
theorem dX5_trace_30 : decode cX5_trace 30 = .ok (.invokestatic 30, 3) := by decide +kernel
theorem dX5_trace_33 : decode cX5_trace 33 = .ok (.invokestatic 42, 3) := by decide +kernel
theorem dX5_trace_36 : decode cX5_trace 36 = .ok (.istore 5, 2) := by decide +kernel
theorem dX5_trace_38 : decode cX5_trace 38 = .ok (.iconst 0, 1) := by decide +kernel
theorem dX5_trace_39 : decode cX5_trace 39 = .ok (.istore 6, 2) := by decide +kernel
theorem dX5_trace_41 : decode cX5_trace 41 = .ok (.iload 6, 2) := by decide +kernel
theorem dX5_trace_43 : decode cX5_trace 43 = .ok (.bipush 6, 2) := by decide +kernel
theorem dX5_trace_45 : decode cX5_trace 45 = .ok (.if_icmp .ge 43, 3) := by decide +kernel
theorem dX5_trace_48 : decode cX5_trace 48 = .ok (.iload 5, 2) := by decide +kernel
theorem dX5_trace_50 : decode cX5_trace 50 = .ok (.ifCond .lt 38, 3) := by decide +kernel
theorem dX5_trace_53 : decode cX5_trace 53 = .ok (.aload_n 0, 1) := by decide +kernel
theorem dX5_trace_54 : decode cX5_trace 54 = .ok (.getfield 9, 3) := by decide +kernel
theorem dX5_trace_57 : decode cX5_trace 57 = .ok (.iload 6, 2) := by decide +kernel
theorem dX5_trace_59 : decode cX5_trace 59 = .ok (.iload 5, 2) := by decide +kernel
theorem dX5_trace_61 : decode cX5_trace 61 = .ok (.invokestatic 46, 3) := by decide +kernel
theorem dX5_trace_64 : decode cX5_trace 64 = .ok (.aload_n 0, 1) := by decide +kernel
theorem dX5_trace_65 : decode cX5_trace 65 = .ok (.iload 6, 2) := by decide +kernel
theorem dX5_trace_67 : decode cX5_trace 67 = .ok (.iconst 1, 1) := by decide +kernel
theorem dX5_trace_68 : decode cX5_trace 68 = .ok (.iadd, 1) := by decide +kernel
theorem dX5_trace_69 : decode cX5_trace 69 = .ok (.putfield 21, 3) := by decide +kernel
theorem dX5_trace_72 : decode cX5_trace 72 = .ok (.aload_n 1, 1) := by decide +kernel
theorem dX5_trace_73 : decode cX5_trace 73 = .ok (.iload 4, 2) := by decide +kernel
theorem dX5_trace_75 : decode cX5_trace 75 = .ok (.iload 5, 2) := by decide +kernel
theorem dX5_trace_77 : decode cX5_trace 77 = .ok (.invokestatic 42, 3) := by decide +kernel
theorem dX5_trace_80 : decode cX5_trace 80 = .ok (.istore 5, 2) := by decide +kernel
theorem dX5_trace_82 : decode cX5_trace 82 = .ok (.iinc 6 1, 3) := by decide +kernel
theorem dX5_trace_85 : decode cX5_trace 85 = .ok (.goto (-44), 3) := by decide +kernel
theorem dX5_trace_88 : decode cX5_trace 88 = .ok (.return_, 1) := by decide +kernel
set_option maxRecDepth 100000 in
set_option maxHeartbeats 4000000 in
theorem g_X5_trace_41 (ids : List (Nat × Nat)) (Hn : Ndp ids) (h : Nat) (g : Nat) (q : Nat) (Hh : InR ids h 25 28) (Hg : InR ids g 7 14) (Hq : InR ids q 15 19)  : ∀ (n : Nat) (v4 : Int32) (v5 : Int32) (v6 : Int32) (t0 : Sg), Gj kV mX5_trace ids 41 [some (aR (h, 25)), some (aR (g, 7)), none, none, some (aI v4), some (aI v5), some (aI v6)] [] t0 (f_X5_trace_41 h g q n v4 v5 v6 t0) := by
  intro n
  induction n with
  | zero => intro v4 v5 v6 t0; exact G_none
  | succ n ih =>
    intro v4 v5 v6 t0
    rw [f_X5_trace_41]
    refine G_st (x_iload dX5_trace_41 rfl) ?_
    refine G_st (x_bipush (6 : Int32) dX5_trace_43 rfl) ?_
    refine G_ite (fun c14 => ?_) (fun c14 => ?_)
    · refine G_st (x_icmp_ge_t (tgt := 88) dX5_trace_45 (by decide) c14) ?_
      exact G_ret rfl ⟨rfl, dX5_trace_88⟩ rfl
    · refine G_st (x_icmp_ge_f 88 dX5_trace_45 (by decide) c14) ?_
      refine G_st (x_iload dX5_trace_48 rfl) ?_
      refine G_ite (fun c15 => ?_) (fun c15 => ?_)
      · refine G_st (x_if_lt_t (tgt := 88) dX5_trace_50 (by decide) c15) ?_
        exact G_ret rfl ⟨rfl, dX5_trace_88⟩ rfl
      · refine G_st (x_if_lt_f 88 dX5_trace_50 (by decide) c15) ?_
        refine G_st (x_aload_n dX5_trace_53 rfl) ?_
        refine G_st (x_get (k := 0) (aR (h, 26)) dX5_trace_54 (Hh 25 (Nat.le_of_ble_eq_true rfl) (Nat.le_of_ble_eq_true rfl)) rfl rfl rfl rfl inTX5 (Nat.le_of_ble_eq_true rfl) tw_230 (fun ad => rfl)) ?_
        refine G_st (x_iload dX5_trace_57 rfl) ?_
        refine G_st (x_iload dX5_trace_59 rfl) ?_
        refine G_bd (fun _ t17 h18 => ?_)
        refine G_st (x_callN [] (c_X6_set ids Hn (h, 26) v6 v5 (Hh 26 (Nat.le_of_ble_eq_true rfl) (Nat.le_of_ble_eq_true rfl)) rfl _ _ _ h18) dX5_trace_61 (List.mem_of_getElem? (i := 18) rfl) kc_X6_set rfl ⟨Nat.le_of_ble_eq_true rfl, Nat.le_of_ble_eq_true rfl⟩ (Nat.le_of_ble_eq_true rfl) rfl) ?_
        refine G_st (x_aload_n dX5_trace_64 rfl) ?_
        refine G_st (x_iload dX5_trace_65 rfl) ?_
        refine G_st (x_iconst (1 : Int32) dX5_trace_67 rfl) ?_
        refine G_st (x_iadd dX5_trace_68) ?_
        refine G_st (x_put (k := 3) (ty := .int) (v := aI (v6 + (1 : Int32))) (z := (v6 + (1 : Int32))) (upS t17 (h, 25) 3 (v6 + (1 : Int32))) dX5_trace_69 (Hh 25 (Nat.le_of_ble_eq_true rfl) (Nat.le_of_ble_eq_true rfl)) rfl rfl rfl rfl inTX5 tyX5_ok nmX5 (Nat.le_of_ble_eq_true rfl) tw_237 rfl rfl (fun ad => rfl) (fun ad => rfl) (fun ad => put_i0 ad _ _ _ _ rfl) rfl) ?_
        refine G_bvS (fun t19 => ?_)
        refine G_st (x_aload_n dX5_trace_72 rfl) ?_
        refine G_st (x_iload dX5_trace_73 rfl) ?_
        refine G_st (x_iload dX5_trace_75 rfl) ?_
        refine G_bd (fun x20 t21 h22 => ?_)
        refine G_st (x_callS [] (c_X5_next ids Hn g v4 v5 Hg _ _ _ h22) dX5_trace_77 tw_620 kc_X5_next rfl ⟨Nat.le_of_ble_eq_true rfl, Nat.le_of_ble_eq_true rfl⟩ (Nat.le_of_ble_eq_true rfl) rfl) ?_
        refine G_st (x_istore [some (aR (h, 25)), some (aR (g, 7)), none, none, some (aI v4), some (aI x20), some (aI v6)] dX5_trace_80 (Nat.le_of_ble_eq_true rfl) rfl rfl) ?_
        refine G_st (x_iinc (v6 + (1 : Int32)) [some (aR (h, 25)), some (aR (g, 7)), none, none, some (aI v4), some (aI x20), some (aI (v6 + (1 : Int32)))] dX5_trace_82 (Nat.le_of_ble_eq_true rfl) rfl rfl rfl rfl) ?_
        refine G_st (x_goto (tgt := 41) dX5_trace_85 (by decide)) ?_
        refine G_weak _ ?_ ((ih) v4 x20 (v6 + (1 : Int32)) t21)
        exact (leL_s (leL_s (leL_n (leL_n (leL_s (leL_s (leL_s (leL_e _))))))))
set_option maxRecDepth 100000 in
set_option maxHeartbeats 4000000 in
theorem g_X5_trace (ids : List (Nat × Nat)) (Hn : Ndp ids) (h : Nat) (g : Nat) (q : Nat) (v3 : Int32) (Hh : InR ids h 25 28) (Hg : InR ids g 7 14) (Hq : InR ids q 15 19) (t0 : Sg) : Gj kV mX5_trace ids 0 [some (aR (h, 25)), some (aR (g, 7)), some (aR (q, 15)), some (aI v3), none, none, none] [] t0 (f_X5_trace h g q v3 t0) := by
  unfold f_X5_trace
  refine G_st (x_aload_n dX5_trace_0 rfl) ?_
  refine G_st (x_iconst (0 : Int32) dX5_trace_1 rfl) ?_
  refine G_st (x_put (k := 3) (ty := .int) (v := aI (0 : Int32)) (z := (0 : Int32)) (upS t0 (h, 25) 3 (0 : Int32)) dX5_trace_2 (Hh 25 (Nat.le_of_ble_eq_true rfl) (Nat.le_of_ble_eq_true rfl)) rfl rfl rfl rfl inTX5 tyX5_ok nmX5 (Nat.le_of_ble_eq_true rfl) tw_237 rfl rfl (fun ad => rfl) (fun ad => rfl) (fun ad => put_i0 ad _ _ _ _ rfl) rfl) ?_
  refine G_bvS (fun t1 => ?_)
  refine G_st (x_aload_n dX5_trace_5 rfl) ?_
  refine G_st (x_get (k := 2) (aR (q, 17)) dX5_trace_6 (Hq 15 (Nat.le_of_ble_eq_true rfl) (Nat.le_of_ble_eq_true rfl)) rfl rfl rfl rfl inTX1 (Nat.le_of_ble_eq_true rfl) tw_178 (fun ad => rfl)) ?_
  refine G_st (x_iload_n dX5_trace_9 rfl) ?_
  refine G_bd (fun x2 t3 h4 => ?_)
  refine G_st (x_callN [] (c_X6_get ids Hn (q, 17) v3 (Hq 17 (Nat.le_of_ble_eq_true rfl) (Nat.le_of_ble_eq_true rfl)) rfl _ _ _ h4) dX5_trace_10 (List.mem_of_getElem? (i := 17) rfl) kc_X6_get rfl ⟨Nat.le_of_ble_eq_true rfl, Nat.le_of_ble_eq_true rfl⟩ (Nat.le_of_ble_eq_true rfl) rfl) ?_
  refine G_st (x_istore [some (aR (h, 25)), some (aR (g, 7)), some (aR (q, 15)), some (aI v3), some (aI x2), none, none] dX5_trace_13 (Nat.le_of_ble_eq_true rfl) rfl rfl) ?_
  refine G_st (x_aload_n dX5_trace_15 rfl) ?_
  refine G_st (x_iload dX5_trace_16 rfl) ?_
  refine G_st (x_aload_n dX5_trace_18 rfl) ?_
  refine G_st (x_get (k := 9) (aR (g, 14)) dX5_trace_19 (Hg 7 (Nat.le_of_ble_eq_true rfl) (Nat.le_of_ble_eq_true rfl)) rfl rfl rfl rfl inTX0 (Nat.le_of_ble_eq_true rfl) tw_139 (fun ad => rfl)) ?_
  refine G_st (x_aload_n dX5_trace_22 rfl) ?_
  refine G_st (x_get (k := 1) (aR (q, 16)) dX5_trace_23 (Hq 15 (Nat.le_of_ble_eq_true rfl) (Nat.le_of_ble_eq_true rfl)) rfl rfl rfl rfl inTX1 (Nat.le_of_ble_eq_true rfl) tw_174 (fun ad => rfl)) ?_
  refine G_st (x_iload_n dX5_trace_26 rfl) ?_
  refine G_bd (fun x5 t6 h7 => ?_)
  refine G_st (x_callN [aR (g, 14), aI x2, aR (g, 7)] (c_X6_get ids Hn (q, 16) v3 (Hq 16 (Nat.le_of_ble_eq_true rfl) (Nat.le_of_ble_eq_true rfl)) rfl _ _ _ h7) dX5_trace_27 (List.mem_of_getElem? (i := 17) rfl) kc_X6_get rfl ⟨Nat.le_of_ble_eq_true rfl, Nat.le_of_ble_eq_true rfl⟩ (Nat.le_of_ble_eq_true rfl) rfl) ?_
  refine G_bd (fun x8 t9 h10 => ?_)
  refine G_st (x_callN [aI x2, aR (g, 7)] (c_X6_get ids Hn (g, 14) x5 (Hg 14 (Nat.le_of_ble_eq_true rfl) (Nat.le_of_ble_eq_true rfl)) rfl _ _ _ h10) dX5_trace_30 (List.mem_of_getElem? (i := 17) rfl) kc_X6_get rfl ⟨Nat.le_of_ble_eq_true rfl, Nat.le_of_ble_eq_true rfl⟩ (Nat.le_of_ble_eq_true rfl) rfl) ?_
  refine G_bd (fun x11 t12 h13 => ?_)
  refine G_st (x_callS [] (c_X5_next ids Hn g x2 x8 Hg _ _ _ h13) dX5_trace_33 tw_620 kc_X5_next rfl ⟨Nat.le_of_ble_eq_true rfl, Nat.le_of_ble_eq_true rfl⟩ (Nat.le_of_ble_eq_true rfl) rfl) ?_
  refine G_st (x_istore [some (aR (h, 25)), some (aR (g, 7)), some (aR (q, 15)), some (aI v3), some (aI x2), some (aI x11), none] dX5_trace_36 (Nat.le_of_ble_eq_true rfl) rfl rfl) ?_
  refine G_st (x_iconst (0 : Int32) dX5_trace_38 rfl) ?_
  refine G_st (x_istore [some (aR (h, 25)), some (aR (g, 7)), some (aR (q, 15)), some (aI v3), some (aI x2), some (aI x11), some (aI (0 : Int32))] dX5_trace_39 (Nat.le_of_ble_eq_true rfl) rfl rfl) ?_
  refine G_weak _ ?_ (g_X5_trace_41 ids Hn h g q Hh Hg Hq fuel x2 x11 (0 : Int32) t12)
  exact (leL_s (leL_s (leL_n (leL_n (leL_s (leL_s (leL_s (leL_e _))))))))
set_option maxRecDepth 100000 in
set_option maxHeartbeats 4000000 in
theorem c_X5_trace (ids : List (Nat × Nat)) (Hn : Ndp ids) (h : Nat) (g : Nat) (q : Nat) (v3 : Int32) (Hh : InR ids h 25 28) (Hg : InR ids g 7 14) (Hq : InR ids q 15 19) (t0 : Sg) (r : Unit) (t1 : Sg) (hf : f_X5_trace h g q v3 t0 = some (r, t1)) : Mt0 mX5_trace yX5_trace ids [aR (h, 25), aR (g, 7), aR (q, 15), aI v3] t0 none t1 :=
  Mt_of (x := (r, t1)) (g_X5_trace ids Hn h g q v3 Hh Hg Hq t0) hf (by decide) rfl Hn (fun _ => rfl) (fun _ => Nat.le_of_ble_eq_true rfl)
theorem dX2_follow_0 : decode cX2_follow 0 = .ok (.aload_n 0, 1) := by decide +kernel
theorem dX2_follow_1 : decode cX2_follow 1 = .ok (.getfield 35, 3) := by decide +kernel
theorem dX2_follow_4 : decode cX2_follow 4 = .ok (.aload_n 0, 1) := by decide +kernel
theorem dX2_follow_5 : decode cX2_follow 5 = .ok (.getfield 12, 3) := by decide +kernel
theorem dX2_follow_8 : decode cX2_follow 8 = .ok (.aload_n 0, 1) := by decide +kernel
theorem dX2_follow_9 : decode cX2_follow 9 = .ok (.getfield 21, 3) := by decide +kernel
theorem dX2_follow_12 : decode cX2_follow 12 = .ok (.iload_n 1, 1) := by decide +kernel
theorem dX2_follow_13 : decode cX2_follow 13 = .ok (.invokevirtual 63, 3) := by decide +kernel
theorem dX2_follow_16 : decode cX2_follow 16 = .ok (.aload_n 0, 1) := by decide +kernel
theorem dX2_follow_17 : decode cX2_follow 17 = .ok (.getfield 35, 3) := by decide +kernel
theorem dX2_follow_20 : decode cX2_follow 20 = .ok (.aload_n 0, 1) := by decide +kernel
theorem dX2_follow_21 : decode cX2_follow 21 = .ok (.getfield 12, 3) := by decide +kernel
theorem dX2_follow_24 : decode cX2_follow 24 = .ok (.aload_n 0, 1) := by decide +kernel
theorem dX2_follow_25 : decode cX2_follow 25 = .ok (.getfield 21, 3) := by decide +kernel
theorem dX2_follow_28 : decode cX2_follow 28 = .ok (.iload_n 1, 1) := by decide +kernel
theorem dX2_follow_29 : decode cX2_follow 29 = .ok (.invokevirtual 67, 3) := by decide +kernel
theorem dX2_follow_32 : decode cX2_follow 32 = .ok (.aload_n 0, 1) := by decide +kernel
theorem dX2_follow_33 : decode cX2_follow 33 = .ok (.getfield 35, 3) := by decide +kernel
theorem dX2_follow_36 : decode cX2_follow 36 = .ok (.areturn, 1) := by decide +kernel
set_option maxRecDepth 100000 in
set_option maxHeartbeats 4000000 in
theorem g_X2_follow (ids : List (Nat × Nat)) (Hn : Ndp ids) (h : Nat) (v1 : Int32) (Hh : InR ids h 6 28) (t0 : Sg) : Gj (fun q : Unit × Sg => (some (aR (h, 25)), q.2)) mX2_follow ids 0 [some (aR (h, 6)), some (aI v1)] [] t0 (f_X2_follow h v1 t0) := by
  unfold f_X2_follow
  refine G_st (x_aload_n dX2_follow_0 rfl) ?_
  refine G_st (x_get (k := 3) (aR (h, 25)) dX2_follow_1 (Hh 6 (Nat.le_of_ble_eq_true rfl) (Nat.le_of_ble_eq_true rfl)) rfl rfl rfl rfl inTX2 (Nat.le_of_ble_eq_true rfl) tw_257 (fun ad => rfl)) ?_
  refine G_st (x_aload_n dX2_follow_4 rfl) ?_
  refine G_st (x_get (k := 0) (aR (h, 7)) dX2_follow_5 (Hh 6 (Nat.le_of_ble_eq_true rfl) (Nat.le_of_ble_eq_true rfl)) rfl rfl rfl rfl inTX2 (Nat.le_of_ble_eq_true rfl) tw_249 (fun ad => rfl)) ?_
  refine G_st (x_aload_n dX2_follow_8 rfl) ?_
  refine G_st (x_get (k := 1) (aR (h, 15)) dX2_follow_9 (Hh 6 (Nat.le_of_ble_eq_true rfl) (Nat.le_of_ble_eq_true rfl)) rfl rfl rfl rfl inTX2 (Nat.le_of_ble_eq_true rfl) tw_252 (fun ad => rfl)) ?_
  refine G_st (x_iload_n dX2_follow_12 rfl) ?_
  refine G_bd (fun _ t2 h3 => ?_)
  refine G_st (x_callV [] (c_X5_trace ids Hn h h h v1 (Hh.sub (Nat.le_of_ble_eq_true rfl) (Nat.le_of_ble_eq_true rfl)) (Hh.sub (Nat.le_of_ble_eq_true rfl) (Nat.le_of_ble_eq_true rfl)) (Hh.sub (Nat.le_of_ble_eq_true rfl) (Nat.le_of_ble_eq_true rfl)) _ _ _ h3) dX2_follow_13 tw_615 kc_X5_trace (Hh 25 (Nat.le_of_ble_eq_true rfl) (Nat.le_of_ble_eq_true rfl)) rfl rfl rfl rfl ⟨Nat.le_of_ble_eq_true rfl, Nat.le_of_ble_eq_true rfl⟩ (Nat.le_of_ble_eq_true rfl) rfl) ?_
  refine G_st (x_aload_n dX2_follow_16 rfl) ?_
  refine G_st (x_get (k := 3) (aR (h, 25)) dX2_follow_17 (Hh 6 (Nat.le_of_ble_eq_true rfl) (Nat.le_of_ble_eq_true rfl)) rfl rfl rfl rfl inTX2 (Nat.le_of_ble_eq_true rfl) tw_257 (fun ad => rfl)) ?_
  refine G_st (x_aload_n dX2_follow_20 rfl) ?_
  refine G_st (x_get (k := 0) (aR (h, 7)) dX2_follow_21 (Hh 6 (Nat.le_of_ble_eq_true rfl) (Nat.le_of_ble_eq_true rfl)) rfl rfl rfl rfl inTX2 (Nat.le_of_ble_eq_true rfl) tw_249 (fun ad => rfl)) ?_
  refine G_st (x_aload_n dX2_follow_24 rfl) ?_
  refine G_st (x_get (k := 1) (aR (h, 15)) dX2_follow_25 (Hh 6 (Nat.le_of_ble_eq_true rfl) (Nat.le_of_ble_eq_true rfl)) rfl rfl rfl rfl inTX2 (Nat.le_of_ble_eq_true rfl) tw_252 (fun ad => rfl)) ?_
  refine G_st (x_iload_n dX2_follow_28 rfl) ?_
  refine G_bd (fun _ t5 h6 => ?_)
  refine G_st (x_callV [] (c_X5_hold ids Hn h h h v1 (Hh.sub (Nat.le_of_ble_eq_true rfl) (Nat.le_of_ble_eq_true rfl)) (Hh.sub (Nat.le_of_ble_eq_true rfl) (Nat.le_of_ble_eq_true rfl)) (Hh.sub (Nat.le_of_ble_eq_true rfl) (Nat.le_of_ble_eq_true rfl)) _ _ _ h6) dX2_follow_29 tw_625 kc_X5_hold (Hh 25 (Nat.le_of_ble_eq_true rfl) (Nat.le_of_ble_eq_true rfl)) rfl rfl rfl rfl ⟨Nat.le_of_ble_eq_true rfl, Nat.le_of_ble_eq_true rfl⟩ (Nat.le_of_ble_eq_true rfl) rfl) ?_
  refine G_st (x_aload_n dX2_follow_32 rfl) ?_
  refine G_st (x_get (k := 3) (aR (h, 25)) dX2_follow_33 (Hh 6 (Nat.le_of_ble_eq_true rfl) (Nat.le_of_ble_eq_true rfl)) rfl rfl rfl rfl inTX2 (Nat.le_of_ble_eq_true rfl) tw_257 (fun ad => rfl)) ?_
  exact G_ret rfl ⟨dX2_follow_36, _, rfl⟩ rfl
set_option maxRecDepth 100000 in
set_option maxHeartbeats 4000000 in
theorem c_X2_follow (ids : List (Nat × Nat)) (Hn : Ndp ids) (h : Nat) (v1 : Int32) (Hh : InR ids h 6 28) (t0 : Sg) (r : Unit) (t1 : Sg) (hf : f_X2_follow h v1 t0 = some (r, t1)) : Mt0 mX2_follow yX2_follow ids [aR (h, 6), aI v1] t0 (some (aR (h, 25))) t1 :=
  Mt_of (x := (r, t1)) (g_X2_follow ids Hn h v1 Hh t0) hf (by decide) rfl Hn (fun _ => rfl) (fun _ => Nat.le_of_ble_eq_true rfl)
theorem dX2_trace_0 : decode cX2_trace 0 = .ok (.aload_n 0, 1) := by decide +kernel
theorem dX2_trace_1 : decode cX2_trace 1 = .ok (.getfield 35, 3) := by decide +kernel
theorem dX2_trace_4 : decode cX2_trace 4 = .ok (.aload_n 0, 1) := by decide +kernel
theorem dX2_trace_5 : decode cX2_trace 5 = .ok (.getfield 12, 3) := by decide +kernel
theorem dX2_trace_8 : decode cX2_trace 8 = .ok (.aload_n 0, 1) := by decide +kernel
theorem dX2_trace_9 : decode cX2_trace 9 = .ok (.getfield 21, 3) := by decide +kernel
theorem dX2_trace_12 : decode cX2_trace 12 = .ok (.iload_n 1, 1) := by decide +kernel
theorem dX2_trace_13 : decode cX2_trace 13 = .ok (.invokevirtual 63, 3) := by decide +kernel
theorem dX2_trace_16 : decode cX2_trace 16 = .ok (.aload_n 0, 1) := by decide +kernel
theorem dX2_trace_17 : decode cX2_trace 17 = .ok (.getfield 35, 3) := by decide +kernel
theorem dX2_trace_20 : decode cX2_trace 20 = .ok (.areturn, 1) := by decide +kernel
set_option maxRecDepth 100000 in
set_option maxHeartbeats 4000000 in
theorem g_X2_trace (ids : List (Nat × Nat)) (Hn : Ndp ids) (h : Nat) (v1 : Int32) (Hh : InR ids h 6 28) (t0 : Sg) : Gj (fun q : Unit × Sg => (some (aR (h, 25)), q.2)) mX2_trace ids 0 [some (aR (h, 6)), some (aI v1)] [] t0 (f_X2_trace h v1 t0) := by
  unfold f_X2_trace
  refine G_st (x_aload_n dX2_trace_0 rfl) ?_
  refine G_st (x_get (k := 3) (aR (h, 25)) dX2_trace_1 (Hh 6 (Nat.le_of_ble_eq_true rfl) (Nat.le_of_ble_eq_true rfl)) rfl rfl rfl rfl inTX2 (Nat.le_of_ble_eq_true rfl) tw_257 (fun ad => rfl)) ?_
  refine G_st (x_aload_n dX2_trace_4 rfl) ?_
  refine G_st (x_get (k := 0) (aR (h, 7)) dX2_trace_5 (Hh 6 (Nat.le_of_ble_eq_true rfl) (Nat.le_of_ble_eq_true rfl)) rfl rfl rfl rfl inTX2 (Nat.le_of_ble_eq_true rfl) tw_249 (fun ad => rfl)) ?_
  refine G_st (x_aload_n dX2_trace_8 rfl) ?_
  refine G_st (x_get (k := 1) (aR (h, 15)) dX2_trace_9 (Hh 6 (Nat.le_of_ble_eq_true rfl) (Nat.le_of_ble_eq_true rfl)) rfl rfl rfl rfl inTX2 (Nat.le_of_ble_eq_true rfl) tw_252 (fun ad => rfl)) ?_
  refine G_st (x_iload_n dX2_trace_12 rfl) ?_
  refine G_bd (fun _ t2 h3 => ?_)
  refine G_st (x_callV [] (c_X5_trace ids Hn h h h v1 (Hh.sub (Nat.le_of_ble_eq_true rfl) (Nat.le_of_ble_eq_true rfl)) (Hh.sub (Nat.le_of_ble_eq_true rfl) (Nat.le_of_ble_eq_true rfl)) (Hh.sub (Nat.le_of_ble_eq_true rfl) (Nat.le_of_ble_eq_true rfl)) _ _ _ h3) dX2_trace_13 tw_615 kc_X5_trace (Hh 25 (Nat.le_of_ble_eq_true rfl) (Nat.le_of_ble_eq_true rfl)) rfl rfl rfl rfl ⟨Nat.le_of_ble_eq_true rfl, Nat.le_of_ble_eq_true rfl⟩ (Nat.le_of_ble_eq_true rfl) rfl) ?_
  refine G_st (x_aload_n dX2_trace_16 rfl) ?_
  refine G_st (x_get (k := 3) (aR (h, 25)) dX2_trace_17 (Hh 6 (Nat.le_of_ble_eq_true rfl) (Nat.le_of_ble_eq_true rfl)) rfl rfl rfl rfl inTX2 (Nat.le_of_ble_eq_true rfl) tw_257 (fun ad => rfl)) ?_
  exact G_ret rfl ⟨dX2_trace_20, _, rfl⟩ rfl
set_option maxRecDepth 100000 in
set_option maxHeartbeats 4000000 in
theorem c_X2_trace (ids : List (Nat × Nat)) (Hn : Ndp ids) (h : Nat) (v1 : Int32) (Hh : InR ids h 6 28) (t0 : Sg) (r : Unit) (t1 : Sg) (hf : f_X2_trace h v1 t0 = some (r, t1)) : Mt0 mX2_trace yX2_trace ids [aR (h, 6), aI v1] t0 (some (aR (h, 25))) t1 :=
  Mt_of (x := (r, t1)) (g_X2_trace ids Hn h v1 Hh t0) hf (by decide) rfl Hn (fun _ => rfl) (fun _ => Nat.le_of_ble_eq_true rfl)
theorem dX2_harmAt_0 : decode cX2_harmAt 0 = .ok (.aload_n 0, 1) := by decide +kernel
theorem dX2_harmAt_1 : decode cX2_harmAt 1 = .ok (.getfield 35, 3) := by decide +kernel
theorem dX2_harmAt_4 : decode cX2_harmAt 4 = .ok (.getfield 70, 3) := by decide +kernel
theorem dX2_harmAt_7 : decode cX2_harmAt 7 = .ok (.iload_n 2, 1) := by decide +kernel
theorem dX2_harmAt_8 : decode cX2_harmAt 8 = .ok (.invokestatic 74, 3) := by decide +kernel
theorem dX2_harmAt_11 : decode cX2_harmAt 11 = .ok (.istore_n 3, 1) := by decide +kernel
theorem dX2_harmAt_12 : decode cX2_harmAt 12 = .ok (.aload_n 0, 1) := by decide +kernel
theorem dX2_harmAt_13 : decode cX2_harmAt 13 = .ok (.getfield 12, 3) := by decide +kernel
theorem dX2_harmAt_16 : decode cX2_harmAt 16 = .ok (.getfield 78, 3) := by decide +kernel
theorem dX2_harmAt_19 : decode cX2_harmAt 19 = .ok (.iload_n 3, 1) := by decide +kernel
theorem dX2_harmAt_20 : decode cX2_harmAt 20 = .ok (.invokestatic 74, 3) := by decide +kernel
theorem dX2_harmAt_23 : decode cX2_harmAt 23 = .ok (.istore 4, 2) := by decide +kernel
theorem dX2_harmAt_25 : decode cX2_harmAt 25 = .ok (.aload_n 0, 1) := by decide +kernel
theorem dX2_harmAt_26 : decode cX2_harmAt 26 = .ok (.getfield 12, 3) := by decide +kernel
theorem dX2_harmAt_29 : decode cX2_harmAt 29 = .ok (.getfield 81, 3) := by decide +kernel
theorem dX2_harmAt_32 : decode cX2_harmAt 32 = .ok (.iload_n 3, 1) := by decide +kernel
theorem dX2_harmAt_33 : decode cX2_harmAt 33 = .ok (.invokestatic 74, 3) := by decide +kernel
theorem dX2_harmAt_36 : decode cX2_harmAt 36 = .ok (.aload_n 0, 1) := by decide +kernel
theorem dX2_harmAt_37 : decode cX2_harmAt 37 = .ok (.getfield 21, 3) := by decide +kernel
theorem dX2_harmAt_40 : decode cX2_harmAt 40 = .ok (.getfield 84, 3) := by decide +kernel
theorem dX2_harmAt_43 : decode cX2_harmAt 43 = .ok (.iload_n 1, 1) := by decide +kernel
theorem dX2_harmAt_44 : decode cX2_harmAt 44 = .ok (.invokestatic 74, 3) := by decide +kernel
theorem dX2_harmAt_47 : decode cX2_harmAt 47 = .ok (.ishr, 1) := by decide +kernel
theorem dX2_harmAt_48 : decode cX2_harmAt 48 = .ok (.iconst 1, 1) := by decide +kernel
theorem dX2_harmAt_49 : decode cX2_harmAt 49 = .ok (.iand, 1) := by decide +kernel
theorem dX2_harmAt_50 : decode cX2_harmAt 50 = .ok (.iconst 1, 1) := by decide +kernel
theorem dX2_harmAt_51 : decode cX2_harmAt 51 = .ok (.if_icmp .ne 7, 3) := by decide +kernel
theorem dX2_harmAt_54 : decode cX2_harmAt 54 = .ok (.iconst 1, 1) := by decide +kernel
theorem dX2_harmAt_55 : decode cX2_harmAt 55 = .ok (.goto 4, 3) := by decide +kernel
theorem dX2_harmAt_58 : decode cX2_harmAt 58 = .ok (.iconst 0, 1) := by decide +kernel
theorem dX2_harmAt_59 : decode cX2_harmAt 59 = .ok (.istore 5, 2) := by decide +kernel
theorem dX2_harmAt_61 : decode cX2_harmAt 61 = .ok (.iload 4, 2) := by decide +kernel
theorem dX2_harmAt_63 : decode cX2_harmAt 63 = .ok (.ifCond .eq 8, 3) := by decide +kernel
theorem dX2_harmAt_66 : decode cX2_harmAt 66 = .ok (.iload 5, 2) := by decide +kernel
theorem dX2_harmAt_68 : decode cX2_harmAt 68 = .ok (.ifCond .ne 5, 3) := by decide +kernel
theorem dX2_harmAt_71 : decode cX2_harmAt 71 = .ok (.iconst 0, 1) := by decide +kernel
theorem dX2_harmAt_72 : decode cX2_harmAt 72 = .ok (.ireturn, 1) := by decide +kernel
theorem dX2_harmAt_73 : decode cX2_harmAt 73 = .ok (.iload 4, 2) := by decide +kernel
theorem dX2_harmAt_75 : decode cX2_harmAt 75 = .ok (.aload_n 0, 1) := by decide +kernel
theorem dX2_harmAt_76 : decode cX2_harmAt 76 = .ok (.getfield 35, 3) := by decide +kernel
theorem dX2_harmAt_79 : decode cX2_harmAt 79 = .ok (.getfield 87, 3) := by decide +kernel
theorem dX2_harmAt_82 : decode cX2_harmAt 82 = .ok (.iload_n 2, 1) := by decide +kernel
theorem dX2_harmAt_83 : decode cX2_harmAt 83 = .ok (.invokestatic 74, 3) := by decide +kernel
theorem dX2_harmAt_86 : decode cX2_harmAt 86 = .ok (.invokestatic 90, 3) := by decide +kernel
theorem dX2_harmAt_89 : decode cX2_harmAt 89 = .ok (.istore 6, 2) := by decide +kernel
theorem dX2_harmAt_91 : decode cX2_harmAt 91 = .ok (.aload_n 0, 1) := by decide +kernel
theorem dX2_harmAt_92 : decode cX2_harmAt 92 = .ok (.getfield 21, 3) := by decide +kernel
theorem dX2_harmAt_95 : decode cX2_harmAt 95 = .ok (.getfield 96, 3) := by decide +kernel
theorem dX2_harmAt_98 : decode cX2_harmAt 98 = .ok (.iload_n 1, 1) := by decide +kernel
theorem dX2_harmAt_99 : decode cX2_harmAt 99 = .ok (.invokestatic 74, 3) := by decide +kernel
theorem dX2_harmAt_102 : decode cX2_harmAt 102 = .ok (.tableswitch 53 1 5 #[34, 53, 39, 44, 46], 34) := by decide +kernel
theorem dX2_harmAt_136 : decode cX2_harmAt 136 = .ok (.iload 6, 2) := by decide +kernel
theorem dX2_harmAt_138 : decode cX2_harmAt 138 = .ok (.iconst 2, 1) := by decide +kernel
theorem dX2_harmAt_139 : decode cX2_harmAt 139 = .ok (.idiv, 1) := by decide +kernel
theorem dX2_harmAt_140 : decode cX2_harmAt 140 = .ok (.ireturn, 1) := by decide +kernel
theorem dX2_harmAt_141 : decode cX2_harmAt 141 = .ok (.iconst 2, 1) := by decide +kernel
theorem dX2_harmAt_142 : decode cX2_harmAt 142 = .ok (.iload 6, 2) := by decide +kernel
theorem dX2_harmAt_144 : decode cX2_harmAt 144 = .ok (.imul, 1) := by decide +kernel
theorem dX2_harmAt_145 : decode cX2_harmAt 145 = .ok (.ireturn, 1) := by decide +kernel
theorem dX2_harmAt_146 : decode cX2_harmAt 146 = .ok (.iconst 1, 1) := by decide +kernel
theorem dX2_harmAt_147 : decode cX2_harmAt 147 = .ok (.ireturn, 1) := by decide +kernel
theorem dX2_harmAt_148 : decode cX2_harmAt 148 = .ok (.iload 6, 2) := by decide +kernel
theorem dX2_harmAt_150 : decode cX2_harmAt 150 = .ok (.iconst 2, 1) := by decide +kernel
theorem dX2_harmAt_151 : decode cX2_harmAt 151 = .ok (.idiv, 1) := by decide +kernel
theorem dX2_harmAt_152 : decode cX2_harmAt 152 = .ok (.iconst 2, 1) := by decide +kernel
theorem dX2_harmAt_153 : decode cX2_harmAt 153 = .ok (.iadd, 1) := by decide +kernel
theorem dX2_harmAt_154 : decode cX2_harmAt 154 = .ok (.ireturn, 1) := by decide +kernel
theorem dX2_harmAt_155 : decode cX2_harmAt 155 = .ok (.iload 6, 2) := by decide +kernel
theorem dX2_harmAt_157 : decode cX2_harmAt 157 = .ok (.ireturn, 1) := by decide +kernel
set_option maxRecDepth 100000 in
set_option maxHeartbeats 4000000 in
theorem g_X2_harmAt (ids : List (Nat × Nat)) (Hn : Ndp ids) (h : Nat) (v1 : Int32) (v2 : Int32) (Hh : InR ids h 6 28) (t0 : Sg) : Gj kI mX2_harmAt ids 0 [some (aR (h, 6)), some (aI v1), some (aI v2), none, none, none, none] [] t0 (f_X2_harmAt h v1 v2 t0) := by
  unfold f_X2_harmAt
  refine G_st (x_aload_n dX2_harmAt_0 rfl) ?_
  refine G_st (x_get (k := 3) (aR (h, 25)) dX2_harmAt_1 (Hh 6 (Nat.le_of_ble_eq_true rfl) (Nat.le_of_ble_eq_true rfl)) rfl rfl rfl rfl inTX2 (Nat.le_of_ble_eq_true rfl) tw_257 (fun ad => rfl)) ?_
  refine G_st (x_get (k := 0) (aR (h, 26)) dX2_harmAt_4 (Hh 25 (Nat.le_of_ble_eq_true rfl) (Nat.le_of_ble_eq_true rfl)) rfl rfl rfl rfl inTX5 (Nat.le_of_ble_eq_true rfl) tw_231 (fun ad => rfl)) ?_
  refine G_st (x_iload_n dX2_harmAt_7 rfl) ?_
  refine G_bd (fun x1 t2 h3 => ?_)
  refine G_st (x_callN [] (c_X6_get ids Hn (h, 26) v2 (Hh 26 (Nat.le_of_ble_eq_true rfl) (Nat.le_of_ble_eq_true rfl)) rfl _ _ _ h3) dX2_harmAt_8 (List.mem_of_getElem? (i := 16) rfl) kc_X6_get rfl ⟨Nat.le_of_ble_eq_true rfl, Nat.le_of_ble_eq_true rfl⟩ (Nat.le_of_ble_eq_true rfl) rfl) ?_
  refine G_st (x_istore_n [some (aR (h, 6)), some (aI v1), some (aI v2), some (aI x1), none, none, none] dX2_harmAt_11 (Nat.le_of_ble_eq_true rfl) rfl rfl) ?_
  refine G_st (x_aload_n dX2_harmAt_12 rfl) ?_
  refine G_st (x_get (k := 0) (aR (h, 7)) dX2_harmAt_13 (Hh 6 (Nat.le_of_ble_eq_true rfl) (Nat.le_of_ble_eq_true rfl)) rfl rfl rfl rfl inTX2 (Nat.le_of_ble_eq_true rfl) tw_249 (fun ad => rfl)) ?_
  refine G_st (x_get (k := 6) (aR (h, 11)) dX2_harmAt_16 (Hh 7 (Nat.le_of_ble_eq_true rfl) (Nat.le_of_ble_eq_true rfl)) rfl rfl rfl rfl inTX0 (Nat.le_of_ble_eq_true rfl) tw_130 (fun ad => rfl)) ?_
  refine G_st (x_iload_n dX2_harmAt_19 rfl) ?_
  refine G_bd (fun x4 t5 h6 => ?_)
  refine G_st (x_callN [] (c_X6_get ids Hn (h, 11) x1 (Hh 11 (Nat.le_of_ble_eq_true rfl) (Nat.le_of_ble_eq_true rfl)) rfl _ _ _ h6) dX2_harmAt_20 (List.mem_of_getElem? (i := 16) rfl) kc_X6_get rfl ⟨Nat.le_of_ble_eq_true rfl, Nat.le_of_ble_eq_true rfl⟩ (Nat.le_of_ble_eq_true rfl) rfl) ?_
  refine G_st (x_istore [some (aR (h, 6)), some (aI v1), some (aI v2), some (aI x1), some (aI x4), none, none] dX2_harmAt_23 (Nat.le_of_ble_eq_true rfl) rfl rfl) ?_
  refine G_st (x_aload_n dX2_harmAt_25 rfl) ?_
  refine G_st (x_get (k := 0) (aR (h, 7)) dX2_harmAt_26 (Hh 6 (Nat.le_of_ble_eq_true rfl) (Nat.le_of_ble_eq_true rfl)) rfl rfl rfl rfl inTX2 (Nat.le_of_ble_eq_true rfl) tw_249 (fun ad => rfl)) ?_
  refine G_st (x_get (k := 7) (aR (h, 12)) dX2_harmAt_29 (Hh 7 (Nat.le_of_ble_eq_true rfl) (Nat.le_of_ble_eq_true rfl)) rfl rfl rfl rfl inTX0 (Nat.le_of_ble_eq_true rfl) tw_133 (fun ad => rfl)) ?_
  refine G_st (x_iload_n dX2_harmAt_32 rfl) ?_
  refine G_bd (fun x7 t8 h9 => ?_)
  refine G_st (x_callN [] (c_X6_get ids Hn (h, 12) x1 (Hh 12 (Nat.le_of_ble_eq_true rfl) (Nat.le_of_ble_eq_true rfl)) rfl _ _ _ h9) dX2_harmAt_33 (List.mem_of_getElem? (i := 16) rfl) kc_X6_get rfl ⟨Nat.le_of_ble_eq_true rfl, Nat.le_of_ble_eq_true rfl⟩ (Nat.le_of_ble_eq_true rfl) rfl) ?_
  refine G_st (x_aload_n dX2_harmAt_36 rfl) ?_
  refine G_st (x_get (k := 1) (aR (h, 15)) dX2_harmAt_37 (Hh 6 (Nat.le_of_ble_eq_true rfl) (Nat.le_of_ble_eq_true rfl)) rfl rfl rfl rfl inTX2 (Nat.le_of_ble_eq_true rfl) tw_252 (fun ad => rfl)) ?_
  refine G_st (x_get (k := 4) (aR (h, 19)) dX2_harmAt_40 (Hh 15 (Nat.le_of_ble_eq_true rfl) (Nat.le_of_ble_eq_true rfl)) rfl rfl rfl rfl inTX1 (Nat.le_of_ble_eq_true rfl) tw_185 (fun ad => rfl)) ?_
  refine G_st (x_iload_n dX2_harmAt_43 rfl) ?_
  refine G_bd (fun x10 t11 h12 => ?_)
  refine G_st (x_callN [aI x7] (c_X6_get ids Hn (h, 19) v1 (Hh 19 (Nat.le_of_ble_eq_true rfl) (Nat.le_of_ble_eq_true rfl)) rfl _ _ _ h12) dX2_harmAt_44 (List.mem_of_getElem? (i := 16) rfl) kc_X6_get rfl ⟨Nat.le_of_ble_eq_true rfl, Nat.le_of_ble_eq_true rfl⟩ (Nat.le_of_ble_eq_true rfl) rfl) ?_
  refine G_st (x_ishr dX2_harmAt_47) ?_
  refine G_st (x_iconst (1 : Int32) dX2_harmAt_48 rfl) ?_
  refine G_st (x_iand dX2_harmAt_49) ?_
  refine G_st (x_iconst (1 : Int32) dX2_harmAt_50 rfl) ?_
  have e14 : Tj mX2_harmAt ids 51 [some (aR (h, 6)), some (aI v1), some (aI v2), some (aI x1), some (aI x4), none, none] [aI (1 : Int32), aI ((x7 >>> (x10 &&& 31)) &&& (1 : Int32))] t11 59 [some (aR (h, 6)), some (aI v1), some (aI v2), some (aI x1), some (aI x4), none, none] [aI (if ((x7 >>> (x10 &&& 31)) &&& (1 : Int32)) = (1 : Int32) then (1 : Int32) else (0 : Int32))] t11 := by
    refine Tj.dia (fun c13 => ?_) (fun c13 => ?_)
    · refine Tj.tr (x_icmp_ne_f 58 dX2_harmAt_51 (by decide) c13) ?_
      refine Tj.tr (x_iconst (1 : Int32) dX2_harmAt_54 rfl) ?_
      refine Tj.tr (x_goto (tgt := 59) dX2_harmAt_55 (by decide)) ?_
      exact Tj.rf
    · refine Tj.tr (x_icmp_ne_t (tgt := 58) dX2_harmAt_51 (by decide) c13) ?_
      refine Tj.tr (x_iconst (0 : Int32) dX2_harmAt_58 rfl) ?_
      exact Tj.rf
  refine G_st e14 ?_
  refine G_bvI (fun x15 => ?_)
  refine G_st (x_istore [some (aR (h, 6)), some (aI v1), some (aI v2), some (aI x1), some (aI x4), some (aI x15), none] dX2_harmAt_59 (Nat.le_of_ble_eq_true rfl) rfl rfl) ?_
  refine G_st (x_iload dX2_harmAt_61 rfl) ?_
  refine G_ite (fun c16 => ?_) (fun c16 => ?_)
  · refine G_st (x_if_eq_t (tgt := 71) dX2_harmAt_63 (by decide) c16) ?_
    refine G_st (x_iconst (0 : Int32) dX2_harmAt_71 rfl) ?_
    exact G_ret rfl ⟨dX2_harmAt_72, _, rfl, rfl⟩ rfl
  · refine G_st (x_if_eq_f 71 dX2_harmAt_63 (by decide) c16) ?_
    refine G_st (x_iload dX2_harmAt_66 rfl) ?_
    refine G_ite (fun c17 => ?_) (fun c17 => ?_)
    · refine G_st (x_if_ne_f 73 dX2_harmAt_68 (by decide) c17) ?_
      refine G_st (x_iconst (0 : Int32) dX2_harmAt_71 rfl) ?_
      exact G_ret rfl ⟨dX2_harmAt_72, _, rfl, rfl⟩ rfl
    · refine G_st (x_if_ne_t (tgt := 73) dX2_harmAt_68 (by decide) c17) ?_
      refine G_st (x_iload dX2_harmAt_73 rfl) ?_
      refine G_st (x_aload_n dX2_harmAt_75 rfl) ?_
      refine G_st (x_get (k := 3) (aR (h, 25)) dX2_harmAt_76 (Hh 6 (Nat.le_of_ble_eq_true rfl) (Nat.le_of_ble_eq_true rfl)) rfl rfl rfl rfl inTX2 (Nat.le_of_ble_eq_true rfl) tw_257 (fun ad => rfl)) ?_
      refine G_st (x_get (k := 1) (aR (h, 27)) dX2_harmAt_79 (Hh 25 (Nat.le_of_ble_eq_true rfl) (Nat.le_of_ble_eq_true rfl)) rfl rfl rfl rfl inTX5 (Nat.le_of_ble_eq_true rfl) tw_234 (fun ad => rfl)) ?_
      refine G_st (x_iload_n dX2_harmAt_82 rfl) ?_
      refine G_bd (fun x18 t19 h20 => ?_)
      refine G_st (x_callN [aI x4] (c_X6_get ids Hn (h, 27) v2 (Hh 27 (Nat.le_of_ble_eq_true rfl) (Nat.le_of_ble_eq_true rfl)) rfl _ _ _ h20) dX2_harmAt_83 (List.mem_of_getElem? (i := 16) rfl) kc_X6_get rfl ⟨Nat.le_of_ble_eq_true rfl, Nat.le_of_ble_eq_true rfl⟩ (Nat.le_of_ble_eq_true rfl) rfl) ?_
      refine G_st (x_mmin dX2_harmAt_86 tw_640 tw_444 tw_74 tw_445 ⟨Nat.le_of_ble_eq_true rfl, Nat.le_of_ble_eq_true rfl⟩ (Nat.le_of_ble_eq_true rfl)) ?_
      refine G_bvI (fun x21 => ?_)
      refine G_st (x_istore [some (aR (h, 6)), some (aI v1), some (aI v2), some (aI x1), some (aI x4), some (aI x15), some (aI x21)] dX2_harmAt_89 (Nat.le_of_ble_eq_true rfl) rfl rfl) ?_
      refine G_st (x_aload_n dX2_harmAt_91 rfl) ?_
      refine G_st (x_get (k := 1) (aR (h, 15)) dX2_harmAt_92 (Hh 6 (Nat.le_of_ble_eq_true rfl) (Nat.le_of_ble_eq_true rfl)) rfl rfl rfl rfl inTX2 (Nat.le_of_ble_eq_true rfl) tw_252 (fun ad => rfl)) ?_
      refine G_st (x_get (k := 2) (aR (h, 17)) dX2_harmAt_95 (Hh 15 (Nat.le_of_ble_eq_true rfl) (Nat.le_of_ble_eq_true rfl)) rfl rfl rfl rfl inTX1 (Nat.le_of_ble_eq_true rfl) tw_179 (fun ad => rfl)) ?_
      refine G_st (x_iload_n dX2_harmAt_98 rfl) ?_
      refine G_bd (fun x22 t23 h24 => ?_)
      refine G_st (x_callN [] (c_X6_get ids Hn (h, 17) v1 (Hh 17 (Nat.le_of_ble_eq_true rfl) (Nat.le_of_ble_eq_true rfl)) rfl _ _ _ h24) dX2_harmAt_99 (List.mem_of_getElem? (i := 16) rfl) kc_X6_get rfl ⟨Nat.le_of_ble_eq_true rfl, Nat.le_of_ble_eq_true rfl⟩ (Nat.le_of_ble_eq_true rfl) rfl) ?_
      refine G_ite (fun c25 => ?_) (fun c25 => ?_)
      · refine G_st (x_tabIn (tgt := 136) (1 : Int32) dX2_harmAt_102 c25 (by decide) (by decide) rfl (by decide)) ?_
        refine G_st (x_iload dX2_harmAt_136 rfl) ?_
        refine G_st (x_iconst (2 : Int32) dX2_harmAt_138 rfl) ?_
        refine G_st (x_idiv dX2_harmAt_139 (by decide)) ?_
        exact G_ret rfl ⟨dX2_harmAt_140, _, rfl, rfl⟩ rfl
      refine G_ite (fun c26 => ?_) (fun c26 => ?_)
      · refine G_st (x_tabIn (tgt := 155) (2 : Int32) dX2_harmAt_102 c26 (by decide) (by decide) rfl (by decide)) ?_
        refine G_st (x_iload dX2_harmAt_155 rfl) ?_
        exact G_ret rfl ⟨dX2_harmAt_157, _, rfl, rfl⟩ rfl
      refine G_ite (fun c27 => ?_) (fun c27 => ?_)
      · refine G_st (x_tabIn (tgt := 141) (3 : Int32) dX2_harmAt_102 c27 (by decide) (by decide) rfl (by decide)) ?_
        refine G_st (x_iconst (2 : Int32) dX2_harmAt_141 rfl) ?_
        refine G_st (x_iload dX2_harmAt_142 rfl) ?_
        refine G_st (x_imul dX2_harmAt_144) ?_
        exact G_ret rfl ⟨dX2_harmAt_145, _, rfl, rfl⟩ rfl
      refine G_ite (fun c28 => ?_) (fun c28 => ?_)
      · refine G_st (x_tabIn (tgt := 146) (4 : Int32) dX2_harmAt_102 c28 (by decide) (by decide) rfl (by decide)) ?_
        refine G_st (x_iconst (1 : Int32) dX2_harmAt_146 rfl) ?_
        exact G_ret rfl ⟨dX2_harmAt_147, _, rfl, rfl⟩ rfl
      refine G_ite (fun c29 => ?_) (fun c29 => ?_)
      · refine G_st (x_tabIn (tgt := 148) (5 : Int32) dX2_harmAt_102 c29 (by decide) (by decide) rfl (by decide)) ?_
        refine G_st (x_iload dX2_harmAt_148 rfl) ?_
        refine G_st (x_iconst (2 : Int32) dX2_harmAt_150 rfl) ?_
        refine G_st (x_idiv dX2_harmAt_151 (by decide)) ?_
        refine G_st (x_iconst (2 : Int32) dX2_harmAt_152 rfl) ?_
        refine G_st (x_iadd dX2_harmAt_153) ?_
        exact G_ret rfl ⟨dX2_harmAt_154, _, rfl, rfl⟩ rfl
      refine G_st (x_tabOut (tgt := 155) dX2_harmAt_102 (by have c25q : ¬ (x22).toInt = (1 : Int) := lv_neT c25 rfl; have c26q : ¬ (x22).toInt = (2 : Int) := lv_neT c26 rfl; have c27q : ¬ (x22).toInt = (3 : Int) := lv_neT c27 rfl; have c28q : ¬ (x22).toInt = (4 : Int) := lv_neT c28 rfl; have c29q : ¬ (x22).toInt = (5 : Int) := lv_neT c29 rfl; omega) (by decide)) ?_
      refine G_st (x_iload dX2_harmAt_155 rfl) ?_
      exact G_ret rfl ⟨dX2_harmAt_157, _, rfl, rfl⟩ rfl
set_option maxRecDepth 100000 in
set_option maxHeartbeats 4000000 in
theorem c_X2_harmAt (ids : List (Nat × Nat)) (Hn : Ndp ids) (h : Nat) (v1 : Int32) (v2 : Int32) (Hh : InR ids h 6 28) (t0 : Sg) (r : Int32) (t1 : Sg) (hf : f_X2_harmAt h v1 v2 t0 = some (r, t1)) : Mt0 mX2_harmAt yX2_harmAt ids [aR (h, 6), aI v1, aI v2] t0 (some (aI r)) t1 :=
  Mt_of (x := (r, t1)) (g_X2_harmAt ids Hn h v1 v2 Hh t0) hf (by decide) rfl Hn (fun _ => rfl) (fun _ => Nat.le_of_ble_eq_true rfl)
theorem dX3_pair_0 : decode cX3_pair 0 = .ok (.iload_n 0, 1) := by decide +kernel
theorem dX3_pair_1 : decode cX3_pair 1 = .ok (.bipush 24, 2) := by decide +kernel
theorem dX3_pair_3 : decode cX3_pair 3 = .ok (.imul, 1) := by decide +kernel
theorem dX3_pair_4 : decode cX3_pair 4 = .ok (.iload_n 1, 1) := by decide +kernel
theorem dX3_pair_5 : decode cX3_pair 5 = .ok (.iadd, 1) := by decide +kernel
theorem dX3_pair_6 : decode cX3_pair 6 = .ok (.ireturn, 1) := by decide +kernel
set_option maxRecDepth 100000 in
set_option maxHeartbeats 4000000 in
theorem g_X3_pair (ids : List (Nat × Nat)) (Hn : Ndp ids) (v0 : Int32) (v1 : Int32)  (t0 : Sg) : Gj kI mX3_pair ids 0 [some (aI v0), some (aI v1)] [] t0 (f_X3_pair v0 v1 t0) := by
  unfold f_X3_pair
  refine G_st (x_iload_n dX3_pair_0 rfl) ?_
  refine G_st (x_bipush (24 : Int32) dX3_pair_1 rfl) ?_
  refine G_st (x_imul dX3_pair_3) ?_
  refine G_st (x_iload_n dX3_pair_4 rfl) ?_
  refine G_st (x_iadd dX3_pair_5) ?_
  exact G_ret rfl ⟨dX3_pair_6, _, rfl, rfl⟩ rfl
set_option maxRecDepth 100000 in
set_option maxHeartbeats 4000000 in
theorem c_X3_pair (ids : List (Nat × Nat)) (Hn : Ndp ids) (v0 : Int32) (v1 : Int32)  (t0 : Sg) (r : Int32) (t1 : Sg) (hf : f_X3_pair v0 v1 t0 = some (r, t1)) : Mt0 mX3_pair yX3_pair ids [aI v0, aI v1] t0 (some (aI r)) t1 :=
  Mt_of (x := (r, t1)) (g_X3_pair ids Hn v0 v1  t0) hf (by decide) rfl Hn (fun _ => rfl) (fun _ => Nat.le_of_ble_eq_true rfl)
theorem dX3_note_0 : decode cX3_note 0 = .ok (.iload_n 3, 1) := by decide +kernel
theorem dX3_note_1 : decode cX3_note 1 = .ok (.ifCond .gt 4, 3) := by decide +kernel
theorem dX3_note_4 : decode cX3_note 4 = .ok (.return_, 1) := by decide +kernel
theorem dX3_note_5 : decode cX3_note 5 = .ok (.aload_n 0, 1) := by decide +kernel
theorem dX3_note_6 : decode cX3_note 6 = .ok (.dup, 1) := by decide +kernel
theorem dX3_note_7 : decode cX3_note 7 = .ok (.getfield 37, 3) := by decide +kernel
theorem dX3_note_10 : decode cX3_note 10 = .ok (.iload_n 3, 1) := by decide +kernel
theorem dX3_note_11 : decode cX3_note 11 = .ok (.iadd, 1) := by decide +kernel
theorem dX3_note_12 : decode cX3_note 12 = .ok (.putfield 37, 3) := by decide +kernel
theorem dX3_note_15 : decode cX3_note 15 = .ok (.aload_n 0, 1) := by decide +kernel
theorem dX3_note_16 : decode cX3_note 16 = .ok (.getfield 18, 3) := by decide +kernel
theorem dX3_note_19 : decode cX3_note 19 = .ok (.iload_n 1, 1) := by decide +kernel
theorem dX3_note_20 : decode cX3_note 20 = .ok (.aload_n 0, 1) := by decide +kernel
theorem dX3_note_21 : decode cX3_note 21 = .ok (.getfield 18, 3) := by decide +kernel
theorem dX3_note_24 : decode cX3_note 24 = .ok (.iload_n 1, 1) := by decide +kernel
theorem dX3_note_25 : decode cX3_note 25 = .ok (.invokestatic 41, 3) := by decide +kernel
theorem dX3_note_28 : decode cX3_note 28 = .ok (.iload_n 3, 1) := by decide +kernel
theorem dX3_note_29 : decode cX3_note 29 = .ok (.iadd, 1) := by decide +kernel
theorem dX3_note_30 : decode cX3_note 30 = .ok (.invokestatic 45, 3) := by decide +kernel
theorem dX3_note_33 : decode cX3_note 33 = .ok (.aload_n 0, 1) := by decide +kernel
theorem dX3_note_34 : decode cX3_note 34 = .ok (.getfield 21, 3) := by decide +kernel
theorem dX3_note_37 : decode cX3_note 37 = .ok (.iload_n 1, 1) := by decide +kernel
theorem dX3_note_38 : decode cX3_note 38 = .ok (.aload_n 0, 1) := by decide +kernel
theorem dX3_note_39 : decode cX3_note 39 = .ok (.getfield 21, 3) := by decide +kernel
theorem dX3_note_42 : decode cX3_note 42 = .ok (.iload_n 1, 1) := by decide +kernel
theorem dX3_note_43 : decode cX3_note 43 = .ok (.invokestatic 41, 3) := by decide +kernel
theorem dX3_note_46 : decode cX3_note 46 = .ok (.iconst 1, 1) := by decide +kernel
theorem dX3_note_47 : decode cX3_note 47 = .ok (.iload_n 2, 1) := by decide +kernel
theorem dX3_note_48 : decode cX3_note 48 = .ok (.ishl, 1) := by decide +kernel
theorem dX3_note_49 : decode cX3_note 49 = .ok (.ior, 1) := by decide +kernel
theorem dX3_note_50 : decode cX3_note 50 = .ok (.invokestatic 45, 3) := by decide +kernel
theorem dX3_note_53 : decode cX3_note 53 = .ok (.aload_n 0, 1) := by decide +kernel
theorem dX3_note_54 : decode cX3_note 54 = .ok (.getfield 9, 3) := by decide +kernel
theorem dX3_note_57 : decode cX3_note 57 = .ok (.iload_n 1, 1) := by decide +kernel
theorem dX3_note_58 : decode cX3_note 58 = .ok (.ldc 49, 2) := by decide +kernel
theorem dX3_note_60 : decode cX3_note 60 = .ok (.aload_n 0, 1) := by decide +kernel
theorem dX3_note_61 : decode cX3_note 61 = .ok (.getfield 9, 3) := by decide +kernel
theorem dX3_note_64 : decode cX3_note 64 = .ok (.iload_n 1, 1) := by decide +kernel
theorem dX3_note_65 : decode cX3_note 65 = .ok (.invokestatic 41, 3) := by decide +kernel
theorem dX3_note_68 : decode cX3_note 68 = .ok (.iload_n 3, 1) := by decide +kernel
theorem dX3_note_69 : decode cX3_note 69 = .ok (.iadd, 1) := by decide +kernel
theorem dX3_note_70 : decode cX3_note 70 = .ok (.invokestatic 50, 3) := by decide +kernel
theorem dX3_note_73 : decode cX3_note 73 = .ok (.invokestatic 45, 3) := by decide +kernel
theorem dX3_note_76 : decode cX3_note 76 = .ok (.iload_n 1, 1) := by decide +kernel
theorem dX3_note_77 : decode cX3_note 77 = .ok (.iload_n 2, 1) := by decide +kernel
theorem dX3_note_78 : decode cX3_note 78 = .ok (.if_icmp .eq 36, 3) := by decide +kernel
theorem dX3_note_81 : decode cX3_note 81 = .ok (.iload_n 1, 1) := by decide +kernel
theorem dX3_note_82 : decode cX3_note 82 = .ok (.iload_n 2, 1) := by decide +kernel
theorem dX3_note_83 : decode cX3_note 83 = .ok (.invokestatic 56, 3) := by decide +kernel
theorem dX3_note_86 : decode cX3_note 86 = .ok (.istore 4, 2) := by decide +kernel
theorem dX3_note_88 : decode cX3_note 88 = .ok (.aload_n 0, 1) := by decide +kernel
theorem dX3_note_89 : decode cX3_note 89 = .ok (.getfield 15, 3) := by decide +kernel
theorem dX3_note_92 : decode cX3_note 92 = .ok (.iload 4, 2) := by decide +kernel
theorem dX3_note_94 : decode cX3_note 94 = .ok (.sipush 999, 3) := by decide +kernel
theorem dX3_note_97 : decode cX3_note 97 = .ok (.aload_n 0, 1) := by decide +kernel
theorem dX3_note_98 : decode cX3_note 98 = .ok (.getfield 15, 3) := by decide +kernel
theorem dX3_note_101 : decode cX3_note 101 = .ok (.iload 4, 2) := by decide +kernel
theorem dX3_note_103 : decode cX3_note 103 = .ok (.invokestatic 41, 3) := by decide +kernel
theorem dX3_note_106 : decode cX3_note 106 = .ok (.iload_n 3, 1) := by decide +kernel
theorem dX3_note_107 : decode cX3_note 107 = .ok (.iadd, 1) := by decide +kernel
theorem dX3_note_108 : decode cX3_note 108 = .ok (.invokestatic 50, 3) := by decide +kernel
theorem dX3_note_111 : decode cX3_note 111 = .ok (.invokestatic 45, 3) := by decide +kernel
theorem dX3_note_114 : decode cX3_note 114 = .ok (.return_, 1) := by decide +kernel
set_option maxRecDepth 100000 in
set_option maxHeartbeats 4000000 in
theorem g_X3_note (ids : List (Nat × Nat)) (Hn : Ndp ids) (h : Nat) (v1 : Int32) (v2 : Int32) (v3 : Int32) (Hh : InR ids h 20 24) (t0 : Sg) : Gj kV mX3_note ids 0 [some (aR (h, 20)), some (aI v1), some (aI v2), some (aI v3), none] [] t0 (f_X3_note h v1 v2 v3 t0) := by
  unfold f_X3_note
  refine G_st (x_iload_n dX3_note_0 rfl) ?_
  refine G_ite (fun c1 => ?_) (fun c1 => ?_)
  · refine G_st (x_if_gt_t (tgt := 5) dX3_note_1 (by decide) c1) ?_
    refine G_st (x_aload_n dX3_note_5 rfl) ?_
    refine G_st (x_dup dX3_note_6 rfl) ?_
    refine G_st (x_get (k := 4) (aI (t0 (h, 20) 4)) dX3_note_7 (Hh 20 (Nat.le_of_ble_eq_true rfl) (Nat.le_of_ble_eq_true rfl)) rfl rfl rfl rfl inTX3 (Nat.le_of_ble_eq_true rfl) tw_211 (fun ad => rfl)) ?_
    refine G_st (x_iload_n dX3_note_10 rfl) ?_
    refine G_st (x_iadd dX3_note_11) ?_
    refine G_st (x_put (k := 4) (ty := .int) (v := aI ((t0 (h, 20) 4) + v3)) (z := ((t0 (h, 20) 4) + v3)) (upS t0 (h, 20) 4 ((t0 (h, 20) 4) + v3)) dX3_note_12 (Hh 20 (Nat.le_of_ble_eq_true rfl) (Nat.le_of_ble_eq_true rfl)) rfl rfl rfl rfl inTX3 tyX3_ok nmX3 (Nat.le_of_ble_eq_true rfl) tw_211 rfl rfl (fun ad => rfl) (fun ad => rfl) (fun ad => put_i0 ad _ _ _ _ rfl) rfl) ?_
    refine G_bvS (fun t2 => ?_)
    refine G_st (x_aload_n dX3_note_15 rfl) ?_
    refine G_st (x_get (k := 2) (aR (h, 23)) dX3_note_16 (Hh 20 (Nat.le_of_ble_eq_true rfl) (Nat.le_of_ble_eq_true rfl)) rfl rfl rfl rfl inTX3 (Nat.le_of_ble_eq_true rfl) tw_208 (fun ad => rfl)) ?_
    refine G_st (x_iload_n dX3_note_19 rfl) ?_
    refine G_st (x_aload_n dX3_note_20 rfl) ?_
    refine G_st (x_get (k := 2) (aR (h, 23)) dX3_note_21 (Hh 20 (Nat.le_of_ble_eq_true rfl) (Nat.le_of_ble_eq_true rfl)) rfl rfl rfl rfl inTX3 (Nat.le_of_ble_eq_true rfl) tw_208 (fun ad => rfl)) ?_
    refine G_st (x_iload_n dX3_note_24 rfl) ?_
    refine G_bd (fun x3 t4 h5 => ?_)
    refine G_st (x_callN [aI v1, aR (h, 23)] (c_X6_get ids Hn (h, 23) v1 (Hh 23 (Nat.le_of_ble_eq_true rfl) (Nat.le_of_ble_eq_true rfl)) rfl _ _ _ h5) dX3_note_25 (List.mem_of_getElem? (i := 19) rfl) kc_X6_get rfl ⟨Nat.le_of_ble_eq_true rfl, Nat.le_of_ble_eq_true rfl⟩ (Nat.le_of_ble_eq_true rfl) rfl) ?_
    refine G_st (x_iload_n dX3_note_28 rfl) ?_
    refine G_st (x_iadd dX3_note_29) ?_
    refine G_bd (fun _ t7 h8 => ?_)
    refine G_st (x_callN [] (c_X6_set ids Hn (h, 23) v1 (x3 + v3) (Hh 23 (Nat.le_of_ble_eq_true rfl) (Nat.le_of_ble_eq_true rfl)) rfl _ _ _ h8) dX3_note_30 (List.mem_of_getElem? (i := 20) rfl) kc_X6_set rfl ⟨Nat.le_of_ble_eq_true rfl, Nat.le_of_ble_eq_true rfl⟩ (Nat.le_of_ble_eq_true rfl) rfl) ?_
    refine G_st (x_aload_n dX3_note_33 rfl) ?_
    refine G_st (x_get (k := 3) (aR (h, 24)) dX3_note_34 (Hh 20 (Nat.le_of_ble_eq_true rfl) (Nat.le_of_ble_eq_true rfl)) rfl rfl rfl rfl inTX3 (Nat.le_of_ble_eq_true rfl) tw_210 (fun ad => rfl)) ?_
    refine G_st (x_iload_n dX3_note_37 rfl) ?_
    refine G_st (x_aload_n dX3_note_38 rfl) ?_
    refine G_st (x_get (k := 3) (aR (h, 24)) dX3_note_39 (Hh 20 (Nat.le_of_ble_eq_true rfl) (Nat.le_of_ble_eq_true rfl)) rfl rfl rfl rfl inTX3 (Nat.le_of_ble_eq_true rfl) tw_210 (fun ad => rfl)) ?_
    refine G_st (x_iload_n dX3_note_42 rfl) ?_
    refine G_bd (fun x9 t10 h11 => ?_)
    refine G_st (x_callN [aI v1, aR (h, 24)] (c_X6_get ids Hn (h, 24) v1 (Hh 24 (Nat.le_of_ble_eq_true rfl) (Nat.le_of_ble_eq_true rfl)) rfl _ _ _ h11) dX3_note_43 (List.mem_of_getElem? (i := 19) rfl) kc_X6_get rfl ⟨Nat.le_of_ble_eq_true rfl, Nat.le_of_ble_eq_true rfl⟩ (Nat.le_of_ble_eq_true rfl) rfl) ?_
    refine G_st (x_iconst (1 : Int32) dX3_note_46 rfl) ?_
    refine G_st (x_iload_n dX3_note_47 rfl) ?_
    refine G_st (x_ishl dX3_note_48) ?_
    refine G_st (x_ior dX3_note_49) ?_
    refine G_bd (fun _ t13 h14 => ?_)
    refine G_st (x_callN [] (c_X6_set ids Hn (h, 24) v1 (x9 ||| ((1 : Int32) <<< (v2 &&& 31))) (Hh 24 (Nat.le_of_ble_eq_true rfl) (Nat.le_of_ble_eq_true rfl)) rfl _ _ _ h14) dX3_note_50 (List.mem_of_getElem? (i := 20) rfl) kc_X6_set rfl ⟨Nat.le_of_ble_eq_true rfl, Nat.le_of_ble_eq_true rfl⟩ (Nat.le_of_ble_eq_true rfl) rfl) ?_
    refine G_st (x_aload_n dX3_note_53 rfl) ?_
    refine G_st (x_get (k := 0) (aR (h, 21)) dX3_note_54 (Hh 20 (Nat.le_of_ble_eq_true rfl) (Nat.le_of_ble_eq_true rfl)) rfl rfl rfl rfl inTX3 (Nat.le_of_ble_eq_true rfl) tw_204 (fun ad => rfl)) ?_
    refine G_st (x_iload_n dX3_note_57 rfl) ?_
    refine G_st (x_ldc dX3_note_58 tw_647) ?_
    refine G_st (x_aload_n dX3_note_60 rfl) ?_
    refine G_st (x_get (k := 0) (aR (h, 21)) dX3_note_61 (Hh 20 (Nat.le_of_ble_eq_true rfl) (Nat.le_of_ble_eq_true rfl)) rfl rfl rfl rfl inTX3 (Nat.le_of_ble_eq_true rfl) tw_204 (fun ad => rfl)) ?_
    refine G_st (x_iload_n dX3_note_64 rfl) ?_
    refine G_bd (fun x15 t16 h17 => ?_)
    refine G_st (x_callN [aI (99999 : Int32), aI v1, aR (h, 21)] (c_X6_get ids Hn (h, 21) v1 (Hh 21 (Nat.le_of_ble_eq_true rfl) (Nat.le_of_ble_eq_true rfl)) rfl _ _ _ h17) dX3_note_65 (List.mem_of_getElem? (i := 19) rfl) kc_X6_get rfl ⟨Nat.le_of_ble_eq_true rfl, Nat.le_of_ble_eq_true rfl⟩ (Nat.le_of_ble_eq_true rfl) rfl) ?_
    refine G_st (x_iload_n dX3_note_68 rfl) ?_
    refine G_st (x_iadd dX3_note_69) ?_
    refine G_st (x_mmin dX3_note_70 tw_648 tw_444 tw_74 tw_445 ⟨Nat.le_of_ble_eq_true rfl, Nat.le_of_ble_eq_true rfl⟩ (Nat.le_of_ble_eq_true rfl)) ?_
    refine G_bd (fun _ t19 h20 => ?_)
    refine G_st (x_callN [] (c_X6_set ids Hn (h, 21) v1 (jmin (99999 : Int32) (x15 + v3)) (Hh 21 (Nat.le_of_ble_eq_true rfl) (Nat.le_of_ble_eq_true rfl)) rfl _ _ _ h20) dX3_note_73 (List.mem_of_getElem? (i := 20) rfl) kc_X6_set rfl ⟨Nat.le_of_ble_eq_true rfl, Nat.le_of_ble_eq_true rfl⟩ (Nat.le_of_ble_eq_true rfl) rfl) ?_
    refine G_st (x_iload_n dX3_note_76 rfl) ?_
    refine G_st (x_iload_n dX3_note_77 rfl) ?_
    refine G_ite (fun c21 => ?_) (fun c21 => ?_)
    · refine G_st (x_icmp_eq_t (tgt := 114) dX3_note_78 (by decide) c21) ?_
      exact G_ret rfl ⟨rfl, dX3_note_114⟩ rfl
    · refine G_st (x_icmp_eq_f 114 dX3_note_78 (by decide) c21) ?_
      refine G_st (x_iload_n dX3_note_81 rfl) ?_
      refine G_st (x_iload_n dX3_note_82 rfl) ?_
      refine G_bd (fun x22 t23 h24 => ?_)
      refine G_st (x_callS [] (c_X3_pair ids Hn v1 v2  _ _ _ h24) dX3_note_83 tw_649 kc_X3_pair rfl ⟨Nat.le_of_ble_eq_true rfl, Nat.le_of_ble_eq_true rfl⟩ (Nat.le_of_ble_eq_true rfl) rfl) ?_
      refine G_st (x_istore [some (aR (h, 20)), some (aI v1), some (aI v2), some (aI v3), some (aI x22)] dX3_note_86 (Nat.le_of_ble_eq_true rfl) rfl rfl) ?_
      refine G_st (x_aload_n dX3_note_88 rfl) ?_
      refine G_st (x_get (k := 1) (aR (h, 22)) dX3_note_89 (Hh 20 (Nat.le_of_ble_eq_true rfl) (Nat.le_of_ble_eq_true rfl)) rfl rfl rfl rfl inTX3 (Nat.le_of_ble_eq_true rfl) tw_206 (fun ad => rfl)) ?_
      refine G_st (x_iload dX3_note_92 rfl) ?_
      refine G_st (x_sipush (999 : Int32) dX3_note_94 rfl) ?_
      refine G_st (x_aload_n dX3_note_97 rfl) ?_
      refine G_st (x_get (k := 1) (aR (h, 22)) dX3_note_98 (Hh 20 (Nat.le_of_ble_eq_true rfl) (Nat.le_of_ble_eq_true rfl)) rfl rfl rfl rfl inTX3 (Nat.le_of_ble_eq_true rfl) tw_206 (fun ad => rfl)) ?_
      refine G_st (x_iload dX3_note_101 rfl) ?_
      refine G_bd (fun x25 t26 h27 => ?_)
      refine G_st (x_callN [aI (999 : Int32), aI x22, aR (h, 22)] (c_X6_get ids Hn (h, 22) x22 (Hh 22 (Nat.le_of_ble_eq_true rfl) (Nat.le_of_ble_eq_true rfl)) rfl _ _ _ h27) dX3_note_103 (List.mem_of_getElem? (i := 19) rfl) kc_X6_get rfl ⟨Nat.le_of_ble_eq_true rfl, Nat.le_of_ble_eq_true rfl⟩ (Nat.le_of_ble_eq_true rfl) rfl) ?_
      refine G_st (x_iload_n dX3_note_106 rfl) ?_
      refine G_st (x_iadd dX3_note_107) ?_
      refine G_st (x_mmin dX3_note_108 tw_648 tw_444 tw_74 tw_445 ⟨Nat.le_of_ble_eq_true rfl, Nat.le_of_ble_eq_true rfl⟩ (Nat.le_of_ble_eq_true rfl)) ?_
      refine G_bd (fun _ t29 h30 => ?_)
      refine G_st (x_callN [] (c_X6_set ids Hn (h, 22) x22 (jmin (999 : Int32) (x25 + v3)) (Hh 22 (Nat.le_of_ble_eq_true rfl) (Nat.le_of_ble_eq_true rfl)) rfl _ _ _ h30) dX3_note_111 (List.mem_of_getElem? (i := 20) rfl) kc_X6_set rfl ⟨Nat.le_of_ble_eq_true rfl, Nat.le_of_ble_eq_true rfl⟩ (Nat.le_of_ble_eq_true rfl) rfl) ?_
      exact G_ret rfl ⟨rfl, dX3_note_114⟩ rfl
  · refine G_st (x_if_gt_f 5 dX3_note_1 (by decide) c1) ?_
    exact G_ret rfl ⟨rfl, dX3_note_4⟩ rfl
set_option maxRecDepth 100000 in
set_option maxHeartbeats 4000000 in
theorem c_X3_note (ids : List (Nat × Nat)) (Hn : Ndp ids) (h : Nat) (v1 : Int32) (v2 : Int32) (v3 : Int32) (Hh : InR ids h 20 24) (t0 : Sg) (r : Unit) (t1 : Sg) (hf : f_X3_note h v1 v2 v3 t0 = some (r, t1)) : Mt0 mX3_note yX3_note ids [aR (h, 20), aI v1, aI v2, aI v3] t0 none t1 :=
  Mt_of (x := (r, t1)) (g_X3_note ids Hn h v1 v2 v3 Hh t0) hf (by decide) rfl Hn (fun _ => rfl) (fun _ => Nat.le_of_ble_eq_true rfl)
end
