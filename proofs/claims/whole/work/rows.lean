section
-- ===== PART A: goes FIRST, ahead of the names: the tables' words, and 'selects' of the private methods out of them =====
/-- a private method of a class that the tables say can be made, by its rows of tables_1 -/
def lw_okq (q : MethodName × Nat) : Prop := (q.1.cls ≠ "java/lang/invoke/MethodHandle" ∧ q.1.cls ≠ "java/lang/invoke/VarHandle") ∧ Cond.instantiable q.1.cls q.2 ∈ tables_1 ∧ Cond.privateMethod q.1 ∈ tables_1 ∧ Cond.instanceMethod q.1 ∈ tables_1
theorem lw_p0 : lw_okq (⟨"DripsOnBelow", "refuse", "(I)I"⟩, 9) := ⟨⟨by decide +kernel, by decide +kernel⟩, List.mem_of_getElem? (i := 17) (by decide +kernel), List.mem_of_getElem? (i := 258) (by decide +kernel), List.mem_of_getElem? (i := 259) (by decide +kernel)⟩
theorem lw_p1 : lw_okq (⟨"DripsOnBelow", "isTenant", "(I)Z"⟩, 9) := ⟨⟨by decide +kernel, by decide +kernel⟩, List.mem_of_getElem? (i := 17) (by decide +kernel), List.mem_of_getElem? (i := 471) (by decide +kernel), List.mem_of_getElem? (i := 472) (by decide +kernel)⟩
theorem lw_p2 : lw_okq (⟨"DripsOnBelow", "isHabit", "(I)Z"⟩, 9) := ⟨⟨by decide +kernel, by decide +kernel⟩, List.mem_of_getElem? (i := 17) (by decide +kernel), List.mem_of_getElem? (i := 495) (by decide +kernel), List.mem_of_getElem? (i := 496) (by decide +kernel)⟩
theorem lw_p3 : lw_okq (⟨"DripsOnBelow", "tryAnew", "()V"⟩, 9) := ⟨⟨by decide +kernel, by decide +kernel⟩, List.mem_of_getElem? (i := 17) (by decide +kernel), List.mem_of_getElem? (i := 630) (by decide +kernel), List.mem_of_getElem? (i := 631) (by decide +kernel)⟩
theorem lw_p4 : lw_okq (⟨"DripsOnBelow", "doneTo", "(I)I"⟩, 9) := ⟨⟨by decide +kernel, by decide +kernel⟩, List.mem_of_getElem? (i := 17) (by decide +kernel), List.mem_of_getElem? (i := 636) (by decide +kernel), List.mem_of_getElem? (i := 637) (by decide +kernel)⟩
theorem lw_p5 : lw_okq (⟨"DripsOnBelow", "tryHour", "(II)I"⟩, 9) := ⟨⟨by decide +kernel, by decide +kernel⟩, List.mem_of_getElem? (i := 17) (by decide +kernel), List.mem_of_getElem? (i := 644) (by decide +kernel), List.mem_of_getElem? (i := 645) (by decide +kernel)⟩
theorem lw_p6 : lw_okq (⟨"DripsOnBelow", "tryQuiet", "(II)I"⟩, 9) := ⟨⟨by decide +kernel, by decide +kernel⟩, List.mem_of_getElem? (i := 17) (by decide +kernel), List.mem_of_getElem? (i := 656) (by decide +kernel), List.mem_of_getElem? (i := 657) (by decide +kernel)⟩
theorem lw_p7 : lw_okq (⟨"DripsOnBelow", "tryAsIs", "()I"⟩, 9) := ⟨⟨by decide +kernel, by decide +kernel⟩, List.mem_of_getElem? (i := 17) (by decide +kernel), List.mem_of_getElem? (i := 669) (by decide +kernel), List.mem_of_getElem? (i := 670) (by decide +kernel)⟩
theorem lw_p8 : lw_okq (⟨"DripsOnBelow", "tryAwning", "(II)I"⟩, 9) := ⟨⟨by decide +kernel, by decide +kernel⟩, List.mem_of_getElem? (i := 17) (by decide +kernel), List.mem_of_getElem? (i := 686) (by decide +kernel), List.mem_of_getElem? (i := 687) (by decide +kernel)⟩
theorem lw_p9 : lw_okq (⟨"DripsOnBelow", "gain", "(I)I"⟩, 9) := ⟨⟨by decide +kernel, by decide +kernel⟩, List.mem_of_getElem? (i := 17) (by decide +kernel), List.mem_of_getElem? (i := 694) (by decide +kernel), List.mem_of_getElem? (i := 695) (by decide +kernel)⟩
theorem lw_p10 : lw_okq (⟨"DripsOnBelow", "rings", "()I"⟩, 9) := ⟨⟨by decide +kernel, by decide +kernel⟩, List.mem_of_getElem? (i := 17) (by decide +kernel), List.mem_of_getElem? (i := 737) (by decide +kernel), List.mem_of_getElem? (i := 738) (by decide +kernel)⟩
theorem lw_p11 : lw_okq (⟨"DripsOnBelow", "pairs", "(Z)I"⟩, 9) := ⟨⟨by decide +kernel, by decide +kernel⟩, List.mem_of_getElem? (i := 17) (by decide +kernel), List.mem_of_getElem? (i := 745) (by decide +kernel), List.mem_of_getElem? (i := 746) (by decide +kernel)⟩
theorem lw_p12 : lw_okq (⟨"DripsOnBelowModel", "clearAll", "()V"⟩, 43) := ⟨⟨by decide +kernel, by decide +kernel⟩, List.mem_of_getElem? (i := 778) (by decide +kernel), List.mem_of_getElem? (i := 784) (by decide +kernel), List.mem_of_getElem? (i := 785) (by decide +kernel)⟩
theorem lw_p13 : lw_okq (⟨"DripsOnBelowModel", "refuse", "(I)I"⟩, 43) := ⟨⟨by decide +kernel, by decide +kernel⟩, List.mem_of_getElem? (i := 778) (by decide +kernel), List.mem_of_getElem? (i := 922) (by decide +kernel), List.mem_of_getElem? (i := 923) (by decide +kernel)⟩
theorem lw_p14 : lw_okq (⟨"DripsOnBelowModel", "readStatement", "()V"⟩, 43) := ⟨⟨by decide +kernel, by decide +kernel⟩, List.mem_of_getElem? (i := 778) (by decide +kernel), List.mem_of_getElem? (i := 930) (by decide +kernel), List.mem_of_getElem? (i := 931) (by decide +kernel)⟩
theorem lw_p15 : lw_okq (⟨"DripsOnBelowModel", "here", "()I"⟩, 43) := ⟨⟨by decide +kernel, by decide +kernel⟩, List.mem_of_getElem? (i := 778) (by decide +kernel), List.mem_of_getElem? (i := 934) (by decide +kernel), List.mem_of_getElem? (i := 935) (by decide +kernel)⟩
def lw_privs_1 : List (MethodName × Nat) := [(⟨"DripsOnBelow", "refuse", "(I)I"⟩, 9), (⟨"DripsOnBelow", "isTenant", "(I)Z"⟩, 9), (⟨"DripsOnBelow", "isHabit", "(I)Z"⟩, 9), (⟨"DripsOnBelow", "tryAnew", "()V"⟩, 9), (⟨"DripsOnBelow", "doneTo", "(I)I"⟩, 9), (⟨"DripsOnBelow", "tryHour", "(II)I"⟩, 9), (⟨"DripsOnBelow", "tryQuiet", "(II)I"⟩, 9), (⟨"DripsOnBelow", "tryAsIs", "()I"⟩, 9), (⟨"DripsOnBelow", "tryAwning", "(II)I"⟩, 9), (⟨"DripsOnBelow", "gain", "(I)I"⟩, 9), (⟨"DripsOnBelow", "rings", "()I"⟩, 9), (⟨"DripsOnBelow", "pairs", "(Z)I"⟩, 9), (⟨"DripsOnBelowModel", "clearAll", "()V"⟩, 43), (⟨"DripsOnBelowModel", "refuse", "(I)I"⟩, 43), (⟨"DripsOnBelowModel", "readStatement", "()V"⟩, 43), (⟨"DripsOnBelowModel", "here", "()I"⟩, 43)]
theorem lw_r1 : ∀ q ∈ lw_privs_1, lw_okq q := List.forall_mem_cons.mpr ⟨lw_p0, List.forall_mem_cons.mpr ⟨lw_p1, List.forall_mem_cons.mpr ⟨lw_p2, List.forall_mem_cons.mpr ⟨lw_p3, List.forall_mem_cons.mpr ⟨lw_p4, List.forall_mem_cons.mpr ⟨lw_p5, List.forall_mem_cons.mpr ⟨lw_p6, List.forall_mem_cons.mpr ⟨lw_p7, List.forall_mem_cons.mpr ⟨lw_p8, List.forall_mem_cons.mpr ⟨lw_p9, List.forall_mem_cons.mpr ⟨lw_p10, List.forall_mem_cons.mpr ⟨lw_p11, List.forall_mem_cons.mpr ⟨lw_p12, List.forall_mem_cons.mpr ⟨lw_p13, List.forall_mem_cons.mpr ⟨lw_p14, List.forall_mem_cons.mpr ⟨lw_p15, fun _ h => absurd h List.not_mem_nil⟩⟩⟩⟩⟩⟩⟩⟩⟩⟩⟩⟩⟩⟩⟩⟩
theorem lw_p16 : lw_okq (⟨"DripsOnBelowModel", "readDigit", "()I"⟩, 43) := ⟨⟨by decide +kernel, by decide +kernel⟩, List.mem_of_getElem? (i := 778) (by decide +kernel), List.mem_of_getElem? (i := 938) (by decide +kernel), List.mem_of_getElem? (i := 939) (by decide +kernel)⟩
theorem lw_p17 : lw_okq (⟨"DripsOnBelowModel", "readTwo", "()I"⟩, 43) := ⟨⟨by decide +kernel, by decide +kernel⟩, List.mem_of_getElem? (i := 778) (by decide +kernel), List.mem_of_getElem? (i := 947) (by decide +kernel), List.mem_of_getElem? (i := 948) (by decide +kernel)⟩
theorem lw_p18 : lw_okq (⟨"DripsOnBelowModel", "readSign", "()I"⟩, 43) := ⟨⟨by decide +kernel, by decide +kernel⟩, List.mem_of_getElem? (i := 778) (by decide +kernel), List.mem_of_getElem? (i := 951) (by decide +kernel), List.mem_of_getElem? (i := 952) (by decide +kernel)⟩
theorem lw_p19 : lw_okq (⟨"DripsOnBelowModel", "readHours", "()I"⟩, 43) := ⟨⟨by decide +kernel, by decide +kernel⟩, List.mem_of_getElem? (i := 778) (by decide +kernel), List.mem_of_getElem? (i := 955) (by decide +kernel), List.mem_of_getElem? (i := 956) (by decide +kernel)⟩
theorem lw_p20 : lw_okq (⟨"DripsOnBelowModel", "readTenant", "()I"⟩, 43) := ⟨⟨by decide +kernel, by decide +kernel⟩, List.mem_of_getElem? (i := 778) (by decide +kernel), List.mem_of_getElem? (i := 960) (by decide +kernel), List.mem_of_getElem? (i := 961) (by decide +kernel)⟩
theorem lw_p21 : lw_okq (⟨"DripsOnBelowModel", "carryAll", "([IZ)V"⟩, 43) := ⟨⟨by decide +kernel, by decide +kernel⟩, List.mem_of_getElem? (i := 778) (by decide +kernel), List.mem_of_getElem? (i := 964) (by decide +kernel), List.mem_of_getElem? (i := 965) (by decide +kernel)⟩
theorem lw_p22 : lw_okq (⟨"DripsOnBelowModel", "carry", "(I)I"⟩, 43) := ⟨⟨by decide +kernel, by decide +kernel⟩, List.mem_of_getElem? (i := 778) (by decide +kernel), List.mem_of_getElem? (i := 968) (by decide +kernel), List.mem_of_getElem? (i := 969) (by decide +kernel)⟩
theorem lw_p23 : lw_okq (⟨"DripsOnBelowModel", "comes", "(I)Z"⟩, 43) := ⟨⟨by decide +kernel, by decide +kernel⟩, List.mem_of_getElem? (i := 778) (by decide +kernel), List.mem_of_getElem? (i := 972) (by decide +kernel), List.mem_of_getElem? (i := 973) (by decide +kernel)⟩
theorem lw_p24 : lw_okq (⟨"DripsOnBelowModel", "frontComes", "(II)Z"⟩, 43) := ⟨⟨by decide +kernel, by decide +kernel⟩, List.mem_of_getElem? (i := 778) (by decide +kernel), List.mem_of_getElem? (i := 976) (by decide +kernel), List.mem_of_getElem? (i := 977) (by decide +kernel)⟩
theorem lw_p25 : lw_okq (⟨"DripsOnBelowModel", "habitComes", "(I)Z"⟩, 43) := ⟨⟨by decide +kernel, by decide +kernel⟩, List.mem_of_getElem? (i := 778) (by decide +kernel), List.mem_of_getElem? (i := 983) (by decide +kernel), List.mem_of_getElem? (i := 984) (by decide +kernel)⟩
theorem lw_p26 : lw_okq (⟨"DripsOnBelowModel", "tenants", "()I"⟩, 43) := ⟨⟨by decide +kernel, by decide +kernel⟩, List.mem_of_getElem? (i := 778) (by decide +kernel), List.mem_of_getElem? (i := 987) (by decide +kernel), List.mem_of_getElem? (i := 988) (by decide +kernel)⟩
theorem lw_p27 : lw_okq (⟨"DripsOnBelowModel", "flatComes", "(II)Z"⟩, 43) := ⟨⟨by decide +kernel, by decide +kernel⟩, List.mem_of_getElem? (i := 778) (by decide +kernel), List.mem_of_getElem? (i := 991) (by decide +kernel), List.mem_of_getElem? (i := 992) (by decide +kernel)⟩
theorem lw_p28 : lw_okq (⟨"DripsOnBelowModel", "flatAt", "(I)I"⟩, 43) := ⟨⟨by decide +kernel, by decide +kernel⟩, List.mem_of_getElem? (i := 778) (by decide +kernel), List.mem_of_getElem? (i := 995) (by decide +kernel), List.mem_of_getElem? (i := 996) (by decide +kernel)⟩
theorem lw_p29 : lw_okq (⟨"DripsOnBelowModel", "saucerIs", "(II)V"⟩, 43) := ⟨⟨by decide +kernel, by decide +kernel⟩, List.mem_of_getElem? (i := 778) (by decide +kernel), List.mem_of_getElem? (i := 999) (by decide +kernel), List.mem_of_getElem? (i := 1000) (by decide +kernel)⟩
theorem lw_p30 : lw_okq (⟨"DripsOnBelowModel", "livesIn", "(I)I"⟩, 43) := ⟨⟨by decide +kernel, by decide +kernel⟩, List.mem_of_getElem? (i := 778) (by decide +kernel), List.mem_of_getElem? (i := 1019) (by decide +kernel), List.mem_of_getElem? (i := 1020) (by decide +kernel)⟩
theorem lw_p31 : lw_okq (⟨"DripsOnBelowModel", "isTenant", "(I)Z"⟩, 43) := ⟨⟨by decide +kernel, by decide +kernel⟩, List.mem_of_getElem? (i := 778) (by decide +kernel), List.mem_of_getElem? (i := 1027) (by decide +kernel), List.mem_of_getElem? (i := 1028) (by decide +kernel)⟩
def lw_privs_2 : List (MethodName × Nat) := [(⟨"DripsOnBelowModel", "readDigit", "()I"⟩, 43), (⟨"DripsOnBelowModel", "readTwo", "()I"⟩, 43), (⟨"DripsOnBelowModel", "readSign", "()I"⟩, 43), (⟨"DripsOnBelowModel", "readHours", "()I"⟩, 43), (⟨"DripsOnBelowModel", "readTenant", "()I"⟩, 43), (⟨"DripsOnBelowModel", "carryAll", "([IZ)V"⟩, 43), (⟨"DripsOnBelowModel", "carry", "(I)I"⟩, 43), (⟨"DripsOnBelowModel", "comes", "(I)Z"⟩, 43), (⟨"DripsOnBelowModel", "frontComes", "(II)Z"⟩, 43), (⟨"DripsOnBelowModel", "habitComes", "(I)Z"⟩, 43), (⟨"DripsOnBelowModel", "tenants", "()I"⟩, 43), (⟨"DripsOnBelowModel", "flatComes", "(II)Z"⟩, 43), (⟨"DripsOnBelowModel", "flatAt", "(I)I"⟩, 43), (⟨"DripsOnBelowModel", "saucerIs", "(II)V"⟩, 43), (⟨"DripsOnBelowModel", "livesIn", "(I)I"⟩, 43), (⟨"DripsOnBelowModel", "isTenant", "(I)Z"⟩, 43)]
theorem lw_r2 : ∀ q ∈ lw_privs_2, lw_okq q := List.forall_mem_cons.mpr ⟨lw_p16, List.forall_mem_cons.mpr ⟨lw_p17, List.forall_mem_cons.mpr ⟨lw_p18, List.forall_mem_cons.mpr ⟨lw_p19, List.forall_mem_cons.mpr ⟨lw_p20, List.forall_mem_cons.mpr ⟨lw_p21, List.forall_mem_cons.mpr ⟨lw_p22, List.forall_mem_cons.mpr ⟨lw_p23, List.forall_mem_cons.mpr ⟨lw_p24, List.forall_mem_cons.mpr ⟨lw_p25, List.forall_mem_cons.mpr ⟨lw_p26, List.forall_mem_cons.mpr ⟨lw_p27, List.forall_mem_cons.mpr ⟨lw_p28, List.forall_mem_cons.mpr ⟨lw_p29, List.forall_mem_cons.mpr ⟨lw_p30, List.forall_mem_cons.mpr ⟨lw_p31, fun _ h => absurd h List.not_mem_nil⟩⟩⟩⟩⟩⟩⟩⟩⟩⟩⟩⟩⟩⟩⟩⟩
theorem lw_p32 : lw_okq (⟨"DripsOnBelowModel", "habitsOf", "(I)I"⟩, 43) := ⟨⟨by decide +kernel, by decide +kernel⟩, List.mem_of_getElem? (i := 778) (by decide +kernel), List.mem_of_getElem? (i := 1034) (by decide +kernel), List.mem_of_getElem? (i := 1035) (by decide +kernel)⟩
theorem lw_p33 : lw_okq (⟨"DripsOnBelowModel", "areTenants", "(II)Z"⟩, 43) := ⟨⟨by decide +kernel, by decide +kernel⟩, List.mem_of_getElem? (i := 778) (by decide +kernel), List.mem_of_getElem? (i := 1042) (by decide +kernel), List.mem_of_getElem? (i := 1043) (by decide +kernel)⟩
theorem lw_p34 : lw_okq (⟨"DripsOnBelowModel", "isHabit", "(I)Z"⟩, 43) := ⟨⟨by decide +kernel, by decide +kernel⟩, List.mem_of_getElem? (i := 778) (by decide +kernel), List.mem_of_getElem? (i := 1050) (by decide +kernel), List.mem_of_getElem? (i := 1051) (by decide +kernel)⟩
theorem lw_p35 : lw_okq (⟨"DripsOnBelowModel", "change", "(II)V"⟩, 43) := ⟨⟨by decide +kernel, by decide +kernel⟩, List.mem_of_getElem? (i := 778) (by decide +kernel), List.mem_of_getElem? (i := 1086) (by decide +kernel), List.mem_of_getElem? (i := 1087) (by decide +kernel)⟩
theorem lw_p36 : lw_okq (⟨"DripsOnBelowModel", "oneWeek", "()I"⟩, 43) := ⟨⟨by decide +kernel, by decide +kernel⟩, List.mem_of_getElem? (i := 778) (by decide +kernel), List.mem_of_getElem? (i := 1098) (by decide +kernel), List.mem_of_getElem? (i := 1099) (by decide +kernel)⟩
theorem lw_p37 : lw_okq (⟨"DripsOnBelowModel", "beginMind", "()V"⟩, 43) := ⟨⟨by decide +kernel, by decide +kernel⟩, List.mem_of_getElem? (i := 778) (by decide +kernel), List.mem_of_getElem? (i := 1102) (by decide +kernel), List.mem_of_getElem? (i := 1103) (by decide +kernel)⟩
theorem lw_p38 : lw_okq (⟨"DripsOnBelowModel", "clearHarm", "()V"⟩, 43) := ⟨⟨by decide +kernel, by decide +kernel⟩, List.mem_of_getElem? (i := 778) (by decide +kernel), List.mem_of_getElem? (i := 1106) (by decide +kernel), List.mem_of_getElem? (i := 1107) (by decide +kernel)⟩
theorem lw_p39 : lw_okq (⟨"DripsOnBelowModel", "weekOn", "()I"⟩, 43) := ⟨⟨by decide +kernel, by decide +kernel⟩, List.mem_of_getElem? (i := 778) (by decide +kernel), List.mem_of_getElem? (i := 1110) (by decide +kernel), List.mem_of_getElem? (i := 1111) (by decide +kernel)⟩
theorem lw_p40 : lw_okq (⟨"DripsOnBelowModel", "fall", "(I)V"⟩, 43) := ⟨⟨by decide +kernel, by decide +kernel⟩, List.mem_of_getElem? (i := 778) (by decide +kernel), List.mem_of_getElem? (i := 1114) (by decide +kernel), List.mem_of_getElem? (i := 1115) (by decide +kernel)⟩
theorem lw_p41 : lw_okq (⟨"DripsOnBelowModel", "nextOf", "(II)I"⟩, 43) := ⟨⟨by decide +kernel, by decide +kernel⟩, List.mem_of_getElem? (i := 778) (by decide +kernel), List.mem_of_getElem? (i := 1118) (by decide +kernel), List.mem_of_getElem? (i := 1119) (by decide +kernel)⟩
theorem lw_p42 : lw_okq (⟨"DripsOnBelowModel", "harmOf", "(IIII)I"⟩, 43) := ⟨⟨by decide +kernel, by decide +kernel⟩, List.mem_of_getElem? (i := 778) (by decide +kernel), List.mem_of_getElem? (i := 1122) (by decide +kernel), List.mem_of_getElem? (i := 1123) (by decide +kernel)⟩
theorem lw_p43 : lw_okq (⟨"DripsOnBelowModel", "keptAt", "(III)I"⟩, 43) := ⟨⟨by decide +kernel, by decide +kernel⟩, List.mem_of_getElem? (i := 778) (by decide +kernel), List.mem_of_getElem? (i := 1126) (by decide +kernel), List.mem_of_getElem? (i := 1127) (by decide +kernel)⟩
theorem lw_p44 : lw_okq (⟨"DripsOnBelowModel", "sumHarm", "()I"⟩, 43) := ⟨⟨by decide +kernel, by decide +kernel⟩, List.mem_of_getElem? (i := 778) (by decide +kernel), List.mem_of_getElem? (i := 1130) (by decide +kernel), List.mem_of_getElem? (i := 1131) (by decide +kernel)⟩
theorem lw_p45 : lw_okq (⟨"DripsOnBelowModel", "keepWeek", "()V"⟩, 43) := ⟨⟨by decide +kernel, by decide +kernel⟩, List.mem_of_getElem? (i := 778) (by decide +kernel), List.mem_of_getElem? (i := 1134) (by decide +kernel), List.mem_of_getElem? (i := 1135) (by decide +kernel)⟩
theorem lw_p46 : lw_okq (⟨"DripsOnBelowModel", "fallAlone", "(I)V"⟩, 43) := ⟨⟨by decide +kernel, by decide +kernel⟩, List.mem_of_getElem? (i := 778) (by decide +kernel), List.mem_of_getElem? (i := 1143) (by decide +kernel), List.mem_of_getElem? (i := 1144) (by decide +kernel)⟩
theorem lw_p47 : lw_okq (⟨"DripsOnBelowModel", "comesTo", "(II)Z"⟩, 43) := ⟨⟨by decide +kernel, by decide +kernel⟩, List.mem_of_getElem? (i := 778) (by decide +kernel), List.mem_of_getElem? (i := 1155) (by decide +kernel), List.mem_of_getElem? (i := 1156) (by decide +kernel)⟩
def lw_privs_3 : List (MethodName × Nat) := [(⟨"DripsOnBelowModel", "habitsOf", "(I)I"⟩, 43), (⟨"DripsOnBelowModel", "areTenants", "(II)Z"⟩, 43), (⟨"DripsOnBelowModel", "isHabit", "(I)Z"⟩, 43), (⟨"DripsOnBelowModel", "change", "(II)V"⟩, 43), (⟨"DripsOnBelowModel", "oneWeek", "()I"⟩, 43), (⟨"DripsOnBelowModel", "beginMind", "()V"⟩, 43), (⟨"DripsOnBelowModel", "clearHarm", "()V"⟩, 43), (⟨"DripsOnBelowModel", "weekOn", "()I"⟩, 43), (⟨"DripsOnBelowModel", "fall", "(I)V"⟩, 43), (⟨"DripsOnBelowModel", "nextOf", "(II)I"⟩, 43), (⟨"DripsOnBelowModel", "harmOf", "(IIII)I"⟩, 43), (⟨"DripsOnBelowModel", "keptAt", "(III)I"⟩, 43), (⟨"DripsOnBelowModel", "sumHarm", "()I"⟩, 43), (⟨"DripsOnBelowModel", "keepWeek", "()V"⟩, 43), (⟨"DripsOnBelowModel", "fallAlone", "(I)V"⟩, 43), (⟨"DripsOnBelowModel", "comesTo", "(II)Z"⟩, 43)]
theorem lw_r3 : ∀ q ∈ lw_privs_3, lw_okq q := List.forall_mem_cons.mpr ⟨lw_p32, List.forall_mem_cons.mpr ⟨lw_p33, List.forall_mem_cons.mpr ⟨lw_p34, List.forall_mem_cons.mpr ⟨lw_p35, List.forall_mem_cons.mpr ⟨lw_p36, List.forall_mem_cons.mpr ⟨lw_p37, List.forall_mem_cons.mpr ⟨lw_p38, List.forall_mem_cons.mpr ⟨lw_p39, List.forall_mem_cons.mpr ⟨lw_p40, List.forall_mem_cons.mpr ⟨lw_p41, List.forall_mem_cons.mpr ⟨lw_p42, List.forall_mem_cons.mpr ⟨lw_p43, List.forall_mem_cons.mpr ⟨lw_p44, List.forall_mem_cons.mpr ⟨lw_p45, List.forall_mem_cons.mpr ⟨lw_p46, List.forall_mem_cons.mpr ⟨lw_p47, fun _ h => absurd h List.not_mem_nil⟩⟩⟩⟩⟩⟩⟩⟩⟩⟩⟩⟩⟩⟩⟩⟩
theorem lw_p48 : lw_okq (⟨"DripsOnBelowModel", "quietHarm", "(II)I"⟩, 43) := ⟨⟨by decide +kernel, by decide +kernel⟩, List.mem_of_getElem? (i := 778) (by decide +kernel), List.mem_of_getElem? (i := 1179) (by decide +kernel), List.mem_of_getElem? (i := 1180) (by decide +kernel)⟩
theorem lw_p49 : lw_okq (⟨"DripsOnBelowModel", "keepTimes", "()V"⟩, 43) := ⟨⟨by decide +kernel, by decide +kernel⟩, List.mem_of_getElem? (i := 778) (by decide +kernel), List.mem_of_getElem? (i := 1183) (by decide +kernel), List.mem_of_getElem? (i := 1184) (by decide +kernel)⟩
theorem lw_p50 : lw_okq (⟨"DripsOnBelowModel", "timesBack", "()V"⟩, 43) := ⟨⟨by decide +kernel, by decide +kernel⟩, List.mem_of_getElem? (i := 778) (by decide +kernel), List.mem_of_getElem? (i := 1187) (by decide +kernel), List.mem_of_getElem? (i := 1188) (by decide +kernel)⟩
theorem lw_p51 : lw_okq (⟨"DripsOnBelowModel", "oneWeekOf", "(I)I"⟩, 43) := ⟨⟨by decide +kernel, by decide +kernel⟩, List.mem_of_getElem? (i := 778) (by decide +kernel), List.mem_of_getElem? (i := 1199) (by decide +kernel), List.mem_of_getElem? (i := 1200) (by decide +kernel)⟩
theorem lw_p52 : lw_okq (⟨"DripsOnBelowModel", "keepHarm", "()V"⟩, 43) := ⟨⟨by decide +kernel, by decide +kernel⟩, List.mem_of_getElem? (i := 778) (by decide +kernel), List.mem_of_getElem? (i := 1215) (by decide +kernel), List.mem_of_getElem? (i := 1216) (by decide +kernel)⟩
theorem lw_p53 : lw_okq (⟨"DripsOnBelowModel", "weekBoth", "(II)V"⟩, 43) := ⟨⟨by decide +kernel, by decide +kernel⟩, List.mem_of_getElem? (i := 778) (by decide +kernel), List.mem_of_getElem? (i := 1224) (by decide +kernel), List.mem_of_getElem? (i := 1225) (by decide +kernel)⟩
theorem lw_p54 : lw_okq (⟨"DripsOnBelowModel", "revenge", "()V"⟩, 43) := ⟨⟨by decide +kernel, by decide +kernel⟩, List.mem_of_getElem? (i := 778) (by decide +kernel), List.mem_of_getElem? (i := 1236) (by decide +kernel), List.mem_of_getElem? (i := 1237) (by decide +kernel)⟩
theorem lw_p55 : lw_okq (⟨"DripsOnBelowModel", "isAngry", "(I)Z"⟩, 43) := ⟨⟨by decide +kernel, by decide +kernel⟩, List.mem_of_getElem? (i := 778) (by decide +kernel), List.mem_of_getElem? (i := 1240) (by decide +kernel), List.mem_of_getElem? (i := 1241) (by decide +kernel)⟩
theorem lw_p56 : lw_okq (⟨"DripsOnBelowModel", "pairsOf", "(I)I"⟩, 43) := ⟨⟨by decide +kernel, by decide +kernel⟩, List.mem_of_getElem? (i := 778) (by decide +kernel), List.mem_of_getElem? (i := 1252) (by decide +kernel), List.mem_of_getElem? (i := 1253) (by decide +kernel)⟩
theorem lw_p57 : lw_okq (⟨"DripsOnBelowModel", "haveLess", "(II)Z"⟩, 43) := ⟨⟨by decide +kernel, by decide +kernel⟩, List.mem_of_getElem? (i := 778) (by decide +kernel), List.mem_of_getElem? (i := 1256) (by decide +kernel), List.mem_of_getElem? (i := 1257) (by decide +kernel)⟩
theorem lw_p58 : lw_okq (⟨"DripsOnBelowModel", "ringsOf", "()I"⟩, 43) := ⟨⟨by decide +kernel, by decide +kernel⟩, List.mem_of_getElem? (i := 778) (by decide +kernel), List.mem_of_getElem? (i := 1260) (by decide +kernel), List.mem_of_getElem? (i := 1261) (by decide +kernel)⟩
theorem lw_p59 : lw_okq (⟨"DripsOnBelowModel", "isRing", "(III)Z"⟩, 43) := ⟨⟨by decide +kernel, by decide +kernel⟩, List.mem_of_getElem? (i := 778) (by decide +kernel), List.mem_of_getElem? (i := 1264) (by decide +kernel), List.mem_of_getElem? (i := 1265) (by decide +kernel)⟩
def lw_privs_4 : List (MethodName × Nat) := [(⟨"DripsOnBelowModel", "quietHarm", "(II)I"⟩, 43), (⟨"DripsOnBelowModel", "keepTimes", "()V"⟩, 43), (⟨"DripsOnBelowModel", "timesBack", "()V"⟩, 43), (⟨"DripsOnBelowModel", "oneWeekOf", "(I)I"⟩, 43), (⟨"DripsOnBelowModel", "keepHarm", "()V"⟩, 43), (⟨"DripsOnBelowModel", "weekBoth", "(II)V"⟩, 43), (⟨"DripsOnBelowModel", "revenge", "()V"⟩, 43), (⟨"DripsOnBelowModel", "isAngry", "(I)Z"⟩, 43), (⟨"DripsOnBelowModel", "pairsOf", "(I)I"⟩, 43), (⟨"DripsOnBelowModel", "haveLess", "(II)Z"⟩, 43), (⟨"DripsOnBelowModel", "ringsOf", "()I"⟩, 43), (⟨"DripsOnBelowModel", "isRing", "(III)Z"⟩, 43)]
theorem lw_r4 : ∀ q ∈ lw_privs_4, lw_okq q := List.forall_mem_cons.mpr ⟨lw_p48, List.forall_mem_cons.mpr ⟨lw_p49, List.forall_mem_cons.mpr ⟨lw_p50, List.forall_mem_cons.mpr ⟨lw_p51, List.forall_mem_cons.mpr ⟨lw_p52, List.forall_mem_cons.mpr ⟨lw_p53, List.forall_mem_cons.mpr ⟨lw_p54, List.forall_mem_cons.mpr ⟨lw_p55, List.forall_mem_cons.mpr ⟨lw_p56, List.forall_mem_cons.mpr ⟨lw_p57, List.forall_mem_cons.mpr ⟨lw_p58, List.forall_mem_cons.mpr ⟨lw_p59, fun _ h => absurd h List.not_mem_nil⟩⟩⟩⟩⟩⟩⟩⟩⟩⟩⟩⟩
def lw_privs : List (MethodName × Nat) := lw_privs_1 ++ (lw_privs_2 ++ (lw_privs_3 ++ (lw_privs_4)))
def lw_tbl : List Cond := k2_sels lw_privs ++ tables_1
theorem lw_privs_ok : ∀ q ∈ lw_privs, lw_okq q := by
  show ∀ q ∈ lw_privs_1 ++ (lw_privs_2 ++ (lw_privs_3 ++ (lw_privs_4))), lw_okq q
  exact List.forall_mem_append.mpr ⟨lw_r1, List.forall_mem_append.mpr ⟨lw_r2, List.forall_mem_append.mpr ⟨lw_r3, lw_r4⟩⟩⟩
end
section
/-! ===== BEGIN words of one list among another's, by their places ===== -/
theorem goodIn_r {big : List Cond} (ws : List Cond) (ps : List Nat) (hp : ws = ps.filterMap (fun i => big[i]?)) (h : ws.all goodWord = true) : GoodIn big ws := by
  intro w hw
  have h1 := List.all_eq_true.mp h w hw
  rw [hp] at hw
  obtain ⟨i, -, hi⟩ := List.mem_filterMap.mp hw
  have hm : w ∈ big := by first | exact List.mem_of_getElem? hi | exact List.getElem?_mem hi
  exact ⟨hm, good_of_word h1⟩
theorem goodIn_app {big a b : List Cond} (ha : GoodIn big a) (hb : GoodIn big b) : GoodIn big (a ++ b) := fun w h => (List.mem_append.mp h).elim (ha w) (hb w)
theorem goodIn_ca {big a b : List Cond} {c : Cond} (ha : GoodIn big (c :: a)) (hb : GoodIn big b) : GoodIn big (c :: (a ++ b)) := fun w h => (List.mem_cons.mp h).elim (fun e => ha w (List.mem_cons.mpr (Or.inl e))) (fun h => (List.mem_append.mp h).elim (fun h => ha w (List.mem_cons.mpr (Or.inr h))) (hb w))
theorem goodIn_sub {big ws : List Cond} (hm : ∀ w ∈ ws, w ∈ big) (h : ws.all goodWord = true) : GoodIn big ws := fun w hw => ⟨hm w hw, good_of_word (List.all_eq_true.mp h w hw)⟩
/-! ===== END ===== -/

/-! ===== BEGIN printed: names, fields, word lists, decode rows ===== -/
def RX0 : String := "DripsOnBelow$Front"
def TX0 : u_T := fun k => match k with
  | 0 => ("DripsOnBelow$Front", "storeys", "I", false)
  | 1 => ("DripsOnBelow$Front", "stacks", "I", false)
  | 2 => ("DripsOnBelow$Front", "wind", "I", false)
  | 3 => ("DripsOnBelow$Front", "saucer", "[I", true)
  | 4 => ("DripsOnBelow$Front", "holds", "[I", true)
  | 5 => ("DripsOnBelow$Front", "awning", "[I", true)
  | 6 => ("DripsOnBelow$Front", "washing", "[I", true)
  | 7 => ("DripsOnBelow$Front", "hung", "[I", true)
  | 8 => ("DripsOnBelow$Front", "lives", "[I", true)
  | _ => ("DripsOnBelow$Front", "home", "[I", true)
def tyX0 : Nat → FieldType := fun k => match k with
  | 0 => .int
  | 1 => .int
  | 2 => .int
  | 3 => .array .int
  | 4 => .array .int
  | 5 => .array .int
  | 6 => .array .int
  | 7 => .array .int
  | 8 => .array .int
  | _ => .array .int
abbrev wsX00 : List Cond := u_ws RX0 TX0 10
theorem nmX0 : ∀ a, a < 10 → ∀ b, b < 10 → a ≠ b → (TX0 a).2.1 ≠ (TX0 b).2.1 := by decide +kernel
theorem tyX0_ok : ∀ k, k < 10 → parseFieldDescriptor (TX0 k).2.2.1 = some (tyX0 k) := by decide +kernel
abbrev cX0_init : ByteArray := prog_2_method_1_code
def yX0_init : MethodName := ⟨RX0, "<init>", "()V"⟩
abbrev cX0_build : ByteArray := prog_2_method_2_code
def yX0_build : MethodName := ⟨RX0, "build", "(II)V"⟩
abbrev cX0_copyFrom : ByteArray := prog_2_method_3_code
def yX0_copyFrom : MethodName := ⟨RX0, "copyFrom", "(LDripsOnBelow$Front;)V"⟩
abbrev cX0_tenants : ByteArray := prog_2_method_4_code
def yX0_tenants : MethodName := ⟨RX0, "tenants", "()I"⟩
abbrev cX0_place : ByteArray := prog_2_method_5_code
def yX0_place : MethodName := ⟨RX0, "place", "(II)I"⟩
abbrev cX0_placeOf : ByteArray := prog_2_method_6_code
def yX0_placeOf : MethodName := ⟨RX0, "placeOf", "(I)I"⟩
abbrev cX0_flatAt : ByteArray := prog_2_method_7_code
def yX0_flatAt : MethodName := ⟨RX0, "flatAt", "(I)I"⟩
abbrev cX0_settle : ByteArray := prog_2_method_8_code
def yX0_settle : MethodName := ⟨RX0, "settle", "(II)V"⟩
abbrev cX0_change : ByteArray := prog_2_method_9_code
def yX0_change : MethodName := ⟨RX0, "change", "(II)V"⟩
abbrev cX0_ring : ByteArray := prog_2_method_10_code
def yX0_ring : MethodName := ⟨RX0, "ring", "(III)V"⟩
abbrev cX0_setSaucer : ByteArray := prog_2_method_11_code
def yX0_setSaucer : MethodName := ⟨RX0, "setSaucer", "(II)V"⟩
abbrev cX0_setWashing : ByteArray := prog_2_method_12_code
def yX0_setWashing : MethodName := ⟨RX0, "setWashing", "(III)V"⟩
abbrev cX0_dry : ByteArray := prog_2_method_13_code
def yX0_dry : MethodName := ⟨RX0, "dry", "()V"⟩
def RX1 : String := "DripsOnBelow$Habits"
def TX1 : u_T := fun k => match k with
  | 0 => ("DripsOnBelow$Habits", "count", "I", false)
  | 1 => ("DripsOnBelow$Habits", "who", "[I", true)
  | 2 => ("DripsOnBelow$Habits", "kind", "[I", true)
  | 3 => ("DripsOnBelow$Habits", "figure", "[I", true)
  | _ => ("DripsOnBelow$Habits", "hour", "[I", true)
def tyX1 : Nat → FieldType := fun k => match k with
  | 0 => .int
  | 1 => .array .int
  | 2 => .array .int
  | 3 => .array .int
  | _ => .array .int
abbrev wsX10 : List Cond := u_ws RX1 TX1 5
theorem nmX1 : ∀ a, a < 5 → ∀ b, b < 5 → a ≠ b → (TX1 a).2.1 ≠ (TX1 b).2.1 := by decide +kernel
theorem tyX1_ok : ∀ k, k < 5 → parseFieldDescriptor (TX1 k).2.2.1 = some (tyX1 k) := by decide +kernel
abbrev cX1_init : ByteArray := prog_3_method_1_code
def yX1_init : MethodName := ⟨RX1, "<init>", "()V"⟩
abbrev cX1_add : ByteArray := prog_3_method_2_code
def yX1_add : MethodName := ⟨RX1, "add", "(IIII)V"⟩
abbrev cX1_copyFrom : ByteArray := prog_3_method_3_code
def yX1_copyFrom : MethodName := ⟨RX1, "copyFrom", "(LDripsOnBelow$Habits;)V"⟩
abbrev cX1_countOf : ByteArray := prog_3_method_4_code
def yX1_countOf : MethodName := ⟨RX1, "countOf", "(I)I"⟩
abbrev cX1_putOff : ByteArray := prog_3_method_5_code
def yX1_putOff : MethodName := ⟨RX1, "putOff", "(II)V"⟩
abbrev cX1_raise : ByteArray := prog_3_method_6_code
def yX1_raise : MethodName := ⟨RX1, "raise", "(I)V"⟩
def RX2 : String := "DripsOnBelow$House"
def TX2 : u_T := fun k => match k with
  | 0 => ("DripsOnBelow$House", "front", "LDripsOnBelow$Front;", true)
  | 1 => ("DripsOnBelow$House", "habits", "LDripsOnBelow$Habits;", true)
  | 2 => ("DripsOnBelow$House", "ledger", "LDripsOnBelow$Ledger;", true)
  | 3 => ("DripsOnBelow$House", "way", "LDripsOnBelow$Way;", true)
  | _ => ("DripsOnBelow$House", "weeks", "I", false)
def tyX2 : Nat → FieldType := fun k => match k with
  | 0 => .object "DripsOnBelow$Front"
  | 1 => .object "DripsOnBelow$Habits"
  | 2 => .object "DripsOnBelow$Ledger"
  | 3 => .object "DripsOnBelow$Way"
  | _ => .int
abbrev wsX20 : List Cond := u_ws RX2 TX2 5
theorem nmX2 : ∀ a, a < 5 → ∀ b, b < 5 → a ≠ b → (TX2 a).2.1 ≠ (TX2 b).2.1 := by decide +kernel
theorem tyX2_ok : ∀ k, k < 5 → parseFieldDescriptor (TX2 k).2.2.1 = some (tyX2 k) := by decide +kernel
abbrev cX2_init : ByteArray := prog_4_method_1_code
def yX2_init : MethodName := ⟨RX2, "<init>", "()V"⟩
abbrev cX2_copyFrom : ByteArray := prog_4_method_2_code
def yX2_copyFrom : MethodName := ⟨RX2, "copyFrom", "(LDripsOnBelow$House;)V"⟩
abbrev cX2_build : ByteArray := prog_4_method_3_code
def yX2_build : MethodName := ⟨RX2, "build", "(II)V"⟩
abbrev cX2_follow : ByteArray := prog_4_method_4_code
def yX2_follow : MethodName := ⟨RX2, "follow", "(I)LDripsOnBelow$Way;"⟩
abbrev cX2_trace : ByteArray := prog_4_method_5_code
def yX2_trace : MethodName := ⟨RX2, "trace", "(I)LDripsOnBelow$Way;"⟩
abbrev cX2_harmAt : ByteArray := prog_4_method_6_code
def yX2_harmAt : MethodName := ⟨RX2, "harmAt", "(II)I"⟩
abbrev cX2_fall : ByteArray := prog_4_method_7_code
def yX2_fall : MethodName := ⟨RX2, "fall", "(I)V"⟩
abbrev cX2_spendWeek : ByteArray := prog_4_method_8_code
def yX2_spendWeek : MethodName := ⟨RX2, "spendWeek", "()I"⟩
abbrev cX2_takeRevenge : ByteArray := prog_4_method_9_code
def yX2_takeRevenge : MethodName := ⟨RX2, "takeRevenge", "()V"⟩
def RX3 : String := "DripsOnBelow$Ledger"
def TX3 : u_T := fun k => match k with
  | 0 => ("DripsOnBelow$Ledger", "harm", "[I", true)
  | 1 => ("DripsOnBelow$Ledger", "anger", "[I", true)
  | 2 => ("DripsOnBelow$Ledger", "done", "[I", true)
  | 3 => ("DripsOnBelow$Ledger", "doers", "[I", true)
  | _ => ("DripsOnBelow$Ledger", "all", "I", false)
def tyX3 : Nat → FieldType := fun k => match k with
  | 0 => .array .int
  | 1 => .array .int
  | 2 => .array .int
  | 3 => .array .int
  | _ => .int
abbrev wsX30 : List Cond := u_ws RX3 TX3 5
theorem nmX3 : ∀ a, a < 5 → ∀ b, b < 5 → a ≠ b → (TX3 a).2.1 ≠ (TX3 b).2.1 := by decide +kernel
theorem tyX3_ok : ∀ k, k < 5 → parseFieldDescriptor (TX3 k).2.2.1 = some (tyX3 k) := by decide +kernel
abbrev cX3_init : ByteArray := prog_5_method_1_code
def yX3_init : MethodName := ⟨RX3, "<init>", "()V"⟩
abbrev cX3_pair : ByteArray := prog_5_method_2_code
def yX3_pair : MethodName := ⟨RX3, "pair", "(II)I"⟩
abbrev cX3_clear : ByteArray := prog_5_method_3_code
def yX3_clear : MethodName := ⟨RX3, "clear", "()V"⟩
abbrev cX3_copyFrom : ByteArray := prog_5_method_4_code
def yX3_copyFrom : MethodName := ⟨RX3, "copyFrom", "(LDripsOnBelow$Ledger;)V"⟩
abbrev cX3_beginWeek : ByteArray := prog_5_method_5_code
def yX3_beginWeek : MethodName := ⟨RX3, "beginWeek", "()V"⟩
abbrev cX3_note : ByteArray := prog_5_method_6_code
def yX3_note : MethodName := ⟨RX3, "note", "(III)V"⟩
abbrev cX3_isAngry : ByteArray := prog_5_method_7_code
def yX3_isAngry : MethodName := ⟨RX3, "isAngry", "(I)Z"⟩
def RX4 : String := "DripsOnBelow$Letters"
def TX4 : u_T := fun k => match k with
  | 0 => ("DripsOnBelow$Letters", "text", "[I", true)
  | _ => ("DripsOnBelow$Letters", "count", "I", false)
def tyX4 : Nat → FieldType := fun k => match k with
  | 0 => .array .int
  | _ => .int
abbrev wsX40 : List Cond := u_ws RX4 TX4 2
theorem nmX4 : ∀ a, a < 2 → ∀ b, b < 2 → a ≠ b → (TX4 a).2.1 ≠ (TX4 b).2.1 := by decide +kernel
theorem tyX4_ok : ∀ k, k < 2 → parseFieldDescriptor (TX4 k).2.2.1 = some (tyX4 k) := by decide +kernel
abbrev cX4_init : ByteArray := prog_6_method_1_code
def yX4_init : MethodName := ⟨RX4, "<init>", "()V"⟩
abbrev cX4_add : ByteArray := prog_6_method_2_code
def yX4_add : MethodName := ⟨RX4, "add", "(I)I"⟩
abbrev cX4_letter : ByteArray := prog_6_method_3_code
def yX4_letter : MethodName := ⟨RX4, "letter", "(I)I"⟩
abbrev cX4_digit : ByteArray := prog_6_method_4_code
def yX4_digit : MethodName := ⟨RX4, "digit", "(I)I"⟩
abbrev cX4_sign : ByteArray := prog_6_method_5_code
def yX4_sign : MethodName := ⟨RX4, "sign", "(I)I"⟩
abbrev cX4_tell : ByteArray := prog_6_method_6_code
def yX4_tell : MethodName := ⟨RX4, "tell", "(LDripsOnBelow$House;)I"⟩
abbrev cX4_formFault : ByteArray := prog_6_method_7_code
def yX4_formFault : MethodName := ⟨RX4, "formFault", "()I"⟩
abbrev cX4_statementEnd : ByteArray := prog_6_method_8_code
def yX4_statementEnd : MethodName := ⟨RX4, "statementEnd", "(I)I"⟩
abbrev cX4_formOf : ByteArray := prog_6_method_9_code
def yX4_formOf : MethodName := ⟨RX4, "formOf", "(I)Ljava/lang/String;"⟩
abbrev cX4_lengthOf : ByteArray := prog_6_method_10_code
def yX4_lengthOf : MethodName := ⟨RX4, "lengthOf", "(CI)I"⟩
abbrev cX4_hoursFrom : ByteArray := prog_6_method_11_code
def yX4_hoursFrom : MethodName := ⟨RX4, "hoursFrom", "(I)I"⟩
abbrev cX4_carryOut : ByteArray := prog_6_method_12_code
def yX4_carryOut : MethodName := ⟨RX4, "carryOut", "(ILDripsOnBelow$House;)Z"⟩
abbrev cX4_carryOutFront : ByteArray := prog_6_method_13_code
def yX4_carryOutFront : MethodName := ⟨RX4, "carryOutFront", "(ILDripsOnBelow$House;)Z"⟩
abbrev cX4_carryOutHabit : ByteArray := prog_6_method_14_code
def yX4_carryOutHabit : MethodName := ⟨RX4, "carryOutHabit", "(ILDripsOnBelow$House;)Z"⟩
abbrev cX4_hourBits : ByteArray := prog_6_method_15_code
def yX4_hourBits : MethodName := ⟨RX4, "hourBits", "(I)I"⟩
def RX5 : String := "DripsOnBelow$Way"
def TX5 : u_T := fun k => match k with
  | 0 => ("DripsOnBelow$Way", "places", "[I", true)
  | 1 => ("DripsOnBelow$Way", "comes", "[I", true)
  | 2 => ("DripsOnBelow$Way", "stays", "[I", true)
  | _ => ("DripsOnBelow$Way", "count", "I", false)
def tyX5 : Nat → FieldType := fun k => match k with
  | 0 => .array .int
  | 1 => .array .int
  | 2 => .array .int
  | _ => .int
abbrev wsX50 : List Cond := u_ws RX5 TX5 4
theorem nmX5 : ∀ a, a < 4 → ∀ b, b < 4 → a ≠ b → (TX5 a).2.1 ≠ (TX5 b).2.1 := by decide +kernel
theorem tyX5_ok : ∀ k, k < 4 → parseFieldDescriptor (TX5 k).2.2.1 = some (tyX5 k) := by decide +kernel
abbrev cX5_init : ByteArray := prog_7_method_1_code
def yX5_init : MethodName := ⟨RX5, "<init>", "()V"⟩
abbrev cX5_trace : ByteArray := prog_7_method_2_code
def yX5_trace : MethodName := ⟨RX5, "trace", "(LDripsOnBelow$Front;LDripsOnBelow$Habits;I)V"⟩
abbrev cX5_hold : ByteArray := prog_7_method_3_code
def yX5_hold : MethodName := ⟨RX5, "hold", "(LDripsOnBelow$Front;LDripsOnBelow$Habits;I)V"⟩
abbrev cX5_next : ByteArray := prog_7_method_4_code
def yX5_next : MethodName := ⟨RX5, "next", "(LDripsOnBelow$Front;II)I"⟩
abbrev cX5_room : ByteArray := prog_7_method_5_code
def yX5_room : MethodName := ⟨RX5, "room", "(LDripsOnBelow$Front;II)I"⟩
abbrev cX5_comesTo : ByteArray := prog_7_method_6_code
def yX5_comesTo : MethodName := ⟨RX5, "comesTo", "(I)Z"⟩
def RX6 : String := "DripsOnBelow"
def TX6 : u_T := fun k => match k with
  | 0 => ("DripsOnBelow", "now", "LDripsOnBelow$House;", true)
  | 1 => ("DripsOnBelow", "taken", "LDripsOnBelow$House;", true)
  | 2 => ("DripsOnBelow", "trial", "LDripsOnBelow$House;", true)
  | 3 => ("DripsOnBelow", "letters", "LDripsOnBelow$Letters;", true)
  | 4 => ("DripsOnBelow", "told", "[I", true)
  | 5 => ("DripsOnBelow", "refusals", "[I", true)
  | 6 => ("DripsOnBelow", "before", "[I", true)
  | 7 => ("DripsOnBelow", "tolds", "I", false)
  | _ => ("DripsOnBelow", "isTaken", "Z", false)
def tyX6 : Nat → FieldType := fun k => match k with
  | 0 => .object "DripsOnBelow$House"
  | 1 => .object "DripsOnBelow$House"
  | 2 => .object "DripsOnBelow$House"
  | 3 => .object "DripsOnBelow$Letters"
  | 4 => .array .int
  | 5 => .array .int
  | 6 => .array .int
  | 7 => .int
  | _ => .boolean
abbrev wsX60 : List Cond := u_ws RX6 TX6 9
theorem nmX6 : ∀ a, a < 9 → ∀ b, b < 9 → a ≠ b → (TX6 a).2.1 ≠ (TX6 b).2.1 := by decide +kernel
theorem tyX6_ok : ∀ k, k < 9 → parseFieldDescriptor (TX6 k).2.2.1 = some (tyX6 k) := by decide +kernel
abbrev cX6_init : ByteArray := prog_1_method_1_code
def yX6_init : MethodName := ⟨RX6, "<init>", "()V"⟩
abbrev cX6_get : ByteArray := prog_1_method_2_code
def yX6_get : MethodName := ⟨RX6, "get", "([II)I"⟩
abbrev cX6_set : ByteArray := prog_1_method_3_code
def yX6_set : MethodName := ⟨RX6, "set", "([III)V"⟩
abbrev cX6_copy : ByteArray := prog_1_method_4_code
def yX6_copy : MethodName := ⟨RX6, "copy", "([I[I)V"⟩
abbrev cX6_sum : ByteArray := prog_1_method_5_code
def yX6_sum : MethodName := ⟨RX6, "sum", "([I)I"⟩
abbrev cX6_within : ByteArray := prog_1_method_6_code
def yX6_within : MethodName := ⟨RX6, "within", "(III)Z"⟩
abbrev cX6_refuse : ByteArray := prog_1_method_7_code
def yX6_refuse : MethodName := ⟨RX6, "refuse", "(I)I"⟩
abbrev cX6_isTenant : ByteArray := prog_1_method_8_code
def yX6_isTenant : MethodName := ⟨RX6, "isTenant", "(I)Z"⟩
abbrev cX6_isHabit : ByteArray := prog_1_method_9_code
def yX6_isHabit : MethodName := ⟨RX6, "isHabit", "(I)Z"⟩
abbrev cX6_isHour : ByteArray := prog_1_method_10_code
def yX6_isHour : MethodName := ⟨RX6, "isHour", "(I)Z"⟩
abbrev cX6_tryAnew : ByteArray := prog_1_method_11_code
def yX6_tryAnew : MethodName := ⟨RX6, "tryAnew", "()V"⟩
abbrev cX6_tryAsIs : ByteArray := prog_1_method_12_code
def yX6_tryAsIs : MethodName := ⟨RX6, "tryAsIs", "()I"⟩
abbrev cX6_tryHour : ByteArray := prog_1_method_13_code
def yX6_tryHour : MethodName := ⟨RX6, "tryHour", "(II)I"⟩
abbrev cX6_tryQuiet : ByteArray := prog_1_method_14_code
def yX6_tryQuiet : MethodName := ⟨RX6, "tryQuiet", "(II)I"⟩
abbrev cX6_tryAwning : ByteArray := prog_1_method_15_code
def yX6_tryAwning : MethodName := ⟨RX6, "tryAwning", "(II)I"⟩
abbrev cX6_doneTo : ByteArray := prog_1_method_16_code
def yX6_doneTo : MethodName := ⟨RX6, "doneTo", "(I)I"⟩
abbrev cX6_gain : ByteArray := prog_1_method_17_code
def yX6_gain : MethodName := ⟨RX6, "gain", "(I)I"⟩
abbrev cX6_feed : ByteArray := prog_1_method_18_code
def yX6_feed : MethodName := ⟨RX6, "feed", "(I)I"⟩
abbrev cX6_front : ByteArray := prog_1_method_19_code
def yX6_front : MethodName := ⟨RX6, "front", "()I"⟩
abbrev cX6_flat : ByteArray := prog_1_method_20_code
def yX6_flat : MethodName := ⟨RX6, "flat", "(II)I"⟩
abbrev cX6_tenant : ByteArray := prog_1_method_21_code
def yX6_tenant : MethodName := ⟨RX6, "tenant", "(II)I"⟩
abbrev cX6_anger : ByteArray := prog_1_method_22_code
def yX6_anger : MethodName := ⟨RX6, "anger", "(II)I"⟩
abbrev cX6_habit : ByteArray := prog_1_method_23_code
def yX6_habit : MethodName := ⟨RX6, "habit", "(II)I"⟩
abbrev cX6_count : ByteArray := prog_1_method_24_code
def yX6_count : MethodName := ⟨RX6, "count", "(I)I"⟩
abbrev cX6_put : ByteArray := prog_1_method_25_code
def yX6_put : MethodName := ⟨RX6, "put", "(II)I"⟩
abbrev cX6_saucer : ByteArray := prog_1_method_26_code
def yX6_saucer : MethodName := ⟨RX6, "saucer", "(II)I"⟩
abbrev cX6_awning : ByteArray := prog_1_method_27_code
def yX6_awning : MethodName := ⟨RX6, "awning", "(II)I"⟩
abbrev cX6_wash : ByteArray := prog_1_method_28_code
def yX6_wash : MethodName := ⟨RX6, "wash", "(III)I"⟩
abbrev cX6_wind : ByteArray := prog_1_method_29_code
def yX6_wind : MethodName := ⟨RX6, "wind", "(I)I"⟩
abbrev cX6_move : ByteArray := prog_1_method_30_code
def yX6_move : MethodName := ⟨RX6, "move", "(II)I"⟩
abbrev cX6_rain : ByteArray := prog_1_method_31_code
def yX6_rain : MethodName := ⟨RX6, "rain", "()I"⟩
abbrev cX6_week : ByteArray := prog_1_method_32_code
def yX6_week : MethodName := ⟨RX6, "week", "()I"⟩
abbrev cX6_steps : ByteArray := prog_1_method_33_code
def yX6_steps : MethodName := ⟨RX6, "steps", "(II)I"⟩
abbrev cX6_down : ByteArray := prog_1_method_34_code
def yX6_down : MethodName := ⟨RX6, "down", "(I)I"⟩
abbrev cX6_whom : ByteArray := prog_1_method_35_code
def yX6_whom : MethodName := ⟨RX6, "whom", "(II)I"⟩
abbrev cX6_does : ByteArray := prog_1_method_36_code
def yX6_does : MethodName := ⟨RX6, "does", "(II)I"⟩
abbrev cX6_harmed : ByteArray := prog_1_method_37_code
def yX6_harmed : MethodName := ⟨RX6, "harmed", "(II)I"⟩
abbrev cX6_least : ByteArray := prog_1_method_38_code
def yX6_least : MethodName := ⟨RX6, "least", "(II)I"⟩
abbrev cX6_hours : ByteArray := prog_1_method_39_code
def yX6_hours : MethodName := ⟨RX6, "hours", "(III)I"⟩
abbrev cX6_quiet : ByteArray := prog_1_method_40_code
def yX6_quiet : MethodName := ⟨RX6, "quiet", "(II)I"⟩
abbrev cX6_rule : ByteArray := prog_1_method_41_code
def yX6_rule : MethodName := ⟨RX6, "rule", "()I"⟩
abbrev cX6_hang : ByteArray := prog_1_method_42_code
def yX6_hang : MethodName := ⟨RX6, "hang", "(I)I"⟩
abbrev cX6_big : ByteArray := prog_1_method_43_code
def yX6_big : MethodName := ⟨RX6, "big", "(I)I"⟩
abbrev cX6_leads : ByteArray := prog_1_method_44_code
def yX6_leads : MethodName := ⟨RX6, "leads", "(I)I"⟩
abbrev cX6_whose : ByteArray := prog_1_method_45_code
def yX6_whose : MethodName := ⟨RX6, "whose", "(II)I"⟩
abbrev cX6_deal : ByteArray := prog_1_method_46_code
def yX6_deal : MethodName := ⟨RX6, "deal", "(II)I"⟩
abbrev cX6_pays : ByteArray := prog_1_method_47_code
def yX6_pays : MethodName := ⟨RX6, "pays", "(III)I"⟩
abbrev cX6_climbs : ByteArray := prog_1_method_48_code
def yX6_climbs : MethodName := ⟨RX6, "climbs", "()I"⟩
abbrev cX6_worth : ByteArray := prog_1_method_49_code
def yX6_worth : MethodName := ⟨RX6, "worth", "(I)I"⟩
abbrev cX6_swaps : ByteArray := prog_1_method_50_code
def yX6_swaps : MethodName := ⟨RX6, "swaps", "(I)I"⟩
abbrev cX6_pairs : ByteArray := prog_1_method_51_code
def yX6_pairs : MethodName := ⟨RX6, "pairs", "(Z)I"⟩
abbrev cX6_rings : ByteArray := prog_1_method_52_code
def yX6_rings : MethodName := ⟨RX6, "rings", "()I"⟩
abbrev cX6_peg : ByteArray := prog_1_method_53_code
def yX6_peg : MethodName := ⟨RX6, "peg", "(III)J"⟩
abbrev cX6_row : ByteArray := prog_1_method_54_code
def yX6_row : MethodName := ⟨RX6, "row", "(I)I"⟩
abbrev cX6_judge : ByteArray := prog_1_method_55_code
def yX6_judge : MethodName := ⟨RX6, "judge", "()I"⟩
abbrev cX6_seeds : ByteArray := prog_1_method_56_code
def yX6_seeds : MethodName := ⟨RX6, "seeds", "(II)I"⟩
abbrev cX6_image : ByteArray := prog_1_method_57_code
def yX6_image : MethodName := ⟨RX6, "image", "()I"⟩
abbrev cX6_restore : ByteArray := prog_1_method_58_code
def yX6_restore : MethodName := ⟨RX6, "restore", "()I"⟩
def RX7 : String := "DripsOnBelowModel"
def TX7 : u_T := fun k => match k with
  | 0 => ("DripsOnBelowModel", "storeys", "I", false)
  | 1 => ("DripsOnBelowModel", "stacks", "I", false)
  | 2 => ("DripsOnBelowModel", "blows", "I", false)
  | 3 => ("DripsOnBelowModel", "weeks", "I", false)
  | 4 => ("DripsOnBelowModel", "habits", "I", false)
  | 5 => ("DripsOnBelowModel", "saucers", "[I", true)
  | 6 => ("DripsOnBelowModel", "holds", "[I", true)
  | 7 => ("DripsOnBelowModel", "awnings", "[I", true)
  | 8 => ("DripsOnBelowModel", "washings", "[I", true)
  | 9 => ("DripsOnBelowModel", "hungs", "[I", true)
  | 10 => ("DripsOnBelowModel", "flatOf", "[I", true)
  | 11 => ("DripsOnBelowModel", "harms", "[I", true)
  | 12 => ("DripsOnBelowModel", "latest", "[I", true)
  | 13 => ("DripsOnBelowModel", "angers", "[I", true)
  | 14 => ("DripsOnBelowModel", "habitOf", "[I", true)
  | 15 => ("DripsOnBelowModel", "kinds", "[I", true)
  | 16 => ("DripsOnBelowModel", "figures", "[I", true)
  | 17 => ("DripsOnBelowModel", "times", "[I", true)
  | 18 => ("DripsOnBelowModel", "thrown", "I", false)
  | 19 => ("DripsOnBelowModel", "refusals", "[I", true)
  | 20 => ("DripsOnBelowModel", "held", "[I", true)
  | 21 => ("DripsOnBelowModel", "harmed0", "[I", true)
  | 22 => ("DripsOnBelowModel", "harmedBy", "[I", true)
  | 23 => ("DripsOnBelowModel", "wayFlats", "[I", true)
  | 24 => ("DripsOnBelowModel", "wayMany", "I", false)
  | 25 => ("DripsOnBelowModel", "letters", "[I", true)
  | 26 => ("DripsOnBelowModel", "letterMany", "I", false)
  | 27 => ("DripsOnBelowModel", "at", "I", false)
  | 28 => ("DripsOnBelowModel", "isBad", "Z", false)
  | 29 => ("DripsOnBelowModel", "statements", "I", false)
  | 30 => ("DripsOnBelowModel", "placeOf", "[I", true)
  | 31 => ("DripsOnBelowModel", "letterOf", "[I", true)
  | 32 => ("DripsOnBelowModel", "told", "[I", true)
  | 33 => ("DripsOnBelowModel", "kept", "[I", true)
  | 34 => ("DripsOnBelowModel", "imaged", "[I", true)
  | 35 => ("DripsOnBelowModel", "hasImage", "Z", false)
  | 36 => ("DripsOnBelowModel", "place", "I", false)
  | 37 => ("DripsOnBelowModel", "isTaking", "Z", false)
  | 38 => ("DripsOnBelowModel", "keptIn", "[I", false)
  | 39 => ("DripsOnBelowModel", "timesWere", "[I", true)
  | 40 => ("DripsOnBelowModel", "harmWas", "[I", true)
  | 41 => ("DripsOnBelowModel", "row", "[I", true)
  | _ => ("DripsOnBelowModel", "rowMany", "I", false)
def tyX7 : Nat → FieldType := fun k => match k with
  | 0 => .int
  | 1 => .int
  | 2 => .int
  | 3 => .int
  | 4 => .int
  | 5 => .array .int
  | 6 => .array .int
  | 7 => .array .int
  | 8 => .array .int
  | 9 => .array .int
  | 10 => .array .int
  | 11 => .array .int
  | 12 => .array .int
  | 13 => .array .int
  | 14 => .array .int
  | 15 => .array .int
  | 16 => .array .int
  | 17 => .array .int
  | 18 => .int
  | 19 => .array .int
  | 20 => .array .int
  | 21 => .array .int
  | 22 => .array .int
  | 23 => .array .int
  | 24 => .int
  | 25 => .array .int
  | 26 => .int
  | 27 => .int
  | 28 => .boolean
  | 29 => .int
  | 30 => .array .int
  | 31 => .array .int
  | 32 => .array .int
  | 33 => .array .int
  | 34 => .array .int
  | 35 => .boolean
  | 36 => .int
  | 37 => .boolean
  | 38 => .array .int
  | 39 => .array .int
  | 40 => .array .int
  | 41 => .array .int
  | _ => .int
abbrev wsX70 : List Cond := u_ws RX7 TX7 43
theorem nmX7 : ∀ a, a < 43 → ∀ b, b < 43 → a ≠ b → (TX7 a).2.1 ≠ (TX7 b).2.1 := by decide +kernel
theorem tyX7_ok : ∀ k, k < 43 → parseFieldDescriptor (TX7 k).2.2.1 = some (tyX7 k) := by decide +kernel
abbrev cX7_init : ByteArray := prog_9_method_1_code
def yX7_init : MethodName := ⟨RX7, "<init>", "()V"⟩
abbrev cX7_in : ByteArray := prog_9_method_3_code
def yX7_in : MethodName := ⟨RX7, "in", "(JJJ)Z"⟩
abbrev cX7_clearAll : ByteArray := prog_9_method_4_code
def yX7_clearAll : MethodName := ⟨RX7, "clearAll", "()V"⟩
abbrev cX7_refuse : ByteArray := prog_9_method_5_code
def yX7_refuse : MethodName := ⟨RX7, "refuse", "(I)I"⟩
abbrev cX7_tenants : ByteArray := prog_9_method_6_code
def yX7_tenants : MethodName := ⟨RX7, "tenants", "()I"⟩
abbrev cX7_flatAt : ByteArray := prog_9_method_7_code
def yX7_flatAt : MethodName := ⟨RX7, "flatAt", "(I)I"⟩
abbrev cX7_toldAs : ByteArray := prog_9_method_8_code
def yX7_toldAs : MethodName := ⟨RX7, "toldAs", "(I)I"⟩
abbrev cX7_isTenant : ByteArray := prog_9_method_9_code
def yX7_isTenant : MethodName := ⟨RX7, "isTenant", "(I)Z"⟩
abbrev cX7_areTenants : ByteArray := prog_9_method_10_code
def yX7_areTenants : MethodName := ⟨RX7, "areTenants", "(II)Z"⟩
abbrev cX7_isHabit : ByteArray := prog_9_method_11_code
def yX7_isHabit : MethodName := ⟨RX7, "isHabit", "(I)Z"⟩
abbrev cX7_livesIn : ByteArray := prog_9_method_12_code
def yX7_livesIn : MethodName := ⟨RX7, "livesIn", "(I)I"⟩
abbrev cX7_nextOf : ByteArray := prog_9_method_13_code
def yX7_nextOf : MethodName := ⟨RX7, "nextOf", "(II)I"⟩
abbrev cX7_lesser : ByteArray := prog_9_method_14_code
def yX7_lesser : MethodName := ⟨RX7, "lesser", "(II)I"⟩
abbrev cX7_harmOf : ByteArray := prog_9_method_15_code
def yX7_harmOf : MethodName := ⟨RX7, "harmOf", "(IIII)I"⟩
abbrev cX7_beginMind : ByteArray := prog_9_method_16_code
def yX7_beginMind : MethodName := ⟨RX7, "beginMind", "()V"⟩
abbrev cX7_clearHarm : ByteArray := prog_9_method_17_code
def yX7_clearHarm : MethodName := ⟨RX7, "clearHarm", "()V"⟩
abbrev cX7_keptAt : ByteArray := prog_9_method_18_code
def yX7_keptAt : MethodName := ⟨RX7, "keptAt", "(III)I"⟩
abbrev cX7_fall : ByteArray := prog_9_method_19_code
def yX7_fall : MethodName := ⟨RX7, "fall", "(I)V"⟩
abbrev cX7_sumHarm : ByteArray := prog_9_method_20_code
def yX7_sumHarm : MethodName := ⟨RX7, "sumHarm", "()I"⟩
abbrev cX7_weekOn : ByteArray := prog_9_method_21_code
def yX7_weekOn : MethodName := ⟨RX7, "weekOn", "()I"⟩
abbrev cX7_oneWeek : ByteArray := prog_9_method_22_code
def yX7_oneWeek : MethodName := ⟨RX7, "oneWeek", "()I"⟩
abbrev cX7_oneWeekOf : ByteArray := prog_9_method_23_code
def yX7_oneWeekOf : MethodName := ⟨RX7, "oneWeekOf", "(I)I"⟩
abbrev cX7_keepWeek : ByteArray := prog_9_method_24_code
def yX7_keepWeek : MethodName := ⟨RX7, "keepWeek", "()V"⟩
abbrev cX7_feed : ByteArray := prog_9_method_25_code
def yX7_feed : MethodName := ⟨RX7, "feed", "(I)I"⟩
abbrev cX7_here : ByteArray := prog_9_method_26_code
def yX7_here : MethodName := ⟨RX7, "here", "()I"⟩
abbrev cX7_readDigit : ByteArray := prog_9_method_27_code
def yX7_readDigit : MethodName := ⟨RX7, "readDigit", "()I"⟩
abbrev cX7_readTwo : ByteArray := prog_9_method_28_code
def yX7_readTwo : MethodName := ⟨RX7, "readTwo", "()I"⟩
abbrev cX7_readSign : ByteArray := prog_9_method_29_code
def yX7_readSign : MethodName := ⟨RX7, "readSign", "()I"⟩
abbrev cX7_readHours : ByteArray := prog_9_method_30_code
def yX7_readHours : MethodName := ⟨RX7, "readHours", "()I"⟩
abbrev cX7_readTenant : ByteArray := prog_9_method_31_code
def yX7_readTenant : MethodName := ⟨RX7, "readTenant", "()I"⟩
abbrev cX7_readStatement : ByteArray := prog_9_method_32_code
def yX7_readStatement : MethodName := ⟨RX7, "readStatement", "()V"⟩
abbrev cX7_frontComes : ByteArray := prog_9_method_33_code
def yX7_frontComes : MethodName := ⟨RX7, "frontComes", "(II)Z"⟩
abbrev cX7_habitComes : ByteArray := prog_9_method_34_code
def yX7_habitComes : MethodName := ⟨RX7, "habitComes", "(I)Z"⟩
abbrev cX7_saucerIs : ByteArray := prog_9_method_35_code
def yX7_saucerIs : MethodName := ⟨RX7, "saucerIs", "(II)V"⟩
abbrev cX7_flatComes : ByteArray := prog_9_method_36_code
def yX7_flatComes : MethodName := ⟨RX7, "flatComes", "(II)Z"⟩
abbrev cX7_comes : ByteArray := prog_9_method_37_code
def yX7_comes : MethodName := ⟨RX7, "comes", "(I)Z"⟩
abbrev cX7_front : ByteArray := prog_9_method_38_code
def yX7_front : MethodName := ⟨RX7, "front", "()I"⟩
abbrev cX7_carry : ByteArray := prog_9_method_39_code
def yX7_carry : MethodName := ⟨RX7, "carry", "(I)I"⟩
abbrev cX7_carryAll : ByteArray := prog_9_method_40_code
def yX7_carryAll : MethodName := ⟨RX7, "carryAll", "([IZ)V"⟩
abbrev cX7_image : ByteArray := prog_9_method_41_code
def yX7_image : MethodName := ⟨RX7, "image", "()I"⟩
abbrev cX7_restore : ByteArray := prog_9_method_42_code
def yX7_restore : MethodName := ⟨RX7, "restore", "()I"⟩
abbrev cX7_flat : ByteArray := prog_9_method_43_code
def yX7_flat : MethodName := ⟨RX7, "flat", "(II)I"⟩
abbrev cX7_habitsOf : ByteArray := prog_9_method_44_code
def yX7_habitsOf : MethodName := ⟨RX7, "habitsOf", "(I)I"⟩
abbrev cX7_tenant : ByteArray := prog_9_method_45_code
def yX7_tenant : MethodName := ⟨RX7, "tenant", "(II)I"⟩
abbrev cX7_anger : ByteArray := prog_9_method_46_code
def yX7_anger : MethodName := ⟨RX7, "anger", "(II)I"⟩
abbrev cX7_habit : ByteArray := prog_9_method_47_code
def yX7_habit : MethodName := ⟨RX7, "habit", "(II)I"⟩
abbrev cX7_isTime : ByteArray := prog_9_method_48_code
def yX7_isTime : MethodName := ⟨RX7, "isTime", "(I)Z"⟩
abbrev cX7_put : ByteArray := prog_9_method_49_code
def yX7_put : MethodName := ⟨RX7, "put", "(II)I"⟩
abbrev cX7_wrongNumber : ByteArray := prog_9_method_50_code
def yX7_wrongNumber : MethodName := ⟨RX7, "wrongNumber", "(III)I"⟩
abbrev cX7_saucer : ByteArray := prog_9_method_51_code
def yX7_saucer : MethodName := ⟨RX7, "saucer", "(II)I"⟩
abbrev cX7_awning : ByteArray := prog_9_method_52_code
def yX7_awning : MethodName := ⟨RX7, "awning", "(II)I"⟩
abbrev cX7_wash : ByteArray := prog_9_method_53_code
def yX7_wash : MethodName := ⟨RX7, "wash", "(III)I"⟩
abbrev cX7_wind : ByteArray := prog_9_method_54_code
def yX7_wind : MethodName := ⟨RX7, "wind", "(I)I"⟩
abbrev cX7_change : ByteArray := prog_9_method_55_code
def yX7_change : MethodName := ⟨RX7, "change", "(II)V"⟩
abbrev cX7_move : ByteArray := prog_9_method_56_code
def yX7_move : MethodName := ⟨RX7, "move", "(II)I"⟩
abbrev cX7_rain : ByteArray := prog_9_method_57_code
def yX7_rain : MethodName := ⟨RX7, "rain", "()I"⟩
abbrev cX7_week : ByteArray := prog_9_method_58_code
def yX7_week : MethodName := ⟨RX7, "week", "()I"⟩
abbrev cX7_fallAlone : ByteArray := prog_9_method_59_code
def yX7_fallAlone : MethodName := ⟨RX7, "fallAlone", "(I)V"⟩
abbrev cX7_steps : ByteArray := prog_9_method_60_code
def yX7_steps : MethodName := ⟨RX7, "steps", "(II)I"⟩
abbrev cX7_down : ByteArray := prog_9_method_61_code
def yX7_down : MethodName := ⟨RX7, "down", "(I)I"⟩
abbrev cX7_comesTo : ByteArray := prog_9_method_62_code
def yX7_comesTo : MethodName := ⟨RX7, "comesTo", "(II)Z"⟩
abbrev cX7_whom : ByteArray := prog_9_method_63_code
def yX7_whom : MethodName := ⟨RX7, "whom", "(II)I"⟩
abbrev cX7_does : ByteArray := prog_9_method_64_code
def yX7_does : MethodName := ⟨RX7, "does", "(II)I"⟩
abbrev cX7_harmed : ByteArray := prog_9_method_65_code
def yX7_harmed : MethodName := ⟨RX7, "harmed", "(II)I"⟩
abbrev cX7_least : ByteArray := prog_9_method_66_code
def yX7_least : MethodName := ⟨RX7, "least", "(II)I"⟩
abbrev cX7_hours : ByteArray := prog_9_method_67_code
def yX7_hours : MethodName := ⟨RX7, "hours", "(III)I"⟩
abbrev cX7_keepTimes : ByteArray := prog_9_method_68_code
def yX7_keepTimes : MethodName := ⟨RX7, "keepTimes", "()V"⟩
abbrev cX7_timesBack : ByteArray := prog_9_method_69_code
def yX7_timesBack : MethodName := ⟨RX7, "timesBack", "()V"⟩
abbrev cX7_quietHarm : ByteArray := prog_9_method_70_code
def yX7_quietHarm : MethodName := ⟨RX7, "quietHarm", "(II)I"⟩
abbrev cX7_quiet : ByteArray := prog_9_method_71_code
def yX7_quiet : MethodName := ⟨RX7, "quiet", "(II)I"⟩
abbrev cX7_rule : ByteArray := prog_9_method_72_code
def yX7_rule : MethodName := ⟨RX7, "rule", "()I"⟩
abbrev cX7_hang : ByteArray := prog_9_method_73_code
def yX7_hang : MethodName := ⟨RX7, "hang", "(I)I"⟩
abbrev cX7_big : ByteArray := prog_9_method_74_code
def yX7_big : MethodName := ⟨RX7, "big", "(I)I"⟩
abbrev cX7_leads : ByteArray := prog_9_method_75_code
def yX7_leads : MethodName := ⟨RX7, "leads", "(I)I"⟩
abbrev cX7_keepHarm : ByteArray := prog_9_method_76_code
def yX7_keepHarm : MethodName := ⟨RX7, "keepHarm", "()V"⟩
abbrev cX7_whose : ByteArray := prog_9_method_77_code
def yX7_whose : MethodName := ⟨RX7, "whose", "(II)I"⟩
abbrev cX7_weekBoth : ByteArray := prog_9_method_78_code
def yX7_weekBoth : MethodName := ⟨RX7, "weekBoth", "(II)V"⟩
abbrev cX7_deal : ByteArray := prog_9_method_79_code
def yX7_deal : MethodName := ⟨RX7, "deal", "(II)I"⟩
abbrev cX7_pays : ByteArray := prog_9_method_80_code
def yX7_pays : MethodName := ⟨RX7, "pays", "(III)I"⟩
abbrev cX7_isAngry : ByteArray := prog_9_method_81_code
def yX7_isAngry : MethodName := ⟨RX7, "isAngry", "(I)Z"⟩
abbrev cX7_revenge : ByteArray := prog_9_method_82_code
def yX7_revenge : MethodName := ⟨RX7, "revenge", "()V"⟩
abbrev cX7_climbs : ByteArray := prog_9_method_83_code
def yX7_climbs : MethodName := ⟨RX7, "climbs", "()I"⟩
abbrev cX7_worth : ByteArray := prog_9_method_84_code
def yX7_worth : MethodName := ⟨RX7, "worth", "(I)I"⟩
abbrev cX7_haveLess : ByteArray := prog_9_method_85_code
def yX7_haveLess : MethodName := ⟨RX7, "haveLess", "(II)Z"⟩
abbrev cX7_pairsOf : ByteArray := prog_9_method_86_code
def yX7_pairsOf : MethodName := ⟨RX7, "pairsOf", "(I)I"⟩
abbrev cX7_isRing : ByteArray := prog_9_method_87_code
def yX7_isRing : MethodName := ⟨RX7, "isRing", "(III)Z"⟩
abbrev cX7_ringsOf : ByteArray := prog_9_method_88_code
def yX7_ringsOf : MethodName := ⟨RX7, "ringsOf", "()I"⟩
abbrev cX7_swaps : ByteArray := prog_9_method_89_code
def yX7_swaps : MethodName := ⟨RX7, "swaps", "(I)I"⟩
abbrev cX7_divisor : ByteArray := prog_9_method_90_code
def yX7_divisor : MethodName := ⟨RX7, "divisor", "(II)I"⟩
abbrev cX7_peg : ByteArray := prog_9_method_91_code
def yX7_peg : MethodName := ⟨RX7, "peg", "(III)J"⟩
abbrev cX7_row : ByteArray := prog_9_method_92_code
def yX7_row : MethodName := ⟨RX7, "row", "(I)I"⟩
abbrev cX7_judge : ByteArray := prog_9_method_93_code
def yX7_judge : MethodName := ⟨RX7, "judge", "()I"⟩
abbrev cX7_seeds : ByteArray := prog_9_method_94_code
def yX7_seeds : MethodName := ⟨RX7, "seeds", "(II)I"⟩
abbrev cX7_sumOf : ByteArray := prog_9_method_95_code
def yX7_sumOf : MethodName := ⟨RX7, "sumOf", "([II)I"⟩
abbrev cX7_count : ByteArray := prog_9_method_96_code
def yX7_count : MethodName := ⟨RX7, "count", "(I)I"⟩
def RJx145de : String := "java/io/Serializable"
def TJx145de : u_T := fun k => match k with
  | _ => ("", "", "", false)
def tyJx145de : Nat → FieldType := fun k => match k with
  | _ => .int
abbrev wsJx145de0 : List Cond := u_ws RJx145de TJx145de 0
theorem nmJx145de : ∀ a, a < 0 → ∀ b, b < 0 → a ≠ b → (TJx145de a).2.1 ≠ (TJx145de b).2.1 := by decide +kernel
theorem tyJx145de_ok : ∀ k, k < 0 → parseFieldDescriptor (TJx145de k).2.2.1 = some (tyJx145de k) := by decide +kernel
def RJx9f9b0 : String := "java/lang/CharSequence"
def TJx9f9b0 : u_T := fun k => match k with
  | _ => ("", "", "", false)
def tyJx9f9b0 : Nat → FieldType := fun k => match k with
  | _ => .int
abbrev wsJx9f9b00 : List Cond := u_ws RJx9f9b0 TJx9f9b0 0
theorem nmJx9f9b0 : ∀ a, a < 0 → ∀ b, b < 0 → a ≠ b → (TJx9f9b0 a).2.1 ≠ (TJx9f9b0 b).2.1 := by decide +kernel
theorem tyJx9f9b0_ok : ∀ k, k < 0 → parseFieldDescriptor (TJx9f9b0 k).2.2.1 = some (tyJx9f9b0 k) := by decide +kernel
def RJxb160c : String := "java/lang/Comparable"
def TJxb160c : u_T := fun k => match k with
  | _ => ("", "", "", false)
def tyJxb160c : Nat → FieldType := fun k => match k with
  | _ => .int
abbrev wsJxb160c0 : List Cond := u_ws RJxb160c TJxb160c 0
theorem nmJxb160c : ∀ a, a < 0 → ∀ b, b < 0 → a ≠ b → (TJxb160c a).2.1 ≠ (TJxb160c b).2.1 := by decide +kernel
theorem tyJxb160c_ok : ∀ k, k < 0 → parseFieldDescriptor (TJxb160c k).2.2.1 = some (tyJxb160c k) := by decide +kernel
def RJ9 : String := "java/lang/Math"
def TJ9 : u_T := fun k => match k with
  | _ => ("", "", "", false)
def tyJ9 : Nat → FieldType := fun k => match k with
  | _ => .int
abbrev wsJ90 : List Cond := u_ws RJ9 TJ9 0
theorem nmJ9 : ∀ a, a < 0 → ∀ b, b < 0 → a ≠ b → (TJ9 a).2.1 ≠ (TJ9 b).2.1 := by decide +kernel
theorem tyJ9_ok : ∀ k, k < 0 → parseFieldDescriptor (TJ9 k).2.2.1 = some (tyJ9 k) := by decide +kernel
abbrev cJ9_abs_0f7a4 : ByteArray := prog_10_method_59_code
def yJ9_abs_0f7a4 : MethodName := ⟨RJ9, "abs", "(I)I"⟩
abbrev cJ9_max_7cf53 : ByteArray := prog_10_method_65_code
def yJ9_max_7cf53 : MethodName := ⟨RJ9, "max", "(II)I"⟩
abbrev cJ9_min_7cf53 : ByteArray := prog_10_method_69_code
def yJ9_min_7cf53 : MethodName := ⟨RJ9, "min", "(II)I"⟩
def RJ0 : String := "java/lang/String"
def TJ0 : u_T := fun k => match k with
  | _ => ("", "", "", false)
def tyJ0 : Nat → FieldType := fun k => match k with
  | _ => .int
abbrev wsJ00 : List Cond := u_ws RJ0 TJ0 0
theorem nmJ0 : ∀ a, a < 0 → ∀ b, b < 0 → a ≠ b → (TJ0 a).2.1 ≠ (TJ0 b).2.1 := by decide +kernel
theorem tyJ0_ok : ∀ k, k < 0 → parseFieldDescriptor (TJ0 k).2.2.1 = some (tyJ0 k) := by decide +kernel
abbrev cJ0_length_8abf5 : ByteArray := prog_11_method_54_code
def yJ0_length_8abf5 : MethodName := ⟨RJ0, "length", "()I"⟩
abbrev cJ0_isEmpty_aae02 : ByteArray := prog_11_method_55_code
def yJ0_isEmpty_aae02 : MethodName := ⟨RJ0, "isEmpty", "()Z"⟩
abbrev cJ0_charAt_5068e : ByteArray := prog_11_method_56_code
def yJ0_charAt_5068e : MethodName := ⟨RJ0, "charAt", "(I)C"⟩
abbrev cJ0_coder_7d493 : ByteArray := prog_11_method_152_code
def yJ0_coder_7d493 : MethodName := ⟨RJ0, "coder", "()B"⟩
abbrev cJ0_isLatin1_aae02 : ByteArray := prog_11_method_154_code
def yJ0_isLatin1_aae02 : MethodName := ⟨RJ0, "isLatin1", "()Z"⟩
abbrev cJ0_checkIndex_df160 : ByteArray := prog_11_method_155_code
def yJ0_checkIndex_df160 : MethodName := ⟨RJ0, "checkIndex", "(II)V"⟩
def RJ1 : String := "java/lang/StringLatin1"
def TJ1 : u_T := fun k => match k with
  | _ => ("", "", "", false)
def tyJ1 : Nat → FieldType := fun k => match k with
  | _ => .int
abbrev wsJ10 : List Cond := u_ws RJ1 TJ1 0
theorem nmJ1 : ∀ a, a < 0 → ∀ b, b < 0 → a ≠ b → (TJ1 a).2.1 ≠ (TJ1 b).2.1 := by decide +kernel
theorem tyJ1_ok : ∀ k, k < 0 → parseFieldDescriptor (TJ1 k).2.2.1 = some (tyJ1 k) := by decide +kernel
abbrev cJ1_charAt_3b067 : ByteArray := prog_12_method_2_code
def yJ1_charAt_3b067 : MethodName := ⟨RJ1, "charAt", "([BI)C"⟩
def RJ2 : String := "java/lang/StringUTF16"
def TJ2 : u_T := fun k => match k with
  | _ => ("", "", "", false)
def tyJ2 : Nat → FieldType := fun k => match k with
  | _ => .int
abbrev wsJ20 : List Cond := u_ws RJ2 TJ2 0
theorem nmJ2 : ∀ a, a < 0 → ∀ b, b < 0 → a ≠ b → (TJ2 a).2.1 ≠ (TJ2 b).2.1 := by decide +kernel
theorem tyJ2_ok : ∀ k, k < 0 → parseFieldDescriptor (TJ2 k).2.2.1 = some (tyJ2 k) := by decide +kernel
abbrev cJ2_getChar_3b067 : ByteArray := prog_13_method_5_code
def yJ2_getChar_3b067 : MethodName := ⟨RJ2, "getChar", "([BI)C"⟩
abbrev cJ2_length_9d52b : ByteArray := prog_13_method_6_code
def yJ2_length_9d52b : MethodName := ⟨RJ2, "length", "([B)I"⟩
abbrev cJ2_charAt_3b067 : ByteArray := prog_13_method_83_code
def yJ2_charAt_3b067 : MethodName := ⟨RJ2, "charAt", "([BI)C"⟩
abbrev cJ2_checkIndex_2214a : ByteArray := prog_13_method_91_code
def yJ2_checkIndex_2214a : MethodName := ⟨RJ2, "checkIndex", "(I[B)V"⟩
def RJ10 : String := "java/lang/System"
def TJ10 : u_T := fun k => match k with
  | _ => ("", "", "", false)
def tyJ10 : Nat → FieldType := fun k => match k with
  | _ => .int
abbrev wsJ100 : List Cond := u_ws RJ10 TJ10 0
theorem nmJ10 : ∀ a, a < 0 → ∀ b, b < 0 → a ≠ b → (TJ10 a).2.1 ≠ (TJ10 b).2.1 := by decide +kernel
theorem tyJ10_ok : ∀ k, k < 0 → parseFieldDescriptor (TJ10 k).2.2.1 = some (tyJ10 k) := by decide +kernel
def RJxfd54e : String := "java/lang/constant/Constable"
def TJxfd54e : u_T := fun k => match k with
  | _ => ("", "", "", false)
def tyJxfd54e : Nat → FieldType := fun k => match k with
  | _ => .int
abbrev wsJxfd54e0 : List Cond := u_ws RJxfd54e TJxfd54e 0
theorem nmJxfd54e : ∀ a, a < 0 → ∀ b, b < 0 → a ≠ b → (TJxfd54e a).2.1 ≠ (TJxfd54e b).2.1 := by decide +kernel
theorem tyJxfd54e_ok : ∀ k, k < 0 → parseFieldDescriptor (TJxfd54e k).2.2.1 = some (tyJxfd54e k) := by decide +kernel
def RJx3cf43 : String := "java/lang/constant/ConstantDesc"
def TJx3cf43 : u_T := fun k => match k with
  | _ => ("", "", "", false)
def tyJx3cf43 : Nat → FieldType := fun k => match k with
  | _ => .int
abbrev wsJx3cf430 : List Cond := u_ws RJx3cf43 TJx3cf43 0
theorem nmJx3cf43 : ∀ a, a < 0 → ∀ b, b < 0 → a ≠ b → (TJx3cf43 a).2.1 ≠ (TJx3cf43 b).2.1 := by decide +kernel
theorem tyJx3cf43_ok : ∀ k, k < 0 → parseFieldDescriptor (TJx3cf43 k).2.2.1 = some (tyJx3cf43 k) := by decide +kernel
def RJ7 : String := "java/util/Arrays"
def TJ7 : u_T := fun k => match k with
  | _ => ("", "", "", false)
def tyJ7 : Nat → FieldType := fun k => match k with
  | _ => .int
abbrev wsJ70 : List Cond := u_ws RJ7 TJ7 0
theorem nmJ7 : ∀ a, a < 0 → ∀ b, b < 0 → a ≠ b → (TJ7 a).2.1 ≠ (TJ7 b).2.1 := by decide +kernel
theorem tyJ7_ok : ∀ k, k < 0 → parseFieldDescriptor (TJ7 k).2.2.1 = some (tyJ7 k) := by decide +kernel
abbrev cJ7_fill_53178 : ByteArray := prog_15_method_103_code
def yJ7_fill_53178 : MethodName := ⟨RJ7, "fill", "([II)V"⟩
def RJ3 : String := "jdk/internal/util/Preconditions"
def TJ3 : u_T := fun k => match k with
  | _ => ("", "", "", false)
def tyJ3 : Nat → FieldType := fun k => match k with
  | _ => .int
abbrev wsJ30 : List Cond := u_ws RJ3 TJ3 0
theorem nmJ3 : ∀ a, a < 0 → ∀ b, b < 0 → a ≠ b → (TJ3 a).2.1 ≠ (TJ3 b).2.1 := by decide +kernel
theorem tyJ3_ok : ∀ k, k < 0 → parseFieldDescriptor (TJ3 k).2.2.1 = some (tyJ3 k) := by decide +kernel
abbrev cJ3_checkIndex_8e157 : ByteArray := prog_16_method_11_code
def yJ3_checkIndex_8e157 : MethodName := ⟨RJ3, "checkIndex", "(IILjava/util/function/BiFunction;)I"⟩
def RL : String := "DripsOnBelowLaw"
abbrev cL_law : ByteArray := code
def yL_law : MethodName := ⟨RL, "law", "([I)Z"⟩
abbrev vwCl : List vw_C := [(RX0, TX0, 10), (RX1, TX1, 5), (RX2, TX2, 5), (RX3, TX3, 5), (RX4, TX4, 2), (RX5, TX5, 4), (RX6, TX6, 9), (RX7, TX7, 43)]
/-- the words that stay: those of the tables that a callee may be given -/
def TT : List Cond := lw_tbl.filter goodWord
theorem tt_mem {w : Cond} (i : Nat) (h : lw_tbl[i]? = some w) (hg : goodWord w = true) : w ∈ TT := List.mem_filter.mpr ⟨List.mem_of_getElem? h, hg⟩
theorem tt_good : GoodIn TT TT := fun w h => ⟨h, good_of_word (List.mem_filter.mp h).2⟩
theorem tt_lw : ∀ w ∈ TT, w ∈ lw_tbl := fun _ h => (List.mem_filter.mp h).1
theorem tt_sub {ws : List Cond} (ps : List Nat) (hp : ws = ps.filterMap (fun i => lw_tbl[i]?)) (h : ws.all goodWord = true) : ∀ w ∈ ws, w ∈ TT := by
  intro w hw
  have h1 := List.all_eq_true.mp h w hw
  rw [hp] at hw
  obtain ⟨i, -, hi⟩ := List.mem_filterMap.mp hw
  exact List.mem_filter.mpr ⟨List.mem_of_getElem? hi, h1⟩
theorem inTX0 : ∀ w ∈ u_ws RX0 TX0 10, w ∈ TT := tt_sub [141, 143, 145, 147, 149, 151, 153, 155, 157, 159] (by decide +kernel) (by decide +kernel)
theorem inTX1 : ∀ w ∈ u_ws RX1 TX1 5, w ∈ TT := tt_sub [187, 189, 191, 193, 195] (by decide +kernel) (by decide +kernel)
theorem inTX2 : ∀ w ∈ u_ws RX2 TX2 5, w ∈ TT := tt_sub [260, 262, 264, 266, 268] (by decide +kernel) (by decide +kernel)
theorem inTX3 : ∀ w ∈ u_ws RX3 TX3 5, w ∈ TT := tt_sub [213, 215, 217, 219, 221] (by decide +kernel) (by decide +kernel)
theorem inTX4 : ∀ w ∈ u_ws RX4 TX4 2, w ∈ TT := tt_sub [280, 282] (by decide +kernel) (by decide +kernel)
theorem inTX5 : ∀ w ∈ u_ws RX5 TX5 4, w ∈ TT := tt_sub [240, 242, 244, 246] (by decide +kernel) (by decide +kernel)
theorem inTX6 : ∀ w ∈ u_ws RX6 TX6 9, w ∈ TT := tt_sub [294, 296, 298, 300, 302, 304, 306, 308, 310] (by decide +kernel) (by decide +kernel)
theorem inTX7 : ∀ w ∈ u_ws RX7 TX7 43, w ∈ TT := tt_sub [890, 892, 894, 896, 898, 900, 902, 904, 906, 908, 910, 912, 914, 916, 918, 920, 922, 924, 926, 928, 930, 932, 934, 936, 938, 940, 942, 944, 946, 948, 950, 952, 954, 956, 958, 960, 962, 964, 966, 968, 970, 972, 974] (by decide +kernel) (by decide +kernel)
end
section
def ly_kept : Nat := 52
def ly_imaged : Nat := 53
def ly_len : Nat → Option Nat := fun m => match m with
  | 1 => some 10
  | 2 => some 7
  | 3 => some 24
  | 5 => some 96
  | 8 => some 24
  | 9 => some 24
  | 10 => some 24
  | 11 => some 24
  | 12 => some 24
  | 13 => some 24
  | 14 => some 24
  | 16 => some 8
  | 17 => some 8
  | 18 => some 8
  | 19 => some 8
  | 21 => some 24
  | 22 => some 576
  | 23 => some 24
  | 24 => some 24
  | 26 => some 6
  | 27 => some 6
  | 28 => some 6
  | 30 => some 24
  | 31 => some 24
  | 32 => some 24
  | 33 => some 24
  | 34 => some 24
  | 35 => some 24
  | 36 => some 24
  | 37 => some 24
  | 38 => some 576
  | 39 => some 8
  | 40 => some 8
  | 41 => some 8
  | 42 => some 8
  | 43 => some 7
  | 44 => some 24
  | 45 => some 24
  | 46 => some 576
  | 47 => some 8
  | 48 => some 96
  | 49 => some 49
  | 50 => some 49
  | 51 => some 196
  | 52 => some 810
  | 53 => some 810
  | 54 => some 8
  | 55 => some 24
  | 56 => some 10
  | _ => none
def ly_cls : Nat → Nat := fun m => match m with
  | 0 => 6
  | 4 => 4
  | 6 => 2
  | 7 => 0
  | 15 => 1
  | 20 => 3
  | 25 => 5
  | _ => 7
def ly_n : Nat → Nat := fun m => match m with
  | 0 => 9
  | 4 => 2
  | 6 => 5
  | 7 => 10
  | 15 => 5
  | 20 => 5
  | 25 => 4
  | _ => 43
def ly_fX6 (i : Nat × Nat) (k : Nat) : Nat ⊕ (Nat × Nat) := match k with
  | 0 => .inr (1, 6)
  | 1 => .inr (2, 6)
  | 2 => .inr (3, 6)
  | 3 => .inr (0, 4)
  | 4 => .inr (0, 1)
  | 5 => .inr (0, 2)
  | 6 => .inr (0, 3)
  | 7 => .inl 0
  | _ => .inl 1
def ly_fX4 (i : Nat × Nat) (k : Nat) : Nat ⊕ (Nat × Nat) := match k with
  | 0 => .inr (i.1, 5)
  | _ => .inl 0
def ly_fX2 (i : Nat × Nat) (k : Nat) : Nat ⊕ (Nat × Nat) := match k with
  | 0 => .inr (i.1, 7)
  | 1 => .inr (i.1, 15)
  | 2 => .inr (i.1, 20)
  | 3 => .inr (i.1, 25)
  | _ => .inl 0
def ly_fX0 (i : Nat × Nat) (k : Nat) : Nat ⊕ (Nat × Nat) := match k with
  | 0 => .inl 0
  | 1 => .inl 0
  | 2 => .inl 0
  | 3 => .inr (i.1, 8)
  | 4 => .inr (i.1, 9)
  | 5 => .inr (i.1, 10)
  | 6 => .inr (i.1, 11)
  | 7 => .inr (i.1, 12)
  | 8 => .inr (i.1, 13)
  | _ => .inr (i.1, 14)
def ly_fX1 (i : Nat × Nat) (k : Nat) : Nat ⊕ (Nat × Nat) := match k with
  | 0 => .inl 0
  | 1 => .inr (i.1, 16)
  | 2 => .inr (i.1, 17)
  | 3 => .inr (i.1, 18)
  | _ => .inr (i.1, 19)
def ly_fX3 (i : Nat × Nat) (k : Nat) : Nat ⊕ (Nat × Nat) := match k with
  | 0 => .inr (i.1, 21)
  | 1 => .inr (i.1, 22)
  | 2 => .inr (i.1, 23)
  | 3 => .inr (i.1, 24)
  | _ => .inl 0
def ly_fX5 (i : Nat × Nat) (k : Nat) : Nat ⊕ (Nat × Nat) := match k with
  | 0 => .inr (i.1, 26)
  | 1 => .inr (i.1, 27)
  | 2 => .inr (i.1, 28)
  | _ => .inl 0
def ly_fX7 (i : Nat × Nat) (k : Nat) : Nat ⊕ (Nat × Nat) := match k with
  | 0 => .inl 0
  | 1 => .inl 0
  | 2 => .inl 0
  | 3 => .inl 0
  | 4 => .inl 0
  | 5 => .inr (i.1, 30)
  | 6 => .inr (i.1, 31)
  | 7 => .inr (i.1, 32)
  | 8 => .inr (i.1, 33)
  | 9 => .inr (i.1, 34)
  | 10 => .inr (i.1, 35)
  | 11 => .inr (i.1, 36)
  | 12 => .inr (i.1, 37)
  | 13 => .inr (i.1, 38)
  | 14 => .inr (i.1, 39)
  | 15 => .inr (i.1, 40)
  | 16 => .inr (i.1, 41)
  | 17 => .inr (i.1, 42)
  | 18 => .inl 0
  | 19 => .inr (i.1, 43)
  | 20 => .inr (i.1, 44)
  | 21 => .inr (i.1, 45)
  | 22 => .inr (i.1, 46)
  | 23 => .inr (i.1, 47)
  | 24 => .inl 0
  | 25 => .inr (i.1, 48)
  | 26 => .inl 0
  | 27 => .inl 0
  | 28 => .inl 1
  | 29 => .inl 0
  | 30 => .inr (i.1, 49)
  | 31 => .inr (i.1, 50)
  | 32 => .inr (i.1, 51)
  | 33 => .inr (i.1, 52)
  | 34 => .inr (i.1, 53)
  | 35 => .inl 1
  | 36 => .inl 0
  | 37 => .inl 1
  | 38 => .inl 2
  | 39 => .inr (i.1, 54)
  | 40 => .inr (i.1, 55)
  | 41 => .inr (i.1, 56)
  | _ => .inl 0
def ly_f (i : Nat × Nat) (k : Nat) : Nat ⊕ (Nat × Nat) := match i.2 with
  | 0 => ly_fX6 i k
  | 4 => ly_fX4 i k
  | 6 => ly_fX2 i k
  | 7 => ly_fX0 i k
  | 15 => ly_fX1 i k
  | 20 => ly_fX3 i k
  | 25 => ly_fX5 i k
  | _ => ly_fX7 i k
def nestL : List (String × Nat × MethodName × String) := [("DripsOnBelow", 11, ⟨"DripsOnBelow$House", "<init>", "()V"⟩, "DripsOnBelow"), ("DripsOnBelow$Front", 64, ⟨"DripsOnBelow", "set", "([III)V"⟩, "DripsOnBelow"), ("DripsOnBelow$House", 20, ⟨"DripsOnBelow$Habits", "<init>", "()V"⟩, "DripsOnBelow"), ("DripsOnBelow$House", 27, ⟨"DripsOnBelow$Ledger", "<init>", "()V"⟩, "DripsOnBelow"), ("DripsOnBelow$House", 34, ⟨"DripsOnBelow$Way", "<init>", "()V"⟩, "DripsOnBelow"), ("DripsOnBelow", 24, ⟨"DripsOnBelow$Letters", "<init>", "()V"⟩, "DripsOnBelow"), ("DripsOnBelow$Letters", 19, ⟨"DripsOnBelow", "set", "([III)V"⟩, "DripsOnBelow"), ("DripsOnBelow$Letters", 23, ⟨"DripsOnBelow", "get", "([II)I"⟩, "DripsOnBelow"), ("DripsOnBelow$Letters", 31, ⟨"DripsOnBelow", "within", "(III)Z"⟩, "DripsOnBelow"), ("DripsOnBelow$Letters", 87, ⟨"DripsOnBelow", "isHour", "(I)Z"⟩, "DripsOnBelow"), ("DripsOnBelow$Front", 56, ⟨"DripsOnBelow", "copy", "([I[I)V"⟩, "DripsOnBelow"), ("DripsOnBelow$Habits", 32, ⟨"DripsOnBelow", "copy", "([I[I)V"⟩, "DripsOnBelow"), ("DripsOnBelow$Ledger", 33, ⟨"DripsOnBelow", "copy", "([I[I)V"⟩, "DripsOnBelow"), ("DripsOnBelow$Habits", 28, ⟨"DripsOnBelow", "set", "([III)V"⟩, "DripsOnBelow"), ("DripsOnBelow$Front", 68, ⟨"DripsOnBelow", "get", "([II)I"⟩, "DripsOnBelow"), ("DripsOnBelow$Habits", 36, ⟨"DripsOnBelow", "get", "([II)I"⟩, "DripsOnBelow"), ("DripsOnBelow$House", 74, ⟨"DripsOnBelow", "get", "([II)I"⟩, "DripsOnBelow"), ("DripsOnBelow$Way", 30, ⟨"DripsOnBelow", "get", "([II)I"⟩, "DripsOnBelow"), ("DripsOnBelow$Way", 46, ⟨"DripsOnBelow", "set", "([III)V"⟩, "DripsOnBelow"), ("DripsOnBelow$Ledger", 41, ⟨"DripsOnBelow", "get", "([II)I"⟩, "DripsOnBelow"), ("DripsOnBelow$Ledger", 45, ⟨"DripsOnBelow", "set", "([III)V"⟩, "DripsOnBelow"), ("DripsOnBelow$House", 119, ⟨"DripsOnBelow", "set", "([III)V"⟩, "DripsOnBelow"), ("DripsOnBelow$Habits", 40, ⟨"DripsOnBelow", "within", "(III)Z"⟩, "DripsOnBelow")]
def strIdx : Nat → Nat := fun k => match k with
  | 0 => 64
  | 1 => 66
  | 2 => 68
  | 3 => 70
  | 4 => 72
  | 5 => 74
  | _ => 76
def strTx : Nat → String := fun k => match k with
  | 0 => "dd;"
  | 1 => "ddd;"
  | 2 => "dds;"
  | 3 => "dddh;"
  | 4 => "s;"
  | 5 => "do,ddd;"
  | _ => ""
def strLen : List Nat := [3, 4, 4, 5, 2, 7, 0]
def strByt : List (List Int32) := [[100, 100, 59], [100, 100, 100, 59], [100, 100, 115, 59], [100, 100, 100, 104, 59], [115, 59], [100, 111, 44, 100, 100, 100, 59], []]
/-! ===== the abstract machine: values, states (a cell's number and a slot: an int), worlds laid by a layout ===== -/
abbrev AV : Type := Int32 ⊕ (Int64 ⊕ (Nat × Nat))
abbrev Sg : Type := Nat × Nat → Nat → Int32
abbrev aI (x : Int32) : AV := .inl x
abbrev aL (x : Int64) : AV := .inr (.inl x)
abbrev aR (i : Nat × Nat) : AV := .inr (.inr i)
def tr (ad : Nat × Nat → Nat) : AV → Value
  | .inl x => .int x
  | .inr (.inl x) => .long x
  | .inr (.inr i) => .ref (ad i)
def acat : AV → Nat
  | .inl _ => 1
  | .inr (.inl _) => 2
  | .inr (.inr _) => 1
theorem tr_cat (ad : Nat × Nat → Nat) (v : AV) : (tr ad v).category = acat v := by
  rcases v with x | x | x <;> rfl
def upA (σ : Sg) (i : Nat × Nat) (f : Nat → Int32) : Sg := fun j => if j = i then f else σ j
def upS (σ : Sg) (i : Nat × Nat) (k : Nat) (v : Int32) : Sg := upA σ i (upd (σ i) k v)
theorem upA_same (σ : Sg) (i : Nat × Nat) (f : Nat → Int32) : upA σ i f i = f := if_pos rfl
theorem upA_ne (σ : Sg) {i j : Nat × Nat} (f : Nat → Int32) (h : j ≠ i) : upA σ i f j = σ j := if_neg h
/-- what a cell holds -/
def ly_dyn (z : Int32) : Option (Nat × Nat) := if z = 1 then some (0, ly_kept) else if z = 2 then some (0, ly_imaged) else none
def ly_v (ad : Nat × Nat → Nat) (σ : Sg) (i : Nat × Nat) (k : Nat) : Value := match ly_f i k with
  | .inl 2 => va_rf ((ly_dyn (σ i k)).map ad)
  | .inl _ => .int (σ i k)
  | .inr j => .ref (ad j)
def cont (cI : ClassId) (ad : Nat × Nat → Nat) (σ : Sg) (i : Nat × Nat) : va_E := match ly_len i.2 with
  | some n => .inl (cI, n, .inl (σ i))
  | none => .inr (ly_cls i.2, (List.range (ly_n i.2)).map (ly_v ad σ i))
def wOf (ids : List (Nat × Nat)) (cI : ClassId) (ad : Nat × Nat → Nat) (σ : Sg) : va_W := ids.map (fun i => (ad i, cont cI ad σ i))
theorem cont_congr {cI : ClassId} {ad : Nat × Nat → Nat} {σ σ' : Sg} {i : Nat × Nat} (h : σ' i = σ i) : cont cI ad σ' i = cont cI ad σ i := by
  have e : ly_v ad σ' i = ly_v ad σ i := by funext k; unfold ly_v; rw [h]
  unfold cont
  rw [h, e]
theorem w_at {ids : List (Nat × Nat)} (cI : ClassId) (ad : Nat × Nat → Nat) (σ : Sg) {i : Nat × Nat} (h : i ∈ ids) : ∃ k : Nat, ids[k]? = some i ∧ (wOf ids cI ad σ)[k]? = some (ad i, cont cI ad σ i) := by
  obtain ⟨k, hk⟩ := List.getElem?_of_mem h
  exact ⟨k, hk, by unfold wOf; rw [List.getElem?_map, hk]; rfl⟩
/-- no cell twice -/
def Ndp (ids : List (Nat × Nat)) : Prop := ∀ (a b : Nat) (i : Nat × Nat), ids[a]? = some i → ids[b]? = some i → a = b
def ndb : List (Nat × Nat) → Bool
  | [] => true
  | a :: l => decide (a ∉ l) && ndb l
theorem Ndp.of : ∀ (l : List (Nat × Nat)), ndb l = true → Ndp l
  | [], _, i, j, a, h, _ => by simp at h
  | b :: l, hn, i, j, a, h1, h2 => by
    simp only [ndb, Bool.and_eq_true, decide_eq_true_eq] at hn
    cases i with
    | zero =>
      cases j with
      | zero => rfl
      | succ j =>
        rw [List.getElem?_cons_zero] at h1
        rw [List.getElem?_cons_succ] at h2
        cases h1
        exact absurd (List.mem_of_getElem? h2) hn.1
    | succ i =>
      rw [List.getElem?_cons_succ] at h1
      cases j with
      | zero =>
        rw [List.getElem?_cons_zero] at h2
        cases h2
        exact absurd (List.mem_of_getElem? h1) hn.1
      | succ j =>
        rw [List.getElem?_cons_succ] at h2
        rw [Ndp.of l hn.2 i j a h1 h2]
theorem w_set {ids : List (Nat × Nat)} (hn : Ndp ids) (cI : ClassId) (ad : Nat × Nat → Nat) (σ : Sg) {i : Nat × Nat} (f : Nat → Int32) {k : Nat} (hk : ids[k]? = some i) : (wOf ids cI ad σ).set k (ad i, cont cI ad (upA σ i f) i) = wOf ids cI ad (upA σ i f) := by
  obtain ⟨hl, hki⟩ := List.getElem?_eq_some_iff.mp hk
  apply List.ext_getElem?
  intro n
  by_cases hnk : n = k
  · subst hnk
    rw [List.getElem?_set_self (by unfold wOf; rw [List.length_map]; exact hl)]
    unfold wOf
    rw [List.getElem?_map, hk]
    rfl
  · rw [List.getElem?_set_ne (Ne.symm hnk)]
    unfold wOf
    rw [List.getElem?_map, List.getElem?_map]
    cases hq : ids[n]? with
    | none => rfl
    | some j =>
      have hji : j ≠ i := by
        intro e
        subst e
        exact hnk (hn _ _ _ hq hk)
      show some (ad j, cont cI ad σ j) = some (ad j, cont cI ad (upA σ i f) j)
      rw [cont_congr (upA_ne σ f hji)]
def inA (ids : List (Nat × Nat)) (ad : Nat × Nat → Nat) : Nat → Prop := fun q => ∃ i ∈ ids, q = ad i
def inj (ids : List (Nat × Nat)) (ad : Nat × Nat → Nat) : Prop := ∀ i ∈ ids, ∀ j ∈ ids, ad i = ad j → i = j
theorem w_D {ids : List (Nat × Nat)} {ad : Nat × Nat → Nat} (hn : Ndp ids) (hj : inj ids ad) (cI : ClassId) (σ : Sg) : va_D (inA ids ad) (wOf ids cI ad σ) := by
  have key : ∀ (k : Nat) (q : Nat × va_E), (wOf ids cI ad σ)[k]? = some q → ∃ i, ids[k]? = some i ∧ q.1 = ad i := by
    intro k q hq
    unfold wOf at hq
    rw [List.getElem?_map] at hq
    cases hi : ids[k]? with
    | none => rw [hi] at hq; cases hq
    | some i => rw [hi] at hq; cases hq; exact ⟨i, rfl, rfl⟩
  refine ⟨fun a b p q ha hb e => ?_, fun k q hq => ?_⟩
  · obtain ⟨i, h1, h2⟩ := key a p ha
    obtain ⟨j, h3, h4⟩ := key b q hb
    have hij := hj i (List.mem_of_getElem? h1) j (List.mem_of_getElem? h3) (h2.symm.trans (e.trans h4))
    subst hij
    exact hn _ _ _ h1 h3
  · obtain ⟨i, h1, h2⟩ := key k q hq
    exact ⟨i, List.mem_of_getElem? h1, h2⟩
/-! locals by place -/
def toAL (ad : Nat × Nat → Nat) : Nat → List (Option AV) → List (Nat × Value)
  | _, [] => []
  | k, none :: t => toAL ad (k + 1) t
  | k, some v :: t => (k, tr ad v) :: toAL ad (k + 1) t
theorem toAL_get {ad : Nat × Nat → Nat} : ∀ (L : List (Option AV)) (b k : Nat) (v : AV), L[k]? = some (some v) → (b + k, tr ad v) ∈ toAL ad b L
  | [], _, _, _, h => by simp at h
  | x :: t, b, 0, v, h => by
    rw [List.getElem?_cons_zero] at h
    cases h
    exact List.mem_cons_self
  | x :: t, b, k + 1, v, h => by
    rw [List.getElem?_cons_succ] at h
    have h1 := toAL_get (ad := ad) t (b + 1) k v h
    rw [show b + 1 + k = b + (k + 1) by omega] at h1
    cases x with
    | none => exact h1
    | some w => exact List.mem_cons_of_mem _ h1
theorem toAL_mem {ad : Nat × Nat → Nat} : ∀ (L : List (Option AV)) (b : Nat) (q : Nat × Value), q ∈ toAL ad b L → ∃ k v, L[k]? = some (some v) ∧ q = (b + k, tr ad v)
  | [], _, _, h => by cases h
  | none :: t, b, q, h => by
    obtain ⟨k, v, h1, h2⟩ := toAL_mem t (b + 1) q h
    exact ⟨k + 1, v, by rw [List.getElem?_cons_succ]; exact h1, by rw [h2, show b + 1 + k = b + (k + 1) by omega]⟩
  | some w :: t, b, q, h => by
    rcases List.mem_cons.mp h with rfl | h
    · exact ⟨0, w, rfl, rfl⟩
    · obtain ⟨k, v, h1, h2⟩ := toAL_mem t (b + 1) q h
      exact ⟨k + 1, v, by rw [List.getElem?_cons_succ]; exact h1, by rw [h2, show b + 1 + k = b + (k + 1) by omega]⟩
/-- the value in place i is put; a long that lay across is not among those kept -/
def okS (i : Nat) (L : List (Option AV)) : Bool := match i with
  | 0 => true
  | j + 1 => match L[j]? with
    | some (some (.inr (.inl _))) => false
    | _ => true
theorem lv_setA {ad : Nat × Nat → Nat} {ls : Array Slot} {nL i : Nat} {v : AV} {L L' : List (Option AV)} (h : lv_has ls nL ((i, tr ad v) :: (toAL ad 0 L).filter (fun q => !(q.1 == i) && !(q.1 + 1 == i && q.2.category == 2)))) (hL : L.set i (some v) = L') (ho : okS i L = true) : lv_has ls nL (toAL ad 0 L') := by
  refine ⟨h.1, h.2.1, fun q hq => ?_⟩
  obtain ⟨k, w, h1, rfl⟩ := toAL_mem L' 0 q hq
  rw [Nat.zero_add]
  subst hL
  by_cases hk : k = i
  · subst hk
    have hl : k < L.length := by
      have := (List.getElem?_eq_some_iff.mp h1).1
      rwa [List.length_set] at this
    rw [List.getElem?_set_self hl] at h1
    cases h1
    exact h.2.2 (k, tr ad v) List.mem_cons_self
  · rw [List.getElem?_set_ne (Ne.symm hk)] at h1
    refine h.2.2 (k, tr ad w) (List.mem_cons_of_mem _ (List.mem_filter.mpr ⟨by have := toAL_get (ad := ad) L 0 k w h1; rwa [Nat.zero_add] at this, ?_⟩))
    simp only [Bool.and_eq_true, Bool.not_eq_true', beq_eq_false_iff_ne, ne_eq, Bool.and_eq_false_iff]
    refine ⟨hk, ?_⟩
    by_cases hki : k + 1 = i
    · right
      subst hki
      rw [tr_cat]
      rcases w with x | x | x
      · exact (by decide : ¬ (1 = 2))
      · have ho2 : (match L[k]? with | some (some (.inr (.inl _))) => false | _ => true) = true := ho
        rw [h1] at ho2
        cases ho2
      · exact (by decide : ¬ (1 = 2))
    · left; exact hki
theorem lv_atA {ad : Nat × Nat → Nat} {ls : Array Slot} {nL k : Nat} {v : AV} {L : List (Option AV)} (h : lv_has ls nL (toAL ad 0 L)) (hk : L[k]? = some (some v)) : ls[k]? = some (.val (tr ad v)) := by
  have h1 := h.2.2 _ (toAL_get (ad := ad) L 0 k v hk)
  rwa [Nat.zero_add] at h1
def leL : List (Option AV) → List (Option AV) → Prop
  | [], _ => True
  | none :: t, [] => leL t []
  | none :: t, _ :: t' => leL t t'
  | some _ :: _, [] => False
  | some v :: t, w :: t' => w = some v ∧ leL t t'
theorem leL_get : ∀ (L' L : List (Option AV)) (k : Nat) (v : AV), leL L' L → L'[k]? = some (some v) → L[k]? = some (some v)
  | [], _, _, _, _, h => by simp at h
  | none :: t, [], 0, v, _, h => by simp at h
  | none :: t, [], k + 1, v, hl, h => by
    rw [List.getElem?_cons_succ] at h
    have := leL_get t [] k v hl h
    simp at this
  | none :: t, x :: t', 0, v, _, h => by simp at h
  | none :: t, x :: t', k + 1, v, hl, h => by
    rw [List.getElem?_cons_succ] at h ⊢
    exact leL_get t t' k v hl h
  | some w :: t, [], _, _, hl, _ => hl.elim
  | some w :: t, x :: t', 0, v, hl, h => by
    rw [List.getElem?_cons_zero] at h ⊢
    cases h
    rw [hl.1]
  | some w :: t, x :: t', k + 1, v, hl, h => by
    rw [List.getElem?_cons_succ] at h ⊢
    exact leL_get t t' k v hl.2 h
theorem lv_leA {ad : Nat × Nat → Nat} {ls : Array Slot} {nL : Nat} {L L' : List (Option AV)} (h : lv_has ls nL (toAL ad 0 L)) (hL : leL L' L) : lv_has ls nL (toAL ad 0 L') := by
  refine ⟨h.1, h.2.1, fun q hq => ?_⟩
  obtain ⟨k, w, h1, rfl⟩ := toAL_mem L' 0 q hq
  exact h.2.2 _ (toAL_get (ad := ad) L 0 k w (leL_get L' L k w hL h1))
/-! what stays: the classes, the nest's links, the text constants -/
def StrOK (ids : List (Nat × Nat)) (ad : Nat × Nat → Nat) (U : State) : Prop := ∃ adV : Nat → Nat, vk_S 7 strLen strByt (fun k => ad (5, k)) adV (inA ids ad) U U.heap ∧ ∀ k : Nat, k < 7 → vk_R RX4 (strIdx k) (strTx k) (ad (5, k)) U
def St (ids : List (Nat × Nat)) (D : va_G) (cI : ClassId) (ad : Nat × Nat → Nat) (U : State) : Prop := va_K D vwCl [(cI, .int)] U ∧ (∀ q ∈ nestL, va_Nw (.methodLinkNest q.1 q.2.1 q.2.2.1 q.2.2.2) U) ∧ StrOK ids ad U ∧ inj ids ad
theorem St.go {ids : List (Nat × Nat)} {D : va_G} {cI : ClassId} {ad : Nat × Nat → Nat} {s U : State} {H : Heap} {locs : List Loc} (h : St ids D cI ad s) (hS : va_S (inA ids ad) s.heap H locs) (hU : U.heap = H) (hW : s.WarmedH U.vm) : St ids D cI ad U := by
  obtain ⟨h1, h2, ⟨adV, h3, h4⟩, h5⟩ := h
  refine ⟨va_K.moved hW.alike h1, fun q hq => va_Nw.warmM hW (h2 q hq), ⟨adV, ?_, fun k hk => vk_R.warm hW (h4 k hk)⟩, h5⟩
  rw [hU]
  exact vk_S.moved hW.alike (h3.kept hS.2.1)
theorem St.same {ids : List (Nat × Nat)} {D : va_G} {cI : ClassId} {ad : Nat × Nat → Nat} {u U : State} (h : St ids D cI ad u) (hh : U.heap = u.heap) (hv : u.vm = U.vm) : St ids D cI ad U := by
  obtain ⟨h1, h2, ⟨adV, h3, h4⟩, h5⟩ := h
  have ha : u.vm.Alike U.vm := by rw [hv]; exact Vm.Alike.refl U.vm
  refine ⟨va_K.moved ha h1, fun q hq => va_Nw.same rfl hv (h2 q hq), ⟨adV, ?_, fun k hk => vk_R.same hv.symm (h4 k hk)⟩, h5⟩
  rw [hh]
  exact vk_S.moved ha h3
/-! the judgement: from pc, locals, stack, state the method comes to an end that Φ holds of -/
abbrev MI : Type := ByteArray × Nat × String × Option FieldType × Nat × Nat
def Fx (M : MI) (ids : List (Nat × Nat)) (p : Program) (R : Room) (s : State) (m : MethodId) (args : Array Value) (c : Code) (cells slots : Nat) (D : va_G) (cI : ClassId) (ad : Nat × Nat → Nat) : Prop :=
  p.tables.exec = Jvm.exec ∧ c.code = M.1 ∧ c.maxLocals = M.2.1 ∧ s.vm.findClass M.2.2.1 = some m.cls ∧ (∀ w ∈ TT, w.before args s = true) ∧ (M.2.2.2.2.1 ≤ R.frames ∧ M.2.2.2.2.2 ≤ R.locals ∧ cells ≤ R.cells ∧ slots ≤ R.slots) ∧ St ids D cI ad s ∧ Ndp ids
def retD (M : MI) (pc : Nat) : Option AV → Prop
  | none => M.2.2.2.1 = none ∧ decode M.1 pc = .ok (.return_, 1)
  | some (.inl v) => decode M.1 pc = .ok (.ireturn, 1) ∧ ∃ ty, M.2.2.2.1 = some ty ∧ narrow ty (.int v) = .int v
  | some (.inr (.inl _)) => decode M.1 pc = .ok (.lreturn, 1) ∧ M.2.2.2.1 = some .long
  | some (.inr (.inr _)) => decode M.1 pc = .ok (.areturn, 1) ∧ ∃ n, M.2.2.2.1 = some (.object n)
def RetOK (M : MI) (ids : List (Nat × Nat)) (Φ : Option AV → Sg → Prop) (p : Program) (l : Launch) (e : Env) (R : Room) (s : State) (m : MethodId) (args : Array Value) (below : List Frame) (meth : Method) (c : Code) (cells slots : Nat) (Q : State → Prop) (D : va_G) (cI : ClassId) (ad : Nat × Nat → Nat) : Prop :=
  ∀ (r : Option AV) (σ : Sg) (pc : Nat) (H : Heap) (locs : List Loc) (ls : Array Slot), Φ r σ → retD M pc r → va_P D vwCl (wOf ids cI ad σ) H → va_S (inA ids ad) s.heap H locs → W p l e R s m args below meth c H locs cells slots Q (F0 m pc ls (r.toList.map (tr ad)))
def Aj (M : MI) (ids : List (Nat × Nat)) (Φ : Option AV → Sg → Prop) (pc : Nat) (L : List (Option AV)) (S : List AV) (σ : Sg) : Prop :=
  ∀ (p : Program) (l : Launch) (e : Env) (R : Room) (s : State) (m : MethodId) (args : Array Value) (below : List Frame) (meth : Method) (c : Code) (cells slots : Nat) (Q : State → Prop) (D : va_G) (cI : ClassId) (ad : Nat × Nat → Nat),
    Fx M ids p R s m args c cells slots D cI ad → RetOK M ids Φ p l e R s m args below meth c cells slots Q D cI ad →
    ∀ (H : Heap) (locs : List Loc) (ls : Array Slot), va_P D vwCl (wOf ids cI ad σ) H → va_S (inA ids ad) s.heap H locs → lv_has ls M.2.1 (toAL ad 0 L) →
    W p l e R s m args below meth c H locs cells slots Q (F0 m pc ls (S.map (tr ad)))
/-- one part of a run: from here it comes to there -/
def Tj (M : MI) (ids : List (Nat × Nat)) (pc : Nat) (L : List (Option AV)) (S : List AV) (σ : Sg) (pc' : Nat) (L' : List (Option AV)) (S' : List AV) (σ' : Sg) : Prop :=
  ∀ Φ : Option AV → Sg → Prop, Aj M ids Φ pc' L' S' σ' → Aj M ids Φ pc L S σ
/-- where the pure program o has an answer, the run ends with it -/
def Gj {β : Type} (K : β → Option AV × Sg) (M : MI) (ids : List (Nat × Nat)) (pc : Nat) (L : List (Option AV)) (S : List AV) (σ : Sg) (o : Option β) : Prop :=
  ∀ (Φ : Option AV → Sg → Prop) (x : β), o = some x → Φ (K x).1 (K x).2 → Aj M ids Φ pc L S σ
/-- what a method is owed: from arguments and state to answer and state -/
def rmM (M : MI) : Room := { frames := M.2.2.2.2.1, cells := 0, slots := 0, locals := M.2.2.2.2.2 }
def wsM (M : MI) (y : MethodName) : List Cond := .code y M.1 M.2.1 M.2.2.2.1 :: TT
def Mt0 (M : MI) (y : MethodName) (ids : List (Nat × Nat)) (as : List AV) (σ : Sg) (r : Option AV) (σ' : Sg) : Prop :=
  ∀ (l : Launch) (D : va_G) (cI : ClassId) (ad : Nat × Nat → Nat), Met l y (wsM M y) (rmM M) (va_Pc (as.map (tr ad)) (fun U => va_P D vwCl (wOf ids cI ad σ) U.heap ∧ St ids D cI ad U)) (fun _ st o t => o = .returned (r.map (tr ad)) ∧ va_P D vwCl (wOf ids cI ad σ') t.heap ∧ va_F (inA ids ad) st t) 0 0 (inA ids ad)
abbrev kI : Int32 × Sg → Option AV × Sg := fun q => (some (aI q.1), q.2)
abbrev kL : Int64 × Sg → Option AV × Sg := fun q => (some (aL q.1), q.2)
abbrev kV : Unit × Sg → Option AV × Sg := fun q => (none, q.2)
abbrev kR : (Nat × Nat) × Sg → Option AV × Sg := fun q => (some (aR q.1), q.2)
section GG
variable {β : Type} {K : β → Option AV × Sg} {M : MI} {ids : List (Nat × Nat)} {pc pc' pc'' : Nat} {L L' L'' : List (Option AV)} {S S' S'' : List AV} {σ σ' σ'' : Sg} {o o1 o2 : Option β}
theorem Tj.rf : Tj M ids pc L S σ pc L S σ := fun _ h => h
theorem Tj.tr (h : Tj M ids pc L S σ pc' L' S' σ') (k : Tj M ids pc' L' S' σ' pc'' L'' S'' σ'') : Tj M ids pc L S σ pc'' L'' S'' σ'' := fun Φ h1 => h Φ (k Φ h1)
theorem Tj.dia {c : Prop} {dc : Decidable c} {a b : Int32} (h1 : c → Tj M ids pc L S σ pc' L' (aI a :: S') σ') (h2 : ¬ c → Tj M ids pc L S σ pc' L' (aI b :: S') σ') : Tj M ids pc L S σ pc' L' (aI (@ite _ c dc a b) :: S') σ' := by
  by_cases h : c
  · rw [if_pos h]; exact h1 h
  · rw [if_neg h]; exact h2 h
theorem G_st (h : Tj M ids pc L S σ pc' L' S' σ') (k : Gj K M ids pc' L' S' σ' o) : Gj K M ids pc L S σ o := fun Φ x h1 h2 => h Φ (k Φ x h1 h2)
theorem G_ite {c : Prop} {dc : Decidable c} (h1 : c → Gj K M ids pc L S σ o1) (h2 : ¬ c → Gj K M ids pc L S σ o2) : Gj K M ids pc L S σ (@ite _ c dc o1 o2) := by
  by_cases h : c
  · rw [if_pos h]; exact h1 h
  · rw [if_neg h]; exact h2 h
end GG
theorem cat_map (ad : Nat × Nat → Nat) (S : List AV) : ((S.map (tr ad)).map fun v => v.category) = S.map acat := by
  rw [List.map_map]
  exact List.map_congr_left (fun v _ => tr_cat ad v)
section TT1
variable {M : MI} {ids : List (Nat × Nat)} {pc : Nat} {L : List (Option AV)} {S : List AV} {σ : Sg}
theorem x_iconst {n : Int} (v : Int32) (hd : decode M.1 pc = .ok (.iconst n, 1)) (hv : Int32.ofInt n = v) : Tj M ids pc L S σ (pc + 1) L (aI v :: S) σ := by
  intro Φ hA p l e R s m args below meth c cells slots Q D cI ad hF hR H locs ls hP hS hl
  obtain ⟨hx, hb, hml, hown, hts, hroom, hSt, hn⟩ := id hF
  exact lv_iconst hx hb hd hv (hA p l e R s m args below meth c cells slots Q D cI ad hF hR H locs ls hP hS hl)

theorem x_bipush {n : Int} (v : Int32) (hd : decode M.1 pc = .ok (.bipush n, 2)) (hv : (Int8.ofInt n).toInt32 = v) : Tj M ids pc L S σ (pc + 2) L (aI v :: S) σ := by
  intro Φ hA p l e R s m args below meth c cells slots Q D cI ad hF hR H locs ls hP hS hl
  obtain ⟨hx, hb, hml, hown, hts, hroom, hSt, hn⟩ := id hF
  exact lv_bipush hx hb hd hv (hA p l e R s m args below meth c cells slots Q D cI ad hF hR H locs ls hP hS hl)

theorem x_sipush {n : Int} (v : Int32) (hd : decode M.1 pc = .ok (.sipush n, 3)) (hv : (Int16.ofInt n).toInt32 = v) : Tj M ids pc L S σ (pc + 3) L (aI v :: S) σ := by
  intro Φ hA p l e R s m args below meth c cells slots Q D cI ad hF hR H locs ls hP hS hl
  obtain ⟨hx, hb, hml, hown, hts, hroom, hSt, hn⟩ := id hF
  exact lv_sipush hx hb hd hv (hA p l e R s m args below meth c cells slots Q D cI ad hF hR H locs ls hP hS hl)

theorem x_lconst {n : Fin 2} (v : Int64) (hd : decode M.1 pc = .ok (.lconst n, 1)) (hv : Int64.ofNat (n : Nat) = v) : Tj M ids pc L S σ (pc + 1) L (aL v :: S) σ := by
  intro Φ hA p l e R s m args below meth c cells slots Q D cI ad hF hR H locs ls hP hS hl
  obtain ⟨hx, hb, hml, hown, hts, hroom, hSt, hn⟩ := id hF
  exact lv_lconst hx hb hd hv (hA p l e R s m args below meth c cells slots Q D cI ad hF hR H locs ls hP hS hl)

theorem x_ldc {n : Nat} {v : Int32} (hd : decode M.1 pc = .ok (.ldc n, 2)) (hw : Cond.constant M.2.2.1 n v ∈ TT) : Tj M ids pc L S σ (pc + 2) L (aI v :: S) σ := by
  intro Φ hA p l e R s m args below meth c cells slots Q D cI ad hF hR H locs ls hP hS hl
  obtain ⟨hx, hb, hml, hown, hts, hroom, hSt, hn⟩ := id hF
  exact lv_ldc hx hb hown (hts _ hw) hd (hA p l e R s m args below meth c cells slots Q D cI ad hF hR H locs ls hP hS hl)

theorem x_ldcw {n : Nat} {v : Int32} (hd : decode M.1 pc = .ok (.ldc_w n, 3)) (hw : Cond.constant M.2.2.1 n v ∈ TT) : Tj M ids pc L S σ (pc + 3) L (aI v :: S) σ := by
  intro Φ hA p l e R s m args below meth c cells slots Q D cI ad hF hR H locs ls hP hS hl
  obtain ⟨hx, hb, hml, hown, hts, hroom, hSt, hn⟩ := id hF
  exact lv_ldcw hx hb hown (hts _ hw) hd (hA p l e R s m args below meth c cells slots Q D cI ad hF hR H locs ls hP hS hl)

theorem x_ldc2 {n : Nat} {v : Int64} (hd : decode M.1 pc = .ok (.ldc2_w n, 3)) (hw : Cond.constantLong M.2.2.1 n v ∈ TT) : Tj M ids pc L S σ (pc + 3) L (aL v :: S) σ := by
  intro Φ hA p l e R s m args below meth c cells slots Q D cI ad hF hR H locs ls hP hS hl
  obtain ⟨hx, hb, hml, hown, hts, hroom, hSt, hn⟩ := id hF
  exact lv_ldc2 hx hb hown (hts _ hw) hd (hA p l e R s m args below meth c cells slots Q D cI ad hF hR H locs ls hP hS hl)

theorem x_iload_n {k : Fin 4} {x : Int32} (hd : decode M.1 pc = .ok (.iload_n k, 1)) (hk : L[(k : Nat)]? = some (some (aI x))) : Tj M ids pc L S σ (pc + 1) L (aI x :: S) σ := by
  intro Φ hA p l e R s m args below meth c cells slots Q D cI ad hF hR H locs ls hP hS hl
  obtain ⟨hx, hb, hml, hown, hts, hroom, hSt, hn⟩ := id hF
  exact lv_iload_n hx hb hd rfl (lv_atA hl hk) (hA p l e R s m args below meth c cells slots Q D cI ad hF hR H locs ls hP hS hl)

theorem x_iload {k : Nat} {x : Int32} (hd : decode M.1 pc = .ok (.iload k, 2)) (hk : L[k]? = some (some (aI x))) : Tj M ids pc L S σ (pc + 2) L (aI x :: S) σ := by
  intro Φ hA p l e R s m args below meth c cells slots Q D cI ad hF hR H locs ls hP hS hl
  obtain ⟨hx, hb, hml, hown, hts, hroom, hSt, hn⟩ := id hF
  exact lv_iload hx hb hd (lv_atA hl hk) (hA p l e R s m args below meth c cells slots Q D cI ad hF hR H locs ls hP hS hl)

theorem x_lload_n {k : Fin 4} {x : Int64} (hd : decode M.1 pc = .ok (.lload_n k, 1)) (hk : L[(k : Nat)]? = some (some (aL x))) : Tj M ids pc L S σ (pc + 1) L (aL x :: S) σ := by
  intro Φ hA p l e R s m args below meth c cells slots Q D cI ad hF hR H locs ls hP hS hl
  obtain ⟨hx, hb, hml, hown, hts, hroom, hSt, hn⟩ := id hF
  exact lv_lload_n hx hb hd rfl (lv_atA hl hk) (hA p l e R s m args below meth c cells slots Q D cI ad hF hR H locs ls hP hS hl)

theorem x_lload {k : Nat} {x : Int64} (hd : decode M.1 pc = .ok (.lload k, 2)) (hk : L[k]? = some (some (aL x))) : Tj M ids pc L S σ (pc + 2) L (aL x :: S) σ := by
  intro Φ hA p l e R s m args below meth c cells slots Q D cI ad hF hR H locs ls hP hS hl
  obtain ⟨hx, hb, hml, hown, hts, hroom, hSt, hn⟩ := id hF
  exact lv_lload hx hb hd (lv_atA hl hk) (hA p l e R s m args below meth c cells slots Q D cI ad hF hR H locs ls hP hS hl)

theorem x_aload_n {k : Fin 4} {x : Nat × Nat} (hd : decode M.1 pc = .ok (.aload_n k, 1)) (hk : L[(k : Nat)]? = some (some (aR x))) : Tj M ids pc L S σ (pc + 1) L (aR x :: S) σ := by
  intro Φ hA p l e R s m args below meth c cells slots Q D cI ad hF hR H locs ls hP hS hl
  obtain ⟨hx, hb, hml, hown, hts, hroom, hSt, hn⟩ := id hF
  exact lv_aload_n hx hb hd rfl (lv_atA hl hk) (hA p l e R s m args below meth c cells slots Q D cI ad hF hR H locs ls hP hS hl)

theorem x_aload {k : Nat} {x : Nat × Nat} (hd : decode M.1 pc = .ok (.aload k, 2)) (hk : L[k]? = some (some (aR x))) : Tj M ids pc L S σ (pc + 2) L (aR x :: S) σ := by
  intro Φ hA p l e R s m args below meth c cells slots Q D cI ad hF hR H locs ls hP hS hl
  obtain ⟨hx, hb, hml, hown, hts, hroom, hSt, hn⟩ := id hF
  exact lv_aload hx hb hd (lv_atA hl hk) (hA p l e R s m args below meth c cells slots Q D cI ad hF hR H locs ls hP hS hl)

theorem x_istore_n {k : Fin 4} {x : Int32} (L' : List (Option AV)) (hd : decode M.1 pc = .ok (.istore_n k, 1)) (hk : (k : Nat) < M.2.1) (hL : L.set (k : Nat) (some (aI x)) = L') (ho : okS (k : Nat) L = true) : Tj M ids pc L (aI x :: S) σ (pc + 1) L' S σ := by
  intro Φ hA p l e R s m args below meth c cells slots Q D cI ad hF hR H locs ls hP hS hl
  obtain ⟨hx, hb, hml, hown, hts, hroom, hSt, hn⟩ := id hF
  exact lv_istore_n hx hb hd rfl hl hk rfl (fun ls' hl' => hA p l e R s m args below meth c cells slots Q D cI ad hF hR H locs ls' hP hS (lv_setA (v := aI x) hl' hL ho))

theorem x_istore {k : Nat} {x : Int32} (L' : List (Option AV)) (hd : decode M.1 pc = .ok (.istore k, 2)) (hk : k < M.2.1) (hL : L.set k (some (aI x)) = L') (ho : okS k L = true) : Tj M ids pc L (aI x :: S) σ (pc + 2) L' S σ := by
  intro Φ hA p l e R s m args below meth c cells slots Q D cI ad hF hR H locs ls hP hS hl
  obtain ⟨hx, hb, hml, hown, hts, hroom, hSt, hn⟩ := id hF
  exact lv_istore hx hb hd hl hk rfl (fun ls' hl' => hA p l e R s m args below meth c cells slots Q D cI ad hF hR H locs ls' hP hS (lv_setA (v := aI x) hl' hL ho))

theorem x_astore_n {k : Fin 4} {x : Nat × Nat} (L' : List (Option AV)) (hd : decode M.1 pc = .ok (.astore_n k, 1)) (hk : (k : Nat) < M.2.1) (hL : L.set (k : Nat) (some (aR x)) = L') (ho : okS (k : Nat) L = true) : Tj M ids pc L (aR x :: S) σ (pc + 1) L' S σ := by
  intro Φ hA p l e R s m args below meth c cells slots Q D cI ad hF hR H locs ls hP hS hl
  obtain ⟨hx, hb, hml, hown, hts, hroom, hSt, hn⟩ := id hF
  exact lv_astore_n hx hb hd rfl hl hk rfl (fun ls' hl' => hA p l e R s m args below meth c cells slots Q D cI ad hF hR H locs ls' hP hS (lv_setA (v := aR x) hl' hL ho))

theorem x_astore {k : Nat} {x : Nat × Nat} (L' : List (Option AV)) (hd : decode M.1 pc = .ok (.astore k, 2)) (hk : k < M.2.1) (hL : L.set k (some (aR x)) = L') (ho : okS k L = true) : Tj M ids pc L (aR x :: S) σ (pc + 2) L' S σ := by
  intro Φ hA p l e R s m args below meth c cells slots Q D cI ad hF hR H locs ls hP hS hl
  obtain ⟨hx, hb, hml, hown, hts, hroom, hSt, hn⟩ := id hF
  exact lv_astore hx hb hd hl hk rfl (fun ls' hl' => hA p l e R s m args below meth c cells slots Q D cI ad hF hR H locs ls' hP hS (lv_setA (v := aR x) hl' hL ho))

theorem x_iinc {k : Nat} {n : Int} {x : Int32} (v : Int32) (L' : List (Option AV)) (hd : decode M.1 pc = .ok (.iinc k n, 3)) (hk : k < M.2.1) (hx0 : L[k]? = some (some (aI x))) (hv : x + Int32.ofInt n = v) (hL : L.set k (some (aI v)) = L') (ho : okS k L = true) : Tj M ids pc L S σ (pc + 3) L' S σ := by
  intro Φ hA p l e R s m args below meth c cells slots Q D cI ad hF hR H locs ls hP hS hl
  obtain ⟨hx, hb, hml, hown, hts, hroom, hSt, hn⟩ := id hF
  have h1 : (k, tr ad (aI x)) ∈ toAL ad 0 L := by have := toAL_get (ad := ad) L 0 k _ hx0; rwa [Nat.zero_add] at this
  obtain ⟨j, hj⟩ := List.getElem?_of_mem h1
  exact lv_iinc hx hb hd hl hj hv hk rfl (fun ls' hl' => hA p l e R s m args below meth c cells slots Q D cI ad hF hR H locs ls' hP hS (lv_setA (v := aI v) hl' hL ho))

theorem x_iadd {x y : Int32} (hd : decode M.1 pc = .ok (.iadd, 1)) : Tj M ids pc L (aI y :: aI x :: S) σ (pc + 1) L (aI (x + y) :: S) σ := by
  intro Φ hA p l e R s m args below meth c cells slots Q D cI ad hF hR H locs ls hP hS hl
  obtain ⟨hx, hb, hml, hown, hts, hroom, hSt, hn⟩ := id hF
  exact lv_iadd hx hb hd (hA p l e R s m args below meth c cells slots Q D cI ad hF hR H locs ls hP hS hl)

theorem x_isub {x y : Int32} (hd : decode M.1 pc = .ok (.isub, 1)) : Tj M ids pc L (aI y :: aI x :: S) σ (pc + 1) L (aI (x - y) :: S) σ := by
  intro Φ hA p l e R s m args below meth c cells slots Q D cI ad hF hR H locs ls hP hS hl
  obtain ⟨hx, hb, hml, hown, hts, hroom, hSt, hn⟩ := id hF
  exact lv_isub hx hb hd (hA p l e R s m args below meth c cells slots Q D cI ad hF hR H locs ls hP hS hl)

theorem x_imul {x y : Int32} (hd : decode M.1 pc = .ok (.imul, 1)) : Tj M ids pc L (aI y :: aI x :: S) σ (pc + 1) L (aI (x * y) :: S) σ := by
  intro Φ hA p l e R s m args below meth c cells slots Q D cI ad hF hR H locs ls hP hS hl
  obtain ⟨hx, hb, hml, hown, hts, hroom, hSt, hn⟩ := id hF
  exact lv_imul hx hb hd (hA p l e R s m args below meth c cells slots Q D cI ad hF hR H locs ls hP hS hl)

theorem x_iand {x y : Int32} (hd : decode M.1 pc = .ok (.iand, 1)) : Tj M ids pc L (aI y :: aI x :: S) σ (pc + 1) L (aI (x &&& y) :: S) σ := by
  intro Φ hA p l e R s m args below meth c cells slots Q D cI ad hF hR H locs ls hP hS hl
  obtain ⟨hx, hb, hml, hown, hts, hroom, hSt, hn⟩ := id hF
  exact lv_iand hx hb hd (hA p l e R s m args below meth c cells slots Q D cI ad hF hR H locs ls hP hS hl)

theorem x_ior {x y : Int32} (hd : decode M.1 pc = .ok (.ior, 1)) : Tj M ids pc L (aI y :: aI x :: S) σ (pc + 1) L (aI (x ||| y) :: S) σ := by
  intro Φ hA p l e R s m args below meth c cells slots Q D cI ad hF hR H locs ls hP hS hl
  obtain ⟨hx, hb, hml, hown, hts, hroom, hSt, hn⟩ := id hF
  exact lv_ior hx hb hd (hA p l e R s m args below meth c cells slots Q D cI ad hF hR H locs ls hP hS hl)

theorem x_ishl {x y : Int32} (hd : decode M.1 pc = .ok (.ishl, 1)) : Tj M ids pc L (aI y :: aI x :: S) σ (pc + 1) L (aI (x <<< (y &&& 31)) :: S) σ := by
  intro Φ hA p l e R s m args below meth c cells slots Q D cI ad hF hR H locs ls hP hS hl
  obtain ⟨hx, hb, hml, hown, hts, hroom, hSt, hn⟩ := id hF
  exact lv_ishl hx hb hd (hA p l e R s m args below meth c cells slots Q D cI ad hF hR H locs ls hP hS hl)

theorem x_ishr {x y : Int32} (hd : decode M.1 pc = .ok (.ishr, 1)) : Tj M ids pc L (aI y :: aI x :: S) σ (pc + 1) L (aI (x >>> (y &&& 31)) :: S) σ := by
  intro Φ hA p l e R s m args below meth c cells slots Q D cI ad hF hR H locs ls hP hS hl
  obtain ⟨hx, hb, hml, hown, hts, hroom, hSt, hn⟩ := id hF
  exact lv_ishr hx hb hd (hA p l e R s m args below meth c cells slots Q D cI ad hF hR H locs ls hP hS hl)

theorem x_idiv {x y : Int32} (hd : decode M.1 pc = .ok (.idiv, 1)) (h0 : ¬ y = 0) : Tj M ids pc L (aI y :: aI x :: S) σ (pc + 1) L (aI (x / y) :: S) σ := by
  intro Φ hA p l e R s m args below meth c cells slots Q D cI ad hF hR H locs ls hP hS hl
  obtain ⟨hx, hb, hml, hown, hts, hroom, hSt, hn⟩ := id hF
  exact lv_idiv hx hb hd h0 (hA p l e R s m args below meth c cells slots Q D cI ad hF hR H locs ls hP hS hl)

theorem x_irem {x y : Int32} (hd : decode M.1 pc = .ok (.irem, 1)) (h0 : ¬ y = 0) : Tj M ids pc L (aI y :: aI x :: S) σ (pc + 1) L (aI (x - x / y * y) :: S) σ := by
  intro Φ hA p l e R s m args below meth c cells slots Q D cI ad hF hR H locs ls hP hS hl
  obtain ⟨hx, hb, hml, hown, hts, hroom, hSt, hn⟩ := id hF
  exact lv_irem hx hb hd h0 (hA p l e R s m args below meth c cells slots Q D cI ad hF hR H locs ls hP hS hl)

theorem x_ineg {x : Int32} (hd : decode M.1 pc = .ok (.ineg, 1)) : Tj M ids pc L (aI x :: S) σ (pc + 1) L (aI (-x) :: S) σ := by
  intro Φ hA p l e R s m args below meth c cells slots Q D cI ad hF hR H locs ls hP hS hl
  obtain ⟨hx, hb, hml, hown, hts, hroom, hSt, hn⟩ := id hF
  exact lv_ineg hx hb hd (hA p l e R s m args below meth c cells slots Q D cI ad hF hR H locs ls hP hS hl)

theorem x_i2l {x : Int32} (hd : decode M.1 pc = .ok (.i2l, 1)) : Tj M ids pc L (aI x :: S) σ (pc + 1) L (aL x.toInt64 :: S) σ := by
  intro Φ hA p l e R s m args below meth c cells slots Q D cI ad hF hR H locs ls hP hS hl
  obtain ⟨hx, hb, hml, hown, hts, hroom, hSt, hn⟩ := id hF
  exact lv_i2l hx hb hd rfl (hA p l e R s m args below meth c cells slots Q D cI ad hF hR H locs ls hP hS hl)

theorem x_lsub {x y : Int64} (hd : decode M.1 pc = .ok (.lsub, 1)) : Tj M ids pc L (aL y :: aL x :: S) σ (pc + 1) L (aL (x - y) :: S) σ := by
  intro Φ hA p l e R s m args below meth c cells slots Q D cI ad hF hR H locs ls hP hS hl
  obtain ⟨hx, hb, hml, hown, hts, hroom, hSt, hn⟩ := id hF
  exact lv_lsub hx hb hd (hA p l e R s m args below meth c cells slots Q D cI ad hF hR H locs ls hP hS hl)

theorem x_lcmp {x y : Int64} (hd : decode M.1 pc = .ok (.lcmp, 1)) : Tj M ids pc L (aL y :: aL x :: S) σ (pc + 1) L (aI (lg_cmp x y) :: S) σ := by
  intro Φ hA p l e R s m args below meth c cells slots Q D cI ad hF hR H locs ls hP hS hl
  obtain ⟨hx, hb, hml, hown, hts, hroom, hSt, hn⟩ := id hF
  exact W.lcmp hx hb hd (hA p l e R s m args below meth c cells slots Q D cI ad hF hR H locs ls hP hS hl)

theorem x_dup {v : AV} (hd : decode M.1 pc = .ok (.dup, 1)) (hv : acat v = 1) : Tj M ids pc L (v :: S) σ (pc + 1) L (v :: v :: S) σ := by
  intro Φ hA p l e R s m args below meth c cells slots Q D cI ad hF hR H locs ls hP hS hl
  obtain ⟨hx, hb, hml, hown, hts, hroom, hSt, hn⟩ := id hF
  exact lv_dup hx hb hd ((tr_cat ad v).trans hv) (hA p l e R s m args below meth c cells slots Q D cI ad hF hR H locs ls hP hS hl)

theorem x_pop {v : AV} (hd : decode M.1 pc = .ok (.pop, 1)) (hv : acat v = 1) : Tj M ids pc L (v :: S) σ (pc + 1) L S σ := by
  intro Φ hA p l e R s m args below meth c cells slots Q D cI ad hF hR H locs ls hP hS hl
  obtain ⟨hx, hb, hml, hown, hts, hroom, hSt, hn⟩ := id hF
  exact lv_pop hx hb hd ((tr_cat ad v).trans hv) (hA p l e R s m args below meth c cells slots Q D cI ad hF hR H locs ls hP hS hl)

theorem x_dup2 {v w : AV} (hd : decode M.1 pc = .ok (.dup2, 1)) (hv : acat v = 1) (hw : acat w = 1) : Tj M ids pc L (v :: w :: S) σ (pc + 1) L (v :: w :: v :: w :: S) σ := by
  intro Φ hA p l e R s m args below meth c cells slots Q D cI ad hF hR H locs ls hP hS hl
  obtain ⟨hx, hb, hml, hown, hts, hroom, hSt, hn⟩ := id hF
  exact lv_dup2_11 hx hb hd ((tr_cat ad v).trans hv) ((tr_cat ad w).trans hw) (hA p l e R s m args below meth c cells slots Q D cI ad hF hR H locs ls hP hS hl)

theorem x_goto {off : Int} {tgt : Nat} (hd : decode M.1 pc = .ok (.goto off, 3)) (ht : (pc : Int) + off = (tgt : Int)) : Tj M ids pc L S σ tgt L S σ := by
  intro Φ hA p l e R s m args below meth c cells slots Q D cI ad hF hR H locs ls hP hS hl
  obtain ⟨hx, hb, hml, hown, hts, hroom, hSt, hn⟩ := id hF
  exact lv_goto hx hb hd ht (hA p l e R s m args below meth c cells slots Q D cI ad hF hR H locs ls hP hS hl)

theorem x_if_eq_t {off : Int} {tgt : Nat} {x : Int32} (hd : decode M.1 pc = .ok (.ifCond .eq off, 3)) (ht : (pc : Int) + off = (tgt : Int)) (hc : x = 0) : Tj M ids pc L (aI x :: S) σ tgt L S σ := by
  intro Φ hA p l e R s m args below meth c cells slots Q D cI ad hF hR H locs ls hP hS hl
  obtain ⟨hx, hb, hml, hown, hts, hroom, hSt, hn⟩ := id hF
  exact lv_if_eq hx hb hd ht (fun _ => (hA p l e R s m args below meth c cells slots Q D cI ad hF hR H locs ls hP hS hl)) (fun h => absurd hc h)

theorem x_if_eq_f {off : Int} (tgt : Nat) {x : Int32} (hd : decode M.1 pc = .ok (.ifCond .eq off, 3)) (ht : (pc : Int) + off = (tgt : Int)) (hc : ¬ x = 0) : Tj M ids pc L (aI x :: S) σ (pc + 3) L S σ := by
  intro Φ hA p l e R s m args below meth c cells slots Q D cI ad hF hR H locs ls hP hS hl
  obtain ⟨hx, hb, hml, hown, hts, hroom, hSt, hn⟩ := id hF
  exact lv_if_eq hx hb hd ht (fun h => absurd h hc) (fun _ => (hA p l e R s m args below meth c cells slots Q D cI ad hF hR H locs ls hP hS hl))

theorem x_icmp_eq_t {off : Int} {tgt : Nat} {x y : Int32} (hd : decode M.1 pc = .ok (.if_icmp .eq off, 3)) (ht : (pc : Int) + off = (tgt : Int)) (hc : x = y) : Tj M ids pc L (aI y :: aI x :: S) σ tgt L S σ := by
  intro Φ hA p l e R s m args below meth c cells slots Q D cI ad hF hR H locs ls hP hS hl
  obtain ⟨hx, hb, hml, hown, hts, hroom, hSt, hn⟩ := id hF
  exact lv_icmp_eq hx hb hd ht (fun _ => (hA p l e R s m args below meth c cells slots Q D cI ad hF hR H locs ls hP hS hl)) (fun h => absurd hc h)

theorem x_icmp_eq_f {off : Int} (tgt : Nat) {x y : Int32} (hd : decode M.1 pc = .ok (.if_icmp .eq off, 3)) (ht : (pc : Int) + off = (tgt : Int)) (hc : ¬ x = y) : Tj M ids pc L (aI y :: aI x :: S) σ (pc + 3) L S σ := by
  intro Φ hA p l e R s m args below meth c cells slots Q D cI ad hF hR H locs ls hP hS hl
  obtain ⟨hx, hb, hml, hown, hts, hroom, hSt, hn⟩ := id hF
  exact lv_icmp_eq hx hb hd ht (fun h => absurd h hc) (fun _ => (hA p l e R s m args below meth c cells slots Q D cI ad hF hR H locs ls hP hS hl))

theorem x_if_ne_t {off : Int} {tgt : Nat} {x : Int32} (hd : decode M.1 pc = .ok (.ifCond .ne off, 3)) (ht : (pc : Int) + off = (tgt : Int)) (hc : ¬ x = 0) : Tj M ids pc L (aI x :: S) σ tgt L S σ := by
  intro Φ hA p l e R s m args below meth c cells slots Q D cI ad hF hR H locs ls hP hS hl
  obtain ⟨hx, hb, hml, hown, hts, hroom, hSt, hn⟩ := id hF
  exact lv_if_ne hx hb hd ht (fun _ => (hA p l e R s m args below meth c cells slots Q D cI ad hF hR H locs ls hP hS hl)) (fun h => absurd h hc)

theorem x_if_ne_f {off : Int} (tgt : Nat) {x : Int32} (hd : decode M.1 pc = .ok (.ifCond .ne off, 3)) (ht : (pc : Int) + off = (tgt : Int)) (hc : x = 0) : Tj M ids pc L (aI x :: S) σ (pc + 3) L S σ := by
  intro Φ hA p l e R s m args below meth c cells slots Q D cI ad hF hR H locs ls hP hS hl
  obtain ⟨hx, hb, hml, hown, hts, hroom, hSt, hn⟩ := id hF
  exact lv_if_ne hx hb hd ht (fun h => absurd hc h) (fun _ => (hA p l e R s m args below meth c cells slots Q D cI ad hF hR H locs ls hP hS hl))

theorem x_icmp_ne_t {off : Int} {tgt : Nat} {x y : Int32} (hd : decode M.1 pc = .ok (.if_icmp .ne off, 3)) (ht : (pc : Int) + off = (tgt : Int)) (hc : ¬ x = y) : Tj M ids pc L (aI y :: aI x :: S) σ tgt L S σ := by
  intro Φ hA p l e R s m args below meth c cells slots Q D cI ad hF hR H locs ls hP hS hl
  obtain ⟨hx, hb, hml, hown, hts, hroom, hSt, hn⟩ := id hF
  exact lv_icmp_ne hx hb hd ht (fun _ => (hA p l e R s m args below meth c cells slots Q D cI ad hF hR H locs ls hP hS hl)) (fun h => absurd h hc)

theorem x_icmp_ne_f {off : Int} (tgt : Nat) {x y : Int32} (hd : decode M.1 pc = .ok (.if_icmp .ne off, 3)) (ht : (pc : Int) + off = (tgt : Int)) (hc : x = y) : Tj M ids pc L (aI y :: aI x :: S) σ (pc + 3) L S σ := by
  intro Φ hA p l e R s m args below meth c cells slots Q D cI ad hF hR H locs ls hP hS hl
  obtain ⟨hx, hb, hml, hown, hts, hroom, hSt, hn⟩ := id hF
  exact lv_icmp_ne hx hb hd ht (fun h => absurd hc h) (fun _ => (hA p l e R s m args below meth c cells slots Q D cI ad hF hR H locs ls hP hS hl))

theorem x_if_lt_t {off : Int} {tgt : Nat} {x : Int32} (hd : decode M.1 pc = .ok (.ifCond .lt off, 3)) (ht : (pc : Int) + off = (tgt : Int)) (hc : x < 0) : Tj M ids pc L (aI x :: S) σ tgt L S σ := by
  intro Φ hA p l e R s m args below meth c cells slots Q D cI ad hF hR H locs ls hP hS hl
  obtain ⟨hx, hb, hml, hown, hts, hroom, hSt, hn⟩ := id hF
  exact lv_if_lt hx hb hd ht (fun _ => (hA p l e R s m args below meth c cells slots Q D cI ad hF hR H locs ls hP hS hl)) (fun h => absurd hc h)

theorem x_if_lt_f {off : Int} (tgt : Nat) {x : Int32} (hd : decode M.1 pc = .ok (.ifCond .lt off, 3)) (ht : (pc : Int) + off = (tgt : Int)) (hc : ¬ x < 0) : Tj M ids pc L (aI x :: S) σ (pc + 3) L S σ := by
  intro Φ hA p l e R s m args below meth c cells slots Q D cI ad hF hR H locs ls hP hS hl
  obtain ⟨hx, hb, hml, hown, hts, hroom, hSt, hn⟩ := id hF
  exact lv_if_lt hx hb hd ht (fun h => absurd h hc) (fun _ => (hA p l e R s m args below meth c cells slots Q D cI ad hF hR H locs ls hP hS hl))

theorem x_icmp_lt_t {off : Int} {tgt : Nat} {x y : Int32} (hd : decode M.1 pc = .ok (.if_icmp .lt off, 3)) (ht : (pc : Int) + off = (tgt : Int)) (hc : x < y) : Tj M ids pc L (aI y :: aI x :: S) σ tgt L S σ := by
  intro Φ hA p l e R s m args below meth c cells slots Q D cI ad hF hR H locs ls hP hS hl
  obtain ⟨hx, hb, hml, hown, hts, hroom, hSt, hn⟩ := id hF
  exact lv_icmp_lt hx hb hd ht (fun _ => (hA p l e R s m args below meth c cells slots Q D cI ad hF hR H locs ls hP hS hl)) (fun h => absurd hc h)

theorem x_icmp_lt_f {off : Int} (tgt : Nat) {x y : Int32} (hd : decode M.1 pc = .ok (.if_icmp .lt off, 3)) (ht : (pc : Int) + off = (tgt : Int)) (hc : ¬ x < y) : Tj M ids pc L (aI y :: aI x :: S) σ (pc + 3) L S σ := by
  intro Φ hA p l e R s m args below meth c cells slots Q D cI ad hF hR H locs ls hP hS hl
  obtain ⟨hx, hb, hml, hown, hts, hroom, hSt, hn⟩ := id hF
  exact lv_icmp_lt hx hb hd ht (fun h => absurd h hc) (fun _ => (hA p l e R s m args below meth c cells slots Q D cI ad hF hR H locs ls hP hS hl))

theorem x_if_ge_t {off : Int} {tgt : Nat} {x : Int32} (hd : decode M.1 pc = .ok (.ifCond .ge off, 3)) (ht : (pc : Int) + off = (tgt : Int)) (hc : 0 ≤ x) : Tj M ids pc L (aI x :: S) σ tgt L S σ := by
  intro Φ hA p l e R s m args below meth c cells slots Q D cI ad hF hR H locs ls hP hS hl
  obtain ⟨hx, hb, hml, hown, hts, hroom, hSt, hn⟩ := id hF
  exact lv_if_ge hx hb hd ht (fun _ => (hA p l e R s m args below meth c cells slots Q D cI ad hF hR H locs ls hP hS hl)) (fun h => absurd hc h)

theorem x_if_ge_f {off : Int} (tgt : Nat) {x : Int32} (hd : decode M.1 pc = .ok (.ifCond .ge off, 3)) (ht : (pc : Int) + off = (tgt : Int)) (hc : ¬ 0 ≤ x) : Tj M ids pc L (aI x :: S) σ (pc + 3) L S σ := by
  intro Φ hA p l e R s m args below meth c cells slots Q D cI ad hF hR H locs ls hP hS hl
  obtain ⟨hx, hb, hml, hown, hts, hroom, hSt, hn⟩ := id hF
  exact lv_if_ge hx hb hd ht (fun h => absurd h hc) (fun _ => (hA p l e R s m args below meth c cells slots Q D cI ad hF hR H locs ls hP hS hl))

theorem x_icmp_ge_t {off : Int} {tgt : Nat} {x y : Int32} (hd : decode M.1 pc = .ok (.if_icmp .ge off, 3)) (ht : (pc : Int) + off = (tgt : Int)) (hc : y ≤ x) : Tj M ids pc L (aI y :: aI x :: S) σ tgt L S σ := by
  intro Φ hA p l e R s m args below meth c cells slots Q D cI ad hF hR H locs ls hP hS hl
  obtain ⟨hx, hb, hml, hown, hts, hroom, hSt, hn⟩ := id hF
  exact lv_icmp_ge hx hb hd ht (fun _ => (hA p l e R s m args below meth c cells slots Q D cI ad hF hR H locs ls hP hS hl)) (fun h => absurd hc h)

theorem x_icmp_ge_f {off : Int} (tgt : Nat) {x y : Int32} (hd : decode M.1 pc = .ok (.if_icmp .ge off, 3)) (ht : (pc : Int) + off = (tgt : Int)) (hc : ¬ y ≤ x) : Tj M ids pc L (aI y :: aI x :: S) σ (pc + 3) L S σ := by
  intro Φ hA p l e R s m args below meth c cells slots Q D cI ad hF hR H locs ls hP hS hl
  obtain ⟨hx, hb, hml, hown, hts, hroom, hSt, hn⟩ := id hF
  exact lv_icmp_ge hx hb hd ht (fun h => absurd h hc) (fun _ => (hA p l e R s m args below meth c cells slots Q D cI ad hF hR H locs ls hP hS hl))

theorem x_if_gt_t {off : Int} {tgt : Nat} {x : Int32} (hd : decode M.1 pc = .ok (.ifCond .gt off, 3)) (ht : (pc : Int) + off = (tgt : Int)) (hc : 0 < x) : Tj M ids pc L (aI x :: S) σ tgt L S σ := by
  intro Φ hA p l e R s m args below meth c cells slots Q D cI ad hF hR H locs ls hP hS hl
  obtain ⟨hx, hb, hml, hown, hts, hroom, hSt, hn⟩ := id hF
  exact lv_if_gt hx hb hd ht (fun _ => (hA p l e R s m args below meth c cells slots Q D cI ad hF hR H locs ls hP hS hl)) (fun h => absurd hc h)

theorem x_if_gt_f {off : Int} (tgt : Nat) {x : Int32} (hd : decode M.1 pc = .ok (.ifCond .gt off, 3)) (ht : (pc : Int) + off = (tgt : Int)) (hc : ¬ 0 < x) : Tj M ids pc L (aI x :: S) σ (pc + 3) L S σ := by
  intro Φ hA p l e R s m args below meth c cells slots Q D cI ad hF hR H locs ls hP hS hl
  obtain ⟨hx, hb, hml, hown, hts, hroom, hSt, hn⟩ := id hF
  exact lv_if_gt hx hb hd ht (fun h => absurd h hc) (fun _ => (hA p l e R s m args below meth c cells slots Q D cI ad hF hR H locs ls hP hS hl))

theorem x_icmp_gt_t {off : Int} {tgt : Nat} {x y : Int32} (hd : decode M.1 pc = .ok (.if_icmp .gt off, 3)) (ht : (pc : Int) + off = (tgt : Int)) (hc : y < x) : Tj M ids pc L (aI y :: aI x :: S) σ tgt L S σ := by
  intro Φ hA p l e R s m args below meth c cells slots Q D cI ad hF hR H locs ls hP hS hl
  obtain ⟨hx, hb, hml, hown, hts, hroom, hSt, hn⟩ := id hF
  exact lv_icmp_gt hx hb hd ht (fun _ => (hA p l e R s m args below meth c cells slots Q D cI ad hF hR H locs ls hP hS hl)) (fun h => absurd hc h)

theorem x_icmp_gt_f {off : Int} (tgt : Nat) {x y : Int32} (hd : decode M.1 pc = .ok (.if_icmp .gt off, 3)) (ht : (pc : Int) + off = (tgt : Int)) (hc : ¬ y < x) : Tj M ids pc L (aI y :: aI x :: S) σ (pc + 3) L S σ := by
  intro Φ hA p l e R s m args below meth c cells slots Q D cI ad hF hR H locs ls hP hS hl
  obtain ⟨hx, hb, hml, hown, hts, hroom, hSt, hn⟩ := id hF
  exact lv_icmp_gt hx hb hd ht (fun h => absurd h hc) (fun _ => (hA p l e R s m args below meth c cells slots Q D cI ad hF hR H locs ls hP hS hl))

theorem x_if_le_t {off : Int} {tgt : Nat} {x : Int32} (hd : decode M.1 pc = .ok (.ifCond .le off, 3)) (ht : (pc : Int) + off = (tgt : Int)) (hc : x ≤ 0) : Tj M ids pc L (aI x :: S) σ tgt L S σ := by
  intro Φ hA p l e R s m args below meth c cells slots Q D cI ad hF hR H locs ls hP hS hl
  obtain ⟨hx, hb, hml, hown, hts, hroom, hSt, hn⟩ := id hF
  exact lv_if_le hx hb hd ht (fun _ => (hA p l e R s m args below meth c cells slots Q D cI ad hF hR H locs ls hP hS hl)) (fun h => absurd hc h)

theorem x_if_le_f {off : Int} (tgt : Nat) {x : Int32} (hd : decode M.1 pc = .ok (.ifCond .le off, 3)) (ht : (pc : Int) + off = (tgt : Int)) (hc : ¬ x ≤ 0) : Tj M ids pc L (aI x :: S) σ (pc + 3) L S σ := by
  intro Φ hA p l e R s m args below meth c cells slots Q D cI ad hF hR H locs ls hP hS hl
  obtain ⟨hx, hb, hml, hown, hts, hroom, hSt, hn⟩ := id hF
  exact lv_if_le hx hb hd ht (fun h => absurd h hc) (fun _ => (hA p l e R s m args below meth c cells slots Q D cI ad hF hR H locs ls hP hS hl))

theorem x_icmp_le_t {off : Int} {tgt : Nat} {x y : Int32} (hd : decode M.1 pc = .ok (.if_icmp .le off, 3)) (ht : (pc : Int) + off = (tgt : Int)) (hc : x ≤ y) : Tj M ids pc L (aI y :: aI x :: S) σ tgt L S σ := by
  intro Φ hA p l e R s m args below meth c cells slots Q D cI ad hF hR H locs ls hP hS hl
  obtain ⟨hx, hb, hml, hown, hts, hroom, hSt, hn⟩ := id hF
  exact lv_icmp_le hx hb hd ht (fun _ => (hA p l e R s m args below meth c cells slots Q D cI ad hF hR H locs ls hP hS hl)) (fun h => absurd hc h)

theorem x_icmp_le_f {off : Int} (tgt : Nat) {x y : Int32} (hd : decode M.1 pc = .ok (.if_icmp .le off, 3)) (ht : (pc : Int) + off = (tgt : Int)) (hc : ¬ x ≤ y) : Tj M ids pc L (aI y :: aI x :: S) σ (pc + 3) L S σ := by
  intro Φ hA p l e R s m args below meth c cells slots Q D cI ad hF hR H locs ls hP hS hl
  obtain ⟨hx, hb, hml, hown, hts, hroom, hSt, hn⟩ := id hF
  exact lv_icmp_le hx hb hd ht (fun h => absurd h hc) (fun _ => (hA p l e R s m args below meth c cells slots Q D cI ad hF hR H locs ls hP hS hl))

theorem x_tabIn {dflt lo hi : Int} {offs : Array Int} {len : Nat} {x : Int32} {off : Int} {tgt : Nat} (z : Int32) (hd : decode M.1 pc = .ok (.tableswitch dflt lo hi offs, len)) (hz : x = z) (h1 : ¬ z.toInt < lo) (h2 : ¬ hi < z.toInt) (ho : offs[(z.toInt - lo).toNat]? = some off) (ht : (pc : Int) + off = (tgt : Int)) : Tj M ids pc L (aI x :: S) σ tgt L S σ := by
  subst hz
  intro Φ hA p l e R s m args below meth c cells slots Q D cI ad hF hR H locs ls hP hS hl
  obtain ⟨hx, hb, hml, hown, hts, hroom, hSt, hn⟩ := id hF
  exact lv_tableIn hx hb hd h1 h2 ho ht (hA p l e R s m args below meth c cells slots Q D cI ad hF hR H locs ls hP hS hl)

theorem x_tabOut {dflt lo hi : Int} {offs : Array Int} {len : Nat} {x : Int32} {tgt : Nat} (hd : decode M.1 pc = .ok (.tableswitch dflt lo hi offs, len)) (h : x.toInt < lo ∨ hi < x.toInt) (ht : (pc : Int) + dflt = (tgt : Int)) : Tj M ids pc L (aI x :: S) σ tgt L S σ := by
  intro Φ hA p l e R s m args below meth c cells slots Q D cI ad hF hR H locs ls hP hS hl
  obtain ⟨hx, hb, hml, hown, hts, hroom, hSt, hn⟩ := id hF
  exact lv_tableOut hx hb hd h ht (hA p l e R s m args below meth c cells slots Q D cI ad hF hR H locs ls hP hS hl)

theorem x_look {dflt : Int} {ps : Array (Int × Int)} {len : Nat} {x : Int32} {off : Int} {tgt : Nat} (hd : decode M.1 pc = .ok (.lookupswitch dflt ps, len)) (hp : (ps.toList.zip (ps.toList.drop 1)).all (fun (a, next) => a.1 < next.1) = true) (ho : Op.lookupswitch.offset ps.toList dflt x.toInt = off) (ht : (pc : Int) + off = (tgt : Int)) : Tj M ids pc L (aI x :: S) σ tgt L S σ := by
  intro Φ hA p l e R s m args below meth c cells slots Q D cI ad hF hR H locs ls hP hS hl
  obtain ⟨hx, hb, hml, hown, hts, hroom, hSt, hn⟩ := id hF
  exact lv_lookup hx hb hd hp ho ht (hA p l e R s m args below meth c cells slots Q D cI ad hF hR H locs ls hP hS hl)

theorem x_get {i : Nat × Nat} {idx ci k N : Nat} {C : String} {T : u_T} (v : AV) (hd : decode M.1 pc = .ok (.getfield idx, 3)) (hi : i ∈ ids) (hc : ly_len i.2 = none) (hcl : ly_cls i.2 = ci) (hN : ly_n i.2 = N) (hv : vwCl[ci]? = some (C, T, N)) (hin : ∀ w ∈ u_ws C T N, w ∈ TT) (hk : k < N) (hw : Cond.fieldLink M.2.2.1 idx (T k).1 (T k).2.1 (T k).2.2.1 ∈ TT) (ha : ∀ ad, ly_v ad σ i k = tr ad v) : Tj M ids pc L (aR i :: S) σ (pc + 3) L (v :: S) σ := by
  intro Φ hA p l e R s m args below meth c cells slots Q D cI ad hF hR H locs ls hP hS hl
  obtain ⟨hx, hb, hml, hown, hts, hroom, hSt, hn⟩ := id hF
  obtain ⟨q0, h1, h2⟩ := w_at cI ad σ hi
  have h3 : cont cI ad σ i = .inr (ci, (List.range N).map (ly_v ad σ i)) := by unfold cont; rw [hc, hcl, hN]
  rw [h3] at h2
  exact va_get (v := tr ad v) hx hb hts hin hown hSt.1 hP q0 h2 hv k hk (hts _ hw) (fun _ h => h) (by rw [List.getElem?_map, List.getElem?_range hk]; exact congrArg some (ha ad)) hd (hA p l e R s m args below meth c cells slots Q D cI ad hF hR H locs ls hP hS hl)

theorem x_put {i : Nat × Nat} {idx ci k N : Nat} {C : String} {T : u_T} {ty0 : Nat → FieldType} {ty : FieldType} {v : AV} {z : Int32} (σ' : Sg) (hd : decode M.1 pc = .ok (.putfield idx, 3)) (hi : i ∈ ids) (hc : ly_len i.2 = none) (hcl : ly_cls i.2 = ci) (hN : ly_n i.2 = N) (hv : vwCl[ci]? = some (C, T, N)) (hin : ∀ w ∈ u_ws C T N, w ∈ TT) (hty : ∀ k, k < N → parseFieldDescriptor (T k).2.2.1 = some (ty0 k)) (hnm : ∀ a, a < N → ∀ b, b < N → a ≠ b → (T a).2.1 ≠ (T b).2.1) (hk : k < N) (hw : Cond.fieldLink M.2.2.1 idx (T k).1 (T k).2.1 (T k).2.2.1 ∈ TT) (hfin : (T k).2.2.2 = false) (hpf : parseFieldDescriptor (T k).2.2.1 = some ty) (hnar : ∀ ad, narrow ty (tr ad v) = tr ad v) (hfit : ∀ ad, fits ty (tr ad v) = true) (ha : ∀ ad, ly_v ad (upS σ i k z) i k = tr ad v) (hσ : upS σ i k z = σ') : Tj M ids pc L (v :: aR i :: S) σ (pc + 3) L S σ' := by
  subst hσ
  intro Φ hA p l e R s m args below meth c cells slots Q D cI ad hF hR H locs ls hP hS hl
  obtain ⟨hx, hb, hml, hown, hts, hroom, hSt, hn⟩ := id hF
  obtain ⟨q0, h1, h2⟩ := w_at cI ad σ hi
  have h3 : ∀ τ : Sg, cont cI ad τ i = .inr (ci, (List.range N).map (ly_v ad τ i)) := fun τ => by unfold cont; rw [hc, hcl, hN]
  rw [h3] at h2
  have e9 : ((List.range N).map (ly_v ad σ i)).set k (tr ad v) = (List.range N).map (ly_v ad (upS σ i k z) i) := by
    apply List.ext_getElem?
    intro n
    by_cases hnk : n = k
    · subst hnk
      rw [List.getElem?_set_self (by rw [List.length_map, List.length_range]; exact hk), List.getElem?_map, List.getElem?_range hk]
      exact congrArg some (ha ad).symm
    · rw [List.getElem?_set_ne (Ne.symm hnk), List.getElem?_map, List.getElem?_map]
      cases hq : (List.range N)[n]? with
      | none => rfl
      | some j =>
        have hj : j = n := by
          have h8 := List.getElem?_eq_some_iff.mp hq
          obtain ⟨h8a, h8b⟩ := h8
          rw [List.getElem_range] at h8b
          exact h8b.symm
        subst hj
        show some (ly_v ad σ i j) = some (ly_v ad (upS σ i k z) i j)
        congr 1
        unfold ly_v upS
        rw [upA_same]
        have h7 : upd (σ i) k z j = σ i j := if_neg hnk
        rw [h7]
  have e8 : (wOf ids cI ad σ).set q0 (ad i, .inr (ci, ((List.range N).map (ly_v ad σ i)).set k (tr ad v))) = wOf ids cI ad (upS σ i k z) := by
    rw [e9, ← h3 (upS σ i k z)]
    exact w_set hn cI ad σ _ h1
  exact va_put hx hb hts hin ty0 hty hnm hown hSt.1 hP (w_D hn hSt.2.2.2 cI σ) hS q0 h2 hv k hk (hts _ hw) (fun _ h => h) hfin hpf (hnar ad) (hfit ad) (by rw [List.length_map, List.length_range]; exact hk) hd (fun H1 locs1 hP1 _ hS1 => hA p l e R s m args below meth c cells slots Q D cI ad hF hR H1 locs1 ls (by rw [← e8]; exact hP1) hS1 hl)

theorem x_iaload {i : Nat × Nat} {n : Nat} {j : Int32} (hd : decode M.1 pc = .ok (.iaload, 1)) (hi : i ∈ ids) (hn0 : ly_len i.2 = some n) (hin : vp_in j n) : Tj M ids pc L (aI j :: aR i :: S) σ (pc + 1) L (aI (σ i j.toNatClampNeg) :: S) σ := by
  intro Φ hA p l e R s m args below meth c cells slots Q D cI ad hF hR H locs ls hP hS hl
  obtain ⟨hx, hb, hml, hown, hts, hroom, hSt, hn⟩ := id hF
  obtain ⟨q0, h1, h2⟩ := w_at cI ad σ hi
  have h3 : cont cI ad σ i = .inl (cI, n, .inl (σ i)) := by unfold cont; rw [hn0]
  rw [h3] at h2
  exact va_iald hx hb hSt.1 hP q0 0 h2 rfl hin hd (hA p l e R s m args below meth c cells slots Q D cI ad hF hR H locs ls hP hS hl)

theorem x_iastore {i : Nat × Nat} {n : Nat} {j x : Int32} (hd : decode M.1 pc = .ok (.iastore, 1)) (hi : i ∈ ids) (hn0 : ly_len i.2 = some n) (hin : vp_in j n) : Tj M ids pc L (aI x :: aI j :: aR i :: S) σ (pc + 1) L S (upS σ i j.toNatClampNeg x) := by
  intro Φ hA p l e R s m args below meth c cells slots Q D cI ad hF hR H locs ls hP hS hl
  obtain ⟨hx, hb, hml, hown, hts, hroom, hSt, hn⟩ := id hF
  obtain ⟨q0, h1, h2⟩ := w_at cI ad σ hi
  have h3 : ∀ τ : Sg, cont cI ad τ i = .inl (cI, n, .inl (τ i)) := fun τ => by unfold cont; rw [hn0]
  rw [h3] at h2
  have e8 : (wOf ids cI ad σ).set q0 (ad i, .inl (cI, n, .inl (upd (σ i) j.toNatClampNeg x))) = wOf ids cI ad (upS σ i j.toNatClampNeg x) := by
    unfold upS
    rw [← w_set hn cI ad σ (upd (σ i) j.toNatClampNeg x) h1, h3, upA_same]
  exact va_iast hx hb hSt.1 hP (w_D hn hSt.2.2.2 cI σ) hS q0 0 h2 rfl hin hd (fun H1 locs1 hP1 _ hS1 => hA p l e R s m args below meth c cells slots Q D cI ad hF hR H1 locs1 ls (by rw [← e8]; exact hP1) hS1 hl)

theorem x_alen {i : Nat × Nat} {n : Nat} {v : Int32} (hd : decode M.1 pc = .ok (.arraylength, 1)) (hi : i ∈ ids) (hn0 : ly_len i.2 = some n) (hv : Int32.ofNat n = v) : Tj M ids pc L (aR i :: S) σ (pc + 1) L (aI v :: S) σ := by
  intro Φ hA p l e R s m args below meth c cells slots Q D cI ad hF hR H locs ls hP hS hl
  obtain ⟨hx, hb, hml, hown, hts, hroom, hSt, hn⟩ := id hF
  obtain ⟨q0, h1, h2⟩ := w_at cI ad σ hi
  have h3 : cont cI ad σ i = .inl (cI, n, .inl (σ i)) := by unfold cont; rw [hn0]
  rw [h3] at h2
  exact va_alen hx hb hSt.1 hP q0 0 h2 rfl hv hd (hA p l e R s m args below meth c cells slots Q D cI ad hF hR H locs ls hP hS hl)

theorem x_mmax {idx : Nat} {x y : Int32} (hd : decode M.1 pc = .ok (.invokestatic idx, 3)) (hw : Cond.methodLink M.2.2.1 idx Lib.Math.max.name ∈ TT) (hw1 : Cond.static Lib.Math.max.name ∈ TT) (hw2 : Cond.initialized "java/lang/Math" ∈ TT) (hw3 : Cond.code Lib.Math.max.name Lib.Math.max.code 2 (some .int) ∈ TT) (hr : 1 ≤ M.2.2.2.2.1 ∧ 21 ≤ M.2.2.2.2.2) (hs : (S.map acat).sum ≤ 8) : Tj M ids pc L (aI y :: aI x :: S) σ (pc + 3) L (aI (if x < y then y else x) :: S) σ := by
  intro Φ hA p l e R s m args below meth c cells slots Q D cI ad hF hR H locs ls hP hS hl
  obtain ⟨hx, hb, hml, hown, hts, hroom, hSt, hn⟩ := id hF
  have hs2 : ((S.map (tr ad)).map fun v => v.category).sum ≤ 8 := by rw [cat_map]; exact hs
  exact va_mmax hx hb (hml.trans hl.1.symm) hown (hts _ hw) (hts _ hw1) (hts _ hw2) (hts _ hw3) (Nat.le_trans hr.1 hroom.1) (by have := hr.2; have := hroom.2.1; omega) hroom.2.2.1 hroom.2.2.2 hd (hA p l e R s m args below meth c cells slots Q D cI ad hF hR H locs ls hP hS hl)

theorem x_mmin {idx : Nat} {x y : Int32} (hd : decode M.1 pc = .ok (.invokestatic idx, 3)) (hw : Cond.methodLink M.2.2.1 idx Lib.Math.min.name ∈ TT) (hw1 : Cond.static Lib.Math.min.name ∈ TT) (hw2 : Cond.initialized "java/lang/Math" ∈ TT) (hw3 : Cond.code Lib.Math.min.name Lib.Math.min.code 2 (some .int) ∈ TT) (hr : 1 ≤ M.2.2.2.2.1 ∧ 21 ≤ M.2.2.2.2.2) (hs : (S.map acat).sum ≤ 8) : Tj M ids pc L (aI y :: aI x :: S) σ (pc + 3) L (aI (if y < x then y else x) :: S) σ := by
  intro Φ hA p l e R s m args below meth c cells slots Q D cI ad hF hR H locs ls hP hS hl
  obtain ⟨hx, hb, hml, hown, hts, hroom, hSt, hn⟩ := id hF
  have hs2 : ((S.map (tr ad)).map fun v => v.category).sum ≤ 8 := by rw [cat_map]; exact hs
  exact va_mmin hx hb (hml.trans hl.1.symm) hown (hts _ hw) (hts _ hw1) (hts _ hw2) (hts _ hw3) (Nat.le_trans hr.1 hroom.1) (by have := hr.2; have := hroom.2.1; omega) hroom.2.2.1 hroom.2.2.2 hd (hA p l e R s m args below meth c cells slots Q D cI ad hF hR H locs ls hP hS hl)

theorem x_mabs {idx : Nat} {x : Int32} (hd : decode M.1 pc = .ok (.invokestatic idx, 3)) (hw : Cond.methodLink M.2.2.1 idx Lib.Math.abs.name ∈ TT) (hw1 : Cond.static Lib.Math.abs.name ∈ TT) (hw2 : Cond.initialized "java/lang/Math" ∈ TT) (hw3 : Cond.code Lib.Math.abs.name Lib.Math.abs.code 1 (some .int) ∈ TT) (hr : 1 ≤ M.2.2.2.2.1 ∧ 21 ≤ M.2.2.2.2.2) (hs : (S.map acat).sum ≤ 8) : Tj M ids pc L (aI x :: S) σ (pc + 3) L (aI (if 0 ≤ x then x else 0 - x) :: S) σ := by
  intro Φ hA p l e R s m args below meth c cells slots Q D cI ad hF hR H locs ls hP hS hl
  obtain ⟨hx, hb, hml, hown, hts, hroom, hSt, hn⟩ := id hF
  have hs2 : ((S.map (tr ad)).map fun v => v.category).sum ≤ 8 := by rw [cat_map]; exact hs
  exact va_mabs hx hb (hml.trans hl.1.symm) hown (hts _ hw) (hts _ hw1) (hts _ hw2) (hts _ hw3) (Nat.le_trans hr.1 hroom.1) (by have := hr.2; have := hroom.2.1; omega) hroom.2.2.1 hroom.2.2.2 hd (hA p l e R s m args below meth c cells slots Q D cI ad hF hR H locs ls hP hS hl)

theorem x_copy {idx : Nat} {i j : Nat × Nat} {n0 n1 : Nat} {sp dp n : Int32} (hd : decode M.1 pc = .ok (.invokestatic idx, 3)) (hw : Cond.methodLink M.2.2.1 idx arraycopyName ∈ TT) (hw1 : Cond.native arraycopyName ∈ TT) (hw2 : Cond.static arraycopyName ∈ TT) (hw3 : Cond.initialized "java/lang/System" ∈ TT) (hi : i ∈ ids) (hj : j ∈ ids) (hn0 : ly_len i.2 = some n0) (hn1 : ly_len j.2 = some n1) (h1 : ¬ sp < 0) (h2 : ¬ dp < 0) (h3 : ¬ n < 0) (h4 : sp.toNatClampNeg + n.toNatClampNeg ≤ n0) (h5 : dp.toNatClampNeg + n.toNatClampNeg ≤ n1) (hr : 1 ≤ M.2.2.2.2.1 ∧ 8 + (nativeFrameWords "java/lang/System" "arraycopy" 5 + 11) ≤ M.2.2.2.2.2) (hs : (S.map acat).sum ≤ 8) : Tj M ids pc L (aI n :: aI dp :: aR j :: aI sp :: aR i :: S) σ (pc + 3) L S (upA σ j (va_cpy (σ i) (σ j) sp.toNatClampNeg dp.toNatClampNeg n.toNatClampNeg)) := by
  intro Φ hA p l e R s m args below meth c cells slots Q D cI ad hF hR H locs ls hP hS hl
  obtain ⟨hx, hb, hml, hown, hts, hroom, hSt, hn⟩ := id hF
  have hs2 : ((S.map (tr ad)).map fun v => v.category).sum ≤ 8 := by rw [cat_map]; exact hs
  obtain ⟨q0, g1, g2⟩ := w_at cI ad σ hi
  obtain ⟨q1, g3, g4⟩ := w_at cI ad σ hj
  have e1 : cont cI ad σ i = .inl (cI, n0, .inl (σ i)) := by unfold cont; rw [hn0]
  have e2 : ∀ τ : Sg, cont cI ad τ j = .inl (cI, n1, .inl (τ j)) := fun τ => by unfold cont; rw [hn1]
  rw [e1] at g2
  rw [e2] at g4
  have e8 : (wOf ids cI ad σ).set q1 (ad j, .inl (cI, n1, .inl (va_cpy (σ i) (σ j) sp.toNatClampNeg dp.toNatClampNeg n.toNatClampNeg))) = wOf ids cI ad (upA σ j (va_cpy (σ i) (σ j) sp.toNatClampNeg dp.toNatClampNeg n.toNatClampNeg)) := by
    rw [← w_set hn cI ad σ (va_cpy (σ i) (σ j) sp.toNatClampNeg dp.toNatClampNeg n.toNatClampNeg) g3, e2, upA_same]
  exact va_copyi hx hb (hml.trans hl.1.symm) hown (hts _ hw) (hts _ hw1) (hts _ hw2) (hts _ hw3) hSt.1 hP (w_D hn hSt.2.2.2 cI σ) hS q0 q1 0 0 g2 g4 rfl rfl rfl h1 h2 h3 h4 h5 (fun _ _ => rfl) (Nat.le_trans hr.1 hroom.1) (by have := hr.2; have := hroom.2.1; omega) hd (fun H1 locs1 hP1 _ hS1 => hA p l e R s m args below meth c cells slots Q D cI ad hF hR H1 locs1 ls (by rw [← e8]; exact hP1) hS1 hl)

end TT1
def chk {β : Type} (c : Prop) [Decidable c] (o : Option β) : Option β := if c then o else none
def bd {α β : Type} (o : Option (α × Sg)) (k : α → Sg → Option β) : Option β := match o with
  | some q => k q.1 q.2
  | none => none
def bv {α β : Type} (a : α) (k : α → Option β) : Option β := k a
section GG2
variable {β α : Type} {K : β → Option AV × Sg} {M Mc : MI} {ids : List (Nat × Nat)} {pc : Nat} {L L' : List (Option AV)} {S : List AV} {σ σ' : Sg} {o : Option β}
theorem G_chk {c : Prop} {dc : Decidable c} (h : c → Gj K M ids pc L S σ o) : Gj K M ids pc L S σ (@chk β c dc o) := by
  intro Φ x h1 h2
  unfold chk at h1
  split at h1
  · next hc => exact h hc Φ x h1 h2
  · cases h1
theorem G_bd {fo : Option (α × Sg)} {k : α → Sg → Option β} (h : ∀ r σ1, fo = some (r, σ1) → Gj K M ids pc L S σ (k r σ1)) : Gj K M ids pc L S σ (bd fo k) := by
  intro Φ x h1 h2
  unfold bd at h1
  split at h1
  · next q => exact h q.1 q.2 rfl Φ x h1 h2
  · cases h1
theorem G_bvI {e : Int32} {k : Int32 → Option β} (h : ∀ y, Gj K M ids pc L (aI y :: S) σ (k y)) : Gj K M ids pc L (aI e :: S) σ (bv e k) := h e
theorem G_bvL {e : Int64} {k : Int64 → Option β} (h : ∀ y, Gj K M ids pc L (aL y :: S) σ (k y)) : Gj K M ids pc L (aL e :: S) σ (bv e k) := h e
theorem G_bvS {k : Sg → Option β} (h : ∀ y, Gj K M ids pc L S y (k y)) : Gj K M ids pc L S σ (bv σ k) := h σ
theorem G_weak (L' : List (Option AV)) (h : leL L' L) (k : Gj K M ids pc L' S σ o) : Gj K M ids pc L S σ o := by
  intro Φ x h1 h2 p l e R s m args below meth c cells slots Q D cI ad hF hR H locs ls hP hS hl
  exact k Φ x h1 h2 p l e R s m args below meth c cells slots Q D cI ad hF hR H locs ls hP hS (lv_leA hl h)
theorem G_none : Gj K M ids pc L S σ none := fun _ _ h => by cases h
theorem G_ret {x : β} {r : Option AV} (hK : K x = (r, σ)) (hd : retD M pc r) (hS : S = r.toList) : Gj K M ids pc L S σ (some x) := by
  intro Φ x' h1 h2 p l e R s m args below meth c cells slots Q D cI ad hF hR H locs ls hP hS1 hl
  cases h1
  rw [hK] at h2
  subst hS
  exact hR r σ pc H locs ls h2 hd hP hS1
/-- a method's contract out of a run of its body -/
theorem Mt_of {y : MethodName} {as : List AV} {x : β} (hG : Gj K M ids 0 L [] σ o) (ho : o = some x) (hy : plainName y.cls = true) (hown : y.cls = M.2.2.1) (hn : Ndp ids) (hL : ∀ ad : Nat × Nat → Nat, lv_args 0 (as.map (tr ad)) = toAL ad 0 L) (hlen : ∀ ad : Nat × Nat → Nat, (lg_sl (as.map (tr ad))).length ≤ M.2.1) : Mt0 M y ids as σ (K x).1 (K x).2 := by
  intro l D cI ad
  refine Met.ofW (cc := M.1) (maxL := M.2.1) (ret := M.2.2.2.1) hy rfl ?_
  intro p e s m args below meth c s₁ B hml hv
  obtain ⟨rfl, hP, hSt⟩ := hv
  have hr := B.returns
  have hts := atoms_spec (ws := wsM M y) B.pre
  have hown1 : s.vm.findClass y.cls = some m.cls := findClass_of_methodNamed B.named
  have hlocks := B.notSynchronized
  have hl := lv_entry (as.map (tr ad)) (n := M.2.1) (hlen ad)
  rw [lg_entry_eq]
  rw [hL ad] at hl
  refine hG (fun r τ => r = (K x).1 ∧ τ = (K x).2) x ho ⟨rfl, rfl⟩ p l e (rmM M) s m _ below meth c 0 0 _ D cI ad ⟨B.exec, B.bytes, hml, by rw [← hown]; exact hown1, fun w hw => hts w (List.mem_cons_of_mem _ hw), ⟨Nat.le_refl _, Nat.le_refl _, Nat.le_refl _, Nat.le_refl _⟩, hSt, hn⟩ ?_ s.heap [] _ hP va_S.rf hl
  intro r τ pc H locs ls hΦ hd hP1 hS1
  obtain ⟨rfl, rfl⟩ := hΦ
  have post : ∀ v, v = (K x).1.map (tr ad) → ∀ t : State, t.heap = H → s.WarmedH t.vm → ((Outcome.returned v = .returned ((K x).1.map (tr ad)) ∧ va_P D vwCl (wOf ids cI ad (K x).2) t.heap ∧ va_F (inA ids ad) s t)) := fun v hv t ht _ => ⟨by rw [hv], by rw [ht]; exact hP1, hS1.F ht⟩
  revert hd post
  generalize (K x).1 = r9
  intro hd post
  match r9, hd, post with
  | none, hd, post => exact W.vret B.exec B.bytes (hr.trans hd.1) (post none rfl) hS1.2.2 hd.2 hlocks
  | some (.inl v), hd, post =>
    obtain ⟨h1, ty, h2, h3⟩ := hd
    exact W.zret B.exec B.bytes (hr.trans h2) h3 (post (some (.int v)) rfl) hS1.2.2 h1 hlocks
  | some (.inr (.inl v)), hd, post => exact W.lret B.exec B.bytes (hr.trans hd.2) (post (some (.long v)) rfl) hS1.2.2 hd.1 hlocks
  | some (.inr (.inr i)), hd, post =>
    obtain ⟨h1, n, h2⟩ := hd
    exact W.aret B.exec B.bytes (hr.trans h2) (Or.inl ⟨n, rfl⟩) (Or.inr ⟨_, rfl⟩) (post (some (.ref (ad i))) rfl) hS1.2.2 h1 hlocks
end GG2
/-! calls -/
theorem runGo {p : Program} {l : Launch} {e : Env} {R : Room} {s : State} {m : MethodId} {args : Array Value} {below : List Frame} {meth : Method} {c : Code} {H : Heap} {locs : List Loc} {cells slots : Nat} {Q : State → Prop} {pc : Nat} {ls : Array Slot} {st0 rest : List Value} {v : Option Value} {PP : Heap → Prop} {A1 : Nat → Prop}
    (hr : va_Run p l e R s m args below meth c H locs cells slots 0 0 (F0 m pc ls st0) rest (fun st o t => o = .returned v ∧ PP t.heap ∧ va_F A1 st t) A1) (hS : va_S A1 s.heap H locs)
    (kk : ∀ (H1 : Heap) (locs1 : List Loc), PP H1 → va_S A1 s.heap H1 locs1 → W p l e R s m args below meth c H1 locs1 cells slots Q (F0 m (pc + 3) ls (v.toList ++ rest))) : W p l e R s m args below meth c H locs cells slots Q (F0 m pc ls st0) := by
  intro T hT X
  obtain ⟨v', st₀, t, T', L, h0, X', hL, e1, e2, ⟨hv, hp, hz, hk⟩, st⟩ := hr T hT X
  cases hv
  rw [h0] at hz hk
  obtain ⟨t2, a1, b1⟩ := kk T'.heap (locs ++ L) (by rw [e1]; exact hp)
    ⟨Nat.le_trans hS.1 (by rw [e1]; exact hz), fun q h1 h2 => by rw [e1, hk q (Nat.lt_of_lt_of_le h1 hS.1) h2]; exact hS.2.1 q h1 h2, fun q hq => by
      rcases List.mem_append.mp hq with h | h
      · exact hS.2.2 q h
      · exact hL q h⟩ T' rfl X'
  exact ⟨t2, st t2 a1, b1⟩
theorem pcBlind {vs : List Value} {ids : List (Nat × Nat)} {D : va_G} {cI : ClassId} {ad : Nat × Nat → Nat} {σ : Sg} : FrameBlind (va_Pc vs (fun U => va_P D vwCl (wOf ids cI ad σ) U.heap ∧ St ids D cI ad U)) := by
  intro a U g mk q
  obtain ⟨q0, q1, q2⟩ := q
  exact ⟨q0, q1, St.same q2 rfl rfl⟩
/-- what the tables say of a method that is called: static, of an object -/
def kSt (Mc : MI) (y : MethodName) (n : Nat) : Prop := Cond.static y ∈ TT ∧ Cond.initialized y.cls ∈ TT ∧ Cond.code y Mc.1 Mc.2.1 Mc.2.2.2.1 ∈ TT ∧ y.cls ≠ "java/lang/invoke/MethodHandle" ∧ y.cls ≠ "java/lang/invoke/VarHandle" ∧ (parseMethodDescriptor y.desc).map (fun d => d.parameters.length) = some n
def kVi (Mc : MI) (y : MethodName) (n : Nat) : Prop := (Cond.instanceMethod y ∈ TT ∧ Cond.selects y.cls y y ∈ TT) ∧ Cond.initialized y.cls ∈ TT ∧ Cond.code y Mc.1 Mc.2.1 Mc.2.2.2.1 ∈ TT ∧ y.cls ≠ "java/lang/invoke/MethodHandle" ∧ y.cls ≠ "java/lang/invoke/VarHandle" ∧ (parseMethodDescriptor y.desc).map (fun d => d.parameters.length) = some n
def fits2 (M Mc : MI) : Prop := Mc.2.2.2.2.1 + 1 ≤ M.2.2.2.2.1 ∧ 8 + (Mc.2.1 + 11) + Mc.2.2.2.2.2 ≤ M.2.2.2.2.2
section CC
variable {M Mc : MI} {ids : List (Nat × Nat)} {pc idx n : Nat} {L : List (Option AV)} {S st : List AV} {σ σ' : Sg} {as : List AV} {r : Option AV} {y : MethodName}
theorem good_ws {hc : Cond.code y Mc.1 Mc.2.1 Mc.2.2.2.1 ∈ TT} : GoodIn TT (wsM Mc y) := fun w hw => by
  rcases List.mem_cons.mp hw with rfl | hw
  · exact tt_good _ hc
  · exact tt_good _ hw
theorem x_callS (S : List AV) (hM : Mt0 Mc y ids as σ r σ') (hd : decode M.1 pc = .ok (.invokestatic idx, 3)) (hl : Cond.methodLink M.2.2.1 idx y ∈ TT) (k : kSt Mc y n) (hc : y.cls = M.2.2.1) (hn : as.length = n) (hf : fits2 M Mc) (hS0 : (S.map acat).sum ≤ 8) (hst : as.reverse ++ S = st) : Tj M ids pc L st σ (pc + 3) L (r.toList ++ S) σ' := by
  subst hst
  intro Φ hA p l e R s m args below meth c cells slots Q D cI ad hF hR H locs ls hP hS hl1
  obtain ⟨hx, hb, hml, hown, hts, hroom, hSt, hnd⟩ := id hF
  obtain ⟨k1, k2, k3, k4, k5, k6⟩ := k
  have hs2 : ((S.map (tr ad)).map fun v => v.category).sum ≤ 8 := by rw [cat_map]; exact hS0
  have cw := cwS (R := R) (own := M.2.2.1) (index := idx) (rm := rmM Mc) (mc := 0) (ms := 0) (ws := wsM Mc y) (y := y) n hts (fun w hw => by
    unfold wsS at hw
    rcases List.mem_append.mp hw with h | h
    · rw [hc] at k2
      simp only [List.mem_cons, List.not_mem_nil, or_false] at h
      rcases h with rfl | rfl | rfl
      · exact tt_good _ hl
      · exact tt_good _ k1
      · exact tt_good _ k2
    · exact good_ws (hc := k3) w h) rfl rfl rfl ⟨hc, k4, k5, k6⟩ ⟨Nat.le_trans hf.1 hroom.1, Nat.le_trans hf.2 hroom.2.1⟩
  refine runGo (v := r.map (tr ad)) (PP := fun h => va_P D vwCl (wOf ids cI ad σ') h) (A1 := inA ids ad) (rest := S.map (tr ad)) (va_runS (As := as.map (tr ad)) ⟨hx, hb, hml, hown, hts⟩ (hM l D cI ad) cw ⟨pcBlind, fun U hU hW => ⟨rfl, by rw [hU]; exact hP, hSt.go hS hU hW⟩⟩ rfl (by rw [List.length_map]; exact hn) hl1.1 (by rw [List.map_append, List.map_reverse]) (lv_room hs2) hd ⟨hroom.2.2.1, hroom.2.2.2⟩) hS ?_
  intro H1 locs1 hP1 hS1
  have h9 := hA p l e R s m args below meth c cells slots Q D cI ad hF hR H1 locs1 ls hP1 hS1 hl1
  rw [List.map_append] at h9
  cases r <;> exact h9
theorem x_callN (S : List AV) {host : String} (hM : Mt0 Mc y ids as σ r σ') (hd : decode M.1 pc = .ok (.invokestatic idx, 3)) (hl : (M.2.2.1, idx, y, host) ∈ nestL) (k : kSt Mc y n) (hn : as.length = n) (hf : fits2 M Mc) (hS0 : (S.map acat).sum ≤ 8) (hst : as.reverse ++ S = st) : Tj M ids pc L st σ (pc + 3) L (r.toList ++ S) σ' := by
  subst hst
  intro Φ hA p l e R s m args below meth c cells slots Q D cI ad hF hR H locs ls hP hS hl1
  obtain ⟨hx, hb, hml, hown, hts, hroom, hSt, hnd⟩ := id hF
  obtain ⟨k1, k2, k3, k4, k5, k6⟩ := k
  have hs2 : ((S.map (tr ad)).map fun v => v.category).sum ≤ 8 := by rw [cat_map]; exact hS0
  have cw := va_cnB (R := R) (own := M.2.2.1) (index := idx) (host := host) (rm := rmM Mc) (mc := 0) (ms := 0) (ws := wsM Mc y) (y := y) n hts (good_ws (hc := k3)) rfl rfl rfl (hSt.2.1 _ hl) (hts _ k2) ⟨k4, k5, k6⟩ ⟨Nat.le_trans hf.1 hroom.1, Nat.le_trans hf.2 hroom.2.1⟩
  refine runGo (v := r.map (tr ad)) (PP := fun h => va_P D vwCl (wOf ids cI ad σ') h) (A1 := inA ids ad) (rest := S.map (tr ad)) (va_runSN (As := as.map (tr ad)) ⟨hx, hb, hml, hown, hts⟩ (hM l D cI ad) ⟨cw, hts _ k1, trivial⟩ ⟨pcBlind, fun U hU hW => ⟨rfl, by rw [hU]; exact hP, hSt.go hS hU hW⟩⟩ rfl (by rw [List.length_map]; exact hn) hl1.1 (by rw [List.map_append, List.map_reverse]) (lv_room hs2) hd ⟨hroom.2.2.1, hroom.2.2.2⟩) hS ?_
  intro H1 locs1 hP1 hS1
  have h9 := hA p l e R s m args below meth c cells slots Q D cI ad hF hR H1 locs1 ls hP1 hS1 hl1
  rw [List.map_append] at h9
  cases r <;> exact h9
theorem x_callV (S : List AV) {i : Nat × Nat} {ci N : Nat} {T : u_T} (hM : Mt0 Mc y ids (aR i :: as) σ r σ') (hd : decode M.1 pc = .ok (.invokevirtual idx, 3)) (hl : Cond.methodLink M.2.2.1 idx y ∈ TT) (k : kVi Mc y n) (hi : i ∈ ids) (hc0 : ly_len i.2 = none) (hcl : ly_cls i.2 = ci) (hv : vwCl[ci]? = some (y.cls, T, N)) (hn : as.length = n) (hf : fits2 M Mc) (hS0 : (S.map acat).sum ≤ 8) (hst : as.reverse ++ (aR i :: S) = st) : Tj M ids pc L st σ (pc + 3) L (r.toList ++ S) σ' := by
  subst hst
  intro Φ hA p l e R s m args below meth c cells slots Q D cI ad hF hR H locs ls hP hS hl1
  obtain ⟨hx, hb, hml, hown, hts, hroom, hSt, hnd⟩ := id hF
  obtain ⟨⟨k1, k1b⟩, k2, k3, k4, k5, k6⟩ := k
  have hs2 : ((S.map (tr ad)).map fun v => v.category).sum ≤ 8 := by rw [cat_map]; exact hS0
  have cw := cwV (R := R) (own := M.2.2.1) (C := y.cls) (index := idx) (rm := rmM Mc) (mc := 0) (ms := 0) (ws := wsM Mc y) (y := y) n hts (fun w hw => by
    unfold wsV at hw
    rcases List.mem_append.mp hw with h | h
    · simp only [List.mem_cons, List.not_mem_nil, or_false] at h
      rcases h with rfl | rfl | rfl | rfl
      · exact tt_good _ hl
      · exact tt_good _ k1
      · exact tt_good _ k1b
      · exact tt_good _ k2
    · exact good_ws (hc := k3) w h) rfl rfl rfl ⟨rfl, k4, k5, k6⟩ ⟨Nat.le_trans hf.1 hroom.1, Nat.le_trans hf.2 hroom.2.1⟩
  obtain ⟨q0, g1, g2⟩ := w_at cI ad σ hi
  have h3 : cont cI ad σ i = .inr (ci, (List.range (ly_n i.2)).map (ly_v ad σ i)) := by unfold cont; rw [hc0, hcl]
  rw [h3] at g2
  refine runGo (v := r.map (tr ad)) (PP := fun h => va_P D vwCl (wOf ids cI ad σ') h) (A1 := inA ids ad) (rest := S.map (tr ad)) (va_runV (b := ad i) (As := as.map (tr ad)) ⟨hx, hb, hml, hown, hts⟩ (hM l D cI ad) cw ⟨pcBlind, va_recv hSt.1 hP hv g2, fun U hU hW => ⟨rfl, by rw [hU]; exact hP, hSt.go hS hU hW⟩⟩ rfl (by rw [List.length_map]; exact hn) hl1.1 (by rw [List.map_append, List.map_reverse]; rfl) (lv_room hs2) hd ⟨hroom.2.2.1, hroom.2.2.2⟩) hS ?_
  intro H1 locs1 hP1 hS1
  have h9 := hA p l e R s m args below meth c cells slots Q D cI ad hF hR H1 locs1 ls hP1 hS1 hl1
  rw [List.map_append] at h9
  cases r <;> exact h9
end CC
end
