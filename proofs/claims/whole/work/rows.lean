section
-- ===== PART A: goes FIRST, ahead of the names: the tables' words, and 'selects' of the private methods out of them =====
/-- a private method of a class that the tables say can be made, by its rows of tables_1 -/
def lw_okq (q : MethodName × Nat) : Prop := (q.1.cls ≠ "java/lang/invoke/MethodHandle" ∧ q.1.cls ≠ "java/lang/invoke/VarHandle") ∧ Cond.instantiable q.1.cls q.2 ∈ tables_1 ∧ Cond.privateMethod q.1 ∈ tables_1 ∧ Cond.instanceMethod q.1 ∈ tables_1
theorem lw_p0 : lw_okq (⟨"BeanServer", "takenName", "()LBeanServer$Pattern;"⟩, 9) := ⟨⟨by decide +kernel, by decide +kernel⟩, List.mem_of_getElem? (i := 24) (by decide +kernel), List.mem_of_getElem? (i := 244) (by decide +kernel), List.mem_of_getElem? (i := 245) (by decide +kernel)⟩
theorem lw_p1 : lw_okq (⟨"BeanServer", "taken", "()Ljava/lang/String;"⟩, 9) := ⟨⟨by decide +kernel, by decide +kernel⟩, List.mem_of_getElem? (i := 24) (by decide +kernel), List.mem_of_getElem? (i := 248) (by decide +kernel), List.mem_of_getElem? (i := 249) (by decide +kernel)⟩
theorem lw_p2 : lw_okq (⟨"BeanServer$Pattern", "rowEnd", "(I)I"⟩, 6) := ⟨⟨by decide +kernel, by decide +kernel⟩, List.mem_of_getElem? (i := 329) (by decide +kernel), List.mem_of_getElem? (i := 360) (by decide +kernel), List.mem_of_getElem? (i := 361) (by decide +kernel)⟩
theorem lw_p3 : lw_okq (⟨"BeanServer$Pattern", "parseList", "(I)Z"⟩, 6) := ⟨⟨by decide +kernel, by decide +kernel⟩, List.mem_of_getElem? (i := 329) (by decide +kernel), List.mem_of_getElem? (i := 390) (by decide +kernel), List.mem_of_getElem? (i := 391) (by decide +kernel)⟩
theorem lw_p4 : lw_okq (⟨"BeanServer$Pattern", "parseProperty", "(I)I"⟩, 6) := ⟨⟨by decide +kernel, by decide +kernel⟩, List.mem_of_getElem? (i := 329) (by decide +kernel), List.mem_of_getElem? (i := 394) (by decide +kernel), List.mem_of_getElem? (i := 395) (by decide +kernel)⟩
theorem lw_p5 : lw_okq (⟨"BeanServer$Pattern", "ordered", "()Ljava/lang/String;"⟩, 6) := ⟨⟨by decide +kernel, by decide +kernel⟩, List.mem_of_getElem? (i := 329) (by decide +kernel), List.mem_of_getElem? (i := 398) (by decide +kernel), List.mem_of_getElem? (i := 399) (by decide +kernel)⟩
theorem lw_p6 : lw_okq (⟨"BeanServer$Pattern", "copy", "(IILjava/lang/StringBuilder;)V"⟩, 6) := ⟨⟨by decide +kernel, by decide +kernel⟩, List.mem_of_getElem? (i := 329) (by decide +kernel), List.mem_of_getElem? (i := 404) (by decide +kernel), List.mem_of_getElem? (i := 405) (by decide +kernel)⟩
theorem lw_p7 : lw_okq (⟨"BeanServer", "beanNamed", "(Ljava/lang/String;)I"⟩, 9) := ⟨⟨by decide +kernel, by decide +kernel⟩, List.mem_of_getElem? (i := 24) (by decide +kernel), List.mem_of_getElem? (i := 473) (by decide +kernel), List.mem_of_getElem? (i := 474) (by decide +kernel)⟩
theorem lw_p8 : lw_okq (⟨"BeanServer", "freeBean", "()I"⟩, 9) := ⟨⟨by decide +kernel, by decide +kernel⟩, List.mem_of_getElem? (i := 24) (by decide +kernel), List.mem_of_getElem? (i := 485) (by decide +kernel), List.mem_of_getElem? (i := 486) (by decide +kernel)⟩
theorem lw_p9 : lw_okq (⟨"BeanServer", "beanAt", "(I)LBeanServer$Bean;"⟩, 9) := ⟨⟨by decide +kernel, by decide +kernel⟩, List.mem_of_getElem? (i := 24) (by decide +kernel), List.mem_of_getElem? (i := 527) (by decide +kernel), List.mem_of_getElem? (i := 528) (by decide +kernel)⟩
theorem lw_p10 : lw_okq (⟨"BeanServer$QueryReader", "all", "()I"⟩, 6) := ⟨⟨by decide +kernel, by decide +kernel⟩, List.mem_of_getElem? (i := 551) (by decide +kernel), List.mem_of_getElem? (i := 587) (by decide +kernel), List.mem_of_getElem? (i := 588) (by decide +kernel)⟩
theorem lw_p11 : lw_okq (⟨"BeanServer$QueryReader", "one", "()I"⟩, 6) := ⟨⟨by decide +kernel, by decide +kernel⟩, List.mem_of_getElem? (i := 551) (by decide +kernel), List.mem_of_getElem? (i := 591) (by decide +kernel), List.mem_of_getElem? (i := 592) (by decide +kernel)⟩
theorem lw_p12 : lw_okq (⟨"BeanServer$QueryReader", "step", "()V"⟩, 6) := ⟨⟨by decide +kernel, by decide +kernel⟩, List.mem_of_getElem? (i := 551) (by decide +kernel), List.mem_of_getElem? (i := 595) (by decide +kernel), List.mem_of_getElem? (i := 596) (by decide +kernel)⟩
theorem lw_p13 : lw_okq (⟨"BeanServer$QueryReader", "sum", "()I"⟩, 6) := ⟨⟨by decide +kernel, by decide +kernel⟩, List.mem_of_getElem? (i := 551) (by decide +kernel), List.mem_of_getElem? (i := 601) (by decide +kernel), List.mem_of_getElem? (i := 602) (by decide +kernel)⟩
theorem lw_p14 : lw_okq (⟨"BeanServer$QueryReader", "product", "()I"⟩, 6) := ⟨⟨by decide +kernel, by decide +kernel⟩, List.mem_of_getElem? (i := 551) (by decide +kernel), List.mem_of_getElem? (i := 605) (by decide +kernel), List.mem_of_getElem? (i := 606) (by decide +kernel)⟩
theorem lw_p15 : lw_okq (⟨"BeanServer$QueryReader", "unit", "()I"⟩, 6) := ⟨⟨by decide +kernel, by decide +kernel⟩, List.mem_of_getElem? (i := 551) (by decide +kernel), List.mem_of_getElem? (i := 609) (by decide +kernel), List.mem_of_getElem? (i := 610) (by decide +kernel)⟩
def lw_privs_1 : List (MethodName × Nat) := [(⟨"BeanServer", "takenName", "()LBeanServer$Pattern;"⟩, 9), (⟨"BeanServer", "taken", "()Ljava/lang/String;"⟩, 9), (⟨"BeanServer$Pattern", "rowEnd", "(I)I"⟩, 6), (⟨"BeanServer$Pattern", "parseList", "(I)Z"⟩, 6), (⟨"BeanServer$Pattern", "parseProperty", "(I)I"⟩, 6), (⟨"BeanServer$Pattern", "ordered", "()Ljava/lang/String;"⟩, 6), (⟨"BeanServer$Pattern", "copy", "(IILjava/lang/StringBuilder;)V"⟩, 6), (⟨"BeanServer", "beanNamed", "(Ljava/lang/String;)I"⟩, 9), (⟨"BeanServer", "freeBean", "()I"⟩, 9), (⟨"BeanServer", "beanAt", "(I)LBeanServer$Bean;"⟩, 9), (⟨"BeanServer$QueryReader", "all", "()I"⟩, 6), (⟨"BeanServer$QueryReader", "one", "()I"⟩, 6), (⟨"BeanServer$QueryReader", "step", "()V"⟩, 6), (⟨"BeanServer$QueryReader", "sum", "()I"⟩, 6), (⟨"BeanServer$QueryReader", "product", "()I"⟩, 6), (⟨"BeanServer$QueryReader", "unit", "()I"⟩, 6)]
theorem lw_r1 : ∀ q ∈ lw_privs_1, lw_okq q := List.forall_mem_cons.mpr ⟨lw_p0, List.forall_mem_cons.mpr ⟨lw_p1, List.forall_mem_cons.mpr ⟨lw_p2, List.forall_mem_cons.mpr ⟨lw_p3, List.forall_mem_cons.mpr ⟨lw_p4, List.forall_mem_cons.mpr ⟨lw_p5, List.forall_mem_cons.mpr ⟨lw_p6, List.forall_mem_cons.mpr ⟨lw_p7, List.forall_mem_cons.mpr ⟨lw_p8, List.forall_mem_cons.mpr ⟨lw_p9, List.forall_mem_cons.mpr ⟨lw_p10, List.forall_mem_cons.mpr ⟨lw_p11, List.forall_mem_cons.mpr ⟨lw_p12, List.forall_mem_cons.mpr ⟨lw_p13, List.forall_mem_cons.mpr ⟨lw_p14, List.forall_mem_cons.mpr ⟨lw_p15, fun _ h => absurd h List.not_mem_nil⟩⟩⟩⟩⟩⟩⟩⟩⟩⟩⟩⟩⟩⟩⟩⟩
theorem lw_p16 : lw_okq (⟨"BeanServer$QueryForm", "openParenthesis", "()V"⟩, 4) := ⟨⟨by decide +kernel, by decide +kernel⟩, List.mem_of_getElem? (i := 620) (by decide +kernel), List.mem_of_getElem? (i := 647) (by decide +kernel), List.mem_of_getElem? (i := 648) (by decide +kernel)⟩
theorem lw_p17 : lw_okq (⟨"BeanServer$QueryForm", "closeParenthesis", "(C)V"⟩, 4) := ⟨⟨by decide +kernel, by decide +kernel⟩, List.mem_of_getElem? (i := 620) (by decide +kernel), List.mem_of_getElem? (i := 653) (by decide +kernel), List.mem_of_getElem? (i := 654) (by decide +kernel)⟩
theorem lw_p18 : lw_okq (⟨"BeanServer$QueryForm", "lastBefore", "(I)C"⟩, 4) := ⟨⟨by decide +kernel, by decide +kernel⟩, List.mem_of_getElem? (i := 620) (by decide +kernel), List.mem_of_getElem? (i := 657) (by decide +kernel), List.mem_of_getElem? (i := 658) (by decide +kernel)⟩
theorem lw_p19 : lw_okq (⟨"BeanServer$QueryForm", "jointFrom", "(I)C"⟩, 4) := ⟨⟨by decide +kernel, by decide +kernel⟩, List.mem_of_getElem? (i := 620) (by decide +kernel), List.mem_of_getElem? (i := 671) (by decide +kernel), List.mem_of_getElem? (i := 672) (by decide +kernel)⟩
theorem lw_p20 : lw_okq (⟨"BeanServer", "queryAt", "(I)LBeanServer$Query;"⟩, 9) := ⟨⟨by decide +kernel, by decide +kernel⟩, List.mem_of_getElem? (i := 24) (by decide +kernel), List.mem_of_getElem? (i := 707) (by decide +kernel), List.mem_of_getElem? (i := 708) (by decide +kernel)⟩
theorem lw_p21 : lw_okq (⟨"BeanServer$Pattern", "standsFor", "(IILjava/lang/String;II)Z"⟩, 6) := ⟨⟨by decide +kernel, by decide +kernel⟩, List.mem_of_getElem? (i := 329) (by decide +kernel), List.mem_of_getElem? (i := 719) (by decide +kernel), List.mem_of_getElem? (i := 720) (by decide +kernel)⟩
theorem lw_p22 : lw_okq (⟨"BeanServer", "shownForm", "(II)Ljava/lang/String;"⟩, 9) := ⟨⟨by decide +kernel, by decide +kernel⟩, List.mem_of_getElem? (i := 24) (by decide +kernel), List.mem_of_getElem? (i := 734) (by decide +kernel), List.mem_of_getElem? (i := 735) (by decide +kernel)⟩
theorem lw_p23 : lw_okq (⟨"BeanServer", "numberForMonitorOf", "(I)I"⟩, 9) := ⟨⟨by decide +kernel, by decide +kernel⟩, List.mem_of_getElem? (i := 24) (by decide +kernel), List.mem_of_getElem? (i := 743) (by decide +kernel), List.mem_of_getElem? (i := 744) (by decide +kernel)⟩
theorem lw_p24 : lw_okq (⟨"BeanServer", "monitorAt", "(I)LBeanServer$Monitor;"⟩, 9) := ⟨⟨by decide +kernel, by decide +kernel⟩, List.mem_of_getElem? (i := 24) (by decide +kernel), List.mem_of_getElem? (i := 814) (by decide +kernel), List.mem_of_getElem? (i := 815) (by decide +kernel)⟩
theorem lw_p25 : lw_okq (⟨"BeanServer", "letLook", "(LBeanServer$Monitor;I)V"⟩, 9) := ⟨⟨by decide +kernel, by decide +kernel⟩, List.mem_of_getElem? (i := 24) (by decide +kernel), List.mem_of_getElem? (i := 822) (by decide +kernel), List.mem_of_getElem? (i := 823) (by decide +kernel)⟩
theorem lw_p26 : lw_okq (⟨"BeanServer$Counter", "firstMarkAbove", "(I)J"⟩, 9) := ⟨⟨by decide +kernel, by decide +kernel⟩, List.mem_of_getElem? (i := 747) (by decide +kernel), List.mem_of_getElem? (i := 832) (by decide +kernel), List.mem_of_getElem? (i := 833) (by decide +kernel)⟩
theorem lw_p27 : lw_okq (⟨"BeanServerModel", "put", "(IC)V"⟩, 29) := ⟨⟨by decide +kernel, by decide +kernel⟩, List.mem_of_getElem? (i := 867) (by decide +kernel), List.mem_of_getElem? (i := 967) (by decide +kernel), List.mem_of_getElem? (i := 968) (by decide +kernel)⟩
theorem lw_p28 : lw_okq (⟨"BeanServerModel", "takeName", "()Z"⟩, 29) := ⟨⟨by decide +kernel, by decide +kernel⟩, List.mem_of_getElem? (i := 867) (by decide +kernel), List.mem_of_getElem? (i := 975) (by decide +kernel), List.mem_of_getElem? (i := 976) (by decide +kernel)⟩
theorem lw_p29 : lw_okq (⟨"BeanServerModel", "take", "()V"⟩, 29) := ⟨⟨by decide +kernel, by decide +kernel⟩, List.mem_of_getElem? (i := 867) (by decide +kernel), List.mem_of_getElem? (i := 979) (by decide +kernel), List.mem_of_getElem? (i := 980) (by decide +kernel)⟩
theorem lw_p30 : lw_okq (⟨"BeanServerModel", "copy", "(II)V"⟩, 29) := ⟨⟨by decide +kernel, by decide +kernel⟩, List.mem_of_getElem? (i := 867) (by decide +kernel), List.mem_of_getElem? (i := 983) (by decide +kernel), List.mem_of_getElem? (i := 984) (by decide +kernel)⟩
theorem lw_p31 : lw_okq (⟨"BeanServerModel", "get1", "(II)C"⟩, 29) := ⟨⟨by decide +kernel, by decide +kernel⟩, List.mem_of_getElem? (i := 867) (by decide +kernel), List.mem_of_getElem? (i := 987) (by decide +kernel), List.mem_of_getElem? (i := 988) (by decide +kernel)⟩
def lw_privs_2 : List (MethodName × Nat) := [(⟨"BeanServer$QueryForm", "openParenthesis", "()V"⟩, 4), (⟨"BeanServer$QueryForm", "closeParenthesis", "(C)V"⟩, 4), (⟨"BeanServer$QueryForm", "lastBefore", "(I)C"⟩, 4), (⟨"BeanServer$QueryForm", "jointFrom", "(I)C"⟩, 4), (⟨"BeanServer", "queryAt", "(I)LBeanServer$Query;"⟩, 9), (⟨"BeanServer$Pattern", "standsFor", "(IILjava/lang/String;II)Z"⟩, 6), (⟨"BeanServer", "shownForm", "(II)Ljava/lang/String;"⟩, 9), (⟨"BeanServer", "numberForMonitorOf", "(I)I"⟩, 9), (⟨"BeanServer", "monitorAt", "(I)LBeanServer$Monitor;"⟩, 9), (⟨"BeanServer", "letLook", "(LBeanServer$Monitor;I)V"⟩, 9), (⟨"BeanServer$Counter", "firstMarkAbove", "(I)J"⟩, 9), (⟨"BeanServerModel", "put", "(IC)V"⟩, 29), (⟨"BeanServerModel", "takeName", "()Z"⟩, 29), (⟨"BeanServerModel", "take", "()V"⟩, 29), (⟨"BeanServerModel", "copy", "(II)V"⟩, 29), (⟨"BeanServerModel", "get1", "(II)C"⟩, 29)]
theorem lw_r2 : ∀ q ∈ lw_privs_2, lw_okq q := List.forall_mem_cons.mpr ⟨lw_p16, List.forall_mem_cons.mpr ⟨lw_p17, List.forall_mem_cons.mpr ⟨lw_p18, List.forall_mem_cons.mpr ⟨lw_p19, List.forall_mem_cons.mpr ⟨lw_p20, List.forall_mem_cons.mpr ⟨lw_p21, List.forall_mem_cons.mpr ⟨lw_p22, List.forall_mem_cons.mpr ⟨lw_p23, List.forall_mem_cons.mpr ⟨lw_p24, List.forall_mem_cons.mpr ⟨lw_p25, List.forall_mem_cons.mpr ⟨lw_p26, List.forall_mem_cons.mpr ⟨lw_p27, List.forall_mem_cons.mpr ⟨lw_p28, List.forall_mem_cons.mpr ⟨lw_p29, List.forall_mem_cons.mpr ⟨lw_p30, List.forall_mem_cons.mpr ⟨lw_p31, fun _ h => absurd h List.not_mem_nil⟩⟩⟩⟩⟩⟩⟩⟩⟩⟩⟩⟩⟩⟩⟩⟩
theorem lw_p32 : lw_okq (⟨"BeanServerModel", "reads", "(IZ)Z"⟩, 29) := ⟨⟨by decide +kernel, by decide +kernel⟩, List.mem_of_getElem? (i := 867) (by decide +kernel), List.mem_of_getElem? (i := 991) (by decide +kernel), List.mem_of_getElem? (i := 992) (by decide +kernel)⟩
theorem lw_p33 : lw_okq (⟨"BeanServerModel", "colon", "(I)I"⟩, 29) := ⟨⟨by decide +kernel, by decide +kernel⟩, List.mem_of_getElem? (i := 867) (by decide +kernel), List.mem_of_getElem? (i := 995) (by decide +kernel), List.mem_of_getElem? (i := 996) (by decide +kernel)⟩
theorem lw_p34 : lw_okq (⟨"BeanServerModel", "list", "(IIZ)Z"⟩, 29) := ⟨⟨by decide +kernel, by decide +kernel⟩, List.mem_of_getElem? (i := 867) (by decide +kernel), List.mem_of_getElem? (i := 1008) (by decide +kernel), List.mem_of_getElem? (i := 1009) (by decide +kernel)⟩
theorem lw_p35 : lw_okq (⟨"BeanServerModel", "order", "()V"⟩, 29) := ⟨⟨by decide +kernel, by decide +kernel⟩, List.mem_of_getElem? (i := 867) (by decide +kernel), List.mem_of_getElem? (i := 1012) (by decide +kernel), List.mem_of_getElem? (i := 1013) (by decide +kernel)⟩
theorem lw_p36 : lw_okq (⟨"BeanServerModel", "copyProperty", "(III)V"⟩, 29) := ⟨⟨by decide +kernel, by decide +kernel⟩, List.mem_of_getElem? (i := 867) (by decide +kernel), List.mem_of_getElem? (i := 1016) (by decide +kernel), List.mem_of_getElem? (i := 1017) (by decide +kernel)⟩
theorem lw_p37 : lw_okq (⟨"BeanServerModel", "beanWith", "(I)I"⟩, 29) := ⟨⟨by decide +kernel, by decide +kernel⟩, List.mem_of_getElem? (i := 867) (by decide +kernel), List.mem_of_getElem? (i := 1020) (by decide +kernel), List.mem_of_getElem? (i := 1021) (by decide +kernel)⟩
theorem lw_p38 : lw_okq (⟨"BeanServerModel", "same", "(II)Z"⟩, 29) := ⟨⟨by decide +kernel, by decide +kernel⟩, List.mem_of_getElem? (i := 867) (by decide +kernel), List.mem_of_getElem? (i := 1024) (by decide +kernel), List.mem_of_getElem? (i := 1025) (by decide +kernel)⟩
theorem lw_p39 : lw_okq (⟨"BeanServerModel", "give", "(III)V"⟩, 29) := ⟨⟨by decide +kernel, by decide +kernel⟩, List.mem_of_getElem? (i := 867) (by decide +kernel), List.mem_of_getElem? (i := 1028) (by decide +kernel), List.mem_of_getElem? (i := 1029) (by decide +kernel)⟩
theorem lw_p40 : lw_okq (⟨"BeanServerModel", "isSlot", "(II)Z"⟩, 29) := ⟨⟨by decide +kernel, by decide +kernel⟩, List.mem_of_getElem? (i := 867) (by decide +kernel), List.mem_of_getElem? (i := 1045) (by decide +kernel), List.mem_of_getElem? (i := 1046) (by decide +kernel)⟩
theorem lw_p41 : lw_okq (⟨"BeanServerModel", "isBean", "(I)Z"⟩, 29) := ⟨⟨by decide +kernel, by decide +kernel⟩, List.mem_of_getElem? (i := 867) (by decide +kernel), List.mem_of_getElem? (i := 1049) (by decide +kernel), List.mem_of_getElem? (i := 1050) (by decide +kernel)⟩
theorem lw_p42 : lw_okq (⟨"BeanServerModel", "isQuery", "()Z"⟩, 29) := ⟨⟨by decide +kernel, by decide +kernel⟩, List.mem_of_getElem? (i := 867) (by decide +kernel), List.mem_of_getElem? (i := 1065) (by decide +kernel), List.mem_of_getElem? (i := 1066) (by decide +kernel)⟩
theorem lw_p43 : lw_okq (⟨"BeanServerModel", "comparisonEnd", "(I)I"⟩, 29) := ⟨⟨by decide +kernel, by decide +kernel⟩, List.mem_of_getElem? (i := 867) (by decide +kernel), List.mem_of_getElem? (i := 1069) (by decide +kernel), List.mem_of_getElem? (i := 1070) (by decide +kernel)⟩
theorem lw_p44 : lw_okq (⟨"BeanServerModel", "valueEnd", "(I)I"⟩, 29) := ⟨⟨by decide +kernel, by decide +kernel⟩, List.mem_of_getElem? (i := 867) (by decide +kernel), List.mem_of_getElem? (i := 1073) (by decide +kernel), List.mem_of_getElem? (i := 1074) (by decide +kernel)⟩
theorem lw_p45 : lw_okq (⟨"BeanServerModel", "unit", "(I)I"⟩, 29) := ⟨⟨by decide +kernel, by decide +kernel⟩, List.mem_of_getElem? (i := 867) (by decide +kernel), List.mem_of_getElem? (i := 1077) (by decide +kernel), List.mem_of_getElem? (i := 1078) (by decide +kernel)⟩
theorem lw_p46 : lw_okq (⟨"BeanServerModel", "shorten", "()V"⟩, 29) := ⟨⟨by decide +kernel, by decide +kernel⟩, List.mem_of_getElem? (i := 867) (by decide +kernel), List.mem_of_getElem? (i := 1087) (by decide +kernel), List.mem_of_getElem? (i := 1088) (by decide +kernel)⟩
theorem lw_p47 : lw_okq (⟨"BeanServerModel", "last", "()C"⟩, 29) := ⟨⟨by decide +kernel, by decide +kernel⟩, List.mem_of_getElem? (i := 867) (by decide +kernel), List.mem_of_getElem? (i := 1091) (by decide +kernel), List.mem_of_getElem? (i := 1092) (by decide +kernel)⟩
def lw_privs_3 : List (MethodName × Nat) := [(⟨"BeanServerModel", "reads", "(IZ)Z"⟩, 29), (⟨"BeanServerModel", "colon", "(I)I"⟩, 29), (⟨"BeanServerModel", "list", "(IIZ)Z"⟩, 29), (⟨"BeanServerModel", "order", "()V"⟩, 29), (⟨"BeanServerModel", "copyProperty", "(III)V"⟩, 29), (⟨"BeanServerModel", "beanWith", "(I)I"⟩, 29), (⟨"BeanServerModel", "same", "(II)Z"⟩, 29), (⟨"BeanServerModel", "give", "(III)V"⟩, 29), (⟨"BeanServerModel", "isSlot", "(II)Z"⟩, 29), (⟨"BeanServerModel", "isBean", "(I)Z"⟩, 29), (⟨"BeanServerModel", "isQuery", "()Z"⟩, 29), (⟨"BeanServerModel", "comparisonEnd", "(I)I"⟩, 29), (⟨"BeanServerModel", "valueEnd", "(I)I"⟩, 29), (⟨"BeanServerModel", "unit", "(I)I"⟩, 29), (⟨"BeanServerModel", "shorten", "()V"⟩, 29), (⟨"BeanServerModel", "last", "()C"⟩, 29)]
theorem lw_r3 : ∀ q ∈ lw_privs_3, lw_okq q := List.forall_mem_cons.mpr ⟨lw_p32, List.forall_mem_cons.mpr ⟨lw_p33, List.forall_mem_cons.mpr ⟨lw_p34, List.forall_mem_cons.mpr ⟨lw_p35, List.forall_mem_cons.mpr ⟨lw_p36, List.forall_mem_cons.mpr ⟨lw_p37, List.forall_mem_cons.mpr ⟨lw_p38, List.forall_mem_cons.mpr ⟨lw_p39, List.forall_mem_cons.mpr ⟨lw_p40, List.forall_mem_cons.mpr ⟨lw_p41, List.forall_mem_cons.mpr ⟨lw_p42, List.forall_mem_cons.mpr ⟨lw_p43, List.forall_mem_cons.mpr ⟨lw_p44, List.forall_mem_cons.mpr ⟨lw_p45, List.forall_mem_cons.mpr ⟨lw_p46, List.forall_mem_cons.mpr ⟨lw_p47, fun _ h => absurd h List.not_mem_nil⟩⟩⟩⟩⟩⟩⟩⟩⟩⟩⟩⟩⟩⟩⟩⟩
theorem lw_p48 : lw_okq (⟨"BeanServerModel", "needed", "(I)Z"⟩, 29) := ⟨⟨by decide +kernel, by decide +kernel⟩, List.mem_of_getElem? (i := 867) (by decide +kernel), List.mem_of_getElem? (i := 1095) (by decide +kernel), List.mem_of_getElem? (i := 1096) (by decide +kernel)⟩
theorem lw_p49 : lw_okq (⟨"BeanServerModel", "partner", "(I)I"⟩, 29) := ⟨⟨by decide +kernel, by decide +kernel⟩, List.mem_of_getElem? (i := 867) (by decide +kernel), List.mem_of_getElem? (i := 1099) (by decide +kernel), List.mem_of_getElem? (i := 1100) (by decide +kernel)⟩
theorem lw_p50 : lw_okq (⟨"BeanServerModel", "contains", "(IIC)Z"⟩, 29) := ⟨⟨by decide +kernel, by decide +kernel⟩, List.mem_of_getElem? (i := 867) (by decide +kernel), List.mem_of_getElem? (i := 1103) (by decide +kernel), List.mem_of_getElem? (i := 1104) (by decide +kernel)⟩
theorem lw_p51 : lw_okq (⟨"BeanServerModel", "amongSeveral", "(II)Z"⟩, 29) := ⟨⟨by decide +kernel, by decide +kernel⟩, List.mem_of_getElem? (i := 867) (by decide +kernel), List.mem_of_getElem? (i := 1107) (by decide +kernel), List.mem_of_getElem? (i := 1108) (by decide +kernel)⟩
theorem lw_p52 : lw_okq (⟨"BeanServerModel", "isAsked", "(I)Z"⟩, 29) := ⟨⟨by decide +kernel, by decide +kernel⟩, List.mem_of_getElem? (i := 867) (by decide +kernel), List.mem_of_getElem? (i := 1115) (by decide +kernel), List.mem_of_getElem? (i := 1116) (by decide +kernel)⟩
theorem lw_p53 : lw_okq (⟨"BeanServerModel", "truth", "(II)I"⟩, 29) := ⟨⟨by decide +kernel, by decide +kernel⟩, List.mem_of_getElem? (i := 867) (by decide +kernel), List.mem_of_getElem? (i := 1119) (by decide +kernel), List.mem_of_getElem? (i := 1120) (by decide +kernel)⟩
theorem lw_p54 : lw_okq (⟨"BeanServerModel", "enter", "(IZ)V"⟩, 29) := ⟨⟨by decide +kernel, by decide +kernel⟩, List.mem_of_getElem? (i := 867) (by decide +kernel), List.mem_of_getElem? (i := 1123) (by decide +kernel), List.mem_of_getElem? (i := 1124) (by decide +kernel)⟩
theorem lw_p55 : lw_okq (⟨"BeanServerModel", "looked", "(I)Z"⟩, 29) := ⟨⟨by decide +kernel, by decide +kernel⟩, List.mem_of_getElem? (i := 867) (by decide +kernel), List.mem_of_getElem? (i := 1127) (by decide +kernel), List.mem_of_getElem? (i := 1128) (by decide +kernel)⟩
theorem lw_p56 : lw_okq (⟨"BeanServerModel", "settle", "(IZ)V"⟩, 29) := ⟨⟨by decide +kernel, by decide +kernel⟩, List.mem_of_getElem? (i := 867) (by decide +kernel), List.mem_of_getElem? (i := 1131) (by decide +kernel), List.mem_of_getElem? (i := 1132) (by decide +kernel)⟩
theorem lw_p57 : lw_okq (⟨"BeanServerModel", "comparison", "(II)Z"⟩, 29) := ⟨⟨by decide +kernel, by decide +kernel⟩, List.mem_of_getElem? (i := 867) (by decide +kernel), List.mem_of_getElem? (i := 1135) (by decide +kernel), List.mem_of_getElem? (i := 1136) (by decide +kernel)⟩
theorem lw_p58 : lw_okq (⟨"BeanServerModel", "value", "(II)I"⟩, 29) := ⟨⟨by decide +kernel, by decide +kernel⟩, List.mem_of_getElem? (i := 867) (by decide +kernel), List.mem_of_getElem? (i := 1139) (by decide +kernel), List.mem_of_getElem? (i := 1140) (by decide +kernel)⟩
theorem lw_p59 : lw_okq (⟨"BeanServerModel", "unitValue", "(II)I"⟩, 29) := ⟨⟨by decide +kernel, by decide +kernel⟩, List.mem_of_getElem? (i := 867) (by decide +kernel), List.mem_of_getElem? (i := 1143) (by decide +kernel), List.mem_of_getElem? (i := 1144) (by decide +kernel)⟩
theorem lw_p60 : lw_okq (⟨"BeanServerModel", "fits", "(I)Z"⟩, 29) := ⟨⟨by decide +kernel, by decide +kernel⟩, List.mem_of_getElem? (i := 867) (by decide +kernel), List.mem_of_getElem? (i := 1152) (by decide +kernel), List.mem_of_getElem? (i := 1153) (by decide +kernel)⟩
theorem lw_p61 : lw_okq (⟨"BeanServerModel", "matches", "(IIII)Z"⟩, 29) := ⟨⟨by decide +kernel, by decide +kernel⟩, List.mem_of_getElem? (i := 867) (by decide +kernel), List.mem_of_getElem? (i := 1156) (by decide +kernel), List.mem_of_getElem? (i := 1157) (by decide +kernel)⟩
theorem lw_p62 : lw_okq (⟨"BeanServerModel", "spread", "(IIII)I"⟩, 29) := ⟨⟨by decide +kernel, by decide +kernel⟩, List.mem_of_getElem? (i := 867) (by decide +kernel), List.mem_of_getElem? (i := 1163) (by decide +kernel), List.mem_of_getElem? (i := 1164) (by decide +kernel)⟩
theorem lw_p63 : lw_okq (⟨"BeanServerModel", "property", "(II)I"⟩, 29) := ⟨⟨by decide +kernel, by decide +kernel⟩, List.mem_of_getElem? (i := 867) (by decide +kernel), List.mem_of_getElem? (i := 1167) (by decide +kernel), List.mem_of_getElem? (i := 1168) (by decide +kernel)⟩
def lw_privs_4 : List (MethodName × Nat) := [(⟨"BeanServerModel", "needed", "(I)Z"⟩, 29), (⟨"BeanServerModel", "partner", "(I)I"⟩, 29), (⟨"BeanServerModel", "contains", "(IIC)Z"⟩, 29), (⟨"BeanServerModel", "amongSeveral", "(II)Z"⟩, 29), (⟨"BeanServerModel", "isAsked", "(I)Z"⟩, 29), (⟨"BeanServerModel", "truth", "(II)I"⟩, 29), (⟨"BeanServerModel", "enter", "(IZ)V"⟩, 29), (⟨"BeanServerModel", "looked", "(I)Z"⟩, 29), (⟨"BeanServerModel", "settle", "(IZ)V"⟩, 29), (⟨"BeanServerModel", "comparison", "(II)Z"⟩, 29), (⟨"BeanServerModel", "value", "(II)I"⟩, 29), (⟨"BeanServerModel", "unitValue", "(II)I"⟩, 29), (⟨"BeanServerModel", "fits", "(I)Z"⟩, 29), (⟨"BeanServerModel", "matches", "(IIII)Z"⟩, 29), (⟨"BeanServerModel", "spread", "(IIII)I"⟩, 29), (⟨"BeanServerModel", "property", "(II)I"⟩, 29)]
theorem lw_r4 : ∀ q ∈ lw_privs_4, lw_okq q := List.forall_mem_cons.mpr ⟨lw_p48, List.forall_mem_cons.mpr ⟨lw_p49, List.forall_mem_cons.mpr ⟨lw_p50, List.forall_mem_cons.mpr ⟨lw_p51, List.forall_mem_cons.mpr ⟨lw_p52, List.forall_mem_cons.mpr ⟨lw_p53, List.forall_mem_cons.mpr ⟨lw_p54, List.forall_mem_cons.mpr ⟨lw_p55, List.forall_mem_cons.mpr ⟨lw_p56, List.forall_mem_cons.mpr ⟨lw_p57, List.forall_mem_cons.mpr ⟨lw_p58, List.forall_mem_cons.mpr ⟨lw_p59, List.forall_mem_cons.mpr ⟨lw_p60, List.forall_mem_cons.mpr ⟨lw_p61, List.forall_mem_cons.mpr ⟨lw_p62, List.forall_mem_cons.mpr ⟨lw_p63, fun _ h => absurd h List.not_mem_nil⟩⟩⟩⟩⟩⟩⟩⟩⟩⟩⟩⟩⟩⟩⟩⟩
theorem lw_p64 : lw_okq (⟨"BeanServerModel", "watch", "(IIIII)I"⟩, 29) := ⟨⟨by decide +kernel, by decide +kernel⟩, List.mem_of_getElem? (i := 867) (by decide +kernel), List.mem_of_getElem? (i := 1183) (by decide +kernel), List.mem_of_getElem? (i := 1184) (by decide +kernel)⟩
theorem lw_p65 : lw_okq (⟨"BeanServerModel", "isMonitor", "(I)Z"⟩, 29) := ⟨⟨by decide +kernel, by decide +kernel⟩, List.mem_of_getElem? (i := 867) (by decide +kernel), List.mem_of_getElem? (i := 1195) (by decide +kernel), List.mem_of_getElem? (i := 1196) (by decide +kernel)⟩
theorem lw_p66 : lw_okq (⟨"BeanServerModel", "observe1", "(I)V"⟩, 29) := ⟨⟨by decide +kernel, by decide +kernel⟩, List.mem_of_getElem? (i := 867) (by decide +kernel), List.mem_of_getElem? (i := 1203) (by decide +kernel), List.mem_of_getElem? (i := 1204) (by decide +kernel)⟩
theorem lw_p67 : lw_okq (⟨"BeanServerModel", "count", "(II)V"⟩, 29) := ⟨⟨by decide +kernel, by decide +kernel⟩, List.mem_of_getElem? (i := 867) (by decide +kernel), List.mem_of_getElem? (i := 1207) (by decide +kernel), List.mem_of_getElem? (i := 1208) (by decide +kernel)⟩
theorem lw_p68 : lw_okq (⟨"BeanServerModel", "gaugeOf", "(II)V"⟩, 29) := ⟨⟨by decide +kernel, by decide +kernel⟩, List.mem_of_getElem? (i := 867) (by decide +kernel), List.mem_of_getElem? (i := 1211) (by decide +kernel), List.mem_of_getElem? (i := 1212) (by decide +kernel)⟩
def lw_privs_5 : List (MethodName × Nat) := [(⟨"BeanServerModel", "watch", "(IIIII)I"⟩, 29), (⟨"BeanServerModel", "isMonitor", "(I)Z"⟩, 29), (⟨"BeanServerModel", "observe1", "(I)V"⟩, 29), (⟨"BeanServerModel", "count", "(II)V"⟩, 29), (⟨"BeanServerModel", "gaugeOf", "(II)V"⟩, 29)]
theorem lw_r5 : ∀ q ∈ lw_privs_5, lw_okq q := List.forall_mem_cons.mpr ⟨lw_p64, List.forall_mem_cons.mpr ⟨lw_p65, List.forall_mem_cons.mpr ⟨lw_p66, List.forall_mem_cons.mpr ⟨lw_p67, List.forall_mem_cons.mpr ⟨lw_p68, fun _ h => absurd h List.not_mem_nil⟩⟩⟩⟩⟩
def lw_privs : List (MethodName × Nat) := lw_privs_1 ++ (lw_privs_2 ++ (lw_privs_3 ++ (lw_privs_4 ++ (lw_privs_5))))
def lw_tbl : List Cond := k2_sels lw_privs ++ tables_1
theorem lw_privs_ok : ∀ q ∈ lw_privs, lw_okq q := by
  show ∀ q ∈ lw_privs_1 ++ (lw_privs_2 ++ (lw_privs_3 ++ (lw_privs_4 ++ (lw_privs_5)))), lw_okq q
  exact List.forall_mem_append.mpr ⟨lw_r1, List.forall_mem_append.mpr ⟨lw_r2, List.forall_mem_append.mpr ⟨lw_r3, List.forall_mem_append.mpr ⟨lw_r4, lw_r5⟩⟩⟩⟩
/-- AbstractStringBuilder's private methods on a StringBuilder -/
def jj_xs : List Cond := [.selects "java/lang/StringBuilder" ⟨"java/lang/AbstractStringBuilder", "ensureCapacityInternal", "(I)V"⟩ ⟨"java/lang/AbstractStringBuilder", "ensureCapacityInternal", "(I)V"⟩, .selects "java/lang/StringBuilder" ⟨"java/lang/AbstractStringBuilder", "newCapacity", "(I)I"⟩ ⟨"java/lang/AbstractStringBuilder", "newCapacity", "(I)I"⟩, .selects "java/lang/StringBuilder" ⟨"java/lang/AbstractStringBuilder", "inflate", "()V"⟩ ⟨"java/lang/AbstractStringBuilder", "inflate", "()V"⟩, .selects "java/lang/StringBuilder" ⟨"java/lang/AbstractStringBuilder", "shift", "(II)V"⟩ ⟨"java/lang/AbstractStringBuilder", "shift", "(II)V"⟩]
/-- the words that a callee may have too -/
def jj_gw : List Cond := (jj_xs ++ lw_tbl).filter goodWord
theorem jj_mem {w : Cond} (h : w ∈ tables_1) (hg : goodWord w = true) : w ∈ jj_gw := List.mem_filter.mpr ⟨List.mem_append_right _ (List.mem_append_right _ h), hg⟩
theorem jj_memX {w : Cond} (h : w ∈ jj_xs) (hg : goodWord w = true) : w ∈ jj_gw := List.mem_filter.mpr ⟨List.mem_append_left _ h, hg⟩
theorem jj_memP {w : Cond} (h : w ∈ k2_sels lw_privs) (hg : goodWord w = true) : w ∈ jj_gw := List.mem_filter.mpr ⟨List.mem_append_right _ (List.mem_append_left _ h), hg⟩
def cn_BS : String := "BeanServer"
def cf_BS : u_T := fun k => match k with
  | 0 => ("BeanServer", "buffer", "Ljava/lang/StringBuilder;", true)
  | 1 => ("BeanServer", "beans", "[LBeanServer$Bean;", true)
  | 2 => ("BeanServer", "queries", "[LBeanServer$Query;", true)
  | 3 => ("BeanServer", "queryCount", "I", false)
  | 4 => ("BeanServer", "monitors", "[LBeanServer$Monitor;", true)
  | 5 => ("BeanServer", "log", "LBeanServer$Log;", true)
  | 6 => ("BeanServer", "selection", "[I", true)
  | 7 => ("BeanServer", "selectionSize", "I", false)
  | _ => ("BeanServer", "latestPattern", "Ljava/lang/String;", false)
def ct_BS : Nat → FieldType := fun k => match k with
  | 0 => (.object "java/lang/StringBuilder")
  | 1 => (.array (.object "BeanServer$Bean"))
  | 2 => (.array (.object "BeanServer$Query"))
  | 3 => .int
  | 4 => (.array (.object "BeanServer$Monitor"))
  | 5 => (.object "BeanServer$Log")
  | 6 => (.array .int)
  | 7 => .int
  | _ => (.object "java/lang/String")
def cn_BE : String := "BeanServer$Bean"
def cf_BE : u_T := fun k => match k with
  | 0 => ("BeanServer$Bean", "name", "LBeanServer$Pattern;", true)
  | 1 => ("BeanServer$Bean", "values", "[I", true)
  | _ => ("BeanServer$Bean", "present", "[Z", true)
def ct_BE : Nat → FieldType := fun k => match k with
  | 0 => (.object "BeanServer$Pattern")
  | 1 => (.array .int)
  | _ => (.array .boolean)
def cn_LG : String := "BeanServer$Log"
def cf_LG : u_T := fun k => match k with
  | 0 => ("BeanServer$Log", "numbers", "[I", true)
  | 1 => ("BeanServer$Log", "kinds", "[I", true)
  | 2 => ("BeanServer$Log", "sources", "[I", true)
  | 3 => ("BeanServer$Log", "values", "[I", true)
  | 4 => ("BeanServer$Log", "size", "I", false)
  | 5 => ("BeanServer$Log", "next", "I", false)
  | 6 => ("BeanServer$Log", "given", "I", false)
  | _ => ("BeanServer$Log", "listened", "I", false)
def ct_LG : Nat → FieldType := fun k => match k with
  | 0 => (.array .int)
  | 1 => (.array .int)
  | 2 => (.array .int)
  | 3 => (.array .int)
  | 4 => .int
  | 5 => .int
  | 6 => .int
  | _ => .int
def cn_PT : String := "BeanServer$Pattern"
def cf_PT : u_T := fun k => match k with
  | 0 => ("BeanServer$Pattern", "text", "Ljava/lang/String;", true)
  | 1 => ("BeanServer$Pattern", "starts", "[I", true)
  | 2 => ("BeanServer$Pattern", "ends", "[I", true)
  | 3 => ("BeanServer$Pattern", "domainEnd", "I", false)
  | 4 => ("BeanServer$Pattern", "open", "Z", false)
  | _ => ("BeanServer$Pattern", "form", "Ljava/lang/String;", false)
def ct_PT : Nat → FieldType := fun k => match k with
  | 0 => (.object "java/lang/String")
  | 1 => (.array .int)
  | 2 => (.array .int)
  | 3 => .int
  | 4 => .boolean
  | _ => (.object "java/lang/String")
def cn_QU : String := "BeanServer$Query"
def cf_QU : u_T := fun k => match k with
  | _ => ("BeanServer$Query", "form", "Ljava/lang/String;", true)
def ct_QU : Nat → FieldType := fun k => match k with
  | _ => (.object "java/lang/String")
def cn_QR : String := "BeanServer$QueryReader"
def cf_QR : u_T := fun k => match k with
  | 0 => ("BeanServer$QueryReader", "text", "Ljava/lang/String;", true)
  | 1 => ("BeanServer$QueryReader", "bean", "LBeanServer$Bean;", true)
  | 2 => ("BeanServer$QueryReader", "at", "I", false)
  | 3 => ("BeanServer$QueryReader", "wrong", "Z", false)
  | 4 => ("BeanServer$QueryReader", "here", "C", false)
  | _ => ("BeanServer$QueryReader", "failed", "Z", false)
def ct_QR : Nat → FieldType := fun k => match k with
  | 0 => (.object "java/lang/String")
  | 1 => (.object "BeanServer$Bean")
  | 2 => .int
  | 3 => .boolean
  | 4 => .char
  | _ => .boolean
def cn_QF : String := "BeanServer$QueryForm"
def cf_QF : u_T := fun k => match k with
  | 0 => ("BeanServer$QueryForm", "text", "Ljava/lang/String;", true)
  | 1 => ("BeanServer$QueryForm", "out", "Ljava/lang/StringBuilder;", true)
  | 2 => ("BeanServer$QueryForm", "opens", "[I", true)
  | _ => ("BeanServer$QueryForm", "depth", "I", false)
def ct_QF : Nat → FieldType := fun k => match k with
  | 0 => (.object "java/lang/String")
  | 1 => (.object "java/lang/StringBuilder")
  | 2 => (.array .int)
  | _ => .int
def cn_CT : String := "BeanServer$Counter"
def cf_CT : u_T := fun k => match k with
  | 0 => ("BeanServer$Counter", "start", "I", true)
  | 1 => ("BeanServer$Counter", "step", "I", true)
  | 2 => ("BeanServer$Counter", "mark", "J", false)
  | 3 => ("BeanServer$Counter", "ready", "Z", false)
  | 4 => ("BeanServer$Counter", "hasLatest", "Z", false)
  | 5 => ("BeanServer$Counter", "latest", "I", false)
  | 6 => ("BeanServer$Monitor", "name", "Ljava/lang/String;", true)
  | 7 => ("BeanServer$Monitor", "attribute", "I", true)
  | _ => ("BeanServer$Monitor", "erred", "Z", false)
def ct_CT : Nat → FieldType := fun k => match k with
  | 0 => .int
  | 1 => .int
  | 2 => .long
  | 3 => .boolean
  | 4 => .boolean
  | 5 => .int
  | 6 => (.object "java/lang/String")
  | 7 => .int
  | _ => .boolean
def cn_GA : String := "BeanServer$Gauge"
def cf_GA : u_T := fun k => match k with
  | 0 => ("BeanServer$Gauge", "low", "I", true)
  | 1 => ("BeanServer$Gauge", "high", "I", true)
  | 2 => ("BeanServer$Gauge", "side", "I", false)
  | 3 => ("BeanServer$Monitor", "name", "Ljava/lang/String;", true)
  | 4 => ("BeanServer$Monitor", "attribute", "I", true)
  | _ => ("BeanServer$Monitor", "erred", "Z", false)
def ct_GA : Nat → FieldType := fun k => match k with
  | 0 => .int
  | 1 => .int
  | 2 => .int
  | 3 => (.object "java/lang/String")
  | 4 => .int
  | _ => .boolean
def cn_MO : String := "BeanServerModel"
def cf_MO : u_T := fun k => match k with
  | 0 => ("BeanServerModel", "letters", "[C", true)
  | 1 => ("BeanServerModel", "sizes", "[I", true)
  | 2 => ("BeanServerModel", "there", "[Z", true)
  | 3 => ("BeanServerModel", "values", "[I", true)
  | 4 => ("BeanServerModel", "has", "[Z", true)
  | 5 => ("BeanServerModel", "asked", "[Z", true)
  | 6 => ("BeanServerModel", "monitor", "[I", true)
  | 7 => ("BeanServerModel", "watched", "[I", true)
  | 8 => ("BeanServerModel", "low", "[I", true)
  | 9 => ("BeanServerModel", "high", "[I", true)
  | 10 => ("BeanServerModel", "marks", "[J", true)
  | 11 => ("BeanServerModel", "ready", "[Z", true)
  | 12 => ("BeanServerModel", "seen", "[Z", true)
  | 13 => ("BeanServerModel", "latest", "[I", true)
  | 14 => ("BeanServerModel", "erred", "[Z", true)
  | 15 => ("BeanServerModel", "given", "I", false)
  | 16 => ("BeanServerModel", "listened", "I", false)
  | 17 => ("BeanServerModel", "logged", "I", false)
  | 18 => ("BeanServerModel", "log", "[I", true)
  | 19 => ("BeanServerModel", "chosen", "I", false)
  | 20 => ("BeanServerModel", "choice", "[I", true)
  | 21 => ("BeanServerModel", "where", "[I", true)
  | 22 => ("BeanServerModel", "open", "Z", false)
  | 23 => ("BeanServerModel", "live", "[Z", true)
  | 24 => ("BeanServerModel", "any", "[Z", true)
  | 25 => ("BeanServerModel", "all", "[Z", true)
  | 26 => ("BeanServerModel", "turned", "[Z", true)
  | 27 => ("BeanServerModel", "failed", "Z", false)
  | _ => ("BeanServerModel", "at", "I", false)
def ct_MO : Nat → FieldType := fun k => match k with
  | 0 => (.array .char)
  | 1 => (.array .int)
  | 2 => (.array .boolean)
  | 3 => (.array .int)
  | 4 => (.array .boolean)
  | 5 => (.array .boolean)
  | 6 => (.array .int)
  | 7 => (.array .int)
  | 8 => (.array .int)
  | 9 => (.array .int)
  | 10 => (.array .long)
  | 11 => (.array .boolean)
  | 12 => (.array .boolean)
  | 13 => (.array .int)
  | 14 => (.array .boolean)
  | 15 => .int
  | 16 => .int
  | 17 => .int
  | 18 => (.array .int)
  | 19 => .int
  | 20 => (.array .int)
  | 21 => (.array .int)
  | 22 => .boolean
  | 23 => (.array .boolean)
  | 24 => (.array .boolean)
  | 25 => (.array .boolean)
  | 26 => (.array .boolean)
  | 27 => .boolean
  | _ => .int
def cn_ST : String := "java/lang/String"
def cf_ST : u_T := fun k => match k with
  | 0 => ("java/lang/String", "value", "[B", true)
  | 1 => ("java/lang/String", "coder", "B", true)
  | 2 => ("java/lang/String", "hash", "I", false)
  | _ => ("java/lang/String", "hashIsZero", "Z", false)
def ct_ST : Nat → FieldType := fun k => match k with
  | 0 => (.array .byte)
  | 1 => .byte
  | 2 => .int
  | _ => .boolean
def cn_SB : String := "java/lang/StringBuilder"
def cf_SB : u_T := fun k => match k with
  | 0 => ("java/lang/AbstractStringBuilder", "value", "[B", false)
  | 1 => ("java/lang/AbstractStringBuilder", "coder", "B", false)
  | 2 => ("java/lang/AbstractStringBuilder", "maybeLatin1", "Z", false)
  | _ => ("java/lang/AbstractStringBuilder", "count", "I", false)
def ct_SB : Nat → FieldType := fun k => match k with
  | 0 => (.array .byte)
  | 1 => .byte
  | 2 => .boolean
  | _ => .int
abbrev jj_cl : List vw_C := [(cn_BS, cf_BS, 9), (cn_BE, cf_BE, 3), (cn_LG, cf_LG, 8), (cn_PT, cf_PT, 6), (cn_QU, cf_QU, 1), (cn_QR, cf_QR, 6), (cn_QF, cf_QF, 4), (cn_CT, cf_CT, 9), (cn_GA, cf_GA, 6), (cn_MO, cf_MO, 29), (cn_ST, cf_ST, 4), (cn_SB, cf_SB, 4)]
abbrev jj_tys (aC : Nat → ClassId) : List (ClassId × FieldType) := [(aC 0, .int), (aC 1, .boolean), (aC 2, .char), (aC 3, .long), (aC 4, .byte), (aC 5, .object "BeanServer$Bean"), (aC 6, .object "BeanServer$Query"), (aC 7, .object "BeanServer$Monitor")]
abbrev jj_nF : List (String × Nat × String × String × String × String) := []
abbrev jj_nM : List (String × Nat × MethodName × String) := [("BeanServer", 40, ⟨"BeanServer$Log", "<init>", "()V"⟩, "BeanServer")]
abbrev jj_dc : List MethodName := [⟨"BeanServer$Monitor", "kindFor", "(I)I"⟩, ⟨"BeanServer$Monitor", "level", "()J"⟩]
abbrev jj_ca : List (String × String) := [("[B", "java/lang/Cloneable"), ("BeanServer$Counter", "BeanServer$Monitor"), ("BeanServer$Gauge", "BeanServer$Monitor")]
abbrev jj_ao : List String := ["BeanServer$Bean", "BeanServer$Query", "BeanServer$Monitor"]
end
section
/-! The simple steps: a method's instructions as a table that is read by evaluation. -/
abbrev jjEnt : Type := Instr × Nat × Nat × Int32
abbrev jjTab : Type := List (Nat × jjEnt)
abbrev jjLoc : Type := List (Nat × Value)
def jj_len : Instr → Nat
  | .aload _ => 2 | .astore _ => 2 | .iload _ => 2 | .istore _ => 2 | .lload _ => 2 | .lstore _ => 2 | .bipush _ => 2 | .ldc _ => 2 | .newarray _ => 2
  | .sipush _ => 3 | .iinc _ _ => 3 | .goto _ => 3 | .ifCond _ _ => 3 | .if_icmp _ _ => 3 | .if_acmp _ _ => 3 | .ifnull _ => 3 | .ifnonnull _ => 3
  | .getfield _ => 3 | .putfield _ => 3 | .getstatic _ => 3 | .putstatic _ => 3 | .new _ => 3 | .anewarray _ => 3 | .invokespecial _ => 3 | .invokestatic _ => 3 | .invokevirtual _ => 3
  | .checkcast _ => 3 | .instanceof _ => 3 | .ldc_w _ => 3 | .ldc2_w _ => 3
  | _ => 1
def jj_off : Instr → Option Int
  | .goto o => some o | .ifCond _ o => some o | .if_icmp _ o => some o | .if_acmp _ o => some o | .ifnull o => some o | .ifnonnull o => some o
  | _ => none
def jj_kv : Instr → Int32
  | .iconst n => Int32.ofInt n
  | .bipush n => (Int8.ofInt n).toInt32
  | .sipush n => (Int16.ofInt n).toInt32
  | .iinc _ n => Int32.ofInt n
  | _ => 0
def jj_topl : Instr → Nat
  | .istore k => k + 1 | .astore k => k + 1 | .iinc k _ => k + 1
  | .istore_n k => k.val + 1 | .astore_n k => k.val + 1
  | .lstore k => k + 2 | .lstore_n k => k.val + 2
  | _ => 0
def jj_tgt (pc : Nat) (i : Instr) (tg : Nat) : Bool := match jj_off i with
  | some o => decide ((pc : Int) + o = (tg : Int))
  | none => true
def jj_ok (cc : ByteArray) (nL : Nat) (q : Nat × jjEnt) : Bool :=
  decide (decode cc q.1 = .ok (q.2.1, jj_len q.2.1)) && (decide (q.2.2.1 = q.1 + jj_len q.2.1) && (jj_tgt q.1 q.2.1 q.2.2.2.1 && (decide (jj_kv q.2.1 = q.2.2.2.2) && decide (jj_topl q.2.1 ≤ nL))))
def jj_look : jjTab → Nat → Option jjEnt
  | [], _ => none
  | (k, e) :: r, pc => match Nat.beq k pc with
    | true => some e
    | false => jj_look r pc
theorem jj_look_mem {tb : jjTab} {pc : Nat} {e : jjEnt} (h : jj_look tb pc = some e) : (pc, e) ∈ tb := by
  induction tb with
  | nil => cases h
  | cons q r ih =>
    obtain ⟨k, e1⟩ := q
    unfold jj_look at h
    split at h
    next hb =>
      have hk : k = pc := Nat.eq_of_beq_eq_true hb
      subst hk
      cases h
      exact List.mem_cons_self
    next => exact List.mem_cons_of_mem _ (ih h)
def jj_good (cc : ByteArray) (nL : Nat) (tb : jjTab) : Prop := tb.all (jj_ok cc nL) = true
theorem jj_good_at {cc : ByteArray} {nL : Nat} {tb : jjTab} (hg : jj_good cc nL tb) {pc : Nat} {i : Instr} {nx tg : Nat} {kv : Int32} (h : jj_look tb pc = some (i, nx, tg, kv)) :
    decode cc pc = .ok (i, jj_len i) ∧ nx = pc + jj_len i ∧ (∀ o, jj_off i = some o → (pc : Int) + o = (tg : Int)) ∧ jj_kv i = kv ∧ jj_topl i ≤ nL := by
  have h1 := List.all_eq_true.mp hg _ (jj_look_mem h)
  unfold jj_ok at h1
  simp only [Bool.and_eq_true, decide_eq_true_eq] at h1
  obtain ⟨a1, a2, a3, a4, a5⟩ := h1
  refine ⟨a1, a2, fun o ho => ?_, a4, a5⟩
  unfold jj_tgt at a3
  rw [ho] at a3
  exact of_decide_eq_true a3
def jj_get : jjLoc → Nat → Option Value
  | [], _ => none
  | (k, v) :: r, i => match Nat.beq k i with
    | true => some v
    | false => jj_get r i
theorem jj_get_mem {l : jjLoc} {i : Nat} {v : Value} (h : jj_get l i = some v) : (i, v) ∈ l := by
  induction l with
  | nil => cases h
  | cons q r ih =>
    obtain ⟨k, e1⟩ := q
    unfold jj_get at h
    split at h
    next hb =>
      have hk : k = i := Nat.eq_of_beq_eq_true hb
      subst hk
      cases h
      exact List.mem_cons_self
    next => exact List.mem_cons_of_mem _ (ih h)
def jj_ins (i : Nat) (v : Value) : jjLoc → jjLoc
  | [] => [(i, v)]
  | (k, w) :: r => match Nat.ble i k with
    | true => (i, v) :: (k, w) :: r
    | false => (k, w) :: jj_ins i v r
theorem jj_ins_mem {i : Nat} {v : Value} {l : jjLoc} {q : Nat × Value} (h : q ∈ jj_ins i v l) : q ∈ (i, v) :: l := by
  induction l with
  | nil => exact h
  | cons a r ih =>
    obtain ⟨k, w⟩ := a
    unfold jj_ins at h
    split at h
    next => exact h
    next =>
      rcases List.mem_cons.mp h with h | h
      · subst h
        exact List.mem_cons_of_mem _ List.mem_cons_self
      · rcases List.mem_cons.mp (ih h) with h | h
        · subst h
          exact List.mem_cons_self
        · exact List.mem_cons_of_mem _ (List.mem_cons_of_mem _ h)
def jj_set1 (i : Nat) (v : Value) (l : jjLoc) : jjLoc := jj_ins i v (l.filter (fun q => !(q.1 == i) && !(q.1 + 1 == i && q.2.category == 2)))
def jj_set2 (i : Nat) (v : Value) (l : jjLoc) : jjLoc := jj_ins i v (l.filter (fun q => !(q.1 == i) && (!(q.1 == i + 1) && !(q.1 + 1 == i && q.2.category == 2))))
theorem jj_has_of {ls : Array Slot} {n : Nat} {l l' : jjLoc} (h : lv_has ls n l) (hs : ∀ q ∈ l', q ∈ l) : lv_has ls n l' := ⟨h.1, h.2.1, fun q hq => h.2.2 q (hs q hq)⟩
def jj_one : Value → Bool
  | .long _ => false
  | .double _ => false
  | _ => true
theorem jj_one_cat {v : Value} (h : jj_one v = true) : v.category = 1 := by cases v <;> first | rfl | cases h
def jj_step (e : jjEnt) (lc : jjLoc) (st : List Value) : Option (Nat × jjLoc × List Value) := match e with
  | (i, nx, tg, kv) => match i with
    | .iconst _ => some (nx, lc, .int kv :: st)
    | .bipush _ => some (nx, lc, .int kv :: st)
    | .sipush _ => some (nx, lc, .int kv :: st)
    | .lconst n => some (nx, lc, .long (Int64.ofNat (n : Nat)) :: st)
    | .aconst_null => some (nx, lc, .null :: st)
    | .iload_n k => match jj_get lc k.val with
      | some (.int x) => some (nx, lc, .int x :: st)
      | _ => none
    | .iload k => match jj_get lc k with
      | some (.int x) => some (nx, lc, .int x :: st)
      | _ => none
    | .lload_n k => match jj_get lc k.val with
      | some (.long x) => some (nx, lc, .long x :: st)
      | _ => none
    | .lload k => match jj_get lc k with
      | some (.long x) => some (nx, lc, .long x :: st)
      | _ => none
    | .aload_n k => match jj_get lc k.val with
      | some (.ref x) => some (nx, lc, .ref x :: st)
      | some .null => some (nx, lc, .null :: st)
      | _ => none
    | .aload k => match jj_get lc k with
      | some (.ref x) => some (nx, lc, .ref x :: st)
      | some .null => some (nx, lc, .null :: st)
      | _ => none
    | .istore_n k => match st with
      | .int x :: r => some (nx, jj_set1 k.val (.int x) lc, r)
      | _ => none
    | .istore k => match st with
      | .int x :: r => some (nx, jj_set1 k (.int x) lc, r)
      | _ => none
    | .lstore_n k => match st with
      | .long x :: r => some (nx, jj_set2 k.val (.long x) lc, r)
      | _ => none
    | .lstore k => match st with
      | .long x :: r => some (nx, jj_set2 k (.long x) lc, r)
      | _ => none
    | .astore_n k => match st with
      | .ref x :: r => some (nx, jj_set1 k.val (.ref x) lc, r)
      | .null :: r => some (nx, jj_set1 k.val .null lc, r)
      | _ => none
    | .astore k => match st with
      | .ref x :: r => some (nx, jj_set1 k (.ref x) lc, r)
      | .null :: r => some (nx, jj_set1 k .null lc, r)
      | _ => none
    | .iinc k _ => match jj_get lc k with
      | some (.int x) => some (nx, jj_set1 k (.int (x + kv)) lc, st)
      | _ => none
    | .goto _ => some (tg, lc, st)
    | .ifnull _ => match st with
      | .ref _ :: r => some (nx, lc, r)
      | .null :: r => some (tg, lc, r)
      | _ => none
    | .ifnonnull _ => match st with
      | .ref _ :: r => some (tg, lc, r)
      | .null :: r => some (nx, lc, r)
      | _ => none
    | .iadd => match st with
      | .int y :: .int x :: r => some (nx, lc, .int (x + y) :: r)
      | _ => none
    | .isub => match st with
      | .int y :: .int x :: r => some (nx, lc, .int (x - y) :: r)
      | _ => none
    | .imul => match st with
      | .int y :: .int x :: r => some (nx, lc, .int (x * y) :: r)
      | _ => none
    | .iand => match st with
      | .int y :: .int x :: r => some (nx, lc, .int (x &&& y) :: r)
      | _ => none
    | .ior => match st with
      | .int y :: .int x :: r => some (nx, lc, .int (x ||| y) :: r)
      | _ => none
    | .ixor => match st with
      | .int y :: .int x :: r => some (nx, lc, .int (x ^^^ y) :: r)
      | _ => none
    | .ishl => match st with
      | .int y :: .int x :: r => some (nx, lc, .int (x <<< (y &&& 31)) :: r)
      | _ => none
    | .ishr => match st with
      | .int y :: .int x :: r => some (nx, lc, .int (x >>> (y &&& 31)) :: r)
      | _ => none
    | .ladd => match st with
      | .long y :: .long x :: r => some (nx, lc, .long (x + y) :: r)
      | _ => none
    | .lsub => match st with
      | .long y :: .long x :: r => some (nx, lc, .long (x - y) :: r)
      | _ => none
    | .lmul => match st with
      | .long y :: .long x :: r => some (nx, lc, .long (x * y) :: r)
      | _ => none
    | .lcmp => match st with
      | .long y :: .long x :: r => some (nx, lc, .int (lg_cmp x y) :: r)
      | _ => none
    | .ineg => match st with
      | .int x :: r => some (nx, lc, .int (-x) :: r)
      | _ => none
    | .i2l => match st with
      | .int x :: r => some (nx, lc, .long x.toInt64 :: r)
      | _ => none
    | .i2c => match st with
      | .int x :: r => some (nx, lc, .int (x.toUInt32 % 65536).toInt32 :: r)
      | _ => none
    | .i2b => match st with
      | .int x :: r => some (nx, lc, .int x.toInt8.toInt32 :: r)
      | _ => none
    | .dup => match st with
      | a :: r => match jj_one a with
        | true => some (nx, lc, a :: a :: r)
        | false => none
      | _ => none
    | .pop => match st with
      | a :: r => match jj_one a with
        | true => some (nx, lc, r)
        | false => none
      | _ => none
    | .dup_x1 => match st with
      | a :: b :: r => match jj_one a && jj_one b with
        | true => some (nx, lc, a :: b :: a :: r)
        | false => none
      | _ => none
    | .dup_x2 => match st with
      | a :: b :: d :: r => match jj_one a && (jj_one b && jj_one d) with
        | true => some (nx, lc, a :: b :: d :: a :: r)
        | false => none
      | _ => none
    | .dup2 => match st with
      | a :: b :: r => match jj_one a && jj_one b with
        | true => some (nx, lc, a :: b :: a :: b :: r)
        | false => none
      | _ => none
    | _ => none
def jj_next (tb : jjTab) (q : Nat × jjLoc × List Value) : Option (Nat × jjLoc × List Value) := match jj_look tb q.1 with
  | some e => jj_step e q.2.1 q.2.2
  | none => none
def jj_run (tb : jjTab) : Nat → Nat × jjLoc × List Value → Option (Nat × jjLoc × List Value)
  | 0, q => some q
  | n + 1, q => match jj_next tb q with
    | some q' => jj_run tb n q'
    | none => none
/-- a branch on ints: the condition, where it goes if so, where if not, the stack behind it -/
def jj_br (tb : jjTab) (pc : Nat) (st : List Value) : Option (Prop × Nat × Nat × List Value) := match jj_look tb pc with
  | some (i, nx, tg, _) => match i with
    | .ifCond cd _ => match st with
      | .int x :: r => match cd with
        | .eq => some (x = 0, tg, nx, r)
        | .ne => some (x = 0, nx, tg, r)
        | .lt => some (x < 0, tg, nx, r)
        | .ge => some (0 ≤ x, tg, nx, r)
        | .gt => some (0 < x, tg, nx, r)
        | .le => some (x ≤ 0, tg, nx, r)
      | _ => none
    | .if_icmp cd _ => match st with
      | .int y :: .int x :: r => match cd with
        | .eq => some (x = y, tg, nx, r)
        | .ne => some (x = y, nx, tg, r)
        | .lt => some (x < y, tg, nx, r)
        | .ge => some (y ≤ x, tg, nx, r)
        | .gt => some (y < x, tg, nx, r)
        | .le => some (x ≤ y, tg, nx, r)
      | _ => none
    | _ => none
  | none => none
section JJW
variable {p : Program} {l : Launch} {e : Env} {R : Room} {s : State} {m : MethodId} {args : Array Value} {below : List Frame} {meth : Method} {c : Code} {H : Heap} {locs : List Loc} {cells slots : Nat} {Q : State → Prop}
variable {cc : ByteArray} {nL pc pc' : Nat} {tb : jjTab} {lc lc' : jjLoc} {st st' : List Value} {ls : Array Slot}
/-- one simple step, at any heap -/
theorem jj_step_w (hx : p.tables.exec = Jvm.exec) (hb : c.code = cc) {en : jjEnt} (hd : decode cc pc = .ok (en.1, jj_len en.1)) (hn : en.2.1 = pc + jj_len en.1) (ht : ∀ o, jj_off en.1 = some o → (pc : Int) + o = (en.2.2.1 : Int)) (hk : jj_kv en.1 = en.2.2.2) (hm : jj_topl en.1 ≤ nL)
    (hs : jj_step en lc st = some (pc', lc', st')) (hl : lv_has ls nL lc) (k : ∀ ls', lv_has ls' nL lc' → W p l e R s m args below meth c H locs cells slots Q (F0 m pc' ls' st')) : W p l e R s m args below meth c H locs cells slots Q (F0 m pc ls st) := by
  obtain ⟨i, nx, tg, kv⟩ := en
  dsimp only at hd hn ht hk hm
  subst hn
  cases i
  case iconst n => cases hs; exact lv_iconst hx hb hd hk (k ls hl)
  case bipush n => cases hs; exact lv_bipush hx hb hd hk (k ls hl)
  case sipush n => cases hs; exact lv_sipush hx hb hd hk (k ls hl)
  case lconst n => cases hs; exact lv_lconst hx hb hd rfl (k ls hl)
  case aconst_null => cases hs; exact lv_null hx hb hd (k ls hl)
  case iload_n n =>
    dsimp only [jj_step] at hs
    split at hs
    next x hg => cases hs; exact lv_iload_n hx hb hd rfl (hl.2.2 _ (jj_get_mem hg)) (k ls hl)
    next => cases hs
  case iload n =>
    dsimp only [jj_step] at hs
    split at hs
    next x hg => cases hs; exact lv_iload hx hb hd (hl.2.2 _ (jj_get_mem hg)) (k ls hl)
    next => cases hs
  case lload_n n =>
    dsimp only [jj_step] at hs
    split at hs
    next x hg => cases hs; exact lv_lload_n hx hb hd rfl (hl.2.2 _ (jj_get_mem hg)) (k ls hl)
    next => cases hs
  case lload n =>
    dsimp only [jj_step] at hs
    split at hs
    next x hg => cases hs; exact lv_lload hx hb hd (hl.2.2 _ (jj_get_mem hg)) (k ls hl)
    next => cases hs
  case aload_n n =>
    dsimp only [jj_step] at hs
    split at hs
    next x hg => cases hs; exact lv_aload_n hx hb hd rfl (hl.2.2 _ (jj_get_mem hg)) (k ls hl)
    next hg => cases hs; exact lv_aload_nN hx hb hd rfl (hl.2.2 _ (jj_get_mem hg)) (k ls hl)
    next => cases hs
  case aload n =>
    dsimp only [jj_step] at hs
    split at hs
    next x hg => cases hs; exact lv_aload hx hb hd (hl.2.2 _ (jj_get_mem hg)) (k ls hl)
    next hg => cases hs; exact lv_aloadN hx hb hd (hl.2.2 _ (jj_get_mem hg)) (k ls hl)
    next => cases hs
  case istore_n n =>
    dsimp only [jj_step] at hs
    split at hs
    next x r => cases hs; exact lv_istore_n hx hb hd rfl hl hm rfl (fun ls' h' => k ls' (jj_has_of h' (fun q hq => jj_ins_mem hq)))
    next => cases hs
  case istore n =>
    dsimp only [jj_step] at hs
    split at hs
    next x r => cases hs; exact lv_istore hx hb hd hl hm rfl (fun ls' h' => k ls' (jj_has_of h' (fun q hq => jj_ins_mem hq)))
    next => cases hs
  case lstore_n n =>
    dsimp only [jj_step] at hs
    split at hs
    next x r => cases hs; exact lv_lstore_n hx hb hd rfl hl hm rfl (fun ls' h' => k ls' (jj_has_of h' (fun q hq => jj_ins_mem hq)))
    next => cases hs
  case lstore n =>
    dsimp only [jj_step] at hs
    split at hs
    next x r => cases hs; exact lv_lstore hx hb hd hl hm rfl (fun ls' h' => k ls' (jj_has_of h' (fun q hq => jj_ins_mem hq)))
    next => cases hs
  case astore_n n =>
    dsimp only [jj_step] at hs
    split at hs
    next x r => cases hs; exact lv_astore_n hx hb hd rfl hl hm rfl (fun ls' h' => k ls' (jj_has_of h' (fun q hq => jj_ins_mem hq)))
    next r => cases hs; exact lv_astore_nN hx hb hd rfl hl hm rfl (fun ls' h' => k ls' (jj_has_of h' (fun q hq => jj_ins_mem hq)))
    next => cases hs
  case astore n =>
    dsimp only [jj_step] at hs
    split at hs
    next x r => cases hs; exact lv_astore hx hb hd hl hm rfl (fun ls' h' => k ls' (jj_has_of h' (fun q hq => jj_ins_mem hq)))
    next r => cases hs; exact lv_astoreN hx hb hd hl hm rfl (fun ls' h' => k ls' (jj_has_of h' (fun q hq => jj_ins_mem hq)))
    next => cases hs
  case iinc n z =>
    dsimp only [jj_step] at hs
    split at hs
    next x hg =>
      cases hs
      obtain ⟨q, hq⟩ := List.getElem?_of_mem (jj_get_mem hg)
      exact lv_iinc hx hb hd hl hq (by rw [← hk]; rfl) hm rfl (fun ls' h' => k ls' (jj_has_of h' (fun q hq => jj_ins_mem hq)))
    next => cases hs
  case goto o => cases hs; exact lv_goto hx hb hd (ht o rfl) (k ls hl)
  case ifnull o =>
    dsimp only [jj_step] at hs
    split at hs
    next x r => cases hs; exact lv_ifnull hx hb hd (k ls hl)
    next r => cases hs; exact lv_ifnullN hx hb hd (ht o rfl) (k ls hl)
    next => cases hs
  case ifnonnull o =>
    dsimp only [jj_step] at hs
    split at hs
    next x r => cases hs; exact lv_ifnonnull hx hb hd (ht o rfl) (k ls hl)
    next r => cases hs; exact lv_ifnonnullN hx hb hd (k ls hl)
    next => cases hs
  case iadd =>
    dsimp only [jj_step] at hs
    split at hs
    next y x r => cases hs; exact lv_iadd hx hb hd (k ls hl)
    next => cases hs
  case isub =>
    dsimp only [jj_step] at hs
    split at hs
    next y x r => cases hs; exact lv_isub hx hb hd (k ls hl)
    next => cases hs
  case imul =>
    dsimp only [jj_step] at hs
    split at hs
    next y x r => cases hs; exact lv_imul hx hb hd (k ls hl)
    next => cases hs
  case iand =>
    dsimp only [jj_step] at hs
    split at hs
    next y x r => cases hs; exact lv_iand hx hb hd (k ls hl)
    next => cases hs
  case ior =>
    dsimp only [jj_step] at hs
    split at hs
    next y x r => cases hs; exact lv_ior hx hb hd (k ls hl)
    next => cases hs
  case ixor =>
    dsimp only [jj_step] at hs
    split at hs
    next y x r => cases hs; exact lv_ixor hx hb hd (k ls hl)
    next => cases hs
  case ishl =>
    dsimp only [jj_step] at hs
    split at hs
    next y x r => cases hs; exact lv_ishl hx hb hd (k ls hl)
    next => cases hs
  case ishr =>
    dsimp only [jj_step] at hs
    split at hs
    next y x r => cases hs; exact lv_ishr hx hb hd (k ls hl)
    next => cases hs
  case ladd =>
    dsimp only [jj_step] at hs
    split at hs
    next y x r => cases hs; exact lv_ladd hx hb hd (k ls hl)
    next => cases hs
  case lsub =>
    dsimp only [jj_step] at hs
    split at hs
    next y x r => cases hs; exact lv_lsub hx hb hd (k ls hl)
    next => cases hs
  case lmul =>
    dsimp only [jj_step] at hs
    split at hs
    next y x r => cases hs; exact lv_lmul hx hb hd (k ls hl)
    next => cases hs
  case lcmp =>
    dsimp only [jj_step] at hs
    split at hs
    next y x r => cases hs; exact W.lcmp hx hb hd (k ls hl)
    next => cases hs
  case ineg =>
    dsimp only [jj_step] at hs
    split at hs
    next x r => cases hs; exact lv_ineg hx hb hd (k ls hl)
    next => cases hs
  case i2l =>
    dsimp only [jj_step] at hs
    split at hs
    next x r => cases hs; exact lv_i2l hx hb hd rfl (k ls hl)
    next => cases hs
  case i2c =>
    dsimp only [jj_step] at hs
    split at hs
    next x r => cases hs; exact lv_i2c hx hb hd rfl (k ls hl)
    next => cases hs
  case i2b =>
    dsimp only [jj_step] at hs
    split at hs
    next x r => cases hs; exact lv_i2b hx hb hd rfl (k ls hl)
    next => cases hs
  case dup =>
    dsimp only [jj_step] at hs
    split at hs
    next a r =>
      split at hs
      next h1 => cases hs; exact lv_dup hx hb hd (jj_one_cat h1) (k ls hl)
      next => cases hs
    next => cases hs
  case pop =>
    dsimp only [jj_step] at hs
    split at hs
    next a r =>
      split at hs
      next h1 => cases hs; exact lv_pop hx hb hd (jj_one_cat h1) (k ls hl)
      next => cases hs
    next => cases hs
  case dup_x1 =>
    dsimp only [jj_step] at hs
    split at hs
    next a b r =>
      split at hs
      next h1 =>
        cases hs
        simp only [Bool.and_eq_true] at h1
        exact lv_dup_x1 hx hb hd (jj_one_cat h1.1) (jj_one_cat h1.2) (k ls hl)
      next => cases hs
    next => cases hs
  case dup_x2 =>
    dsimp only [jj_step] at hs
    split at hs
    next a b d r =>
      split at hs
      next h1 =>
        cases hs
        simp only [Bool.and_eq_true] at h1
        exact lv_dup_x2 hx hb hd (jj_one_cat h1.1) (jj_one_cat h1.2.1) (jj_one_cat h1.2.2) (k ls hl)
      next => cases hs
    next => cases hs
  case dup2 =>
    dsimp only [jj_step] at hs
    split at hs
    next a b r =>
      split at hs
      next h1 =>
        cases hs
        simp only [Bool.and_eq_true] at h1
        exact lv_dup2_11 hx hb hd (jj_one_cat h1.1) (jj_one_cat h1.2) (k ls hl)
      next => cases hs
    next => cases hs
  all_goals (dsimp only [jj_step] at hs; cases hs)
theorem jj_run_w (hx : p.tables.exec = Jvm.exec) (hb : c.code = cc) (hg : jj_good cc nL tb) (n : Nat) : ∀ {pc : Nat} {lc : jjLoc} {st : List Value} {ls : Array Slot}, jj_run tb n (pc, lc, st) = some (pc', lc', st') → lv_has ls nL lc → (∀ ls', lv_has ls' nL lc' → W p l e R s m args below meth c H locs cells slots Q (F0 m pc' ls' st')) → W p l e R s m args below meth c H locs cells slots Q (F0 m pc ls st) := by
  induction n with
  | zero =>
    intro pc lc st ls h hl k
    cases h
    exact k ls hl
  | succ n ih =>
    intro pc lc st ls h hl k
    unfold jj_run at h
    split at h
    next q' hq =>
      obtain ⟨pc1, lc1, st1⟩ := q'
      unfold jj_next at hq
      split at hq
      next en he =>
        obtain ⟨i, nx, tg, kv⟩ := en
        obtain ⟨a1, a2, a3, a4, a5⟩ := jj_good_at hg he
        exact jj_step_w hx hb (en := (i, nx, tg, kv)) a1 a2 a3 a4 a5 hq hl (fun ls' h' => ih h h' k)
      next => cases hq
    next => cases h
theorem jj_br_w (hx : p.tables.exec = Jvm.exec) (hb : c.code = cc) (hg : jj_good cc nL tb) {P : Prop} {t1 t2 : Nat} {r : List Value} (hs : jj_br tb pc st = some (P, t1, t2, r))
    (kt : P → W p l e R s m args below meth c H locs cells slots Q (F0 m t1 ls r)) (kf : ¬ P → W p l e R s m args below meth c H locs cells slots Q (F0 m t2 ls r)) : W p l e R s m args below meth c H locs cells slots Q (F0 m pc ls st) := by
  unfold jj_br at hs
  split at hs
  next i nx tg kv he =>
    obtain ⟨a1, a2, a3, a4, a5⟩ := jj_good_at hg he
    subst a2
    split at hs
    next cd o =>
      split at hs
      next x r' =>
        have ht := a3 o rfl
        cases cd
        · cases hs; exact lv_if_eq hx hb a1 ht kt kf
        · cases hs; exact lv_if_ne hx hb a1 ht kf kt
        · cases hs; exact lv_if_lt hx hb a1 ht kt kf
        · cases hs; exact lv_if_ge hx hb a1 ht kt kf
        · cases hs; exact lv_if_gt hx hb a1 ht kt kf
        · cases hs; exact lv_if_le hx hb a1 ht kt kf
      next => cases hs
    next cd o =>
      split at hs
      next y x r' =>
        have ht := a3 o rfl
        cases cd
        · cases hs; exact lv_icmp_eq hx hb a1 ht kt kf
        · cases hs; exact lv_icmp_ne hx hb a1 ht kf kt
        · cases hs; exact lv_icmp_lt hx hb a1 ht kt kf
        · cases hs; exact lv_icmp_ge hx hb a1 ht kt kf
        · cases hs; exact lv_icmp_gt hx hb a1 ht kt kf
        · cases hs; exact lv_icmp_le hx hb a1 ht kt kf
      next => cases hs
    next => cases hs
  next => cases hs
end JJW
end
section
/-! The worlds as functions: what the heap holds, by address; a method's walk over such a world; contracts of one shape. -/
abbrev jjHp : Type := Nat → Option va_E
def jj_A (base : Nat) : Nat → Prop := fun q => base ≤ q
def jj_W (D : va_G) (base : Nat) (h : jjHp) (H : Heap) : Prop := ∃ ws : va_W, va_P D jj_cl ws H ∧ va_D (jj_A base) ws ∧ ∀ a e, h a = some e → ∃ q : Nat, ws[q]? = some (a, e)
def jj_up (h : jjHp) (a : Nat) (e : va_E) : jjHp := fun b => if b = a then some e else h b
theorem jj_up_s {h : jjHp} {a : Nat} {e : va_E} : jj_up h a e a = some e := if_pos rfl
theorem jj_up_n {h : jjHp} {a b : Nat} {e : va_E} (hn : b ≠ a) : jj_up h a e b = h b := if_neg hn
theorem jj_up_f {h : jjHp} {a b : Nat} {e e' : va_E} (hf : h a = none) (hb : h b = some e') : jj_up h a e b = some e' := (jj_up_n (fun q => by subst q; rw [hf] at hb; cases hb)).trans hb
theorem jj_set_in {A : Nat → Prop} {h : jjHp} {ws : va_W} {q0 a : Nat} {e0 e1 : va_E} (hh : ∀ a e, h a = some e → ∃ q : Nat, ws[q]? = some (a, e)) (hq : ws[q0]? = some (a, e0)) : ∀ b e, jj_up h a e1 b = some e → ∃ q : Nat, (ws.set q0 (a, e1))[q]? = some (b, e) := by
  intro b e hb
  have hl : q0 < ws.length := (List.getElem?_eq_some_iff.mp hq).1
  by_cases hba : b = a
  · subst hba
    rw [jj_up_s] at hb
    cases hb
    exact ⟨q0, List.getElem?_set_self hl⟩
  · rw [jj_up_n hba] at hb
    obtain ⟨q, h1⟩ := hh b e hb
    refine ⟨q, ?_⟩
    rw [List.getElem?_set_ne (fun z => hba ?_)]
    · exact h1
    · subst z
      rw [hq] at h1
      exact (congrArg Prod.fst (Option.some.inj h1)).symm
theorem jj_push_in {h : jjHp} {ws : va_W} {a : Nat} {e1 : va_E} (hh : ∀ a e, h a = some e → ∃ q : Nat, ws[q]? = some (a, e)) : ∀ b e, jj_up h a e1 b = some e → ∃ q : Nat, (ws ++ [(a, e1)])[q]? = some (b, e) := by
  intro b e hb
  by_cases hba : b = a
  · subst hba
    rw [jj_up_s] at hb
    cases hb
    exact ⟨ws.length, by simp⟩
  · rw [jj_up_n hba] at hb
    obtain ⟨q, h1⟩ := hh b e hb
    exact ⟨q, by rw [List.getElem?_append_left (List.getElem?_eq_some_iff.mp h1).1]; exact h1⟩
theorem jj_fresh {A : Nat → Prop} {h : jjHp} {ws : va_W} {a : Nat} {e1 : va_E} (hh : ∀ a e, h a = some e → ∃ q : Nat, ws[q]? = some (a, e)) (hD : va_D A (ws ++ [(a, e1)])) : h a = none := by
  cases hv : h a with
  | none => rfl
  | some e =>
    obtain ⟨q, h1⟩ := hh a e hv
    have hl := (List.getElem?_eq_some_iff.mp h1).1
    have h2 : (ws ++ [(a, e1)])[q]? = some (a, e) := by rw [List.getElem?_append_left hl]; exact h1
    have h3 : (ws ++ [(a, e1)])[ws.length]? = some (a, e1) := by simp
    have := hD.1 q ws.length _ _ h2 h3 rfl
    omega
/-- a room for d frames -/
def jj_rm (d mc ms : Nat) : Room := { frames := d, cells := mc, slots := ms, locals := 64 * d }
def jj_E (D : va_G) (aC : Nat → ClassId) (base : Nat) (U : State) : Prop :=
  va_K D jj_cl (jj_tys aC) U ∧ (∀ q ∈ jj_nF, va_Nw (.fieldLinkNest q.1 q.2.1 q.2.2.1 q.2.2.2.1 q.2.2.2.2.1 q.2.2.2.2.2) U) ∧ (∀ q ∈ jj_nM, va_Nw (.methodLinkNest q.1 q.2.1 q.2.2.1 q.2.2.2) U) ∧ (∀ x ∈ jj_dc, va_Nw (.declares x) U) ∧ (∀ C ∈ jj_ao, va_AO C U) ∧ va_Z "java/lang/String" "COMPACT_STRINGS" "Z" (.int 1) (jj_A base) U U.heap ∧ base ≤ U.heap.size ∧ va_Zq "jdk/internal/util/Preconditions" "SIOOBE_FORMATTER" "Ljava/util/function/BiFunction;" (jj_A base) U U.heap ∧ vk_R "BeanServer" 52 "" (aC 100) U ∧ vk_R "BeanServer$Pattern" 26 "" (aC 100) U ∧ vk_S 1 [0] [[]] (fun _ => aC 100) (fun _ => aC 101) (jj_A base) U U.heap ∧ ∀ q ∈ jj_ca, va_Nw (.castable q.1 q.2) U
theorem jj_E.same {D : va_G} {aC : Nat → ClassId} {base : Nat} {u U : State} (h : jj_E D aC base u) (hv : u.vm = U.vm) (hh : U.heap = u.heap) : jj_E D aC base U := by
  obtain ⟨h1, h2, h3, h4, h5, h6, h7, h8, h9, h10, h11, h12⟩ := h
  have hal : u.vm.Alike U.vm := by rw [hv]; exact Vm.Alike.refl _
  exact ⟨va_K.moved hal h1, fun q hq => va_Nw.same rfl hv (h2 q hq), fun q hq => va_Nw.same rfl hv (h3 q hq), fun q hq => va_Nw.same rfl hv (h4 q hq), fun q hq => va_AO.moved hal (h5 q hq), by rw [hh]; exact va_Z.moved hal h6, by rw [hh]; exact h7, by rw [hh]; exact va_Zq.moved hal h8, vk_R.same hv.symm h9, vk_R.same hv.symm h10, by rw [hh]; exact vk_S.moved hal h11, fun q hq => va_Nw.same rfl hv (h12 q hq)⟩
theorem jj_E.moved {D : va_G} {aC : Nat → ClassId} {base : Nat} {u U : State} (h : jj_E D aC base u) (hW : u.WarmedH U.vm) (hz : u.heap.size ≤ U.heap.size) (hk : ∀ q : Nat, q < u.heap.size → ¬ jj_A base q → U.heap[q]? = u.heap[q]?) : jj_E D aC base U := by
  obtain ⟨h1, h2, h3, h4, h5, h6, h7, h8, h9, h10, h11, h12⟩ := h
  have hal : u.vm.Alike U.vm := hW.alike
  exact ⟨va_K.moved hal h1, fun q hq => va_Nw.warmF hW (h2 q hq), fun q hq => va_Nw.warmM hW (h3 q hq), fun q hq => va_Nw.warmD hW (h4 q hq), fun q hq => va_AO.moved hal (h5 q hq), va_Z.kept (va_Z.moved hal h6) hk, Nat.le_trans h7 hz, va_Zq.kept (va_Zq.moved hal h8) hk, vk_R.warm hW h9, vk_R.warm hW h10, vk_S.kept (vk_S.moved hal h11) hk, fun q hq => va_Nw.warmC hW (h12 q hq)⟩
/-- a contract's end: what is returned and the world behind it -/
def jj_Q (D : va_G) (base : Nat) (Post : Option Value → jjHp → Prop) : Array Value → State → Outcome → State → Prop := fun _ st o t => (∃ (r : Option Value) (h' : jjHp), o = .returned r ∧ Post r h' ∧ jj_W D base h' t.heap) ∧ va_F (jj_A base) st t
/-- the contract of a method: from the arguments av and the world h it returns, with Post of its answer and its world; d frames, mc cells, ms slots at most -/
def jj_Ct (l : Launch) (D : va_G) (aC : Nat → ClassId) (base : Nat) (y : MethodName) (b : ByteArray) (nL : Nat) (ret : Option FieldType) (d mc ms : Nat) (av : List Value) (h : jjHp) (Post : Option Value → jjHp → Prop) : Prop :=
  Met l y (.code y b nL ret :: jj_gw) (jj_rm d mc ms) (va_Pc av (fun U => jj_E D aC base U ∧ jj_W D base h U.heap)) (jj_Q D base Post) mc ms (jj_A base)
/-- the walk at a place of the method, over a world -/
def jj_J (p : Program) (l : Launch) (e : Env) (R : Room) (s : State) (m : MethodId) (args : Array Value) (below : List Frame) (meth : Method) (c : Code) (D : va_G) (base nL : Nat) (Q : State → Prop) (pc : Nat) (lc : jjLoc) (st : List Value) (h : jjHp) (kc ks : Nat) : Prop :=
  ∀ (H : Heap) (locs : List Loc) (ls : Array Slot), jj_W D base h H → va_S (jj_A base) s.heap H locs → lv_has ls nL lc → W p l e R s m args below meth c H locs kc ks Q (F0 m pc ls st)
/-- what holds all through the body of a method -/
def jj_C (p : Program) (s : State) (m : MethodId) (args : Array Value) (meth : Method) (c : Code) (y : MethodName) (cc : ByteArray) (nL : Nat) (ret : Option FieldType) (tb : jjTab) (D : va_G) (aC : Nat → ClassId) (base : Nat) : Prop :=
  p.tables.exec = Jvm.exec ∧ c.code = cc ∧ c.maxLocals = nL ∧ s.vm.findClass y.cls = some m.cls ∧ (∀ w ∈ jj_gw, w.before args s = true) ∧ jj_good cc nL tb ∧ jj_E D aC base s ∧ meth.locks = false ∧ (y.name = "<init>" → meth.name = "<init>") ∧ meth.sig.returnType = ret
theorem jj_gw_good : ∀ w ∈ jj_gw, w ∈ jj_gw ∧ ((w.onTables && w.keeps) = true ∨ ∃ ty, w = .arrayClass ty) := fun w hw => ⟨hw, good_of_word (List.mem_filter.mp hw).2⟩
theorem jj_gw_in {y : MethodName} {b : ByteArray} {nL : Nat} {ret : Option FieldType} (h : Cond.code y b nL ret ∈ jj_gw) : GoodIn jj_gw (.code y b nL ret :: jj_gw) := by
  intro w hw
  rcases List.mem_cons.mp hw with rfl | hw
  · exact jj_gw_good _ h
  · exact jj_gw_good w hw
theorem jj_blind {D : va_G} {aC : Nat → ClassId} {base : Nat} {av : List Value} {h : jjHp} : FrameBlind (va_Pc av (fun U => jj_E D aC base U ∧ jj_W D base h U.heap)) := fun a U g mk q => ⟨q.1, q.2.1.same rfl rfl, q.2.2⟩
section JJL
variable {p : Program} {l : Launch} {e : Env} {R : Room} {s : State} {m : MethodId} {args : Array Value} {below : List Frame} {meth : Method} {c : Code} {Q : State → Prop} {y : MethodName} {cc : ByteArray} {nL : Nat} {ret : Option FieldType} {tb : jjTab} {D : va_G} {aC : Nat → ClassId} {base : Nat}
variable {pc pc' nx tg idx kc ks mc ms d : Nat} {kv : Int32} {lc lc' : jjLoc} {st st' rest : List Value} {h : jjHp} {a : Nat}
theorem jj_start {b : ByteArray} {av : List Value} {Post : Option Value → jjHp → Prop} (hy : plainName y.cls = true) (hg : jj_good b nL tb) (hn : (lg_sl av).length ≤ nL)
    (body : ∀ (p : Program) (e : Env) (s : State) (m : MethodId) (args : Array Value) (below : List Frame) (meth : Method) (c : Code), jj_C p s m args meth c y b nL ret tb D aC base → jj_J p l e (jj_rm d mc ms) s m args below meth c D base nL (MQ below (jj_Q D base Post) args s mc ms (jj_A base)) 0 (lv_args 0 av) [] h 0 0) : jj_Ct l D aC base y b nL ret d mc ms av h Post := by
  refine Met.ofW (cc := b) (maxL := nL) (ret := ret) hy rfl ?_
  intro p e s m args below meth c s₁ B hml hv
  obtain ⟨rfl, hE, hw⟩ := hv
  have hts := atoms_spec (ws := .code y b nL ret :: jj_gw) B.pre
  have C : jj_C p s m av.toArray meth c y b nL ret tb D aC base := ⟨B.exec, B.bytes, hml, findClass_of_methodNamed B.named, fun w h => hts w (List.mem_cons_of_mem _ h), hg, hE, B.notSynchronized, fun hi => (name_of_methodNamed B.named B.method).1.trans hi, B.returns⟩
  have hl := lv_entry av (n := nL) hn
  rw [lg_entry_eq]
  exact body p e s m _ below meth c C s.heap [] _ hw va_S.rf hl
theorem jj_go (C : jj_C p s m args meth c y cc nL ret tb D aC base) (n : Nat) (hs : jj_run tb n (pc, lc, st) = some (pc', lc', st')) (k : jj_J p l e R s m args below meth c D base nL Q pc' lc' st' h kc ks) : jj_J p l e R s m args below meth c D base nL Q pc lc st h kc ks :=
  fun H locs ls hw hS hl => jj_run_w C.1 C.2.1 C.2.2.2.2.2.1 n hs hl (fun ls' h' => k H locs ls' hw hS h')
theorem jj_if (C : jj_C p s m args meth c y cc nL ret tb D aC base) {P : Prop} {t1 t2 : Nat} (hs : jj_br tb pc st = some (P, t1, t2, st')) (kt : P → jj_J p l e R s m args below meth c D base nL Q t1 lc st' h kc ks) (kf : ¬ P → jj_J p l e R s m args below meth c D base nL Q t2 lc st' h kc ks) : jj_J p l e R s m args below meth c D base nL Q pc lc st h kc ks :=
  fun H locs ls hw hS hl => jj_br_w C.1 C.2.1 C.2.2.2.2.2.1 hs (fun z => kt z H locs ls hw hS hl) (fun z => kf z H locs ls hw hS hl)
/-- fewer locals, a wider count -/
theorem jj_less (hs : ∀ q ∈ lc', q ∈ lc) (hc : kc ≤ mc) (hd : ks ≤ ms) (k : jj_J p l e R s m args below meth c D base nL Q pc lc' st h mc ms) : jj_J p l e R s m args below meth c D base nL Q pc lc st h kc ks :=
  fun H locs ls hw hS hl => W.widen hc hd (k H locs ls hw hS (jj_has_of hl hs))
theorem jj_idiv (C : jj_C p s m args meth c y cc nL ret tb D aC base) {x z : Int32} (hf : jj_look tb pc = some (.idiv, nx, tg, kv)) (hz : ¬ z = 0) (k : jj_J p l e R s m args below meth c D base nL Q nx lc (.int (x / z) :: st) h kc ks) : jj_J p l e R s m args below meth c D base nL Q pc lc (.int z :: .int x :: st) h kc ks := by
  obtain ⟨a1, a2, -⟩ := jj_good_at C.2.2.2.2.2.1 hf
  subst a2
  exact fun H locs ls hw hS hl => lv_idiv C.1 C.2.1 a1 hz (k H locs ls hw hS hl)
theorem jj_irem (C : jj_C p s m args meth c y cc nL ret tb D aC base) {x z : Int32} (hf : jj_look tb pc = some (.irem, nx, tg, kv)) (hz : ¬ z = 0) (k : jj_J p l e R s m args below meth c D base nL Q nx lc (.int (x - x / z * z) :: st) h kc ks) : jj_J p l e R s m args below meth c D base nL Q pc lc (.int z :: .int x :: st) h kc ks := by
  obtain ⟨a1, a2, -⟩ := jj_good_at C.2.2.2.2.2.1 hf
  subst a2
  exact fun H locs ls hw hS hl => lv_irem C.1 C.2.1 a1 hz (k H locs ls hw hS hl)
theorem jj_ldiv (C : jj_C p s m args meth c y cc nL ret tb D aC base) {x z : Int64} (hf : jj_look tb pc = some (.ldiv, nx, tg, kv)) (hz : ¬ z = 0) (k : jj_J p l e R s m args below meth c D base nL Q nx lc (.long (x / z) :: st) h kc ks) : jj_J p l e R s m args below meth c D base nL Q pc lc (.long z :: .long x :: st) h kc ks := by
  obtain ⟨a1, a2, -⟩ := jj_good_at C.2.2.2.2.2.1 hf
  subst a2
  exact fun H locs ls hw hS hl => lv_ldiv C.1 C.2.1 a1 hz (k H locs ls hw hS hl)
-- the ends
variable {Post : Option Value → jjHp → Prop}
theorem jj_iret (C : jj_C p s m args meth c y cc nL ret tb D aC base) {v : Int32} {ty : FieldType} (hf : jj_look tb pc = some (.ireturn, nx, tg, kv)) (hr : ret = some ty) (hn : narrow ty (.int v) = .int v) (hc : kc ≤ mc) (hd : ks ≤ ms) (hp : Post (some (.int v)) h) : jj_J p l e R s m args below meth c D base nL (MQ below (jj_Q D base Post) args s mc ms (jj_A base)) pc lc [.int v] h kc ks := by
  obtain ⟨hx, hb, -, -, -, hg, -, hlk, -, hret⟩ := C
  obtain ⟨a1, a2, -⟩ := jj_good_at hg hf
  exact fun H locs ls hw hS hl => W.widen hc hd (W.zret hx hb (hret.trans hr) hn (fun t ht hW => ⟨⟨_, h, rfl, hp, by rw [ht]; exact hw⟩, hS.F ht⟩) hS.2.2 a1 hlk)
theorem jj_vret (C : jj_C p s m args meth c y cc nL ret tb D aC base) (hf : jj_look tb pc = some (.return_, nx, tg, kv)) (hr : ret = none) (hc : kc ≤ mc) (hd : ks ≤ ms) (hp : Post none h) : jj_J p l e R s m args below meth c D base nL (MQ below (jj_Q D base Post) args s mc ms (jj_A base)) pc lc [] h kc ks := by
  obtain ⟨hx, hb, -, -, -, hg, -, hlk, -, hret⟩ := C
  obtain ⟨a1, a2, -⟩ := jj_good_at hg hf
  exact fun H locs ls hw hS hl => W.widen hc hd (W.vret hx hb (hret.trans hr) (fun t ht hW => ⟨⟨_, h, rfl, hp, by rw [ht]; exact hw⟩, hS.F ht⟩) hS.2.2 a1 hlk)
theorem jj_lret (C : jj_C p s m args meth c y cc nL ret tb D aC base) {v : Int64} (hf : jj_look tb pc = some (.lreturn, nx, tg, kv)) (hr : ret = some .long) (hc : kc ≤ mc) (hd : ks ≤ ms) (hp : Post (some (.long v)) h) : jj_J p l e R s m args below meth c D base nL (MQ below (jj_Q D base Post) args s mc ms (jj_A base)) pc lc [.long v] h kc ks := by
  obtain ⟨hx, hb, -, -, -, hg, -, hlk, -, hret⟩ := C
  obtain ⟨a1, a2, -⟩ := jj_good_at hg hf
  exact fun H locs ls hw hS hl => W.widen hc hd (W.lret hx hb (hret.trans hr) (fun t ht hW => ⟨⟨_, h, rfl, hp, by rw [ht]; exact hw⟩, hS.F ht⟩) hS.2.2 a1 hlk)
theorem jj_aret (C : jj_C p s m args meth c y cc nL ret tb D aC base) {v : Value} {rt : FieldType} (hf : jj_look tb pc = some (.areturn, nx, tg, kv)) (hr : ret = some rt) (hrt : (∃ n, rt = .object n) ∨ ∃ t, rt = .array t) (hv : v = .null ∨ ∃ a, v = .ref a) (hc : kc ≤ mc) (hd : ks ≤ ms) (hp : Post (some v) h) : jj_J p l e R s m args below meth c D base nL (MQ below (jj_Q D base Post) args s mc ms (jj_A base)) pc lc [v] h kc ks := by
  obtain ⟨hx, hb, -, -, -, hg, -, hlk, -, hret⟩ := C
  obtain ⟨a1, a2, -⟩ := jj_good_at hg hf
  exact fun H locs ls hw hS hl => W.widen hc hd (W.aret hx hb (hret.trans hr) hrt hv (fun t ht hW => ⟨⟨_, h, rfl, hp, by rw [ht]; exact hw⟩, hS.F ht⟩) hS.2.2 a1 hlk)
end JJL
/-! fields -/
/-- a class of the list: its name, its fields, their number and types -/
def jj_CL (ci : Nat) (C : String) (T : u_T) (N : Nat) (t0 : Nat → FieldType) : Prop := jj_cl[ci]? = some (C, T, N) ∧ (∀ w ∈ u_ws C T N, w ∈ jj_gw) ∧ (∀ k, k < N → parseFieldDescriptor (T k).2.2.1 = some (t0 k)) ∧ ∀ a, a < N → ∀ b, b < N → a ≠ b → (T a).2.1 ≠ (T b).2.1
/-- a field that a class's constant pool names: field k of class ci, of type ty, final or not -/
def jj_FL (own : String) (idx ci k : Nat) (ty : FieldType) (fin : Bool) : Prop := ∃ (C : String) (T : u_T) (N : Nat) (t0 : Nat → FieldType) (ref : String), jj_CL ci C T N t0 ∧ k < N ∧ t0 k = ty ∧ (T k).2.2.2 = fin ∧ (Cond.fieldLink own idx ref (T k).2.1 (T k).2.2.1 ∈ jj_gw ∨ ∃ host : String, (own, idx, ref, (T k).2.1, (T k).2.2.1, host) ∈ jj_nF) ∧ (ref = (T k).1 ∨ Cond.sameField ref (T k).1 (T k).2.1 (T k).2.2.1 ∈ jj_gw)
/-- the same, by a link of the class's own -/
def jj_FP (own : String) (idx ci k : Nat) (ty : FieldType) (fin : Bool) : Prop := ∃ (C : String) (T : u_T) (N : Nat) (t0 : Nat → FieldType) (ref : String), jj_CL ci C T N t0 ∧ k < N ∧ t0 k = ty ∧ (T k).2.2.2 = fin ∧ (fin = true → (T k).1 = own) ∧ Cond.fieldLink own idx ref (T k).2.1 (T k).2.2.1 ∈ jj_gw ∧ (ref = (T k).1 ∨ Cond.sameField ref (T k).1 (T k).2.1 (T k).2.2.1 ∈ jj_gw)
theorem jj_FP.fl {own : String} {idx ci k : Nat} {ty : FieldType} {fin : Bool} (h : jj_FP own idx ci k ty fin) : jj_FL own idx ci k ty fin := by
  obtain ⟨C, T, N, t0, ref, h1, h2, h3, h4, h5, h6, h7⟩ := h
  exact ⟨C, T, N, t0, ref, h1, h2, h3, h4, Or.inl h6, h7⟩
section JJF
variable {p : Program} {l : Launch} {e : Env} {R : Room} {s : State} {m : MethodId} {args : Array Value} {below : List Frame} {meth : Method} {c : Code} {Q : State → Prop} {y : MethodName} {cc : ByteArray} {nL : Nat} {ret : Option FieldType} {tb : jjTab} {D : va_G} {aC : Nat → ClassId} {base : Nat}
variable {pc pc' nx tg idx kc ks mc ms d : Nat} {kv : Int32} {lc lc' : jjLoc} {st st' rest : List Value} {h : jjHp} {a : Nat}
theorem jj_same {own ref o n ds : String} {args : Array Value} {s : State} (hts : ∀ w ∈ jj_gw, w.before args s = true) (h : ref = o ∨ Cond.sameField ref o n ds ∈ jj_gw) : ∀ x, s.fieldFound? o n ds = some x → s.fieldFound? ref n ds = some x := by
  rcases h with rfl | h
  · exact fun x hx => hx
  · exact fun x hx => u_same (hts _ h) x hx
theorem jj_getf (C : jj_C p s m args meth c y cc nL ret tb D aC base) {ci k : Nat} {ty : FieldType} {fin : Bool} {fs : List Value} {v : Value} (hf : jj_look tb pc = some (.getfield idx, nx, tg, kv)) (q : jj_FL y.cls idx ci k ty fin) (ho : h a = some (.inr (ci, fs))) (hv : fs[k]? = some v) (kk : jj_J p l e R s m args below meth c D base nL Q nx lc (v :: st) h kc ks) : jj_J p l e R s m args below meth c D base nL Q pc lc (.ref a :: st) h kc ks := by
  obtain ⟨hx, hb, -, hown, hts, hg, hE, -, -, -⟩ := C
  obtain ⟨a1, a2, -⟩ := jj_good_at hg hf
  subst a2
  obtain ⟨CN, T, N, t0, ref, ⟨hc, hin, hty, hnm⟩, hk, -, -, hlk, hsm⟩ := q
  intro H locs ls hw hS hl
  have hh := hw
  obtain ⟨ws, hP, hD, hi⟩ := hh
  obtain ⟨q0, hq0⟩ := hi a _ ho
  have kk := kk H locs ls hw hS hl
  rcases hlk with hlk | ⟨host, hlk⟩
  · exact va_get hx hb hts hin hown hE.1 hP q0 hq0 hc k hk (hts _ hlk) (jj_same (own := y.cls) hts hsm) hv a1 kk
  · exact va_getN hx hb hts hin hown hE.1 hP q0 hq0 hc k hk (va_Nw.use rfl (hE.2.1 _ hlk)) (jj_same (own := y.cls) hts hsm) hv a1 kk
theorem jj_putf (C : jj_C p s m args meth c y cc nL ret tb D aC base) {ci k : Nat} {ty : FieldType} {fs : List Value} {v : Value} (hf : jj_look tb pc = some (.putfield idx, nx, tg, kv)) (q : jj_FL y.cls idx ci k ty false) (ho : h a = some (.inr (ci, fs))) (hn : narrow ty v = v) (hfit : fits ty v = true) (hlen : k < fs.length) (kk : jj_J p l e R s m args below meth c D base nL Q nx lc st (jj_up h a (.inr (ci, fs.set k v))) kc ks) : jj_J p l e R s m args below meth c D base nL Q pc lc (v :: .ref a :: st) h kc ks := by
  obtain ⟨hx, hb, -, hown, hts, hg, hE, -, -, -⟩ := C
  obtain ⟨a1, a2, -⟩ := jj_good_at hg hf
  subst a2
  obtain ⟨CN, T, N, t0, ref, ⟨hc, hin, hty, hnm⟩, hk, ht, hfn, hlk, hsm⟩ := q
  subst ht
  intro H locs ls hw hS hl
  obtain ⟨ws, hP, hD, hi⟩ := hw
  obtain ⟨q0, hq0⟩ := hi a _ ho
  rcases hlk with hlk | ⟨host, hlk⟩
  · exact va_put hx hb hts hin t0 hty hnm hown hE.1 hP hD hS q0 hq0 hc k hk (hts _ hlk) (jj_same (own := y.cls) hts hsm) hfn (hty k hk) hn hfit hlen a1 (fun H1 locs1 hP1 hD1 hS1 => kk H1 locs1 ls ⟨_, hP1, hD1, jj_set_in (A := jj_A base) hi hq0⟩ hS1 hl)
  · exact va_putN hx hb hts hin t0 hty hnm hown hE.1 hP hD hS q0 hq0 hc k hk (va_Nw.use rfl (hE.2.1 _ hlk)) (jj_same (own := y.cls) hts hsm) hfn (hty k hk) hn hfit hlen a1 (fun H1 locs1 hP1 hD1 hS1 => kk H1 locs1 ls ⟨_, hP1, hD1, jj_set_in (A := jj_A base) hi hq0⟩ hS1 hl)
theorem jj_putF (C : jj_C p s m args meth c y cc nL ret tb D aC base) {ci k : Nat} {ty : FieldType} {fs : List Value} {v : Value} (hf : jj_look tb pc = some (.putfield idx, nx, tg, kv)) (q : jj_FP y.cls idx ci k ty true) (hi0 : y.name = "<init>") (ho : h a = some (.inr (ci, fs))) (hn : narrow ty v = v) (hfit : fits ty v = true) (hlen : k < fs.length) (kk : jj_J p l e R s m args below meth c D base nL Q nx lc st (jj_up h a (.inr (ci, fs.set k v))) kc ks) : jj_J p l e R s m args below meth c D base nL Q pc lc (v :: .ref a :: st) h kc ks := by
  obtain ⟨hx, hb, -, hown, hts, hg, hE, -, hname, -⟩ := C
  obtain ⟨a1, a2, -⟩ := jj_good_at hg hf
  subst a2
  obtain ⟨CN, T, N, t0, ref, ⟨hc, hin, hty, hnm⟩, hk, ht, hfn, hdec, hlk, hsm⟩ := q
  subst ht
  intro H locs ls hw hS hl
  obtain ⟨ws, hP, hD, hi⟩ := hw
  obtain ⟨q0, hq0⟩ := hi a _ ho
  exact va_putF hx hb hts hin t0 hty hnm hown hE.1 hP hD hS q0 hq0 hc k hk (hts _ hlk) (jj_same (own := y.cls) hts hsm) hfn (hname hi0) (hdec rfl) (hty k hk) hn hfit hlen a1 (fun H1 locs1 hP1 hD1 hS1 => kk H1 locs1 ls ⟨_, hP1, hD1, jj_set_in (A := jj_A base) hi hq0⟩ hS1 hl)
/-- a class that a class's constant pool names, to be made -/
def jj_NW (own : String) (idx ci N : Nat) (fs : List Value) : Prop := ∃ (C : String) (T : u_T) (t0 : Nat → FieldType), jj_CL ci C T N t0 ∧ Cond.classLink own idx C ∈ jj_gw ∧ Cond.instantiable C N ∈ jj_gw ∧ Cond.initialized C ∈ jj_gw ∧ ∀ j, j < N → defaultValue (t0 j) = vp_V fs j
theorem jj_new (C : jj_C p s m args meth c y cc nL ret tb D aC base) {ci N : Nat} {fs : List Value} (hf : jj_look tb pc = some (.new idx, nx, tg, kv)) (q : jj_NW y.cls idx ci N fs) (hc : kc + 1 ≤ R.cells) (hd : ks + N ≤ R.slots) (kk : ∀ a, h a = none → jj_J p l e R s m args below meth c D base nL Q nx lc (.ref a :: st) (jj_up h a (.inr (ci, fs))) (kc + 1) (ks + N)) : jj_J p l e R s m args below meth c D base nL Q pc lc st h kc ks := by
  obtain ⟨hx, hb, -, hown, hts, hg, hE, -, -, -⟩ := C
  obtain ⟨a1, a2, -⟩ := jj_good_at hg hf
  subst a2
  obtain ⟨CN, T, t0, ⟨hcl, hin, hty, hnm⟩, w1, w2, w3, hfs⟩ := q
  intro H locs ls hw hS hl
  obtain ⟨ws, hP, hD, hi⟩ := hw
  exact va_new hx hb hts hin t0 hty hown (hts _ w1) (hts _ w2) (hts _ w3) hE.1 hP hD hS (fun q hq => Nat.le_trans hE.2.2.2.2.2.2.1 hq) hcl hfs hc hd a1 (fun q H1 hP1 hD1 hS1 => kk q (jj_fresh hi hD1) H1 locs ls ⟨_, hP1, hD1, jj_push_in hi⟩ hS1 hl)
end JJF
/-! arrays -/
section JJA
variable {p : Program} {l : Launch} {e : Env} {R : Room} {s : State} {m : MethodId} {args : Array Value} {below : List Frame} {meth : Method} {c : Code} {Q : State → Prop} {y : MethodName} {cc : ByteArray} {nL : Nat} {ret : Option FieldType} {tb : jjTab} {D : va_G} {aC : Nat → ClassId} {base : Nat}
variable {pc pc' nx tg idx kc ks mc ms d : Nat} {kv : Int32} {lc lc' : jjLoc} {st st' rest : List Value} {h : jjHp} {a : Nat}

theorem jj_iald (C : jj_C p s m args meth c y cc nL ret tb D aC base) {n j : Nat} {i : Int32} {f : Nat → Int32} (hf : jj_look tb pc = some (.iaload, nx, tg, kv)) (ho : h a = some (.inl (aC 0, n, .inl f))) (hj : i = nI j) (hlt : j < n) (hn : n < 2 ^ 31) (kk : jj_J p l e R s m args below meth c D base nL Q nx lc (.int (f j) :: st) h kc ks) : jj_J p l e R s m args below meth c D base nL Q pc lc (.int i :: .ref a :: st) h kc ks := by
  obtain ⟨hx, hb, -, hown, hts, hg, hE, -, -, -⟩ := C
  obtain ⟨a1, a2, -⟩ := jj_good_at hg hf
  subst a2
  subst hj
  intro H locs ls hw hS hl
  have hh := hw
  obtain ⟨ws, hP, hD, hi⟩ := hh
  obtain ⟨q0, hq0⟩ := hi a _ ho
  have hin : vp_in (nI j) n := vp_in_nI hlt hn
  have hcl : (nI j).toNatClampNeg = j := nI_clamp (Nat.lt_trans hlt hn)
  exact va_iald hx hb hE.1 hP q0 0 hq0 rfl hin a1 (by rw [hcl]; exact kk H locs ls hw hS hl)
theorem jj_zald (C : jj_C p s m args meth c y cc nL ret tb D aC base) {n j : Nat} {i : Int32} {f : Nat → Int32} (hf : jj_look tb pc = some (.baload, nx, tg, kv)) (ho : h a = some (.inl (aC 1, n, .inl f))) (hj : i = nI j) (hlt : j < n) (hn : n < 2 ^ 31) (kk : jj_J p l e R s m args below meth c D base nL Q nx lc (.int (f j) :: st) h kc ks) : jj_J p l e R s m args below meth c D base nL Q pc lc (.int i :: .ref a :: st) h kc ks := by
  obtain ⟨hx, hb, -, hown, hts, hg, hE, -, -, -⟩ := C
  obtain ⟨a1, a2, -⟩ := jj_good_at hg hf
  subst a2
  subst hj
  intro H locs ls hw hS hl
  have hh := hw
  obtain ⟨ws, hP, hD, hi⟩ := hh
  obtain ⟨q0, hq0⟩ := hi a _ ho
  have hin : vp_in (nI j) n := vp_in_nI hlt hn
  have hcl : (nI j).toNatClampNeg = j := nI_clamp (Nat.lt_trans hlt hn)
  exact va_zald hx hb hE.1 hP q0 1 hq0 rfl hin a1 (by rw [hcl]; exact kk H locs ls hw hS hl)
theorem jj_cald (C : jj_C p s m args meth c y cc nL ret tb D aC base) {n j : Nat} {i : Int32} {f : Nat → Int32} (hf : jj_look tb pc = some (.caload, nx, tg, kv)) (ho : h a = some (.inl (aC 2, n, .inl f))) (hj : i = nI j) (hlt : j < n) (hn : n < 2 ^ 31) (kk : jj_J p l e R s m args below meth c D base nL Q nx lc (.int (f j) :: st) h kc ks) : jj_J p l e R s m args below meth c D base nL Q pc lc (.int i :: .ref a :: st) h kc ks := by
  obtain ⟨hx, hb, -, hown, hts, hg, hE, -, -, -⟩ := C
  obtain ⟨a1, a2, -⟩ := jj_good_at hg hf
  subst a2
  subst hj
  intro H locs ls hw hS hl
  have hh := hw
  obtain ⟨ws, hP, hD, hi⟩ := hh
  obtain ⟨q0, hq0⟩ := hi a _ ho
  have hin : vp_in (nI j) n := vp_in_nI hlt hn
  have hcl : (nI j).toNatClampNeg = j := nI_clamp (Nat.lt_trans hlt hn)
  exact va_cald hx hb hE.1 hP q0 2 hq0 rfl hin a1 (by rw [hcl]; exact kk H locs ls hw hS hl)
theorem jj_lald (C : jj_C p s m args meth c y cc nL ret tb D aC base) {n j : Nat} {i : Int32} {f : Nat → Int64} (hf : jj_look tb pc = some (.laload, nx, tg, kv)) (ho : h a = some (.inl (aC 3, n, .inr (.inl f)))) (hj : i = nI j) (hlt : j < n) (hn : n < 2 ^ 31) (kk : jj_J p l e R s m args below meth c D base nL Q nx lc (.long (f j) :: st) h kc ks) : jj_J p l e R s m args below meth c D base nL Q pc lc (.int i :: .ref a :: st) h kc ks := by
  obtain ⟨hx, hb, -, hown, hts, hg, hE, -, -, -⟩ := C
  obtain ⟨a1, a2, -⟩ := jj_good_at hg hf
  subst a2
  subst hj
  intro H locs ls hw hS hl
  have hh := hw
  obtain ⟨ws, hP, hD, hi⟩ := hh
  obtain ⟨q0, hq0⟩ := hi a _ ho
  have hin : vp_in (nI j) n := vp_in_nI hlt hn
  have hcl : (nI j).toNatClampNeg = j := nI_clamp (Nat.lt_trans hlt hn)
  exact va_lald hx hb hE.1 hP q0 3 hq0 rfl hin a1 (by rw [hcl]; exact kk H locs ls hw hS hl)
theorem jj_bald (C : jj_C p s m args meth c y cc nL ret tb D aC base) {n j : Nat} {i : Int32} {f : Nat → Int32} (hf : jj_look tb pc = some (.baload, nx, tg, kv)) (ho : h a = some (.inl (aC 4, n, .inl f))) (hj : i = nI j) (hlt : j < n) (hn : n < 2 ^ 31) (kk : jj_J p l e R s m args below meth c D base nL Q nx lc (.int (f j) :: st) h kc ks) : jj_J p l e R s m args below meth c D base nL Q pc lc (.int i :: .ref a :: st) h kc ks := by
  obtain ⟨hx, hb, -, hown, hts, hg, hE, -, -, -⟩ := C
  obtain ⟨a1, a2, -⟩ := jj_good_at hg hf
  subst a2
  subst hj
  intro H locs ls hw hS hl
  have hh := hw
  obtain ⟨ws, hP, hD, hi⟩ := hh
  obtain ⟨q0, hq0⟩ := hi a _ ho
  have hin : vp_in (nI j) n := vp_in_nI hlt hn
  have hcl : (nI j).toNatClampNeg = j := nI_clamp (Nat.lt_trans hlt hn)
  exact va_bald hx hb hE.1 hP q0 4 hq0 rfl hin a1 (by rw [hcl]; exact kk H locs ls hw hS hl)
theorem jj_iast (C : jj_C p s m args meth c y cc nL ret tb D aC base) {n j : Nat} {i : Int32} {x : Int32} {f : Nat → Int32} (hf : jj_look tb pc = some (.iastore, nx, tg, kv)) (ho : h a = some (.inl (aC 0, n, .inl f))) (hj : i = nI j) (hlt : j < n) (hn : n < 2 ^ 31) (kk : jj_J p l e R s m args below meth c D base nL Q nx lc st (jj_up h a (.inl (aC 0, n, .inl (upd f j x)))) kc ks) : jj_J p l e R s m args below meth c D base nL Q pc lc (.int x :: .int i :: .ref a :: st) h kc ks := by
  obtain ⟨hx, hb, -, hown, hts, hg, hE, -, -, -⟩ := C
  obtain ⟨a1, a2, -⟩ := jj_good_at hg hf
  subst a2
  subst hj
  intro H locs ls hw hS hl
  have hh := hw
  obtain ⟨ws, hP, hD, hi⟩ := hh
  obtain ⟨q0, hq0⟩ := hi a _ ho
  have hin : vp_in (nI j) n := vp_in_nI hlt hn
  have hcl : (nI j).toNatClampNeg = j := nI_clamp (Nat.lt_trans hlt hn)
  refine va_iast hx hb hE.1 hP hD hS q0 0 hq0 rfl hin a1 (fun H1 locs1 hP1 hD1 hS1 => ?_)
  rw [hcl] at hP1 hD1
  exact kk H1 locs1 ls ⟨_, hP1, hD1, jj_set_in (A := jj_A base) hi hq0⟩ hS1 hl
theorem jj_zast (C : jj_C p s m args meth c y cc nL ret tb D aC base) {n j : Nat} {i : Int32} {x : Int32} {f : Nat → Int32} (hf : jj_look tb pc = some (.bastore, nx, tg, kv)) (ho : h a = some (.inl (aC 1, n, .inl f))) (hj : i = nI j) (hlt : j < n) (hn : n < 2 ^ 31) (kk : jj_J p l e R s m args below meth c D base nL Q nx lc st (jj_up h a (.inl (aC 1, n, .inl (upd f j (vp_nar .boolean x))))) kc ks) : jj_J p l e R s m args below meth c D base nL Q pc lc (.int x :: .int i :: .ref a :: st) h kc ks := by
  obtain ⟨hx, hb, -, hown, hts, hg, hE, -, -, -⟩ := C
  obtain ⟨a1, a2, -⟩ := jj_good_at hg hf
  subst a2
  subst hj
  intro H locs ls hw hS hl
  have hh := hw
  obtain ⟨ws, hP, hD, hi⟩ := hh
  obtain ⟨q0, hq0⟩ := hi a _ ho
  have hin : vp_in (nI j) n := vp_in_nI hlt hn
  have hcl : (nI j).toNatClampNeg = j := nI_clamp (Nat.lt_trans hlt hn)
  refine va_zast hx hb hE.1 hP hD hS q0 1 hq0 rfl hin a1 (fun H1 locs1 hP1 hD1 hS1 => ?_)
  rw [hcl] at hP1 hD1
  exact kk H1 locs1 ls ⟨_, hP1, hD1, jj_set_in (A := jj_A base) hi hq0⟩ hS1 hl
theorem jj_cast (C : jj_C p s m args meth c y cc nL ret tb D aC base) {n j : Nat} {i : Int32} {x : Int32} {f : Nat → Int32} (hf : jj_look tb pc = some (.castore, nx, tg, kv)) (ho : h a = some (.inl (aC 2, n, .inl f))) (hj : i = nI j) (hlt : j < n) (hn : n < 2 ^ 31) (kk : jj_J p l e R s m args below meth c D base nL Q nx lc st (jj_up h a (.inl (aC 2, n, .inl (upd f j (vp_nar .char x))))) kc ks) : jj_J p l e R s m args below meth c D base nL Q pc lc (.int x :: .int i :: .ref a :: st) h kc ks := by
  obtain ⟨hx, hb, -, hown, hts, hg, hE, -, -, -⟩ := C
  obtain ⟨a1, a2, -⟩ := jj_good_at hg hf
  subst a2
  subst hj
  intro H locs ls hw hS hl
  have hh := hw
  obtain ⟨ws, hP, hD, hi⟩ := hh
  obtain ⟨q0, hq0⟩ := hi a _ ho
  have hin : vp_in (nI j) n := vp_in_nI hlt hn
  have hcl : (nI j).toNatClampNeg = j := nI_clamp (Nat.lt_trans hlt hn)
  refine va_cast hx hb hE.1 hP hD hS q0 2 hq0 rfl hin a1 (fun H1 locs1 hP1 hD1 hS1 => ?_)
  rw [hcl] at hP1 hD1
  exact kk H1 locs1 ls ⟨_, hP1, hD1, jj_set_in (A := jj_A base) hi hq0⟩ hS1 hl
theorem jj_last (C : jj_C p s m args meth c y cc nL ret tb D aC base) {n j : Nat} {i : Int32} {x : Int64} {f : Nat → Int64} (hf : jj_look tb pc = some (.lastore, nx, tg, kv)) (ho : h a = some (.inl (aC 3, n, .inr (.inl f)))) (hj : i = nI j) (hlt : j < n) (hn : n < 2 ^ 31) (kk : jj_J p l e R s m args below meth c D base nL Q nx lc st (jj_up h a (.inl (aC 3, n, .inr (.inl (vp_updL f j x))))) kc ks) : jj_J p l e R s m args below meth c D base nL Q pc lc (.long x :: .int i :: .ref a :: st) h kc ks := by
  obtain ⟨hx, hb, -, hown, hts, hg, hE, -, -, -⟩ := C
  obtain ⟨a1, a2, -⟩ := jj_good_at hg hf
  subst a2
  subst hj
  intro H locs ls hw hS hl
  have hh := hw
  obtain ⟨ws, hP, hD, hi⟩ := hh
  obtain ⟨q0, hq0⟩ := hi a _ ho
  have hin : vp_in (nI j) n := vp_in_nI hlt hn
  have hcl : (nI j).toNatClampNeg = j := nI_clamp (Nat.lt_trans hlt hn)
  refine va_last hx hb hE.1 hP hD hS q0 3 hq0 rfl hin a1 (fun H1 locs1 hP1 hD1 hS1 => ?_)
  rw [hcl] at hP1 hD1
  exact kk H1 locs1 ls ⟨_, hP1, hD1, jj_set_in (A := jj_A base) hi hq0⟩ hS1 hl
theorem jj_bast (C : jj_C p s m args meth c y cc nL ret tb D aC base) {n j : Nat} {i : Int32} {x : Int32} {f : Nat → Int32} (hf : jj_look tb pc = some (.bastore, nx, tg, kv)) (ho : h a = some (.inl (aC 4, n, .inl f))) (hj : i = nI j) (hlt : j < n) (hn : n < 2 ^ 31) (kk : jj_J p l e R s m args below meth c D base nL Q nx lc st (jj_up h a (.inl (aC 4, n, .inl (upd f j (vp_nar .byte x))))) kc ks) : jj_J p l e R s m args below meth c D base nL Q pc lc (.int x :: .int i :: .ref a :: st) h kc ks := by
  obtain ⟨hx, hb, -, hown, hts, hg, hE, -, -, -⟩ := C
  obtain ⟨a1, a2, -⟩ := jj_good_at hg hf
  subst a2
  subst hj
  intro H locs ls hw hS hl
  have hh := hw
  obtain ⟨ws, hP, hD, hi⟩ := hh
  obtain ⟨q0, hq0⟩ := hi a _ ho
  have hin : vp_in (nI j) n := vp_in_nI hlt hn
  have hcl : (nI j).toNatClampNeg = j := nI_clamp (Nat.lt_trans hlt hn)
  refine va_bast hx hb hE.1 hP hD hS q0 4 hq0 rfl hin a1 (fun H1 locs1 hP1 hD1 hS1 => ?_)
  rw [hcl] at hP1 hD1
  exact kk H1 locs1 ls ⟨_, hP1, hD1, jj_set_in (A := jj_A base) hi hq0⟩ hS1 hl
theorem jj_aald (C : jj_C p s m args meth c y cc nL ret tb D aC base) (t0 : Nat) {cA : ClassId} {CN : String} {n j : Nat} {i : Int32} {f : Nat → Option Nat} (hf : jj_look tb pc = some (.aaload, nx, tg, kv)) (ho : h a = some (.inl (cA, n, .inr (.inr (.inr (.inr f)))))) (ht : (jj_tys aC)[t0]? = some (cA, .object CN)) (hj : i = nI j) (hlt : j < n) (hn : n < 2 ^ 31) (kk : jj_J p l e R s m args below meth c D base nL Q nx lc (va_rf (f j) :: st) h kc ks) : jj_J p l e R s m args below meth c D base nL Q pc lc (.int i :: .ref a :: st) h kc ks := by
  obtain ⟨hx, hb, -, hown, hts, hg, hE, -, -, -⟩ := C
  obtain ⟨a1, a2, -⟩ := jj_good_at hg hf
  subst a2
  subst hj
  intro H locs ls hw hS hl
  have hh := hw
  obtain ⟨ws, hP, hD, hi⟩ := hh
  obtain ⟨q0, hq0⟩ := hi a _ ho
  have hin : vp_in (nI j) n := vp_in_nI hlt hn
  have hcl : (nI j).toNatClampNeg = j := nI_clamp (Nat.lt_trans hlt hn)
  exact va_aldq hx hb hE.1 hP q0 t0 hq0 ht hin a1 (by rw [hcl]; exact kk H locs ls hw hS hl)
theorem jj_aast (C : jj_C p s m args meth c y cc nL ret tb D aC base) (t0 : Nat) {cA : ClassId} {r : vw_C} {n j v ci : Nat} {vs : List Value} {i : Int32} {f : Nat → Option Nat} (hf : jj_look tb pc = some (.aastore, nx, tg, kv)) (ho : h a = some (.inl (cA, n, .inr (.inr (.inr (.inr f)))))) (ht : (jj_tys aC)[t0]? = some (cA, .object r.1)) (hv : h v = some (.inr (ci, vs))) (hcl0 : jj_cl[ci]? = some r) (hj : i = nI j) (hlt : j < n) (hn : n < 2 ^ 31) (kk : jj_J p l e R s m args below meth c D base nL Q nx lc st (jj_up h a (.inl (cA, n, .inr (.inr (.inr (.inr (va_up f j (some v)))))))) kc ks) : jj_J p l e R s m args below meth c D base nL Q pc lc (.ref v :: .int i :: .ref a :: st) h kc ks := by
  obtain ⟨hx, hb, -, hown, hts, hg, hE, -, -, -⟩ := C
  obtain ⟨a1, a2, -⟩ := jj_good_at hg hf
  subst a2
  subst hj
  intro H locs ls hw hS hl
  have hh := hw
  obtain ⟨ws, hP, hD, hi⟩ := hh
  obtain ⟨q0, hq0⟩ := hi a _ ho
  have hin : vp_in (nI j) n := vp_in_nI hlt hn
  have hcl : (nI j).toNatClampNeg = j := nI_clamp (Nat.lt_trans hlt hn)
  obtain ⟨qk, hqk⟩ := hi v _ hv
  refine va_astq hx hb hE.1 hP hD hS q0 t0 qk ci hq0 ht hqk hcl0 hin a1 (fun H1 locs1 hP1 hD1 hS1 => ?_)
  rw [hcl] at hP1 hD1
  exact kk H1 locs1 ls ⟨_, hP1, hD1, jj_set_in (A := jj_A base) hi hq0⟩ hS1 hl
theorem jj_aastN (C : jj_C p s m args meth c y cc nL ret tb D aC base) (t0 : Nat) {cA : ClassId} {CN : String} {n j : Nat} {i : Int32} {f : Nat → Option Nat} (hf : jj_look tb pc = some (.aastore, nx, tg, kv)) (ho : h a = some (.inl (cA, n, .inr (.inr (.inr (.inr f)))))) (ht : (jj_tys aC)[t0]? = some (cA, .object CN)) (hj : i = nI j) (hlt : j < n) (hn : n < 2 ^ 31) (kk : jj_J p l e R s m args below meth c D base nL Q nx lc st (jj_up h a (.inl (cA, n, .inr (.inr (.inr (.inr (va_up f j none))))))) kc ks) : jj_J p l e R s m args below meth c D base nL Q pc lc (.null :: .int i :: .ref a :: st) h kc ks := by
  obtain ⟨hx, hb, -, hown, hts, hg, hE, -, -, -⟩ := C
  obtain ⟨a1, a2, -⟩ := jj_good_at hg hf
  subst a2
  subst hj
  intro H locs ls hw hS hl
  have hh := hw
  obtain ⟨ws, hP, hD, hi⟩ := hh
  obtain ⟨q0, hq0⟩ := hi a _ ho
  have hin : vp_in (nI j) n := vp_in_nI hlt hn
  have hcl : (nI j).toNatClampNeg = j := nI_clamp (Nat.lt_trans hlt hn)
  refine va_astqN hx hb hE.1 hP hD hS q0 t0 hq0 ht hin a1 (fun H1 locs1 hP1 hD1 hS1 => ?_)
  rw [hcl] at hP1 hD1
  exact kk H1 locs1 ls ⟨_, hP1, hD1, jj_set_in (A := jj_A base) hi hq0⟩ hS1 hl
theorem jj_alen (C : jj_C p s m args meth c y cc nL ret tb D aC base) (t0 : Nat) {cA : ClassId} {x : vp_A} {ty : FieldType} (hf : jj_look tb pc = some (.arraylength, nx, tg, kv)) (ho : h a = some (.inl (cA, x))) (ht : (jj_tys aC)[t0]? = some (cA, ty)) (kk : jj_J p l e R s m args below meth c D base nL Q nx lc (.int (nI x.1) :: st) h kc ks) : jj_J p l e R s m args below meth c D base nL Q pc lc (.ref a :: st) h kc ks := by
  obtain ⟨hx, hb, -, hown, hts, hg, hE, -, -, -⟩ := C
  obtain ⟨a1, a2, -⟩ := jj_good_at hg hf
  subst a2
  intro H locs ls hw hS hl
  have hh := hw
  obtain ⟨ws, hP, hD, hi⟩ := hh
  obtain ⟨q0, hq0⟩ := hi a _ ho
  exact va_alen hx hb hE.1 hP q0 t0 hq0 ht rfl a1 (kk H locs ls hw hS hl)
/-- the array class of a type is the one that the tables name -/
theorem jj_arr_eq {s : State} (hK : va_K D jj_cl (jj_tys aC) s) {t0 : Nat} {cA cB : ClassId} {ty : FieldType} (ht : (jj_tys aC)[t0]? = some (cA, ty)) {tys : List (ClassId × FieldType)} (hK2 : va_K D jj_cl (tys ++ [(cB, ty)]) s) : cB = cA := by
  have h1 := (hK.2 t0 _ ht).2
  have h2 := (hK2.2 tys.length (cB, ty) (by simp)).2
  cases ty with
  | object C =>
    obtain ⟨_, _, -, -, -, e1⟩ := h1
    obtain ⟨_, _, -, -, -, e2⟩ := h2
    exact Option.some.inj (e2.symm.trans e1)
  | _ => exact Option.some.inj (Eq.trans (Eq.symm h2) h1)
theorem jj_newa (C : jj_C p s m args meth c y cc nL ret tb D aC base) (t0 : Nat) {cA : ClassId} {at0 : ArrayType} {ty : FieldType} {n : Int32} {N : Nat} {a0 : vp_A} (hf : jj_look tb pc = some (.newarray at0, nx, tg, kv)) (hw0 : Cond.arrayClass (newarray.typeOf at0) ∈ jj_gw) (hty : newarray.typeOf at0 = ty) (ht : (jj_tys aC)[t0]? = some (cA, ty)) (ha : ∀ cA : ClassId, vp_cell cA a0 = arrV cA N (fun _ => defaultValue ty)) (hN : n = nI N) (hb0 : N ≤ 65536) (hc : kc + 1 ≤ R.cells) (hd : ks + N ≤ R.slots) (kk : ∀ a, h a = none → jj_J p l e R s m args below meth c D base nL Q nx lc (.ref a :: st) (jj_up h a (.inl (cA, a0))) (kc + 1) (ks + N)) : jj_J p l e R s m args below meth c D base nL Q pc lc (.int n :: st) h kc ks := by
  obtain ⟨hx, hb, -, hown, hts, hg, hE, -, -, -⟩ := C
  obtain ⟨a1, a2, -⟩ := jj_good_at hg hf
  subst a2
  subst hN
  intro H locs ls hw hS hl
  obtain ⟨ws, hP, hD, hi⟩ := hw
  have hcb : componentBytes ty ≤ 8 := by cases ty <;> exact Nat.le_of_ble_eq_true rfl
  refine va_newa hx hb (hts _ hw0) hty hE.1 hP hD hS (fun q hq => Nat.le_trans hE.2.2.2.2.2.2.1 hq) ha (nI_pos (by omega)) (nI_clamp (by omega)) (Nat.le_trans (Nat.mul_le_mul hb0 hcb) (by decide)) hc hd a1 (fun q cB H1 hK1 hP1 hD1 hS1 => ?_)
  have he := jj_arr_eq hE.1 ht hK1
  subst he
  exact kk q (jj_fresh hi hD1) H1 locs ls ⟨_, hP1, hD1, jj_push_in hi⟩ hS1 hl
theorem jj_newq (C : jj_C p s m args meth c y cc nL ret tb D aC base) (t0 : Nat) {cA : ClassId} {CN : String} {n : Int32} {N : Nat} (hf : jj_look tb pc = some (.anewarray idx, nx, tg, kv)) (hw0 : Cond.classLink y.cls idx CN ∈ jj_gw) (hao : CN ∈ jj_ao) (ht : (jj_tys aC)[t0]? = some (cA, .object CN)) (hN : n = nI N) (hb0 : N ≤ 65536) (hc : kc + 1 ≤ R.cells) (hd : ks + N ≤ R.slots) (kk : ∀ a, h a = none → jj_J p l e R s m args below meth c D base nL Q nx lc (.ref a :: st) (jj_up h a (.inl (cA, N, .inr (.inr (.inr (.inr (fun _ => none))))))) (kc + 1) (ks + N)) : jj_J p l e R s m args below meth c D base nL Q pc lc (.int n :: st) h kc ks := by
  obtain ⟨hx, hb, -, hown, hts, hg, hE, -, -, -⟩ := C
  obtain ⟨a1, a2, -⟩ := jj_good_at hg hf
  subst a2
  subst hN
  intro H locs ls hw hS hl
  obtain ⟨ws, hP, hD, hi⟩ := hw
  refine va_newq hx hb hown (hts _ hw0) (hE.2.2.2.2.1 _ hao) hE.1 hP hD hS (fun q hq => Nat.le_trans hE.2.2.2.2.2.2.1 hq) (nI_pos (by omega)) (nI_clamp (by omega)) (by omega) hc hd a1 (fun q cB H1 hK1 hP1 hD1 hS1 => ?_)
  have he := jj_arr_eq hE.1 ht hK1
  subst he
  exact kk q (jj_fresh hi hD1) H1 locs ls ⟨_, hP1, hD1, jj_push_in hi⟩ hS1 hl
end JJA
/-! calls -/
section JJC
variable {p : Program} {l : Launch} {e : Env} {R : Room} {s : State} {m : MethodId} {args : Array Value} {below : List Frame} {meth : Method} {c : Code} {Q : State → Prop} {y : MethodName} {cc : ByteArray} {nL : Nat} {ret : Option FieldType} {tb : jjTab} {D : va_G} {aC : Nat → ClassId} {base : Nat}
variable {pc pc' nx tg idx kc ks mc ms d : Nat} {kv : Int32} {lc lc' : jjLoc} {st st' rest : List Value} {h : jjHp} {a : Nat}
variable {y1 : MethodName} {b1 : ByteArray} {n1 d1 mc1 ms1 np : Nat} {r1 : Option FieldType} {As : List Value} {P1 : Option Value → jjHp → Prop}
theorem jj_cont {a0 : Array Value} (hr : ∀ (H : Heap) (locs : List Loc) (ls : Array Slot), jj_W D base h H → va_S (jj_A base) s.heap H locs → lv_has ls nL lc → va_Run p l e R s m args below meth c H locs kc ks mc1 ms1 (F0 m pc ls st) rest (jj_Q D base P1 a0) (jj_A base))
    (kk : ∀ (r : Option Value) (h' : jjHp), P1 r h' → jj_J p l e R s m args below meth c D base nL Q (pc + 3) lc (r.toList ++ rest) h' (kc + mc1) (ks + ms1)) : jj_J p l e R s m args below meth c D base nL Q pc lc st h kc ks := by
  intro H locs ls hw hS hl T hT X
  obtain ⟨v, st₀, t, T', L, h0, X', hL, e1, e2, ⟨⟨r, h', hv, hp, hw'⟩, hz, hk⟩, stp⟩ := hr H locs ls hw hS hl T hT X
  cases hv
  rw [h0] at hz hk
  obtain ⟨t2, b1, b2⟩ := kk v h' hp T'.heap (locs ++ L) ls (by rw [e1]; exact hw') ⟨Nat.le_trans hS.1 (by rw [e1]; exact hz), fun q g1 g2 => by rw [e1, hk q (Nat.lt_of_lt_of_le g1 hS.1) g2]; exact hS.2.1 q g1 g2, fun q hq => by
    rcases List.mem_append.mp hq with g | g
    · exact hS.2.2 q g
    · exact hL q g⟩ hl T' rfl X'
  exact ⟨t2, stp t2 b1, b2⟩
/-- what a call needs of the tables: its link (plain, or of a nest mate), the code that it reaches -/
def jj_ML (own : String) (idx : Nat) (y1 : MethodName) (b1 : ByteArray) (n1 : Nat) (r1 : Option FieldType) (np : Nat) : Prop := (Cond.methodLink own idx y1 ∈ jj_gw ∨ ∃ host : String, (own, idx, y1, host) ∈ jj_nM) ∧ Cond.code y1 b1 n1 r1 ∈ jj_gw ∧ Cond.initialized y1.cls ∈ jj_gw ∧ (y1.cls ≠ "java/lang/invoke/MethodHandle" ∧ y1.cls ≠ "java/lang/invoke/VarHandle" ∧ (parseMethodDescriptor y1.desc).map (fun d => d.parameters.length) = some np)
theorem jj_pre {H : Heap} {locs : List Loc} (hE : jj_E D aC base s) (hw : jj_W D base h H) (hS : va_S (jj_A base) s.heap H locs) : ∀ U : State, U.heap = H → s.WarmedH U.vm → va_Pc As (fun U => jj_E D aC base U ∧ jj_W D base h U.heap) As.toArray U :=
  fun U hU hW => ⟨rfl, hE.moved hW (by rw [hU]; exact hS.1) (fun q g1 g2 => by rw [hU]; exact hS.2.1 q g1 g2), by rw [hU]; exact hw⟩
theorem jj_callS (C : jj_C p s m args meth c y cc nL ret tb D aC base) (hf : jj_look tb pc = some (.invokestatic idx, nx, tg, kv)) (q : jj_ML y.cls idx y1 b1 n1 r1 np) (hs : Cond.static y1 ∈ jj_gw) (hM : jj_Ct l D aC base y1 b1 n1 r1 d1 mc1 ms1 As h P1)
    (hst : st = As.reverse ++ rest) (hn : As.length = np) (hR : d1 + 1 ≤ R.frames ∧ 8 + (n1 + 11) + 64 * d1 ≤ R.locals) (hc : kc + mc1 ≤ R.cells) (hd : ks + ms1 ≤ R.slots) (hW : (rest.map fun v => v.category).sum ≤ 8)
    (kk : ∀ (r : Option Value) (h' : jjHp), P1 r h' → jj_J p l e R s m args below meth c D base nL Q nx lc (r.toList ++ rest) h' (kc + mc1) (ks + ms1)) : jj_J p l e R s m args below meth c D base nL Q pc lc st h kc ks := by
  obtain ⟨hx, hb, hml, hown, hts, hg, hE, -, -, -⟩ := C
  obtain ⟨a1, a2, -⟩ := jj_good_at hg hf
  subst a2
  obtain ⟨hlk, hcd, hin, hdd⟩ := q
  refine jj_cont (a0 := As.toArray) (fun H locs ls hw hS hl => ?_) kk
  rcases hlk with hlk | ⟨host, hlk⟩
  · exact va_runS ⟨hx, hb, hml, hown, hts⟩ hM ⟨callB_of np hts (jj_gw_in hcd) rfl rfl rfl (hts _ hin) (hts _ hlk) hdd hR, hts _ hs⟩ ⟨jj_blind, jj_pre hE hw hS⟩ rfl hn hl.1 hst (lv_room hW) a1 ⟨hc, hd⟩
  · exact va_runSN ⟨hx, hb, hml, hown, hts⟩ hM ⟨va_cnB np hts (jj_gw_in hcd) rfl rfl rfl (hE.2.2.1 _ hlk) (hts _ hin) hdd hR, hts _ hs, trivial⟩ ⟨jj_blind, jj_pre hE hw hS⟩ rfl hn hl.1 hst (lv_room hW) a1 ⟨hc, hd⟩
theorem jj_callI (C : jj_C p s m args meth c y cc nL ret tb D aC base) (hf : jj_look tb pc = some (.invokespecial idx, nx, tg, kv)) (q : jj_ML y.cls idx y1 b1 n1 none np) (hs : Cond.instanceMethod y1 ∈ jj_gw) (hi : y1.name = "<init>") (hM : jj_Ct l D aC base y1 b1 n1 none d1 mc1 ms1 (.ref a :: As) h P1)
    (hst : st = As.reverse ++ .ref a :: rest) (hn : As.length = np) (hR : d1 + 1 ≤ R.frames ∧ 8 + (n1 + 11) + 64 * d1 ≤ R.locals) (hc : kc + mc1 ≤ R.cells) (hd : ks + ms1 ≤ R.slots) (hW : (rest.map fun v => v.category).sum ≤ 8)
    (kk : ∀ (r : Option Value) (h' : jjHp), P1 r h' → jj_J p l e R s m args below meth c D base nL Q nx lc (r.toList ++ rest) h' (kc + mc1) (ks + ms1)) : jj_J p l e R s m args below meth c D base nL Q pc lc st h kc ks := by
  obtain ⟨hx, hb, hml, hown, hts, hg, hE, -, -, -⟩ := C
  obtain ⟨a1, a2, -⟩ := jj_good_at hg hf
  subst a2
  obtain ⟨hlk, hcd, hin, hdd⟩ := q
  refine jj_cont (a0 := (Value.ref a :: As).toArray) (fun H locs ls hw hS hl => ?_) kk
  rcases hlk with hlk | ⟨host, hlk⟩
  · exact va_runI ⟨hx, hb, hml, hown, hts⟩ hM ⟨callB_of np hts (jj_gw_in hcd) rfl rfl rfl (hts _ hin) (hts _ hlk) hdd hR, hi, hts _ hs⟩ ⟨jj_blind, jj_pre hE hw hS⟩ rfl hn hl.1 hst (lv_room hW) a1 ⟨hc, hd⟩
  · exact va_runIN ⟨hx, hb, hml, hown, hts⟩ hM ⟨va_cnB np hts (jj_gw_in hcd) rfl rfl rfl (hE.2.2.1 _ hlk) (hts _ hin) hdd hR, hi, hts _ hs⟩ ⟨jj_blind, jj_pre hE hw hS⟩ rfl hn hl.1 hst (lv_room hW) a1 ⟨hc, hd⟩
theorem jj_recv {H : Heap} {ci : Nat} {fs : List Value} {r : vw_C} (hE : jj_E D aC base s) (hw : jj_W D base h H) (ho : h a = some (.inr (ci, fs))) (hc : jj_cl[ci]? = some r) : ∃ cell : Cell, H[a]? = some cell ∧ cell.vm.isStatics = false ∧ s.vm.findClass r.1 = some cell.cls := by
  obtain ⟨ws, hP, hD, hi⟩ := hw
  obtain ⟨q0, hq0⟩ := hi a _ ho
  exact va_recv hE.1 hP hc hq0
/-- the receiver's class selects the method itself -/
def jj_SEL (C : String) (y : MethodName) : Prop := ∀ (args : Array Value) (s : State), (∀ w ∈ jj_gw, w.before args s = true) → (Cond.selects C y y).before args s = true
theorem jj_sel_priv {CN : String} {y0 y : MethodName} {args : Array Value} {s : State} (hn : y.cls ≠ "java/lang/invoke/MethodHandle" ∧ y.cls ≠ "java/lang/invoke/VarHandle") (h0 : (Cond.selects CN y0 y0).before args s = true) (hc : y0.cls = y.cls) (hpriv : (Cond.privateMethod y).before args s = true) (hinst : (Cond.instanceMethod y).before args s = true) : (Cond.selects CN y y).before args s = true := by
  obtain ⟨c, r, m0, q1, q2, q3, q4, mk0, q5, q6⟩ := Cond.selects_spec h0
  obtain ⟨mk, methM, hnamed, hmethM, -, -⟩ := Cond.instanceMethod_spec hinst
  have hfound : s.methodFound? y.cls y.name y.desc = some mk := State.methodFound?_of_named hnamed hn
  have e1 : m0.cls = mk.cls := by
    have a1 := findClass_of_methodNamed q3
    have a2 := findClass_of_methodNamed hnamed
    rw [hc] at a1
    exact Option.some.inj (a1.symm.trans a2)
  have hsel : selectMethod {} s.vm c mk = .method mk := selectMethod_private hmethM (Cond.privateMethod_at hpriv mk methM hnamed hmethM)
  rw [e1] at q5
  simp only [Cond.before, Cond.holds, Cond.value, q1, hfound, hnamed, hsel, q5]
  simp; exact q6
theorem jj_callVg (C : jj_C p s m args meth c y cc nL ret tb D aC base) (hf : jj_look tb pc = some (.invokevirtual idx, nx, tg, kv)) (q : jj_ML y.cls idx y1 b1 n1 r1 np) (hs : Cond.instanceMethod y1 ∈ jj_gw) {CN : String} (hrv : ∀ (H : Heap) (locs : List Loc), jj_W D base h H → va_S (jj_A base) s.heap H locs → ∃ cell : Cell, H[a]? = some cell ∧ cell.vm.isStatics = false ∧ s.vm.findClass CN = some cell.cls) (hsel : jj_SEL CN y1) (hM : jj_Ct l D aC base y1 b1 n1 r1 d1 mc1 ms1 (.ref a :: As) h P1)
    (hst : st = As.reverse ++ .ref a :: rest) (hn : As.length = np) (hR : d1 + 1 ≤ R.frames ∧ 8 + (n1 + 11) + 64 * d1 ≤ R.locals) (hc : kc + mc1 ≤ R.cells) (hd : ks + ms1 ≤ R.slots) (hW : (rest.map fun v => v.category).sum ≤ 8)
    (kk : ∀ (r : Option Value) (h' : jjHp), P1 r h' → jj_J p l e R s m args below meth c D base nL Q nx lc (r.toList ++ rest) h' (kc + mc1) (ks + ms1)) : jj_J p l e R s m args below meth c D base nL Q pc lc st h kc ks := by
  obtain ⟨hx, hb, hml, hown, hts, hg, hE, -, -, -⟩ := C
  obtain ⟨a1, a2, -⟩ := jj_good_at hg hf
  subst a2
  obtain ⟨hlk, hcd, hin, hdd⟩ := q
  refine jj_cont (a0 := (Value.ref a :: As).toArray) (fun H locs ls hw hS hl => ?_) kk
  rcases hlk with hlk | ⟨host, hlk⟩
  · exact va_runV ⟨hx, hb, hml, hown, hts⟩ hM ⟨callB_of np hts (jj_gw_in hcd) rfl rfl rfl (hts _ hin) (hts _ hlk) hdd hR, hts _ hs, hsel _ _ hts⟩ ⟨jj_blind, hrv H locs hw hS, jj_pre hE hw hS⟩ rfl hn hl.1 hst (lv_room hW) a1 ⟨hc, hd⟩
  · exact va_runVN ⟨hx, hb, hml, hown, hts⟩ hM ⟨va_cnB np hts (jj_gw_in hcd) rfl rfl rfl (hE.2.2.1 _ hlk) (hts _ hin) hdd hR, hts _ hs, hsel _ _ hts⟩ ⟨jj_blind, hrv H locs hw hS, jj_pre hE hw hS⟩ rfl hn hl.1 hst (lv_room hW) a1 ⟨hc, hd⟩
theorem jj_callV (C : jj_C p s m args meth c y cc nL ret tb D aC base) (hf : jj_look tb pc = some (.invokevirtual idx, nx, tg, kv)) (q : jj_ML y.cls idx y1 b1 n1 r1 np) (hs : Cond.instanceMethod y1 ∈ jj_gw) {ci : Nat} {fs : List Value} {r0 : vw_C} (ho : h a = some (.inr (ci, fs))) (hcl : jj_cl[ci]? = some r0) (hsel : jj_SEL r0.1 y1) (hM : jj_Ct l D aC base y1 b1 n1 r1 d1 mc1 ms1 (.ref a :: As) h P1)
    (hst : st = As.reverse ++ .ref a :: rest) (hn : As.length = np) (hR : d1 + 1 ≤ R.frames ∧ 8 + (n1 + 11) + 64 * d1 ≤ R.locals) (hc : kc + mc1 ≤ R.cells) (hd : ks + ms1 ≤ R.slots) (hW : (rest.map fun v => v.category).sum ≤ 8)
    (kk : ∀ (r : Option Value) (h' : jjHp), P1 r h' → jj_J p l e R s m args below meth c D base nL Q nx lc (r.toList ++ rest) h' (kc + mc1) (ks + ms1)) : jj_J p l e R s m args below meth c D base nL Q pc lc st h kc ks :=
  jj_callVg C hf q hs (fun H locs hw hS => jj_recv C.2.2.2.2.2.2.1 hw ho hcl) hsel hM hst hn hR hc hd hW kk
/-- a call of a method that the receiver's class inherits or overrides -/
def jj_MU (own : String) (idx : Nat) (C owner : String) (x1 y1 : MethodName) (b1 : ByteArray) (n1 : Nat) (r1 : Option FieldType) (np : Nat) : Prop := Cond.methodLink own idx x1 ∈ jj_gw ∧ Cond.sameMethod x1.cls owner x1.name x1.desc ∈ jj_gw ∧ Cond.selects C x1 y1 ∈ jj_gw ∧ Cond.instanceMethod y1 ∈ jj_gw ∧ Cond.initialized y1.cls ∈ jj_gw ∧ Cond.code y1 b1 n1 r1 ∈ jj_gw ∧ ((Cond.instanceMethod ⟨owner, x1.name, x1.desc⟩ ∈ jj_gw ∧ ∃ b0 n0 r0, Cond.code ⟨owner, x1.name, x1.desc⟩ b0 n0 r0 ∈ jj_gw) ∨ ⟨owner, x1.name, x1.desc⟩ ∈ jj_dc) ∧ (owner ≠ "java/lang/invoke/MethodHandle" ∧ owner ≠ "java/lang/invoke/VarHandle" ∧ (parseMethodDescriptor x1.desc).map (fun d => d.parameters.length) = some np)
theorem jj_callU (C : jj_C p s m args meth c y cc nL ret tb D aC base) {x1 : MethodName} {owner : String} {ci : Nat} {fs : List Value} {r0 : vw_C} (hf : jj_look tb pc = some (.invokevirtual idx, nx, tg, kv)) (ho : h a = some (.inr (ci, fs))) (hcl : jj_cl[ci]? = some r0) (q : jj_MU y.cls idx r0.1 owner x1 y1 b1 n1 r1 np) (hM : jj_Ct l D aC base y1 b1 n1 r1 d1 mc1 ms1 (.ref a :: As) h P1)
    (hst : st = As.reverse ++ .ref a :: rest) (hn : As.length = np) (hR : d1 + 1 ≤ R.frames ∧ 8 + (n1 + 11) + 64 * d1 ≤ R.locals) (hc : kc + mc1 ≤ R.cells) (hd : ks + ms1 ≤ R.slots) (hW : (rest.map fun v => v.category).sum ≤ 8)
    (kk : ∀ (r : Option Value) (h' : jjHp), P1 r h' → jj_J p l e R s m args below meth c D base nL Q nx lc (r.toList ++ rest) h' (kc + mc1) (ks + ms1)) : jj_J p l e R s m args below meth c D base nL Q pc lc st h kc ks := by
  obtain ⟨hx, hb, hml, hown, hts, hg, hE, -, -, -⟩ := C
  obtain ⟨a1, a2, -⟩ := jj_good_at hg hf
  subst a2
  obtain ⟨w1, w2, w3, w4, w5, w6, w7, hdd⟩ := q
  have hdc : va_Decl s ⟨owner, x1.name, x1.desc⟩ := by
    rcases w7 with ⟨g1, b0, n0, r0, g2⟩ | g
    · exact va_Decl.of (hts _ g1) (hts _ g2)
    · exact va_Decl.abs (hE.2.2.2.1 _ g)
  refine jj_cont (a0 := (Value.ref a :: As).toArray) (fun H locs ls hw hS hl => ?_) kk
  refine va_runU (bytes := b1) (maxL := n1) (ret := r1) (x := x1) (owner := owner) ⟨hx, hb, hml, hown, hts⟩ hM ⟨⟨rfl, rfl, hR.1, hR.2, pay_in hts (jj_gw_in w6), List.mem_cons_self⟩, hts _ w6, hts _ w5, ⟨hdd.1, hdd.2.1⟩, fun sig hsg => ?_, hts _ w1, hts _ w2, hdc, hts _ w3, hts _ w4⟩ ⟨jj_blind, jj_recv hE hw ho hcl, jj_pre hE hw hS⟩ rfl hn hl.1 hst (lv_room hW) a1 ⟨hc, hd⟩
  have h2 := hdd.2.2
  rw [hsg] at h2
  exact (Option.some.inj h2).symm
/-- super.m(..) -/
def jj_MS (own : String) (idx : Nat) (y1 : MethodName) (b1 : ByteArray) (n1 : Nat) (r1 : Option FieldType) (np : Nat) : Prop := Cond.methodLink own idx y1 ∈ jj_gw ∧ Cond.sameMethod y1.cls y1.cls y1.name y1.desc ∈ jj_gw ∧ Cond.superclass own y1.cls ∈ jj_gw ∧ Cond.instanceMethod y1 ∈ jj_gw ∧ Cond.initialized y1.cls ∈ jj_gw ∧ Cond.code y1 b1 n1 r1 ∈ jj_gw ∧ (y1.name ≠ "<init>" ∧ (parseMethodDescriptor y1.desc).map (fun d => d.parameters.length) = some np)
theorem jj_callP (C : jj_C p s m args meth c y cc nL ret tb D aC base) {ci : Nat} {fs : List Value} {r0 : vw_C} (hf : jj_look tb pc = some (.invokespecial idx, nx, tg, kv)) (ho : h a = some (.inr (ci, fs))) (hcl : jj_cl[ci]? = some r0) (q : jj_MS y.cls idx y1 b1 n1 r1 np) (hM : jj_Ct l D aC base y1 b1 n1 r1 d1 mc1 ms1 (.ref a :: As) h P1)
    (hst : st = As.reverse ++ .ref a :: rest) (hn : As.length = np) (hR : d1 + 1 ≤ R.frames ∧ 8 + (n1 + 11) + 64 * d1 ≤ R.locals) (hc : kc + mc1 ≤ R.cells) (hd : ks + ms1 ≤ R.slots) (hW : (rest.map fun v => v.category).sum ≤ 8)
    (kk : ∀ (r : Option Value) (h' : jjHp), P1 r h' → jj_J p l e R s m args below meth c D base nL Q nx lc (r.toList ++ rest) h' (kc + mc1) (ks + ms1)) : jj_J p l e R s m args below meth c D base nL Q pc lc st h kc ks := by
  obtain ⟨hx, hb, hml, hown, hts, hg, hE, -, -, -⟩ := C
  obtain ⟨a1, a2, -⟩ := jj_good_at hg hf
  subst a2
  obtain ⟨w1, w2, w3, w4, w5, w6, hno, hnp⟩ := q
  refine jj_cont (a0 := (Value.ref a :: As).toArray) (fun H locs ls hw hS hl => ?_) kk
  refine va_runSU (bytes := b1) (maxL := n1) (ret := r1) (hE.1.1 ci r0 hcl).2 ⟨hx, hb, hml, hown, hts⟩ hM ⟨⟨rfl, rfl, hR.1, hR.2, pay_in hts (jj_gw_in w6), List.mem_cons_self⟩, hts _ w1, hts _ w2, hts _ w3, hts _ w4, hts _ w5, hts _ w6, hno, fun sig hsg => ?_⟩ ⟨jj_blind, jj_recv hE hw ho hcl, jj_pre hE hw hS⟩ rfl hn hl.1 hst (lv_room hW) a1 ⟨hc, hd⟩
  rw [hsg] at hnp
  exact (Option.some.inj hnp).symm
/-- Object() -/
theorem jj_objI (C : jj_C p s m args meth c y cc nL ret tb D aC base) (hf : jj_look tb pc = some (.invokespecial idx, nx, tg, kv)) (w1 : Cond.methodLink y.cls idx objectInit ∈ jj_gw) (w2 : Cond.instanceMethod objectInit ∈ jj_gw) (w3 : Cond.code objectInit ⟨#[0xb1]⟩ 1 none ∈ jj_gw) (hR : 1 ≤ R.frames ∧ 20 ≤ R.locals) (hW : (st.map fun v => v.category).sum ≤ 8)
    (kk : jj_J p l e R s m args below meth c D base nL Q nx lc st h kc ks) : jj_J p l e R s m args below meth c D base nL Q pc lc (.ref a :: st) h kc ks := by
  obtain ⟨hx, hb, hml, hown, hts, hg, hE, -, -, -⟩ := C
  obtain ⟨a1, a2, -⟩ := jj_good_at hg hf
  subst a2
  intro H locs ls hw hS hl
  refine W.objInit hx hb hown (hts _ w1) (hts _ w2) (hts _ w3) rfl (by rw [hml]; exact hl.1) rfl a1 hR.1 ?_ (kk H locs ls hw hS hl)
  have h9 := lv_room (m := m) (pc := pc) (ls := ls) (rest := .ref a :: st) hW
  omega
/-- String.COMPACT_STRINGS -/
theorem jj_gets (C : jj_C p s m args meth c y cc nL ret tb D aC base) (hf : jj_look tb pc = some (.getstatic idx, nx, tg, kv)) (w1 : Cond.fieldLink y.cls idx "java/lang/String" "COMPACT_STRINGS" "Z" ∈ jj_gw)
    (kk : jj_J p l e R s m args below meth c D base nL Q nx lc (.int 1 :: st) h kc ks) : jj_J p l e R s m args below meth c D base nL Q pc lc st h kc ks := by
  obtain ⟨hx, hb, hml, hown, hts, hg, hE, -, -, -⟩ := C
  obtain ⟨a1, a2, -⟩ := jj_good_at hg hf
  subst a2
  exact fun H locs ls hw hS hl => va_gets hx hb hE.2.2.2.2.2.1 hS hown (hts _ w1) (fun _ h => h) a1 (kk H locs ls hw hS hl)
/-- constants of the pool -/
theorem jj_ldci (C : jj_C p s m args meth c y cc nL ret tb D aC base) {v : Int32} (hf : jj_look tb pc = some (.ldc idx, nx, tg, kv)) (w1 : Cond.constant y.cls idx v ∈ jj_gw)
    (kk : jj_J p l e R s m args below meth c D base nL Q nx lc (.int v :: st) h kc ks) : jj_J p l e R s m args below meth c D base nL Q pc lc st h kc ks := by
  obtain ⟨hx, hb, hml, hown, hts, hg, hE, -, -, -⟩ := C
  obtain ⟨a1, a2, -⟩ := jj_good_at hg hf
  subst a2
  exact fun H locs ls hw hS hl => lv_ldc hx hb hown (hts _ w1) a1 (kk H locs ls hw hS hl)
theorem jj_ldcl (C : jj_C p s m args meth c y cc nL ret tb D aC base) {v : Int64} (hf : jj_look tb pc = some (.ldc2_w idx, nx, tg, kv)) (w1 : Cond.constantLong y.cls idx v ∈ jj_gw)
    (kk : jj_J p l e R s m args below meth c D base nL Q nx lc (.long v :: st) h kc ks) : jj_J p l e R s m args below meth c D base nL Q pc lc st h kc ks := by
  obtain ⟨hx, hb, hml, hown, hts, hg, hE, -, -, -⟩ := C
  obtain ⟨a1, a2, -⟩ := jj_good_at hg hf
  subst a2
  exact fun H locs ls hw hS hl => lv_ldc2 hx hb hown (hts _ w1) a1 (kk H locs ls hw hS hl)
/-- the text "" of the class -/
theorem jj_ldcs (C : jj_C p s m args meth c y cc nL ret tb D aC base) (hf : jj_look tb pc = some (.ldc idx, nx, tg, kv)) (hy : (y.cls = "BeanServer" ∧ idx = 52) ∨ (y.cls = "BeanServer$Pattern" ∧ idx = 26))
    (kk : jj_J p l e R s m args below meth c D base nL Q nx lc (.ref (aC 100) :: st) h kc ks) : jj_J p l e R s m args below meth c D base nL Q pc lc st h kc ks := by
  obtain ⟨hx, hb, hml, hown, hts, hg, hE, -, -, -⟩ := C
  obtain ⟨a1, a2, -⟩ := jj_good_at hg hf
  subst a2
  intro H locs ls hw hS hl
  rcases hy with ⟨e1, rfl⟩ | ⟨e1, rfl⟩
  · exact va_ldcS hx hb hown (by rw [e1]; exact hE.2.2.2.2.2.2.2.2.1) a1 (kk H locs ls hw hS hl)
  · exact va_ldcS hx hb hown (by rw [e1]; exact hE.2.2.2.2.2.2.2.2.2.1) a1 (kk H locs ls hw hS hl)
/-- its field value, and that array's length -/
theorem jj_litv (C : jj_C p s m args meth c y cc nL ret tb D aC base) (hf : jj_look tb pc = some (.getfield idx, nx, tg, kv)) (w1 : Cond.fieldLink y.cls idx "java/lang/String" "value" "[B" ∈ jj_gw)
    (kk : jj_J p l e R s m args below meth c D base nL Q nx lc (.ref (aC 101) :: st) h kc ks) : jj_J p l e R s m args below meth c D base nL Q pc lc (.ref (aC 100) :: st) h kc ks := by
  obtain ⟨hx, hb, hml, hown, hts, hg, hE, -, -, -⟩ := C
  obtain ⟨a1, a2, -⟩ := jj_good_at hg hf
  subst a2
  exact fun H locs ls hw hS hl => vk_getf hx hb ((hE.2.2.2.2.2.2.2.2.2.2.1).1 0 (by decide)).2.2.1 hS hown (hts _ w1) (fun _ h => h) a1 (kk H locs ls hw hS hl)
theorem jj_litl (C : jj_C p s m args meth c y cc nL ret tb D aC base) (hf : jj_look tb pc = some (.arraylength, nx, tg, kv))
    (kk : jj_J p l e R s m args below meth c D base nL Q nx lc (.int 0 :: st) h kc ks) : jj_J p l e R s m args below meth c D base nL Q pc lc (.ref (aC 101) :: st) h kc ks := by
  obtain ⟨hx, hb, hml, hown, hts, hg, hE, -, -, -⟩ := C
  obtain ⟨a1, a2, -⟩ := jj_good_at hg hf
  subst a2
  exact fun H locs ls hw hS hl => va_tlen hx hb ((hE.2.2.2.2.2.2.2.2.2.2.1).1 0 (by decide)).2.2.2 hS rfl a1 (kk H locs ls hw hS hl)
theorem jj_lit_recv (C : jj_C p s m args meth c y cc nL ret tb D aC base) : ∀ (H : Heap) (locs : List Loc), jj_W D base h H → va_S (jj_A base) s.heap H locs → ∃ cell : Cell, H[aC 100]? = some cell ∧ cell.vm.isStatics = false ∧ s.vm.findClass "java/lang/String" = some cell.cls :=
  fun H locs _ hS => vk_recv (C.2.2.2.2.2.2.1.2.2.2.2.2.2.2.2.2.2.1) (i := 0) (by decide) hS
/-- Preconditions.SIOOBE_FORMATTER: a reference or null -/
theorem jj_getq (C : jj_C p s m args meth c y cc nL ret tb D aC base) (hf : jj_look tb pc = some (.getstatic idx, nx, tg, kv)) (w1 : Cond.fieldLink y.cls idx "jdk/internal/util/Preconditions" "SIOOBE_FORMATTER" "Ljava/util/function/BiFunction;" ∈ jj_gw)
    (kk : ∀ r : Option Nat, jj_J p l e R s m args below meth c D base nL Q nx lc (va_rf r :: st) h kc ks) : jj_J p l e R s m args below meth c D base nL Q pc lc st h kc ks := by
  obtain ⟨hx, hb, hml, hown, hts, hg, hE, -, -, -⟩ := C
  obtain ⟨a1, a2, -⟩ := jj_good_at hg hf
  subst a2
  intro H locs ls hw hS hl
  rcases hE.2.2.2.2.2.2.2.1 with hz | ⟨t, hz⟩
  · exact va_gets hx hb hz hS hown (hts _ w1) (fun _ h => h) a1 (kk none H locs ls hw hS hl)
  · exact va_gets hx hb hz hS hown (hts _ w1) (fun _ h => h) a1 (kk (some t) H locs ls hw hS hl)
/-- the law's script -/
theorem jj_slen (C : jj_C p s m args meth c y cc nL ret tb D aC base) {b L : Nat} {xs : Nat → Int32} (hX : va_X b L xs s s.heap) (hbl : b < base) (hf : jj_look tb pc = some (.arraylength, nx, tg, kv))
    (kk : jj_J p l e R s m args below meth c D base nL Q nx lc (.int (nI L) :: st) h kc ks) : jj_J p l e R s m args below meth c D base nL Q pc lc (.ref b :: st) h kc ks := by
  obtain ⟨hx, hb, hml, hown, hts, hg, hE, -, -, -⟩ := C
  obtain ⟨a1, a2, -⟩ := jj_good_at hg hf
  subst a2
  exact fun H locs ls hw hS hl => va_slen hx hb hX (Nat.lt_of_lt_of_le hbl hE.2.2.2.2.2.2.1) (fun q => Nat.not_le.mpr hbl q) hS a1 (kk H locs ls hw hS hl)
theorem jj_sld (C : jj_C p s m args meth c y cc nL ret tb D aC base) {b L j : Nat} {i : Int32} {xs : Nat → Int32} (hX : va_X b L xs s s.heap) (hbl : b < base) (hf : jj_look tb pc = some (.iaload, nx, tg, kv)) (hj : i = nI j) (hlt : j < L) (hL : L < 2 ^ 31)
    (kk : jj_J p l e R s m args below meth c D base nL Q nx lc (.int (xs j) :: st) h kc ks) : jj_J p l e R s m args below meth c D base nL Q pc lc (.int i :: .ref b :: st) h kc ks := by
  obtain ⟨hx, hb, hml, hown, hts, hg, hE, -, -, -⟩ := C
  obtain ⟨a1, a2, -⟩ := jj_good_at hg hf
  subst a2
  subst hj
  have hcl : (nI j).toNatClampNeg = j := nI_clamp (Nat.lt_trans hlt hL)
  exact fun H locs ls hw hS hl => va_sld hx hb hX (Nat.lt_of_lt_of_le hbl hE.2.2.2.2.2.2.1) (fun q => Nat.not_le.mpr hbl q) hS (vp_in_nI hlt hL) a1 (by rw [hcl]; exact kk H locs ls hw hS hl)
end JJC
end
