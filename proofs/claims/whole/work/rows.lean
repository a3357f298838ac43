section
-- ===== PART A: goes FIRST, ahead of the names: the tables' words, and 'selects' of the private methods out of them =====
/-- a private method of a class that the tables say can be made, by its rows of tables_1 -/
def lw_okq (q : MethodName × Nat) : Prop := (q.1.cls ≠ "java/lang/invoke/MethodHandle" ∧ q.1.cls ≠ "java/lang/invoke/VarHandle") ∧ Cond.instantiable q.1.cls q.2 ∈ tables_1 ∧ Cond.privateMethod q.1 ∈ tables_1 ∧ Cond.instanceMethod q.1 ∈ tables_1
theorem lw_p0 : lw_okq (⟨"BeanServer", "takenName", "()LBeanServer$Pattern;"⟩, 9) := ⟨⟨by decide +kernel, by decide +kernel⟩, List.mem_of_getElem? (i := 24) (by decide +kernel), List.mem_of_getElem? (i := 244) (by decide +kernel), List.mem_of_getElem? (i := 245) (by decide +kernel)⟩
theorem lw_p1 : lw_okq (⟨"BeanServer", "taken", "()Ljava/lang/String;"⟩, 9) := ⟨⟨by decide +kernel, by decide +kernel⟩, List.mem_of_getElem? (i := 24) (by decide +kernel), List.mem_of_getElem? (i := 248) (by decide +kernel), List.mem_of_getElem? (i := 249) (by decide +kernel)⟩
theorem lw_p2 : lw_okq (⟨"BeanServer$Pattern", "rowEnd", "(I)I"⟩, 6) := ⟨⟨by decide +kernel, by decide +kernel⟩, List.mem_of_getElem? (i := 329) (by decide +kernel), List.mem_of_getElem? (i := 360) (by decide +kernel), List.mem_of_getElem? (i := 361) (by decide +kernel)⟩
theorem lw_p3 : lw_okq (⟨"BeanServer$Pattern", "parseList", "(I)Z"⟩, 6) := ⟨⟨by decide +kernel, by decide +kernel⟩, List.mem_of_getElem? (i := 329) (by decide +kernel), List.mem_of_getElem? (i := 390) (by decide +kernel), List.mem_of_getElem? (i := 391) (by decide +kernel)⟩
theorem lw_p4 : lw_okq (⟨"BeanServer$Pattern", "parseProperty", "(I)I"⟩, 6) := ⟨⟨by decide +kernel, by decide +kernel⟩, List.mem_of_getElem? (i := 329) (by decide +kernel), List.mem_of_getElem? (i := 394) (by decide +kernel), List.mem_of_getElem? (i := 395) (by decide +kernel)⟩
theorem lw_p5 : lw_okq (⟨"BeanServer$Pattern", "ordered", "()Ljava/lang/String;"⟩, 6) := ⟨⟨by decide +kernel, by decide +kernel⟩, List.mem_of_getElem? (i := 329) (by decide +kernel), List.mem_of_getElem? (i := 398) (by decide +kernel), List.mem_of_getElem? (i := 399) (by decide +kernel)⟩
theorem lw_p6 : lw_okq (⟨"BeanServer$Pattern", "copy", "(IILjava/lang/StringBuilder;)V"⟩, 6) := ⟨⟨by decide +kernel, by decide +kernel⟩, List.mem_of_getElem? (i := 329) (by decide +kernel), List.mem_of_getElem? (i := 404) (by decide +kernel), List.mem_of_getElem? (i := 405) (by decide +kernel)⟩
theorem lw_p7 : lw_okq (⟨"BeanServer", "beanNamed", "(Ljava/lang/String;)I"⟩, 9) := ⟨⟨by decide +kernel, by decide +kernel⟩, List.mem_of_getElem? (i := 24) (by decide +kernel), List.mem_of_getElem? (i := 473) (by decide +kernel), List.mem_of_getElem? (i := 474) (by decide +kernel)⟩
theorem lw_p8 : lw_okq (⟨"BeanServer", "freeBean", "()I"⟩, 9) := ⟨⟨by decide +kernel, by decide +kernel⟩, List.mem_of_getElem? (i := 24) (by decide +kernel), List.mem_of_getElem? (i := 485) (by decide +kernel), List.mem_of_getElem? (i := 486) (by decide +kernel)⟩
theorem lw_p9 : lw_okq (⟨"BeanServer", "beanAt", "(I)LBeanServer$Bean;"⟩, 9) := ⟨⟨by decide +kernel, by decide +kernel⟩, List.mem_of_getElem? (i := 24) (by decide +kernel), List.mem_of_getElem? (i := 527) (by decide +kernel), List.mem_of_getElem? (i := 528) (by decide +kernel)⟩
theorem lw_p10 : lw_okq (⟨"BeanServer$QueryReader", "all", "()I"⟩, 6) := ⟨⟨by decide +kernel, by decide +kernel⟩, List.mem_of_getElem? (i := 551) (by decide +kernel), List.mem_of_getElem? (i := 587) (by decide +kernel), List.mem_of_getElem? (i := 588) (by decide +kernel)⟩
theorem lw_p11 : lw_okq (⟨"BeanServer$QueryReader", "one", "()I"⟩, 6) := ⟨⟨by decide +kernel, by decide +kernel⟩, List.mem_of_getElem? (i := 551) (by decide +kernel), List.mem_of_getElem? (i := 591) (by decide +kernel), List.mem_of_getElem? (i := 592) (by decide +kernel)⟩
theorem lw_p12 : lw_okq (⟨"BeanServer$QueryReader", "step", "()V"⟩, 6) := ⟨⟨by decide +kernel, by decide +kernel⟩, List.mem_of_getElem? (i := 551) (by decide +kernel), List.mem_of_getElem? (i := 595) (by decide +kernel), List.mem_of_getElem? (i := 596) (by decide +kernel)⟩
theorem lw_p13 : lw_okq (⟨"BeanServer$QueryReader", "sum", "()I"⟩, 6) := ⟨⟨by decide +kernel, by decide +kernel⟩, List.mem_of_getElem? (i := 551) (by decide +kernel), List.mem_of_getElem? (i := 601) (by decide +kernel), List.mem_of_getElem? (i := 602) (by decide +kernel)⟩
theorem lw_p14 : lw_okq (⟨"BeanServer$QueryReader", "product", "()I"⟩, 6) := ⟨⟨by decide +kernel, by decide +kernel⟩, List.mem_of_getElem? (i := 551) (by decide +kernel), List.mem_of_getElem? (i := 605) (by decide +kernel), List.mem_of_getElem? (i := 606) (by decide +kernel)⟩
theorem lw_p15 : lw_okq (⟨"BeanServer$QueryReader", "unit", "()I"⟩, 6) := ⟨⟨by decide +kernel, by decide +kernel⟩, List.mem_of_getElem? (i := 551) (by decide +kernel), List.mem_of_getElem? (i := 609) (by decide +kernel), List.mem_of_getElem? (i := 610) (by decide +kernel)⟩
def lw_privs_1 : List (MethodName × Nat) := [(⟨"BeanServer", "takenName", "()LBeanServer$Pattern;"⟩, 9), (⟨"BeanServer", "taken", "()Ljava/lang/String;"⟩, 9), (⟨"BeanServer$Pattern", "rowEnd", "(I)I"⟩, 6), (⟨"BeanServer$Pattern", "parseList", "(I)Z"⟩, 6), (⟨"BeanServer$Pattern", "parseProperty", "(I)I"⟩, 6), (⟨"BeanServer$Pattern", "ordered", "()Ljava/lang/String;"⟩, 6), (⟨"BeanServer$Pattern", "copy", "(IILjava/lang/StringBuilder;)V"⟩, 6), (⟨"BeanServer", "beanNamed", "(Ljava/lang/String;)I"⟩, 9), (⟨"BeanServer", "freeBean", "()I"⟩, 9), (⟨"BeanServer", "beanAt", "(I)LBeanServer$Bean;"⟩, 9), (⟨"BeanServer$QueryReader", "all", "()I"⟩, 6), (⟨"BeanServer$QueryReader", "one", "()I"⟩, 6), (⟨"BeanServer$QueryReader", "step", "()V"⟩, 6), (⟨"BeanServer$QueryReader", "sum", "()I"⟩, 6), (⟨"BeanServer$QueryReader", "product", "()I"⟩, 6), (⟨"BeanServer$QueryReader", "unit", "()I"⟩, 6)]
theorem lw_r1 : ∀ q ∈ lw_privs_1, lw_okq q := List.forall_mem_cons.mpr ⟨lw_p0, List.forall_mem_cons.mpr ⟨lw_p1, List.forall_mem_cons.mpr ⟨lw_p2, List.forall_mem_cons.mpr ⟨lw_p3, List.forall_mem_cons.mpr ⟨lw_p4, List.forall_mem_cons.mpr ⟨lw_p5, List.forall_mem_cons.mpr ⟨lw_p6, List.forall_mem_cons.mpr ⟨lw_p7, List.forall_mem_cons.mpr ⟨lw_p8, List.forall_mem_cons.mpr ⟨lw_p9, List.forall_mem_cons.mpr ⟨lw_p10, List.forall_mem_cons.mpr ⟨lw_p11, List.forall_mem_cons.mpr ⟨lw_p12, List.forall_mem_cons.mpr ⟨lw_p13, List.forall_mem_cons.mpr ⟨lw_p14, List.forall_mem_cons.mpr ⟨lw_p15, fun _ h => absurd h List.not_mem_nil⟩⟩⟩⟩⟩⟩⟩⟩⟩⟩⟩⟩⟩⟩⟩⟩
theorem lw_p16 : lw_okq (⟨"BeanServer$QueryForm", "openParenthesis", "()V"⟩, 4) := ⟨⟨by decide +kernel, by decide +kernel⟩, List.mem_of_getElem? (i := 620) (by decide +kernel), List.mem_of_getElem? (i := 647) (by decide +kernel), List.mem_of_getElem? (i := 648) (by decide +kernel)⟩
theorem lw_p17 : lw_okq (⟨"BeanServer$QueryForm", "closeParenthesis", "(C)V"⟩, 4) := ⟨⟨by decide +kernel, by decide +kernel⟩, List.mem_of_getElem? (i := 620) (by decide +kernel), List.mem_of_getElem? (i := 653) (by decide +kernel), List.mem_of_getElem? (i := 654) (by decide +kernel)⟩
theorem lw_p18 : lw_okq (⟨"BeanServer$QueryForm", "lastBefore", "(I)C"⟩, 4) := ⟨⟨by decide +kernel, by decide +kernel⟩, List.mem_of_getElem? (i := 620) (by decide +kernel), List.mem_of_getElem? (i := 657) (by decide +kernel), List.mem_of_getElem? (i := 658) (by decide +kernel)⟩
theorem lw_p19 : lw_okq (⟨"BeanServer$QueryForm", "jointFrom", "(I)C"⟩, 4) := ⟨⟨by decide +kernel, by decide +kernel⟩, List.mem_of_getElem? (i := 620) (by decide +kernel), List.mem_of_getElem? (i := 671) (by decide +kernel), List.mem_of_getElem? (i := 672) (by decide +kernel)⟩
theorem lw_p20 : lw_okq (⟨"BeanServer", "queryAt", "(I)LBeanServer$Query;"⟩, 9) := ⟨⟨by decide +kernel, by decide +kernel⟩, List.mem_of_getElem? (i := 24) (by decide +kernel), List.mem_of_getElem? (i := 707) (by decide +kernel), List.mem_of_getElem? (i := 708) (by decide +kernel)⟩
theorem lw_p21 : lw_okq (⟨"BeanServer$Pattern", "standsFor", "(IILjava/lang/String;II)Z"⟩, 6) := ⟨⟨by decide +kernel, by decide +kernel⟩, List.mem_of_getElem? (i := 329) (by decide +kernel), List.mem_of_getElem? (i := 719) (by decide +kernel), List.mem_of_getElem? (i := 720) (by decide +kernel)⟩
theorem lw_p22 : lw_okq (⟨"BeanServer", "shownForm", "(II)Ljava/lang/String;"⟩, 9) := ⟨⟨by decide +kernel, by decide +kernel⟩, List.mem_of_getElem? (i := 24) (by decide +kernel), List.mem_of_getElem? (i := 734) (by decide +kernel), List.mem_of_getElem? (i := 735) (by decide +kernel)⟩
theorem lw_p23 : lw_okq (⟨"BeanServer", "numberForMonitorOf", "(I)I"⟩, 9) := ⟨⟨by decide +kernel, by decide +kernel⟩, List.mem_of_getElem? (i := 24) (by decide +kernel), List.mem_of_getElem? (i := 743) (by decide +kernel), List.mem_of_getElem? (i := 744) (by decide +kernel)⟩
theorem lw_p24 : lw_okq (⟨"BeanServer", "monitorAt", "(I)LBeanServer$Monitor;"⟩, 9) := ⟨⟨by decide +kernel, by decide +kernel⟩, List.mem_of_getElem? (i := 24) (by decide +kernel), List.mem_of_getElem? (i := 814) (by decide +kernel), List.mem_of_getElem? (i := 815) (by decide +kernel)⟩
theorem lw_p25 : lw_okq (⟨"BeanServer", "letLook", "(LBeanServer$Monitor;I)V"⟩, 9) := ⟨⟨by decide +kernel, by decide +kernel⟩, List.mem_of_getElem? (i := 24) (by decide +kernel), List.mem_of_getElem? (i := 822) (by decide +kernel), List.mem_of_getElem? (i := 823) (by decide +kernel)⟩
theorem lw_p26 : lw_okq (⟨"BeanServer$Counter", "firstMarkAbove", "(I)J"⟩, 9) := ⟨⟨by decide +kernel, by decide +kernel⟩, List.mem_of_getElem? (i := 747) (by decide +kernel), List.mem_of_getElem? (i := 832) (by decide +kernel), List.mem_of_getElem? (i := 833) (by decide +kernel)⟩
theorem lw_p27 : lw_okq (⟨"BeanServerModel", "put", "(IC)V"⟩, 29) := ⟨⟨by decide +kernel, by decide +kernel⟩, List.mem_of_getElem? (i := 867) (by decide +kernel), List.mem_of_getElem? (i := 967) (by decide +kernel), List.mem_of_getElem? (i := 968) (by decide +kernel)⟩
theorem lw_p28 : lw_okq (⟨"BeanServerModel", "takeName", "()Z"⟩, 29) := ⟨⟨by decide +kernel, by decide +kernel⟩, List.mem_of_getElem? (i := 867) (by decide +kernel), List.mem_of_getElem? (i := 975) (by decide +kernel), List.mem_of_getElem? (i := 976) (by decide +kernel)⟩
theorem lw_p29 : lw_okq (⟨"BeanServerModel", "take", "()V"⟩, 29) := ⟨⟨by decide +kernel, by decide +kernel⟩, List.mem_of_getElem? (i := 867) (by decide +kernel), List.mem_of_getElem? (i := 979) (by decide +kernel), List.mem_of_getElem? (i := 980) (by decide +kernel)⟩
theorem lw_p30 : lw_okq (⟨"BeanServerModel", "copy", "(II)V"⟩, 29) := ⟨⟨by decide +kernel, by decide +kernel⟩, List.mem_of_getElem? (i := 867) (by decide +kernel), List.mem_of_getElem? (i := 983) (by decide +kernel), List.mem_of_getElem? (i := 984) (by decide +kernel)⟩
theorem lw_p31 : lw_okq (⟨"BeanServerModel", "get1", "(II)C"⟩, 29) := ⟨⟨by decide +kernel, by decide +kernel⟩, List.mem_of_getElem? (i := 867) (by decide +kernel), List.mem_of_getElem? (i := 987) (by decide +kernel), List.mem_of_getElem? (i := 988) (by decide +kernel)⟩
def lw_privs_2 : List (MethodName × Nat) := [(⟨"BeanServer$QueryForm", "openParenthesis", "()V"⟩, 4), (⟨"BeanServer$QueryForm", "closeParenthesis", "(C)V"⟩, 4), (⟨"BeanServer$QueryForm", "lastBefore", "(I)C"⟩, 4), (⟨"BeanServer$QueryForm", "jointFrom", "(I)C"⟩, 4), (⟨"BeanServer", "queryAt", "(I)LBeanServer$Query;"⟩, 9), (⟨"BeanServer$Pattern", "standsFor", "(IILjava/lang/String;II)Z"⟩, 6), (⟨"BeanServer", "shownForm", "(II)Ljava/lang/String;"⟩, 9), (⟨"BeanServer", "numberForMonitorOf", "(I)I"⟩, 9), (⟨"BeanServer", "monitorAt", "(I)LBeanServer$Monitor;"⟩, 9), (⟨"BeanServer", "letLook", "(LBeanServer$Monitor;I)V"⟩, 9), (⟨"BeanServer$Counter", "firstMarkAbove", "(I)J"⟩, 9), (⟨"BeanServerModel", "put", "(IC)V"⟩, 29), (⟨"BeanServerModel", "takeName", "()Z"⟩, 29), (⟨"BeanServerModel", "take", "()V"⟩, 29), (⟨"BeanServerModel", "copy", "(II)V"⟩, 29), (⟨"BeanServerModel", "get1", "(II)C"⟩, 29)]
theorem lw_r2 : ∀ q ∈ lw_privs_2, lw_okq q := List.forall_mem_cons.mpr ⟨lw_p16, List.forall_mem_cons.mpr ⟨lw_p17, List.forall_mem_cons.mpr ⟨lw_p18, List.forall_mem_cons.mpr ⟨lw_p19, List.forall_mem_cons.mpr ⟨lw_p20, List.forall_mem_cons.mpr ⟨lw_p21, List.forall_mem_cons.mpr ⟨lw_p22, List.forall_mem_cons.mpr ⟨lw_p23, List.forall_mem_cons.mpr ⟨lw_p24, List.forall_mem_cons.mpr ⟨lw_p25, List.forall_mem_cons.mpr ⟨lw_p26, List.forall_mem_cons.mpr ⟨lw_p27, List.forall_mem_cons.mpr ⟨lw_p28, List.forall_mem_cons.mpr ⟨lw_p29, List.forall_mem_cons.mpr ⟨lw_p30, List.forall_mem_cons.mpr ⟨lw_p31, fun _ h => absurd h List.not_mem_nil⟩⟩⟩⟩⟩⟩⟩⟩⟩⟩⟩⟩⟩⟩⟩⟩
theorem lw_p32 : lw_okq (⟨"BeanServerModel", "reads", "(IZ)Z"⟩, 29) := ⟨⟨by decide +kernel, by decide +kernel⟩, List.mem_of_getElem? (i := 867) (by decide +kernel), List.mem_of_getElem? (i := 991) (by decide +kernel), List.mem_of_getElem? (i := 992) (by decide +kernel)⟩
theorem lw_p33 : lw_okq (⟨"BeanServerModel", "colon", "(I)I"⟩, 29) := ⟨⟨by decide +kernel, by decide +kernel⟩, List.mem_of_getElem? (i := 867) (by decide +kernel), List.mem_of_getElem? (i := 995) (by decide +kernel), List.mem_of_getElem? (i := 996) (by decide +kernel)⟩
theorem lw_p34 : lw_okq (⟨"BeanServerModel", "list", "(IIZ)Z"⟩, 29) := ⟨⟨by decide +kernel, by decide +kernel⟩, List.mem_of_getElem? (i := 867) (by decide +kernel), List.mem_of_getElem? (i := 1008) (by decide +kernel), List.mem_of_getElem? (i := 1009) (by decide +kernel)⟩
theorem lw_p35 : lw_okq (⟨"BeanServerModel", "order", "()V"⟩, 29) := ⟨⟨by decide +kernel, by decide +kernel⟩, List.mem_of_getElem? (i := 867) (by decide +kernel), List.mem_of_getElem? (i := 1012) (by decide +kernel), List.mem_of_getElem? (i := 1013) (by decide +kernel)⟩
theorem lw_p36 : lw_okq (⟨"BeanServerModel", "copyProperty", "(III)V"⟩, 29) := ⟨⟨by decide +kernel, by decide +kernel⟩, List.mem_of_getElem? (i := 867) (by decide +kernel), List.mem_of_getElem? (i := 1016) (by decide +kernel), List.mem_of_getElem? (i := 1017) (by decide +kernel)⟩
theorem lw_p37 : lw_okq (⟨"BeanServerModel", "beanWith", "(I)I"⟩, 29) := ⟨⟨by decide +kernel, by decide +kernel⟩, List.mem_of_getElem? (i := 867) (by decide +kernel), List.mem_of_getElem? (i := 1020) (by decide +kernel), List.mem_of_getElem? (i := 1021) (by decide +kernel)⟩
theorem lw_p38 : lw_okq (⟨"BeanServerModel", "same", "(II)Z"⟩, 29) := ⟨⟨by decide +kernel, by decide +kernel⟩, List.mem_of_getElem? (i := 867) (by decide +kernel), List.mem_of_getElem? (i := 1024) (by decide +kernel), List.mem_of_getElem? (i := 1025) (by decide +kernel)⟩
theorem lw_p39 : lw_okq (⟨"BeanServerModel", "give", "(III)V"⟩, 29) := ⟨⟨by decide +kernel, by decide +kernel⟩, List.mem_of_getElem? (i := 867) (by decide +kernel), List.mem_of_getElem? (i := 1028) (by decide +kernel), List.mem_of_getElem? (i := 1029) (by decide +kernel)⟩
theorem lw_p40 : lw_okq (⟨"BeanServerModel", "isSlot", "(II)Z"⟩, 29) := ⟨⟨by decide +kernel, by decide +kernel⟩, List.mem_of_getElem? (i := 867) (by decide +kernel), List.mem_of_getElem? (i := 1045) (by decide +kernel), List.mem_of_getElem? (i := 1046) (by decide +kernel)⟩
theorem lw_p41 : lw_okq (⟨"BeanServerModel", "isBean", "(I)Z"⟩, 29) := ⟨⟨by decide +kernel, by decide +kernel⟩, List.mem_of_getElem? (i := 867) (by decide +kernel), List.mem_of_getElem? (i := 1049) (by decide +kernel), List.mem_of_getElem? (i := 1050) (by decide +kernel)⟩
theorem lw_p42 : lw_okq (⟨"BeanServerModel", "isQuery", "()Z"⟩, 29) := ⟨⟨by decide +kernel, by decide +kernel⟩, List.mem_of_getElem? (i := 867) (by decide +kernel), List.mem_of_getElem? (i := 1065) (by decide +kernel), List.mem_of_getElem? (i := 1066) (by decide +kernel)⟩
theorem lw_p43 : lw_okq (⟨"BeanServerModel", "comparisonEnd", "(I)I"⟩, 29) := ⟨⟨by decide +kernel, by decide +kernel⟩, List.mem_of_getElem? (i := 867) (by decide +kernel), List.mem_of_getElem? (i := 1069) (by decide +kernel), List.mem_of_getElem? (i := 1070) (by decide +kernel)⟩
theorem lw_p44 : lw_okq (⟨"BeanServerModel", "valueEnd", "(I)I"⟩, 29) := ⟨⟨by decide +kernel, by decide +kernel⟩, List.mem_of_getElem? (i := 867) (by decide +kernel), List.mem_of_getElem? (i := 1073) (by decide +kernel), List.mem_of_getElem? (i := 1074) (by decide +kernel)⟩
theorem lw_p45 : lw_okq (⟨"BeanServerModel", "unit", "(I)I"⟩, 29) := ⟨⟨by decide +kernel, by decide +kernel⟩, List.mem_of_getElem? (i := 867) (by decide +kernel), List.mem_of_getElem? (i := 1077) (by decide +kernel), List.mem_of_getElem? (i := 1078) (by decide +kernel)⟩
theorem lw_p46 : lw_okq (⟨"BeanServerModel", "shorten", "()V"⟩, 29) := ⟨⟨by decide +kernel, by decide +kernel⟩, List.mem_of_getElem? (i := 867) (by decide +kernel), List.mem_of_getElem? (i := 1087) (by decide +kernel), List.mem_of_getElem? (i := 1088) (by decide +kernel)⟩
theorem lw_p47 : lw_okq (⟨"BeanServerModel", "last", "()C"⟩, 29) := ⟨⟨by decide +kernel, by decide +kernel⟩, List.mem_of_getElem? (i := 867) (by decide +kernel), List.mem_of_getElem? (i := 1091) (by decide +kernel), List.mem_of_getElem? (i := 1092) (by decide +kernel)⟩
def lw_privs_3 : List (MethodName × Nat) := [(⟨"BeanServerModel", "reads", "(IZ)Z"⟩, 29), (⟨"BeanServerModel", "colon", "(I)I"⟩, 29), (⟨"BeanServerModel", "list", "(IIZ)Z"⟩, 29), (⟨"BeanServerModel", "order", "()V"⟩, 29), (⟨"BeanServerModel", "copyProperty", "(III)V"⟩, 29), (⟨"BeanServerModel", "beanWith", "(I)I"⟩, 29), (⟨"BeanServerModel", "same", "(II)Z"⟩, 29), (⟨"BeanServerModel", "give", "(III)V"⟩, 29), (⟨"BeanServerModel", "isSlot", "(II)Z"⟩, 29), (⟨"BeanServerModel", "isBean", "(I)Z"⟩, 29), (⟨"BeanServerModel", "isQuery", "()Z"⟩, 29), (⟨"BeanServerModel", "comparisonEnd", "(I)I"⟩, 29), (⟨"BeanServerModel", "valueEnd", "(I)I"⟩, 29), (⟨"BeanServerModel", "unit", "(I)I"⟩, 29), (⟨"BeanServerModel", "shorten", "()V"⟩, 29), (⟨"BeanServerModel", "last", "()C"⟩, 29)]
theorem lw_r3 : ∀ q ∈ lw_privs_3, lw_okq q := List.forall_mem_cons.mpr ⟨lw_p32, List.forall_mem_cons.mpr ⟨lw_p33, List.forall_mem_cons.mpr ⟨lw_p34, List.forall_mem_cons.mpr ⟨lw_p35, List.forall_mem_cons.mpr ⟨lw_p36, List.forall_mem_cons.mpr ⟨lw_p37, List.forall_mem_cons.mpr ⟨lw_p38, List.forall_mem_cons.mpr ⟨lw_p39, List.forall_mem_cons.mpr ⟨lw_p40, List.forall_mem_cons.mpr ⟨lw_p41, List.forall_mem_cons.mpr ⟨lw_p42, List.forall_mem_cons.mpr ⟨lw_p43, List.forall_mem_cons.mpr ⟨lw_p44, List.forall_mem_cons.mpr ⟨lw_p45, List.forall_mem_cons.mpr ⟨lw_p46, List.forall_mem_cons.mpr ⟨lw_p47, fun _ h => absurd h List.not_mem_nil⟩⟩⟩⟩⟩⟩⟩⟩⟩⟩⟩⟩⟩⟩⟩⟩
theorem lw_p48 : lw_okq (⟨"BeanServerModel", "needed", "(I)Z"⟩, 29) := ⟨⟨by decide +kernel, by decide +kernel⟩, List.mem_of_getElem? (i := 867) (by decide +kernel), List.mem_of_getElem? (i := 1095) (by decide +kernel), List.mem_of_getElem? (i := 1096) (by decide +kernel)⟩
theorem lw_p49 : lw_okq (⟨"BeanServerModel", "partner", "(I)I"⟩, 29) := ⟨⟨by decide +kernel, by decide +kernel⟩, List.mem_of_getElem? (i := 867) (by decide +kernel), List.mem_of_getElem? (i := 1099) (by decide +kernel), List.mem_of_getElem? (i := 1100) (by decide +kernel)⟩
theorem lw_p50 : lw_okq (⟨"BeanServerModel", "contains", "(IIC)Z"⟩, 29) := ⟨⟨by decide +kernel, by decide +kernel⟩, List.mem_of_getElem? (i := 867) (by decide +kernel), List.mem_of_getElem? (i := 1103) (by decide +kernel), List.mem_of_getElem? (i := 1104) (by decide +kernel)⟩
theorem lw_p51 : lw_okq (⟨"BeanServerModel", "amongSeveral", "(II)Z"⟩, 29) := ⟨⟨by decide +kernel, by decide +kernel⟩, List.mem_of_getElem? (i := 867) (by decide +kernel), List.mem_of_getElem? (i := 1107) (by decide +kernel), List.mem_of_getElem? (i := 1108) (by decide +kernel)⟩
theorem lw_p52 : lw_okq (⟨"BeanServerModel", "isAsked", "(I)Z"⟩, 29) := ⟨⟨by decide +kernel, by decide +kernel⟩, List.mem_of_getElem? (i := 867) (by decide +kernel), List.mem_of_getElem? (i := 1115) (by decide +kernel), List.mem_of_getElem? (i := 1116) (by decide +kernel)⟩
theorem lw_p53 : lw_okq (⟨"BeanServerModel", "truth", "(II)I"⟩, 29) := ⟨⟨by decide +kernel, by decide +kernel⟩, List.mem_of_getElem? (i := 867) (by decide +kernel), List.mem_of_getElem? (i := 1119) (by decide +kernel), List.mem_of_getElem? (i := 1120) (by decide +kernel)⟩
theorem lw_p54 : lw_okq (⟨"BeanServerModel", "enter", "(IZ)V"⟩, 29) := ⟨⟨by decide +kernel, by decide +kernel⟩, List.mem_of_getElem? (i := 867) (by decide +kernel), List.mem_of_getElem? (i := 1123) (by decide +kernel), List.mem_of_getElem? (i := 1124) (by decide +kernel)⟩
theorem lw_p55 : lw_okq (⟨"BeanServerModel", "looked", "(I)Z"⟩, 29) := ⟨⟨by decide +kernel, by decide +kernel⟩, List.mem_of_getElem? (i := 867) (by decide +kernel), List.mem_of_getElem? (i := 1127) (by decide +kernel), List.mem_of_getElem? (i := 1128) (by decide +kernel)⟩
theorem lw_p56 : lw_okq (⟨"BeanServerModel", "settle", "(IZ)V"⟩, 29) := ⟨⟨by decide +kernel, by decide +kernel⟩, List.mem_of_getElem? (i := 867) (by decide +kernel), List.mem_of_getElem? (i := 1131) (by decide +kernel), List.mem_of_getElem? (i := 1132) (by decide +kernel)⟩
theorem lw_p57 : lw_okq (⟨"BeanServerModel", "comparison", "(II)Z"⟩, 29) := ⟨⟨by decide +kernel, by decide +kernel⟩, List.mem_of_getElem? (i := 867) (by decide +kernel), List.mem_of_getElem? (i := 1135) (by decide +kernel), List.mem_of_getElem? (i := 1136) (by decide +kernel)⟩
theorem lw_p58 : lw_okq (⟨"BeanServerModel", "value", "(II)I"⟩, 29) := ⟨⟨by decide +kernel, by decide +kernel⟩, List.mem_of_getElem? (i := 867) (by decide +kernel), List.mem_of_getElem? (i := 1139) (by decide +kernel), List.mem_of_getElem? (i := 1140) (by decide +kernel)⟩
theorem lw_p59 : lw_okq (⟨"BeanServerModel", "unitValue", "(II)I"⟩, 29) := ⟨⟨by decide +kernel, by decide +kernel⟩, List.mem_of_getElem? (i := 867) (by decide +kernel), List.mem_of_getElem? (i := 1143) (by decide +kernel), List.mem_of_getElem? (i := 1144) (by decide +kernel)⟩
theorem lw_p60 : lw_okq (⟨"BeanServerModel", "fits", "(I)Z"⟩, 29) := ⟨⟨by decide +kernel, by decide +kernel⟩, List.mem_of_getElem? (i := 867) (by decide +kernel), List.mem_of_getElem? (i := 1152) (by decide +kernel), List.mem_of_getElem? (i := 1153) (by decide +kernel)⟩
theorem lw_p61 : lw_okq (⟨"BeanServerModel", "matches", "(IIII)Z"⟩, 29) := ⟨⟨by decide +kernel, by decide +kernel⟩, List.mem_of_getElem? (i := 867) (by decide +kernel), List.mem_of_getElem? (i := 1156) (by decide +kernel), List.mem_of_getElem? (i := 1157) (by decide +kernel)⟩
theorem lw_p62 : lw_okq (⟨"BeanServerModel", "spread", "(IIII)I"⟩, 29) := ⟨⟨by decide +kernel, by decide +kernel⟩, List.mem_of_getElem? (i := 867) (by decide +kernel), List.mem_of_getElem? (i := 1163) (by decide +kernel), List.mem_of_getElem? (i := 1164) (by decide +kernel)⟩
theorem lw_p63 : lw_okq (⟨"BeanServerModel", "property", "(II)I"⟩, 29) := ⟨⟨by decide +kernel, by decide +kernel⟩, List.mem_of_getElem? (i := 867) (by decide +kernel), List.mem_of_getElem? (i := 1167) (by decide +kernel), List.mem_of_getElem? (i := 1168) (by decide +kernel)⟩
def lw_privs_4 : List (MethodName × Nat) := [(⟨"BeanServerModel", "needed", "(I)Z"⟩, 29), (⟨"BeanServerModel", "partner", "(I)I"⟩, 29), (⟨"BeanServerModel", "contains", "(IIC)Z"⟩, 29), (⟨"BeanServerModel", "amongSeveral", "(II)Z"⟩, 29), (⟨"BeanServerModel", "isAsked", "(I)Z"⟩, 29), (⟨"BeanServerModel", "truth", "(II)I"⟩, 29), (⟨"BeanServerModel", "enter", "(IZ)V"⟩, 29), (⟨"BeanServerModel", "looked", "(I)Z"⟩, 29), (⟨"BeanServerModel", "settle", "(IZ)V"⟩, 29), (⟨"BeanServerModel", "comparison", "(II)Z"⟩, 29), (⟨"BeanServerModel", "value", "(II)I"⟩, 29), (⟨"BeanServerModel", "unitValue", "(II)I"⟩, 29), (⟨"BeanServerModel", "fits", "(I)Z"⟩, 29), (⟨"BeanServerModel", "matches", "(IIII)Z"⟩, 29), (⟨"BeanServerModel", "spread", "(IIII)I"⟩, 29), (⟨"BeanServerModel", "property", "(II)I"⟩, 29)]
theorem lw_r4 : ∀ q ∈ lw_privs_4, lw_okq q := List.forall_mem_cons.mpr ⟨lw_p48, List.forall_mem_cons.mpr ⟨lw_p49, List.forall_mem_cons.mpr ⟨lw_p50, List.forall_mem_cons.mpr ⟨lw_p51, List.forall_mem_cons.mpr ⟨lw_p52, List.forall_mem_cons.mpr ⟨lw_p53, List.forall_mem_cons.mpr ⟨lw_p54, List.forall_mem_cons.mpr ⟨lw_p55, List.forall_mem_cons.mpr ⟨lw_p56, List.forall_mem_cons.mpr ⟨lw_p57, List.forall_mem_cons.mpr ⟨lw_p58, List.forall_mem_cons.mpr ⟨lw_p59, List.forall_mem_cons.mpr ⟨lw_p60, List.forall_mem_cons.mpr ⟨lw_p61, List.forall_mem_cons.mpr ⟨lw_p62, List.forall_mem_cons.mpr ⟨lw_p63, fun _ h => absurd h List.not_mem_nil⟩⟩⟩⟩⟩⟩⟩⟩⟩⟩⟩⟩⟩⟩⟩⟩
theorem lw_p64 : lw_okq (⟨"BeanServerModel", "watch", "(IIIII)I"⟩, 29) := ⟨⟨by decide +kernel, by decide +kernel⟩, List.mem_of_getElem? (i := 867) (by decide +kernel), List.mem_of_getElem? (i := 1183) (by decide +kernel), List.mem_of_getElem? (i := 1184) (by decide +kernel)⟩
theorem lw_p65 : lw_okq (⟨"BeanServerModel", "isMonitor", "(I)Z"⟩, 29) := ⟨⟨by decide +kernel, by decide +kernel⟩, List.mem_of_getElem? (i := 867) (by decide +kernel), List.mem_of_getElem? (i := 1195) (by decide +kernel), List.mem_of_getElem? (i := 1196) (by decide +kernel)⟩
theorem lw_p66 : lw_okq (⟨"BeanServerModel", "observe1", "(I)V"⟩, 29) := ⟨⟨by decide +kernel, by decide +kernel⟩, List.mem_of_getElem? (i := 867) (by decide +kernel), List.mem_of_getElem? (i := 1203) (by decide +kernel), List.mem_of_getElem? (i := 1204) (by decide +kernel)⟩
theorem lw_p67 : lw_okq (⟨"BeanServerModel", "count", "(II)V"⟩, 29) := ⟨⟨by decide +kernel, by decide +kernel⟩, List.mem_of_getElem? (i := 867) (by decide +kernel), List.mem_of_getElem? (i := 1207) (by decide +kernel), List.mem_of_getElem? (i := 1208) (by decide +kernel)⟩
theorem lw_p68 : lw_okq (⟨"BeanServerModel", "gaugeOf", "(II)V"⟩, 29) := ⟨⟨by decide +kernel, by decide +kernel⟩, List.mem_of_getElem? (i := 867) (by decide +kernel), List.mem_of_getElem? (i := 1211) (by decide +kernel), List.mem_of_getElem? (i := 1212) (by decide +kernel)⟩
def lw_privs_5 : List (MethodName × Nat) := [(⟨"BeanServerModel", "watch", "(IIIII)I"⟩, 29), (⟨"BeanServerModel", "isMonitor", "(I)Z"⟩, 29), (⟨"BeanServerModel", "observe1", "(I)V"⟩, 29), (⟨"BeanServerModel", "count", "(II)V"⟩, 29), (⟨"BeanServerModel", "gaugeOf", "(II)V"⟩, 29)]
theorem lw_r5 : ∀ q ∈ lw_privs_5, lw_okq q := List.forall_mem_cons.mpr ⟨lw_p64, List.forall_mem_cons.mpr ⟨lw_p65, List.forall_mem_cons.mpr ⟨lw_p66, List.forall_mem_cons.mpr ⟨lw_p67, List.forall_mem_cons.mpr ⟨lw_p68, fun _ h => absurd h List.not_mem_nil⟩⟩⟩⟩⟩
def lw_privs : List (MethodName × Nat) := lw_privs_1 ++ (lw_privs_2 ++ (lw_privs_3 ++ (lw_privs_4 ++ (lw_privs_5))))
def lw_tbl : List Cond := k2_sels lw_privs ++ tables_1
theorem lw_privs_ok : ∀ q ∈ lw_privs, lw_okq q := by
  show ∀ q ∈ lw_privs_1 ++ (lw_privs_2 ++ (lw_privs_3 ++ (lw_privs_4 ++ (lw_privs_5)))), lw_okq q
  exact List.forall_mem_append.mpr ⟨lw_r1, List.forall_mem_append.mpr ⟨lw_r2, List.forall_mem_append.mpr ⟨lw_r3, List.forall_mem_append.mpr ⟨lw_r4, lw_r5⟩⟩⟩⟩
/-- AbstractStringBuilder's private methods on a StringBuilder -/
def jj_xs : List Cond := [.selects "java/lang/StringBuilder" ⟨"java/lang/AbstractStringBuilder", "ensureCapacityInternal", "(I)V"⟩ ⟨"java/lang/AbstractStringBuilder", "ensureCapacityInternal", "(I)V"⟩, .selects "java/lang/StringBuilder" ⟨"java/lang/AbstractStringBuilder", "newCapacity", "(I)I"⟩ ⟨"java/lang/AbstractStringBuilder", "newCapacity", "(I)I"⟩, .selects "java/lang/StringBuilder" ⟨"java/lang/AbstractStringBuilder", "inflate", "()V"⟩ ⟨"java/lang/AbstractStringBuilder", "inflate", "()V"⟩, .selects "java/lang/StringBuilder" ⟨"java/lang/AbstractStringBuilder", "shift", "(II)V"⟩ ⟨"java/lang/AbstractStringBuilder", "shift", "(II)V"⟩]
/-- the words that a callee may have too -/
def jj_gw : List Cond := (jj_xs ++ lw_tbl).filter goodWord
theorem jj_mem {w : Cond} (h : w ∈ tables_1) (hg : goodWord w = true) : w ∈ jj_gw := List.mem_filter.mpr ⟨List.mem_append_right _ (List.mem_append_right _ h), hg⟩
theorem jj_memX {w : Cond} (h : w ∈ jj_xs) (hg : goodWord w = true) : w ∈ jj_gw := List.mem_filter.mpr ⟨List.mem_append_left _ h, hg⟩
theorem jj_memP {w : Cond} (h : w ∈ k2_sels lw_privs) (hg : goodWord w = true) : w ∈ jj_gw := List.mem_filter.mpr ⟨List.mem_append_right _ (List.mem_append_left _ h), hg⟩
def cn_BS : String := "BeanServer"
def cf_BS : u_T := fun k => match k with
  | 0 => ("BeanServer", "buffer", "Ljava/lang/StringBuilder;", true)
  | 1 => ("BeanServer", "beans", "[LBeanServer$Bean;", true)
  | 2 => ("BeanServer", "queries", "[LBeanServer$Query;", true)
  | 3 => ("BeanServer", "queryCount", "I", false)
  | 4 => ("BeanServer", "monitors", "[LBeanServer$Monitor;", true)
  | 5 => ("BeanServer", "log", "LBeanServer$Log;", true)
  | 6 => ("BeanServer", "selection", "[I", true)
  | 7 => ("BeanServer", "selectionSize", "I", false)
  | _ => ("BeanServer", "latestPattern", "Ljava/lang/String;", false)
def ct_BS : Nat → FieldType := fun k => match k with
  | 0 => (.object "java/lang/StringBuilder")
  | 1 => (.array (.object "BeanServer$Bean"))
  | 2 => (.array (.object "BeanServer$Query"))
  | 3 => .int
  | 4 => (.array (.object "BeanServer$Monitor"))
  | 5 => (.object "BeanServer$Log")
  | 6 => (.array .int)
  | 7 => .int
  | _ => (.object "java/lang/String")
def cn_BE : String := "BeanServer$Bean"
def cf_BE : u_T := fun k => match k with
  | 0 => ("BeanServer$Bean", "name", "LBeanServer$Pattern;", true)
  | 1 => ("BeanServer$Bean", "values", "[I", true)
  | _ => ("BeanServer$Bean", "present", "[Z", true)
def ct_BE : Nat → FieldType := fun k => match k with
  | 0 => (.object "BeanServer$Pattern")
  | 1 => (.array .int)
  | _ => (.array .boolean)
def cn_LG : String := "BeanServer$Log"
def cf_LG : u_T := fun k => match k with
  | 0 => ("BeanServer$Log", "numbers", "[I", true)
  | 1 => ("BeanServer$Log", "kinds", "[I", true)
  | 2 => ("BeanServer$Log", "sources", "[I", true)
  | 3 => ("BeanServer$Log", "values", "[I", true)
  | 4 => ("BeanServer$Log", "size", "I", false)
  | 5 => ("BeanServer$Log", "next", "I", false)
  | 6 => ("BeanServer$Log", "given", "I", false)
  | _ => ("BeanServer$Log", "listened", "I", false)
def ct_LG : Nat → FieldType := fun k => match k with
  | 0 => (.array .int)
  | 1 => (.array .int)
  | 2 => (.array .int)
  | 3 => (.array .int)
  | 4 => .int
  | 5 => .int
  | 6 => .int
  | _ => .int
def cn_PT : String := "BeanServer$Pattern"
def cf_PT : u_T := fun k => match k with
  | 0 => ("BeanServer$Pattern", "text", "Ljava/lang/String;", true)
  | 1 => ("BeanServer$Pattern", "starts", "[I", true)
  | 2 => ("BeanServer$Pattern", "ends", "[I", true)
  | 3 => ("BeanServer$Pattern", "domainEnd", "I", false)
  | 4 => ("BeanServer$Pattern", "open", "Z", false)
  | _ => ("BeanServer$Pattern", "form", "Ljava/lang/String;", false)
def ct_PT : Nat → FieldType := fun k => match k with
  | 0 => (.object "java/lang/String")
  | 1 => (.array .int)
  | 2 => (.array .int)
  | 3 => .int
  | 4 => .boolean
  | _ => (.object "java/lang/String")
def cn_QU : String := "BeanServer$Query"
def cf_QU : u_T := fun k => match k with
  | _ => ("BeanServer$Query", "form", "Ljava/lang/String;", true)
def ct_QU : Nat → FieldType := fun k => match k with
  | _ => (.object "java/lang/String")
def cn_QR : String := "BeanServer$QueryReader"
def cf_QR : u_T := fun k => match k with
  | 0 => ("BeanServer$QueryReader", "text", "Ljava/lang/String;", true)
  | 1 => ("BeanServer$QueryReader", "bean", "LBeanServer$Bean;", true)
  | 2 => ("BeanServer$QueryReader", "at", "I", false)
  | 3 => ("BeanServer$QueryReader", "wrong", "Z", false)
  | 4 => ("BeanServer$QueryReader", "here", "C", false)
  | _ => ("BeanServer$QueryReader", "failed", "Z", false)
def ct_QR : Nat → FieldType := fun k => match k with
  | 0 => (.object "java/lang/String")
  | 1 => (.object "BeanServer$Bean")
  | 2 => .int
  | 3 => .boolean
  | 4 => .char
  | _ => .boolean
def cn_QF : String := "BeanServer$QueryForm"
def cf_QF : u_T := fun k => match k with
  | 0 => ("BeanServer$QueryForm", "text", "Ljava/lang/String;", true)
  | 1 => ("BeanServer$QueryForm", "out", "Ljava/lang/StringBuilder;", true)
  | 2 => ("BeanServer$QueryForm", "opens", "[I", true)
  | _ => ("BeanServer$QueryForm", "depth", "I", false)
def ct_QF : Nat → FieldType := fun k => match k with
  | 0 => (.object "java/lang/String")
  | 1 => (.object "java/lang/StringBuilder")
  | 2 => (.array .int)
  | _ => .int
def cn_CT : String := "BeanServer$Counter"
def cf_CT : u_T := fun k => match k with
  | 0 => ("BeanServer$Counter", "start", "I", true)
  | 1 => ("BeanServer$Counter", "step", "I", true)
  | 2 => ("BeanServer$Counter", "mark", "J", false)
  | 3 => ("BeanServer$Counter", "ready", "Z", false)
  | 4 => ("BeanServer$Counter", "hasLatest", "Z", false)
  | 5 => ("BeanServer$Counter", "latest", "I", false)
  | 6 => ("BeanServer$Monitor", "name", "Ljava/lang/String;", true)
  | 7 => ("BeanServer$Monitor", "attribute", "I", true)
  | _ => ("BeanServer$Monitor", "erred", "Z", false)
def ct_CT : Nat → FieldType := fun k => match k with
  | 0 => .int
  | 1 => .int
  | 2 => .long
  | 3 => .boolean
  | 4 => .boolean
  | 5 => .int
  | 6 => (.object "java/lang/String")
  | 7 => .int
  | _ => .boolean
def cn_GA : String := "BeanServer$Gauge"
def cf_GA : u_T := fun k => match k with
  | 0 => ("BeanServer$Gauge", "low", "I", true)
  | 1 => ("BeanServer$Gauge", "high", "I", true)
  | 2 => ("BeanServer$Gauge", "side", "I", false)
  | 3 => ("BeanServer$Monitor", "name", "Ljava/lang/String;", true)
  | 4 => ("BeanServer$Monitor", "attribute", "I", true)
  | _ => ("BeanServer$Monitor", "erred", "Z", false)
def ct_GA : Nat → FieldType := fun k => match k with
  | 0 => .int
  | 1 => .int
  | 2 => .int
  | 3 => (.object "java/lang/String")
  | 4 => .int
  | _ => .boolean
def cn_MO : String := "BeanServerModel"
def cf_MO : u_T := fun k => match k with
  | 0 => ("BeanServerModel", "letters", "[C", true)
  | 1 => ("BeanServerModel", "sizes", "[I", true)
  | 2 => ("BeanServerModel", "there", "[Z", true)
  | 3 => ("BeanServerModel", "values", "[I", true)
  | 4 => ("BeanServerModel", "has", "[Z", true)
  | 5 => ("BeanServerModel", "asked", "[Z", true)
  | 6 => ("BeanServerModel", "monitor", "[I", true)
  | 7 => ("BeanServerModel", "watched", "[I", true)
  | 8 => ("BeanServerModel", "low", "[I", true)
  | 9 => ("BeanServerModel", "high", "[I", true)
  | 10 => ("BeanServerModel", "marks", "[J", true)
  | 11 => ("BeanServerModel", "ready", "[Z", true)
  | 12 => ("BeanServerModel", "seen", "[Z", true)
  | 13 => ("BeanServerModel", "latest", "[I", true)
  | 14 => ("BeanServerModel", "erred", "[Z", true)
  | 15 => ("BeanServerModel", "given", "I", false)
  | 16 => ("BeanServerModel", "listened", "I", false)
  | 17 => ("BeanServerModel", "logged", "I", false)
  | 18 => ("BeanServerModel", "log", "[I", true)
  | 19 => ("BeanServerModel", "chosen", "I", false)
  | 20 => ("BeanServerModel", "choice", "[I", true)
  | 21 => ("BeanServerModel", "where", "[I", true)
  | 22 => ("BeanServerModel", "open", "Z", false)
  | 23 => ("BeanServerModel", "live", "[Z", true)
  | 24 => ("BeanServerModel", "any", "[Z", true)
  | 25 => ("BeanServerModel", "all", "[Z", true)
  | 26 => ("BeanServerModel", "turned", "[Z", true)
  | 27 => ("BeanServerModel", "failed", "Z", false)
  | _ => ("BeanServerModel", "at", "I", false)
def ct_MO : Nat → FieldType := fun k => match k with
  | 0 => (.array .char)
  | 1 => (.array .int)
  | 2 => (.array .boolean)
  | 3 => (.array .int)
  | 4 => (.array .boolean)
  | 5 => (.array .boolean)
  | 6 => (.array .int)
  | 7 => (.array .int)
  | 8 => (.array .int)
  | 9 => (.array .int)
  | 10 => (.array .long)
  | 11 => (.array .boolean)
  | 12 => (.array .boolean)
  | 13 => (.array .int)
  | 14 => (.array .boolean)
  | 15 => .int
  | 16 => .int
  | 17 => .int
  | 18 => (.array .int)
  | 19 => .int
  | 20 => (.array .int)
  | 21 => (.array .int)
  | 22 => .boolean
  | 23 => (.array .boolean)
  | 24 => (.array .boolean)
  | 25 => (.array .boolean)
  | 26 => (.array .boolean)
  | 27 => .boolean
  | _ => .int
def cn_ST : String := "java/lang/String"
def cf_ST : u_T := fun k => match k with
  | 0 => ("java/lang/String", "value", "[B", true)
  | 1 => ("java/lang/String", "coder", "B", true)
  | 2 => ("java/lang/String", "hash", "I", false)
  | _ => ("java/lang/String", "hashIsZero", "Z", false)
def ct_ST : Nat → FieldType := fun k => match k with
  | 0 => (.array .byte)
  | 1 => .byte
  | 2 => .int
  | _ => .boolean
def cn_SB : String := "java/lang/StringBuilder"
def cf_SB : u_T := fun k => match k with
  | 0 => ("java/lang/AbstractStringBuilder", "value", "[B", false)
  | 1 => ("java/lang/AbstractStringBuilder", "coder", "B", false)
  | 2 => ("java/lang/AbstractStringBuilder", "maybeLatin1", "Z", false)
  | _ => ("java/lang/AbstractStringBuilder", "count", "I", false)
def ct_SB : Nat → FieldType := fun k => match k with
  | 0 => (.array .byte)
  | 1 => .byte
  | 2 => .boolean
  | _ => .int
abbrev jj_cl : List vw_C := [(cn_BS, cf_BS, 9), (cn_BE, cf_BE, 3), (cn_LG, cf_LG, 8), (cn_PT, cf_PT, 6), (cn_QU, cf_QU, 1), (cn_QR, cf_QR, 6), (cn_QF, cf_QF, 4), (cn_CT, cf_CT, 9), (cn_GA, cf_GA, 6), (cn_MO, cf_MO, 29), (cn_ST, cf_ST, 4), (cn_SB, cf_SB, 4)]
abbrev jj_tys (aC : Nat → ClassId) : List (ClassId × FieldType) := [(aC 0, .int), (aC 1, .boolean), (aC 2, .char), (aC 3, .long), (aC 4, .byte), (aC 5, .object "BeanServer$Bean"), (aC 6, .object "BeanServer$Query"), (aC 7, .object "BeanServer$Monitor")]
abbrev jj_nF : List (String × Nat × String × String × String × String) := []
abbrev jj_nM : List (String × Nat × MethodName × String) := [("BeanServer", 40, ⟨"BeanServer$Log", "<init>", "()V"⟩, "BeanServer")]
abbrev jj_dc : List MethodName := [⟨"BeanServer$Monitor", "kindFor", "(I)I"⟩, ⟨"BeanServer$Monitor", "level", "()J"⟩]
abbrev jj_ca : List (String × String) := [("[B", "java/lang/Cloneable"), ("BeanServer$Counter", "BeanServer$Monitor"), ("BeanServer$Gauge", "BeanServer$Monitor")]
abbrev jj_ao : List String := ["BeanServer$Bean", "BeanServer$Query", "BeanServer$Monitor"]
end
section
/-! The simple steps: a method's instructions as a table that is read by evaluation. -/
abbrev jjEnt : Type := Instr × Nat × Nat × Int32
abbrev jjTab : Type := List (Nat × jjEnt)
abbrev jjLoc : Type := List (Nat × Value)
def jj_len : Instr → Nat
  | .aload _ => 2 | .astore _ => 2 | .iload _ => 2 | .istore _ => 2 | .lload _ => 2 | .lstore _ => 2 | .bipush _ => 2 | .ldc _ => 2 | .newarray _ => 2
  | .sipush _ => 3 | .iinc _ _ => 3 | .goto _ => 3 | .ifCond _ _ => 3 | .if_icmp _ _ => 3 | .if_acmp _ _ => 3 | .ifnull _ => 3 | .ifnonnull _ => 3
  | .getfield _ => 3 | .putfield _ => 3 | .getstatic _ => 3 | .putstatic _ => 3 | .new _ => 3 | .anewarray _ => 3 | .invokespecial _ => 3 | .invokestatic _ => 3 | .invokevirtual _ => 3
  | .checkcast _ => 3 | .instanceof _ => 3 | .ldc_w _ => 3 | .ldc2_w _ => 3
  | _ => 1
def jj_off : Instr → Option Int
  | .goto o => some o | .ifCond _ o => some o | .if_icmp _ o => some o | .if_acmp _ o => some o | .ifnull o => some o | .ifnonnull o => some o
  | _ => none
def jj_kv : Instr → Int32
  | .iconst n => Int32.ofInt n
  | .bipush n => (Int8.ofInt n).toInt32
  | .sipush n => (Int16.ofInt n).toInt32
  | .iinc _ n => Int32.ofInt n
  | _ => 0
def jj_topl : Instr → Nat
  | .istore k => k + 1 | .astore k => k + 1 | .iinc k _ => k + 1
  | .istore_n k => k.val + 1 | .astore_n k => k.val + 1
  | .lstore k => k + 2 | .lstore_n k => k.val + 2
  | _ => 0
def jj_tgt (pc : Nat) (i : Instr) (tg : Nat) : Bool := match jj_off i with
  | some o => decide ((pc : Int) + o = (tg : Int))
  | none => true
def jj_ok (cc : ByteArray) (nL : Nat) (q : Nat × jjEnt) : Bool :=
  decide (decode cc q.1 = .ok (q.2.1, jj_len q.2.1)) && (decide (q.2.2.1 = q.1 + jj_len q.2.1) && (jj_tgt q.1 q.2.1 q.2.2.2.1 && (decide (jj_kv q.2.1 = q.2.2.2.2) && decide (jj_topl q.2.1 ≤ nL))))
def jj_look : jjTab → Nat → Option jjEnt
  | [], _ => none
  | (k, e) :: r, pc => match Nat.beq k pc with
    | true => some e
    | false => jj_look r pc
theorem jj_look_mem {tb : jjTab} {pc : Nat} {e : jjEnt} (h : jj_look tb pc = some e) : (pc, e) ∈ tb := by
  induction tb with
  | nil => cases h
  | cons q r ih =>
    obtain ⟨k, e1⟩ := q
    unfold jj_look at h
    split at h
    next hb =>
      have hk : k = pc := Nat.eq_of_beq_eq_true hb
      subst hk
      cases h
      exact List.mem_cons_self
    next => exact List.mem_cons_of_mem _ (ih h)
def jj_good (cc : ByteArray) (nL : Nat) (tb : jjTab) : Prop := tb.all (jj_ok cc nL) = true
theorem jj_good_at {cc : ByteArray} {nL : Nat} {tb : jjTab} (hg : jj_good cc nL tb) {pc : Nat} {i : Instr} {nx tg : Nat} {kv : Int32} (h : jj_look tb pc = some (i, nx, tg, kv)) :
    decode cc pc = .ok (i, jj_len i) ∧ nx = pc + jj_len i ∧ (∀ o, jj_off i = some o → (pc : Int) + o = (tg : Int)) ∧ jj_kv i = kv ∧ jj_topl i ≤ nL := by
  have h1 := List.all_eq_true.mp hg _ (jj_look_mem h)
  unfold jj_ok at h1
  simp only [Bool.and_eq_true, decide_eq_true_eq] at h1
  obtain ⟨a1, a2, a3, a4, a5⟩ := h1
  refine ⟨a1, a2, fun o ho => ?_, a4, a5⟩
  unfold jj_tgt at a3
  rw [ho] at a3
  exact of_decide_eq_true a3
def jj_get : jjLoc → Nat → Option Value
  | [], _ => none
  | (k, v) :: r, i => match Nat.beq k i with
    | true => some v
    | false => jj_get r i
theorem jj_get_mem {l : jjLoc} {i : Nat} {v : Value} (h : jj_get l i = some v) : (i, v) ∈ l := by
  induction l with
  | nil => cases h
  | cons q r ih =>
    obtain ⟨k, e1⟩ := q
    unfold jj_get at h
    split at h
    next hb =>
      have hk : k = i := Nat.eq_of_beq_eq_true hb
      subst hk
      cases h
      exact List.mem_cons_self
    next => exact List.mem_cons_of_mem _ (ih h)
def jj_ins (i : Nat) (v : Value) : jjLoc → jjLoc
  | [] => [(i, v)]
  | (k, w) :: r => match Nat.ble i k with
    | true => (i, v) :: (k, w) :: r
    | false => (k, w) :: jj_ins i v r
theorem jj_ins_mem {i : Nat} {v : Value} {l : jjLoc} {q : Nat × Value} (h : q ∈ jj_ins i v l) : q ∈ (i, v) :: l := by
  induction l with
  | nil => exact h
  | cons a r ih =>
    obtain ⟨k, w⟩ := a
    unfold jj_ins at h
    split at h
    next => exact h
    next =>
      rcases List.mem_cons.mp h with h | h
      · subst h
        exact List.mem_cons_of_mem _ List.mem_cons_self
      · rcases List.mem_cons.mp (ih h) with h | h
        · subst h
          exact List.mem_cons_self
        · exact List.mem_cons_of_mem _ (List.mem_cons_of_mem _ h)
def jj_set1 (i : Nat) (v : Value) (l : jjLoc) : jjLoc := jj_ins i v (l.filter (fun q => !(q.1 == i) && !(q.1 + 1 == i && q.2.category == 2)))
def jj_set2 (i : Nat) (v : Value) (l : jjLoc) : jjLoc := jj_ins i v (l.filter (fun q => !(q.1 == i) && (!(q.1 == i + 1) && !(q.1 + 1 == i && q.2.category == 2))))
theorem jj_has_of {ls : Array Slot} {n : Nat} {l l' : jjLoc} (h : lv_has ls n l) (hs : ∀ q ∈ l', q ∈ l) : lv_has ls n l' := ⟨h.1, h.2.1, fun q hq => h.2.2 q (hs q hq)⟩
def jj_one : Value → Bool
  | .long _ => false
  | .double _ => false
  | _ => true
theorem jj_one_cat {v : Value} (h : jj_one v = true) : v.category = 1 := by cases v <;> first | rfl | cases h
def jj_step (e : jjEnt) (lc : jjLoc) (st : List Value) : Option (Nat × jjLoc × List Value) := match e with
  | (i, nx, tg, kv) => match i with
    | .iconst _ => some (nx, lc, .int kv :: st)
    | .bipush _ => some (nx, lc, .int kv :: st)
    | .sipush _ => some (nx, lc, .int kv :: st)
    | .lconst n => some (nx, lc, .long (Int64.ofNat (n : Nat)) :: st)
    | .aconst_null => some (nx, lc, .null :: st)
    | .iload_n k => match jj_get lc k.val with
      | some (.int x) => some (nx, lc, .int x :: st)
      | _ => none
    | .iload k => match jj_get lc k with
      | some (.int x) => some (nx, lc, .int x :: st)
      | _ => none
    | .lload_n k => match jj_get lc k.val with
      | some (.long x) => some (nx, lc, .long x :: st)
      | _ => none
    | .lload k => match jj_get lc k with
      | some (.long x) => some (nx, lc, .long x :: st)
      | _ => none
    | .aload_n k => match jj_get lc k.val with
      | some (.ref x) => some (nx, lc, .ref x :: st)
      | some .null => some (nx, lc, .null :: st)
      | _ => none
    | .aload k => match jj_get lc k with
      | some (.ref x) => some (nx, lc, .ref x :: st)
      | some .null => some (nx, lc, .null :: st)
      | _ => none
    | .istore_n k => match st with
      | .int x :: r => some (nx, jj_set1 k.val (.int x) lc, r)
      | _ => none
    | .istore k => match st with
      | .int x :: r => some (nx, jj_set1 k (.int x) lc, r)
      | _ => none
    | .lstore_n k => match st with
      | .long x :: r => some (nx, jj_set2 k.val (.long x) lc, r)
      | _ => none
    | .lstore k => match st with
      | .long x :: r => some (nx, jj_set2 k (.long x) lc, r)
      | _ => none
    | .astore_n k => match st with
      | .ref x :: r => some (nx, jj_set1 k.val (.ref x) lc, r)
      | .null :: r => some (nx, jj_set1 k.val .null lc, r)
      | _ => none
    | .astore k => match st with
      | .ref x :: r => some (nx, jj_set1 k (.ref x) lc, r)
      | .null :: r => some (nx, jj_set1 k .null lc, r)
      | _ => none
    | .iinc k _ => match jj_get lc k with
      | some (.int x) => some (nx, jj_set1 k (.int (x + kv)) lc, st)
      | _ => none
    | .goto _ => some (tg, lc, st)
    | .ifnull _ => match st with
      | .ref _ :: r => some (nx, lc, r)
      | .null :: r => some (tg, lc, r)
      | _ => none
    | .ifnonnull _ => match st with
      | .ref _ :: r => some (tg, lc, r)
      | .null :: r => some (nx, lc, r)
      | _ => none
    | .iadd => match st with
      | .int y :: .int x :: r => some (nx, lc, .int (x + y) :: r)
      | _ => none
    | .isub => match st with
      | .int y :: .int x :: r => some (nx, lc, .int (x - y) :: r)
      | _ => none
    | .imul => match st with
      | .int y :: .int x :: r => some (nx, lc, .int (x * y) :: r)
      | _ => none
    | .iand => match st with
      | .int y :: .int x :: r => some (nx, lc, .int (x &&& y) :: r)
      | _ => none
    | .ior => match st with
      | .int y :: .int x :: r => some (nx, lc, .int (x ||| y) :: r)
      | _ => none
    | .ixor => match st with
      | .int y :: .int x :: r => some (nx, lc, .int (x ^^^ y) :: r)
      | _ => none
    | .ishl => match st with
      | .int y :: .int x :: r => some (nx, lc, .int (x <<< (y &&& 31)) :: r)
      | _ => none
    | .ishr => match st with
      | .int y :: .int x :: r => some (nx, lc, .int (x >>> (y &&& 31)) :: r)
      | _ => none
    | .ladd => match st with
      | .long y :: .long x :: r => some (nx, lc, .long (x + y) :: r)
      | _ => none
    | .lsub => match st with
      | .long y :: .long x :: r => some (nx, lc, .long (x - y) :: r)
      | _ => none
    | .lmul => match st with
      | .long y :: .long x :: r => some (nx, lc, .long (x * y) :: r)
      | _ => none
    | .lcmp => match st with
      | .long y :: .long x :: r => some (nx, lc, .int (lg_cmp x y) :: r)
      | _ => none
    | .ineg => match st with
      | .int x :: r => some (nx, lc, .int (-x) :: r)
      | _ => none
    | .i2l => match st with
      | .int x :: r => some (nx, lc, .long x.toInt64 :: r)
      | _ => none
    | .i2c => match st with
      | .int x :: r => some (nx, lc, .int (x.toUInt32 % 65536).toInt32 :: r)
      | _ => none
    | .i2b => match st with
      | .int x :: r => some (nx, lc, .int x.toInt8.toInt32 :: r)
      | _ => none
    | .dup => match st with
      | a :: r => match jj_one a with
        | true => some (nx, lc, a :: a :: r)
        | false => none
      | _ => none
    | .pop => match st with
      | a :: r => match jj_one a with
        | true => some (nx, lc, r)
        | false => none
      | _ => none
    | .dup_x1 => match st with
      | a :: b :: r => match jj_one a && jj_one b with
        | true => some (nx, lc, a :: b :: a :: r)
        | false => none
      | _ => none
    | .dup_x2 => match st with
      | a :: b :: d :: r => match jj_one a && (jj_one b && jj_one d) with
        | true => some (nx, lc, a :: b :: d :: a :: r)
        | false => none
      | _ => none
    | .dup2 => match st with
      | a :: b :: r => match jj_one a && jj_one b with
        | true => some (nx, lc, a :: b :: a :: b :: r)
        | false => none
      | _ => none
    | _ => none
def jj_next (tb : jjTab) : Nat × jjLoc × List Value → Option (Nat × jjLoc × List Value)
  | (pc, lc, st) => match jj_look tb pc with
    | some e => jj_step e lc st
    | none => none
def jj_run (tb : jjTab) : Nat → Nat × jjLoc × List Value → Option (Nat × jjLoc × List Value)
  | 0, q => some q
  | n + 1, q => match jj_next tb q with
    | some q' => jj_run tb n q'
    | none => none
/-- a branch on ints: the condition, where it goes if so, where if not, the stack behind it -/
def jj_br (tb : jjTab) (pc : Nat) (st : List Value) : Option (Prop × Nat × Nat × List Value) := match jj_look tb pc with
  | some (i, nx, tg, _) => match i with
    | .ifCond cd _ => match st with
      | .int x :: r => match cd with
        | .eq => some (x = 0, tg, nx, r)
        | .ne => some (x = 0, nx, tg, r)
        | .lt => some (x < 0, tg, nx, r)
        | .ge => some (0 ≤ x, tg, nx, r)
        | .gt => some (0 < x, tg, nx, r)
        | .le => some (x ≤ 0, tg, nx, r)
      | _ => none
    | .if_icmp cd _ => match st with
      | .int y :: .int x :: r => match cd with
        | .eq => some (x = y, tg, nx, r)
        | .ne => some (x = y, nx, tg, r)
        | .lt => some (x < y, tg, nx, r)
        | .ge => some (y ≤ x, tg, nx, r)
        | .gt => some (y < x, tg, nx, r)
        | .le => some (x ≤ y, tg, nx, r)
      | _ => none
    | _ => none
  | none => none
section JJW
variable {p : Program} {l : Launch} {e : Env} {R : Room} {s : State} {m : MethodId} {args : Array Value} {below : List Frame} {meth : Method} {c : Code} {H : Heap} {locs : List Loc} {cells slots : Nat} {Q : State → Prop}
variable {cc : ByteArray} {nL pc pc' : Nat} {tb : jjTab} {lc lc' : jjLoc} {st st' : List Value} {ls : Array Slot}
/-- one simple step, at any heap -/
theorem jj_step_w (hx : p.tables.exec = Jvm.exec) (hb : c.code = cc) {en : jjEnt} (hd : decode cc pc = .ok (en.1, jj_len en.1)) (hn : en.2.1 = pc + jj_len en.1) (ht : ∀ o, jj_off en.1 = some o → (pc : Int) + o = (en.2.2.1 : Int)) (hk : jj_kv en.1 = en.2.2.2) (hm : jj_topl en.1 ≤ nL)
    (hs : jj_step en lc st = some (pc', lc', st')) (hl : lv_has ls nL lc) (k : ∀ ls', lv_has ls' nL lc' → W p l e R s m args below meth c H locs cells slots Q (F0 m pc' ls' st')) : W p l e R s m args below meth c H locs cells slots Q (F0 m pc ls st) := by
  obtain ⟨i, nx, tg, kv⟩ := en
  dsimp only at hd hn ht hk hm
  subst hn
  cases i
  case iconst n => cases hs; exact lv_iconst hx hb hd hk (k ls hl)
  case bipush n => cases hs; exact lv_bipush hx hb hd hk (k ls hl)
  case sipush n => cases hs; exact lv_sipush hx hb hd hk (k ls hl)
  case lconst n => cases hs; exact lv_lconst hx hb hd rfl (k ls hl)
  case aconst_null => cases hs; exact lv_null hx hb hd (k ls hl)
  case iload_n n =>
    dsimp only [jj_step] at hs
    split at hs
    next x hg => cases hs; exact lv_iload_n hx hb hd rfl (hl.2.2 _ (jj_get_mem hg)) (k ls hl)
    next => cases hs
  case iload n =>
    dsimp only [jj_step] at hs
    split at hs
    next x hg => cases hs; exact lv_iload hx hb hd (hl.2.2 _ (jj_get_mem hg)) (k ls hl)
    next => cases hs
  case lload_n n =>
    dsimp only [jj_step] at hs
    split at hs
    next x hg => cases hs; exact lv_lload_n hx hb hd rfl (hl.2.2 _ (jj_get_mem hg)) (k ls hl)
    next => cases hs
  case lload n =>
    dsimp only [jj_step] at hs
    split at hs
    next x hg => cases hs; exact lv_lload hx hb hd (hl.2.2 _ (jj_get_mem hg)) (k ls hl)
    next => cases hs
  case aload_n n =>
    dsimp only [jj_step] at hs
    split at hs
    next x hg => cases hs; exact lv_aload_n hx hb hd rfl (hl.2.2 _ (jj_get_mem hg)) (k ls hl)
    next hg => cases hs; exact lv_aload_nN hx hb hd rfl (hl.2.2 _ (jj_get_mem hg)) (k ls hl)
    next => cases hs
  case aload n =>
    dsimp only [jj_step] at hs
    split at hs
    next x hg => cases hs; exact lv_aload hx hb hd (hl.2.2 _ (jj_get_mem hg)) (k ls hl)
    next hg => cases hs; exact lv_aloadN hx hb hd (hl.2.2 _ (jj_get_mem hg)) (k ls hl)
    next => cases hs
  case istore_n n =>
    dsimp only [jj_step] at hs
    split at hs
    next x r => cases hs; exact lv_istore_n hx hb hd rfl hl hm rfl (fun ls' h' => k ls' (jj_has_of h' (fun q hq => jj_ins_mem hq)))
    next => cases hs
  case istore n =>
    dsimp only [jj_step] at hs
    split at hs
    next x r => cases hs; exact lv_istore hx hb hd hl hm rfl (fun ls' h' => k ls' (jj_has_of h' (fun q hq => jj_ins_mem hq)))
    next => cases hs
  case lstore_n n =>
    dsimp only [jj_step] at hs
    split at hs
    next x r => cases hs; exact lv_lstore_n hx hb hd rfl hl hm rfl (fun ls' h' => k ls' (jj_has_of h' (fun q hq => jj_ins_mem hq)))
    next => cases hs
  case lstore n =>
    dsimp only [jj_step] at hs
    split at hs
    next x r => cases hs; exact lv_lstore hx hb hd hl hm rfl (fun ls' h' => k ls' (jj_has_of h' (fun q hq => jj_ins_mem hq)))
    next => cases hs
  case astore_n n =>
    dsimp only [jj_step] at hs
    split at hs
    next x r => cases hs; exact lv_astore_n hx hb hd rfl hl hm rfl (fun ls' h' => k ls' (jj_has_of h' (fun q hq => jj_ins_mem hq)))
    next r => cases hs; exact lv_astore_nN hx hb hd rfl hl hm rfl (fun ls' h' => k ls' (jj_has_of h' (fun q hq => jj_ins_mem hq)))
    next => cases hs
  case astore n =>
    dsimp only [jj_step] at hs
    split at hs
    next x r => cases hs; exact lv_astore hx hb hd hl hm rfl (fun ls' h' => k ls' (jj_has_of h' (fun q hq => jj_ins_mem hq)))
    next r => cases hs; exact lv_astoreN hx hb hd hl hm rfl (fun ls' h' => k ls' (jj_has_of h' (fun q hq => jj_ins_mem hq)))
    next => cases hs
  case iinc n z =>
    dsimp only [jj_step] at hs
    split at hs
    next x hg =>
      cases hs
      obtain ⟨q, hq⟩ := List.getElem?_of_mem (jj_get_mem hg)
      exact lv_iinc hx hb hd hl hq (by rw [← hk]; rfl) hm rfl (fun ls' h' => k ls' (jj_has_of h' (fun q hq => jj_ins_mem hq)))
    next => cases hs
  case goto o => cases hs; exact lv_goto hx hb hd (ht o rfl) (k ls hl)
  case ifnull o =>
    dsimp only [jj_step] at hs
    split at hs
    next x r => cases hs; exact lv_ifnull hx hb hd (k ls hl)
    next r => cases hs; exact lv_ifnullN hx hb hd (ht o rfl) (k ls hl)
    next => cases hs
  case ifnonnull o =>
    dsimp only [jj_step] at hs
    split at hs
    next x r => cases hs; exact lv_ifnonnull hx hb hd (ht o rfl) (k ls hl)
    next r => cases hs; exact lv_ifnonnullN hx hb hd (k ls hl)
    next => cases hs
  case iadd =>
    dsimp only [jj_step] at hs
    split at hs
    next y x r => cases hs; exact lv_iadd hx hb hd (k ls hl)
    next => cases hs
  case isub =>
    dsimp only [jj_step] at hs
    split at hs
    next y x r => cases hs; exact lv_isub hx hb hd (k ls hl)
    next => cases hs
  case imul =>
    dsimp only [jj_step] at hs
    split at hs
    next y x r => cases hs; exact lv_imul hx hb hd (k ls hl)
    next => cases hs
  case iand =>
    dsimp only [jj_step] at hs
    split at hs
    next y x r => cases hs; exact lv_iand hx hb hd (k ls hl)
    next => cases hs
  case ior =>
    dsimp only [jj_step] at hs
    split at hs
    next y x r => cases hs; exact lv_ior hx hb hd (k ls hl)
    next => cases hs
  case ixor =>
    dsimp only [jj_step] at hs
    split at hs
    next y x r => cases hs; exact lv_ixor hx hb hd (k ls hl)
    next => cases hs
  case ishl =>
    dsimp only [jj_step] at hs
    split at hs
    next y x r => cases hs; exact lv_ishl hx hb hd (k ls hl)
    next => cases hs
  case ishr =>
    dsimp only [jj_step] at hs
    split at hs
    next y x r => cases hs; exact lv_ishr hx hb hd (k ls hl)
    next => cases hs
  case ladd =>
    dsimp only [jj_step] at hs
    split at hs
    next y x r => cases hs; exact lv_ladd hx hb hd (k ls hl)
    next => cases hs
  case lsub =>
    dsimp only [jj_step] at hs
    split at hs
    next y x r => cases hs; exact lv_lsub hx hb hd (k ls hl)
    next => cases hs
  case lmul =>
    dsimp only [jj_step] at hs
    split at hs
    next y x r => cases hs; exact lv_lmul hx hb hd (k ls hl)
    next => cases hs
  case lcmp =>
    dsimp only [jj_step] at hs
    split at hs
    next y x r => cases hs; exact W.lcmp hx hb hd (k ls hl)
    next => cases hs
  case ineg =>
    dsimp only [jj_step] at hs
    split at hs
    next x r => cases hs; exact lv_ineg hx hb hd (k ls hl)
    next => cases hs
  case i2l =>
    dsimp only [jj_step] at hs
    split at hs
    next x r => cases hs; exact lv_i2l hx hb hd rfl (k ls hl)
    next => cases hs
  case i2c =>
    dsimp only [jj_step] at hs
    split at hs
    next x r => cases hs; exact lv_i2c hx hb hd rfl (k ls hl)
    next => cases hs
  case i2b =>
    dsimp only [jj_step] at hs
    split at hs
    next x r => cases hs; exact lv_i2b hx hb hd rfl (k ls hl)
    next => cases hs
  case dup =>
    dsimp only [jj_step] at hs
    split at hs
    next a r =>
      split at hs
      next h1 => cases hs; exact lv_dup hx hb hd (jj_one_cat h1) (k ls hl)
      next => cases hs
    next => cases hs
  case pop =>
    dsimp only [jj_step] at hs
    split at hs
    next a r =>
      split at hs
      next h1 => cases hs; exact lv_pop hx hb hd (jj_one_cat h1) (k ls hl)
      next => cases hs
    next => cases hs
  case dup_x1 =>
    dsimp only [jj_step] at hs
    split at hs
    next a b r =>
      split at hs
      next h1 =>
        cases hs
        simp only [Bool.and_eq_true] at h1
        exact lv_dup_x1 hx hb hd (jj_one_cat h1.1) (jj_one_cat h1.2) (k ls hl)
      next => cases hs
    next => cases hs
  case dup_x2 =>
    dsimp only [jj_step] at hs
    split at hs
    next a b d r =>
      split at hs
      next h1 =>
        cases hs
        simp only [Bool.and_eq_true] at h1
        exact lv_dup_x2 hx hb hd (jj_one_cat h1.1) (jj_one_cat h1.2.1) (jj_one_cat h1.2.2) (k ls hl)
      next => cases hs
    next => cases hs
  case dup2 =>
    dsimp only [jj_step] at hs
    split at hs
    next a b r =>
      split at hs
      next h1 =>
        cases hs
        simp only [Bool.and_eq_true] at h1
        exact lv_dup2_11 hx hb hd (jj_one_cat h1.1) (jj_one_cat h1.2) (k ls hl)
      next => cases hs
    next => cases hs
  all_goals (dsimp only [jj_step] at hs; cases hs)
theorem jj_run_w (hx : p.tables.exec = Jvm.exec) (hb : c.code = cc) (hg : jj_good cc nL tb) (n : Nat) : ∀ {pc : Nat} {lc : jjLoc} {st : List Value} {ls : Array Slot}, jj_run tb n (pc, lc, st) = some (pc', lc', st') → lv_has ls nL lc → (∀ ls', lv_has ls' nL lc' → W p l e R s m args below meth c H locs cells slots Q (F0 m pc' ls' st')) → W p l e R s m args below meth c H locs cells slots Q (F0 m pc ls st) := by
  induction n with
  | zero =>
    intro pc lc st ls h hl k
    cases h
    exact k ls hl
  | succ n ih =>
    intro pc lc st ls h hl k
    unfold jj_run at h
    split at h
    next q' hq =>
      obtain ⟨pc1, lc1, st1⟩ := q'
      dsimp only [jj_next] at hq
      split at hq
      next en he =>
        obtain ⟨i, nx, tg, kv⟩ := en
        obtain ⟨a1, a2, a3, a4, a5⟩ := jj_good_at hg he
        exact jj_step_w hx hb (en := (i, nx, tg, kv)) a1 a2 a3 a4 a5 hq hl (fun ls' h' => ih h h' k)
      next => cases hq
    next => cases h
theorem jj_br_w (hx : p.tables.exec = Jvm.exec) (hb : c.code = cc) (hg : jj_good cc nL tb) {P : Prop} {t1 t2 : Nat} {r : List Value} (hs : jj_br tb pc st = some (P, t1, t2, r))
    (kt : P → W p l e R s m args below meth c H locs cells slots Q (F0 m t1 ls r)) (kf : ¬ P → W p l e R s m args below meth c H locs cells slots Q (F0 m t2 ls r)) : W p l e R s m args below meth c H locs cells slots Q (F0 m pc ls st) := by
  unfold jj_br at hs
  split at hs
  next i nx tg kv he =>
    obtain ⟨a1, a2, a3, a4, a5⟩ := jj_good_at hg he
    subst a2
    split at hs
    next cd o =>
      split at hs
      next x r' =>
        have ht := a3 o rfl
        cases cd
        · cases hs; exact lv_if_eq hx hb a1 ht kt kf
        · cases hs; exact lv_if_ne hx hb a1 ht kf kt
        · cases hs; exact lv_if_lt hx hb a1 ht kt kf
        · cases hs; exact lv_if_ge hx hb a1 ht kt kf
        · cases hs; exact lv_if_gt hx hb a1 ht kt kf
        · cases hs; exact lv_if_le hx hb a1 ht kt kf
      next => cases hs
    next cd o =>
      split at hs
      next y x r' =>
        have ht := a3 o rfl
        cases cd
        · cases hs; exact lv_icmp_eq hx hb a1 ht kt kf
        · cases hs; exact lv_icmp_ne hx hb a1 ht kf kt
        · cases hs; exact lv_icmp_lt hx hb a1 ht kt kf
        · cases hs; exact lv_icmp_ge hx hb a1 ht kt kf
        · cases hs; exact lv_icmp_gt hx hb a1 ht kt kf
        · cases hs; exact lv_icmp_le hx hb a1 ht kt kf
      next => cases hs
    next => cases hs
  next => cases hs
end JJW
end
section
/-! The worlds as functions: what the heap holds, by address; a method's walk over such a world; contracts of one shape. -/
abbrev jjHp : Type := Nat → Option va_E
def jj_A (base : Nat) : Nat → Prop := fun q => base ≤ q
def jj_W (D : va_G) (base : Nat) (h : jjHp) (H : Heap) : Prop := ∃ ws : va_W, va_P D jj_cl ws H ∧ va_D (jj_A base) ws ∧ ∀ a e, h a = some e → ∃ q : Nat, ws[q]? = some (a, e)
def jj_up (h : jjHp) (a : Nat) (e : va_E) : jjHp := fun b => if b = a then some e else h b
theorem jj_up_s {h : jjHp} {a : Nat} {e : va_E} : jj_up h a e a = some e := if_pos rfl
theorem jj_up_n {h : jjHp} {a b : Nat} {e : va_E} (hn : b ≠ a) : jj_up h a e b = h b := if_neg hn
theorem jj_up_f {h : jjHp} {a b : Nat} {e e' : va_E} (hf : h a = none) (hb : h b = some e') : jj_up h a e b = some e' := (jj_up_n (fun q => by subst q; rw [hf] at hb; cases hb)).trans hb
theorem jj_set_in {A : Nat → Prop} {h : jjHp} {ws : va_W} {q0 a : Nat} {e0 e1 : va_E} (hh : ∀ a e, h a = some e → ∃ q : Nat, ws[q]? = some (a, e)) (hq : ws[q0]? = some (a, e0)) : ∀ b e, jj_up h a e1 b = some e → ∃ q : Nat, (ws.set q0 (a, e1))[q]? = some (b, e) := by
  intro b e hb
  have hl : q0 < ws.length := (List.getElem?_eq_some_iff.mp hq).1
  by_cases hba : b = a
  · subst hba
    rw [jj_up_s] at hb
    cases hb
    exact ⟨q0, List.getElem?_set_self hl⟩
  · rw [jj_up_n hba] at hb
    obtain ⟨q, h1⟩ := hh b e hb
    refine ⟨q, ?_⟩
    rw [List.getElem?_set_ne (fun z => hba ?_)]
    · exact h1
    · subst z
      rw [hq] at h1
      exact (congrArg Prod.fst (Option.some.inj h1)).symm
theorem jj_push_in {h : jjHp} {ws : va_W} {a : Nat} {e1 : va_E} (hh : ∀ a e, h a = some e → ∃ q : Nat, ws[q]? = some (a, e)) : ∀ b e, jj_up h a e1 b = some e → ∃ q : Nat, (ws ++ [(a, e1)])[q]? = some (b, e) := by
  intro b e hb
  by_cases hba : b = a
  · subst hba
    rw [jj_up_s] at hb
    cases hb
    exact ⟨ws.length, by simp⟩
  · rw [jj_up_n hba] at hb
    obtain ⟨q, h1⟩ := hh b e hb
    exact ⟨q, by rw [List.getElem?_append_left (List.getElem?_eq_some_iff.mp h1).1]; exact h1⟩
theorem jj_fresh {A : Nat → Prop} {h : jjHp} {ws : va_W} {a : Nat} {e1 : va_E} (hh : ∀ a e, h a = some e → ∃ q : Nat, ws[q]? = some (a, e)) (hD : va_D A (ws ++ [(a, e1)])) : h a = none := by
  cases hv : h a with
  | none => rfl
  | some e =>
    obtain ⟨q, h1⟩ := hh a e hv
    have hl := (List.getElem?_eq_some_iff.mp h1).1
    have h2 : (ws ++ [(a, e1)])[q]? = some (a, e) := by rw [List.getElem?_append_left hl]; exact h1
    have h3 : (ws ++ [(a, e1)])[ws.length]? = some (a, e1) := by simp
    have := hD.1 q ws.length _ _ h2 h3 rfl
    omega
/-- a room for d frames -/
def jj_rm (d mc ms : Nat) : Room := { frames := d, cells := mc, slots := ms, locals := 64 * d }
def jj_E (D : va_G) (aC : Nat → ClassId) (base : Nat) (U : State) : Prop :=
  va_K D jj_cl (jj_tys aC) U ∧ (∀ q ∈ jj_nF, va_Nw (.fieldLinkNest q.1 q.2.1 q.2.2.1 q.2.2.2.1 q.2.2.2.2.1 q.2.2.2.2.2) U) ∧ (∀ q ∈ jj_nM, va_Nw (.methodLinkNest q.1 q.2.1 q.2.2.1 q.2.2.2) U) ∧ (∀ x ∈ jj_dc, va_Nw (.declares x) U) ∧ (∀ C ∈ jj_ao, va_AO C U) ∧ va_Z "java/lang/String" "COMPACT_STRINGS" "Z" (.int 1) (jj_A base) U U.heap ∧ base ≤ U.heap.size ∧ va_Zq "jdk/internal/util/Preconditions" "SIOOBE_FORMATTER" "Ljava/util/function/BiFunction;" (jj_A base) U U.heap ∧ vk_R "BeanServer" 52 "" (aC 100) U ∧ vk_R "BeanServer$Pattern" 26 "" (aC 100) U ∧ vk_S 1 [0] [[]] (fun _ => aC 100) (fun _ => aC 101) (jj_A base) U U.heap ∧ ∀ q ∈ jj_ca, va_Nw (.castable q.1 q.2) U
theorem jj_E.same {D : va_G} {aC : Nat → ClassId} {base : Nat} {u U : State} (h : jj_E D aC base u) (hv : u.vm = U.vm) (hh : U.heap = u.heap) : jj_E D aC base U := by
  obtain ⟨h1, h2, h3, h4, h5, h6, h7, h8, h9, h10, h11, h12⟩ := h
  have hal : u.vm.Alike U.vm := by rw [hv]; exact Vm.Alike.refl _
  exact ⟨va_K.moved hal h1, fun q hq => va_Nw.same rfl hv (h2 q hq), fun q hq => va_Nw.same rfl hv (h3 q hq), fun q hq => va_Nw.same rfl hv (h4 q hq), fun q hq => va_AO.moved hal (h5 q hq), by rw [hh]; exact va_Z.moved hal h6, by rw [hh]; exact h7, by rw [hh]; exact va_Zq.moved hal h8, vk_R.same hv.symm h9, vk_R.same hv.symm h10, by rw [hh]; exact vk_S.moved hal h11, fun q hq => va_Nw.same rfl hv (h12 q hq)⟩
theorem jj_E.moved {D : va_G} {aC : Nat → ClassId} {base : Nat} {u U : State} (h : jj_E D aC base u) (hW : u.WarmedH U.vm) (hz : u.heap.size ≤ U.heap.size) (hk : ∀ q : Nat, q < u.heap.size → ¬ jj_A base q → U.heap[q]? = u.heap[q]?) : jj_E D aC base U := by
  obtain ⟨h1, h2, h3, h4, h5, h6, h7, h8, h9, h10, h11, h12⟩ := h
  have hal : u.vm.Alike U.vm := hW.alike
  exact ⟨va_K.moved hal h1, fun q hq => va_Nw.warmF hW (h2 q hq), fun q hq => va_Nw.warmM hW (h3 q hq), fun q hq => va_Nw.warmD hW (h4 q hq), fun q hq => va_AO.moved hal (h5 q hq), va_Z.kept (va_Z.moved hal h6) hk, Nat.le_trans h7 hz, va_Zq.kept (va_Zq.moved hal h8) hk, vk_R.warm hW h9, vk_R.warm hW h10, vk_S.kept (vk_S.moved hal h11) hk, fun q hq => va_Nw.warmC hW (h12 q hq)⟩
/-- a contract's end: what is returned and the world behind it -/
def jj_Q (D : va_G) (base : Nat) (Post : Option Value → jjHp → Prop) : Array Value → State → Outcome → State → Prop := fun _ st o t => (∃ (r : Option Value) (h' : jjHp), o = .returned r ∧ Post r h' ∧ jj_W D base h' t.heap) ∧ va_F (jj_A base) st t
/-- the contract of a method: from the arguments av and the world h it returns, with Post of its answer and its world; d frames, mc cells, ms slots at most -/
def jj_Ct (l : Launch) (D : va_G) (aC : Nat → ClassId) (base : Nat) (y : MethodName) (b : ByteArray) (nL : Nat) (ret : Option FieldType) (d mc ms : Nat) (av : List Value) (h : jjHp) (Post : Option Value → jjHp → Prop) : Prop :=
  Met l y (.code y b nL ret :: jj_gw) (jj_rm d mc ms) (va_Pc av (fun U => jj_E D aC base U ∧ jj_W D base h U.heap)) (jj_Q D base Post) mc ms (jj_A base)
/-- the walk at a place of the method, over a world -/
def jj_J (p : Program) (l : Launch) (e : Env) (R : Room) (s : State) (m : MethodId) (args : Array Value) (below : List Frame) (meth : Method) (c : Code) (D : va_G) (base nL : Nat) (Q : State → Prop) (pc : Nat) (lc : jjLoc) (st : List Value) (h : jjHp) (kc ks : Nat) : Prop :=
  ∀ (H : Heap) (locs : List Loc) (ls : Array Slot), jj_W D base h H → va_S (jj_A base) s.heap H locs → lv_has ls nL lc → W p l e R s m args below meth c H locs kc ks Q (F0 m pc ls st)
/-- what holds all through the body of a method -/
def jj_C (p : Program) (s : State) (m : MethodId) (args : Array Value) (meth : Method) (c : Code) (y : MethodName) (cc : ByteArray) (nL : Nat) (ret : Option FieldType) (tb : jjTab) (D : va_G) (aC : Nat → ClassId) (base : Nat) : Prop :=
  p.tables.exec = Jvm.exec ∧ c.code = cc ∧ c.maxLocals = nL ∧ s.vm.findClass y.cls = some m.cls ∧ (∀ w ∈ jj_gw, w.before args s = true) ∧ jj_good cc nL tb ∧ jj_E D aC base s ∧ meth.locks = false ∧ (y.name = "<init>" → meth.name = "<init>") ∧ meth.sig.returnType = ret
theorem jj_gw_good : ∀ w ∈ jj_gw, w ∈ jj_gw ∧ ((w.onTables && w.keeps) = true ∨ ∃ ty, w = .arrayClass ty) := fun w hw => ⟨hw, good_of_word (List.mem_filter.mp hw).2⟩
theorem jj_gw_in {y : MethodName} {b : ByteArray} {nL : Nat} {ret : Option FieldType} (h : Cond.code y b nL ret ∈ jj_gw) : GoodIn jj_gw (.code y b nL ret :: jj_gw) := by
  intro w hw
  rcases List.mem_cons.mp hw with rfl | hw
  · exact jj_gw_good _ h
  · exact jj_gw_good w hw
theorem jj_blind {D : va_G} {aC : Nat → ClassId} {base : Nat} {av : List Value} {h : jjHp} : FrameBlind (va_Pc av (fun U => jj_E D aC base U ∧ jj_W D base h U.heap)) := fun a U g mk q => ⟨q.1, q.2.1.same rfl rfl, q.2.2⟩
section JJL
variable {p : Program} {l : Launch} {e : Env} {R : Room} {s : State} {m : MethodId} {args : Array Value} {below : List Frame} {meth : Method} {c : Code} {Q : State → Prop} {y : MethodName} {cc : ByteArray} {nL : Nat} {ret : Option FieldType} {tb : jjTab} {D : va_G} {aC : Nat → ClassId} {base : Nat}
variable {pc pc' nx tg idx kc ks mc ms d : Nat} {kv : Int32} {lc lc' : jjLoc} {st st' rest : List Value} {h : jjHp} {a : Nat}
theorem jj_start {b : ByteArray} {av : List Value} {Post : Option Value → jjHp → Prop} (hy : plainName y.cls = true) (hg : jj_good b nL tb) (hn : (lg_sl av).length ≤ nL)
    (body : ∀ (p : Program) (e : Env) (s : State) (m : MethodId) (args : Array Value) (below : List Frame) (meth : Method) (c : Code), jj_C p s m args meth c y b nL ret tb D aC base → jj_J p l e (jj_rm d mc ms) s m args below meth c D base nL (MQ below (jj_Q D base Post) args s mc ms (jj_A base)) 0 (lv_args 0 av) [] h 0 0) : jj_Ct l D aC base y b nL ret d mc ms av h Post := by
  refine Met.ofW (cc := b) (maxL := nL) (ret := ret) hy rfl ?_
  intro p e s m args below meth c s₁ B hml hv
  obtain ⟨rfl, hE, hw⟩ := hv
  have hts := atoms_spec (ws := .code y b nL ret :: jj_gw) B.pre
  have C : jj_C p s m av.toArray meth c y b nL ret tb D aC base := ⟨B.exec, B.bytes, hml, findClass_of_methodNamed B.named, fun w h => hts w (List.mem_cons_of_mem _ h), hg, hE, B.notSynchronized, fun hi => (name_of_methodNamed B.named B.method).1.trans hi, B.returns⟩
  have hl := lv_entry av (n := nL) hn
  rw [lg_entry_eq]
  exact body p e s m _ below meth c C s.heap [] _ hw va_S.rf hl
theorem jj_go (C : jj_C p s m args meth c y cc nL ret tb D aC base) (n : Nat) (hs : jj_run tb n (pc, lc, st) = some (pc', lc', st')) (k : jj_J p l e R s m args below meth c D base nL Q pc' lc' st' h kc ks) : jj_J p l e R s m args below meth c D base nL Q pc lc st h kc ks :=
  fun H locs ls hw hS hl => jj_run_w C.1 C.2.1 C.2.2.2.2.2.1 n hs hl (fun ls' h' => k H locs ls' hw hS h')
theorem jj_if (C : jj_C p s m args meth c y cc nL ret tb D aC base) {P : Prop} {t1 t2 : Nat} (hs : jj_br tb pc st = some (P, t1, t2, st')) (kt : P → jj_J p l e R s m args below meth c D base nL Q t1 lc st' h kc ks) (kf : ¬ P → jj_J p l e R s m args below meth c D base nL Q t2 lc st' h kc ks) : jj_J p l e R s m args below meth c D base nL Q pc lc st h kc ks :=
  fun H locs ls hw hS hl => jj_br_w C.1 C.2.1 C.2.2.2.2.2.1 hs (fun z => kt z H locs ls hw hS hl) (fun z => kf z H locs ls hw hS hl)
/-- fewer locals, a wider count -/
theorem jj_less (hs : ∀ q ∈ lc', q ∈ lc) (hc : kc ≤ mc) (hd : ks ≤ ms) (k : jj_J p l e R s m args below meth c D base nL Q pc lc' st h mc ms) : jj_J p l e R s m args below meth c D base nL Q pc lc st h kc ks :=
  fun H locs ls hw hS hl => W.widen hc hd (k H locs ls hw hS (jj_has_of hl hs))
theorem jj_idiv (C : jj_C p s m args meth c y cc nL ret tb D aC base) {x z : Int32} (hf : jj_look tb pc = some (.idiv, nx, tg, kv)) (hz : ¬ z = 0) (k : jj_J p l e R s m args below meth c D base nL Q nx lc (.int (x / z) :: st) h kc ks) : jj_J p l e R s m args below meth c D base nL Q pc lc (.int z :: .int x :: st) h kc ks := by
  obtain ⟨a1, a2, -⟩ := jj_good_at C.2.2.2.2.2.1 hf
  subst a2
  exact fun H locs ls hw hS hl => lv_idiv C.1 C.2.1 a1 hz (k H locs ls hw hS hl)
theorem jj_irem (C : jj_C p s m args meth c y cc nL ret tb D aC base) {x z : Int32} (hf : jj_look tb pc = some (.irem, nx, tg, kv)) (hz : ¬ z = 0) (k : jj_J p l e R s m args below meth c D base nL Q nx lc (.int (x - x / z * z) :: st) h kc ks) : jj_J p l e R s m args below meth c D base nL Q pc lc (.int z :: .int x :: st) h kc ks := by
  obtain ⟨a1, a2, -⟩ := jj_good_at C.2.2.2.2.2.1 hf
  subst a2
  exact fun H locs ls hw hS hl => lv_irem C.1 C.2.1 a1 hz (k H locs ls hw hS hl)
theorem jj_ldiv (C : jj_C p s m args meth c y cc nL ret tb D aC base) {x z : Int64} (hf : jj_look tb pc = some (.ldiv, nx, tg, kv)) (hz : ¬ z = 0) (k : jj_J p l e R s m args below meth c D base nL Q nx lc (.long (x / z) :: st) h kc ks) : jj_J p l e R s m args below meth c D base nL Q pc lc (.long z :: .long x :: st) h kc ks := by
  obtain ⟨a1, a2, -⟩ := jj_good_at C.2.2.2.2.2.1 hf
  subst a2
  exact fun H locs ls hw hS hl => lv_ldiv C.1 C.2.1 a1 hz (k H locs ls hw hS hl)
-- the ends
variable {Post : Option Value → jjHp → Prop}
theorem jj_iret (C : jj_C p s m args meth c y cc nL ret tb D aC base) {v : Int32} {ty : FieldType} (hf : jj_look tb pc = some (.ireturn, nx, tg, kv)) (hr : ret = some ty) (hn : narrow ty (.int v) = .int v) (hc : kc ≤ mc) (hd : ks ≤ ms) (hp : Post (some (.int v)) h) : jj_J p l e R s m args below meth c D base nL (MQ below (jj_Q D base Post) args s mc ms (jj_A base)) pc lc [.int v] h kc ks := by
  obtain ⟨hx, hb, -, -, -, hg, -, hlk, -, hret⟩ := C
  obtain ⟨a1, a2, -⟩ := jj_good_at hg hf
  exact fun H locs ls hw hS hl => W.widen hc hd (W.zret hx hb (hret.trans hr) hn (fun t ht hW => ⟨⟨_, h, rfl, hp, by rw [ht]; exact hw⟩, hS.F ht⟩) hS.2.2 a1 hlk)
theorem jj_vret (C : jj_C p s m args meth c y cc nL ret tb D aC base) (hf : jj_look tb pc = some (.return_, nx, tg, kv)) (hr : ret = none) (hc : kc ≤ mc) (hd : ks ≤ ms) (hp : Post none h) : jj_J p l e R s m args below meth c D base nL (MQ below (jj_Q D base Post) args s mc ms (jj_A base)) pc lc [] h kc ks := by
  obtain ⟨hx, hb, -, -, -, hg, -, hlk, -, hret⟩ := C
  obtain ⟨a1, a2, -⟩ := jj_good_at hg hf
  exact fun H locs ls hw hS hl => W.widen hc hd (W.vret hx hb (hret.trans hr) (fun t ht hW => ⟨⟨_, h, rfl, hp, by rw [ht]; exact hw⟩, hS.F ht⟩) hS.2.2 a1 hlk)
theorem jj_lret (C : jj_C p s m args meth c y cc nL ret tb D aC base) {v : Int64} (hf : jj_look tb pc = some (.lreturn, nx, tg, kv)) (hr : ret = some .long) (hc : kc ≤ mc) (hd : ks ≤ ms) (hp : Post (some (.long v)) h) : jj_J p l e R s m args below meth c D base nL (MQ below (jj_Q D base Post) args s mc ms (jj_A base)) pc lc [.long v] h kc ks := by
  obtain ⟨hx, hb, -, -, -, hg, -, hlk, -, hret⟩ := C
  obtain ⟨a1, a2, -⟩ := jj_good_at hg hf
  exact fun H locs ls hw hS hl => W.widen hc hd (W.lret hx hb (hret.trans hr) (fun t ht hW => ⟨⟨_, h, rfl, hp, by rw [ht]; exact hw⟩, hS.F ht⟩) hS.2.2 a1 hlk)
theorem jj_aret (C : jj_C p s m args meth c y cc nL ret tb D aC base) {v : Value} {rt : FieldType} (hf : jj_look tb pc = some (.areturn, nx, tg, kv)) (hr : ret = some rt) (hrt : (∃ n, rt = .object n) ∨ ∃ t, rt = .array t) (hv : v = .null ∨ ∃ a, v = .ref a) (hc : kc ≤ mc) (hd : ks ≤ ms) (hp : Post (some v) h) : jj_J p l e R s m args below meth c D base nL (MQ below (jj_Q D base Post) args s mc ms (jj_A base)) pc lc [v] h kc ks := by
  obtain ⟨hx, hb, -, -, -, hg, -, hlk, -, hret⟩ := C
  obtain ⟨a1, a2, -⟩ := jj_good_at hg hf
  exact fun H locs ls hw hS hl => W.widen hc hd (W.aret hx hb (hret.trans hr) hrt hv (fun t ht hW => ⟨⟨_, h, rfl, hp, by rw [ht]; exact hw⟩, hS.F ht⟩) hS.2.2 a1 hlk)
end JJL
/-! fields -/
/-- a class of the list: its name, its fields, their number and types -/
def jj_CL (ci : Nat) (C : String) (T : u_T) (N : Nat) (t0 : Nat → FieldType) : Prop := jj_cl[ci]? = some (C, T, N) ∧ (∀ w ∈ u_ws C T N, w ∈ jj_gw) ∧ (∀ k, k < N → parseFieldDescriptor (T k).2.2.1 = some (t0 k)) ∧ ∀ a, a < N → ∀ b, b < N → a ≠ b → (T a).2.1 ≠ (T b).2.1
/-- a field that a class's constant pool names: field k of class ci, of type ty, final or not -/
def jj_FL (own : String) (idx ci k : Nat) (ty : FieldType) (fin : Bool) : Prop := ∃ (C : String) (T : u_T) (N : Nat) (t0 : Nat → FieldType) (ref : String), jj_CL ci C T N t0 ∧ k < N ∧ t0 k = ty ∧ (T k).2.2.2 = fin ∧ (Cond.fieldLink own idx ref (T k).2.1 (T k).2.2.1 ∈ jj_gw ∨ ∃ host : String, (own, idx, ref, (T k).2.1, (T k).2.2.1, host) ∈ jj_nF) ∧ (ref = (T k).1 ∨ Cond.sameField ref (T k).1 (T k).2.1 (T k).2.2.1 ∈ jj_gw)
/-- the same, by a link of the class's own -/
def jj_FP (own : String) (idx ci k : Nat) (ty : FieldType) (fin : Bool) : Prop := ∃ (C : String) (T : u_T) (N : Nat) (t0 : Nat → FieldType) (ref : String), jj_CL ci C T N t0 ∧ k < N ∧ t0 k = ty ∧ (T k).2.2.2 = fin ∧ (fin = true → (T k).1 = own) ∧ Cond.fieldLink own idx ref (T k).2.1 (T k).2.2.1 ∈ jj_gw ∧ (ref = (T k).1 ∨ Cond.sameField ref (T k).1 (T k).2.1 (T k).2.2.1 ∈ jj_gw)
theorem jj_FP.fl {own : String} {idx ci k : Nat} {ty : FieldType} {fin : Bool} (h : jj_FP own idx ci k ty fin) : jj_FL own idx ci k ty fin := by
  obtain ⟨C, T, N, t0, ref, h1, h2, h3, h4, h5, h6, h7⟩ := h
  exact ⟨C, T, N, t0, ref, h1, h2, h3, h4, Or.inl h6, h7⟩
section JJF
variable {p : Program} {l : Launch} {e : Env} {R : Room} {s : State} {m : MethodId} {args : Array Value} {below : List Frame} {meth : Method} {c : Code} {Q : State → Prop} {y : MethodName} {cc : ByteArray} {nL : Nat} {ret : Option FieldType} {tb : jjTab} {D : va_G} {aC : Nat → ClassId} {base : Nat}
variable {pc pc' nx tg idx kc ks mc ms d : Nat} {kv : Int32} {lc lc' : jjLoc} {st st' rest : List Value} {h : jjHp} {a : Nat}
theorem jj_same {own ref o n ds : String} {args : Array Value} {s : State} (hts : ∀ w ∈ jj_gw, w.before args s = true) (h : ref = o ∨ Cond.sameField ref o n ds ∈ jj_gw) : ∀ x, s.fieldFound? o n ds = some x → s.fieldFound? ref n ds = some x := by
  rcases h with rfl | h
  · exact fun x hx => hx
  · exact fun x hx => u_same (hts _ h) x hx
theorem jj_getf (C : jj_C p s m args meth c y cc nL ret tb D aC base) {ci k : Nat} {ty : FieldType} {fin : Bool} {fs : List Value} {v : Value} (hf : jj_look tb pc = some (.getfield idx, nx, tg, kv)) (q : jj_FL y.cls idx ci k ty fin) (ho : h a = some (.inr (ci, fs))) (hv : fs[k]? = some v) (kk : jj_J p l e R s m args below meth c D base nL Q nx lc (v :: st) h kc ks) : jj_J p l e R s m args below meth c D base nL Q pc lc (.ref a :: st) h kc ks := by
  obtain ⟨hx, hb, -, hown, hts, hg, hE, -, -, -⟩ := C
  obtain ⟨a1, a2, -⟩ := jj_good_at hg hf
  subst a2
  obtain ⟨CN, T, N, t0, ref, ⟨hc, hin, hty, hnm⟩, hk, -, -, hlk, hsm⟩ := q
  intro H locs ls hw hS hl
  have hh := hw
  obtain ⟨ws, hP, hD, hi⟩ := hh
  obtain ⟨q0, hq0⟩ := hi a _ ho
  have kk := kk H locs ls hw hS hl
  rcases hlk with hlk | ⟨host, hlk⟩
  · exact va_get hx hb hts hin hown hE.1 hP q0 hq0 hc k hk (hts _ hlk) (jj_same (own := y.cls) hts hsm) hv a1 kk
  · exact va_getN hx hb hts hin hown hE.1 hP q0 hq0 hc k hk (va_Nw.use rfl (hE.2.1 _ hlk)) (jj_same (own := y.cls) hts hsm) hv a1 kk
theorem jj_putf (C : jj_C p s m args meth c y cc nL ret tb D aC base) {ci k : Nat} {ty : FieldType} {fs : List Value} {v : Value} (hf : jj_look tb pc = some (.putfield idx, nx, tg, kv)) (q : jj_FL y.cls idx ci k ty false) (ho : h a = some (.inr (ci, fs))) (hn : narrow ty v = v) (hfit : fits ty v = true) (hlen : k < fs.length) (kk : jj_J p l e R s m args below meth c D base nL Q nx lc st (jj_up h a (.inr (ci, fs.set k v))) kc ks) : jj_J p l e R s m args below meth c D base nL Q pc lc (v :: .ref a :: st) h kc ks := by
  obtain ⟨hx, hb, -, hown, hts, hg, hE, -, -, -⟩ := C
  obtain ⟨a1, a2, -⟩ := jj_good_at hg hf
  subst a2
  obtain ⟨CN, T, N, t0, ref, ⟨hc, hin, hty, hnm⟩, hk, ht, hfn, hlk, hsm⟩ := q
  subst ht
  intro H locs ls hw hS hl
  obtain ⟨ws, hP, hD, hi⟩ := hw
  obtain ⟨q0, hq0⟩ := hi a _ ho
  rcases hlk with hlk | ⟨host, hlk⟩
  · exact va_put hx hb hts hin t0 hty hnm hown hE.1 hP hD hS q0 hq0 hc k hk (hts _ hlk) (jj_same (own := y.cls) hts hsm) hfn (hty k hk) hn hfit hlen a1 (fun H1 locs1 hP1 hD1 hS1 => kk H1 locs1 ls ⟨_, hP1, hD1, jj_set_in (A := jj_A base) hi hq0⟩ hS1 hl)
  · exact va_putN hx hb hts hin t0 hty hnm hown hE.1 hP hD hS q0 hq0 hc k hk (va_Nw.use rfl (hE.2.1 _ hlk)) (jj_same (own := y.cls) hts hsm) hfn (hty k hk) hn hfit hlen a1 (fun H1 locs1 hP1 hD1 hS1 => kk H1 locs1 ls ⟨_, hP1, hD1, jj_set_in (A := jj_A base) hi hq0⟩ hS1 hl)
theorem jj_putF (C : jj_C p s m args meth c y cc nL ret tb D aC base) {ci k : Nat} {ty : FieldType} {fs : List Value} {v : Value} (hf : jj_look tb pc = some (.putfield idx, nx, tg, kv)) (q : jj_FP y.cls idx ci k ty true) (hi0 : y.name = "<init>") (ho : h a = some (.inr (ci, fs))) (hn : narrow ty v = v) (hfit : fits ty v = true) (hlen : k < fs.length) (kk : jj_J p l e R s m args below meth c D base nL Q nx lc st (jj_up h a (.inr (ci, fs.set k v))) kc ks) : jj_J p l e R s m args below meth c D base nL Q pc lc (v :: .ref a :: st) h kc ks := by
  obtain ⟨hx, hb, -, hown, hts, hg, hE, -, hname, -⟩ := C
  obtain ⟨a1, a2, -⟩ := jj_good_at hg hf
  subst a2
  obtain ⟨CN, T, N, t0, ref, ⟨hc, hin, hty, hnm⟩, hk, ht, hfn, hdec, hlk, hsm⟩ := q
  subst ht
  intro H locs ls hw hS hl
  obtain ⟨ws, hP, hD, hi⟩ := hw
  obtain ⟨q0, hq0⟩ := hi a _ ho
  exact va_putF hx hb hts hin t0 hty hnm hown hE.1 hP hD hS q0 hq0 hc k hk (hts _ hlk) (jj_same (own := y.cls) hts hsm) hfn (hname hi0) (hdec rfl) (hty k hk) hn hfit hlen a1 (fun H1 locs1 hP1 hD1 hS1 => kk H1 locs1 ls ⟨_, hP1, hD1, jj_set_in (A := jj_A base) hi hq0⟩ hS1 hl)
/-- a class that a class's constant pool names, to be made -/
def jj_NW (own : String) (idx ci N : Nat) (fs : List Value) : Prop := ∃ (C : String) (T : u_T) (t0 : Nat → FieldType), jj_CL ci C T N t0 ∧ Cond.classLink own idx C ∈ jj_gw ∧ Cond.instantiable C N ∈ jj_gw ∧ Cond.initialized C ∈ jj_gw ∧ ∀ j, j < N → defaultValue (t0 j) = vp_V fs j
theorem jj_new (C : jj_C p s m args meth c y cc nL ret tb D aC base) {ci N : Nat} {fs : List Value} (hf : jj_look tb pc = some (.new idx, nx, tg, kv)) (q : jj_NW y.cls idx ci N fs) (hc : kc + 1 ≤ R.cells) (hd : ks + N ≤ R.slots) (kk : ∀ a, h a = none → jj_J p l e R s m args below meth c D base nL Q nx lc (.ref a :: st) (jj_up h a (.inr (ci, fs))) (kc + 1) (ks + N)) : jj_J p l e R s m args below meth c D base nL Q pc lc st h kc ks := by
  obtain ⟨hx, hb, -, hown, hts, hg, hE, -, -, -⟩ := C
  obtain ⟨a1, a2, -⟩ := jj_good_at hg hf
  subst a2
  obtain ⟨CN, T, t0, ⟨hcl, hin, hty, hnm⟩, w1, w2, w3, hfs⟩ := q
  intro H locs ls hw hS hl
  obtain ⟨ws, hP, hD, hi⟩ := hw
  exact va_new hx hb hts hin t0 hty hown (hts _ w1) (hts _ w2) (hts _ w3) hE.1 hP hD hS (fun q hq => Nat.le_trans hE.2.2.2.2.2.2.1 hq) hcl hfs hc hd a1 (fun q H1 hP1 hD1 hS1 => kk q (jj_fresh hi hD1) H1 locs ls ⟨_, hP1, hD1, jj_push_in hi⟩ hS1 hl)
end JJF
/-! arrays -/
section JJA
variable {p : Program} {l : Launch} {e : Env} {R : Room} {s : State} {m : MethodId} {args : Array Value} {below : List Frame} {meth : Method} {c : Code} {Q : State → Prop} {y : MethodName} {cc : ByteArray} {nL : Nat} {ret : Option FieldType} {tb : jjTab} {D : va_G} {aC : Nat → ClassId} {base : Nat}
variable {pc pc' nx tg idx kc ks mc ms d : Nat} {kv : Int32} {lc lc' : jjLoc} {st st' rest : List Value} {h : jjHp} {a : Nat}

theorem jj_iald (C : jj_C p s m args meth c y cc nL ret tb D aC base) {n j : Nat} {i : Int32} {f : Nat → Int32} (hf : jj_look tb pc = some (.iaload, nx, tg, kv)) (ho : h a = some (.inl (aC 0, n, .inl f))) (hj : i = nI j) (hlt : j < n) (hn : n < 2 ^ 31) (kk : jj_J p l e R s m args below meth c D base nL Q nx lc (.int (f j) :: st) h kc ks) : jj_J p l e R s m args below meth c D base nL Q pc lc (.int i :: .ref a :: st) h kc ks := by
  obtain ⟨hx, hb, -, hown, hts, hg, hE, -, -, -⟩ := C
  obtain ⟨a1, a2, -⟩ := jj_good_at hg hf
  subst a2
  subst hj
  intro H locs ls hw hS hl
  have hh := hw
  obtain ⟨ws, hP, hD, hi⟩ := hh
  obtain ⟨q0, hq0⟩ := hi a _ ho
  have hin : vp_in (nI j) n := vp_in_nI hlt hn
  have hcl : (nI j).toNatClampNeg = j := nI_clamp (Nat.lt_trans hlt hn)
  exact va_iald hx hb hE.1 hP q0 0 hq0 rfl hin a1 (by rw [hcl]; exact kk H locs ls hw hS hl)
theorem jj_zald (C : jj_C p s m args meth c y cc nL ret tb D aC base) {n j : Nat} {i : Int32} {f : Nat → Int32} (hf : jj_look tb pc = some (.baload, nx, tg, kv)) (ho : h a = some (.inl (aC 1, n, .inl f))) (hj : i = nI j) (hlt : j < n) (hn : n < 2 ^ 31) (kk : jj_J p l e R s m args below meth c D base nL Q nx lc (.int (f j) :: st) h kc ks) : jj_J p l e R s m args below meth c D base nL Q pc lc (.int i :: .ref a :: st) h kc ks := by
  obtain ⟨hx, hb, -, hown, hts, hg, hE, -, -, -⟩ := C
  obtain ⟨a1, a2, -⟩ := jj_good_at hg hf
  subst a2
  subst hj
  intro H locs ls hw hS hl
  have hh := hw
  obtain ⟨ws, hP, hD, hi⟩ := hh
  obtain ⟨q0, hq0⟩ := hi a _ ho
  have hin : vp_in (nI j) n := vp_in_nI hlt hn
  have hcl : (nI j).toNatClampNeg = j := nI_clamp (Nat.lt_trans hlt hn)
  exact va_zald hx hb hE.1 hP q0 1 hq0 rfl hin a1 (by rw [hcl]; exact kk H locs ls hw hS hl)
theorem jj_cald (C : jj_C p s m args meth c y cc nL ret tb D aC base) {n j : Nat} {i : Int32} {f : Nat → Int32} (hf : jj_look tb pc = some (.caload, nx, tg, kv)) (ho : h a = some (.inl (aC 2, n, .inl f))) (hj : i = nI j) (hlt : j < n) (hn : n < 2 ^ 31) (kk : jj_J p l e R s m args below meth c D base nL Q nx lc (.int (f j) :: st) h kc ks) : jj_J p l e R s m args below meth c D base nL Q pc lc (.int i :: .ref a :: st) h kc ks := by
  obtain ⟨hx, hb, -, hown, hts, hg, hE, -, -, -⟩ := C
  obtain ⟨a1, a2, -⟩ := jj_good_at hg hf
  subst a2
  subst hj
  intro H locs ls hw hS hl
  have hh := hw
  obtain ⟨ws, hP, hD, hi⟩ := hh
  obtain ⟨q0, hq0⟩ := hi a _ ho
  have hin : vp_in (nI j) n := vp_in_nI hlt hn
  have hcl : (nI j).toNatClampNeg = j := nI_clamp (Nat.lt_trans hlt hn)
  exact va_cald hx hb hE.1 hP q0 2 hq0 rfl hin a1 (by rw [hcl]; exact kk H locs ls hw hS hl)
theorem jj_lald (C : jj_C p s m args meth c y cc nL ret tb D aC base) {n j : Nat} {i : Int32} {f : Nat → Int64} (hf : jj_look tb pc = some (.laload, nx, tg, kv)) (ho : h a = some (.inl (aC 3, n, .inr (.inl f)))) (hj : i = nI j) (hlt : j < n) (hn : n < 2 ^ 31) (kk : jj_J p l e R s m args below meth c D base nL Q nx lc (.long (f j) :: st) h kc ks) : jj_J p l e R s m args below meth c D base nL Q pc lc (.int i :: .ref a :: st) h kc ks := by
  obtain ⟨hx, hb, -, hown, hts, hg, hE, -, -, -⟩ := C
  obtain ⟨a1, a2, -⟩ := jj_good_at hg hf
  subst a2
  subst hj
  intro H locs ls hw hS hl
  have hh := hw
  obtain ⟨ws, hP, hD, hi⟩ := hh
  obtain ⟨q0, hq0⟩ := hi a _ ho
  have hin : vp_in (nI j) n := vp_in_nI hlt hn
  have hcl : (nI j).toNatClampNeg = j := nI_clamp (Nat.lt_trans hlt hn)
  exact va_lald hx hb hE.1 hP q0 3 hq0 rfl hin a1 (by rw [hcl]; exact kk H locs ls hw hS hl)
theorem jj_bald (C : jj_C p s m args meth c y cc nL ret tb D aC base) {n j : Nat} {i : Int32} {f : Nat → Int32} (hf : jj_look tb pc = some (.baload, nx, tg, kv)) (ho : h a = some (.inl (aC 4, n, .inl f))) (hj : i = nI j) (hlt : j < n) (hn : n < 2 ^ 31) (kk : jj_J p l e R s m args below meth c D base nL Q nx lc (.int (f j) :: st) h kc ks) : jj_J p l e R s m args below meth c D base nL Q pc lc (.int i :: .ref a :: st) h kc ks := by
  obtain ⟨hx, hb, -, hown, hts, hg, hE, -, -, -⟩ := C
  obtain ⟨a1, a2, -⟩ := jj_good_at hg hf
  subst a2
  subst hj
  intro H locs ls hw hS hl
  have hh := hw
  obtain ⟨ws, hP, hD, hi⟩ := hh
  obtain ⟨q0, hq0⟩ := hi a _ ho
  have hin : vp_in (nI j) n := vp_in_nI hlt hn
  have hcl : (nI j).toNatClampNeg = j := nI_clamp (Nat.lt_trans hlt hn)
  exact va_bald hx hb hE.1 hP q0 4 hq0 rfl hin a1 (by rw [hcl]; exact kk H locs ls hw hS hl)
theorem jj_iast (C : jj_C p s m args meth c y cc nL ret tb D aC base) {n j : Nat} {i : Int32} {x : Int32} {f : Nat → Int32} (hf : jj_look tb pc = some (.iastore, nx, tg, kv)) (ho : h a = some (.inl (aC 0, n, .inl f))) (hj : i = nI j) (hlt : j < n) (hn : n < 2 ^ 31) (kk : jj_J p l e R s m args below meth c D base nL Q nx lc st (jj_up h a (.inl (aC 0, n, .inl (upd f j x)))) kc ks) : jj_J p l e R s m args below meth c D base nL Q pc lc (.int x :: .int i :: .ref a :: st) h kc ks := by
  obtain ⟨hx, hb, -, hown, hts, hg, hE, -, -, -⟩ := C
  obtain ⟨a1, a2, -⟩ := jj_good_at hg hf
  subst a2
  subst hj
  intro H locs ls hw hS hl
  have hh := hw
  obtain ⟨ws, hP, hD, hi⟩ := hh
  obtain ⟨q0, hq0⟩ := hi a _ ho
  have hin : vp_in (nI j) n := vp_in_nI hlt hn
  have hcl : (nI j).toNatClampNeg = j := nI_clamp (Nat.lt_trans hlt hn)
  refine va_iast hx hb hE.1 hP hD hS q0 0 hq0 rfl hin a1 (fun H1 locs1 hP1 hD1 hS1 => ?_)
  rw [hcl] at hP1 hD1
  exact kk H1 locs1 ls ⟨_, hP1, hD1, jj_set_in (A := jj_A base) hi hq0⟩ hS1 hl
theorem jj_zast (C : jj_C p s m args meth c y cc nL ret tb D aC base) {n j : Nat} {i : Int32} {x : Int32} {f : Nat → Int32} (hf : jj_look tb pc = some (.bastore, nx, tg, kv)) (ho : h a = some (.inl (aC 1, n, .inl f))) (hj : i = nI j) (hlt : j < n) (hn : n < 2 ^ 31) (kk : jj_J p l e R s m args below meth c D base nL Q nx lc st (jj_up h a (.inl (aC 1, n, .inl (upd f j (vp_nar .boolean x))))) kc ks) : jj_J p l e R s m args below meth c D base nL Q pc lc (.int x :: .int i :: .ref a :: st) h kc ks := by
  obtain ⟨hx, hb, -, hown, hts, hg, hE, -, -, -⟩ := C
  obtain ⟨a1, a2, -⟩ := jj_good_at hg hf
  subst a2
  subst hj
  intro H locs ls hw hS hl
  have hh := hw
  obtain ⟨ws, hP, hD, hi⟩ := hh
  obtain ⟨q0, hq0⟩ := hi a _ ho
  have hin : vp_in (nI j) n := vp_in_nI hlt hn
  have hcl : (nI j).toNatClampNeg = j := nI_clamp (Nat.lt_trans hlt hn)
  refine va_zast hx hb hE.1 hP hD hS q0 1 hq0 rfl hin a1 (fun H1 locs1 hP1 hD1 hS1 => ?_)
  rw [hcl] at hP1 hD1
  exact kk H1 locs1 ls ⟨_, hP1, hD1, jj_set_in (A := jj_A base) hi hq0⟩ hS1 hl
theorem jj_cast (C : jj_C p s m args meth c y cc nL ret tb D aC base) {n j : Nat} {i : Int32} {x : Int32} {f : Nat → Int32} (hf : jj_look tb pc = some (.castore, nx, tg, kv)) (ho : h a = some (.inl (aC 2, n, .inl f))) (hj : i = nI j) (hlt : j < n) (hn : n < 2 ^ 31) (kk : jj_J p l e R s m args below meth c D base nL Q nx lc st (jj_up h a (.inl (aC 2, n, .inl (upd f j (vp_nar .char x))))) kc ks) : jj_J p l e R s m args below meth c D base nL Q pc lc (.int x :: .int i :: .ref a :: st) h kc ks := by
  obtain ⟨hx, hb, -, hown, hts, hg, hE, -, -, -⟩ := C
  obtain ⟨a1, a2, -⟩ := jj_good_at hg hf
  subst a2
  subst hj
  intro H locs ls hw hS hl
  have hh := hw
  obtain ⟨ws, hP, hD, hi⟩ := hh
  obtain ⟨q0, hq0⟩ := hi a _ ho
  have hin : vp_in (nI j) n := vp_in_nI hlt hn
  have hcl : (nI j).toNatClampNeg = j := nI_clamp (Nat.lt_trans hlt hn)
  refine va_cast hx hb hE.1 hP hD hS q0 2 hq0 rfl hin a1 (fun H1 locs1 hP1 hD1 hS1 => ?_)
  rw [hcl] at hP1 hD1
  exact kk H1 locs1 ls ⟨_, hP1, hD1, jj_set_in (A := jj_A base) hi hq0⟩ hS1 hl
theorem jj_last (C : jj_C p s m args meth c y cc nL ret tb D aC base) {n j : Nat} {i : Int32} {x : Int64} {f : Nat → Int64} (hf : jj_look tb pc = some (.lastore, nx, tg, kv)) (ho : h a = some (.inl (aC 3, n, .inr (.inl f)))) (hj : i = nI j) (hlt : j < n) (hn : n < 2 ^ 31) (kk : jj_J p l e R s m args below meth c D base nL Q nx lc st (jj_up h a (.inl (aC 3, n, .inr (.inl (vp_updL f j x))))) kc ks) : jj_J p l e R s m args below meth c D base nL Q pc lc (.long x :: .int i :: .ref a :: st) h kc ks := by
  obtain ⟨hx, hb, -, hown, hts, hg, hE, -, -, -⟩ := C
  obtain ⟨a1, a2, -⟩ := jj_good_at hg hf
  subst a2
  subst hj
  intro H locs ls hw hS hl
  have hh := hw
  obtain ⟨ws, hP, hD, hi⟩ := hh
  obtain ⟨q0, hq0⟩ := hi a _ ho
  have hin : vp_in (nI j) n := vp_in_nI hlt hn
  have hcl : (nI j).toNatClampNeg = j := nI_clamp (Nat.lt_trans hlt hn)
  refine va_last hx hb hE.1 hP hD hS q0 3 hq0 rfl hin a1 (fun H1 locs1 hP1 hD1 hS1 => ?_)
  rw [hcl] at hP1 hD1
  exact kk H1 locs1 ls ⟨_, hP1, hD1, jj_set_in (A := jj_A base) hi hq0⟩ hS1 hl
theorem jj_bast (C : jj_C p s m args meth c y cc nL ret tb D aC base) {n j : Nat} {i : Int32} {x : Int32} {f : Nat → Int32} (hf : jj_look tb pc = some (.bastore, nx, tg, kv)) (ho : h a = some (.inl (aC 4, n, .inl f))) (hj : i = nI j) (hlt : j < n) (hn : n < 2 ^ 31) (kk : jj_J p l e R s m args below meth c D base nL Q nx lc st (jj_up h a (.inl (aC 4, n, .inl (upd f j (vp_nar .byte x))))) kc ks) : jj_J p l e R s m args below meth c D base nL Q pc lc (.int x :: .int i :: .ref a :: st) h kc ks := by
  obtain ⟨hx, hb, -, hown, hts, hg, hE, -, -, -⟩ := C
  obtain ⟨a1, a2, -⟩ := jj_good_at hg hf
  subst a2
  subst hj
  intro H locs ls hw hS hl
  have hh := hw
  obtain ⟨ws, hP, hD, hi⟩ := hh
  obtain ⟨q0, hq0⟩ := hi a _ ho
  have hin : vp_in (nI j) n := vp_in_nI hlt hn
  have hcl : (nI j).toNatClampNeg = j := nI_clamp (Nat.lt_trans hlt hn)
  refine va_bast hx hb hE.1 hP hD hS q0 4 hq0 rfl hin a1 (fun H1 locs1 hP1 hD1 hS1 => ?_)
  rw [hcl] at hP1 hD1
  exact kk H1 locs1 ls ⟨_, hP1, hD1, jj_set_in (A := jj_A base) hi hq0⟩ hS1 hl
theorem jj_aald (C : jj_C p s m args meth c y cc nL ret tb D aC base) (t0 : Nat) {cA : ClassId} {CN : String} {n j : Nat} {i : Int32} {f : Nat → Option Nat} (hf : jj_look tb pc = some (.aaload, nx, tg, kv)) (ho : h a = some (.inl (cA, n, .inr (.inr (.inr (.inr f)))))) (ht : (jj_tys aC)[t0]? = some (cA, .object CN)) (hj : i = nI j) (hlt : j < n) (hn : n < 2 ^ 31) (kk : jj_J p l e R s m args below meth c D base nL Q nx lc (va_rf (f j) :: st) h kc ks) : jj_J p l e R s m args below meth c D base nL Q pc lc (.int i :: .ref a :: st) h kc ks := by
  obtain ⟨hx, hb, -, hown, hts, hg, hE, -, -, -⟩ := C
  obtain ⟨a1, a2, -⟩ := jj_good_at hg hf
  subst a2
  subst hj
  intro H locs ls hw hS hl
  have hh := hw
  obtain ⟨ws, hP, hD, hi⟩ := hh
  obtain ⟨q0, hq0⟩ := hi a _ ho
  have hin : vp_in (nI j) n := vp_in_nI hlt hn
  have hcl : (nI j).toNatClampNeg = j := nI_clamp (Nat.lt_trans hlt hn)
  exact va_aldq hx hb hE.1 hP q0 t0 hq0 ht hin a1 (by rw [hcl]; exact kk H locs ls hw hS hl)
theorem jj_aast (C : jj_C p s m args meth c y cc nL ret tb D aC base) (t0 : Nat) {cA : ClassId} {r : vw_C} {n j v ci : Nat} {vs : List Value} {i : Int32} {f : Nat → Option Nat} (hf : jj_look tb pc = some (.aastore, nx, tg, kv)) (ho : h a = some (.inl (cA, n, .inr (.inr (.inr (.inr f)))))) (ht : (jj_tys aC)[t0]? = some (cA, .object r.1)) (hv : h v = some (.inr (ci, vs))) (hcl0 : jj_cl[ci]? = some r) (hj : i = nI j) (hlt : j < n) (hn : n < 2 ^ 31) (kk : jj_J p l e R s m args below meth c D base nL Q nx lc st (jj_up h a (.inl (cA, n, .inr (.inr (.inr (.inr (va_up f j (some v)))))))) kc ks) : jj_J p l e R s m args below meth c D base nL Q pc lc (.ref v :: .int i :: .ref a :: st) h kc ks := by
  obtain ⟨hx, hb, -, hown, hts, hg, hE, -, -, -⟩ := C
  obtain ⟨a1, a2, -⟩ := jj_good_at hg hf
  subst a2
  subst hj
  intro H locs ls hw hS hl
  have hh := hw
  obtain ⟨ws, hP, hD, hi⟩ := hh
  obtain ⟨q0, hq0⟩ := hi a _ ho
  have hin : vp_in (nI j) n := vp_in_nI hlt hn
  have hcl : (nI j).toNatClampNeg = j := nI_clamp (Nat.lt_trans hlt hn)
  obtain ⟨qk, hqk⟩ := hi v _ hv
  refine va_astq hx hb hE.1 hP hD hS q0 t0 qk ci hq0 ht hqk hcl0 hin a1 (fun H1 locs1 hP1 hD1 hS1 => ?_)
  rw [hcl] at hP1 hD1
  exact kk H1 locs1 ls ⟨_, hP1, hD1, jj_set_in (A := jj_A base) hi hq0⟩ hS1 hl
theorem jj_aastN (C : jj_C p s m args meth c y cc nL ret tb D aC base) (t0 : Nat) {cA : ClassId} {CN : String} {n j : Nat} {i : Int32} {f : Nat → Option Nat} (hf : jj_look tb pc = some (.aastore, nx, tg, kv)) (ho : h a = some (.inl (cA, n, .inr (.inr (.inr (.inr f)))))) (ht : (jj_tys aC)[t0]? = some (cA, .object CN)) (hj : i = nI j) (hlt : j < n) (hn : n < 2 ^ 31) (kk : jj_J p l e R s m args below meth c D base nL Q nx lc st (jj_up h a (.inl (cA, n, .inr (.inr (.inr (.inr (va_up f j none))))))) kc ks) : jj_J p l e R s m args below meth c D base nL Q pc lc (.null :: .int i :: .ref a :: st) h kc ks := by
  obtain ⟨hx, hb, -, hown, hts, hg, hE, -, -, -⟩ := C
  obtain ⟨a1, a2, -⟩ := jj_good_at hg hf
  subst a2
  subst hj
  intro H locs ls hw hS hl
  have hh := hw
  obtain ⟨ws, hP, hD, hi⟩ := hh
  obtain ⟨q0, hq0⟩ := hi a _ ho
  have hin : vp_in (nI j) n := vp_in_nI hlt hn
  have hcl : (nI j).toNatClampNeg = j := nI_clamp (Nat.lt_trans hlt hn)
  refine va_astqN hx hb hE.1 hP hD hS q0 t0 hq0 ht hin a1 (fun H1 locs1 hP1 hD1 hS1 => ?_)
  rw [hcl] at hP1 hD1
  exact kk H1 locs1 ls ⟨_, hP1, hD1, jj_set_in (A := jj_A base) hi hq0⟩ hS1 hl
theorem jj_alen (C : jj_C p s m args meth c y cc nL ret tb D aC base) (t0 : Nat) {cA : ClassId} {x : vp_A} {ty : FieldType} (hf : jj_look tb pc = some (.arraylength, nx, tg, kv)) (ho : h a = some (.inl (cA, x))) (ht : (jj_tys aC)[t0]? = some (cA, ty)) (kk : jj_J p l e R s m args below meth c D base nL Q nx lc (.int (nI x.1) :: st) h kc ks) : jj_J p l e R s m args below meth c D base nL Q pc lc (.ref a :: st) h kc ks := by
  obtain ⟨hx, hb, -, hown, hts, hg, hE, -, -, -⟩ := C
  obtain ⟨a1, a2, -⟩ := jj_good_at hg hf
  subst a2
  intro H locs ls hw hS hl
  have hh := hw
  obtain ⟨ws, hP, hD, hi⟩ := hh
  obtain ⟨q0, hq0⟩ := hi a _ ho
  exact va_alen hx hb hE.1 hP q0 t0 hq0 ht rfl a1 (kk H locs ls hw hS hl)
/-- the array class of a type is the one that the tables name -/
theorem jj_arr_eq {s : State} (hK : va_K D jj_cl (jj_tys aC) s) {t0 : Nat} {cA cB : ClassId} {ty : FieldType} (ht : (jj_tys aC)[t0]? = some (cA, ty)) {tys : List (ClassId × FieldType)} (hK2 : va_K D jj_cl (tys ++ [(cB, ty)]) s) : cB = cA := by
  have h1 := (hK.2 t0 _ ht).2
  have h2 := (hK2.2 tys.length (cB, ty) (by simp)).2
  cases ty with
  | object C =>
    obtain ⟨_, _, -, -, -, e1⟩ := h1
    obtain ⟨_, _, -, -, -, e2⟩ := h2
    exact Option.some.inj (e2.symm.trans e1)
  | _ => exact Option.some.inj (Eq.trans (Eq.symm h2) h1)
theorem jj_newa (C : jj_C p s m args meth c y cc nL ret tb D aC base) (t0 : Nat) {cA : ClassId} {at0 : ArrayType} {ty : FieldType} {n : Int32} {N : Nat} {a0 : vp_A} (hf : jj_look tb pc = some (.newarray at0, nx, tg, kv)) (hw0 : Cond.arrayClass (newarray.typeOf at0) ∈ jj_gw) (hty : newarray.typeOf at0 = ty) (ht : (jj_tys aC)[t0]? = some (cA, ty)) (ha : ∀ cA : ClassId, vp_cell cA a0 = arrV cA N (fun _ => defaultValue ty)) (hN : n = nI N) (hb0 : N ≤ 65536) (hc : kc + 1 ≤ R.cells) (hd : ks + N ≤ R.slots) (kk : ∀ a, h a = none → jj_J p l e R s m args below meth c D base nL Q nx lc (.ref a :: st) (jj_up h a (.inl (cA, a0))) (kc + 1) (ks + N)) : jj_J p l e R s m args below meth c D base nL Q pc lc (.int n :: st) h kc ks := by
  obtain ⟨hx, hb, -, hown, hts, hg, hE, -, -, -⟩ := C
  obtain ⟨a1, a2, -⟩ := jj_good_at hg hf
  subst a2
  subst hN
  intro H locs ls hw hS hl
  obtain ⟨ws, hP, hD, hi⟩ := hw
  have hcb : componentBytes ty ≤ 8 := by cases ty <;> exact Nat.le_of_ble_eq_true rfl
  refine va_newa hx hb (hts _ hw0) hty hE.1 hP hD hS (fun q hq => Nat.le_trans hE.2.2.2.2.2.2.1 hq) ha (nI_pos (by omega)) (nI_clamp (by omega)) (Nat.le_trans (Nat.mul_le_mul hb0 hcb) (by decide)) hc hd a1 (fun q cB H1 hK1 hP1 hD1 hS1 => ?_)
  have he := jj_arr_eq hE.1 ht hK1
  subst he
  exact kk q (jj_fresh hi hD1) H1 locs ls ⟨_, hP1, hD1, jj_push_in hi⟩ hS1 hl
theorem jj_newq (C : jj_C p s m args meth c y cc nL ret tb D aC base) (t0 : Nat) {cA : ClassId} {CN : String} {n : Int32} {N : Nat} (hf : jj_look tb pc = some (.anewarray idx, nx, tg, kv)) (hw0 : Cond.classLink y.cls idx CN ∈ jj_gw) (hao : CN ∈ jj_ao) (ht : (jj_tys aC)[t0]? = some (cA, .object CN)) (hN : n = nI N) (hb0 : N ≤ 65536) (hc : kc + 1 ≤ R.cells) (hd : ks + N ≤ R.slots) (kk : ∀ a, h a = none → jj_J p l e R s m args below meth c D base nL Q nx lc (.ref a :: st) (jj_up h a (.inl (cA, N, .inr (.inr (.inr (.inr (fun _ => none))))))) (kc + 1) (ks + N)) : jj_J p l e R s m args below meth c D base nL Q pc lc (.int n :: st) h kc ks := by
  obtain ⟨hx, hb, -, hown, hts, hg, hE, -, -, -⟩ := C
  obtain ⟨a1, a2, -⟩ := jj_good_at hg hf
  subst a2
  subst hN
  intro H locs ls hw hS hl
  obtain ⟨ws, hP, hD, hi⟩ := hw
  refine va_newq hx hb hown (hts _ hw0) (hE.2.2.2.2.1 _ hao) hE.1 hP hD hS (fun q hq => Nat.le_trans hE.2.2.2.2.2.2.1 hq) (nI_pos (by omega)) (nI_clamp (by omega)) (by omega) hc hd a1 (fun q cB H1 hK1 hP1 hD1 hS1 => ?_)
  have he := jj_arr_eq hE.1 ht hK1
  subst he
  exact kk q (jj_fresh hi hD1) H1 locs ls ⟨_, hP1, hD1, jj_push_in hi⟩ hS1 hl
end JJA
/-! calls -/
section JJC
variable {p : Program} {l : Launch} {e : Env} {R : Room} {s : State} {m : MethodId} {args : Array Value} {below : List Frame} {meth : Method} {c : Code} {Q : State → Prop} {y : MethodName} {cc : ByteArray} {nL : Nat} {ret : Option FieldType} {tb : jjTab} {D : va_G} {aC : Nat → ClassId} {base : Nat}
variable {pc pc' nx tg idx kc ks mc ms d : Nat} {kv : Int32} {lc lc' : jjLoc} {st st' rest : List Value} {h : jjHp} {a : Nat}
variable {y1 : MethodName} {b1 : ByteArray} {n1 d1 mc1 ms1 np : Nat} {r1 : Option FieldType} {As : List Value} {P1 : Option Value → jjHp → Prop}
theorem jj_cont {a0 : Array Value} (hr : ∀ (H : Heap) (locs : List Loc) (ls : Array Slot), jj_W D base h H → va_S (jj_A base) s.heap H locs → lv_has ls nL lc → va_Run p l e R s m args below meth c H locs kc ks mc1 ms1 (F0 m pc ls st) rest (jj_Q D base P1 a0) (jj_A base))
    (kk : ∀ (r : Option Value) (h' : jjHp), P1 r h' → jj_J p l e R s m args below meth c D base nL Q (pc + 3) lc (r.toList ++ rest) h' (kc + mc1) (ks + ms1)) : jj_J p l e R s m args below meth c D base nL Q pc lc st h kc ks := by
  intro H locs ls hw hS hl T hT X
  obtain ⟨v, st₀, t, T', L, h0, X', hL, e1, e2, ⟨⟨r, h', hv, hp, hw'⟩, hz, hk⟩, stp⟩ := hr H locs ls hw hS hl T hT X
  cases hv
  rw [h0] at hz hk
  obtain ⟨t2, b1, b2⟩ := kk v h' hp T'.heap (locs ++ L) ls (by rw [e1]; exact hw') ⟨Nat.le_trans hS.1 (by rw [e1]; exact hz), fun q g1 g2 => by rw [e1, hk q (Nat.lt_of_lt_of_le g1 hS.1) g2]; exact hS.2.1 q g1 g2, fun q hq => by
    rcases List.mem_append.mp hq with g | g
    · exact hS.2.2 q g
    · exact hL q g⟩ hl T' rfl X'
  exact ⟨t2, stp t2 b1, b2⟩
/-- what a call needs of the tables: its link (plain, or of a nest mate), the code that it reaches -/
def jj_ML (own : String) (idx : Nat) (y1 : MethodName) (b1 : ByteArray) (n1 : Nat) (r1 : Option FieldType) (np : Nat) : Prop := (Cond.methodLink own idx y1 ∈ jj_gw ∨ ∃ host : String, (own, idx, y1, host) ∈ jj_nM) ∧ Cond.code y1 b1 n1 r1 ∈ jj_gw ∧ Cond.initialized y1.cls ∈ jj_gw ∧ (y1.cls ≠ "java/lang/invoke/MethodHandle" ∧ y1.cls ≠ "java/lang/invoke/VarHandle" ∧ (parseMethodDescriptor y1.desc).map (fun d => d.parameters.length) = some np)
theorem jj_pre {H : Heap} {locs : List Loc} (hE : jj_E D aC base s) (hw : jj_W D base h H) (hS : va_S (jj_A base) s.heap H locs) : ∀ U : State, U.heap = H → s.WarmedH U.vm → va_Pc As (fun U => jj_E D aC base U ∧ jj_W D base h U.heap) As.toArray U :=
  fun U hU hW => ⟨rfl, hE.moved hW (by rw [hU]; exact hS.1) (fun q g1 g2 => by rw [hU]; exact hS.2.1 q g1 g2), by rw [hU]; exact hw⟩
theorem jj_callS (C : jj_C p s m args meth c y cc nL ret tb D aC base) (hf : jj_look tb pc = some (.invokestatic idx, nx, tg, kv)) (q : jj_ML y.cls idx y1 b1 n1 r1 np) (hs : Cond.static y1 ∈ jj_gw) (hM : jj_Ct l D aC base y1 b1 n1 r1 d1 mc1 ms1 As h P1)
    (hst : st = As.reverse ++ rest) (hn : As.length = np) (hR : d1 + 1 ≤ R.frames ∧ 8 + (n1 + 11) + 64 * d1 ≤ R.locals) (hc : kc + mc1 ≤ R.cells) (hd : ks + ms1 ≤ R.slots) (hW : (rest.map fun v => v.category).sum ≤ 8)
    (kk : ∀ (r : Option Value) (h' : jjHp), P1 r h' → jj_J p l e R s m args below meth c D base nL Q nx lc (r.toList ++ rest) h' (kc + mc1) (ks + ms1)) : jj_J p l e R s m args below meth c D base nL Q pc lc st h kc ks := by
  obtain ⟨hx, hb, hml, hown, hts, hg, hE, -, -, -⟩ := C
  obtain ⟨a1, a2, -⟩ := jj_good_at hg hf
  subst a2
  obtain ⟨hlk, hcd, hin, hdd⟩ := q
  refine jj_cont (a0 := As.toArray) (fun H locs ls hw hS hl => ?_) kk
  rcases hlk with hlk | ⟨host, hlk⟩
  · exact va_runS ⟨hx, hb, hml, hown, hts⟩ hM ⟨callB_of np hts (jj_gw_in hcd) rfl rfl rfl (hts _ hin) (hts _ hlk) hdd hR, hts _ hs⟩ ⟨jj_blind, jj_pre hE hw hS⟩ rfl hn hl.1 hst (lv_room hW) a1 ⟨hc, hd⟩
  · exact va_runSN ⟨hx, hb, hml, hown, hts⟩ hM ⟨va_cnB np hts (jj_gw_in hcd) rfl rfl rfl (hE.2.2.1 _ hlk) (hts _ hin) hdd hR, hts _ hs, trivial⟩ ⟨jj_blind, jj_pre hE hw hS⟩ rfl hn hl.1 hst (lv_room hW) a1 ⟨hc, hd⟩
theorem jj_callI (C : jj_C p s m args meth c y cc nL ret tb D aC base) (hf : jj_look tb pc = some (.invokespecial idx, nx, tg, kv)) (q : jj_ML y.cls idx y1 b1 n1 none np) (hs : Cond.instanceMethod y1 ∈ jj_gw) (hi : y1.name = "<init>") (hM : jj_Ct l D aC base y1 b1 n1 none d1 mc1 ms1 (.ref a :: As) h P1)
    (hst : st = As.reverse ++ .ref a :: rest) (hn : As.length = np) (hR : d1 + 1 ≤ R.frames ∧ 8 + (n1 + 11) + 64 * d1 ≤ R.locals) (hc : kc + mc1 ≤ R.cells) (hd : ks + ms1 ≤ R.slots) (hW : (rest.map fun v => v.category).sum ≤ 8)
    (kk : ∀ (r : Option Value) (h' : jjHp), P1 r h' → jj_J p l e R s m args below meth c D base nL Q nx lc (r.toList ++ rest) h' (kc + mc1) (ks + ms1)) : jj_J p l e R s m args below meth c D base nL Q pc lc st h kc ks := by
  obtain ⟨hx, hb, hml, hown, hts, hg, hE, -, -, -⟩ := C
  obtain ⟨a1, a2, -⟩ := jj_good_at hg hf
  subst a2
  obtain ⟨hlk, hcd, hin, hdd⟩ := q
  refine jj_cont (a0 := (Value.ref a :: As).toArray) (fun H locs ls hw hS hl => ?_) kk
  rcases hlk with hlk | ⟨host, hlk⟩
  · exact va_runI ⟨hx, hb, hml, hown, hts⟩ hM ⟨callB_of np hts (jj_gw_in hcd) rfl rfl rfl (hts _ hin) (hts _ hlk) hdd hR, hi, hts _ hs⟩ ⟨jj_blind, jj_pre hE hw hS⟩ rfl hn hl.1 hst (lv_room hW) a1 ⟨hc, hd⟩
  · exact va_runIN ⟨hx, hb, hml, hown, hts⟩ hM ⟨va_cnB np hts (jj_gw_in hcd) rfl rfl rfl (hE.2.2.1 _ hlk) (hts _ hin) hdd hR, hi, hts _ hs⟩ ⟨jj_blind, jj_pre hE hw hS⟩ rfl hn hl.1 hst (lv_room hW) a1 ⟨hc, hd⟩
theorem jj_recv {H : Heap} {ci : Nat} {fs : List Value} {r : vw_C} (hE : jj_E D aC base s) (hw : jj_W D base h H) (ho : h a = some (.inr (ci, fs))) (hc : jj_cl[ci]? = some r) : ∃ cell : Cell, H[a]? = some cell ∧ cell.vm.isStatics = false ∧ s.vm.findClass r.1 = some cell.cls := by
  obtain ⟨ws, hP, hD, hi⟩ := hw
  obtain ⟨q0, hq0⟩ := hi a _ ho
  exact va_recv hE.1 hP hc hq0
/-- the receiver's class selects the method itself -/
def jj_SEL (C : String) (y : MethodName) : Prop := ∀ (args : Array Value) (s : State), (∀ w ∈ jj_gw, w.before args s = true) → (Cond.selects C y y).before args s = true
theorem jj_sel_priv {CN : String} {y0 y : MethodName} {args : Array Value} {s : State} (hn : y.cls ≠ "java/lang/invoke/MethodHandle" ∧ y.cls ≠ "java/lang/invoke/VarHandle") (h0 : (Cond.selects CN y0 y0).before args s = true) (hc : y0.cls = y.cls) (hpriv : (Cond.privateMethod y).before args s = true) (hinst : (Cond.instanceMethod y).before args s = true) : (Cond.selects CN y y).before args s = true := by
  obtain ⟨c, r, m0, q1, q2, q3, q4, mk0, q5, q6⟩ := Cond.selects_spec h0
  obtain ⟨mk, methM, hnamed, hmethM, -, -⟩ := Cond.instanceMethod_spec hinst
  have hfound : s.methodFound? y.cls y.name y.desc = some mk := State.methodFound?_of_named hnamed hn
  have e1 : m0.cls = mk.cls := by
    have a1 := findClass_of_methodNamed q3
    have a2 := findClass_of_methodNamed hnamed
    rw [hc] at a1
    exact Option.some.inj (a1.symm.trans a2)
  have hsel : selectMethod {} s.vm c mk = .method mk := selectMethod_private hmethM (Cond.privateMethod_at hpriv mk methM hnamed hmethM)
  rw [e1] at q5
  simp only [Cond.before, Cond.holds, Cond.value, q1, hfound, hnamed, hsel, q5]
  simp; exact q6
theorem jj_callVg (C : jj_C p s m args meth c y cc nL ret tb D aC base) (hf : jj_look tb pc = some (.invokevirtual idx, nx, tg, kv)) (q : jj_ML y.cls idx y1 b1 n1 r1 np) (hs : Cond.instanceMethod y1 ∈ jj_gw) {CN : String} (hrv : ∀ (H : Heap) (locs : List Loc), jj_W D base h H → va_S (jj_A base) s.heap H locs → ∃ cell : Cell, H[a]? = some cell ∧ cell.vm.isStatics = false ∧ s.vm.findClass CN = some cell.cls) (hsel : jj_SEL CN y1) (hM : jj_Ct l D aC base y1 b1 n1 r1 d1 mc1 ms1 (.ref a :: As) h P1)
    (hst : st = As.reverse ++ .ref a :: rest) (hn : As.length = np) (hR : d1 + 1 ≤ R.frames ∧ 8 + (n1 + 11) + 64 * d1 ≤ R.locals) (hc : kc + mc1 ≤ R.cells) (hd : ks + ms1 ≤ R.slots) (hW : (rest.map fun v => v.category).sum ≤ 8)
    (kk : ∀ (r : Option Value) (h' : jjHp), P1 r h' → jj_J p l e R s m args below meth c D base nL Q nx lc (r.toList ++ rest) h' (kc + mc1) (ks + ms1)) : jj_J p l e R s m args below meth c D base nL Q pc lc st h kc ks := by
  obtain ⟨hx, hb, hml, hown, hts, hg, hE, -, -, -⟩ := C
  obtain ⟨a1, a2, -⟩ := jj_good_at hg hf
  subst a2
  obtain ⟨hlk, hcd, hin, hdd⟩ := q
  refine jj_cont (a0 := (Value.ref a :: As).toArray) (fun H locs ls hw hS hl => ?_) kk
  rcases hlk with hlk | ⟨host, hlk⟩
  · exact va_runV ⟨hx, hb, hml, hown, hts⟩ hM ⟨callB_of np hts (jj_gw_in hcd) rfl rfl rfl (hts _ hin) (hts _ hlk) hdd hR, hts _ hs, hsel _ _ hts⟩ ⟨jj_blind, hrv H locs hw hS, jj_pre hE hw hS⟩ rfl hn hl.1 hst (lv_room hW) a1 ⟨hc, hd⟩
  · exact va_runVN ⟨hx, hb, hml, hown, hts⟩ hM ⟨va_cnB np hts (jj_gw_in hcd) rfl rfl rfl (hE.2.2.1 _ hlk) (hts _ hin) hdd hR, hts _ hs, hsel _ _ hts⟩ ⟨jj_blind, hrv H locs hw hS, jj_pre hE hw hS⟩ rfl hn hl.1 hst (lv_room hW) a1 ⟨hc, hd⟩
theorem jj_callV (C : jj_C p s m args meth c y cc nL ret tb D aC base) (hf : jj_look tb pc = some (.invokevirtual idx, nx, tg, kv)) (q : jj_ML y.cls idx y1 b1 n1 r1 np) (hs : Cond.instanceMethod y1 ∈ jj_gw) {ci : Nat} {fs : List Value} {r0 : vw_C} (ho : h a = some (.inr (ci, fs))) (hcl : jj_cl[ci]? = some r0) (hsel : jj_SEL r0.1 y1) (hM : jj_Ct l D aC base y1 b1 n1 r1 d1 mc1 ms1 (.ref a :: As) h P1)
    (hst : st = As.reverse ++ .ref a :: rest) (hn : As.length = np) (hR : d1 + 1 ≤ R.frames ∧ 8 + (n1 + 11) + 64 * d1 ≤ R.locals) (hc : kc + mc1 ≤ R.cells) (hd : ks + ms1 ≤ R.slots) (hW : (rest.map fun v => v.category).sum ≤ 8)
    (kk : ∀ (r : Option Value) (h' : jjHp), P1 r h' → jj_J p l e R s m args below meth c D base nL Q nx lc (r.toList ++ rest) h' (kc + mc1) (ks + ms1)) : jj_J p l e R s m args below meth c D base nL Q pc lc st h kc ks :=
  jj_callVg C hf q hs (fun H locs hw hS => jj_recv C.2.2.2.2.2.2.1 hw ho hcl) hsel hM hst hn hR hc hd hW kk
/-- a call of a method that the receiver's class inherits or overrides -/
def jj_MU (own : String) (idx : Nat) (C owner : String) (x1 y1 : MethodName) (b1 : ByteArray) (n1 : Nat) (r1 : Option FieldType) (np : Nat) : Prop := Cond.methodLink own idx x1 ∈ jj_gw ∧ Cond.sameMethod x1.cls owner x1.name x1.desc ∈ jj_gw ∧ Cond.selects C x1 y1 ∈ jj_gw ∧ Cond.instanceMethod y1 ∈ jj_gw ∧ Cond.initialized y1.cls ∈ jj_gw ∧ Cond.code y1 b1 n1 r1 ∈ jj_gw ∧ ((Cond.instanceMethod ⟨owner, x1.name, x1.desc⟩ ∈ jj_gw ∧ ∃ b0 n0 r0, Cond.code ⟨owner, x1.name, x1.desc⟩ b0 n0 r0 ∈ jj_gw) ∨ ⟨owner, x1.name, x1.desc⟩ ∈ jj_dc) ∧ (owner ≠ "java/lang/invoke/MethodHandle" ∧ owner ≠ "java/lang/invoke/VarHandle" ∧ (parseMethodDescriptor x1.desc).map (fun d => d.parameters.length) = some np)
theorem jj_callU (C : jj_C p s m args meth c y cc nL ret tb D aC base) {x1 : MethodName} {owner : String} {ci : Nat} {fs : List Value} {r0 : vw_C} (hf : jj_look tb pc = some (.invokevirtual idx, nx, tg, kv)) (ho : h a = some (.inr (ci, fs))) (hcl : jj_cl[ci]? = some r0) (q : jj_MU y.cls idx r0.1 owner x1 y1 b1 n1 r1 np) (hM : jj_Ct l D aC base y1 b1 n1 r1 d1 mc1 ms1 (.ref a :: As) h P1)
    (hst : st = As.reverse ++ .ref a :: rest) (hn : As.length = np) (hR : d1 + 1 ≤ R.frames ∧ 8 + (n1 + 11) + 64 * d1 ≤ R.locals) (hc : kc + mc1 ≤ R.cells) (hd : ks + ms1 ≤ R.slots) (hW : (rest.map fun v => v.category).sum ≤ 8)
    (kk : ∀ (r : Option Value) (h' : jjHp), P1 r h' → jj_J p l e R s m args below meth c D base nL Q nx lc (r.toList ++ rest) h' (kc + mc1) (ks + ms1)) : jj_J p l e R s m args below meth c D base nL Q pc lc st h kc ks := by
  obtain ⟨hx, hb, hml, hown, hts, hg, hE, -, -, -⟩ := C
  obtain ⟨a1, a2, -⟩ := jj_good_at hg hf
  subst a2
  obtain ⟨w1, w2, w3, w4, w5, w6, w7, hdd⟩ := q
  have hdc : va_Decl s ⟨owner, x1.name, x1.desc⟩ := by
    rcases w7 with ⟨g1, b0, n0, r0, g2⟩ | g
    · exact va_Decl.of (hts _ g1) (hts _ g2)
    · exact va_Decl.abs (hE.2.2.2.1 _ g)
  refine jj_cont (a0 := (Value.ref a :: As).toArray) (fun H locs ls hw hS hl => ?_) kk
  refine va_runU (bytes := b1) (maxL := n1) (ret := r1) (x := x1) (owner := owner) ⟨hx, hb, hml, hown, hts⟩ hM ⟨⟨rfl, rfl, hR.1, hR.2, pay_in hts (jj_gw_in w6), List.mem_cons_self⟩, hts _ w6, hts _ w5, ⟨hdd.1, hdd.2.1⟩, fun sig hsg => ?_, hts _ w1, hts _ w2, hdc, hts _ w3, hts _ w4⟩ ⟨jj_blind, jj_recv hE hw ho hcl, jj_pre hE hw hS⟩ rfl hn hl.1 hst (lv_room hW) a1 ⟨hc, hd⟩
  have h2 := hdd.2.2
  rw [hsg] at h2
  exact (Option.some.inj h2).symm
/-- super.m(..) -/
def jj_MS (own : String) (idx : Nat) (y1 : MethodName) (b1 : ByteArray) (n1 : Nat) (r1 : Option FieldType) (np : Nat) : Prop := Cond.methodLink own idx y1 ∈ jj_gw ∧ Cond.sameMethod y1.cls y1.cls y1.name y1.desc ∈ jj_gw ∧ Cond.superclass own y1.cls ∈ jj_gw ∧ Cond.instanceMethod y1 ∈ jj_gw ∧ Cond.initialized y1.cls ∈ jj_gw ∧ Cond.code y1 b1 n1 r1 ∈ jj_gw ∧ (y1.name ≠ "<init>" ∧ (parseMethodDescriptor y1.desc).map (fun d => d.parameters.length) = some np)
theorem jj_callP (C : jj_C p s m args meth c y cc nL ret tb D aC base) {ci : Nat} {fs : List Value} {r0 : vw_C} (hf : jj_look tb pc = some (.invokespecial idx, nx, tg, kv)) (ho : h a = some (.inr (ci, fs))) (hcl : jj_cl[ci]? = some r0) (q : jj_MS y.cls idx y1 b1 n1 r1 np) (hM : jj_Ct l D aC base y1 b1 n1 r1 d1 mc1 ms1 (.ref a :: As) h P1)
    (hst : st = As.reverse ++ .ref a :: rest) (hn : As.length = np) (hR : d1 + 1 ≤ R.frames ∧ 8 + (n1 + 11) + 64 * d1 ≤ R.locals) (hc : kc + mc1 ≤ R.cells) (hd : ks + ms1 ≤ R.slots) (hW : (rest.map fun v => v.category).sum ≤ 8)
    (kk : ∀ (r : Option Value) (h' : jjHp), P1 r h' → jj_J p l e R s m args below meth c D base nL Q nx lc (r.toList ++ rest) h' (kc + mc1) (ks + ms1)) : jj_J p l e R s m args below meth c D base nL Q pc lc st h kc ks := by
  obtain ⟨hx, hb, hml, hown, hts, hg, hE, -, -, -⟩ := C
  obtain ⟨a1, a2, -⟩ := jj_good_at hg hf
  subst a2
  obtain ⟨w1, w2, w3, w4, w5, w6, hno, hnp⟩ := q
  refine jj_cont (a0 := (Value.ref a :: As).toArray) (fun H locs ls hw hS hl => ?_) kk
  refine va_runSU (bytes := b1) (maxL := n1) (ret := r1) (hE.1.1 ci r0 hcl).2 ⟨hx, hb, hml, hown, hts⟩ hM ⟨⟨rfl, rfl, hR.1, hR.2, pay_in hts (jj_gw_in w6), List.mem_cons_self⟩, hts _ w1, hts _ w2, hts _ w3, hts _ w4, hts _ w5, hts _ w6, hno, fun sig hsg => ?_⟩ ⟨jj_blind, jj_recv hE hw ho hcl, jj_pre hE hw hS⟩ rfl hn hl.1 hst (lv_room hW) a1 ⟨hc, hd⟩
  rw [hsg] at hnp
  exact (Option.some.inj hnp).symm
/-- Object() -/
theorem jj_objI (C : jj_C p s m args meth c y cc nL ret tb D aC base) (hf : jj_look tb pc = some (.invokespecial idx, nx, tg, kv)) (w1 : Cond.methodLink y.cls idx objectInit ∈ jj_gw) (w2 : Cond.instanceMethod objectInit ∈ jj_gw) (w3 : Cond.code objectInit ⟨#[0xb1]⟩ 1 none ∈ jj_gw) (hR : 1 ≤ R.frames ∧ 20 ≤ R.locals) (hW : (st.map fun v => v.category).sum ≤ 8)
    (kk : jj_J p l e R s m args below meth c D base nL Q nx lc st h kc ks) : jj_J p l e R s m args below meth c D base nL Q pc lc (.ref a :: st) h kc ks := by
  obtain ⟨hx, hb, hml, hown, hts, hg, hE, -, -, -⟩ := C
  obtain ⟨a1, a2, -⟩ := jj_good_at hg hf
  subst a2
  intro H locs ls hw hS hl
  refine W.objInit hx hb hown (hts _ w1) (hts _ w2) (hts _ w3) rfl (by rw [hml]; exact hl.1) rfl a1 hR.1 ?_ (kk H locs ls hw hS hl)
  have h9 := lv_room (m := m) (pc := pc) (ls := ls) (rest := .ref a :: st) hW
  omega
/-- String.COMPACT_STRINGS -/
theorem jj_gets (C : jj_C p s m args meth c y cc nL ret tb D aC base) (hf : jj_look tb pc = some (.getstatic idx, nx, tg, kv)) (w1 : Cond.fieldLink y.cls idx "java/lang/String" "COMPACT_STRINGS" "Z" ∈ jj_gw)
    (kk : jj_J p l e R s m args below meth c D base nL Q nx lc (.int 1 :: st) h kc ks) : jj_J p l e R s m args below meth c D base nL Q pc lc st h kc ks := by
  obtain ⟨hx, hb, hml, hown, hts, hg, hE, -, -, -⟩ := C
  obtain ⟨a1, a2, -⟩ := jj_good_at hg hf
  subst a2
  exact fun H locs ls hw hS hl => va_gets hx hb hE.2.2.2.2.2.1 hS hown (hts _ w1) (fun _ h => h) a1 (kk H locs ls hw hS hl)
/-- constants of the pool -/
theorem jj_ldci (C : jj_C p s m args meth c y cc nL ret tb D aC base) {v : Int32} (hf : jj_look tb pc = some (.ldc idx, nx, tg, kv)) (w1 : Cond.constant y.cls idx v ∈ jj_gw)
    (kk : jj_J p l e R s m args below meth c D base nL Q nx lc (.int v :: st) h kc ks) : jj_J p l e R s m args below meth c D base nL Q pc lc st h kc ks := by
  obtain ⟨hx, hb, hml, hown, hts, hg, hE, -, -, -⟩ := C
  obtain ⟨a1, a2, -⟩ := jj_good_at hg hf
  subst a2
  exact fun H locs ls hw hS hl => lv_ldc hx hb hown (hts _ w1) a1 (kk H locs ls hw hS hl)
theorem jj_ldcl (C : jj_C p s m args meth c y cc nL ret tb D aC base) {v : Int64} (hf : jj_look tb pc = some (.ldc2_w idx, nx, tg, kv)) (w1 : Cond.constantLong y.cls idx v ∈ jj_gw)
    (kk : jj_J p l e R s m args below meth c D base nL Q nx lc (.long v :: st) h kc ks) : jj_J p l e R s m args below meth c D base nL Q pc lc st h kc ks := by
  obtain ⟨hx, hb, hml, hown, hts, hg, hE, -, -, -⟩ := C
  obtain ⟨a1, a2, -⟩ := jj_good_at hg hf
  subst a2
  exact fun H locs ls hw hS hl => lv_ldc2 hx hb hown (hts _ w1) a1 (kk H locs ls hw hS hl)
/-- the text "" of the class -/
theorem jj_ldcs (C : jj_C p s m args meth c y cc nL ret tb D aC base) (hf : jj_look tb pc = some (.ldc idx, nx, tg, kv)) (hy : (y.cls = "BeanServer" ∧ idx = 52) ∨ (y.cls = "BeanServer$Pattern" ∧ idx = 26))
    (kk : jj_J p l e R s m args below meth c D base nL Q nx lc (.ref (aC 100) :: st) h kc ks) : jj_J p l e R s m args below meth c D base nL Q pc lc st h kc ks := by
  obtain ⟨hx, hb, hml, hown, hts, hg, hE, -, -, -⟩ := C
  obtain ⟨a1, a2, -⟩ := jj_good_at hg hf
  subst a2
  intro H locs ls hw hS hl
  rcases hy with ⟨e1, rfl⟩ | ⟨e1, rfl⟩
  · exact va_ldcS hx hb hown (by rw [e1]; exact hE.2.2.2.2.2.2.2.2.1) a1 (kk H locs ls hw hS hl)
  · exact va_ldcS hx hb hown (by rw [e1]; exact hE.2.2.2.2.2.2.2.2.2.1) a1 (kk H locs ls hw hS hl)
/-- its field value, and that array's length -/
theorem jj_litv (C : jj_C p s m args meth c y cc nL ret tb D aC base) (hf : jj_look tb pc = some (.getfield idx, nx, tg, kv)) (w1 : Cond.fieldLink y.cls idx "java/lang/String" "value" "[B" ∈ jj_gw)
    (kk : jj_J p l e R s m args below meth c D base nL Q nx lc (.ref (aC 101) :: st) h kc ks) : jj_J p l e R s m args below meth c D base nL Q pc lc (.ref (aC 100) :: st) h kc ks := by
  obtain ⟨hx, hb, hml, hown, hts, hg, hE, -, -, -⟩ := C
  obtain ⟨a1, a2, -⟩ := jj_good_at hg hf
  subst a2
  exact fun H locs ls hw hS hl => vk_getf hx hb ((hE.2.2.2.2.2.2.2.2.2.2.1).1 0 (by decide)).2.2.1 hS hown (hts _ w1) (fun _ h => h) a1 (kk H locs ls hw hS hl)
theorem jj_litl (C : jj_C p s m args meth c y cc nL ret tb D aC base) (hf : jj_look tb pc = some (.arraylength, nx, tg, kv))
    (kk : jj_J p l e R s m args below meth c D base nL Q nx lc (.int 0 :: st) h kc ks) : jj_J p l e R s m args below meth c D base nL Q pc lc (.ref (aC 101) :: st) h kc ks := by
  obtain ⟨hx, hb, hml, hown, hts, hg, hE, -, -, -⟩ := C
  obtain ⟨a1, a2, -⟩ := jj_good_at hg hf
  subst a2
  exact fun H locs ls hw hS hl => va_tlen hx hb ((hE.2.2.2.2.2.2.2.2.2.2.1).1 0 (by decide)).2.2.2 hS rfl a1 (kk H locs ls hw hS hl)
theorem jj_lit_recv (C : jj_C p s m args meth c y cc nL ret tb D aC base) : ∀ (H : Heap) (locs : List Loc), jj_W D base h H → va_S (jj_A base) s.heap H locs → ∃ cell : Cell, H[aC 100]? = some cell ∧ cell.vm.isStatics = false ∧ s.vm.findClass "java/lang/String" = some cell.cls :=
  fun H locs _ hS => vk_recv (C.2.2.2.2.2.2.1.2.2.2.2.2.2.2.2.2.2.1) (i := 0) (by decide) hS
/-- Preconditions.SIOOBE_FORMATTER: a reference or null -/
theorem jj_getq (C : jj_C p s m args meth c y cc nL ret tb D aC base) (hf : jj_look tb pc = some (.getstatic idx, nx, tg, kv)) (w1 : Cond.fieldLink y.cls idx "jdk/internal/util/Preconditions" "SIOOBE_FORMATTER" "Ljava/util/function/BiFunction;" ∈ jj_gw)
    (kk : ∀ r : Option Nat, jj_J p l e R s m args below meth c D base nL Q nx lc (va_rf r :: st) h kc ks) : jj_J p l e R s m args below meth c D base nL Q pc lc st h kc ks := by
  obtain ⟨hx, hb, hml, hown, hts, hg, hE, -, -, -⟩ := C
  obtain ⟨a1, a2, -⟩ := jj_good_at hg hf
  subst a2
  intro H locs ls hw hS hl
  rcases hE.2.2.2.2.2.2.2.1 with hz | ⟨t, hz⟩
  · exact va_gets hx hb hz hS hown (hts _ w1) (fun _ h => h) a1 (kk none H locs ls hw hS hl)
  · exact va_gets hx hb hz hS hown (hts _ w1) (fun _ h => h) a1 (kk (some t) H locs ls hw hS hl)
/-- the law's script -/
theorem jj_slen (C : jj_C p s m args meth c y cc nL ret tb D aC base) {b L : Nat} {xs : Nat → Int32} (hX : va_X b L xs s s.heap) (hbl : b < base) (hf : jj_look tb pc = some (.arraylength, nx, tg, kv))
    (kk : jj_J p l e R s m args below meth c D base nL Q nx lc (.int (nI L) :: st) h kc ks) : jj_J p l e R s m args below meth c D base nL Q pc lc (.ref b :: st) h kc ks := by
  obtain ⟨hx, hb, hml, hown, hts, hg, hE, -, -, -⟩ := C
  obtain ⟨a1, a2, -⟩ := jj_good_at hg hf
  subst a2
  exact fun H locs ls hw hS hl => va_slen hx hb hX (Nat.lt_of_lt_of_le hbl hE.2.2.2.2.2.2.1) (fun q => Nat.not_le.mpr hbl q) hS a1 (kk H locs ls hw hS hl)
theorem jj_sld (C : jj_C p s m args meth c y cc nL ret tb D aC base) {b L j : Nat} {i : Int32} {xs : Nat → Int32} (hX : va_X b L xs s s.heap) (hbl : b < base) (hf : jj_look tb pc = some (.iaload, nx, tg, kv)) (hj : i = nI j) (hlt : j < L) (hL : L < 2 ^ 31)
    (kk : jj_J p l e R s m args below meth c D base nL Q nx lc (.int (xs j) :: st) h kc ks) : jj_J p l e R s m args below meth c D base nL Q pc lc (.int i :: .ref b :: st) h kc ks := by
  obtain ⟨hx, hb, hml, hown, hts, hg, hE, -, -, -⟩ := C
  obtain ⟨a1, a2, -⟩ := jj_good_at hg hf
  subst a2
  subst hj
  have hcl : (nI j).toNatClampNeg = j := nI_clamp (Nat.lt_trans hlt hL)
  exact fun H locs ls hw hS hl => va_sld hx hb hX (Nat.lt_of_lt_of_le hbl hE.2.2.2.2.2.2.1) (fun q => Nat.not_le.mpr hbl q) hS (vp_in_nI hlt hL) a1 (by rw [hcl]; exact kk H locs ls hw hS hl)
end JJC
end
section
abbrev yb_BS_init : ByteArray := prog_1_method_1_code
abbrev yn_BS_init : MethodName := ⟨"BeanServer", "<init>", "()V"⟩
abbrev yb_SB_init : ByteArray := prog_18_method_1_code
abbrev yn_SB_init : MethodName := ⟨"java/lang/StringBuilder", "<init>", "()V"⟩
abbrev yb_AS_init : ByteArray := prog_13_method_2_code
abbrev yn_AS_init : MethodName := ⟨"java/lang/AbstractStringBuilder", "<init>", "(I)V"⟩
abbrev yb_SU_newBytesFor : ByteArray := prog_20_method_2_code
abbrev yn_SU_newBytesFor : MethodName := ⟨"java/lang/StringUTF16", "newBytesFor", "(I)[B"⟩
abbrev yb_SU_newBytesLength : ByteArray := prog_20_method_3_code
abbrev yn_SU_newBytesLength : MethodName := ⟨"java/lang/StringUTF16", "newBytesLength", "(I)I"⟩
abbrev yb_LG_init : ByteArray := prog_5_method_1_code
abbrev yn_LG_init : MethodName := ⟨"BeanServer$Log", "<init>", "()V"⟩
abbrev yb_BS_write : ByteArray := prog_1_method_2_code
abbrev yn_BS_write : MethodName := ⟨"BeanServer", "write", "(C)Z"⟩
abbrev yb_SB_length : ByteArray := prog_18_method_93_code
abbrev yn_SB_length : MethodName := ⟨"java/lang/StringBuilder", "length", "()I"⟩
abbrev yb_AS_length : ByteArray := prog_13_method_6_code
abbrev yn_AS_length : MethodName := ⟨"java/lang/AbstractStringBuilder", "length", "()I"⟩
abbrev yb_SB_append : ByteArray := prog_18_method_14_code
abbrev yn_SB_append : MethodName := ⟨"java/lang/StringBuilder", "append", "(C)Ljava/lang/StringBuilder;"⟩
abbrev yb_AS_append : ByteArray := prog_13_method_31_code
abbrev yn_AS_append : MethodName := ⟨"java/lang/AbstractStringBuilder", "append", "(C)Ljava/lang/AbstractStringBuilder;"⟩
abbrev yb_AS_ensureCapacityInternal : ByteArray := prog_13_method_9_code
abbrev yn_AS_ensureCapacityInternal : MethodName := ⟨"java/lang/AbstractStringBuilder", "ensureCapacityInternal", "(I)V"⟩
abbrev yb_AS_newCapacity : ByteArray := prog_13_method_10_code
abbrev yn_AS_newCapacity : MethodName := ⟨"java/lang/AbstractStringBuilder", "newCapacity", "(I)I"⟩
abbrev yb_AP_newLength : ByteArray := prog_23_method_27_code
abbrev yn_AP_newLength : MethodName := ⟨"jdk/internal/util/ArraysSupport", "newLength", "(III)I"⟩
abbrev yb_MA_max : ByteArray := prog_16_method_65_code
abbrev yn_MA_max : MethodName := ⟨"java/lang/Math", "max", "(II)I"⟩
abbrev yb_AP_hugeLength : ByteArray := prog_23_method_28_code
abbrev yn_AP_hugeLength : MethodName := ⟨"jdk/internal/util/ArraysSupport", "hugeLength", "(II)I"⟩
abbrev yb_AR_copyOf : ByteArray := prog_22_method_121_code
abbrev yn_AR_copyOf : MethodName := ⟨"java/util/Arrays", "copyOf", "([BI)[B"⟩
abbrev yb_MA_min : ByteArray := prog_16_method_69_code
abbrev yn_MA_min : MethodName := ⟨"java/lang/Math", "min", "(II)I"⟩
abbrev yb_AS_isLatin1 : ByteArray := prog_13_method_68_code
abbrev yn_AS_isLatin1 : MethodName := ⟨"java/lang/AbstractStringBuilder", "isLatin1", "()Z"⟩
abbrev yb_SL_canEncode1 : ByteArray := prog_19_method_3_code
abbrev yn_SL_canEncode1 : MethodName := ⟨"java/lang/StringLatin1", "canEncode", "(C)Z"⟩
abbrev yb_AS_inflate : ByteArray := prog_13_method_11_code
abbrev yn_AS_inflate : MethodName := ⟨"java/lang/AbstractStringBuilder", "inflate", "()V"⟩
abbrev yb_SL_inflate : ByteArray := prog_19_method_50_code
abbrev yn_SL_inflate : MethodName := ⟨"java/lang/StringLatin1", "inflate", "([BI[BII)V"⟩
abbrev yb_SU_inflate : ByteArray := prog_20_method_86_code
abbrev yn_SU_inflate : MethodName := ⟨"java/lang/StringUTF16", "inflate", "([BI[BII)V"⟩
abbrev yb_SU_checkBoundsOffCount : ByteArray := prog_20_method_94_code
abbrev yn_SU_checkBoundsOffCount : MethodName := ⟨"java/lang/StringUTF16", "checkBoundsOffCount", "(II[B)V"⟩
abbrev yb_SU_length : ByteArray := prog_20_method_6_code
abbrev yn_SU_length : MethodName := ⟨"java/lang/StringUTF16", "length", "([B)I"⟩
abbrev yb_ST_checkBoundsOffCount : ByteArray := prog_17_method_157_code
abbrev yn_ST_checkBoundsOffCount : MethodName := ⟨"java/lang/String", "checkBoundsOffCount", "(III)I"⟩
abbrev yb_PR_checkFromIndexSize : ByteArray := prog_24_method_13_code
abbrev yn_PR_checkFromIndexSize : MethodName := ⟨"jdk/internal/util/Preconditions", "checkFromIndexSize", "(IIILjava/util/function/BiFunction;)I"⟩
abbrev yb_SU_putChar : ByteArray := prog_20_method_4_code
abbrev yn_SU_putChar : MethodName := ⟨"java/lang/StringUTF16", "putChar", "([BII)V"⟩
abbrev yb_SU_putCharSB : ByteArray := prog_20_method_71_code
abbrev yn_SU_putCharSB : MethodName := ⟨"java/lang/StringUTF16", "putCharSB", "([BII)V"⟩
abbrev yb_SU_checkIndex : ByteArray := prog_20_method_91_code
abbrev yn_SU_checkIndex : MethodName := ⟨"java/lang/StringUTF16", "checkIndex", "(I[B)V"⟩
abbrev yb_ST_checkIndex : ByteArray := prog_17_method_155_code
abbrev yn_ST_checkIndex : MethodName := ⟨"java/lang/String", "checkIndex", "(II)V"⟩
abbrev yb_PR_checkIndex : ByteArray := prog_24_method_11_code
abbrev yn_PR_checkIndex : MethodName := ⟨"jdk/internal/util/Preconditions", "checkIndex", "(IILjava/util/function/BiFunction;)I"⟩
abbrev yb_BS_register : ByteArray := prog_1_method_3_code
abbrev yn_BS_register : MethodName := ⟨"BeanServer", "register", "()I"⟩
abbrev yb_BS_takenName : ByteArray := prog_1_method_22_code
abbrev yn_BS_takenName : MethodName := ⟨"BeanServer", "takenName", "()LBeanServer$Pattern;"⟩
abbrev yb_BS_taken : ByteArray := prog_1_method_21_code
abbrev yn_BS_taken : MethodName := ⟨"BeanServer", "taken", "()Ljava/lang/String;"⟩
abbrev yb_SB_toString : ByteArray := prog_18_method_42_code
abbrev yn_SB_toString : MethodName := ⟨"java/lang/StringBuilder", "toString", "()Ljava/lang/String;"⟩
abbrev yb_ST_init1 : ByteArray := prog_17_method_53_code
abbrev yn_ST_init1 : MethodName := ⟨"java/lang/String", "<init>", "(Ljava/lang/StringBuilder;)V"⟩
abbrev yb_ST_init2 : ByteArray := prog_17_method_150_code
abbrev yn_ST_init2 : MethodName := ⟨"java/lang/String", "<init>", "(Ljava/lang/AbstractStringBuilder;Ljava/lang/Void;)V"⟩
abbrev yb_AS_getValue : ByteArray := prog_13_method_64_code
abbrev yn_AS_getValue : MethodName := ⟨"java/lang/AbstractStringBuilder", "getValue", "()[B"⟩
abbrev yb_AR_copyOfRange : ByteArray := prog_22_method_132_code
abbrev yn_AR_copyOfRange : MethodName := ⟨"java/util/Arrays", "copyOfRange", "([BII)[B"⟩
abbrev yb_AR_copyOfRangeByte : ByteArray := prog_22_method_133_code
abbrev yn_AR_copyOfRangeByte : MethodName := ⟨"java/util/Arrays", "copyOfRangeByte", "([BII)[B"⟩
abbrev yb_AR_checkLength : ByteArray := prog_22_method_131_code
abbrev yn_AR_checkLength : MethodName := ⟨"java/util/Arrays", "checkLength", "(II)V"⟩
abbrev yb_SU_compress1 : ByteArray := prog_20_method_17_code
abbrev yn_SU_compress1 : MethodName := ⟨"java/lang/StringUTF16", "compress", "([BII)[B"⟩
abbrev yb_SU_compress2 : ByteArray := prog_20_method_22_code
abbrev yn_SU_compress2 : MethodName := ⟨"java/lang/StringUTF16", "compress", "([BI[BII)I"⟩
abbrev yb_SU_getChar : ByteArray := prog_20_method_5_code
abbrev yn_SU_getChar : MethodName := ⟨"java/lang/StringUTF16", "getChar", "([BI)C"⟩
abbrev yb_SU_coderFromArrayLen : ByteArray := prog_20_method_15_code
abbrev yn_SU_coderFromArrayLen : MethodName := ⟨"java/lang/StringUTF16", "coderFromArrayLen", "([BI)B"⟩
abbrev yb_SB_setLength : ByteArray := prog_18_method_89_code
abbrev yn_SB_setLength : MethodName := ⟨"java/lang/StringBuilder", "setLength", "(I)V"⟩
abbrev yb_AS_setLength : ByteArray := prog_13_method_13_code
abbrev yn_AS_setLength : MethodName := ⟨"java/lang/AbstractStringBuilder", "setLength", "(I)V"⟩
abbrev yb_SL_fillNull : ByteArray := prog_19_method_48_code
abbrev yn_SL_fillNull : MethodName := ⟨"java/lang/StringLatin1", "fillNull", "([BII)V"⟩
abbrev yb_AR_fill : ByteArray := prog_22_method_110_code
abbrev yn_AR_fill : MethodName := ⟨"java/util/Arrays", "fill", "([BIIB)V"⟩
abbrev yb_AR_rangeCheck : ByteArray := prog_22_method_30_code
abbrev yn_AR_rangeCheck : MethodName := ⟨"java/util/Arrays", "rangeCheck", "(III)V"⟩
abbrev yb_SU_fillNull : ByteArray := prog_20_method_70_code
abbrev yn_SU_fillNull : MethodName := ⟨"java/lang/StringUTF16", "fillNull", "([BII)V"⟩
abbrev yb_BS_patternIn : ByteArray := prog_1_method_23_code
abbrev yn_BS_patternIn : MethodName := ⟨"BeanServer", "patternIn", "(Ljava/lang/String;)LBeanServer$Pattern;"⟩
abbrev yb_PT_init : ByteArray := prog_7_method_1_code
abbrev yn_PT_init : MethodName := ⟨"BeanServer$Pattern", "<init>", "(Ljava/lang/String;)V"⟩
abbrev yb_PT_parse : ByteArray := prog_7_method_2_code
abbrev yn_PT_parse : MethodName := ⟨"BeanServer$Pattern", "parse", "()Z"⟩
abbrev yb_PT_rowEnd : ByteArray := prog_7_method_5_code
abbrev yn_PT_rowEnd : MethodName := ⟨"BeanServer$Pattern", "rowEnd", "(I)I"⟩
abbrev yb_ST_length : ByteArray := prog_17_method_54_code
abbrev yn_ST_length : MethodName := ⟨"java/lang/String", "length", "()I"⟩
abbrev yb_ST_coder : ByteArray := prog_17_method_152_code
abbrev yn_ST_coder : MethodName := ⟨"java/lang/String", "coder", "()B"⟩
abbrev yb_ST_charAt : ByteArray := prog_17_method_56_code
abbrev yn_ST_charAt : MethodName := ⟨"java/lang/String", "charAt", "(I)C"⟩
abbrev yb_ST_isLatin1 : ByteArray := prog_17_method_154_code
abbrev yn_ST_isLatin1 : MethodName := ⟨"java/lang/String", "isLatin1", "()Z"⟩
abbrev yb_SL_charAt : ByteArray := prog_19_method_2_code
abbrev yn_SL_charAt : MethodName := ⟨"java/lang/StringLatin1", "charAt", "([BI)C"⟩
abbrev yb_SU_charAt : ByteArray := prog_20_method_83_code
abbrev yn_SU_charAt : MethodName := ⟨"java/lang/StringUTF16", "charAt", "([BI)C"⟩
abbrev yb_PT_isRowCharacter : ByteArray := prog_7_method_6_code
abbrev yn_PT_isRowCharacter : MethodName := ⟨"BeanServer$Pattern", "isRowCharacter", "(C)Z"⟩
abbrev yb_PT_parseList : ByteArray := prog_7_method_7_code
abbrev yn_PT_parseList : MethodName := ⟨"BeanServer$Pattern", "parseList", "(I)Z"⟩
abbrev yb_PT_parseProperty : ByteArray := prog_7_method_8_code
abbrev yn_PT_parseProperty : MethodName := ⟨"BeanServer$Pattern", "parseProperty", "(I)I"⟩
abbrev yb_PT_ordered : ByteArray := prog_7_method_9_code
abbrev yn_PT_ordered : MethodName := ⟨"BeanServer$Pattern", "ordered", "()Ljava/lang/String;"⟩
abbrev yb_PT_copy : ByteArray := prog_7_method_10_code
abbrev yn_PT_copy : MethodName := ⟨"BeanServer$Pattern", "copy", "(IILjava/lang/StringBuilder;)V"⟩
abbrev yb_PT_separate : ByteArray := prog_7_method_11_code
abbrev yn_PT_separate : MethodName := ⟨"BeanServer$Pattern", "separate", "(ILjava/lang/StringBuilder;)V"⟩
abbrev yb_PT_isName : ByteArray := prog_7_method_3_code
abbrev yn_PT_isName : MethodName := ⟨"BeanServer$Pattern", "isName", "()Z"⟩
abbrev yb_ST_indexOf1 : ByteArray := prog_17_method_79_code
abbrev yn_ST_indexOf1 : MethodName := ⟨"java/lang/String", "indexOf", "(I)I"⟩
abbrev yb_ST_indexOf2 : ByteArray := prog_17_method_80_code
abbrev yn_ST_indexOf2 : MethodName := ⟨"java/lang/String", "indexOf", "(II)I"⟩
abbrev yb_SL_indexOf : ByteArray := prog_19_method_22_code
abbrev yn_SL_indexOf : MethodName := ⟨"java/lang/StringLatin1", "indexOf", "([BIII)I"⟩
abbrev yb_SL_canEncode2 : ByteArray := prog_19_method_4_code
abbrev yn_SL_canEncode2 : MethodName := ⟨"java/lang/StringLatin1", "canEncode", "(I)Z"⟩
abbrev yb_SL_indexOfChar : ByteArray := prog_19_method_23_code
abbrev yn_SL_indexOfChar : MethodName := ⟨"java/lang/StringLatin1", "indexOfChar", "([BIII)I"⟩
abbrev yb_SU_indexOf : ByteArray := prog_20_method_40_code
abbrev yn_SU_indexOf : MethodName := ⟨"java/lang/StringUTF16", "indexOf", "([BIII)I"⟩
abbrev yb_SU_indexOfChar : ByteArray := prog_20_method_47_code
abbrev yn_SU_indexOfChar : MethodName := ⟨"java/lang/StringUTF16", "indexOfChar", "([BIII)I"⟩
abbrev yb_SU_checkBoundsBeginEnd : ByteArray := prog_20_method_93_code
abbrev yn_SU_checkBoundsBeginEnd : MethodName := ⟨"java/lang/StringUTF16", "checkBoundsBeginEnd", "(II[B)V"⟩
abbrev yb_ST_checkBoundsBeginEnd : ByteArray := prog_17_method_158_code
abbrev yn_ST_checkBoundsBeginEnd : MethodName := ⟨"java/lang/String", "checkBoundsBeginEnd", "(III)V"⟩
abbrev yb_PR_checkFromToIndex : ByteArray := prog_24_method_12_code
abbrev yn_PR_checkFromToIndex : MethodName := ⟨"jdk/internal/util/Preconditions", "checkFromToIndex", "(IIILjava/util/function/BiFunction;)I"⟩
abbrev yb_SU_indexOfCharUnsafe : ByteArray := prog_20_method_48_code
abbrev yn_SU_indexOfCharUnsafe : MethodName := ⟨"java/lang/StringUTF16", "indexOfCharUnsafe", "([BIII)I"⟩
abbrev yb_SU_indexOfSupplementary : ByteArray := prog_20_method_49_code
abbrev yn_SU_indexOfSupplementary : MethodName := ⟨"java/lang/StringUTF16", "indexOfSupplementary", "([BIII)I"⟩
abbrev yb_CH_isValidCodePoint : ByteArray := prog_14_method_11_code
abbrev yn_CH_isValidCodePoint : MethodName := ⟨"java/lang/Character", "isValidCodePoint", "(I)Z"⟩
abbrev yb_CH_highSurrogate : ByteArray := prog_14_method_28_code
abbrev yn_CH_highSurrogate : MethodName := ⟨"java/lang/Character", "highSurrogate", "(I)C"⟩
abbrev yb_CH_lowSurrogate : ByteArray := prog_14_method_29_code
abbrev yn_CH_lowSurrogate : MethodName := ⟨"java/lang/Character", "lowSurrogate", "(I)C"⟩
abbrev yb_BS_beanNamed : ByteArray := prog_1_method_29_code
abbrev yn_BS_beanNamed : MethodName := ⟨"BeanServer", "beanNamed", "(Ljava/lang/String;)I"⟩
abbrev yb_ST_equals : ByteArray := prog_17_method_66_code
abbrev yn_ST_equals : MethodName := ⟨"java/lang/String", "equals", "(Ljava/lang/Object;)Z"⟩
abbrev yb_SL_equals : ByteArray := prog_19_method_13_code
abbrev yn_SL_equals : MethodName := ⟨"java/lang/StringLatin1", "equals", "([B[B)Z"⟩
abbrev yb_BS_freeBean : ByteArray := prog_1_method_30_code
abbrev yn_BS_freeBean : MethodName := ⟨"BeanServer", "freeBean", "()I"⟩
abbrev yb_BE_init : ByteArray := prog_2_method_1_code
abbrev yn_BE_init : MethodName := ⟨"BeanServer$Bean", "<init>", "(LBeanServer$Pattern;)V"⟩
abbrev yb_LG_give : ByteArray := prog_5_method_2_code
abbrev yn_LG_give : MethodName := ⟨"BeanServer$Log", "give", "(III)V"⟩
abbrev yb_BS_unregister : ByteArray := prog_1_method_4_code
abbrev yn_BS_unregister : MethodName := ⟨"BeanServer", "unregister", "()I"⟩
abbrev yb_BS_find : ByteArray := prog_1_method_5_code
abbrev yn_BS_find : MethodName := ⟨"BeanServer", "find", "()I"⟩
abbrev yb_BS_set : ByteArray := prog_1_method_6_code
abbrev yn_BS_set : MethodName := ⟨"BeanServer", "set", "(III)Z"⟩
abbrev yb_BS_beanAt : ByteArray := prog_1_method_26_code
abbrev yn_BS_beanAt : MethodName := ⟨"BeanServer", "beanAt", "(I)LBeanServer$Bean;"⟩
abbrev yb_BS_isAttribute : ByteArray := prog_1_method_24_code
abbrev yn_BS_isAttribute : MethodName := ⟨"BeanServer", "isAttribute", "(I)Z"⟩
abbrev yb_BS_unset : ByteArray := prog_1_method_7_code
abbrev yn_BS_unset : MethodName := ⟨"BeanServer", "unset", "(II)Z"⟩
abbrev yb_BS_get : ByteArray := prog_1_method_8_code
abbrev yn_BS_get : MethodName := ⟨"BeanServer", "get", "(II)I"⟩
abbrev yb_BS_define : ByteArray := prog_1_method_9_code
abbrev yn_BS_define : MethodName := ⟨"BeanServer", "define", "()I"⟩
abbrev yb_BS_nestings : ByteArray := prog_1_method_25_code
abbrev yn_BS_nestings : MethodName := ⟨"BeanServer", "nestings", "(Ljava/lang/String;)I"⟩
abbrev yb_QR_init : ByteArray := prog_10_method_1_code
abbrev yn_QR_init : MethodName := ⟨"BeanServer$QueryReader", "<init>", "(Ljava/lang/String;LBeanServer$Bean;)V"⟩
abbrev yb_ST_isEmpty : ByteArray := prog_17_method_55_code
abbrev yn_ST_isEmpty : MethodName := ⟨"java/lang/String", "isEmpty", "()Z"⟩
abbrev yb_QR_any : ByteArray := prog_10_method_2_code
abbrev yn_QR_any : MethodName := ⟨"BeanServer$QueryReader", "any", "()I"⟩
abbrev yb_QR_all : ByteArray := prog_10_method_3_code
abbrev yn_QR_all : MethodName := ⟨"BeanServer$QueryReader", "all", "()I"⟩
abbrev yb_QR_one : ByteArray := prog_10_method_4_code
abbrev yn_QR_one : MethodName := ⟨"BeanServer$QueryReader", "one", "()I"⟩
abbrev yb_QR_step : ByteArray := prog_10_method_10_code
abbrev yn_QR_step : MethodName := ⟨"BeanServer$QueryReader", "step", "()V"⟩
abbrev yb_QR_sum : ByteArray := prog_10_method_7_code
abbrev yn_QR_sum : MethodName := ⟨"BeanServer$QueryReader", "sum", "()I"⟩
abbrev yb_QR_product : ByteArray := prog_10_method_8_code
abbrev yn_QR_product : MethodName := ⟨"BeanServer$QueryReader", "product", "()I"⟩
abbrev yb_QR_unit : ByteArray := prog_10_method_9_code
abbrev yn_QR_unit : MethodName := ⟨"BeanServer$QueryReader", "unit", "()I"⟩
abbrev yb_QR_isRelation : ByteArray := prog_10_method_5_code
abbrev yn_QR_isRelation : MethodName := ⟨"BeanServer$QueryReader", "isRelation", "(C)Z"⟩
abbrev yb_QR_compared : ByteArray := prog_10_method_6_code
abbrev yn_QR_compared : MethodName := ⟨"BeanServer$QueryReader", "compared", "(ICI)I"⟩
abbrev yb_QF_init : ByteArray := prog_9_method_1_code
abbrev yn_QF_init : MethodName := ⟨"BeanServer$QueryForm", "<init>", "(Ljava/lang/String;)V"⟩
abbrev yb_QF_written : ByteArray := prog_9_method_2_code
abbrev yn_QF_written : MethodName := ⟨"BeanServer$QueryForm", "written", "()Ljava/lang/String;"⟩
abbrev yb_QF_openParenthesis : ByteArray := prog_9_method_3_code
abbrev yn_QF_openParenthesis : MethodName := ⟨"BeanServer$QueryForm", "openParenthesis", "()V"⟩
abbrev yb_QF_closeParenthesis : ByteArray := prog_9_method_4_code
abbrev yn_QF_closeParenthesis : MethodName := ⟨"BeanServer$QueryForm", "closeParenthesis", "(C)V"⟩
abbrev yb_QF_lastBefore : ByteArray := prog_9_method_7_code
abbrev yn_QF_lastBefore : MethodName := ⟨"BeanServer$QueryForm", "lastBefore", "(I)C"⟩
abbrev yb_SB_charAt : ByteArray := prog_18_method_88_code
abbrev yn_SB_charAt : MethodName := ⟨"java/lang/StringBuilder", "charAt", "(I)C"⟩
abbrev yb_AS_charAt : ByteArray := prog_13_method_14_code
abbrev yn_AS_charAt : MethodName := ⟨"java/lang/AbstractStringBuilder", "charAt", "(I)C"⟩
abbrev yb_QF_jointFrom : ByteArray := prog_9_method_8_code
abbrev yn_QF_jointFrom : MethodName := ⟨"BeanServer$QueryForm", "jointFrom", "(I)C"⟩
abbrev yb_QF_isNeeded : ByteArray := prog_9_method_5_code
abbrev yn_QF_isNeeded : MethodName := ⟨"BeanServer$QueryForm", "isNeeded", "(CCC)Z"⟩
abbrev yb_SB_deleteCharAt : ByteArray := prog_18_method_21_code
abbrev yn_SB_deleteCharAt : MethodName := ⟨"java/lang/StringBuilder", "deleteCharAt", "(I)Ljava/lang/StringBuilder;"⟩
abbrev yb_AS_deleteCharAt : ByteArray := prog_13_method_38_code
abbrev yn_AS_deleteCharAt : MethodName := ⟨"java/lang/AbstractStringBuilder", "deleteCharAt", "(I)Ljava/lang/AbstractStringBuilder;"⟩
abbrev yb_AS_shift : ByteArray := prog_13_method_43_code
abbrev yn_AS_shift : MethodName := ⟨"java/lang/AbstractStringBuilder", "shift", "(II)V"⟩
abbrev yb_QF_isDigit : ByteArray := prog_9_method_6_code
abbrev yn_QF_isDigit : MethodName := ⟨"BeanServer$QueryForm", "isDigit", "(C)Z"⟩
abbrev yb_QU_init : ByteArray := prog_8_method_1_code
abbrev yn_QU_init : MethodName := ⟨"BeanServer$Query", "<init>", "(Ljava/lang/String;)V"⟩
abbrev yb_BS_check : ByteArray := prog_1_method_10_code
abbrev yn_BS_check : MethodName := ⟨"BeanServer", "check", "(II)I"⟩
abbrev yb_BS_queryAt : ByteArray := prog_1_method_27_code
abbrev yn_BS_queryAt : MethodName := ⟨"BeanServer", "queryAt", "(I)LBeanServer$Query;"⟩
abbrev yb_BS_select : ByteArray := prog_1_method_11_code
abbrev yn_BS_select : MethodName := ⟨"BeanServer", "select", "(I)I"⟩
abbrev yb_PT_fits : ByteArray := prog_7_method_4_code
abbrev yn_PT_fits : MethodName := ⟨"BeanServer$Pattern", "fits", "(LBeanServer$Pattern;)Z"⟩
abbrev yb_PT_standsFor : ByteArray := prog_7_method_12_code
abbrev yn_PT_standsFor : MethodName := ⟨"BeanServer$Pattern", "standsFor", "(IILjava/lang/String;II)Z"⟩
abbrev yb_PT_reachedBehind : ByteArray := prog_7_method_13_code
abbrev yn_PT_reachedBehind : MethodName := ⟨"BeanServer$Pattern", "reachedBehind", "(CILjava/lang/String;II)I"⟩
abbrev yb_BS_selected : ByteArray := prog_1_method_12_code
abbrev yn_BS_selected : MethodName := ⟨"BeanServer", "selected", "(I)I"⟩
abbrev yb_BS_form : ByteArray := prog_1_method_13_code
abbrev yn_BS_form : MethodName := ⟨"BeanServer", "form", "(III)I"⟩
abbrev yb_BS_shownForm : ByteArray := prog_1_method_32_code
abbrev yn_BS_shownForm : MethodName := ⟨"BeanServer", "shownForm", "(II)Ljava/lang/String;"⟩
abbrev yb_BS_counter : ByteArray := prog_1_method_14_code
abbrev yn_BS_counter : MethodName := ⟨"BeanServer", "counter", "(IIII)I"⟩
abbrev yb_BS_numberForMonitorOf : ByteArray := prog_1_method_31_code
abbrev yn_BS_numberForMonitorOf : MethodName := ⟨"BeanServer", "numberForMonitorOf", "(I)I"⟩
abbrev yb_CT_init : ByteArray := prog_3_method_1_code
abbrev yn_CT_init : MethodName := ⟨"BeanServer$Counter", "<init>", "(Ljava/lang/String;III)V"⟩
abbrev yb_MN_init : ByteArray := prog_6_method_1_code
abbrev yn_MN_init : MethodName := ⟨"BeanServer$Monitor", "<init>", "(Ljava/lang/String;I)V"⟩
abbrev yb_BS_gauge : ByteArray := prog_1_method_15_code
abbrev yn_BS_gauge : MethodName := ⟨"BeanServer", "gauge", "(IIII)I"⟩
abbrev yb_GA_init : ByteArray := prog_4_method_1_code
abbrev yn_GA_init : MethodName := ⟨"BeanServer$Gauge", "<init>", "(Ljava/lang/String;III)V"⟩
abbrev yb_BS_cancel : ByteArray := prog_1_method_16_code
abbrev yn_BS_cancel : MethodName := ⟨"BeanServer", "cancel", "(I)Z"⟩
abbrev yb_BS_monitorAt : ByteArray := prog_1_method_28_code
abbrev yn_BS_monitorAt : MethodName := ⟨"BeanServer", "monitorAt", "(I)LBeanServer$Monitor;"⟩
abbrev yb_BS_observe : ByteArray := prog_1_method_17_code
abbrev yn_BS_observe : MethodName := ⟨"BeanServer", "observe", "()I"⟩
abbrev yb_BS_letLook : ByteArray := prog_1_method_33_code
abbrev yn_BS_letLook : MethodName := ⟨"BeanServer", "letLook", "(LBeanServer$Monitor;I)V"⟩
abbrev yb_CT_kindFor : ByteArray := prog_3_method_2_code
abbrev yn_CT_kindFor : MethodName := ⟨"BeanServer$Counter", "kindFor", "(I)I"⟩
abbrev yb_CT_firstMarkAbove : ByteArray := prog_3_method_3_code
abbrev yn_CT_firstMarkAbove : MethodName := ⟨"BeanServer$Counter", "firstMarkAbove", "(I)J"⟩
abbrev yb_GA_kindFor : ByteArray := prog_4_method_2_code
abbrev yn_GA_kindFor : MethodName := ⟨"BeanServer$Gauge", "kindFor", "(I)I"⟩
abbrev yb_BS_mark : ByteArray := prog_1_method_18_code
abbrev yn_BS_mark : MethodName := ⟨"BeanServer", "mark", "(I)J"⟩
abbrev yb_CT_level : ByteArray := prog_3_method_4_code
abbrev yn_CT_level : MethodName := ⟨"BeanServer$Counter", "level", "()J"⟩
abbrev yb_GA_level : ByteArray := prog_4_method_3_code
abbrev yn_GA_level : MethodName := ⟨"BeanServer$Gauge", "level", "()J"⟩
abbrev yb_BS_listen : ByteArray := prog_1_method_19_code
abbrev yn_BS_listen : MethodName := ⟨"BeanServer", "listen", "(I)I"⟩
abbrev yb_BS_notice : ByteArray := prog_1_method_20_code
abbrev yn_BS_notice : MethodName := ⟨"BeanServer", "notice", "(II)I"⟩
abbrev yb_LG_told : ByteArray := prog_5_method_3_code
abbrev yn_LG_told : MethodName := ⟨"BeanServer$Log", "told", "(II)I"⟩
abbrev yb_MA_floorMod : ByteArray := prog_16_method_50_code
abbrev yn_MA_floorMod : MethodName := ⟨"java/lang/Math", "floorMod", "(II)I"⟩
abbrev yb_MO_init : ByteArray := prog_12_method_1_code
abbrev yn_MO_init : MethodName := ⟨"BeanServerModel", "<init>", "()V"⟩
abbrev yb_MO_write : ByteArray := prog_12_method_7_code
abbrev yn_MO_write : MethodName := ⟨"BeanServerModel", "write", "(C)Z"⟩
abbrev yb_MO_put : ByteArray := prog_12_method_3_code
abbrev yn_MO_put : MethodName := ⟨"BeanServerModel", "put", "(IC)V"⟩
abbrev yb_MO_register : ByteArray := prog_12_method_24_code
abbrev yn_MO_register : MethodName := ⟨"BeanServerModel", "register", "()I"⟩
abbrev yb_MO_takeName : ByteArray := prog_12_method_16_code
abbrev yn_MO_takeName : MethodName := ⟨"BeanServerModel", "takeName", "()Z"⟩
abbrev yb_MO_take : ByteArray := prog_12_method_6_code
abbrev yn_MO_take : MethodName := ⟨"BeanServerModel", "take", "()V"⟩
abbrev yb_MO_copy : ByteArray := prog_12_method_4_code
abbrev yn_MO_copy : MethodName := ⟨"BeanServerModel", "copy", "(II)V"⟩
abbrev yb_MO_get1 : ByteArray := prog_12_method_2_code
abbrev yn_MO_get1 : MethodName := ⟨"BeanServerModel", "get1", "(II)C"⟩
abbrev yb_MO_reads : ByteArray := prog_12_method_13_code
abbrev yn_MO_reads : MethodName := ⟨"BeanServerModel", "reads", "(IZ)Z"⟩
abbrev yb_MO_colon : ByteArray := prog_12_method_12_code
abbrev yn_MO_colon : MethodName := ⟨"BeanServerModel", "colon", "(I)I"⟩
abbrev yb_MO_allowed : ByteArray := prog_12_method_10_code
abbrev yn_MO_allowed : MethodName := ⟨"BeanServerModel", "allowed", "(CZ)Z"⟩
abbrev yb_MO_isSmall : ByteArray := prog_12_method_8_code
abbrev yn_MO_isSmall : MethodName := ⟨"BeanServerModel", "isSmall", "(C)Z"⟩
abbrev yb_MO_isDigit : ByteArray := prog_12_method_9_code
abbrev yn_MO_isDigit : MethodName := ⟨"BeanServerModel", "isDigit", "(C)Z"⟩
abbrev yb_MO_list : ByteArray := prog_12_method_11_code
abbrev yn_MO_list : MethodName := ⟨"BeanServerModel", "list", "(IIZ)Z"⟩
abbrev yb_MO_order : ByteArray := prog_12_method_15_code
abbrev yn_MO_order : MethodName := ⟨"BeanServerModel", "order", "()V"⟩
abbrev yb_MO_copyProperty : ByteArray := prog_12_method_14_code
abbrev yn_MO_copyProperty : MethodName := ⟨"BeanServerModel", "copyProperty", "(III)V"⟩
abbrev yb_MO_beanWith : ByteArray := prog_12_method_17_code
abbrev yn_MO_beanWith : MethodName := ⟨"BeanServerModel", "beanWith", "(I)I"⟩
abbrev yb_MO_same : ByteArray := prog_12_method_5_code
abbrev yn_MO_same : MethodName := ⟨"BeanServerModel", "same", "(II)Z"⟩
abbrev yb_MO_give : ByteArray := prog_12_method_23_code
abbrev yn_MO_give : MethodName := ⟨"BeanServerModel", "give", "(III)V"⟩
abbrev yb_MO_unregister : ByteArray := prog_12_method_25_code
abbrev yn_MO_unregister : MethodName := ⟨"BeanServerModel", "unregister", "()I"⟩
abbrev yb_MO_find : ByteArray := prog_12_method_26_code
abbrev yn_MO_find : MethodName := ⟨"BeanServerModel", "find", "()I"⟩
abbrev yb_MO_set : ByteArray := prog_12_method_29_code
abbrev yn_MO_set : MethodName := ⟨"BeanServerModel", "set", "(III)Z"⟩
abbrev yb_MO_isSlot : ByteArray := prog_12_method_28_code
abbrev yn_MO_isSlot : MethodName := ⟨"BeanServerModel", "isSlot", "(II)Z"⟩
abbrev yb_MO_isBean : ByteArray := prog_12_method_27_code
abbrev yn_MO_isBean : MethodName := ⟨"BeanServerModel", "isBean", "(I)Z"⟩
abbrev yb_MO_unset : ByteArray := prog_12_method_30_code
abbrev yn_MO_unset : MethodName := ⟨"BeanServerModel", "unset", "(II)Z"⟩
abbrev yb_MO_get : ByteArray := prog_12_method_31_code
abbrev yn_MO_get : MethodName := ⟨"BeanServerModel", "get", "(II)I"⟩
abbrev yb_MO_define : ByteArray := prog_12_method_44_code
abbrev yn_MO_define : MethodName := ⟨"BeanServerModel", "define", "()I"⟩
abbrev yb_MO_isQuery : ByteArray := prog_12_method_37_code
abbrev yn_MO_isQuery : MethodName := ⟨"BeanServerModel", "isQuery", "()Z"⟩
abbrev yb_MO_comparisonEnd : ByteArray := prog_12_method_36_code
abbrev yn_MO_comparisonEnd : MethodName := ⟨"BeanServerModel", "comparisonEnd", "(I)I"⟩
abbrev yb_MO_valueEnd : ByteArray := prog_12_method_35_code
abbrev yn_MO_valueEnd : MethodName := ⟨"BeanServerModel", "valueEnd", "(I)I"⟩
abbrev yb_MO_unit : ByteArray := prog_12_method_32_code
abbrev yn_MO_unit : MethodName := ⟨"BeanServerModel", "unit", "(I)I"⟩
abbrev yb_MO_isOperator : ByteArray := prog_12_method_33_code
abbrev yn_MO_isOperator : MethodName := ⟨"BeanServerModel", "isOperator", "(C)Z"⟩
abbrev yb_MO_isRelation : ByteArray := prog_12_method_34_code
abbrev yn_MO_isRelation : MethodName := ⟨"BeanServerModel", "isRelation", "(C)Z"⟩
abbrev yb_MO_shorten : ByteArray := prog_12_method_42_code
abbrev yn_MO_shorten : MethodName := ⟨"BeanServerModel", "shorten", "()V"⟩
abbrev yb_MO_last : ByteArray := prog_12_method_43_code
abbrev yn_MO_last : MethodName := ⟨"BeanServerModel", "last", "()C"⟩
abbrev yb_MO_needed : ByteArray := prog_12_method_41_code
abbrev yn_MO_needed : MethodName := ⟨"BeanServerModel", "needed", "(I)Z"⟩
abbrev yb_MO_partner : ByteArray := prog_12_method_38_code
abbrev yn_MO_partner : MethodName := ⟨"BeanServerModel", "partner", "(I)I"⟩
abbrev yb_MO_contains : ByteArray := prog_12_method_39_code
abbrev yn_MO_contains : MethodName := ⟨"BeanServerModel", "contains", "(IIC)Z"⟩
abbrev yb_MO_amongSeveral : ByteArray := prog_12_method_40_code
abbrev yn_MO_amongSeveral : MethodName := ⟨"BeanServerModel", "amongSeveral", "(II)Z"⟩
abbrev yb_MO_check : ByteArray := prog_12_method_53_code
abbrev yn_MO_check : MethodName := ⟨"BeanServerModel", "check", "(II)I"⟩
abbrev yb_MO_isAsked : ByteArray := prog_12_method_52_code
abbrev yn_MO_isAsked : MethodName := ⟨"BeanServerModel", "isAsked", "(I)Z"⟩
abbrev yb_MO_truth : ByteArray := prog_12_method_51_code
abbrev yn_MO_truth : MethodName := ⟨"BeanServerModel", "truth", "(II)I"⟩
abbrev yb_MO_enter : ByteArray := prog_12_method_48_code
abbrev yn_MO_enter : MethodName := ⟨"BeanServerModel", "enter", "(IZ)V"⟩
abbrev yb_MO_looked : ByteArray := prog_12_method_50_code
abbrev yn_MO_looked : MethodName := ⟨"BeanServerModel", "looked", "(I)Z"⟩
abbrev yb_MO_settle : ByteArray := prog_12_method_49_code
abbrev yn_MO_settle : MethodName := ⟨"BeanServerModel", "settle", "(IZ)V"⟩
abbrev yb_MO_comparison : ByteArray := prog_12_method_47_code
abbrev yn_MO_comparison : MethodName := ⟨"BeanServerModel", "comparison", "(II)Z"⟩
abbrev yb_MO_value : ByteArray := prog_12_method_46_code
abbrev yn_MO_value : MethodName := ⟨"BeanServerModel", "value", "(II)I"⟩
abbrev yb_MO_unitValue : ByteArray := prog_12_method_45_code
abbrev yn_MO_unitValue : MethodName := ⟨"BeanServerModel", "unitValue", "(II)I"⟩
abbrev yb_MO_select : ByteArray := prog_12_method_54_code
abbrev yn_MO_select : MethodName := ⟨"BeanServerModel", "select", "(I)I"⟩
abbrev yb_MO_fits : ByteArray := prog_12_method_22_code
abbrev yn_MO_fits : MethodName := ⟨"BeanServerModel", "fits", "(I)Z"⟩
abbrev yb_MO_matches : ByteArray := prog_12_method_18_code
abbrev yn_MO_matches : MethodName := ⟨"BeanServerModel", "matches", "(IIII)Z"⟩
abbrev yb_MO_isPart : ByteArray := prog_12_method_19_code
abbrev yn_MO_isPart : MethodName := ⟨"BeanServerModel", "isPart", "(C)Z"⟩
abbrev yb_MO_spread : ByteArray := prog_12_method_20_code
abbrev yn_MO_spread : MethodName := ⟨"BeanServerModel", "spread", "(IIII)I"⟩
abbrev yb_MO_property : ByteArray := prog_12_method_21_code
abbrev yn_MO_property : MethodName := ⟨"BeanServerModel", "property", "(II)I"⟩
abbrev yb_MO_selected : ByteArray := prog_12_method_55_code
abbrev yn_MO_selected : MethodName := ⟨"BeanServerModel", "selected", "(I)I"⟩
abbrev yb_MO_form : ByteArray := prog_12_method_56_code
abbrev yn_MO_form : MethodName := ⟨"BeanServerModel", "form", "(III)I"⟩
abbrev yb_MO_counter : ByteArray := prog_12_method_58_code
abbrev yn_MO_counter : MethodName := ⟨"BeanServerModel", "counter", "(IIII)I"⟩
abbrev yb_MO_watch : ByteArray := prog_12_method_57_code
abbrev yn_MO_watch : MethodName := ⟨"BeanServerModel", "watch", "(IIIII)I"⟩
abbrev yb_MO_gauge : ByteArray := prog_12_method_59_code
abbrev yn_MO_gauge : MethodName := ⟨"BeanServerModel", "gauge", "(IIII)I"⟩
abbrev yb_MO_cancel : ByteArray := prog_12_method_61_code
abbrev yn_MO_cancel : MethodName := ⟨"BeanServerModel", "cancel", "(I)Z"⟩
abbrev yb_MO_isMonitor : ByteArray := prog_12_method_60_code
abbrev yn_MO_isMonitor : MethodName := ⟨"BeanServerModel", "isMonitor", "(I)Z"⟩
abbrev yb_MO_observe : ByteArray := prog_12_method_65_code
abbrev yn_MO_observe : MethodName := ⟨"BeanServerModel", "observe", "()I"⟩
abbrev yb_MO_observe1 : ByteArray := prog_12_method_64_code
abbrev yn_MO_observe1 : MethodName := ⟨"BeanServerModel", "observe1", "(I)V"⟩
abbrev yb_MO_count : ByteArray := prog_12_method_62_code
abbrev yn_MO_count : MethodName := ⟨"BeanServerModel", "count", "(II)V"⟩
abbrev yb_MO_gaugeOf : ByteArray := prog_12_method_63_code
abbrev yn_MO_gaugeOf : MethodName := ⟨"BeanServerModel", "gaugeOf", "(II)V"⟩
abbrev yb_MO_mark : ByteArray := prog_12_method_66_code
abbrev yn_MO_mark : MethodName := ⟨"BeanServerModel", "mark", "(I)J"⟩
abbrev yb_MO_listen : ByteArray := prog_12_method_67_code
abbrev yn_MO_listen : MethodName := ⟨"BeanServerModel", "listen", "(I)I"⟩
abbrev yb_MO_notice : ByteArray := prog_12_method_68_code
abbrev yn_MO_notice : MethodName := ⟨"BeanServerModel", "notice", "(II)I"⟩
theorem jj_mem1 {w : Cond} (h : w ∈ tables_1_1) (hg : goodWord w = true) : w ∈ jj_gw := jj_mem (by unfold tables_1; exact List.mem_append_left _ h) hg
theorem jj_mem2 {w : Cond} (h : w ∈ tables_1_2) (hg : goodWord w = true) : w ∈ jj_gw := jj_mem (by unfold tables_1; exact List.mem_append_right _ (List.mem_append_left _ h)) hg
theorem jj_mem3 {w : Cond} (h : w ∈ tables_1_3) (hg : goodWord w = true) : w ∈ jj_gw := jj_mem (by unfold tables_1; exact List.mem_append_right _ (List.mem_append_right _ (List.mem_append_left _ h))) hg
theorem jj_mem4 {w : Cond} (h : w ∈ tables_1_4) (hg : goodWord w = true) : w ∈ jj_gw := jj_mem (by unfold tables_1; exact List.mem_append_right _ (List.mem_append_right _ (List.mem_append_right _ (List.mem_append_left _ h)))) hg
theorem jj_mem5 {w : Cond} (h : w ∈ tables_1_5) (hg : goodWord w = true) : w ∈ jj_gw := jj_mem (by unfold tables_1; exact List.mem_append_right _ (List.mem_append_right _ (List.mem_append_right _ (List.mem_append_right _ (List.mem_append_left _ h))))) hg
theorem jj_mem6 {w : Cond} (h : w ∈ tables_1_6) (hg : goodWord w = true) : w ∈ jj_gw := jj_mem (by unfold tables_1; exact List.mem_append_right _ (List.mem_append_right _ (List.mem_append_right _ (List.mem_append_right _ (List.mem_append_right _ (h)))))) hg
theorem wd_0 : Cond.initialized "BeanServerLaw" ∈ jj_gw := jj_mem1 (List.mem_of_getElem? (i := 0) (by decide +kernel)) (by decide +kernel)
theorem wd_1 : Cond.initialized "BeanServer" ∈ jj_gw := jj_mem1 (List.mem_of_getElem? (i := 1) (by decide +kernel)) (by decide +kernel)
theorem wd_2 : Cond.initialized "java/lang/AbstractStringBuilder" ∈ jj_gw := jj_mem1 (List.mem_of_getElem? (i := 2) (by decide +kernel)) (by decide +kernel)
theorem wd_3 : Cond.initialized "java/lang/StringBuilder" ∈ jj_gw := jj_mem1 (List.mem_of_getElem? (i := 3) (by decide +kernel)) (by decide +kernel)
theorem wd_4 : Cond.initialized "java/lang/String" ∈ jj_gw := jj_mem1 (List.mem_of_getElem? (i := 4) (by decide +kernel)) (by decide +kernel)
theorem wd_5 : Cond.initialized "java/lang/StringUTF16" ∈ jj_gw := jj_mem1 (List.mem_of_getElem? (i := 5) (by decide +kernel)) (by decide +kernel)
theorem wd_6 : Cond.initialized "BeanServer$Log" ∈ jj_gw := jj_mem1 (List.mem_of_getElem? (i := 6) (by decide +kernel)) (by decide +kernel)
theorem wd_7 : Cond.initialized "BeanServerModel" ∈ jj_gw := jj_mem1 (List.mem_of_getElem? (i := 7) (by decide +kernel)) (by decide +kernel)
theorem wd_8 : Cond.initialized "jdk/internal/util/ArraysSupport" ∈ jj_gw := jj_mem1 (List.mem_of_getElem? (i := 8) (by decide +kernel)) (by decide +kernel)
theorem wd_9 : Cond.initialized "java/lang/Math" ∈ jj_gw := jj_mem1 (List.mem_of_getElem? (i := 9) (by decide +kernel)) (by decide +kernel)
theorem wd_10 : Cond.initialized "java/util/Arrays" ∈ jj_gw := jj_mem1 (List.mem_of_getElem? (i := 10) (by decide +kernel)) (by decide +kernel)
theorem wd_11 : Cond.initialized "java/lang/System" ∈ jj_gw := jj_mem1 (List.mem_of_getElem? (i := 11) (by decide +kernel)) (by decide +kernel)
theorem wd_12 : Cond.initialized "java/lang/StringLatin1" ∈ jj_gw := jj_mem1 (List.mem_of_getElem? (i := 12) (by decide +kernel)) (by decide +kernel)
theorem wd_13 : Cond.initialized "jdk/internal/util/Preconditions" ∈ jj_gw := jj_mem1 (List.mem_of_getElem? (i := 13) (by decide +kernel)) (by decide +kernel)
theorem wd_14 : Cond.initialized "BeanServer$Pattern" ∈ jj_gw := jj_mem1 (List.mem_of_getElem? (i := 14) (by decide +kernel)) (by decide +kernel)
theorem wd_15 : Cond.initialized "java/lang/Character" ∈ jj_gw := jj_mem1 (List.mem_of_getElem? (i := 15) (by decide +kernel)) (by decide +kernel)
theorem wd_16 : Cond.initialized "BeanServer$Bean" ∈ jj_gw := jj_mem1 (List.mem_of_getElem? (i := 16) (by decide +kernel)) (by decide +kernel)
theorem wd_17 : Cond.initialized "BeanServer$QueryReader" ∈ jj_gw := jj_mem1 (List.mem_of_getElem? (i := 17) (by decide +kernel)) (by decide +kernel)
theorem wd_18 : Cond.initialized "BeanServer$Query" ∈ jj_gw := jj_mem1 (List.mem_of_getElem? (i := 18) (by decide +kernel)) (by decide +kernel)
theorem wd_19 : Cond.initialized "BeanServer$QueryForm" ∈ jj_gw := jj_mem1 (List.mem_of_getElem? (i := 19) (by decide +kernel)) (by decide +kernel)
theorem wd_20 : Cond.initialized "BeanServer$Monitor" ∈ jj_gw := jj_mem1 (List.mem_of_getElem? (i := 20) (by decide +kernel)) (by decide +kernel)
theorem wd_21 : Cond.initialized "BeanServer$Counter" ∈ jj_gw := jj_mem1 (List.mem_of_getElem? (i := 21) (by decide +kernel)) (by decide +kernel)
theorem wd_22 : Cond.initialized "BeanServer$Gauge" ∈ jj_gw := jj_mem1 (List.mem_of_getElem? (i := 22) (by decide +kernel)) (by decide +kernel)
theorem wd_23 : Cond.classLink "BeanServerLaw" (7 : Nat) "BeanServer" ∈ jj_gw := jj_mem1 (List.mem_of_getElem? (i := 23) (by decide +kernel)) (by decide +kernel)
theorem wd_24 : Cond.instantiable "BeanServer" (9 : Nat) ∈ jj_gw := jj_mem1 (List.mem_of_getElem? (i := 24) (by decide +kernel)) (by decide +kernel)
theorem wd_25 : Cond.methodLink "BeanServerLaw" (9 : Nat) (⟨"BeanServer", "<init>", "()V"⟩ : MethodName) ∈ jj_gw := jj_mem1 (List.mem_of_getElem? (i := 25) (by decide +kernel)) (by decide +kernel)
theorem wd_26 : Cond.instanceMethod (⟨"BeanServer", "<init>", "()V"⟩ : MethodName) ∈ jj_gw := jj_mem1 (List.mem_of_getElem? (i := 26) (by decide +kernel)) (by decide +kernel)
theorem wd_27 : Cond.code (⟨"BeanServer", "<init>", "()V"⟩ : MethodName) prog_1_method_1_code (1 : Nat) (Option.none : Option FieldType) ∈ jj_gw := jj_mem1 (List.mem_of_getElem? (i := 27) (by decide +kernel)) (by decide +kernel)
theorem wd_28 : Cond.methodLink "BeanServer" (1 : Nat) (⟨"java/lang/Object", "<init>", "()V"⟩ : MethodName) ∈ jj_gw := jj_mem1 (List.mem_of_getElem? (i := 28) (by decide +kernel)) (by decide +kernel)
theorem wd_29 : Cond.instanceMethod (⟨"java/lang/Object", "<init>", "()V"⟩ : MethodName) ∈ jj_gw := jj_mem1 (List.mem_of_getElem? (i := 29) (by decide +kernel)) (by decide +kernel)
theorem wd_30 : Cond.code (⟨"java/lang/Object", "<init>", "()V"⟩ : MethodName) object_method_1_code (1 : Nat) (Option.none : Option FieldType) ∈ jj_gw := jj_mem1 (List.mem_of_getElem? (i := 30) (by decide +kernel)) (by decide +kernel)
theorem wd_31 : Cond.classLink "BeanServer" (7 : Nat) "java/lang/StringBuilder" ∈ jj_gw := jj_mem1 (List.mem_of_getElem? (i := 31) (by decide +kernel)) (by decide +kernel)
theorem wd_32 : Cond.instantiable "java/lang/StringBuilder" (4 : Nat) ∈ jj_gw := jj_mem1 (List.mem_of_getElem? (i := 32) (by decide +kernel)) (by decide +kernel)
theorem wd_33 : Cond.methodLink "BeanServer" (9 : Nat) (⟨"java/lang/StringBuilder", "<init>", "()V"⟩ : MethodName) ∈ jj_gw := jj_mem1 (List.mem_of_getElem? (i := 33) (by decide +kernel)) (by decide +kernel)
theorem wd_34 : Cond.instanceMethod (⟨"java/lang/StringBuilder", "<init>", "()V"⟩ : MethodName) ∈ jj_gw := jj_mem1 (List.mem_of_getElem? (i := 34) (by decide +kernel)) (by decide +kernel)
theorem wd_35 : Cond.code (⟨"java/lang/StringBuilder", "<init>", "()V"⟩ : MethodName) prog_18_method_1_code (1 : Nat) (Option.none : Option FieldType) ∈ jj_gw := jj_mem1 (List.mem_of_getElem? (i := 35) (by decide +kernel)) (by decide +kernel)
theorem wd_36 : Cond.methodLink "java/lang/StringBuilder" (1 : Nat) (⟨"java/lang/AbstractStringBuilder", "<init>", "(I)V"⟩ : MethodName) ∈ jj_gw := jj_mem1 (List.mem_of_getElem? (i := 36) (by decide +kernel)) (by decide +kernel)
theorem wd_37 : Cond.instanceMethod (⟨"java/lang/AbstractStringBuilder", "<init>", "(I)V"⟩ : MethodName) ∈ jj_gw := jj_mem1 (List.mem_of_getElem? (i := 37) (by decide +kernel)) (by decide +kernel)
theorem wd_38 : Cond.code (⟨"java/lang/AbstractStringBuilder", "<init>", "(I)V"⟩ : MethodName) prog_13_method_2_code (2 : Nat) (Option.none : Option FieldType) ∈ jj_gw := jj_mem1 (List.mem_of_getElem? (i := 38) (by decide +kernel)) (by decide +kernel)
theorem wd_39 : Cond.methodLink "java/lang/AbstractStringBuilder" (3 : Nat) (⟨"java/lang/Object", "<init>", "()V"⟩ : MethodName) ∈ jj_gw := jj_mem1 (List.mem_of_getElem? (i := 39) (by decide +kernel)) (by decide +kernel)
theorem wd_40 : Cond.fieldLink "java/lang/AbstractStringBuilder" (18 : Nat) "java/lang/String" "COMPACT_STRINGS" "Z" ∈ jj_gw := jj_mem1 (List.mem_of_getElem? (i := 40) (by decide +kernel)) (by decide +kernel)
theorem wd_42 : Cond.methodLink "java/lang/AbstractStringBuilder" (26 : Nat) (⟨"java/lang/StringUTF16", "newBytesFor", "(I)[B"⟩ : MethodName) ∈ jj_gw := jj_mem1 (List.mem_of_getElem? (i := 42) (by decide +kernel)) (by decide +kernel)
theorem wd_43 : Cond.static (⟨"java/lang/StringUTF16", "newBytesFor", "(I)[B"⟩ : MethodName) ∈ jj_gw := jj_mem1 (List.mem_of_getElem? (i := 43) (by decide +kernel)) (by decide +kernel)
theorem wd_44 : Cond.code (⟨"java/lang/StringUTF16", "newBytesFor", "(I)[B"⟩ : MethodName) prog_20_method_2_code (1 : Nat) (Option.some (FieldType.array FieldType.byte)) ∈ jj_gw := jj_mem1 (List.mem_of_getElem? (i := 44) (by decide +kernel)) (by decide +kernel)
theorem wd_45 : Cond.methodLink "java/lang/StringUTF16" (11 : Nat) (⟨"java/lang/StringUTF16", "newBytesLength", "(I)I"⟩ : MethodName) ∈ jj_gw := jj_mem1 (List.mem_of_getElem? (i := 45) (by decide +kernel)) (by decide +kernel)
theorem wd_46 : Cond.static (⟨"java/lang/StringUTF16", "newBytesLength", "(I)I"⟩ : MethodName) ∈ jj_gw := jj_mem1 (List.mem_of_getElem? (i := 46) (by decide +kernel)) (by decide +kernel)
theorem wd_47 : Cond.code (⟨"java/lang/StringUTF16", "newBytesLength", "(I)I"⟩ : MethodName) prog_20_method_3_code (1 : Nat) (Option.some FieldType.int) ∈ jj_gw := jj_mem1 (List.mem_of_getElem? (i := 47) (by decide +kernel)) (by decide +kernel)
theorem wd_48 : Cond.constant "java/lang/StringUTF16" (20 : Nat) (1073741823 : Int32) ∈ jj_gw := jj_mem1 (List.mem_of_getElem? (i := 48) (by decide +kernel)) (by decide +kernel)
theorem wd_49 : Cond.fieldLink "java/lang/AbstractStringBuilder" (15 : Nat) "java/lang/AbstractStringBuilder" "value" "[B" ∈ jj_gw := jj_mem1 (List.mem_of_getElem? (i := 49) (by decide +kernel)) (by decide +kernel)
theorem wd_50 : Cond.fieldLink "java/lang/AbstractStringBuilder" (22 : Nat) "java/lang/AbstractStringBuilder" "coder" "B" ∈ jj_gw := jj_mem1 (List.mem_of_getElem? (i := 50) (by decide +kernel)) (by decide +kernel)
theorem wd_51 : Cond.fieldLink "java/lang/AbstractStringBuilder" (73 : Nat) "java/lang/AbstractStringBuilder" "maybeLatin1" "Z" ∈ jj_gw := jj_mem1 (List.mem_of_getElem? (i := 51) (by decide +kernel)) (by decide +kernel)
theorem wd_52 : Cond.fieldLink "java/lang/String" (1048 : Nat) "java/lang/AbstractStringBuilder" "maybeLatin1" "Z" ∈ jj_gw := jj_mem1 (List.mem_of_getElem? (i := 52) (by decide +kernel)) (by decide +kernel)
theorem wd_53 : Cond.fieldLink "java/lang/AbstractStringBuilder" (79 : Nat) "java/lang/AbstractStringBuilder" "count" "I" ∈ jj_gw := jj_mem1 (List.mem_of_getElem? (i := 53) (by decide +kernel)) (by decide +kernel)
theorem wd_54 : Cond.lays "java/lang/StringBuilder" "java/lang/AbstractStringBuilder" "value" "[B" ∈ jj_gw := jj_mem1 (List.mem_of_getElem? (i := 54) (by decide +kernel)) (by decide +kernel)
theorem wd_56 : Cond.lays "java/lang/StringBuilder" "java/lang/AbstractStringBuilder" "coder" "B" ∈ jj_gw := jj_mem1 (List.mem_of_getElem? (i := 56) (by decide +kernel)) (by decide +kernel)
theorem wd_58 : Cond.lays "java/lang/StringBuilder" "java/lang/AbstractStringBuilder" "maybeLatin1" "Z" ∈ jj_gw := jj_mem1 (List.mem_of_getElem? (i := 58) (by decide +kernel)) (by decide +kernel)
theorem wd_60 : Cond.lays "java/lang/StringBuilder" "java/lang/AbstractStringBuilder" "count" "I" ∈ jj_gw := jj_mem1 (List.mem_of_getElem? (i := 60) (by decide +kernel)) (by decide +kernel)
theorem wd_62 : Cond.superclass "java/lang/StringBuilder" "java/lang/AbstractStringBuilder" ∈ jj_gw := jj_mem1 (List.mem_of_getElem? (i := 62) (by decide +kernel)) (by decide +kernel)
theorem wd_63 : Cond.arrayClass FieldType.byte ∈ jj_gw := jj_mem1 (List.mem_of_getElem? (i := 63) (by decide +kernel)) (by decide +kernel)
theorem wd_64 : Cond.classLink "BeanServer" (16 : Nat) "BeanServer$Bean" ∈ jj_gw := jj_mem1 (List.mem_of_getElem? (i := 64) (by decide +kernel)) (by decide +kernel)
theorem wd_66 : Cond.classLink "BeanServer" (22 : Nat) "BeanServer$Query" ∈ jj_gw := jj_mem1 (List.mem_of_getElem? (i := 66) (by decide +kernel)) (by decide +kernel)
theorem wd_68 : Cond.classLink "BeanServer" (32 : Nat) "BeanServer$Monitor" ∈ jj_gw := jj_mem1 (List.mem_of_getElem? (i := 68) (by decide +kernel)) (by decide +kernel)
theorem wd_70 : Cond.classLink "BeanServer" (38 : Nat) "BeanServer$Log" ∈ jj_gw := jj_mem1 (List.mem_of_getElem? (i := 70) (by decide +kernel)) (by decide +kernel)
theorem wd_71 : Cond.instantiable "BeanServer$Log" (8 : Nat) ∈ jj_gw := jj_mem1 (List.mem_of_getElem? (i := 71) (by decide +kernel)) (by decide +kernel)
theorem wd_73 : Cond.instanceMethod (⟨"BeanServer$Log", "<init>", "()V"⟩ : MethodName) ∈ jj_gw := jj_mem1 (List.mem_of_getElem? (i := 73) (by decide +kernel)) (by decide +kernel)
theorem wd_74 : Cond.code (⟨"BeanServer$Log", "<init>", "()V"⟩ : MethodName) prog_5_method_1_code (1 : Nat) (Option.none : Option FieldType) ∈ jj_gw := jj_mem1 (List.mem_of_getElem? (i := 74) (by decide +kernel)) (by decide +kernel)
theorem wd_75 : Cond.methodLink "BeanServer$Log" (3 : Nat) (⟨"java/lang/Object", "<init>", "()V"⟩ : MethodName) ∈ jj_gw := jj_mem1 (List.mem_of_getElem? (i := 75) (by decide +kernel)) (by decide +kernel)
theorem wd_76 : Cond.fieldLink "BeanServer$Log" (9 : Nat) "BeanServer$Log" "numbers" "[I" ∈ jj_gw := jj_mem1 (List.mem_of_getElem? (i := 76) (by decide +kernel)) (by decide +kernel)
theorem wd_77 : Cond.fieldLink "BeanServer$Log" (15 : Nat) "BeanServer$Log" "kinds" "[I" ∈ jj_gw := jj_mem1 (List.mem_of_getElem? (i := 77) (by decide +kernel)) (by decide +kernel)
theorem wd_78 : Cond.fieldLink "BeanServer$Log" (18 : Nat) "BeanServer$Log" "sources" "[I" ∈ jj_gw := jj_mem1 (List.mem_of_getElem? (i := 78) (by decide +kernel)) (by decide +kernel)
theorem wd_79 : Cond.fieldLink "BeanServer$Log" (21 : Nat) "BeanServer$Log" "values" "[I" ∈ jj_gw := jj_mem1 (List.mem_of_getElem? (i := 79) (by decide +kernel)) (by decide +kernel)
theorem wd_80 : Cond.fieldLink "BeanServer$Log" (24 : Nat) "BeanServer$Log" "size" "I" ∈ jj_gw := jj_mem1 (List.mem_of_getElem? (i := 80) (by decide +kernel)) (by decide +kernel)
theorem wd_81 : Cond.fieldLink "BeanServer$Log" (28 : Nat) "BeanServer$Log" "next" "I" ∈ jj_gw := jj_mem1 (List.mem_of_getElem? (i := 81) (by decide +kernel)) (by decide +kernel)
theorem wd_82 : Cond.fieldLink "BeanServer$Log" (31 : Nat) "BeanServer$Log" "given" "I" ∈ jj_gw := jj_mem1 (List.mem_of_getElem? (i := 82) (by decide +kernel)) (by decide +kernel)
theorem wd_83 : Cond.fieldLink "BeanServer" (183 : Nat) "BeanServer$Log" "given" "I" ∈ jj_gw := jj_mem1 (List.mem_of_getElem? (i := 83) (by decide +kernel)) (by decide +kernel)
theorem wd_84 : Cond.fieldLink "BeanServer$Log" (34 : Nat) "BeanServer$Log" "listened" "I" ∈ jj_gw := jj_mem1 (List.mem_of_getElem? (i := 84) (by decide +kernel)) (by decide +kernel)
theorem wd_85 : Cond.fieldLink "BeanServer" (194 : Nat) "BeanServer$Log" "listened" "I" ∈ jj_gw := jj_mem1 (List.mem_of_getElem? (i := 85) (by decide +kernel)) (by decide +kernel)
theorem wd_86 : Cond.laysFinal "BeanServer$Log" "BeanServer$Log" "numbers" "[I" ∈ jj_gw := jj_mem1 (List.mem_of_getElem? (i := 86) (by decide +kernel)) (by decide +kernel)
theorem wd_88 : Cond.laysFinal "BeanServer$Log" "BeanServer$Log" "kinds" "[I" ∈ jj_gw := jj_mem1 (List.mem_of_getElem? (i := 88) (by decide +kernel)) (by decide +kernel)
theorem wd_90 : Cond.laysFinal "BeanServer$Log" "BeanServer$Log" "sources" "[I" ∈ jj_gw := jj_mem1 (List.mem_of_getElem? (i := 90) (by decide +kernel)) (by decide +kernel)
theorem wd_92 : Cond.laysFinal "BeanServer$Log" "BeanServer$Log" "values" "[I" ∈ jj_gw := jj_mem1 (List.mem_of_getElem? (i := 92) (by decide +kernel)) (by decide +kernel)
theorem wd_94 : Cond.lays "BeanServer$Log" "BeanServer$Log" "size" "I" ∈ jj_gw := jj_mem1 (List.mem_of_getElem? (i := 94) (by decide +kernel)) (by decide +kernel)
theorem wd_96 : Cond.lays "BeanServer$Log" "BeanServer$Log" "next" "I" ∈ jj_gw := jj_mem1 (List.mem_of_getElem? (i := 96) (by decide +kernel)) (by decide +kernel)
theorem wd_98 : Cond.lays "BeanServer$Log" "BeanServer$Log" "given" "I" ∈ jj_gw := jj_mem1 (List.mem_of_getElem? (i := 98) (by decide +kernel)) (by decide +kernel)
theorem wd_100 : Cond.lays "BeanServer$Log" "BeanServer$Log" "listened" "I" ∈ jj_gw := jj_mem1 (List.mem_of_getElem? (i := 100) (by decide +kernel)) (by decide +kernel)
theorem wd_102 : Cond.superclass "BeanServer$Log" "java/lang/Object" ∈ jj_gw := jj_mem1 (List.mem_of_getElem? (i := 102) (by decide +kernel)) (by decide +kernel)
theorem wd_103 : Cond.arrayClass FieldType.int ∈ jj_gw := jj_mem1 (List.mem_of_getElem? (i := 103) (by decide +kernel)) (by decide +kernel)
theorem wd_105 : Cond.fieldLink "BeanServer" (10 : Nat) "BeanServer" "buffer" "Ljava/lang/StringBuilder;" ∈ jj_gw := jj_mem1 (List.mem_of_getElem? (i := 105) (by decide +kernel)) (by decide +kernel)
theorem wd_106 : Cond.fieldLink "BeanServer" (18 : Nat) "BeanServer" "beans" "[LBeanServer$Bean;" ∈ jj_gw := jj_mem1 (List.mem_of_getElem? (i := 106) (by decide +kernel)) (by decide +kernel)
theorem wd_107 : Cond.fieldLink "BeanServer" (24 : Nat) "BeanServer" "queries" "[LBeanServer$Query;" ∈ jj_gw := jj_mem1 (List.mem_of_getElem? (i := 107) (by decide +kernel)) (by decide +kernel)
theorem wd_108 : Cond.fieldLink "BeanServer" (28 : Nat) "BeanServer" "queryCount" "I" ∈ jj_gw := jj_mem1 (List.mem_of_getElem? (i := 108) (by decide +kernel)) (by decide +kernel)
theorem wd_109 : Cond.fieldLink "BeanServer" (34 : Nat) "BeanServer" "monitors" "[LBeanServer$Monitor;" ∈ jj_gw := jj_mem1 (List.mem_of_getElem? (i := 109) (by decide +kernel)) (by decide +kernel)
theorem wd_110 : Cond.fieldLink "BeanServer" (41 : Nat) "BeanServer" "log" "LBeanServer$Log;" ∈ jj_gw := jj_mem1 (List.mem_of_getElem? (i := 110) (by decide +kernel)) (by decide +kernel)
theorem wd_111 : Cond.fieldLink "BeanServer" (45 : Nat) "BeanServer" "selection" "[I" ∈ jj_gw := jj_mem1 (List.mem_of_getElem? (i := 111) (by decide +kernel)) (by decide +kernel)
theorem wd_112 : Cond.fieldLink "BeanServer" (49 : Nat) "BeanServer" "selectionSize" "I" ∈ jj_gw := jj_mem1 (List.mem_of_getElem? (i := 112) (by decide +kernel)) (by decide +kernel)
theorem wd_113 : Cond.fieldLink "BeanServer" (54 : Nat) "BeanServer" "latestPattern" "Ljava/lang/String;" ∈ jj_gw := jj_mem1 (List.mem_of_getElem? (i := 113) (by decide +kernel)) (by decide +kernel)
theorem wd_114 : Cond.laysFinal "BeanServer" "BeanServer" "buffer" "Ljava/lang/StringBuilder;" ∈ jj_gw := jj_mem1 (List.mem_of_getElem? (i := 114) (by decide +kernel)) (by decide +kernel)
theorem wd_116 : Cond.laysFinal "BeanServer" "BeanServer" "beans" "[LBeanServer$Bean;" ∈ jj_gw := jj_mem1 (List.mem_of_getElem? (i := 116) (by decide +kernel)) (by decide +kernel)
theorem wd_118 : Cond.laysFinal "BeanServer" "BeanServer" "queries" "[LBeanServer$Query;" ∈ jj_gw := jj_mem1 (List.mem_of_getElem? (i := 118) (by decide +kernel)) (by decide +kernel)
theorem wd_120 : Cond.lays "BeanServer" "BeanServer" "queryCount" "I" ∈ jj_gw := jj_mem1 (List.mem_of_getElem? (i := 120) (by decide +kernel)) (by decide +kernel)
theorem wd_122 : Cond.laysFinal "BeanServer" "BeanServer" "monitors" "[LBeanServer$Monitor;" ∈ jj_gw := jj_mem1 (List.mem_of_getElem? (i := 122) (by decide +kernel)) (by decide +kernel)
theorem wd_124 : Cond.laysFinal "BeanServer" "BeanServer" "log" "LBeanServer$Log;" ∈ jj_gw := jj_mem1 (List.mem_of_getElem? (i := 124) (by decide +kernel)) (by decide +kernel)
theorem wd_126 : Cond.laysFinal "BeanServer" "BeanServer" "selection" "[I" ∈ jj_gw := jj_mem1 (List.mem_of_getElem? (i := 126) (by decide +kernel)) (by decide +kernel)
theorem wd_128 : Cond.lays "BeanServer" "BeanServer" "selectionSize" "I" ∈ jj_gw := jj_mem1 (List.mem_of_getElem? (i := 128) (by decide +kernel)) (by decide +kernel)
theorem wd_130 : Cond.lays "BeanServer" "BeanServer" "latestPattern" "Ljava/lang/String;" ∈ jj_gw := jj_mem1 (List.mem_of_getElem? (i := 130) (by decide +kernel)) (by decide +kernel)
theorem wd_132 : Cond.superclass "BeanServer" "java/lang/Object" ∈ jj_gw := jj_mem1 (List.mem_of_getElem? (i := 132) (by decide +kernel)) (by decide +kernel)
theorem wd_133 : Cond.methodLink "BeanServerLaw" (13 : Nat) (⟨"BeanServer", "write", "(C)Z"⟩ : MethodName) ∈ jj_gw := jj_mem1 (List.mem_of_getElem? (i := 133) (by decide +kernel)) (by decide +kernel)
theorem wd_134 : Cond.instanceMethod (⟨"BeanServer", "write", "(C)Z"⟩ : MethodName) ∈ jj_gw := jj_mem1 (List.mem_of_getElem? (i := 134) (by decide +kernel)) (by decide +kernel)
theorem wd_135 : Cond.selects "BeanServer" (⟨"BeanServer", "write", "(C)Z"⟩ : MethodName) (⟨"BeanServer", "write", "(C)Z"⟩ : MethodName) ∈ jj_gw := jj_mem1 (List.mem_of_getElem? (i := 135) (by decide +kernel)) (by decide +kernel)
theorem wd_136 : Cond.code (⟨"BeanServer", "write", "(C)Z"⟩ : MethodName) prog_1_method_2_code (2 : Nat) (Option.some FieldType.boolean) ∈ jj_gw := jj_mem1 (List.mem_of_getElem? (i := 136) (by decide +kernel)) (by decide +kernel)
theorem wd_137 : Cond.methodLink "BeanServer" (58 : Nat) (⟨"java/lang/StringBuilder", "length", "()I"⟩ : MethodName) ∈ jj_gw := jj_mem1 (List.mem_of_getElem? (i := 137) (by decide +kernel)) (by decide +kernel)
theorem wd_138 : Cond.instanceMethod (⟨"java/lang/StringBuilder", "length", "()I"⟩ : MethodName) ∈ jj_gw := jj_mem1 (List.mem_of_getElem? (i := 138) (by decide +kernel)) (by decide +kernel)
theorem wd_139 : Cond.selects "java/lang/StringBuilder" (⟨"java/lang/StringBuilder", "length", "()I"⟩ : MethodName) (⟨"java/lang/StringBuilder", "length", "()I"⟩ : MethodName) ∈ jj_gw := jj_mem1 (List.mem_of_getElem? (i := 139) (by decide +kernel)) (by decide +kernel)
theorem wd_140 : Cond.code (⟨"java/lang/StringBuilder", "length", "()I"⟩ : MethodName) prog_18_method_93_code (1 : Nat) (Option.some FieldType.int) ∈ jj_gw := jj_mem1 (List.mem_of_getElem? (i := 140) (by decide +kernel)) (by decide +kernel)
theorem wd_141 : Cond.methodLink "java/lang/StringBuilder" (343 : Nat) (⟨"java/lang/AbstractStringBuilder", "length", "()I"⟩ : MethodName) ∈ jj_gw := jj_mem1 (List.mem_of_getElem? (i := 141) (by decide +kernel)) (by decide +kernel)
theorem wd_142 : Cond.instanceMethod (⟨"java/lang/AbstractStringBuilder", "length", "()I"⟩ : MethodName) ∈ jj_gw := jj_mem1 (List.mem_of_getElem? (i := 142) (by decide +kernel)) (by decide +kernel)
theorem wd_143 : Cond.code (⟨"java/lang/AbstractStringBuilder", "length", "()I"⟩ : MethodName) prog_13_method_6_code (1 : Nat) (Option.some FieldType.int) ∈ jj_gw := jj_mem1 (List.mem_of_getElem? (i := 143) (by decide +kernel)) (by decide +kernel)
theorem wd_144 : Cond.methodLink "BeanServer" (62 : Nat) (⟨"java/lang/StringBuilder", "append", "(C)Ljava/lang/StringBuilder;"⟩ : MethodName) ∈ jj_gw := jj_mem1 (List.mem_of_getElem? (i := 144) (by decide +kernel)) (by decide +kernel)
theorem wd_145 : Cond.instanceMethod (⟨"java/lang/StringBuilder", "append", "(C)Ljava/lang/StringBuilder;"⟩ : MethodName) ∈ jj_gw := jj_mem1 (List.mem_of_getElem? (i := 145) (by decide +kernel)) (by decide +kernel)
theorem wd_146 : Cond.selects "java/lang/StringBuilder" (⟨"java/lang/StringBuilder", "append", "(C)Ljava/lang/StringBuilder;"⟩ : MethodName) (⟨"java/lang/StringBuilder", "append", "(C)Ljava/lang/StringBuilder;"⟩ : MethodName) ∈ jj_gw := jj_mem1 (List.mem_of_getElem? (i := 146) (by decide +kernel)) (by decide +kernel)
theorem wd_147 : Cond.code (⟨"java/lang/StringBuilder", "append", "(C)Ljava/lang/StringBuilder;"⟩ : MethodName) prog_18_method_14_code (2 : Nat) (Option.some (FieldType.object "java/lang/StringBuilder")) ∈ jj_gw := jj_mem1 (List.mem_of_getElem? (i := 147) (by decide +kernel)) (by decide +kernel)
theorem wd_148 : Cond.methodLink "java/lang/StringBuilder" (50 : Nat) (⟨"java/lang/AbstractStringBuilder", "append", "(C)Ljava/lang/AbstractStringBuilder;"⟩ : MethodName) ∈ jj_gw := jj_mem1 (List.mem_of_getElem? (i := 148) (by decide +kernel)) (by decide +kernel)
theorem wd_149 : Cond.instanceMethod (⟨"java/lang/AbstractStringBuilder", "append", "(C)Ljava/lang/AbstractStringBuilder;"⟩ : MethodName) ∈ jj_gw := jj_mem1 (List.mem_of_getElem? (i := 149) (by decide +kernel)) (by decide +kernel)
theorem wd_150 : Cond.code (⟨"java/lang/AbstractStringBuilder", "append", "(C)Ljava/lang/AbstractStringBuilder;"⟩ : MethodName) prog_13_method_31_code (2 : Nat) (Option.some (FieldType.object "java/lang/AbstractStringBuilder")) ∈ jj_gw := jj_mem1 (List.mem_of_getElem? (i := 150) (by decide +kernel)) (by decide +kernel)
theorem wd_151 : Cond.methodLink "java/lang/AbstractStringBuilder" (100 : Nat) (⟨"java/lang/AbstractStringBuilder", "ensureCapacityInternal", "(I)V"⟩ : MethodName) ∈ jj_gw := jj_mem1 (List.mem_of_getElem? (i := 151) (by decide +kernel)) (by decide +kernel)
theorem wd_153 : Cond.instanceMethod (⟨"java/lang/AbstractStringBuilder", "ensureCapacityInternal", "(I)V"⟩ : MethodName) ∈ jj_gw := jj_mem1 (List.mem_of_getElem? (i := 153) (by decide +kernel)) (by decide +kernel)
theorem wd_154 : Cond.code (⟨"java/lang/AbstractStringBuilder", "ensureCapacityInternal", "(I)V"⟩ : MethodName) prog_13_method_9_code (3 : Nat) (Option.none : Option FieldType) ∈ jj_gw := jj_mem1 (List.mem_of_getElem? (i := 154) (by decide +kernel)) (by decide +kernel)
theorem wd_155 : Cond.methodLink "java/lang/AbstractStringBuilder" (104 : Nat) (⟨"java/lang/AbstractStringBuilder", "newCapacity", "(I)I"⟩ : MethodName) ∈ jj_gw := jj_mem1 (List.mem_of_getElem? (i := 155) (by decide +kernel)) (by decide +kernel)
theorem wd_157 : Cond.instanceMethod (⟨"java/lang/AbstractStringBuilder", "newCapacity", "(I)I"⟩ : MethodName) ∈ jj_gw := jj_mem1 (List.mem_of_getElem? (i := 157) (by decide +kernel)) (by decide +kernel)
theorem wd_158 : Cond.code (⟨"java/lang/AbstractStringBuilder", "newCapacity", "(I)I"⟩ : MethodName) prog_13_method_10_code (6 : Nat) (Option.some FieldType.int) ∈ jj_gw := jj_mem1 (List.mem_of_getElem? (i := 158) (by decide +kernel)) (by decide +kernel)
theorem wd_159 : Cond.methodLink "java/lang/AbstractStringBuilder" (114 : Nat) (⟨"jdk/internal/util/ArraysSupport", "newLength", "(III)I"⟩ : MethodName) ∈ jj_gw := jj_mem1 (List.mem_of_getElem? (i := 159) (by decide +kernel)) (by decide +kernel)
theorem wd_160 : Cond.static (⟨"jdk/internal/util/ArraysSupport", "newLength", "(III)I"⟩ : MethodName) ∈ jj_gw := jj_mem1 (List.mem_of_getElem? (i := 160) (by decide +kernel)) (by decide +kernel)
theorem wd_161 : Cond.code (⟨"jdk/internal/util/ArraysSupport", "newLength", "(III)I"⟩ : MethodName) prog_23_method_27_code (4 : Nat) (Option.some FieldType.int) ∈ jj_gw := jj_mem1 (List.mem_of_getElem? (i := 161) (by decide +kernel)) (by decide +kernel)
theorem wd_162 : Cond.methodLink "jdk/internal/util/ArraysSupport" (194 : Nat) (⟨"java/lang/Math", "max", "(II)I"⟩ : MethodName) ∈ jj_gw := jj_mem1 (List.mem_of_getElem? (i := 162) (by decide +kernel)) (by decide +kernel)
theorem wd_163 : Cond.static (⟨"java/lang/Math", "max", "(II)I"⟩ : MethodName) ∈ jj_gw := jj_mem1 (List.mem_of_getElem? (i := 163) (by decide +kernel)) (by decide +kernel)
theorem wd_164 : Cond.code (⟨"java/lang/Math", "max", "(II)I"⟩ : MethodName) prog_16_method_65_code (2 : Nat) (Option.some FieldType.int) ∈ jj_gw := jj_mem1 (List.mem_of_getElem? (i := 164) (by decide +kernel)) (by decide +kernel)
theorem wd_165 : Cond.constant "jdk/internal/util/ArraysSupport" (200 : Nat) (2147483639 : Int32) ∈ jj_gw := jj_mem1 (List.mem_of_getElem? (i := 165) (by decide +kernel)) (by decide +kernel)
theorem wd_166 : Cond.methodLink "jdk/internal/util/ArraysSupport" (201 : Nat) (⟨"jdk/internal/util/ArraysSupport", "hugeLength", "(II)I"⟩ : MethodName) ∈ jj_gw := jj_mem1 (List.mem_of_getElem? (i := 166) (by decide +kernel)) (by decide +kernel)
theorem wd_167 : Cond.static (⟨"jdk/internal/util/ArraysSupport", "hugeLength", "(II)I"⟩ : MethodName) ∈ jj_gw := jj_mem1 (List.mem_of_getElem? (i := 167) (by decide +kernel)) (by decide +kernel)
theorem wd_168 : Cond.code (⟨"jdk/internal/util/ArraysSupport", "hugeLength", "(II)I"⟩ : MethodName) prog_23_method_28_code (3 : Nat) (Option.some FieldType.int) ∈ jj_gw := jj_mem1 (List.mem_of_getElem? (i := 168) (by decide +kernel)) (by decide +kernel)
theorem wd_169 : Cond.constant "java/lang/AbstractStringBuilder" (39 : Nat) (2147483647 : Int32) ∈ jj_gw := jj_mem1 (List.mem_of_getElem? (i := 169) (by decide +kernel)) (by decide +kernel)
theorem wd_170 : Cond.methodLink "java/lang/AbstractStringBuilder" (108 : Nat) (⟨"java/util/Arrays", "copyOf", "([BI)[B"⟩ : MethodName) ∈ jj_gw := jj_mem1 (List.mem_of_getElem? (i := 170) (by decide +kernel)) (by decide +kernel)
theorem wd_171 : Cond.static (⟨"java/util/Arrays", "copyOf", "([BI)[B"⟩ : MethodName) ∈ jj_gw := jj_mem1 (List.mem_of_getElem? (i := 171) (by decide +kernel)) (by decide +kernel)
theorem wd_172 : Cond.code (⟨"java/util/Arrays", "copyOf", "([BI)[B"⟩ : MethodName) prog_22_method_121_code (3 : Nat) (Option.some (FieldType.array FieldType.byte)) ∈ jj_gw := jj_mem1 (List.mem_of_getElem? (i := 172) (by decide +kernel)) (by decide +kernel)
theorem wd_173 : Cond.methodLink "java/util/Arrays" (310 : Nat) (⟨"[B", "clone", "()Ljava/lang/Object;"⟩ : MethodName) ∈ jj_gw := jj_mem1 (List.mem_of_getElem? (i := 173) (by decide +kernel)) (by decide +kernel)
theorem wd_174 : Cond.sameMethod "[B" "java/lang/Object" "clone" "()Ljava/lang/Object;" ∈ jj_gw := jj_mem1 (List.mem_of_getElem? (i := 174) (by decide +kernel)) (by decide +kernel)
theorem wd_175 : Cond.native (⟨"java/lang/Object", "clone", "()Ljava/lang/Object;"⟩ : MethodName) ∈ jj_gw := jj_mem1 (List.mem_of_getElem? (i := 175) (by decide +kernel)) (by decide +kernel)
theorem wd_176 : Cond.instanceMethod (⟨"java/lang/Object", "clone", "()Ljava/lang/Object;"⟩ : MethodName) ∈ jj_gw := jj_mem1 (List.mem_of_getElem? (i := 176) (by decide +kernel)) (by decide +kernel)
theorem wd_177 : Cond.selects "[B" (⟨"[B", "clone", "()Ljava/lang/Object;"⟩ : MethodName) (⟨"java/lang/Object", "clone", "()Ljava/lang/Object;"⟩ : MethodName) ∈ jj_gw := jj_mem1 (List.mem_of_getElem? (i := 177) (by decide +kernel)) (by decide +kernel)
theorem wd_179 : Cond.classLink "java/util/Arrays" (311 : Nat) "[B" ∈ jj_gw := jj_mem1 (List.mem_of_getElem? (i := 179) (by decide +kernel)) (by decide +kernel)
theorem wd_180 : Cond.methodLink "java/util/Arrays" (304 : Nat) (⟨"java/lang/Math", "min", "(II)I"⟩ : MethodName) ∈ jj_gw := jj_mem1 (List.mem_of_getElem? (i := 180) (by decide +kernel)) (by decide +kernel)
theorem wd_181 : Cond.static (⟨"java/lang/Math", "min", "(II)I"⟩ : MethodName) ∈ jj_gw := jj_mem1 (List.mem_of_getElem? (i := 181) (by decide +kernel)) (by decide +kernel)
theorem wd_182 : Cond.code (⟨"java/lang/Math", "min", "(II)I"⟩ : MethodName) prog_16_method_69_code (2 : Nat) (Option.some FieldType.int) ∈ jj_gw := jj_mem1 (List.mem_of_getElem? (i := 182) (by decide +kernel)) (by decide +kernel)
theorem wd_183 : Cond.methodLink "java/util/Arrays" (150 : Nat) (⟨"java/lang/System", "arraycopy", "(Ljava/lang/Object;ILjava/lang/Object;II)V"⟩ : MethodName) ∈ jj_gw := jj_mem1 (List.mem_of_getElem? (i := 183) (by decide +kernel)) (by decide +kernel)
theorem wd_184 : Cond.static (⟨"java/lang/System", "arraycopy", "(Ljava/lang/Object;ILjava/lang/Object;II)V"⟩ : MethodName) ∈ jj_gw := jj_mem1 (List.mem_of_getElem? (i := 184) (by decide +kernel)) (by decide +kernel)
theorem wd_185 : Cond.native (⟨"java/lang/System", "arraycopy", "(Ljava/lang/Object;ILjava/lang/Object;II)V"⟩ : MethodName) ∈ jj_gw := jj_mem1 (List.mem_of_getElem? (i := 185) (by decide +kernel)) (by decide +kernel)
theorem wd_186 : Cond.methodLink "java/lang/AbstractStringBuilder" (83 : Nat) (⟨"java/lang/AbstractStringBuilder", "isLatin1", "()Z"⟩ : MethodName) ∈ jj_gw := jj_mem1 (List.mem_of_getElem? (i := 186) (by decide +kernel)) (by decide +kernel)
theorem wd_187 : Cond.instanceMethod (⟨"java/lang/AbstractStringBuilder", "isLatin1", "()Z"⟩ : MethodName) ∈ jj_gw := jj_mem1 (List.mem_of_getElem? (i := 187) (by decide +kernel)) (by decide +kernel)
theorem wd_188 : Cond.sameMethod "java/lang/AbstractStringBuilder" "java/lang/AbstractStringBuilder" "isLatin1" "()Z" ∈ jj_gw := jj_mem1 (List.mem_of_getElem? (i := 188) (by decide +kernel)) (by decide +kernel)
theorem wd_189 : Cond.selects "java/lang/StringBuilder" (⟨"java/lang/AbstractStringBuilder", "isLatin1", "()Z"⟩ : MethodName) (⟨"java/lang/AbstractStringBuilder", "isLatin1", "()Z"⟩ : MethodName) ∈ jj_gw := jj_mem1 (List.mem_of_getElem? (i := 189) (by decide +kernel)) (by decide +kernel)
theorem wd_190 : Cond.code (⟨"java/lang/AbstractStringBuilder", "isLatin1", "()Z"⟩ : MethodName) prog_13_method_68_code (1 : Nat) (Option.some FieldType.boolean) ∈ jj_gw := jj_mem1 (List.mem_of_getElem? (i := 190) (by decide +kernel)) (by decide +kernel)
theorem wd_191 : Cond.methodLink "java/lang/AbstractStringBuilder" (191 : Nat) (⟨"java/lang/StringLatin1", "canEncode", "(C)Z"⟩ : MethodName) ∈ jj_gw := jj_mem1 (List.mem_of_getElem? (i := 191) (by decide +kernel)) (by decide +kernel)
theorem wd_192 : Cond.static (⟨"java/lang/StringLatin1", "canEncode", "(C)Z"⟩ : MethodName) ∈ jj_gw := jj_mem1 (List.mem_of_getElem? (i := 192) (by decide +kernel)) (by decide +kernel)
theorem wd_193 : Cond.code (⟨"java/lang/StringLatin1", "canEncode", "(C)Z"⟩ : MethodName) prog_19_method_3_code (1 : Nat) (Option.some FieldType.boolean) ∈ jj_gw := jj_mem1 (List.mem_of_getElem? (i := 193) (by decide +kernel)) (by decide +kernel)
theorem wd_194 : Cond.methodLink "java/lang/AbstractStringBuilder" (195 : Nat) (⟨"java/lang/AbstractStringBuilder", "inflate", "()V"⟩ : MethodName) ∈ jj_gw := jj_mem1 (List.mem_of_getElem? (i := 194) (by decide +kernel)) (by decide +kernel)
theorem wd_196 : Cond.instanceMethod (⟨"java/lang/AbstractStringBuilder", "inflate", "()V"⟩ : MethodName) ∈ jj_gw := jj_mem1 (List.mem_of_getElem? (i := 196) (by decide +kernel)) (by decide +kernel)
theorem wd_197 : Cond.code (⟨"java/lang/AbstractStringBuilder", "inflate", "()V"⟩ : MethodName) prog_13_method_11_code (2 : Nat) (Option.none : Option FieldType) ∈ jj_gw := jj_mem1 (List.mem_of_getElem? (i := 197) (by decide +kernel)) (by decide +kernel)
theorem wd_198 : Cond.methodLink "java/lang/AbstractStringBuilder" (125 : Nat) (⟨"java/lang/StringLatin1", "inflate", "([BI[BII)V"⟩ : MethodName) ∈ jj_gw := jj_mem1 (List.mem_of_getElem? (i := 198) (by decide +kernel)) (by decide +kernel)
theorem wd_199 : Cond.static (⟨"java/lang/StringLatin1", "inflate", "([BI[BII)V"⟩ : MethodName) ∈ jj_gw := jj_mem1 (List.mem_of_getElem? (i := 199) (by decide +kernel)) (by decide +kernel)
theorem wd_200 : Cond.code (⟨"java/lang/StringLatin1", "inflate", "([BI[BII)V"⟩ : MethodName) prog_19_method_50_code (5 : Nat) (Option.none : Option FieldType) ∈ jj_gw := jj_mem1 (List.mem_of_getElem? (i := 200) (by decide +kernel)) (by decide +kernel)
theorem wd_201 : Cond.methodLink "java/lang/StringLatin1" (240 : Nat) (⟨"java/lang/StringUTF16", "inflate", "([BI[BII)V"⟩ : MethodName) ∈ jj_gw := jj_mem1 (List.mem_of_getElem? (i := 201) (by decide +kernel)) (by decide +kernel)
theorem wd_202 : Cond.static (⟨"java/lang/StringUTF16", "inflate", "([BI[BII)V"⟩ : MethodName) ∈ jj_gw := jj_mem1 (List.mem_of_getElem? (i := 202) (by decide +kernel)) (by decide +kernel)
theorem wd_203 : Cond.code (⟨"java/lang/StringUTF16", "inflate", "([BI[BII)V"⟩ : MethodName) prog_20_method_86_code (6 : Nat) (Option.none : Option FieldType) ∈ jj_gw := jj_mem1 (List.mem_of_getElem? (i := 203) (by decide +kernel)) (by decide +kernel)
theorem wd_204 : Cond.methodLink "java/lang/StringUTF16" (173 : Nat) (⟨"java/lang/StringUTF16", "checkBoundsOffCount", "(II[B)V"⟩ : MethodName) ∈ jj_gw := jj_mem1 (List.mem_of_getElem? (i := 204) (by decide +kernel)) (by decide +kernel)
theorem wd_205 : Cond.static (⟨"java/lang/StringUTF16", "checkBoundsOffCount", "(II[B)V"⟩ : MethodName) ∈ jj_gw := jj_mem1 (List.mem_of_getElem? (i := 205) (by decide +kernel)) (by decide +kernel)
theorem wd_206 : Cond.code (⟨"java/lang/StringUTF16", "checkBoundsOffCount", "(II[B)V"⟩ : MethodName) prog_20_method_94_code (3 : Nat) (Option.none : Option FieldType) ∈ jj_gw := jj_mem1 (List.mem_of_getElem? (i := 206) (by decide +kernel)) (by decide +kernel)
theorem wd_207 : Cond.methodLink "java/lang/StringUTF16" (48 : Nat) (⟨"java/lang/StringUTF16", "length", "([B)I"⟩ : MethodName) ∈ jj_gw := jj_mem1 (List.mem_of_getElem? (i := 207) (by decide +kernel)) (by decide +kernel)
theorem wd_208 : Cond.static (⟨"java/lang/StringUTF16", "length", "([B)I"⟩ : MethodName) ∈ jj_gw := jj_mem1 (List.mem_of_getElem? (i := 208) (by decide +kernel)) (by decide +kernel)
theorem wd_209 : Cond.code (⟨"java/lang/StringUTF16", "length", "([B)I"⟩ : MethodName) prog_20_method_6_code (1 : Nat) (Option.some FieldType.int) ∈ jj_gw := jj_mem1 (List.mem_of_getElem? (i := 209) (by decide +kernel)) (by decide +kernel)
theorem wd_210 : Cond.methodLink "java/lang/StringUTF16" (419 : Nat) (⟨"java/lang/String", "checkBoundsOffCount", "(III)I"⟩ : MethodName) ∈ jj_gw := jj_mem1 (List.mem_of_getElem? (i := 210) (by decide +kernel)) (by decide +kernel)
theorem wd_211 : Cond.static (⟨"java/lang/String", "checkBoundsOffCount", "(III)I"⟩ : MethodName) ∈ jj_gw := jj_mem1 (List.mem_of_getElem? (i := 211) (by decide +kernel)) (by decide +kernel)
theorem wd_212 : Cond.code (⟨"java/lang/String", "checkBoundsOffCount", "(III)I"⟩ : MethodName) prog_17_method_157_code (3 : Nat) (Option.some FieldType.int) ∈ jj_gw := jj_mem1 (List.mem_of_getElem? (i := 212) (by decide +kernel)) (by decide +kernel)
theorem wd_213 : Cond.fieldLink "java/lang/String" (1053 : Nat) "jdk/internal/util/Preconditions" "SIOOBE_FORMATTER" "Ljava/util/function/BiFunction;" ∈ jj_gw := jj_mem1 (List.mem_of_getElem? (i := 213) (by decide +kernel)) (by decide +kernel)
theorem wd_215 : Cond.methodLink "java/lang/String" (1065 : Nat) (⟨"jdk/internal/util/Preconditions", "checkFromIndexSize", "(IIILjava/util/function/BiFunction;)I"⟩ : MethodName) ∈ jj_gw := jj_mem1 (List.mem_of_getElem? (i := 215) (by decide +kernel)) (by decide +kernel)
theorem wd_216 : Cond.static (⟨"jdk/internal/util/Preconditions", "checkFromIndexSize", "(IIILjava/util/function/BiFunction;)I"⟩ : MethodName) ∈ jj_gw := jj_mem1 (List.mem_of_getElem? (i := 216) (by decide +kernel)) (by decide +kernel)
theorem wd_217 : Cond.code (⟨"jdk/internal/util/Preconditions", "checkFromIndexSize", "(IIILjava/util/function/BiFunction;)I"⟩ : MethodName) prog_24_method_13_code (4 : Nat) (Option.some FieldType.int) ∈ jj_gw := jj_mem1 (List.mem_of_getElem? (i := 217) (by decide +kernel)) (by decide +kernel)
theorem wd_218 : Cond.methodLink "java/lang/StringUTF16" (111 : Nat) (⟨"java/lang/StringUTF16", "putChar", "([BII)V"⟩ : MethodName) ∈ jj_gw := jj_mem1 (List.mem_of_getElem? (i := 218) (by decide +kernel)) (by decide +kernel)
theorem wd_219 : Cond.static (⟨"java/lang/StringUTF16", "putChar", "([BII)V"⟩ : MethodName) ∈ jj_gw := jj_mem1 (List.mem_of_getElem? (i := 219) (by decide +kernel)) (by decide +kernel)
theorem wd_220 : Cond.code (⟨"java/lang/StringUTF16", "putChar", "([BII)V"⟩ : MethodName) prog_20_method_4_code (3 : Nat) (Option.none : Option FieldType) ∈ jj_gw := jj_mem1 (List.mem_of_getElem? (i := 220) (by decide +kernel)) (by decide +kernel)
theorem wd_221 : Cond.fieldLink "java/lang/StringUTF16" (44 : Nat) "java/lang/StringUTF16" "$assertionsDisabled" "Z" ∈ jj_gw := jj_mem1 (List.mem_of_getElem? (i := 221) (by decide +kernel)) (by decide +kernel)
theorem wd_223 : Cond.fieldLink "java/lang/StringUTF16" (59 : Nat) "java/lang/StringUTF16" "HI_BYTE_SHIFT" "I" ∈ jj_gw := jj_mem1 (List.mem_of_getElem? (i := 223) (by decide +kernel)) (by decide +kernel)
theorem wd_225 : Cond.fieldLink "java/lang/StringUTF16" (63 : Nat) "java/lang/StringUTF16" "LO_BYTE_SHIFT" "I" ∈ jj_gw := jj_mem1 (List.mem_of_getElem? (i := 225) (by decide +kernel)) (by decide +kernel)
theorem wd_227 : Cond.methodLink "java/lang/AbstractStringBuilder" (197 : Nat) (⟨"java/lang/StringUTF16", "putCharSB", "([BII)V"⟩ : MethodName) ∈ jj_gw := jj_mem1 (List.mem_of_getElem? (i := 227) (by decide +kernel)) (by decide +kernel)
theorem wd_228 : Cond.static (⟨"java/lang/StringUTF16", "putCharSB", "([BII)V"⟩ : MethodName) ∈ jj_gw := jj_mem1 (List.mem_of_getElem? (i := 228) (by decide +kernel)) (by decide +kernel)
theorem wd_229 : Cond.code (⟨"java/lang/StringUTF16", "putCharSB", "([BII)V"⟩ : MethodName) prog_20_method_71_code (3 : Nat) (Option.none : Option FieldType) ∈ jj_gw := jj_mem1 (List.mem_of_getElem? (i := 229) (by decide +kernel)) (by decide +kernel)
theorem wd_230 : Cond.methodLink "java/lang/StringUTF16" (67 : Nat) (⟨"java/lang/StringUTF16", "checkIndex", "(I[B)V"⟩ : MethodName) ∈ jj_gw := jj_mem1 (List.mem_of_getElem? (i := 230) (by decide +kernel)) (by decide +kernel)
theorem wd_231 : Cond.static (⟨"java/lang/StringUTF16", "checkIndex", "(I[B)V"⟩ : MethodName) ∈ jj_gw := jj_mem1 (List.mem_of_getElem? (i := 231) (by decide +kernel)) (by decide +kernel)
theorem wd_232 : Cond.code (⟨"java/lang/StringUTF16", "checkIndex", "(I[B)V"⟩ : MethodName) prog_20_method_91_code (2 : Nat) (Option.none : Option FieldType) ∈ jj_gw := jj_mem1 (List.mem_of_getElem? (i := 232) (by decide +kernel)) (by decide +kernel)
theorem wd_233 : Cond.methodLink "java/lang/StringUTF16" (414 : Nat) (⟨"java/lang/String", "checkIndex", "(II)V"⟩ : MethodName) ∈ jj_gw := jj_mem1 (List.mem_of_getElem? (i := 233) (by decide +kernel)) (by decide +kernel)
theorem wd_234 : Cond.static (⟨"java/lang/String", "checkIndex", "(II)V"⟩ : MethodName) ∈ jj_gw := jj_mem1 (List.mem_of_getElem? (i := 234) (by decide +kernel)) (by decide +kernel)
theorem wd_235 : Cond.code (⟨"java/lang/String", "checkIndex", "(II)V"⟩ : MethodName) prog_17_method_155_code (2 : Nat) (Option.none : Option FieldType) ∈ jj_gw := jj_mem1 (List.mem_of_getElem? (i := 235) (by decide +kernel)) (by decide +kernel)
theorem wd_236 : Cond.methodLink "java/lang/String" (1059 : Nat) (⟨"jdk/internal/util/Preconditions", "checkIndex", "(IILjava/util/function/BiFunction;)I"⟩ : MethodName) ∈ jj_gw := jj_mem1 (List.mem_of_getElem? (i := 236) (by decide +kernel)) (by decide +kernel)
theorem wd_237 : Cond.static (⟨"jdk/internal/util/Preconditions", "checkIndex", "(IILjava/util/function/BiFunction;)I"⟩ : MethodName) ∈ jj_gw := jj_mem1 (List.mem_of_getElem? (i := 237) (by decide +kernel)) (by decide +kernel)
theorem wd_238 : Cond.code (⟨"jdk/internal/util/Preconditions", "checkIndex", "(IILjava/util/function/BiFunction;)I"⟩ : MethodName) prog_24_method_11_code (3 : Nat) (Option.some FieldType.int) ∈ jj_gw := jj_mem1 (List.mem_of_getElem? (i := 238) (by decide +kernel)) (by decide +kernel)
theorem wd_239 : Cond.methodLink "BeanServerLaw" (18 : Nat) (⟨"BeanServer", "register", "()I"⟩ : MethodName) ∈ jj_gw := jj_mem1 (List.mem_of_getElem? (i := 239) (by decide +kernel)) (by decide +kernel)
theorem wd_240 : Cond.instanceMethod (⟨"BeanServer", "register", "()I"⟩ : MethodName) ∈ jj_gw := jj_mem2 (List.mem_of_getElem? (i := 0) (by decide +kernel)) (by decide +kernel)
theorem wd_241 : Cond.selects "BeanServer" (⟨"BeanServer", "register", "()I"⟩ : MethodName) (⟨"BeanServer", "register", "()I"⟩ : MethodName) ∈ jj_gw := jj_mem2 (List.mem_of_getElem? (i := 1) (by decide +kernel)) (by decide +kernel)
theorem wd_242 : Cond.code (⟨"BeanServer", "register", "()I"⟩ : MethodName) prog_1_method_3_code (3 : Nat) (Option.some FieldType.int) ∈ jj_gw := jj_mem2 (List.mem_of_getElem? (i := 2) (by decide +kernel)) (by decide +kernel)
theorem wd_243 : Cond.methodLink "BeanServer" (66 : Nat) (⟨"BeanServer", "takenName", "()LBeanServer$Pattern;"⟩ : MethodName) ∈ jj_gw := jj_mem2 (List.mem_of_getElem? (i := 3) (by decide +kernel)) (by decide +kernel)
theorem wd_245 : Cond.instanceMethod (⟨"BeanServer", "takenName", "()LBeanServer$Pattern;"⟩ : MethodName) ∈ jj_gw := jj_mem2 (List.mem_of_getElem? (i := 5) (by decide +kernel)) (by decide +kernel)
theorem wd_246 : Cond.code (⟨"BeanServer", "takenName", "()LBeanServer$Pattern;"⟩ : MethodName) prog_1_method_22_code (2 : Nat) (Option.some (FieldType.object "BeanServer$Pattern")) ∈ jj_gw := jj_mem2 (List.mem_of_getElem? (i := 6) (by decide +kernel)) (by decide +kernel)
theorem wd_247 : Cond.methodLink "BeanServer" (104 : Nat) (⟨"BeanServer", "taken", "()Ljava/lang/String;"⟩ : MethodName) ∈ jj_gw := jj_mem2 (List.mem_of_getElem? (i := 7) (by decide +kernel)) (by decide +kernel)
theorem wd_249 : Cond.instanceMethod (⟨"BeanServer", "taken", "()Ljava/lang/String;"⟩ : MethodName) ∈ jj_gw := jj_mem2 (List.mem_of_getElem? (i := 9) (by decide +kernel)) (by decide +kernel)
theorem wd_250 : Cond.code (⟨"BeanServer", "taken", "()Ljava/lang/String;"⟩ : MethodName) prog_1_method_21_code (2 : Nat) (Option.some (FieldType.object "java/lang/String")) ∈ jj_gw := jj_mem2 (List.mem_of_getElem? (i := 10) (by decide +kernel)) (by decide +kernel)
theorem wd_251 : Cond.methodLink "BeanServer" (201 : Nat) (⟨"java/lang/StringBuilder", "toString", "()Ljava/lang/String;"⟩ : MethodName) ∈ jj_gw := jj_mem2 (List.mem_of_getElem? (i := 11) (by decide +kernel)) (by decide +kernel)
theorem wd_252 : Cond.instanceMethod (⟨"java/lang/StringBuilder", "toString", "()Ljava/lang/String;"⟩ : MethodName) ∈ jj_gw := jj_mem2 (List.mem_of_getElem? (i := 12) (by decide +kernel)) (by decide +kernel)
theorem wd_253 : Cond.selects "java/lang/StringBuilder" (⟨"java/lang/StringBuilder", "toString", "()Ljava/lang/String;"⟩ : MethodName) (⟨"java/lang/StringBuilder", "toString", "()Ljava/lang/String;"⟩ : MethodName) ∈ jj_gw := jj_mem2 (List.mem_of_getElem? (i := 13) (by decide +kernel)) (by decide +kernel)
theorem wd_254 : Cond.code (⟨"java/lang/StringBuilder", "toString", "()Ljava/lang/String;"⟩ : MethodName) prog_18_method_42_code (1 : Nat) (Option.some (FieldType.object "java/lang/String")) ∈ jj_gw := jj_mem2 (List.mem_of_getElem? (i := 14) (by decide +kernel)) (by decide +kernel)
theorem wd_255 : Cond.classLink "java/lang/StringBuilder" (18 : Nat) "java/lang/String" ∈ jj_gw := jj_mem2 (List.mem_of_getElem? (i := 15) (by decide +kernel)) (by decide +kernel)
theorem wd_256 : Cond.instantiable "java/lang/String" (4 : Nat) ∈ jj_gw := jj_mem2 (List.mem_of_getElem? (i := 16) (by decide +kernel)) (by decide +kernel)
theorem wd_257 : Cond.methodLink "java/lang/StringBuilder" (137 : Nat) (⟨"java/lang/String", "<init>", "(Ljava/lang/StringBuilder;)V"⟩ : MethodName) ∈ jj_gw := jj_mem2 (List.mem_of_getElem? (i := 17) (by decide +kernel)) (by decide +kernel)
theorem wd_258 : Cond.instanceMethod (⟨"java/lang/String", "<init>", "(Ljava/lang/StringBuilder;)V"⟩ : MethodName) ∈ jj_gw := jj_mem2 (List.mem_of_getElem? (i := 18) (by decide +kernel)) (by decide +kernel)
theorem wd_259 : Cond.code (⟨"java/lang/String", "<init>", "(Ljava/lang/StringBuilder;)V"⟩ : MethodName) prog_17_method_53_code (2 : Nat) (Option.none : Option FieldType) ∈ jj_gw := jj_mem2 (List.mem_of_getElem? (i := 19) (by decide +kernel)) (by decide +kernel)
theorem wd_260 : Cond.methodLink "java/lang/String" (489 : Nat) (⟨"java/lang/String", "<init>", "(Ljava/lang/AbstractStringBuilder;Ljava/lang/Void;)V"⟩ : MethodName) ∈ jj_gw := jj_mem2 (List.mem_of_getElem? (i := 20) (by decide +kernel)) (by decide +kernel)
theorem wd_261 : Cond.instanceMethod (⟨"java/lang/String", "<init>", "(Ljava/lang/AbstractStringBuilder;Ljava/lang/Void;)V"⟩ : MethodName) ∈ jj_gw := jj_mem2 (List.mem_of_getElem? (i := 21) (by decide +kernel)) (by decide +kernel)
theorem wd_262 : Cond.code (⟨"java/lang/String", "<init>", "(Ljava/lang/AbstractStringBuilder;Ljava/lang/Void;)V"⟩ : MethodName) prog_17_method_150_code (5 : Nat) (Option.none : Option FieldType) ∈ jj_gw := jj_mem2 (List.mem_of_getElem? (i := 22) (by decide +kernel)) (by decide +kernel)
theorem wd_263 : Cond.methodLink "java/lang/String" (1 : Nat) (⟨"java/lang/Object", "<init>", "()V"⟩ : MethodName) ∈ jj_gw := jj_mem2 (List.mem_of_getElem? (i := 23) (by decide +kernel)) (by decide +kernel)
theorem wd_264 : Cond.methodLink "java/lang/String" (552 : Nat) (⟨"java/lang/AbstractStringBuilder", "getValue", "()[B"⟩ : MethodName) ∈ jj_gw := jj_mem2 (List.mem_of_getElem? (i := 24) (by decide +kernel)) (by decide +kernel)
theorem wd_265 : Cond.instanceMethod (⟨"java/lang/AbstractStringBuilder", "getValue", "()[B"⟩ : MethodName) ∈ jj_gw := jj_mem2 (List.mem_of_getElem? (i := 25) (by decide +kernel)) (by decide +kernel)
theorem wd_266 : Cond.sameMethod "java/lang/AbstractStringBuilder" "java/lang/AbstractStringBuilder" "getValue" "()[B" ∈ jj_gw := jj_mem2 (List.mem_of_getElem? (i := 26) (by decide +kernel)) (by decide +kernel)
theorem wd_267 : Cond.selects "java/lang/StringBuilder" (⟨"java/lang/AbstractStringBuilder", "getValue", "()[B"⟩ : MethodName) (⟨"java/lang/AbstractStringBuilder", "getValue", "()[B"⟩ : MethodName) ∈ jj_gw := jj_mem2 (List.mem_of_getElem? (i := 27) (by decide +kernel)) (by decide +kernel)
theorem wd_268 : Cond.code (⟨"java/lang/AbstractStringBuilder", "getValue", "()[B"⟩ : MethodName) prog_13_method_64_code (1 : Nat) (Option.some (FieldType.array FieldType.byte)) ∈ jj_gw := jj_mem2 (List.mem_of_getElem? (i := 28) (by decide +kernel)) (by decide +kernel)
theorem wd_269 : Cond.methodLink "java/lang/String" (549 : Nat) (⟨"java/lang/AbstractStringBuilder", "length", "()I"⟩ : MethodName) ∈ jj_gw := jj_mem2 (List.mem_of_getElem? (i := 29) (by decide +kernel)) (by decide +kernel)
theorem wd_270 : Cond.methodLink "java/lang/String" (1047 : Nat) (⟨"java/lang/AbstractStringBuilder", "isLatin1", "()Z"⟩ : MethodName) ∈ jj_gw := jj_mem2 (List.mem_of_getElem? (i := 30) (by decide +kernel)) (by decide +kernel)
theorem wd_271 : Cond.methodLink "java/lang/String" (54 : Nat) (⟨"java/util/Arrays", "copyOfRange", "([BII)[B"⟩ : MethodName) ∈ jj_gw := jj_mem2 (List.mem_of_getElem? (i := 31) (by decide +kernel)) (by decide +kernel)
theorem wd_272 : Cond.static (⟨"java/util/Arrays", "copyOfRange", "([BII)[B"⟩ : MethodName) ∈ jj_gw := jj_mem2 (List.mem_of_getElem? (i := 32) (by decide +kernel)) (by decide +kernel)
theorem wd_273 : Cond.code (⟨"java/util/Arrays", "copyOfRange", "([BII)[B"⟩ : MethodName) prog_22_method_132_code (3 : Nat) (Option.some (FieldType.array FieldType.byte)) ∈ jj_gw := jj_mem2 (List.mem_of_getElem? (i := 33) (by decide +kernel)) (by decide +kernel)
theorem wd_274 : Cond.methodLink "java/util/Arrays" (339 : Nat) (⟨"java/util/Arrays", "copyOfRangeByte", "([BII)[B"⟩ : MethodName) ∈ jj_gw := jj_mem2 (List.mem_of_getElem? (i := 34) (by decide +kernel)) (by decide +kernel)
theorem wd_275 : Cond.static (⟨"java/util/Arrays", "copyOfRangeByte", "([BII)[B"⟩ : MethodName) ∈ jj_gw := jj_mem2 (List.mem_of_getElem? (i := 35) (by decide +kernel)) (by decide +kernel)
theorem wd_276 : Cond.code (⟨"java/util/Arrays", "copyOfRangeByte", "([BII)[B"⟩ : MethodName) prog_22_method_133_code (5 : Nat) (Option.some (FieldType.array FieldType.byte)) ∈ jj_gw := jj_mem2 (List.mem_of_getElem? (i := 36) (by decide +kernel)) (by decide +kernel)
theorem wd_277 : Cond.methodLink "java/util/Arrays" (343 : Nat) (⟨"java/util/Arrays", "checkLength", "(II)V"⟩ : MethodName) ∈ jj_gw := jj_mem2 (List.mem_of_getElem? (i := 37) (by decide +kernel)) (by decide +kernel)
theorem wd_278 : Cond.static (⟨"java/util/Arrays", "checkLength", "(II)V"⟩ : MethodName) ∈ jj_gw := jj_mem2 (List.mem_of_getElem? (i := 38) (by decide +kernel)) (by decide +kernel)
theorem wd_279 : Cond.code (⟨"java/util/Arrays", "checkLength", "(II)V"⟩ : MethodName) prog_22_method_131_code (2 : Nat) (Option.none : Option FieldType) ∈ jj_gw := jj_mem2 (List.mem_of_getElem? (i := 39) (by decide +kernel)) (by decide +kernel)
theorem wd_280 : Cond.fieldLink "java/lang/String" (38 : Nat) "java/lang/String" "COMPACT_STRINGS" "Z" ∈ jj_gw := jj_mem2 (List.mem_of_getElem? (i := 40) (by decide +kernel)) (by decide +kernel)
theorem wd_281 : Cond.methodLink "java/lang/String" (1051 : Nat) (⟨"java/lang/StringUTF16", "compress", "([BII)[B"⟩ : MethodName) ∈ jj_gw := jj_mem2 (List.mem_of_getElem? (i := 41) (by decide +kernel)) (by decide +kernel)
theorem wd_282 : Cond.static (⟨"java/lang/StringUTF16", "compress", "([BII)[B"⟩ : MethodName) ∈ jj_gw := jj_mem2 (List.mem_of_getElem? (i := 42) (by decide +kernel)) (by decide +kernel)
theorem wd_283 : Cond.code (⟨"java/lang/StringUTF16", "compress", "([BII)[B"⟩ : MethodName) prog_20_method_17_code (6 : Nat) (Option.some (FieldType.array FieldType.byte)) ∈ jj_gw := jj_mem2 (List.mem_of_getElem? (i := 43) (by decide +kernel)) (by decide +kernel)
theorem wd_284 : Cond.methodLink "java/lang/StringUTF16" (123 : Nat) (⟨"java/lang/StringUTF16", "compress", "([BI[BII)I"⟩ : MethodName) ∈ jj_gw := jj_mem2 (List.mem_of_getElem? (i := 44) (by decide +kernel)) (by decide +kernel)
theorem wd_285 : Cond.static (⟨"java/lang/StringUTF16", "compress", "([BI[BII)I"⟩ : MethodName) ∈ jj_gw := jj_mem2 (List.mem_of_getElem? (i := 45) (by decide +kernel)) (by decide +kernel)
theorem wd_286 : Cond.code (⟨"java/lang/StringUTF16", "compress", "([BI[BII)I"⟩ : MethodName) prog_20_method_22_code (7 : Nat) (Option.some FieldType.int) ∈ jj_gw := jj_mem2 (List.mem_of_getElem? (i := 46) (by decide +kernel)) (by decide +kernel)
theorem wd_287 : Cond.methodLink "java/lang/StringUTF16" (71 : Nat) (⟨"java/lang/StringUTF16", "getChar", "([BI)C"⟩ : MethodName) ∈ jj_gw := jj_mem2 (List.mem_of_getElem? (i := 47) (by decide +kernel)) (by decide +kernel)
theorem wd_288 : Cond.static (⟨"java/lang/StringUTF16", "getChar", "([BI)C"⟩ : MethodName) ∈ jj_gw := jj_mem2 (List.mem_of_getElem? (i := 48) (by decide +kernel)) (by decide +kernel)
theorem wd_289 : Cond.code (⟨"java/lang/StringUTF16", "getChar", "([BI)C"⟩ : MethodName) prog_20_method_5_code (2 : Nat) (Option.some FieldType.char) ∈ jj_gw := jj_mem2 (List.mem_of_getElem? (i := 49) (by decide +kernel)) (by decide +kernel)
theorem wd_290 : Cond.methodLink "java/lang/StringUTF16" (126 : Nat) (⟨"java/util/Arrays", "copyOfRange", "([BII)[B"⟩ : MethodName) ∈ jj_gw := jj_mem2 (List.mem_of_getElem? (i := 50) (by decide +kernel)) (by decide +kernel)
theorem wd_291 : Cond.methodLink "java/lang/String" (47 : Nat) (⟨"java/lang/StringUTF16", "coderFromArrayLen", "([BI)B"⟩ : MethodName) ∈ jj_gw := jj_mem2 (List.mem_of_getElem? (i := 51) (by decide +kernel)) (by decide +kernel)
theorem wd_292 : Cond.static (⟨"java/lang/StringUTF16", "coderFromArrayLen", "([BI)B"⟩ : MethodName) ∈ jj_gw := jj_mem2 (List.mem_of_getElem? (i := 52) (by decide +kernel)) (by decide +kernel)
theorem wd_293 : Cond.code (⟨"java/lang/StringUTF16", "coderFromArrayLen", "([BI)B"⟩ : MethodName) prog_20_method_15_code (2 : Nat) (Option.some FieldType.byte) ∈ jj_gw := jj_mem2 (List.mem_of_getElem? (i := 53) (by decide +kernel)) (by decide +kernel)
theorem wd_294 : Cond.fieldLink "java/lang/String" (9 : Nat) "java/lang/String" "value" "[B" ∈ jj_gw := jj_mem2 (List.mem_of_getElem? (i := 54) (by decide +kernel)) (by decide +kernel)
theorem wd_295 : Cond.fieldLink "java/lang/String" (15 : Nat) "java/lang/String" "coder" "B" ∈ jj_gw := jj_mem2 (List.mem_of_getElem? (i := 55) (by decide +kernel)) (by decide +kernel)
theorem wd_296 : Cond.laysFinal "java/lang/String" "java/lang/String" "value" "[B" ∈ jj_gw := jj_mem2 (List.mem_of_getElem? (i := 56) (by decide +kernel)) (by decide +kernel)
theorem wd_298 : Cond.laysFinal "java/lang/String" "java/lang/String" "coder" "B" ∈ jj_gw := jj_mem2 (List.mem_of_getElem? (i := 58) (by decide +kernel)) (by decide +kernel)
theorem wd_300 : Cond.lays "java/lang/String" "java/lang/String" "hash" "I" ∈ jj_gw := jj_mem2 (List.mem_of_getElem? (i := 60) (by decide +kernel)) (by decide +kernel)
theorem wd_302 : Cond.lays "java/lang/String" "java/lang/String" "hashIsZero" "Z" ∈ jj_gw := jj_mem2 (List.mem_of_getElem? (i := 62) (by decide +kernel)) (by decide +kernel)
theorem wd_304 : Cond.superclass "java/lang/String" "java/lang/Object" ∈ jj_gw := jj_mem2 (List.mem_of_getElem? (i := 64) (by decide +kernel)) (by decide +kernel)
theorem wd_305 : Cond.methodLink "BeanServer" (204 : Nat) (⟨"java/lang/StringBuilder", "setLength", "(I)V"⟩ : MethodName) ∈ jj_gw := jj_mem2 (List.mem_of_getElem? (i := 65) (by decide +kernel)) (by decide +kernel)
theorem wd_306 : Cond.instanceMethod (⟨"java/lang/StringBuilder", "setLength", "(I)V"⟩ : MethodName) ∈ jj_gw := jj_mem2 (List.mem_of_getElem? (i := 66) (by decide +kernel)) (by decide +kernel)
theorem wd_307 : Cond.selects "java/lang/StringBuilder" (⟨"java/lang/StringBuilder", "setLength", "(I)V"⟩ : MethodName) (⟨"java/lang/StringBuilder", "setLength", "(I)V"⟩ : MethodName) ∈ jj_gw := jj_mem2 (List.mem_of_getElem? (i := 67) (by decide +kernel)) (by decide +kernel)
theorem wd_308 : Cond.code (⟨"java/lang/StringBuilder", "setLength", "(I)V"⟩ : MethodName) prog_18_method_89_code (2 : Nat) (Option.none : Option FieldType) ∈ jj_gw := jj_mem2 (List.mem_of_getElem? (i := 68) (by decide +kernel)) (by decide +kernel)
theorem wd_309 : Cond.methodLink "java/lang/StringBuilder" (333 : Nat) (⟨"java/lang/AbstractStringBuilder", "setLength", "(I)V"⟩ : MethodName) ∈ jj_gw := jj_mem2 (List.mem_of_getElem? (i := 69) (by decide +kernel)) (by decide +kernel)
theorem wd_310 : Cond.instanceMethod (⟨"java/lang/AbstractStringBuilder", "setLength", "(I)V"⟩ : MethodName) ∈ jj_gw := jj_mem2 (List.mem_of_getElem? (i := 70) (by decide +kernel)) (by decide +kernel)
theorem wd_311 : Cond.code (⟨"java/lang/AbstractStringBuilder", "setLength", "(I)V"⟩ : MethodName) prog_13_method_13_code (2 : Nat) (Option.none : Option FieldType) ∈ jj_gw := jj_mem2 (List.mem_of_getElem? (i := 71) (by decide +kernel)) (by decide +kernel)
theorem wd_312 : Cond.methodLink "java/lang/AbstractStringBuilder" (133 : Nat) (⟨"java/lang/StringLatin1", "fillNull", "([BII)V"⟩ : MethodName) ∈ jj_gw := jj_mem2 (List.mem_of_getElem? (i := 72) (by decide +kernel)) (by decide +kernel)
theorem wd_313 : Cond.static (⟨"java/lang/StringLatin1", "fillNull", "([BII)V"⟩ : MethodName) ∈ jj_gw := jj_mem2 (List.mem_of_getElem? (i := 73) (by decide +kernel)) (by decide +kernel)
theorem wd_314 : Cond.code (⟨"java/lang/StringLatin1", "fillNull", "([BII)V"⟩ : MethodName) prog_19_method_48_code (3 : Nat) (Option.none : Option FieldType) ∈ jj_gw := jj_mem2 (List.mem_of_getElem? (i := 74) (by decide +kernel)) (by decide +kernel)
theorem wd_315 : Cond.methodLink "java/lang/StringLatin1" (236 : Nat) (⟨"java/util/Arrays", "fill", "([BIIB)V"⟩ : MethodName) ∈ jj_gw := jj_mem2 (List.mem_of_getElem? (i := 75) (by decide +kernel)) (by decide +kernel)
theorem wd_316 : Cond.static (⟨"java/util/Arrays", "fill", "([BIIB)V"⟩ : MethodName) ∈ jj_gw := jj_mem2 (List.mem_of_getElem? (i := 76) (by decide +kernel)) (by decide +kernel)
theorem wd_317 : Cond.code (⟨"java/util/Arrays", "fill", "([BIIB)V"⟩ : MethodName) prog_22_method_110_code (5 : Nat) (Option.none : Option FieldType) ∈ jj_gw := jj_mem2 (List.mem_of_getElem? (i := 77) (by decide +kernel)) (by decide +kernel)
theorem wd_318 : Cond.methodLink "java/util/Arrays" (13 : Nat) (⟨"java/util/Arrays", "rangeCheck", "(III)V"⟩ : MethodName) ∈ jj_gw := jj_mem2 (List.mem_of_getElem? (i := 78) (by decide +kernel)) (by decide +kernel)
theorem wd_319 : Cond.static (⟨"java/util/Arrays", "rangeCheck", "(III)V"⟩ : MethodName) ∈ jj_gw := jj_mem2 (List.mem_of_getElem? (i := 79) (by decide +kernel)) (by decide +kernel)
theorem wd_320 : Cond.code (⟨"java/util/Arrays", "rangeCheck", "(III)V"⟩ : MethodName) prog_22_method_30_code (3 : Nat) (Option.none : Option FieldType) ∈ jj_gw := jj_mem2 (List.mem_of_getElem? (i := 80) (by decide +kernel)) (by decide +kernel)
theorem wd_321 : Cond.methodLink "java/lang/AbstractStringBuilder" (137 : Nat) (⟨"java/lang/StringUTF16", "fillNull", "([BII)V"⟩ : MethodName) ∈ jj_gw := jj_mem2 (List.mem_of_getElem? (i := 81) (by decide +kernel)) (by decide +kernel)
theorem wd_322 : Cond.static (⟨"java/lang/StringUTF16", "fillNull", "([BII)V"⟩ : MethodName) ∈ jj_gw := jj_mem2 (List.mem_of_getElem? (i := 82) (by decide +kernel)) (by decide +kernel)
theorem wd_323 : Cond.code (⟨"java/lang/StringUTF16", "fillNull", "([BII)V"⟩ : MethodName) prog_20_method_70_code (3 : Nat) (Option.none : Option FieldType) ∈ jj_gw := jj_mem2 (List.mem_of_getElem? (i := 83) (by decide +kernel)) (by decide +kernel)
theorem wd_324 : Cond.methodLink "java/lang/StringUTF16" (380 : Nat) (⟨"java/util/Arrays", "fill", "([BIIB)V"⟩ : MethodName) ∈ jj_gw := jj_mem2 (List.mem_of_getElem? (i := 84) (by decide +kernel)) (by decide +kernel)
theorem wd_325 : Cond.methodLink "BeanServer" (143 : Nat) (⟨"BeanServer", "patternIn", "(Ljava/lang/String;)LBeanServer$Pattern;"⟩ : MethodName) ∈ jj_gw := jj_mem2 (List.mem_of_getElem? (i := 85) (by decide +kernel)) (by decide +kernel)
theorem wd_326 : Cond.static (⟨"BeanServer", "patternIn", "(Ljava/lang/String;)LBeanServer$Pattern;"⟩ : MethodName) ∈ jj_gw := jj_mem2 (List.mem_of_getElem? (i := 86) (by decide +kernel)) (by decide +kernel)
theorem wd_327 : Cond.code (⟨"BeanServer", "patternIn", "(Ljava/lang/String;)LBeanServer$Pattern;"⟩ : MethodName) prog_1_method_23_code (2 : Nat) (Option.some (FieldType.object "BeanServer$Pattern")) ∈ jj_gw := jj_mem2 (List.mem_of_getElem? (i := 87) (by decide +kernel)) (by decide +kernel)
theorem wd_328 : Cond.classLink "BeanServer" (71 : Nat) "BeanServer$Pattern" ∈ jj_gw := jj_mem2 (List.mem_of_getElem? (i := 88) (by decide +kernel)) (by decide +kernel)
theorem wd_329 : Cond.instantiable "BeanServer$Pattern" (6 : Nat) ∈ jj_gw := jj_mem2 (List.mem_of_getElem? (i := 89) (by decide +kernel)) (by decide +kernel)
theorem wd_330 : Cond.methodLink "BeanServer" (211 : Nat) (⟨"BeanServer$Pattern", "<init>", "(Ljava/lang/String;)V"⟩ : MethodName) ∈ jj_gw := jj_mem2 (List.mem_of_getElem? (i := 90) (by decide +kernel)) (by decide +kernel)
theorem wd_331 : Cond.instanceMethod (⟨"BeanServer$Pattern", "<init>", "(Ljava/lang/String;)V"⟩ : MethodName) ∈ jj_gw := jj_mem2 (List.mem_of_getElem? (i := 91) (by decide +kernel)) (by decide +kernel)
theorem wd_332 : Cond.code (⟨"BeanServer$Pattern", "<init>", "(Ljava/lang/String;)V"⟩ : MethodName) prog_7_method_1_code (2 : Nat) (Option.none : Option FieldType) ∈ jj_gw := jj_mem2 (List.mem_of_getElem? (i := 92) (by decide +kernel)) (by decide +kernel)
theorem wd_333 : Cond.methodLink "BeanServer$Pattern" (3 : Nat) (⟨"java/lang/Object", "<init>", "()V"⟩ : MethodName) ∈ jj_gw := jj_mem2 (List.mem_of_getElem? (i := 93) (by decide +kernel)) (by decide +kernel)
theorem wd_335 : Cond.fieldLink "BeanServer$Pattern" (32 : Nat) "BeanServer$Pattern" "text" "Ljava/lang/String;" ∈ jj_gw := jj_mem2 (List.mem_of_getElem? (i := 95) (by decide +kernel)) (by decide +kernel)
theorem wd_336 : Cond.fieldLink "BeanServer$Pattern" (9 : Nat) "BeanServer$Pattern" "starts" "[I" ∈ jj_gw := jj_mem2 (List.mem_of_getElem? (i := 96) (by decide +kernel)) (by decide +kernel)
theorem wd_337 : Cond.fieldLink "BeanServer$Pattern" (15 : Nat) "BeanServer$Pattern" "ends" "[I" ∈ jj_gw := jj_mem2 (List.mem_of_getElem? (i := 97) (by decide +kernel)) (by decide +kernel)
theorem wd_338 : Cond.fieldLink "BeanServer$Pattern" (18 : Nat) "BeanServer$Pattern" "domainEnd" "I" ∈ jj_gw := jj_mem2 (List.mem_of_getElem? (i := 98) (by decide +kernel)) (by decide +kernel)
theorem wd_339 : Cond.fieldLink "BeanServer$Pattern" (22 : Nat) "BeanServer$Pattern" "open" "Z" ∈ jj_gw := jj_mem2 (List.mem_of_getElem? (i := 99) (by decide +kernel)) (by decide +kernel)
theorem wd_340 : Cond.fieldLink "BeanServer$Pattern" (28 : Nat) "BeanServer$Pattern" "form" "Ljava/lang/String;" ∈ jj_gw := jj_mem2 (List.mem_of_getElem? (i := 100) (by decide +kernel)) (by decide +kernel)
theorem wd_341 : Cond.fieldLink "BeanServer" (70 : Nat) "BeanServer$Pattern" "form" "Ljava/lang/String;" ∈ jj_gw := jj_mem2 (List.mem_of_getElem? (i := 101) (by decide +kernel)) (by decide +kernel)
theorem wd_342 : Cond.laysFinal "BeanServer$Pattern" "BeanServer$Pattern" "text" "Ljava/lang/String;" ∈ jj_gw := jj_mem2 (List.mem_of_getElem? (i := 102) (by decide +kernel)) (by decide +kernel)
theorem wd_344 : Cond.laysFinal "BeanServer$Pattern" "BeanServer$Pattern" "starts" "[I" ∈ jj_gw := jj_mem2 (List.mem_of_getElem? (i := 104) (by decide +kernel)) (by decide +kernel)
theorem wd_346 : Cond.laysFinal "BeanServer$Pattern" "BeanServer$Pattern" "ends" "[I" ∈ jj_gw := jj_mem2 (List.mem_of_getElem? (i := 106) (by decide +kernel)) (by decide +kernel)
theorem wd_348 : Cond.lays "BeanServer$Pattern" "BeanServer$Pattern" "domainEnd" "I" ∈ jj_gw := jj_mem2 (List.mem_of_getElem? (i := 108) (by decide +kernel)) (by decide +kernel)
theorem wd_350 : Cond.lays "BeanServer$Pattern" "BeanServer$Pattern" "open" "Z" ∈ jj_gw := jj_mem2 (List.mem_of_getElem? (i := 110) (by decide +kernel)) (by decide +kernel)
theorem wd_352 : Cond.lays "BeanServer$Pattern" "BeanServer$Pattern" "form" "Ljava/lang/String;" ∈ jj_gw := jj_mem2 (List.mem_of_getElem? (i := 112) (by decide +kernel)) (by decide +kernel)
theorem wd_354 : Cond.superclass "BeanServer$Pattern" "java/lang/Object" ∈ jj_gw := jj_mem2 (List.mem_of_getElem? (i := 114) (by decide +kernel)) (by decide +kernel)
theorem wd_355 : Cond.methodLink "BeanServer" (212 : Nat) (⟨"BeanServer$Pattern", "parse", "()Z"⟩ : MethodName) ∈ jj_gw := jj_mem2 (List.mem_of_getElem? (i := 115) (by decide +kernel)) (by decide +kernel)
theorem wd_356 : Cond.instanceMethod (⟨"BeanServer$Pattern", "parse", "()Z"⟩ : MethodName) ∈ jj_gw := jj_mem2 (List.mem_of_getElem? (i := 116) (by decide +kernel)) (by decide +kernel)
theorem wd_357 : Cond.selects "BeanServer$Pattern" (⟨"BeanServer$Pattern", "parse", "()Z"⟩ : MethodName) (⟨"BeanServer$Pattern", "parse", "()Z"⟩ : MethodName) ∈ jj_gw := jj_mem2 (List.mem_of_getElem? (i := 117) (by decide +kernel)) (by decide +kernel)
theorem wd_358 : Cond.code (⟨"BeanServer$Pattern", "parse", "()Z"⟩ : MethodName) prog_7_method_2_code (1 : Nat) (Option.some FieldType.boolean) ∈ jj_gw := jj_mem2 (List.mem_of_getElem? (i := 118) (by decide +kernel)) (by decide +kernel)
theorem wd_359 : Cond.methodLink "BeanServer$Pattern" (35 : Nat) (⟨"BeanServer$Pattern", "rowEnd", "(I)I"⟩ : MethodName) ∈ jj_gw := jj_mem2 (List.mem_of_getElem? (i := 119) (by decide +kernel)) (by decide +kernel)
theorem wd_361 : Cond.instanceMethod (⟨"BeanServer$Pattern", "rowEnd", "(I)I"⟩ : MethodName) ∈ jj_gw := jj_mem2 (List.mem_of_getElem? (i := 121) (by decide +kernel)) (by decide +kernel)
theorem wd_362 : Cond.code (⟨"BeanServer$Pattern", "rowEnd", "(I)I"⟩ : MethodName) prog_7_method_5_code (3 : Nat) (Option.some FieldType.int) ∈ jj_gw := jj_mem2 (List.mem_of_getElem? (i := 122) (by decide +kernel)) (by decide +kernel)
theorem wd_363 : Cond.methodLink "BeanServer$Pattern" (39 : Nat) (⟨"java/lang/String", "length", "()I"⟩ : MethodName) ∈ jj_gw := jj_mem2 (List.mem_of_getElem? (i := 123) (by decide +kernel)) (by decide +kernel)
theorem wd_364 : Cond.instanceMethod (⟨"java/lang/String", "length", "()I"⟩ : MethodName) ∈ jj_gw := jj_mem2 (List.mem_of_getElem? (i := 124) (by decide +kernel)) (by decide +kernel)
theorem wd_365 : Cond.selects "java/lang/String" (⟨"java/lang/String", "length", "()I"⟩ : MethodName) (⟨"java/lang/String", "length", "()I"⟩ : MethodName) ∈ jj_gw := jj_mem2 (List.mem_of_getElem? (i := 125) (by decide +kernel)) (by decide +kernel)
theorem wd_366 : Cond.code (⟨"java/lang/String", "length", "()I"⟩ : MethodName) prog_17_method_54_code (1 : Nat) (Option.some FieldType.int) ∈ jj_gw := jj_mem2 (List.mem_of_getElem? (i := 126) (by decide +kernel)) (by decide +kernel)
theorem wd_367 : Cond.methodLink "java/lang/String" (335 : Nat) (⟨"java/lang/String", "coder", "()B"⟩ : MethodName) ∈ jj_gw := jj_mem2 (List.mem_of_getElem? (i := 127) (by decide +kernel)) (by decide +kernel)
theorem wd_368 : Cond.instanceMethod (⟨"java/lang/String", "coder", "()B"⟩ : MethodName) ∈ jj_gw := jj_mem2 (List.mem_of_getElem? (i := 128) (by decide +kernel)) (by decide +kernel)
theorem wd_369 : Cond.selects "java/lang/String" (⟨"java/lang/String", "coder", "()B"⟩ : MethodName) (⟨"java/lang/String", "coder", "()B"⟩ : MethodName) ∈ jj_gw := jj_mem2 (List.mem_of_getElem? (i := 129) (by decide +kernel)) (by decide +kernel)
theorem wd_370 : Cond.code (⟨"java/lang/String", "coder", "()B"⟩ : MethodName) prog_17_method_152_code (1 : Nat) (Option.some FieldType.byte) ∈ jj_gw := jj_mem2 (List.mem_of_getElem? (i := 130) (by decide +kernel)) (by decide +kernel)
theorem wd_371 : Cond.methodLink "BeanServer$Pattern" (45 : Nat) (⟨"java/lang/String", "charAt", "(I)C"⟩ : MethodName) ∈ jj_gw := jj_mem2 (List.mem_of_getElem? (i := 131) (by decide +kernel)) (by decide +kernel)
theorem wd_372 : Cond.instanceMethod (⟨"java/lang/String", "charAt", "(I)C"⟩ : MethodName) ∈ jj_gw := jj_mem2 (List.mem_of_getElem? (i := 132) (by decide +kernel)) (by decide +kernel)
theorem wd_373 : Cond.selects "java/lang/String" (⟨"java/lang/String", "charAt", "(I)C"⟩ : MethodName) (⟨"java/lang/String", "charAt", "(I)C"⟩ : MethodName) ∈ jj_gw := jj_mem2 (List.mem_of_getElem? (i := 133) (by decide +kernel)) (by decide +kernel)
theorem wd_374 : Cond.code (⟨"java/lang/String", "charAt", "(I)C"⟩ : MethodName) prog_17_method_56_code (2 : Nat) (Option.some FieldType.char) ∈ jj_gw := jj_mem2 (List.mem_of_getElem? (i := 134) (by decide +kernel)) (by decide +kernel)
theorem wd_375 : Cond.methodLink "java/lang/String" (492 : Nat) (⟨"java/lang/String", "isLatin1", "()Z"⟩ : MethodName) ∈ jj_gw := jj_mem2 (List.mem_of_getElem? (i := 135) (by decide +kernel)) (by decide +kernel)
theorem wd_376 : Cond.instanceMethod (⟨"java/lang/String", "isLatin1", "()Z"⟩ : MethodName) ∈ jj_gw := jj_mem2 (List.mem_of_getElem? (i := 136) (by decide +kernel)) (by decide +kernel)
theorem wd_377 : Cond.selects "java/lang/String" (⟨"java/lang/String", "isLatin1", "()Z"⟩ : MethodName) (⟨"java/lang/String", "isLatin1", "()Z"⟩ : MethodName) ∈ jj_gw := jj_mem2 (List.mem_of_getElem? (i := 137) (by decide +kernel)) (by decide +kernel)
theorem wd_378 : Cond.code (⟨"java/lang/String", "isLatin1", "()Z"⟩ : MethodName) prog_17_method_154_code (1 : Nat) (Option.some FieldType.boolean) ∈ jj_gw := jj_mem2 (List.mem_of_getElem? (i := 138) (by decide +kernel)) (by decide +kernel)
theorem wd_379 : Cond.methodLink "java/lang/String" (495 : Nat) (⟨"java/lang/StringLatin1", "charAt", "([BI)C"⟩ : MethodName) ∈ jj_gw := jj_mem2 (List.mem_of_getElem? (i := 139) (by decide +kernel)) (by decide +kernel)
theorem wd_380 : Cond.static (⟨"java/lang/StringLatin1", "charAt", "([BI)C"⟩ : MethodName) ∈ jj_gw := jj_mem2 (List.mem_of_getElem? (i := 140) (by decide +kernel)) (by decide +kernel)
theorem wd_381 : Cond.code (⟨"java/lang/StringLatin1", "charAt", "([BI)C"⟩ : MethodName) prog_19_method_2_code (2 : Nat) (Option.some FieldType.char) ∈ jj_gw := jj_mem2 (List.mem_of_getElem? (i := 141) (by decide +kernel)) (by decide +kernel)
theorem wd_382 : Cond.methodLink "java/lang/StringLatin1" (9 : Nat) (⟨"java/lang/String", "checkIndex", "(II)V"⟩ : MethodName) ∈ jj_gw := jj_mem2 (List.mem_of_getElem? (i := 142) (by decide +kernel)) (by decide +kernel)
theorem wd_383 : Cond.methodLink "java/lang/String" (498 : Nat) (⟨"java/lang/StringUTF16", "charAt", "([BI)C"⟩ : MethodName) ∈ jj_gw := jj_mem2 (List.mem_of_getElem? (i := 143) (by decide +kernel)) (by decide +kernel)
theorem wd_384 : Cond.static (⟨"java/lang/StringUTF16", "charAt", "([BI)C"⟩ : MethodName) ∈ jj_gw := jj_mem2 (List.mem_of_getElem? (i := 144) (by decide +kernel)) (by decide +kernel)
theorem wd_385 : Cond.code (⟨"java/lang/StringUTF16", "charAt", "([BI)C"⟩ : MethodName) prog_20_method_83_code (2 : Nat) (Option.some FieldType.char) ∈ jj_gw := jj_mem2 (List.mem_of_getElem? (i := 145) (by decide +kernel)) (by decide +kernel)
theorem wd_386 : Cond.methodLink "BeanServer$Pattern" (64 : Nat) (⟨"BeanServer$Pattern", "isRowCharacter", "(C)Z"⟩ : MethodName) ∈ jj_gw := jj_mem2 (List.mem_of_getElem? (i := 146) (by decide +kernel)) (by decide +kernel)
theorem wd_387 : Cond.static (⟨"BeanServer$Pattern", "isRowCharacter", "(C)Z"⟩ : MethodName) ∈ jj_gw := jj_mem2 (List.mem_of_getElem? (i := 147) (by decide +kernel)) (by decide +kernel)
theorem wd_388 : Cond.code (⟨"BeanServer$Pattern", "isRowCharacter", "(C)Z"⟩ : MethodName) prog_7_method_6_code (1 : Nat) (Option.some FieldType.boolean) ∈ jj_gw := jj_mem2 (List.mem_of_getElem? (i := 148) (by decide +kernel)) (by decide +kernel)
theorem wd_389 : Cond.methodLink "BeanServer$Pattern" (49 : Nat) (⟨"BeanServer$Pattern", "parseList", "(I)Z"⟩ : MethodName) ∈ jj_gw := jj_mem2 (List.mem_of_getElem? (i := 149) (by decide +kernel)) (by decide +kernel)
theorem wd_391 : Cond.instanceMethod (⟨"BeanServer$Pattern", "parseList", "(I)Z"⟩ : MethodName) ∈ jj_gw := jj_mem2 (List.mem_of_getElem? (i := 151) (by decide +kernel)) (by decide +kernel)
theorem wd_392 : Cond.code (⟨"BeanServer$Pattern", "parseList", "(I)Z"⟩ : MethodName) prog_7_method_7_code (5 : Nat) (Option.some FieldType.boolean) ∈ jj_gw := jj_mem2 (List.mem_of_getElem? (i := 152) (by decide +kernel)) (by decide +kernel)
theorem wd_393 : Cond.methodLink "BeanServer$Pattern" (68 : Nat) (⟨"BeanServer$Pattern", "parseProperty", "(I)I"⟩ : MethodName) ∈ jj_gw := jj_mem2 (List.mem_of_getElem? (i := 153) (by decide +kernel)) (by decide +kernel)
theorem wd_395 : Cond.instanceMethod (⟨"BeanServer$Pattern", "parseProperty", "(I)I"⟩ : MethodName) ∈ jj_gw := jj_mem2 (List.mem_of_getElem? (i := 155) (by decide +kernel)) (by decide +kernel)
theorem wd_396 : Cond.code (⟨"BeanServer$Pattern", "parseProperty", "(I)I"⟩ : MethodName) prog_7_method_8_code (5 : Nat) (Option.some FieldType.int) ∈ jj_gw := jj_mem2 (List.mem_of_getElem? (i := 156) (by decide +kernel)) (by decide +kernel)
theorem wd_397 : Cond.methodLink "BeanServer$Pattern" (53 : Nat) (⟨"BeanServer$Pattern", "ordered", "()Ljava/lang/String;"⟩ : MethodName) ∈ jj_gw := jj_mem2 (List.mem_of_getElem? (i := 157) (by decide +kernel)) (by decide +kernel)
theorem wd_399 : Cond.instanceMethod (⟨"BeanServer$Pattern", "ordered", "()Ljava/lang/String;"⟩ : MethodName) ∈ jj_gw := jj_mem2 (List.mem_of_getElem? (i := 159) (by decide +kernel)) (by decide +kernel)
theorem wd_400 : Cond.code (⟨"BeanServer$Pattern", "ordered", "()Ljava/lang/String;"⟩ : MethodName) prog_7_method_9_code (4 : Nat) (Option.some (FieldType.object "java/lang/String")) ∈ jj_gw := jj_mem2 (List.mem_of_getElem? (i := 160) (by decide +kernel)) (by decide +kernel)
theorem wd_401 : Cond.classLink "BeanServer$Pattern" (71 : Nat) "java/lang/StringBuilder" ∈ jj_gw := jj_mem2 (List.mem_of_getElem? (i := 161) (by decide +kernel)) (by decide +kernel)
theorem wd_402 : Cond.methodLink "BeanServer$Pattern" (73 : Nat) (⟨"java/lang/StringBuilder", "<init>", "()V"⟩ : MethodName) ∈ jj_gw := jj_mem2 (List.mem_of_getElem? (i := 162) (by decide +kernel)) (by decide +kernel)
theorem wd_403 : Cond.methodLink "BeanServer$Pattern" (74 : Nat) (⟨"BeanServer$Pattern", "copy", "(IILjava/lang/StringBuilder;)V"⟩ : MethodName) ∈ jj_gw := jj_mem2 (List.mem_of_getElem? (i := 163) (by decide +kernel)) (by decide +kernel)
theorem wd_405 : Cond.instanceMethod (⟨"BeanServer$Pattern", "copy", "(IILjava/lang/StringBuilder;)V"⟩ : MethodName) ∈ jj_gw := jj_mem2 (List.mem_of_getElem? (i := 165) (by decide +kernel)) (by decide +kernel)
theorem wd_406 : Cond.code (⟨"BeanServer$Pattern", "copy", "(IILjava/lang/StringBuilder;)V"⟩ : MethodName) prog_7_method_10_code (5 : Nat) (Option.none : Option FieldType) ∈ jj_gw := jj_mem2 (List.mem_of_getElem? (i := 166) (by decide +kernel)) (by decide +kernel)
theorem wd_407 : Cond.methodLink "BeanServer$Pattern" (83 : Nat) (⟨"java/lang/StringBuilder", "append", "(C)Ljava/lang/StringBuilder;"⟩ : MethodName) ∈ jj_gw := jj_mem2 (List.mem_of_getElem? (i := 167) (by decide +kernel)) (by decide +kernel)
theorem wd_408 : Cond.methodLink "BeanServer$Pattern" (78 : Nat) (⟨"java/lang/StringBuilder", "length", "()I"⟩ : MethodName) ∈ jj_gw := jj_mem2 (List.mem_of_getElem? (i := 168) (by decide +kernel)) (by decide +kernel)
theorem wd_409 : Cond.methodLink "BeanServer$Pattern" (79 : Nat) (⟨"BeanServer$Pattern", "separate", "(ILjava/lang/StringBuilder;)V"⟩ : MethodName) ∈ jj_gw := jj_mem2 (List.mem_of_getElem? (i := 169) (by decide +kernel)) (by decide +kernel)
theorem wd_410 : Cond.static (⟨"BeanServer$Pattern", "separate", "(ILjava/lang/StringBuilder;)V"⟩ : MethodName) ∈ jj_gw := jj_mem2 (List.mem_of_getElem? (i := 170) (by decide +kernel)) (by decide +kernel)
theorem wd_411 : Cond.code (⟨"BeanServer$Pattern", "separate", "(ILjava/lang/StringBuilder;)V"⟩ : MethodName) prog_7_method_11_code (2 : Nat) (Option.none : Option FieldType) ∈ jj_gw := jj_mem2 (List.mem_of_getElem? (i := 171) (by decide +kernel)) (by decide +kernel)
theorem wd_412 : Cond.methodLink "BeanServer$Pattern" (87 : Nat) (⟨"java/lang/StringBuilder", "toString", "()Ljava/lang/String;"⟩ : MethodName) ∈ jj_gw := jj_mem2 (List.mem_of_getElem? (i := 172) (by decide +kernel)) (by decide +kernel)
theorem wd_413 : Cond.methodLink "BeanServer" (208 : Nat) (⟨"BeanServer$Pattern", "isName", "()Z"⟩ : MethodName) ∈ jj_gw := jj_mem2 (List.mem_of_getElem? (i := 173) (by decide +kernel)) (by decide +kernel)
theorem wd_414 : Cond.instanceMethod (⟨"BeanServer$Pattern", "isName", "()Z"⟩ : MethodName) ∈ jj_gw := jj_mem2 (List.mem_of_getElem? (i := 174) (by decide +kernel)) (by decide +kernel)
theorem wd_415 : Cond.selects "BeanServer$Pattern" (⟨"BeanServer$Pattern", "isName", "()Z"⟩ : MethodName) (⟨"BeanServer$Pattern", "isName", "()Z"⟩ : MethodName) ∈ jj_gw := jj_mem2 (List.mem_of_getElem? (i := 175) (by decide +kernel)) (by decide +kernel)
theorem wd_416 : Cond.code (⟨"BeanServer$Pattern", "isName", "()Z"⟩ : MethodName) prog_7_method_3_code (1 : Nat) (Option.some FieldType.boolean) ∈ jj_gw := jj_mem2 (List.mem_of_getElem? (i := 176) (by decide +kernel)) (by decide +kernel)
theorem wd_417 : Cond.methodLink "BeanServer$Pattern" (57 : Nat) (⟨"java/lang/String", "indexOf", "(I)I"⟩ : MethodName) ∈ jj_gw := jj_mem2 (List.mem_of_getElem? (i := 177) (by decide +kernel)) (by decide +kernel)
theorem wd_418 : Cond.instanceMethod (⟨"java/lang/String", "indexOf", "(I)I"⟩ : MethodName) ∈ jj_gw := jj_mem2 (List.mem_of_getElem? (i := 178) (by decide +kernel)) (by decide +kernel)
theorem wd_419 : Cond.selects "java/lang/String" (⟨"java/lang/String", "indexOf", "(I)I"⟩ : MethodName) (⟨"java/lang/String", "indexOf", "(I)I"⟩ : MethodName) ∈ jj_gw := jj_mem2 (List.mem_of_getElem? (i := 179) (by decide +kernel)) (by decide +kernel)
theorem wd_420 : Cond.code (⟨"java/lang/String", "indexOf", "(I)I"⟩ : MethodName) prog_17_method_79_code (2 : Nat) (Option.some FieldType.int) ∈ jj_gw := jj_mem2 (List.mem_of_getElem? (i := 180) (by decide +kernel)) (by decide +kernel)
theorem wd_421 : Cond.methodLink "java/lang/String" (633 : Nat) (⟨"java/lang/String", "indexOf", "(II)I"⟩ : MethodName) ∈ jj_gw := jj_mem2 (List.mem_of_getElem? (i := 181) (by decide +kernel)) (by decide +kernel)
theorem wd_422 : Cond.instanceMethod (⟨"java/lang/String", "indexOf", "(II)I"⟩ : MethodName) ∈ jj_gw := jj_mem2 (List.mem_of_getElem? (i := 182) (by decide +kernel)) (by decide +kernel)
theorem wd_423 : Cond.selects "java/lang/String" (⟨"java/lang/String", "indexOf", "(II)I"⟩ : MethodName) (⟨"java/lang/String", "indexOf", "(II)I"⟩ : MethodName) ∈ jj_gw := jj_mem2 (List.mem_of_getElem? (i := 183) (by decide +kernel)) (by decide +kernel)
theorem wd_424 : Cond.code (⟨"java/lang/String", "indexOf", "(II)I"⟩ : MethodName) prog_17_method_80_code (3 : Nat) (Option.some FieldType.int) ∈ jj_gw := jj_mem2 (List.mem_of_getElem? (i := 184) (by decide +kernel)) (by decide +kernel)
theorem wd_425 : Cond.methodLink "java/lang/String" (505 : Nat) (⟨"java/lang/String", "length", "()I"⟩ : MethodName) ∈ jj_gw := jj_mem2 (List.mem_of_getElem? (i := 185) (by decide +kernel)) (by decide +kernel)
theorem wd_426 : Cond.methodLink "java/lang/String" (637 : Nat) (⟨"java/lang/StringLatin1", "indexOf", "([BIII)I"⟩ : MethodName) ∈ jj_gw := jj_mem2 (List.mem_of_getElem? (i := 186) (by decide +kernel)) (by decide +kernel)
theorem wd_427 : Cond.static (⟨"java/lang/StringLatin1", "indexOf", "([BIII)I"⟩ : MethodName) ∈ jj_gw := jj_mem2 (List.mem_of_getElem? (i := 187) (by decide +kernel)) (by decide +kernel)
theorem wd_428 : Cond.code (⟨"java/lang/StringLatin1", "indexOf", "([BIII)I"⟩ : MethodName) prog_19_method_22_code (4 : Nat) (Option.some FieldType.int) ∈ jj_gw := jj_mem2 (List.mem_of_getElem? (i := 188) (by decide +kernel)) (by decide +kernel)
theorem wd_429 : Cond.methodLink "java/lang/StringLatin1" (88 : Nat) (⟨"java/lang/StringLatin1", "canEncode", "(I)Z"⟩ : MethodName) ∈ jj_gw := jj_mem2 (List.mem_of_getElem? (i := 189) (by decide +kernel)) (by decide +kernel)
theorem wd_430 : Cond.static (⟨"java/lang/StringLatin1", "canEncode", "(I)Z"⟩ : MethodName) ∈ jj_gw := jj_mem2 (List.mem_of_getElem? (i := 190) (by decide +kernel)) (by decide +kernel)
theorem wd_431 : Cond.code (⟨"java/lang/StringLatin1", "canEncode", "(I)Z"⟩ : MethodName) prog_19_method_4_code (1 : Nat) (Option.some FieldType.boolean) ∈ jj_gw := jj_mem2 (List.mem_of_getElem? (i := 191) (by decide +kernel)) (by decide +kernel)
theorem wd_432 : Cond.methodLink "java/lang/StringLatin1" (92 : Nat) (⟨"java/lang/Math", "max", "(II)I"⟩ : MethodName) ∈ jj_gw := jj_mem2 (List.mem_of_getElem? (i := 192) (by decide +kernel)) (by decide +kernel)
theorem wd_433 : Cond.methodLink "java/lang/StringLatin1" (38 : Nat) (⟨"java/lang/Math", "min", "(II)I"⟩ : MethodName) ∈ jj_gw := jj_mem2 (List.mem_of_getElem? (i := 193) (by decide +kernel)) (by decide +kernel)
theorem wd_434 : Cond.methodLink "java/lang/StringLatin1" (95 : Nat) (⟨"java/lang/StringLatin1", "indexOfChar", "([BIII)I"⟩ : MethodName) ∈ jj_gw := jj_mem2 (List.mem_of_getElem? (i := 194) (by decide +kernel)) (by decide +kernel)
theorem wd_435 : Cond.static (⟨"java/lang/StringLatin1", "indexOfChar", "([BIII)I"⟩ : MethodName) ∈ jj_gw := jj_mem2 (List.mem_of_getElem? (i := 195) (by decide +kernel)) (by decide +kernel)
theorem wd_436 : Cond.code (⟨"java/lang/StringLatin1", "indexOfChar", "([BIII)I"⟩ : MethodName) prog_19_method_23_code (6 : Nat) (Option.some FieldType.int) ∈ jj_gw := jj_mem2 (List.mem_of_getElem? (i := 196) (by decide +kernel)) (by decide +kernel)
theorem wd_437 : Cond.methodLink "java/lang/String" (640 : Nat) (⟨"java/lang/StringUTF16", "indexOf", "([BIII)I"⟩ : MethodName) ∈ jj_gw := jj_mem2 (List.mem_of_getElem? (i := 197) (by decide +kernel)) (by decide +kernel)
theorem wd_438 : Cond.static (⟨"java/lang/StringUTF16", "indexOf", "([BIII)I"⟩ : MethodName) ∈ jj_gw := jj_mem2 (List.mem_of_getElem? (i := 198) (by decide +kernel)) (by decide +kernel)
theorem wd_439 : Cond.code (⟨"java/lang/StringUTF16", "indexOf", "([BIII)I"⟩ : MethodName) prog_20_method_40_code (4 : Nat) (Option.some FieldType.int) ∈ jj_gw := jj_mem2 (List.mem_of_getElem? (i := 199) (by decide +kernel)) (by decide +kernel)
theorem wd_440 : Cond.methodLink "java/lang/StringUTF16" (224 : Nat) (⟨"java/lang/Math", "max", "(II)I"⟩ : MethodName) ∈ jj_gw := jj_mem2 (List.mem_of_getElem? (i := 200) (by decide +kernel)) (by decide +kernel)
theorem wd_441 : Cond.methodLink "java/lang/StringUTF16" (183 : Nat) (⟨"java/lang/Math", "min", "(II)I"⟩ : MethodName) ∈ jj_gw := jj_mem2 (List.mem_of_getElem? (i := 201) (by decide +kernel)) (by decide +kernel)
theorem wd_442 : Cond.constant "java/lang/StringUTF16" (227 : Nat) (65536 : Int32) ∈ jj_gw := jj_mem2 (List.mem_of_getElem? (i := 202) (by decide +kernel)) (by decide +kernel)
theorem wd_443 : Cond.methodLink "java/lang/StringUTF16" (228 : Nat) (⟨"java/lang/StringUTF16", "indexOfChar", "([BIII)I"⟩ : MethodName) ∈ jj_gw := jj_mem2 (List.mem_of_getElem? (i := 203) (by decide +kernel)) (by decide +kernel)
theorem wd_444 : Cond.static (⟨"java/lang/StringUTF16", "indexOfChar", "([BIII)I"⟩ : MethodName) ∈ jj_gw := jj_mem2 (List.mem_of_getElem? (i := 204) (by decide +kernel)) (by decide +kernel)
theorem wd_445 : Cond.code (⟨"java/lang/StringUTF16", "indexOfChar", "([BIII)I"⟩ : MethodName) prog_20_method_47_code (4 : Nat) (Option.some FieldType.int) ∈ jj_gw := jj_mem2 (List.mem_of_getElem? (i := 205) (by decide +kernel)) (by decide +kernel)
theorem wd_446 : Cond.methodLink "java/lang/StringUTF16" (96 : Nat) (⟨"java/lang/StringUTF16", "checkBoundsBeginEnd", "(II[B)V"⟩ : MethodName) ∈ jj_gw := jj_mem2 (List.mem_of_getElem? (i := 206) (by decide +kernel)) (by decide +kernel)
theorem wd_447 : Cond.static (⟨"java/lang/StringUTF16", "checkBoundsBeginEnd", "(II[B)V"⟩ : MethodName) ∈ jj_gw := jj_mem2 (List.mem_of_getElem? (i := 207) (by decide +kernel)) (by decide +kernel)
theorem wd_448 : Cond.code (⟨"java/lang/StringUTF16", "checkBoundsBeginEnd", "(II[B)V"⟩ : MethodName) prog_20_method_93_code (3 : Nat) (Option.none : Option FieldType) ∈ jj_gw := jj_mem2 (List.mem_of_getElem? (i := 208) (by decide +kernel)) (by decide +kernel)
theorem wd_449 : Cond.methodLink "java/lang/StringUTF16" (241 : Nat) (⟨"java/lang/String", "checkBoundsBeginEnd", "(III)V"⟩ : MethodName) ∈ jj_gw := jj_mem2 (List.mem_of_getElem? (i := 209) (by decide +kernel)) (by decide +kernel)
theorem wd_450 : Cond.static (⟨"java/lang/String", "checkBoundsBeginEnd", "(III)V"⟩ : MethodName) ∈ jj_gw := jj_mem2 (List.mem_of_getElem? (i := 210) (by decide +kernel)) (by decide +kernel)
theorem wd_451 : Cond.code (⟨"java/lang/String", "checkBoundsBeginEnd", "(III)V"⟩ : MethodName) prog_17_method_158_code (3 : Nat) (Option.none : Option FieldType) ∈ jj_gw := jj_mem2 (List.mem_of_getElem? (i := 211) (by decide +kernel)) (by decide +kernel)
theorem wd_452 : Cond.methodLink "java/lang/String" (1062 : Nat) (⟨"jdk/internal/util/Preconditions", "checkFromToIndex", "(IIILjava/util/function/BiFunction;)I"⟩ : MethodName) ∈ jj_gw := jj_mem2 (List.mem_of_getElem? (i := 212) (by decide +kernel)) (by decide +kernel)
theorem wd_453 : Cond.static (⟨"jdk/internal/util/Preconditions", "checkFromToIndex", "(IIILjava/util/function/BiFunction;)I"⟩ : MethodName) ∈ jj_gw := jj_mem2 (List.mem_of_getElem? (i := 213) (by decide +kernel)) (by decide +kernel)
theorem wd_454 : Cond.code (⟨"jdk/internal/util/Preconditions", "checkFromToIndex", "(IIILjava/util/function/BiFunction;)I"⟩ : MethodName) prog_24_method_12_code (4 : Nat) (Option.some FieldType.int) ∈ jj_gw := jj_mem2 (List.mem_of_getElem? (i := 214) (by decide +kernel)) (by decide +kernel)
theorem wd_455 : Cond.methodLink "java/lang/StringUTF16" (244 : Nat) (⟨"java/lang/StringUTF16", "indexOfCharUnsafe", "([BIII)I"⟩ : MethodName) ∈ jj_gw := jj_mem2 (List.mem_of_getElem? (i := 215) (by decide +kernel)) (by decide +kernel)
theorem wd_456 : Cond.static (⟨"java/lang/StringUTF16", "indexOfCharUnsafe", "([BIII)I"⟩ : MethodName) ∈ jj_gw := jj_mem2 (List.mem_of_getElem? (i := 216) (by decide +kernel)) (by decide +kernel)
theorem wd_457 : Cond.code (⟨"java/lang/StringUTF16", "indexOfCharUnsafe", "([BIII)I"⟩ : MethodName) prog_20_method_48_code (5 : Nat) (Option.some FieldType.int) ∈ jj_gw := jj_mem2 (List.mem_of_getElem? (i := 217) (by decide +kernel)) (by decide +kernel)
theorem wd_458 : Cond.methodLink "java/lang/StringUTF16" (232 : Nat) (⟨"java/lang/StringUTF16", "indexOfSupplementary", "([BIII)I"⟩ : MethodName) ∈ jj_gw := jj_mem2 (List.mem_of_getElem? (i := 218) (by decide +kernel)) (by decide +kernel)
theorem wd_459 : Cond.static (⟨"java/lang/StringUTF16", "indexOfSupplementary", "([BIII)I"⟩ : MethodName) ∈ jj_gw := jj_mem2 (List.mem_of_getElem? (i := 219) (by decide +kernel)) (by decide +kernel)
theorem wd_460 : Cond.code (⟨"java/lang/StringUTF16", "indexOfSupplementary", "([BIII)I"⟩ : MethodName) prog_20_method_49_code (7 : Nat) (Option.some FieldType.int) ∈ jj_gw := jj_mem2 (List.mem_of_getElem? (i := 220) (by decide +kernel)) (by decide +kernel)
theorem wd_461 : Cond.methodLink "java/lang/StringUTF16" (164 : Nat) (⟨"java/lang/Character", "isValidCodePoint", "(I)Z"⟩ : MethodName) ∈ jj_gw := jj_mem2 (List.mem_of_getElem? (i := 221) (by decide +kernel)) (by decide +kernel)
theorem wd_462 : Cond.static (⟨"java/lang/Character", "isValidCodePoint", "(I)Z"⟩ : MethodName) ∈ jj_gw := jj_mem2 (List.mem_of_getElem? (i := 222) (by decide +kernel)) (by decide +kernel)
theorem wd_463 : Cond.code (⟨"java/lang/Character", "isValidCodePoint", "(I)Z"⟩ : MethodName) prog_14_method_11_code (2 : Nat) (Option.some FieldType.boolean) ∈ jj_gw := jj_mem2 (List.mem_of_getElem? (i := 223) (by decide +kernel)) (by decide +kernel)
theorem wd_464 : Cond.methodLink "java/lang/StringUTF16" (157 : Nat) (⟨"java/lang/Character", "highSurrogate", "(I)C"⟩ : MethodName) ∈ jj_gw := jj_mem2 (List.mem_of_getElem? (i := 224) (by decide +kernel)) (by decide +kernel)
theorem wd_465 : Cond.static (⟨"java/lang/Character", "highSurrogate", "(I)C"⟩ : MethodName) ∈ jj_gw := jj_mem2 (List.mem_of_getElem? (i := 225) (by decide +kernel)) (by decide +kernel)
theorem wd_466 : Cond.code (⟨"java/lang/Character", "highSurrogate", "(I)C"⟩ : MethodName) prog_14_method_28_code (1 : Nat) (Option.some FieldType.char) ∈ jj_gw := jj_mem2 (List.mem_of_getElem? (i := 226) (by decide +kernel)) (by decide +kernel)
theorem wd_467 : Cond.constant "java/lang/Character" (110 : Nat) (55232 : Int32) ∈ jj_gw := jj_mem2 (List.mem_of_getElem? (i := 227) (by decide +kernel)) (by decide +kernel)
theorem wd_468 : Cond.methodLink "java/lang/StringUTF16" (161 : Nat) (⟨"java/lang/Character", "lowSurrogate", "(I)C"⟩ : MethodName) ∈ jj_gw := jj_mem2 (List.mem_of_getElem? (i := 228) (by decide +kernel)) (by decide +kernel)
theorem wd_469 : Cond.static (⟨"java/lang/Character", "lowSurrogate", "(I)C"⟩ : MethodName) ∈ jj_gw := jj_mem2 (List.mem_of_getElem? (i := 229) (by decide +kernel)) (by decide +kernel)
theorem wd_470 : Cond.code (⟨"java/lang/Character", "lowSurrogate", "(I)C"⟩ : MethodName) prog_14_method_29_code (1 : Nat) (Option.some FieldType.char) ∈ jj_gw := jj_mem2 (List.mem_of_getElem? (i := 230) (by decide +kernel)) (by decide +kernel)
theorem wd_471 : Cond.constant "java/lang/Character" (76 : Nat) (56320 : Int32) ∈ jj_gw := jj_mem2 (List.mem_of_getElem? (i := 231) (by decide +kernel)) (by decide +kernel)
theorem wd_472 : Cond.methodLink "BeanServer" (75 : Nat) (⟨"BeanServer", "beanNamed", "(Ljava/lang/String;)I"⟩ : MethodName) ∈ jj_gw := jj_mem2 (List.mem_of_getElem? (i := 232) (by decide +kernel)) (by decide +kernel)
theorem wd_474 : Cond.instanceMethod (⟨"BeanServer", "beanNamed", "(Ljava/lang/String;)I"⟩ : MethodName) ∈ jj_gw := jj_mem2 (List.mem_of_getElem? (i := 234) (by decide +kernel)) (by decide +kernel)
theorem wd_475 : Cond.code (⟨"BeanServer", "beanNamed", "(Ljava/lang/String;)I"⟩ : MethodName) prog_1_method_29_code (3 : Nat) (Option.some FieldType.int) ∈ jj_gw := jj_mem2 (List.mem_of_getElem? (i := 235) (by decide +kernel)) (by decide +kernel)
theorem wd_476 : Cond.methodLink "BeanServer" (215 : Nat) (⟨"java/lang/String", "equals", "(Ljava/lang/Object;)Z"⟩ : MethodName) ∈ jj_gw := jj_mem2 (List.mem_of_getElem? (i := 236) (by decide +kernel)) (by decide +kernel)
theorem wd_477 : Cond.instanceMethod (⟨"java/lang/String", "equals", "(Ljava/lang/Object;)Z"⟩ : MethodName) ∈ jj_gw := jj_mem2 (List.mem_of_getElem? (i := 237) (by decide +kernel)) (by decide +kernel)
theorem wd_478 : Cond.selects "java/lang/String" (⟨"java/lang/String", "equals", "(Ljava/lang/Object;)Z"⟩ : MethodName) (⟨"java/lang/String", "equals", "(Ljava/lang/Object;)Z"⟩ : MethodName) ∈ jj_gw := jj_mem2 (List.mem_of_getElem? (i := 238) (by decide +kernel)) (by decide +kernel)
theorem wd_479 : Cond.code (⟨"java/lang/String", "equals", "(Ljava/lang/Object;)Z"⟩ : MethodName) prog_17_method_66_code (3 : Nat) (Option.some FieldType.boolean) ∈ jj_gw := jj_mem2 (List.mem_of_getElem? (i := 239) (by decide +kernel)) (by decide +kernel)
theorem wd_480 : Cond.classLink "java/lang/String" (10 : Nat) "java/lang/String" ∈ jj_gw := jj_mem3 (List.mem_of_getElem? (i := 0) (by decide +kernel)) (by decide +kernel)
theorem wd_481 : Cond.methodLink "java/lang/String" (541 : Nat) (⟨"java/lang/StringLatin1", "equals", "([B[B)Z"⟩ : MethodName) ∈ jj_gw := jj_mem3 (List.mem_of_getElem? (i := 1) (by decide +kernel)) (by decide +kernel)
theorem wd_482 : Cond.static (⟨"java/lang/StringLatin1", "equals", "([B[B)Z"⟩ : MethodName) ∈ jj_gw := jj_mem3 (List.mem_of_getElem? (i := 2) (by decide +kernel)) (by decide +kernel)
theorem wd_483 : Cond.code (⟨"java/lang/StringLatin1", "equals", "([B[B)Z"⟩ : MethodName) prog_19_method_13_code (3 : Nat) (Option.some FieldType.boolean) ∈ jj_gw := jj_mem3 (List.mem_of_getElem? (i := 3) (by decide +kernel)) (by decide +kernel)
theorem wd_484 : Cond.methodLink "BeanServer" (79 : Nat) (⟨"BeanServer", "freeBean", "()I"⟩ : MethodName) ∈ jj_gw := jj_mem3 (List.mem_of_getElem? (i := 4) (by decide +kernel)) (by decide +kernel)
theorem wd_486 : Cond.instanceMethod (⟨"BeanServer", "freeBean", "()I"⟩ : MethodName) ∈ jj_gw := jj_mem3 (List.mem_of_getElem? (i := 6) (by decide +kernel)) (by decide +kernel)
theorem wd_487 : Cond.code (⟨"BeanServer", "freeBean", "()I"⟩ : MethodName) prog_1_method_30_code (2 : Nat) (Option.some FieldType.int) ∈ jj_gw := jj_mem3 (List.mem_of_getElem? (i := 7) (by decide +kernel)) (by decide +kernel)
theorem wd_488 : Cond.instantiable "BeanServer$Bean" (3 : Nat) ∈ jj_gw := jj_mem3 (List.mem_of_getElem? (i := 8) (by decide +kernel)) (by decide +kernel)
theorem wd_489 : Cond.methodLink "BeanServer" (82 : Nat) (⟨"BeanServer$Bean", "<init>", "(LBeanServer$Pattern;)V"⟩ : MethodName) ∈ jj_gw := jj_mem3 (List.mem_of_getElem? (i := 9) (by decide +kernel)) (by decide +kernel)
theorem wd_490 : Cond.instanceMethod (⟨"BeanServer$Bean", "<init>", "(LBeanServer$Pattern;)V"⟩ : MethodName) ∈ jj_gw := jj_mem3 (List.mem_of_getElem? (i := 10) (by decide +kernel)) (by decide +kernel)
theorem wd_491 : Cond.code (⟨"BeanServer$Bean", "<init>", "(LBeanServer$Pattern;)V"⟩ : MethodName) prog_2_method_1_code (2 : Nat) (Option.none : Option FieldType) ∈ jj_gw := jj_mem3 (List.mem_of_getElem? (i := 11) (by decide +kernel)) (by decide +kernel)
theorem wd_492 : Cond.methodLink "BeanServer$Bean" (3 : Nat) (⟨"java/lang/Object", "<init>", "()V"⟩ : MethodName) ∈ jj_gw := jj_mem3 (List.mem_of_getElem? (i := 12) (by decide +kernel)) (by decide +kernel)
theorem wd_493 : Cond.fieldLink "BeanServer$Bean" (19 : Nat) "BeanServer$Bean" "name" "LBeanServer$Pattern;" ∈ jj_gw := jj_mem3 (List.mem_of_getElem? (i := 13) (by decide +kernel)) (by decide +kernel)
theorem wd_494 : Cond.fieldLink "BeanServer" (147 : Nat) "BeanServer$Bean" "name" "LBeanServer$Pattern;" ∈ jj_gw := jj_mem3 (List.mem_of_getElem? (i := 14) (by decide +kernel)) (by decide +kernel)
theorem wd_495 : Cond.fieldLink "BeanServer$Bean" (9 : Nat) "BeanServer$Bean" "values" "[I" ∈ jj_gw := jj_mem3 (List.mem_of_getElem? (i := 15) (by decide +kernel)) (by decide +kernel)
theorem wd_496 : Cond.fieldLink "BeanServer" (97 : Nat) "BeanServer$Bean" "values" "[I" ∈ jj_gw := jj_mem3 (List.mem_of_getElem? (i := 16) (by decide +kernel)) (by decide +kernel)
theorem wd_497 : Cond.fieldLink "BeanServer$QueryReader" (83 : Nat) "BeanServer$Bean" "values" "[I" ∈ jj_gw := jj_mem3 (List.mem_of_getElem? (i := 17) (by decide +kernel)) (by decide +kernel)
theorem wd_498 : Cond.fieldLink "BeanServer$Bean" (15 : Nat) "BeanServer$Bean" "present" "[Z" ∈ jj_gw := jj_mem3 (List.mem_of_getElem? (i := 18) (by decide +kernel)) (by decide +kernel)
theorem wd_499 : Cond.fieldLink "BeanServer" (100 : Nat) "BeanServer$Bean" "present" "[Z" ∈ jj_gw := jj_mem3 (List.mem_of_getElem? (i := 19) (by decide +kernel)) (by decide +kernel)
theorem wd_500 : Cond.fieldLink "BeanServer$QueryReader" (77 : Nat) "BeanServer$Bean" "present" "[Z" ∈ jj_gw := jj_mem3 (List.mem_of_getElem? (i := 20) (by decide +kernel)) (by decide +kernel)
theorem wd_501 : Cond.laysFinal "BeanServer$Bean" "BeanServer$Bean" "name" "LBeanServer$Pattern;" ∈ jj_gw := jj_mem3 (List.mem_of_getElem? (i := 21) (by decide +kernel)) (by decide +kernel)
theorem wd_503 : Cond.laysFinal "BeanServer$Bean" "BeanServer$Bean" "values" "[I" ∈ jj_gw := jj_mem3 (List.mem_of_getElem? (i := 23) (by decide +kernel)) (by decide +kernel)
theorem wd_505 : Cond.laysFinal "BeanServer$Bean" "BeanServer$Bean" "present" "[Z" ∈ jj_gw := jj_mem3 (List.mem_of_getElem? (i := 25) (by decide +kernel)) (by decide +kernel)
theorem wd_507 : Cond.superclass "BeanServer$Bean" "java/lang/Object" ∈ jj_gw := jj_mem3 (List.mem_of_getElem? (i := 27) (by decide +kernel)) (by decide +kernel)
theorem wd_508 : Cond.arrayClass FieldType.boolean ∈ jj_gw := jj_mem3 (List.mem_of_getElem? (i := 28) (by decide +kernel)) (by decide +kernel)
theorem wd_509 : Cond.methodLink "BeanServer" (85 : Nat) (⟨"BeanServer$Log", "give", "(III)V"⟩ : MethodName) ∈ jj_gw := jj_mem3 (List.mem_of_getElem? (i := 29) (by decide +kernel)) (by decide +kernel)
theorem wd_510 : Cond.instanceMethod (⟨"BeanServer$Log", "give", "(III)V"⟩ : MethodName) ∈ jj_gw := jj_mem3 (List.mem_of_getElem? (i := 30) (by decide +kernel)) (by decide +kernel)
theorem wd_511 : Cond.selects "BeanServer$Log" (⟨"BeanServer$Log", "give", "(III)V"⟩ : MethodName) (⟨"BeanServer$Log", "give", "(III)V"⟩ : MethodName) ∈ jj_gw := jj_mem3 (List.mem_of_getElem? (i := 31) (by decide +kernel)) (by decide +kernel)
theorem wd_512 : Cond.code (⟨"BeanServer$Log", "give", "(III)V"⟩ : MethodName) prog_5_method_2_code (4 : Nat) (Option.none : Option FieldType) ∈ jj_gw := jj_mem3 (List.mem_of_getElem? (i := 32) (by decide +kernel)) (by decide +kernel)
theorem wd_513 : Cond.methodLink "BeanServer$Log" (37 : Nat) (⟨"java/lang/Math", "min", "(II)I"⟩ : MethodName) ∈ jj_gw := jj_mem3 (List.mem_of_getElem? (i := 33) (by decide +kernel)) (by decide +kernel)
theorem wd_514 : Cond.methodLink "BeanServerLaw" (23 : Nat) (⟨"BeanServer", "unregister", "()I"⟩ : MethodName) ∈ jj_gw := jj_mem3 (List.mem_of_getElem? (i := 34) (by decide +kernel)) (by decide +kernel)
theorem wd_515 : Cond.instanceMethod (⟨"BeanServer", "unregister", "()I"⟩ : MethodName) ∈ jj_gw := jj_mem3 (List.mem_of_getElem? (i := 35) (by decide +kernel)) (by decide +kernel)
theorem wd_516 : Cond.selects "BeanServer" (⟨"BeanServer", "unregister", "()I"⟩ : MethodName) (⟨"BeanServer", "unregister", "()I"⟩ : MethodName) ∈ jj_gw := jj_mem3 (List.mem_of_getElem? (i := 36) (by decide +kernel)) (by decide +kernel)
theorem wd_517 : Cond.code (⟨"BeanServer", "unregister", "()I"⟩ : MethodName) prog_1_method_4_code (3 : Nat) (Option.some FieldType.int) ∈ jj_gw := jj_mem3 (List.mem_of_getElem? (i := 37) (by decide +kernel)) (by decide +kernel)
theorem wd_518 : Cond.methodLink "BeanServerLaw" (27 : Nat) (⟨"BeanServer", "find", "()I"⟩ : MethodName) ∈ jj_gw := jj_mem3 (List.mem_of_getElem? (i := 38) (by decide +kernel)) (by decide +kernel)
theorem wd_519 : Cond.instanceMethod (⟨"BeanServer", "find", "()I"⟩ : MethodName) ∈ jj_gw := jj_mem3 (List.mem_of_getElem? (i := 39) (by decide +kernel)) (by decide +kernel)
theorem wd_520 : Cond.selects "BeanServer" (⟨"BeanServer", "find", "()I"⟩ : MethodName) (⟨"BeanServer", "find", "()I"⟩ : MethodName) ∈ jj_gw := jj_mem3 (List.mem_of_getElem? (i := 40) (by decide +kernel)) (by decide +kernel)
theorem wd_521 : Cond.code (⟨"BeanServer", "find", "()I"⟩ : MethodName) prog_1_method_5_code (2 : Nat) (Option.some FieldType.int) ∈ jj_gw := jj_mem3 (List.mem_of_getElem? (i := 41) (by decide +kernel)) (by decide +kernel)
theorem wd_522 : Cond.methodLink "BeanServerLaw" (31 : Nat) (⟨"BeanServer", "set", "(III)Z"⟩ : MethodName) ∈ jj_gw := jj_mem3 (List.mem_of_getElem? (i := 42) (by decide +kernel)) (by decide +kernel)
theorem wd_523 : Cond.instanceMethod (⟨"BeanServer", "set", "(III)Z"⟩ : MethodName) ∈ jj_gw := jj_mem3 (List.mem_of_getElem? (i := 43) (by decide +kernel)) (by decide +kernel)
theorem wd_524 : Cond.selects "BeanServer" (⟨"BeanServer", "set", "(III)Z"⟩ : MethodName) (⟨"BeanServer", "set", "(III)Z"⟩ : MethodName) ∈ jj_gw := jj_mem3 (List.mem_of_getElem? (i := 44) (by decide +kernel)) (by decide +kernel)
theorem wd_525 : Cond.code (⟨"BeanServer", "set", "(III)Z"⟩ : MethodName) prog_1_method_6_code (5 : Nat) (Option.some FieldType.boolean) ∈ jj_gw := jj_mem3 (List.mem_of_getElem? (i := 45) (by decide +kernel)) (by decide +kernel)
theorem wd_526 : Cond.methodLink "BeanServer" (89 : Nat) (⟨"BeanServer", "beanAt", "(I)LBeanServer$Bean;"⟩ : MethodName) ∈ jj_gw := jj_mem3 (List.mem_of_getElem? (i := 46) (by decide +kernel)) (by decide +kernel)
theorem wd_528 : Cond.instanceMethod (⟨"BeanServer", "beanAt", "(I)LBeanServer$Bean;"⟩ : MethodName) ∈ jj_gw := jj_mem3 (List.mem_of_getElem? (i := 48) (by decide +kernel)) (by decide +kernel)
theorem wd_529 : Cond.code (⟨"BeanServer", "beanAt", "(I)LBeanServer$Bean;"⟩ : MethodName) prog_1_method_26_code (2 : Nat) (Option.some (FieldType.object "BeanServer$Bean")) ∈ jj_gw := jj_mem3 (List.mem_of_getElem? (i := 49) (by decide +kernel)) (by decide +kernel)
theorem wd_530 : Cond.methodLink "BeanServer" (93 : Nat) (⟨"BeanServer", "isAttribute", "(I)Z"⟩ : MethodName) ∈ jj_gw := jj_mem3 (List.mem_of_getElem? (i := 50) (by decide +kernel)) (by decide +kernel)
theorem wd_531 : Cond.static (⟨"BeanServer", "isAttribute", "(I)Z"⟩ : MethodName) ∈ jj_gw := jj_mem3 (List.mem_of_getElem? (i := 51) (by decide +kernel)) (by decide +kernel)
theorem wd_532 : Cond.code (⟨"BeanServer", "isAttribute", "(I)Z"⟩ : MethodName) prog_1_method_24_code (1 : Nat) (Option.some FieldType.boolean) ∈ jj_gw := jj_mem3 (List.mem_of_getElem? (i := 52) (by decide +kernel)) (by decide +kernel)
theorem wd_533 : Cond.methodLink "BeanServerLaw" (36 : Nat) (⟨"BeanServer", "unset", "(II)Z"⟩ : MethodName) ∈ jj_gw := jj_mem3 (List.mem_of_getElem? (i := 53) (by decide +kernel)) (by decide +kernel)
theorem wd_534 : Cond.instanceMethod (⟨"BeanServer", "unset", "(II)Z"⟩ : MethodName) ∈ jj_gw := jj_mem3 (List.mem_of_getElem? (i := 54) (by decide +kernel)) (by decide +kernel)
theorem wd_535 : Cond.selects "BeanServer" (⟨"BeanServer", "unset", "(II)Z"⟩ : MethodName) (⟨"BeanServer", "unset", "(II)Z"⟩ : MethodName) ∈ jj_gw := jj_mem3 (List.mem_of_getElem? (i := 55) (by decide +kernel)) (by decide +kernel)
theorem wd_536 : Cond.code (⟨"BeanServer", "unset", "(II)Z"⟩ : MethodName) prog_1_method_7_code (4 : Nat) (Option.some FieldType.boolean) ∈ jj_gw := jj_mem3 (List.mem_of_getElem? (i := 56) (by decide +kernel)) (by decide +kernel)
theorem wd_537 : Cond.methodLink "BeanServerLaw" (41 : Nat) (⟨"BeanServer", "get", "(II)I"⟩ : MethodName) ∈ jj_gw := jj_mem3 (List.mem_of_getElem? (i := 57) (by decide +kernel)) (by decide +kernel)
theorem wd_538 : Cond.instanceMethod (⟨"BeanServer", "get", "(II)I"⟩ : MethodName) ∈ jj_gw := jj_mem3 (List.mem_of_getElem? (i := 58) (by decide +kernel)) (by decide +kernel)
theorem wd_539 : Cond.selects "BeanServer" (⟨"BeanServer", "get", "(II)I"⟩ : MethodName) (⟨"BeanServer", "get", "(II)I"⟩ : MethodName) ∈ jj_gw := jj_mem3 (List.mem_of_getElem? (i := 59) (by decide +kernel)) (by decide +kernel)
theorem wd_540 : Cond.code (⟨"BeanServer", "get", "(II)I"⟩ : MethodName) prog_1_method_8_code (4 : Nat) (Option.some FieldType.int) ∈ jj_gw := jj_mem3 (List.mem_of_getElem? (i := 60) (by decide +kernel)) (by decide +kernel)
theorem wd_541 : Cond.methodLink "BeanServerLaw" (46 : Nat) (⟨"BeanServer", "define", "()I"⟩ : MethodName) ∈ jj_gw := jj_mem3 (List.mem_of_getElem? (i := 61) (by decide +kernel)) (by decide +kernel)
theorem wd_542 : Cond.instanceMethod (⟨"BeanServer", "define", "()I"⟩ : MethodName) ∈ jj_gw := jj_mem3 (List.mem_of_getElem? (i := 62) (by decide +kernel)) (by decide +kernel)
theorem wd_543 : Cond.selects "BeanServer" (⟨"BeanServer", "define", "()I"⟩ : MethodName) (⟨"BeanServer", "define", "()I"⟩ : MethodName) ∈ jj_gw := jj_mem3 (List.mem_of_getElem? (i := 63) (by decide +kernel)) (by decide +kernel)
theorem wd_544 : Cond.code (⟨"BeanServer", "define", "()I"⟩ : MethodName) prog_1_method_9_code (3 : Nat) (Option.some FieldType.int) ∈ jj_gw := jj_mem3 (List.mem_of_getElem? (i := 64) (by decide +kernel)) (by decide +kernel)
theorem wd_545 : Cond.methodLink "BeanServer" (108 : Nat) (⟨"BeanServer", "nestings", "(Ljava/lang/String;)I"⟩ : MethodName) ∈ jj_gw := jj_mem3 (List.mem_of_getElem? (i := 65) (by decide +kernel)) (by decide +kernel)
theorem wd_546 : Cond.static (⟨"BeanServer", "nestings", "(Ljava/lang/String;)I"⟩ : MethodName) ∈ jj_gw := jj_mem3 (List.mem_of_getElem? (i := 66) (by decide +kernel)) (by decide +kernel)
theorem wd_547 : Cond.code (⟨"BeanServer", "nestings", "(Ljava/lang/String;)I"⟩ : MethodName) prog_1_method_25_code (3 : Nat) (Option.some FieldType.int) ∈ jj_gw := jj_mem3 (List.mem_of_getElem? (i := 67) (by decide +kernel)) (by decide +kernel)
theorem wd_548 : Cond.methodLink "BeanServer" (126 : Nat) (⟨"java/lang/String", "length", "()I"⟩ : MethodName) ∈ jj_gw := jj_mem3 (List.mem_of_getElem? (i := 68) (by decide +kernel)) (by decide +kernel)
theorem wd_549 : Cond.methodLink "BeanServer" (163 : Nat) (⟨"java/lang/String", "charAt", "(I)C"⟩ : MethodName) ∈ jj_gw := jj_mem3 (List.mem_of_getElem? (i := 69) (by decide +kernel)) (by decide +kernel)
theorem wd_550 : Cond.classLink "BeanServer" (111 : Nat) "BeanServer$QueryReader" ∈ jj_gw := jj_mem3 (List.mem_of_getElem? (i := 70) (by decide +kernel)) (by decide +kernel)
theorem wd_551 : Cond.instantiable "BeanServer$QueryReader" (6 : Nat) ∈ jj_gw := jj_mem3 (List.mem_of_getElem? (i := 71) (by decide +kernel)) (by decide +kernel)
theorem wd_552 : Cond.methodLink "BeanServer" (113 : Nat) (⟨"BeanServer$QueryReader", "<init>", "(Ljava/lang/String;LBeanServer$Bean;)V"⟩ : MethodName) ∈ jj_gw := jj_mem3 (List.mem_of_getElem? (i := 72) (by decide +kernel)) (by decide +kernel)
theorem wd_553 : Cond.instanceMethod (⟨"BeanServer$QueryReader", "<init>", "(Ljava/lang/String;LBeanServer$Bean;)V"⟩ : MethodName) ∈ jj_gw := jj_mem3 (List.mem_of_getElem? (i := 73) (by decide +kernel)) (by decide +kernel)
theorem wd_554 : Cond.code (⟨"BeanServer$QueryReader", "<init>", "(Ljava/lang/String;LBeanServer$Bean;)V"⟩ : MethodName) prog_10_method_1_code (3 : Nat) (Option.none : Option FieldType) ∈ jj_gw := jj_mem3 (List.mem_of_getElem? (i := 74) (by decide +kernel)) (by decide +kernel)
theorem wd_555 : Cond.methodLink "BeanServer$QueryReader" (3 : Nat) (⟨"java/lang/Object", "<init>", "()V"⟩ : MethodName) ∈ jj_gw := jj_mem3 (List.mem_of_getElem? (i := 75) (by decide +kernel)) (by decide +kernel)
theorem wd_556 : Cond.methodLink "BeanServer$QueryReader" (30 : Nat) (⟨"java/lang/String", "isEmpty", "()Z"⟩ : MethodName) ∈ jj_gw := jj_mem3 (List.mem_of_getElem? (i := 76) (by decide +kernel)) (by decide +kernel)
theorem wd_557 : Cond.instanceMethod (⟨"java/lang/String", "isEmpty", "()Z"⟩ : MethodName) ∈ jj_gw := jj_mem3 (List.mem_of_getElem? (i := 77) (by decide +kernel)) (by decide +kernel)
theorem wd_558 : Cond.selects "java/lang/String" (⟨"java/lang/String", "isEmpty", "()Z"⟩ : MethodName) (⟨"java/lang/String", "isEmpty", "()Z"⟩ : MethodName) ∈ jj_gw := jj_mem3 (List.mem_of_getElem? (i := 78) (by decide +kernel)) (by decide +kernel)
theorem wd_559 : Cond.code (⟨"java/lang/String", "isEmpty", "()Z"⟩ : MethodName) prog_17_method_55_code (1 : Nat) (Option.some FieldType.boolean) ∈ jj_gw := jj_mem3 (List.mem_of_getElem? (i := 79) (by decide +kernel)) (by decide +kernel)
theorem wd_560 : Cond.methodLink "BeanServer$QueryReader" (36 : Nat) (⟨"java/lang/String", "charAt", "(I)C"⟩ : MethodName) ∈ jj_gw := jj_mem3 (List.mem_of_getElem? (i := 80) (by decide +kernel)) (by decide +kernel)
theorem wd_561 : Cond.fieldLink "BeanServer$QueryReader" (22 : Nat) "BeanServer$QueryReader" "text" "Ljava/lang/String;" ∈ jj_gw := jj_mem3 (List.mem_of_getElem? (i := 81) (by decide +kernel)) (by decide +kernel)
theorem wd_562 : Cond.fieldLink "BeanServer$QueryReader" (26 : Nat) "BeanServer$QueryReader" "bean" "LBeanServer$Bean;" ∈ jj_gw := jj_mem3 (List.mem_of_getElem? (i := 82) (by decide +kernel)) (by decide +kernel)
theorem wd_563 : Cond.fieldLink "BeanServer$QueryReader" (9 : Nat) "BeanServer$QueryReader" "at" "I" ∈ jj_gw := jj_mem3 (List.mem_of_getElem? (i := 83) (by decide +kernel)) (by decide +kernel)
theorem wd_564 : Cond.fieldLink "BeanServer" (123 : Nat) "BeanServer$QueryReader" "at" "I" ∈ jj_gw := jj_mem3 (List.mem_of_getElem? (i := 84) (by decide +kernel)) (by decide +kernel)
theorem wd_565 : Cond.fieldLink "BeanServer$QueryReader" (15 : Nat) "BeanServer$QueryReader" "wrong" "Z" ∈ jj_gw := jj_mem3 (List.mem_of_getElem? (i := 85) (by decide +kernel)) (by decide +kernel)
theorem wd_566 : Cond.fieldLink "BeanServer" (119 : Nat) "BeanServer$QueryReader" "wrong" "Z" ∈ jj_gw := jj_mem3 (List.mem_of_getElem? (i := 86) (by decide +kernel)) (by decide +kernel)
theorem wd_567 : Cond.fieldLink "BeanServer$QueryReader" (40 : Nat) "BeanServer$QueryReader" "here" "C" ∈ jj_gw := jj_mem3 (List.mem_of_getElem? (i := 87) (by decide +kernel)) (by decide +kernel)
theorem wd_568 : Cond.fieldLink "BeanServer$QueryReader" (19 : Nat) "BeanServer$QueryReader" "failed" "Z" ∈ jj_gw := jj_mem3 (List.mem_of_getElem? (i := 88) (by decide +kernel)) (by decide +kernel)
theorem wd_569 : Cond.laysFinal "BeanServer$QueryReader" "BeanServer$QueryReader" "text" "Ljava/lang/String;" ∈ jj_gw := jj_mem3 (List.mem_of_getElem? (i := 89) (by decide +kernel)) (by decide +kernel)
theorem wd_571 : Cond.laysFinal "BeanServer$QueryReader" "BeanServer$QueryReader" "bean" "LBeanServer$Bean;" ∈ jj_gw := jj_mem3 (List.mem_of_getElem? (i := 91) (by decide +kernel)) (by decide +kernel)
theorem wd_573 : Cond.lays "BeanServer$QueryReader" "BeanServer$QueryReader" "at" "I" ∈ jj_gw := jj_mem3 (List.mem_of_getElem? (i := 93) (by decide +kernel)) (by decide +kernel)
theorem wd_575 : Cond.lays "BeanServer$QueryReader" "BeanServer$QueryReader" "wrong" "Z" ∈ jj_gw := jj_mem3 (List.mem_of_getElem? (i := 95) (by decide +kernel)) (by decide +kernel)
theorem wd_577 : Cond.lays "BeanServer$QueryReader" "BeanServer$QueryReader" "here" "C" ∈ jj_gw := jj_mem3 (List.mem_of_getElem? (i := 97) (by decide +kernel)) (by decide +kernel)
theorem wd_579 : Cond.lays "BeanServer$QueryReader" "BeanServer$QueryReader" "failed" "Z" ∈ jj_gw := jj_mem3 (List.mem_of_getElem? (i := 99) (by decide +kernel)) (by decide +kernel)
theorem wd_581 : Cond.superclass "BeanServer$QueryReader" "java/lang/Object" ∈ jj_gw := jj_mem3 (List.mem_of_getElem? (i := 101) (by decide +kernel)) (by decide +kernel)
theorem wd_582 : Cond.methodLink "BeanServer" (116 : Nat) (⟨"BeanServer$QueryReader", "any", "()I"⟩ : MethodName) ∈ jj_gw := jj_mem3 (List.mem_of_getElem? (i := 102) (by decide +kernel)) (by decide +kernel)
theorem wd_583 : Cond.instanceMethod (⟨"BeanServer$QueryReader", "any", "()I"⟩ : MethodName) ∈ jj_gw := jj_mem3 (List.mem_of_getElem? (i := 103) (by decide +kernel)) (by decide +kernel)
theorem wd_584 : Cond.selects "BeanServer$QueryReader" (⟨"BeanServer$QueryReader", "any", "()I"⟩ : MethodName) (⟨"BeanServer$QueryReader", "any", "()I"⟩ : MethodName) ∈ jj_gw := jj_mem3 (List.mem_of_getElem? (i := 104) (by decide +kernel)) (by decide +kernel)
theorem wd_585 : Cond.code (⟨"BeanServer$QueryReader", "any", "()I"⟩ : MethodName) prog_10_method_2_code (4 : Nat) (Option.some FieldType.int) ∈ jj_gw := jj_mem3 (List.mem_of_getElem? (i := 105) (by decide +kernel)) (by decide +kernel)
theorem wd_586 : Cond.methodLink "BeanServer$QueryReader" (44 : Nat) (⟨"BeanServer$QueryReader", "all", "()I"⟩ : MethodName) ∈ jj_gw := jj_mem3 (List.mem_of_getElem? (i := 106) (by decide +kernel)) (by decide +kernel)
theorem wd_588 : Cond.instanceMethod (⟨"BeanServer$QueryReader", "all", "()I"⟩ : MethodName) ∈ jj_gw := jj_mem3 (List.mem_of_getElem? (i := 108) (by decide +kernel)) (by decide +kernel)
theorem wd_589 : Cond.code (⟨"BeanServer$QueryReader", "all", "()I"⟩ : MethodName) prog_10_method_3_code (4 : Nat) (Option.some FieldType.int) ∈ jj_gw := jj_mem3 (List.mem_of_getElem? (i := 109) (by decide +kernel)) (by decide +kernel)
theorem wd_590 : Cond.methodLink "BeanServer$QueryReader" (54 : Nat) (⟨"BeanServer$QueryReader", "one", "()I"⟩ : MethodName) ∈ jj_gw := jj_mem3 (List.mem_of_getElem? (i := 110) (by decide +kernel)) (by decide +kernel)
theorem wd_592 : Cond.instanceMethod (⟨"BeanServer$QueryReader", "one", "()I"⟩ : MethodName) ∈ jj_gw := jj_mem3 (List.mem_of_getElem? (i := 112) (by decide +kernel)) (by decide +kernel)
theorem wd_593 : Cond.code (⟨"BeanServer$QueryReader", "one", "()I"⟩ : MethodName) prog_10_method_4_code (4 : Nat) (Option.some FieldType.int) ∈ jj_gw := jj_mem3 (List.mem_of_getElem? (i := 113) (by decide +kernel)) (by decide +kernel)
theorem wd_594 : Cond.methodLink "BeanServer$QueryReader" (51 : Nat) (⟨"BeanServer$QueryReader", "step", "()V"⟩ : MethodName) ∈ jj_gw := jj_mem3 (List.mem_of_getElem? (i := 114) (by decide +kernel)) (by decide +kernel)
theorem wd_596 : Cond.instanceMethod (⟨"BeanServer$QueryReader", "step", "()V"⟩ : MethodName) ∈ jj_gw := jj_mem3 (List.mem_of_getElem? (i := 116) (by decide +kernel)) (by decide +kernel)
theorem wd_597 : Cond.code (⟨"BeanServer$QueryReader", "step", "()V"⟩ : MethodName) prog_10_method_10_code (1 : Nat) (Option.none : Option FieldType) ∈ jj_gw := jj_mem3 (List.mem_of_getElem? (i := 117) (by decide +kernel)) (by decide +kernel)
theorem wd_598 : Cond.methodLink "BeanServer$QueryReader" (48 : Nat) (⟨"java/lang/String", "length", "()I"⟩ : MethodName) ∈ jj_gw := jj_mem3 (List.mem_of_getElem? (i := 118) (by decide +kernel)) (by decide +kernel)
theorem wd_599 : Cond.methodLink "BeanServer$QueryReader" (57 : Nat) (⟨"BeanServer$QueryReader", "any", "()I"⟩ : MethodName) ∈ jj_gw := jj_mem3 (List.mem_of_getElem? (i := 119) (by decide +kernel)) (by decide +kernel)
theorem wd_600 : Cond.methodLink "BeanServer$QueryReader" (60 : Nat) (⟨"BeanServer$QueryReader", "sum", "()I"⟩ : MethodName) ∈ jj_gw := jj_mem3 (List.mem_of_getElem? (i := 120) (by decide +kernel)) (by decide +kernel)
theorem wd_602 : Cond.instanceMethod (⟨"BeanServer$QueryReader", "sum", "()I"⟩ : MethodName) ∈ jj_gw := jj_mem3 (List.mem_of_getElem? (i := 122) (by decide +kernel)) (by decide +kernel)
theorem wd_603 : Cond.code (⟨"BeanServer$QueryReader", "sum", "()I"⟩ : MethodName) prog_10_method_7_code (5 : Nat) (Option.some FieldType.int) ∈ jj_gw := jj_mem3 (List.mem_of_getElem? (i := 123) (by decide +kernel)) (by decide +kernel)
theorem wd_604 : Cond.methodLink "BeanServer$QueryReader" (71 : Nat) (⟨"BeanServer$QueryReader", "product", "()I"⟩ : MethodName) ∈ jj_gw := jj_mem3 (List.mem_of_getElem? (i := 124) (by decide +kernel)) (by decide +kernel)
theorem wd_606 : Cond.instanceMethod (⟨"BeanServer$QueryReader", "product", "()I"⟩ : MethodName) ∈ jj_gw := jj_mem3 (List.mem_of_getElem? (i := 126) (by decide +kernel)) (by decide +kernel)
theorem wd_607 : Cond.code (⟨"BeanServer$QueryReader", "product", "()I"⟩ : MethodName) prog_10_method_8_code (5 : Nat) (Option.some FieldType.int) ∈ jj_gw := jj_mem3 (List.mem_of_getElem? (i := 127) (by decide +kernel)) (by decide +kernel)
theorem wd_608 : Cond.methodLink "BeanServer$QueryReader" (74 : Nat) (⟨"BeanServer$QueryReader", "unit", "()I"⟩ : MethodName) ∈ jj_gw := jj_mem3 (List.mem_of_getElem? (i := 128) (by decide +kernel)) (by decide +kernel)
theorem wd_610 : Cond.instanceMethod (⟨"BeanServer$QueryReader", "unit", "()I"⟩ : MethodName) ∈ jj_gw := jj_mem3 (List.mem_of_getElem? (i := 130) (by decide +kernel)) (by decide +kernel)
theorem wd_611 : Cond.code (⟨"BeanServer$QueryReader", "unit", "()I"⟩ : MethodName) prog_10_method_9_code (3 : Nat) (Option.some FieldType.int) ∈ jj_gw := jj_mem3 (List.mem_of_getElem? (i := 131) (by decide +kernel)) (by decide +kernel)
theorem wd_612 : Cond.methodLink "BeanServer$QueryReader" (63 : Nat) (⟨"BeanServer$QueryReader", "isRelation", "(C)Z"⟩ : MethodName) ∈ jj_gw := jj_mem3 (List.mem_of_getElem? (i := 132) (by decide +kernel)) (by decide +kernel)
theorem wd_613 : Cond.static (⟨"BeanServer$QueryReader", "isRelation", "(C)Z"⟩ : MethodName) ∈ jj_gw := jj_mem3 (List.mem_of_getElem? (i := 133) (by decide +kernel)) (by decide +kernel)
theorem wd_614 : Cond.code (⟨"BeanServer$QueryReader", "isRelation", "(C)Z"⟩ : MethodName) prog_10_method_5_code (1 : Nat) (Option.some FieldType.boolean) ∈ jj_gw := jj_mem3 (List.mem_of_getElem? (i := 134) (by decide +kernel)) (by decide +kernel)
theorem wd_615 : Cond.methodLink "BeanServer$QueryReader" (67 : Nat) (⟨"BeanServer$QueryReader", "compared", "(ICI)I"⟩ : MethodName) ∈ jj_gw := jj_mem3 (List.mem_of_getElem? (i := 135) (by decide +kernel)) (by decide +kernel)
theorem wd_616 : Cond.static (⟨"BeanServer$QueryReader", "compared", "(ICI)I"⟩ : MethodName) ∈ jj_gw := jj_mem3 (List.mem_of_getElem? (i := 136) (by decide +kernel)) (by decide +kernel)
theorem wd_617 : Cond.code (⟨"BeanServer$QueryReader", "compared", "(ICI)I"⟩ : MethodName) prog_10_method_6_code (4 : Nat) (Option.some FieldType.int) ∈ jj_gw := jj_mem3 (List.mem_of_getElem? (i := 137) (by decide +kernel)) (by decide +kernel)
theorem wd_618 : Cond.instantiable "BeanServer$Query" (1 : Nat) ∈ jj_gw := jj_mem3 (List.mem_of_getElem? (i := 138) (by decide +kernel)) (by decide +kernel)
theorem wd_619 : Cond.classLink "BeanServer" (129 : Nat) "BeanServer$QueryForm" ∈ jj_gw := jj_mem3 (List.mem_of_getElem? (i := 139) (by decide +kernel)) (by decide +kernel)
theorem wd_620 : Cond.instantiable "BeanServer$QueryForm" (4 : Nat) ∈ jj_gw := jj_mem3 (List.mem_of_getElem? (i := 140) (by decide +kernel)) (by decide +kernel)
theorem wd_621 : Cond.methodLink "BeanServer" (131 : Nat) (⟨"BeanServer$QueryForm", "<init>", "(Ljava/lang/String;)V"⟩ : MethodName) ∈ jj_gw := jj_mem3 (List.mem_of_getElem? (i := 141) (by decide +kernel)) (by decide +kernel)
theorem wd_622 : Cond.instanceMethod (⟨"BeanServer$QueryForm", "<init>", "(Ljava/lang/String;)V"⟩ : MethodName) ∈ jj_gw := jj_mem3 (List.mem_of_getElem? (i := 142) (by decide +kernel)) (by decide +kernel)
theorem wd_623 : Cond.code (⟨"BeanServer$QueryForm", "<init>", "(Ljava/lang/String;)V"⟩ : MethodName) prog_9_method_1_code (2 : Nat) (Option.none : Option FieldType) ∈ jj_gw := jj_mem3 (List.mem_of_getElem? (i := 143) (by decide +kernel)) (by decide +kernel)
theorem wd_624 : Cond.methodLink "BeanServer$QueryForm" (3 : Nat) (⟨"java/lang/Object", "<init>", "()V"⟩ : MethodName) ∈ jj_gw := jj_mem3 (List.mem_of_getElem? (i := 144) (by decide +kernel)) (by decide +kernel)
theorem wd_625 : Cond.classLink "BeanServer$QueryForm" (9 : Nat) "java/lang/StringBuilder" ∈ jj_gw := jj_mem3 (List.mem_of_getElem? (i := 145) (by decide +kernel)) (by decide +kernel)
theorem wd_626 : Cond.methodLink "BeanServer$QueryForm" (11 : Nat) (⟨"java/lang/StringBuilder", "<init>", "()V"⟩ : MethodName) ∈ jj_gw := jj_mem3 (List.mem_of_getElem? (i := 146) (by decide +kernel)) (by decide +kernel)
theorem wd_627 : Cond.fieldLink "BeanServer$QueryForm" (26 : Nat) "BeanServer$QueryForm" "text" "Ljava/lang/String;" ∈ jj_gw := jj_mem3 (List.mem_of_getElem? (i := 147) (by decide +kernel)) (by decide +kernel)
theorem wd_628 : Cond.fieldLink "BeanServer$QueryForm" (12 : Nat) "BeanServer$QueryForm" "out" "Ljava/lang/StringBuilder;" ∈ jj_gw := jj_mem3 (List.mem_of_getElem? (i := 148) (by decide +kernel)) (by decide +kernel)
theorem wd_629 : Cond.fieldLink "BeanServer$QueryForm" (18 : Nat) "BeanServer$QueryForm" "opens" "[I" ∈ jj_gw := jj_mem3 (List.mem_of_getElem? (i := 149) (by decide +kernel)) (by decide +kernel)
theorem wd_630 : Cond.fieldLink "BeanServer$QueryForm" (22 : Nat) "BeanServer$QueryForm" "depth" "I" ∈ jj_gw := jj_mem3 (List.mem_of_getElem? (i := 150) (by decide +kernel)) (by decide +kernel)
theorem wd_631 : Cond.laysFinal "BeanServer$QueryForm" "BeanServer$QueryForm" "text" "Ljava/lang/String;" ∈ jj_gw := jj_mem3 (List.mem_of_getElem? (i := 151) (by decide +kernel)) (by decide +kernel)
theorem wd_633 : Cond.laysFinal "BeanServer$QueryForm" "BeanServer$QueryForm" "out" "Ljava/lang/StringBuilder;" ∈ jj_gw := jj_mem3 (List.mem_of_getElem? (i := 153) (by decide +kernel)) (by decide +kernel)
theorem wd_635 : Cond.laysFinal "BeanServer$QueryForm" "BeanServer$QueryForm" "opens" "[I" ∈ jj_gw := jj_mem3 (List.mem_of_getElem? (i := 155) (by decide +kernel)) (by decide +kernel)
theorem wd_637 : Cond.lays "BeanServer$QueryForm" "BeanServer$QueryForm" "depth" "I" ∈ jj_gw := jj_mem3 (List.mem_of_getElem? (i := 157) (by decide +kernel)) (by decide +kernel)
theorem wd_639 : Cond.superclass "BeanServer$QueryForm" "java/lang/Object" ∈ jj_gw := jj_mem3 (List.mem_of_getElem? (i := 159) (by decide +kernel)) (by decide +kernel)
theorem wd_640 : Cond.methodLink "BeanServer" (134 : Nat) (⟨"BeanServer$QueryForm", "written", "()Ljava/lang/String;"⟩ : MethodName) ∈ jj_gw := jj_mem3 (List.mem_of_getElem? (i := 160) (by decide +kernel)) (by decide +kernel)
theorem wd_641 : Cond.instanceMethod (⟨"BeanServer$QueryForm", "written", "()Ljava/lang/String;"⟩ : MethodName) ∈ jj_gw := jj_mem3 (List.mem_of_getElem? (i := 161) (by decide +kernel)) (by decide +kernel)
theorem wd_642 : Cond.selects "BeanServer$QueryForm" (⟨"BeanServer$QueryForm", "written", "()Ljava/lang/String;"⟩ : MethodName) (⟨"BeanServer$QueryForm", "written", "()Ljava/lang/String;"⟩ : MethodName) ∈ jj_gw := jj_mem3 (List.mem_of_getElem? (i := 162) (by decide +kernel)) (by decide +kernel)
theorem wd_643 : Cond.code (⟨"BeanServer$QueryForm", "written", "()Ljava/lang/String;"⟩ : MethodName) prog_9_method_2_code (4 : Nat) (Option.some (FieldType.object "java/lang/String")) ∈ jj_gw := jj_mem3 (List.mem_of_getElem? (i := 163) (by decide +kernel)) (by decide +kernel)
theorem wd_644 : Cond.methodLink "BeanServer$QueryForm" (30 : Nat) (⟨"java/lang/String", "length", "()I"⟩ : MethodName) ∈ jj_gw := jj_mem3 (List.mem_of_getElem? (i := 164) (by decide +kernel)) (by decide +kernel)
theorem wd_645 : Cond.methodLink "BeanServer$QueryForm" (36 : Nat) (⟨"java/lang/String", "charAt", "(I)C"⟩ : MethodName) ∈ jj_gw := jj_mem3 (List.mem_of_getElem? (i := 165) (by decide +kernel)) (by decide +kernel)
theorem wd_646 : Cond.methodLink "BeanServer$QueryForm" (40 : Nat) (⟨"BeanServer$QueryForm", "openParenthesis", "()V"⟩ : MethodName) ∈ jj_gw := jj_mem3 (List.mem_of_getElem? (i := 166) (by decide +kernel)) (by decide +kernel)
theorem wd_648 : Cond.instanceMethod (⟨"BeanServer$QueryForm", "openParenthesis", "()V"⟩ : MethodName) ∈ jj_gw := jj_mem3 (List.mem_of_getElem? (i := 168) (by decide +kernel)) (by decide +kernel)
theorem wd_649 : Cond.code (⟨"BeanServer$QueryForm", "openParenthesis", "()V"⟩ : MethodName) prog_9_method_3_code (1 : Nat) (Option.none : Option FieldType) ∈ jj_gw := jj_mem3 (List.mem_of_getElem? (i := 169) (by decide +kernel)) (by decide +kernel)
theorem wd_650 : Cond.methodLink "BeanServer$QueryForm" (51 : Nat) (⟨"java/lang/StringBuilder", "length", "()I"⟩ : MethodName) ∈ jj_gw := jj_mem3 (List.mem_of_getElem? (i := 170) (by decide +kernel)) (by decide +kernel)
theorem wd_651 : Cond.methodLink "BeanServer$QueryForm" (55 : Nat) (⟨"java/lang/StringBuilder", "append", "(C)Ljava/lang/StringBuilder;"⟩ : MethodName) ∈ jj_gw := jj_mem3 (List.mem_of_getElem? (i := 171) (by decide +kernel)) (by decide +kernel)
theorem wd_652 : Cond.methodLink "BeanServer$QueryForm" (43 : Nat) (⟨"BeanServer$QueryForm", "closeParenthesis", "(C)V"⟩ : MethodName) ∈ jj_gw := jj_mem3 (List.mem_of_getElem? (i := 172) (by decide +kernel)) (by decide +kernel)
theorem wd_654 : Cond.instanceMethod (⟨"BeanServer$QueryForm", "closeParenthesis", "(C)V"⟩ : MethodName) ∈ jj_gw := jj_mem3 (List.mem_of_getElem? (i := 174) (by decide +kernel)) (by decide +kernel)
theorem wd_655 : Cond.code (⟨"BeanServer$QueryForm", "closeParenthesis", "(C)V"⟩ : MethodName) prog_9_method_4_code (3 : Nat) (Option.none : Option FieldType) ∈ jj_gw := jj_mem3 (List.mem_of_getElem? (i := 175) (by decide +kernel)) (by decide +kernel)
theorem wd_656 : Cond.methodLink "BeanServer$QueryForm" (52 : Nat) (⟨"BeanServer$QueryForm", "lastBefore", "(I)C"⟩ : MethodName) ∈ jj_gw := jj_mem3 (List.mem_of_getElem? (i := 176) (by decide +kernel)) (by decide +kernel)
theorem wd_658 : Cond.instanceMethod (⟨"BeanServer$QueryForm", "lastBefore", "(I)C"⟩ : MethodName) ∈ jj_gw := jj_mem3 (List.mem_of_getElem? (i := 178) (by decide +kernel)) (by decide +kernel)
theorem wd_659 : Cond.code (⟨"BeanServer$QueryForm", "lastBefore", "(I)C"⟩ : MethodName) prog_9_method_7_code (2 : Nat) (Option.some FieldType.char) ∈ jj_gw := jj_mem3 (List.mem_of_getElem? (i := 179) (by decide +kernel)) (by decide +kernel)
theorem wd_660 : Cond.methodLink "BeanServer$QueryForm" (74 : Nat) (⟨"java/lang/StringBuilder", "charAt", "(I)C"⟩ : MethodName) ∈ jj_gw := jj_mem3 (List.mem_of_getElem? (i := 180) (by decide +kernel)) (by decide +kernel)
theorem wd_661 : Cond.instanceMethod (⟨"java/lang/StringBuilder", "charAt", "(I)C"⟩ : MethodName) ∈ jj_gw := jj_mem3 (List.mem_of_getElem? (i := 181) (by decide +kernel)) (by decide +kernel)
theorem wd_662 : Cond.selects "java/lang/StringBuilder" (⟨"java/lang/StringBuilder", "charAt", "(I)C"⟩ : MethodName) (⟨"java/lang/StringBuilder", "charAt", "(I)C"⟩ : MethodName) ∈ jj_gw := jj_mem3 (List.mem_of_getElem? (i := 182) (by decide +kernel)) (by decide +kernel)
theorem wd_663 : Cond.code (⟨"java/lang/StringBuilder", "charAt", "(I)C"⟩ : MethodName) prog_18_method_88_code (2 : Nat) (Option.some FieldType.char) ∈ jj_gw := jj_mem3 (List.mem_of_getElem? (i := 183) (by decide +kernel)) (by decide +kernel)
theorem wd_664 : Cond.methodLink "java/lang/StringBuilder" (329 : Nat) (⟨"java/lang/AbstractStringBuilder", "charAt", "(I)C"⟩ : MethodName) ∈ jj_gw := jj_mem3 (List.mem_of_getElem? (i := 184) (by decide +kernel)) (by decide +kernel)
theorem wd_665 : Cond.instanceMethod (⟨"java/lang/AbstractStringBuilder", "charAt", "(I)C"⟩ : MethodName) ∈ jj_gw := jj_mem3 (List.mem_of_getElem? (i := 185) (by decide +kernel)) (by decide +kernel)
theorem wd_666 : Cond.code (⟨"java/lang/AbstractStringBuilder", "charAt", "(I)C"⟩ : MethodName) prog_13_method_14_code (5 : Nat) (Option.some FieldType.char) ∈ jj_gw := jj_mem3 (List.mem_of_getElem? (i := 186) (by decide +kernel)) (by decide +kernel)
theorem wd_667 : Cond.methodLink "java/lang/AbstractStringBuilder" (138 : Nat) (⟨"java/lang/Math", "min", "(II)I"⟩ : MethodName) ∈ jj_gw := jj_mem3 (List.mem_of_getElem? (i := 187) (by decide +kernel)) (by decide +kernel)
theorem wd_668 : Cond.methodLink "java/lang/AbstractStringBuilder" (144 : Nat) (⟨"java/lang/String", "checkIndex", "(II)V"⟩ : MethodName) ∈ jj_gw := jj_mem3 (List.mem_of_getElem? (i := 188) (by decide +kernel)) (by decide +kernel)
theorem wd_669 : Cond.methodLink "java/lang/AbstractStringBuilder" (148 : Nat) (⟨"java/lang/StringUTF16", "getChar", "([BI)C"⟩ : MethodName) ∈ jj_gw := jj_mem3 (List.mem_of_getElem? (i := 189) (by decide +kernel)) (by decide +kernel)
theorem wd_670 : Cond.methodLink "BeanServer$QueryForm" (63 : Nat) (⟨"BeanServer$QueryForm", "jointFrom", "(I)C"⟩ : MethodName) ∈ jj_gw := jj_mem3 (List.mem_of_getElem? (i := 190) (by decide +kernel)) (by decide +kernel)
theorem wd_672 : Cond.instanceMethod (⟨"BeanServer$QueryForm", "jointFrom", "(I)C"⟩ : MethodName) ∈ jj_gw := jj_mem3 (List.mem_of_getElem? (i := 192) (by decide +kernel)) (by decide +kernel)
theorem wd_673 : Cond.code (⟨"BeanServer$QueryForm", "jointFrom", "(I)C"⟩ : MethodName) prog_9_method_8_code (6 : Nat) (Option.some FieldType.char) ∈ jj_gw := jj_mem3 (List.mem_of_getElem? (i := 193) (by decide +kernel)) (by decide +kernel)
theorem wd_674 : Cond.methodLink "BeanServer$QueryForm" (66 : Nat) (⟨"BeanServer$QueryForm", "isNeeded", "(CCC)Z"⟩ : MethodName) ∈ jj_gw := jj_mem3 (List.mem_of_getElem? (i := 194) (by decide +kernel)) (by decide +kernel)
theorem wd_675 : Cond.static (⟨"BeanServer$QueryForm", "isNeeded", "(CCC)Z"⟩ : MethodName) ∈ jj_gw := jj_mem3 (List.mem_of_getElem? (i := 195) (by decide +kernel)) (by decide +kernel)
theorem wd_676 : Cond.code (⟨"BeanServer$QueryForm", "isNeeded", "(CCC)Z"⟩ : MethodName) prog_9_method_5_code (3 : Nat) (Option.some FieldType.boolean) ∈ jj_gw := jj_mem3 (List.mem_of_getElem? (i := 196) (by decide +kernel)) (by decide +kernel)
theorem wd_677 : Cond.methodLink "BeanServer$QueryForm" (70 : Nat) (⟨"java/lang/StringBuilder", "deleteCharAt", "(I)Ljava/lang/StringBuilder;"⟩ : MethodName) ∈ jj_gw := jj_mem3 (List.mem_of_getElem? (i := 197) (by decide +kernel)) (by decide +kernel)
theorem wd_678 : Cond.instanceMethod (⟨"java/lang/StringBuilder", "deleteCharAt", "(I)Ljava/lang/StringBuilder;"⟩ : MethodName) ∈ jj_gw := jj_mem3 (List.mem_of_getElem? (i := 198) (by decide +kernel)) (by decide +kernel)
theorem wd_679 : Cond.selects "java/lang/StringBuilder" (⟨"java/lang/StringBuilder", "deleteCharAt", "(I)Ljava/lang/StringBuilder;"⟩ : MethodName) (⟨"java/lang/StringBuilder", "deleteCharAt", "(I)Ljava/lang/StringBuilder;"⟩ : MethodName) ∈ jj_gw := jj_mem3 (List.mem_of_getElem? (i := 199) (by decide +kernel)) (by decide +kernel)
theorem wd_680 : Cond.code (⟨"java/lang/StringBuilder", "deleteCharAt", "(I)Ljava/lang/StringBuilder;"⟩ : MethodName) prog_18_method_21_code (2 : Nat) (Option.some (FieldType.object "java/lang/StringBuilder")) ∈ jj_gw := jj_mem3 (List.mem_of_getElem? (i := 200) (by decide +kernel)) (by decide +kernel)
theorem wd_681 : Cond.methodLink "java/lang/StringBuilder" (72 : Nat) (⟨"java/lang/AbstractStringBuilder", "deleteCharAt", "(I)Ljava/lang/AbstractStringBuilder;"⟩ : MethodName) ∈ jj_gw := jj_mem3 (List.mem_of_getElem? (i := 201) (by decide +kernel)) (by decide +kernel)
theorem wd_682 : Cond.instanceMethod (⟨"java/lang/AbstractStringBuilder", "deleteCharAt", "(I)Ljava/lang/AbstractStringBuilder;"⟩ : MethodName) ∈ jj_gw := jj_mem3 (List.mem_of_getElem? (i := 202) (by decide +kernel)) (by decide +kernel)
theorem wd_683 : Cond.code (⟨"java/lang/AbstractStringBuilder", "deleteCharAt", "(I)Ljava/lang/AbstractStringBuilder;"⟩ : MethodName) prog_13_method_38_code (2 : Nat) (Option.some (FieldType.object "java/lang/AbstractStringBuilder")) ∈ jj_gw := jj_mem3 (List.mem_of_getElem? (i := 203) (by decide +kernel)) (by decide +kernel)
theorem wd_684 : Cond.methodLink "java/lang/AbstractStringBuilder" (283 : Nat) (⟨"java/lang/AbstractStringBuilder", "shift", "(II)V"⟩ : MethodName) ∈ jj_gw := jj_mem3 (List.mem_of_getElem? (i := 204) (by decide +kernel)) (by decide +kernel)
theorem wd_686 : Cond.instanceMethod (⟨"java/lang/AbstractStringBuilder", "shift", "(II)V"⟩ : MethodName) ∈ jj_gw := jj_mem3 (List.mem_of_getElem? (i := 206) (by decide +kernel)) (by decide +kernel)
theorem wd_687 : Cond.code (⟨"java/lang/AbstractStringBuilder", "shift", "(II)V"⟩ : MethodName) prog_13_method_43_code (3 : Nat) (Option.none : Option FieldType) ∈ jj_gw := jj_mem3 (List.mem_of_getElem? (i := 207) (by decide +kernel)) (by decide +kernel)
theorem wd_688 : Cond.methodLink "java/lang/AbstractStringBuilder" (309 : Nat) (⟨"java/lang/System", "arraycopy", "(Ljava/lang/Object;ILjava/lang/Object;II)V"⟩ : MethodName) ∈ jj_gw := jj_mem3 (List.mem_of_getElem? (i := 208) (by decide +kernel)) (by decide +kernel)
theorem wd_689 : Cond.methodLink "BeanServer$QueryForm" (47 : Nat) (⟨"BeanServer$QueryForm", "isDigit", "(C)Z"⟩ : MethodName) ∈ jj_gw := jj_mem3 (List.mem_of_getElem? (i := 209) (by decide +kernel)) (by decide +kernel)
theorem wd_690 : Cond.static (⟨"BeanServer$QueryForm", "isDigit", "(C)Z"⟩ : MethodName) ∈ jj_gw := jj_mem3 (List.mem_of_getElem? (i := 210) (by decide +kernel)) (by decide +kernel)
theorem wd_691 : Cond.code (⟨"BeanServer$QueryForm", "isDigit", "(C)Z"⟩ : MethodName) prog_9_method_6_code (1 : Nat) (Option.some FieldType.boolean) ∈ jj_gw := jj_mem3 (List.mem_of_getElem? (i := 211) (by decide +kernel)) (by decide +kernel)
theorem wd_692 : Cond.methodLink "BeanServer$QueryForm" (59 : Nat) (⟨"java/lang/StringBuilder", "toString", "()Ljava/lang/String;"⟩ : MethodName) ∈ jj_gw := jj_mem3 (List.mem_of_getElem? (i := 212) (by decide +kernel)) (by decide +kernel)
theorem wd_693 : Cond.methodLink "BeanServer" (137 : Nat) (⟨"BeanServer$Query", "<init>", "(Ljava/lang/String;)V"⟩ : MethodName) ∈ jj_gw := jj_mem3 (List.mem_of_getElem? (i := 213) (by decide +kernel)) (by decide +kernel)
theorem wd_694 : Cond.instanceMethod (⟨"BeanServer$Query", "<init>", "(Ljava/lang/String;)V"⟩ : MethodName) ∈ jj_gw := jj_mem3 (List.mem_of_getElem? (i := 214) (by decide +kernel)) (by decide +kernel)
theorem wd_695 : Cond.code (⟨"BeanServer$Query", "<init>", "(Ljava/lang/String;)V"⟩ : MethodName) prog_8_method_1_code (2 : Nat) (Option.none : Option FieldType) ∈ jj_gw := jj_mem3 (List.mem_of_getElem? (i := 215) (by decide +kernel)) (by decide +kernel)
theorem wd_696 : Cond.methodLink "BeanServer$Query" (1 : Nat) (⟨"java/lang/Object", "<init>", "()V"⟩ : MethodName) ∈ jj_gw := jj_mem3 (List.mem_of_getElem? (i := 216) (by decide +kernel)) (by decide +kernel)
theorem wd_697 : Cond.fieldLink "BeanServer$Query" (7 : Nat) "BeanServer$Query" "form" "Ljava/lang/String;" ∈ jj_gw := jj_mem3 (List.mem_of_getElem? (i := 217) (by decide +kernel)) (by decide +kernel)
theorem wd_698 : Cond.fieldLink "BeanServer" (142 : Nat) "BeanServer$Query" "form" "Ljava/lang/String;" ∈ jj_gw := jj_mem3 (List.mem_of_getElem? (i := 218) (by decide +kernel)) (by decide +kernel)
theorem wd_699 : Cond.laysFinal "BeanServer$Query" "BeanServer$Query" "form" "Ljava/lang/String;" ∈ jj_gw := jj_mem3 (List.mem_of_getElem? (i := 219) (by decide +kernel)) (by decide +kernel)
theorem wd_701 : Cond.superclass "BeanServer$Query" "java/lang/Object" ∈ jj_gw := jj_mem3 (List.mem_of_getElem? (i := 221) (by decide +kernel)) (by decide +kernel)
theorem wd_702 : Cond.methodLink "BeanServerLaw" (50 : Nat) (⟨"BeanServer", "check", "(II)I"⟩ : MethodName) ∈ jj_gw := jj_mem3 (List.mem_of_getElem? (i := 222) (by decide +kernel)) (by decide +kernel)
theorem wd_703 : Cond.instanceMethod (⟨"BeanServer", "check", "(II)I"⟩ : MethodName) ∈ jj_gw := jj_mem3 (List.mem_of_getElem? (i := 223) (by decide +kernel)) (by decide +kernel)
theorem wd_704 : Cond.selects "BeanServer" (⟨"BeanServer", "check", "(II)I"⟩ : MethodName) (⟨"BeanServer", "check", "(II)I"⟩ : MethodName) ∈ jj_gw := jj_mem3 (List.mem_of_getElem? (i := 224) (by decide +kernel)) (by decide +kernel)
theorem wd_705 : Cond.code (⟨"BeanServer", "check", "(II)I"⟩ : MethodName) prog_1_method_10_code (5 : Nat) (Option.some FieldType.int) ∈ jj_gw := jj_mem3 (List.mem_of_getElem? (i := 225) (by decide +kernel)) (by decide +kernel)
theorem wd_706 : Cond.methodLink "BeanServer" (138 : Nat) (⟨"BeanServer", "queryAt", "(I)LBeanServer$Query;"⟩ : MethodName) ∈ jj_gw := jj_mem3 (List.mem_of_getElem? (i := 226) (by decide +kernel)) (by decide +kernel)
theorem wd_708 : Cond.instanceMethod (⟨"BeanServer", "queryAt", "(I)LBeanServer$Query;"⟩ : MethodName) ∈ jj_gw := jj_mem3 (List.mem_of_getElem? (i := 228) (by decide +kernel)) (by decide +kernel)
theorem wd_709 : Cond.code (⟨"BeanServer", "queryAt", "(I)LBeanServer$Query;"⟩ : MethodName) prog_1_method_27_code (2 : Nat) (Option.some (FieldType.object "BeanServer$Query")) ∈ jj_gw := jj_mem3 (List.mem_of_getElem? (i := 229) (by decide +kernel)) (by decide +kernel)
theorem wd_710 : Cond.methodLink "BeanServerLaw" (54 : Nat) (⟨"BeanServer", "select", "(I)I"⟩ : MethodName) ∈ jj_gw := jj_mem3 (List.mem_of_getElem? (i := 230) (by decide +kernel)) (by decide +kernel)
theorem wd_711 : Cond.instanceMethod (⟨"BeanServer", "select", "(I)I"⟩ : MethodName) ∈ jj_gw := jj_mem3 (List.mem_of_getElem? (i := 231) (by decide +kernel)) (by decide +kernel)
theorem wd_712 : Cond.selects "BeanServer" (⟨"BeanServer", "select", "(I)I"⟩ : MethodName) (⟨"BeanServer", "select", "(I)I"⟩ : MethodName) ∈ jj_gw := jj_mem3 (List.mem_of_getElem? (i := 232) (by decide +kernel)) (by decide +kernel)
theorem wd_713 : Cond.code (⟨"BeanServer", "select", "(I)I"⟩ : MethodName) prog_1_method_11_code (7 : Nat) (Option.some FieldType.int) ∈ jj_gw := jj_mem3 (List.mem_of_getElem? (i := 233) (by decide +kernel)) (by decide +kernel)
theorem wd_714 : Cond.methodLink "BeanServer" (151 : Nat) (⟨"BeanServer$Pattern", "fits", "(LBeanServer$Pattern;)Z"⟩ : MethodName) ∈ jj_gw := jj_mem3 (List.mem_of_getElem? (i := 234) (by decide +kernel)) (by decide +kernel)
theorem wd_715 : Cond.instanceMethod (⟨"BeanServer$Pattern", "fits", "(LBeanServer$Pattern;)Z"⟩ : MethodName) ∈ jj_gw := jj_mem3 (List.mem_of_getElem? (i := 235) (by decide +kernel)) (by decide +kernel)
theorem wd_716 : Cond.selects "BeanServer$Pattern" (⟨"BeanServer$Pattern", "fits", "(LBeanServer$Pattern;)Z"⟩ : MethodName) (⟨"BeanServer$Pattern", "fits", "(LBeanServer$Pattern;)Z"⟩ : MethodName) ∈ jj_gw := jj_mem3 (List.mem_of_getElem? (i := 236) (by decide +kernel)) (by decide +kernel)
theorem wd_717 : Cond.code (⟨"BeanServer$Pattern", "fits", "(LBeanServer$Pattern;)Z"⟩ : MethodName) prog_7_method_4_code (4 : Nat) (Option.some FieldType.boolean) ∈ jj_gw := jj_mem3 (List.mem_of_getElem? (i := 237) (by decide +kernel)) (by decide +kernel)
theorem wd_718 : Cond.methodLink "BeanServer$Pattern" (60 : Nat) (⟨"BeanServer$Pattern", "standsFor", "(IILjava/lang/String;II)Z"⟩ : MethodName) ∈ jj_gw := jj_mem3 (List.mem_of_getElem? (i := 238) (by decide +kernel)) (by decide +kernel)
theorem wd_720 : Cond.instanceMethod (⟨"BeanServer$Pattern", "standsFor", "(IILjava/lang/String;II)Z"⟩ : MethodName) ∈ jj_gw := jj_mem4 (List.mem_of_getElem? (i := 0) (by decide +kernel)) (by decide +kernel)
theorem wd_721 : Cond.code (⟨"BeanServer$Pattern", "standsFor", "(IILjava/lang/String;II)Z"⟩ : MethodName) prog_7_method_12_code (9 : Nat) (Option.some FieldType.boolean) ∈ jj_gw := jj_mem4 (List.mem_of_getElem? (i := 1) (by decide +kernel)) (by decide +kernel)
theorem wd_722 : Cond.methodLink "BeanServer$Pattern" (90 : Nat) (⟨"BeanServer$Pattern", "reachedBehind", "(CILjava/lang/String;II)I"⟩ : MethodName) ∈ jj_gw := jj_mem4 (List.mem_of_getElem? (i := 2) (by decide +kernel)) (by decide +kernel)
theorem wd_723 : Cond.static (⟨"BeanServer$Pattern", "reachedBehind", "(CILjava/lang/String;II)I"⟩ : MethodName) ∈ jj_gw := jj_mem4 (List.mem_of_getElem? (i := 3) (by decide +kernel)) (by decide +kernel)
theorem wd_724 : Cond.code (⟨"BeanServer$Pattern", "reachedBehind", "(CILjava/lang/String;II)I"⟩ : MethodName) prog_7_method_13_code (8 : Nat) (Option.some FieldType.int) ∈ jj_gw := jj_mem4 (List.mem_of_getElem? (i := 4) (by decide +kernel)) (by decide +kernel)
theorem wd_725 : Cond.methodLink "BeanServerLaw" (59 : Nat) (⟨"BeanServer", "selected", "(I)I"⟩ : MethodName) ∈ jj_gw := jj_mem4 (List.mem_of_getElem? (i := 5) (by decide +kernel)) (by decide +kernel)
theorem wd_726 : Cond.instanceMethod (⟨"BeanServer", "selected", "(I)I"⟩ : MethodName) ∈ jj_gw := jj_mem4 (List.mem_of_getElem? (i := 6) (by decide +kernel)) (by decide +kernel)
theorem wd_727 : Cond.selects "BeanServer" (⟨"BeanServer", "selected", "(I)I"⟩ : MethodName) (⟨"BeanServer", "selected", "(I)I"⟩ : MethodName) ∈ jj_gw := jj_mem4 (List.mem_of_getElem? (i := 7) (by decide +kernel)) (by decide +kernel)
theorem wd_728 : Cond.code (⟨"BeanServer", "selected", "(I)I"⟩ : MethodName) prog_1_method_12_code (2 : Nat) (Option.some FieldType.int) ∈ jj_gw := jj_mem4 (List.mem_of_getElem? (i := 8) (by decide +kernel)) (by decide +kernel)
theorem wd_729 : Cond.methodLink "BeanServerLaw" (63 : Nat) (⟨"BeanServer", "form", "(III)I"⟩ : MethodName) ∈ jj_gw := jj_mem4 (List.mem_of_getElem? (i := 9) (by decide +kernel)) (by decide +kernel)
theorem wd_730 : Cond.instanceMethod (⟨"BeanServer", "form", "(III)I"⟩ : MethodName) ∈ jj_gw := jj_mem4 (List.mem_of_getElem? (i := 10) (by decide +kernel)) (by decide +kernel)
theorem wd_731 : Cond.selects "BeanServer" (⟨"BeanServer", "form", "(III)I"⟩ : MethodName) (⟨"BeanServer", "form", "(III)I"⟩ : MethodName) ∈ jj_gw := jj_mem4 (List.mem_of_getElem? (i := 11) (by decide +kernel)) (by decide +kernel)
theorem wd_732 : Cond.code (⟨"BeanServer", "form", "(III)I"⟩ : MethodName) prog_1_method_13_code (5 : Nat) (Option.some FieldType.int) ∈ jj_gw := jj_mem4 (List.mem_of_getElem? (i := 12) (by decide +kernel)) (by decide +kernel)
theorem wd_733 : Cond.methodLink "BeanServer" (155 : Nat) (⟨"BeanServer", "shownForm", "(II)Ljava/lang/String;"⟩ : MethodName) ∈ jj_gw := jj_mem4 (List.mem_of_getElem? (i := 13) (by decide +kernel)) (by decide +kernel)
theorem wd_735 : Cond.instanceMethod (⟨"BeanServer", "shownForm", "(II)Ljava/lang/String;"⟩ : MethodName) ∈ jj_gw := jj_mem4 (List.mem_of_getElem? (i := 15) (by decide +kernel)) (by decide +kernel)
theorem wd_736 : Cond.code (⟨"BeanServer", "shownForm", "(II)Ljava/lang/String;"⟩ : MethodName) prog_1_method_32_code (3 : Nat) (Option.some (FieldType.object "java/lang/String")) ∈ jj_gw := jj_mem4 (List.mem_of_getElem? (i := 16) (by decide +kernel)) (by decide +kernel)
theorem wd_737 : Cond.methodLink "BeanServer" (159 : Nat) (⟨"java/lang/String", "isEmpty", "()Z"⟩ : MethodName) ∈ jj_gw := jj_mem4 (List.mem_of_getElem? (i := 17) (by decide +kernel)) (by decide +kernel)
theorem wd_738 : Cond.methodLink "BeanServerLaw" (68 : Nat) (⟨"BeanServer", "counter", "(IIII)I"⟩ : MethodName) ∈ jj_gw := jj_mem4 (List.mem_of_getElem? (i := 18) (by decide +kernel)) (by decide +kernel)
theorem wd_739 : Cond.instanceMethod (⟨"BeanServer", "counter", "(IIII)I"⟩ : MethodName) ∈ jj_gw := jj_mem4 (List.mem_of_getElem? (i := 19) (by decide +kernel)) (by decide +kernel)
theorem wd_740 : Cond.selects "BeanServer" (⟨"BeanServer", "counter", "(IIII)I"⟩ : MethodName) (⟨"BeanServer", "counter", "(IIII)I"⟩ : MethodName) ∈ jj_gw := jj_mem4 (List.mem_of_getElem? (i := 20) (by decide +kernel)) (by decide +kernel)
theorem wd_741 : Cond.code (⟨"BeanServer", "counter", "(IIII)I"⟩ : MethodName) prog_1_method_14_code (6 : Nat) (Option.some FieldType.int) ∈ jj_gw := jj_mem4 (List.mem_of_getElem? (i := 21) (by decide +kernel)) (by decide +kernel)
theorem wd_742 : Cond.methodLink "BeanServer" (167 : Nat) (⟨"BeanServer", "numberForMonitorOf", "(I)I"⟩ : MethodName) ∈ jj_gw := jj_mem4 (List.mem_of_getElem? (i := 22) (by decide +kernel)) (by decide +kernel)
theorem wd_744 : Cond.instanceMethod (⟨"BeanServer", "numberForMonitorOf", "(I)I"⟩ : MethodName) ∈ jj_gw := jj_mem4 (List.mem_of_getElem? (i := 24) (by decide +kernel)) (by decide +kernel)
theorem wd_745 : Cond.code (⟨"BeanServer", "numberForMonitorOf", "(I)I"⟩ : MethodName) prog_1_method_31_code (3 : Nat) (Option.some FieldType.int) ∈ jj_gw := jj_mem4 (List.mem_of_getElem? (i := 25) (by decide +kernel)) (by decide +kernel)
theorem wd_746 : Cond.classLink "BeanServer" (171 : Nat) "BeanServer$Counter" ∈ jj_gw := jj_mem4 (List.mem_of_getElem? (i := 26) (by decide +kernel)) (by decide +kernel)
theorem wd_747 : Cond.instantiable "BeanServer$Counter" (9 : Nat) ∈ jj_gw := jj_mem4 (List.mem_of_getElem? (i := 27) (by decide +kernel)) (by decide +kernel)
theorem wd_748 : Cond.methodLink "BeanServer" (173 : Nat) (⟨"BeanServer$Counter", "<init>", "(Ljava/lang/String;III)V"⟩ : MethodName) ∈ jj_gw := jj_mem4 (List.mem_of_getElem? (i := 28) (by decide +kernel)) (by decide +kernel)
theorem wd_749 : Cond.instanceMethod (⟨"BeanServer$Counter", "<init>", "(Ljava/lang/String;III)V"⟩ : MethodName) ∈ jj_gw := jj_mem4 (List.mem_of_getElem? (i := 29) (by decide +kernel)) (by decide +kernel)
theorem wd_750 : Cond.code (⟨"BeanServer$Counter", "<init>", "(Ljava/lang/String;III)V"⟩ : MethodName) prog_3_method_1_code (5 : Nat) (Option.none : Option FieldType) ∈ jj_gw := jj_mem4 (List.mem_of_getElem? (i := 30) (by decide +kernel)) (by decide +kernel)
theorem wd_751 : Cond.methodLink "BeanServer$Counter" (3 : Nat) (⟨"BeanServer$Monitor", "<init>", "(Ljava/lang/String;I)V"⟩ : MethodName) ∈ jj_gw := jj_mem4 (List.mem_of_getElem? (i := 31) (by decide +kernel)) (by decide +kernel)
theorem wd_752 : Cond.instanceMethod (⟨"BeanServer$Monitor", "<init>", "(Ljava/lang/String;I)V"⟩ : MethodName) ∈ jj_gw := jj_mem4 (List.mem_of_getElem? (i := 32) (by decide +kernel)) (by decide +kernel)
theorem wd_753 : Cond.code (⟨"BeanServer$Monitor", "<init>", "(Ljava/lang/String;I)V"⟩ : MethodName) prog_6_method_1_code (3 : Nat) (Option.none : Option FieldType) ∈ jj_gw := jj_mem4 (List.mem_of_getElem? (i := 33) (by decide +kernel)) (by decide +kernel)
theorem wd_754 : Cond.methodLink "BeanServer$Monitor" (1 : Nat) (⟨"java/lang/Object", "<init>", "()V"⟩ : MethodName) ∈ jj_gw := jj_mem4 (List.mem_of_getElem? (i := 34) (by decide +kernel)) (by decide +kernel)
theorem wd_755 : Cond.fieldLink "BeanServer$Counter" (22 : Nat) "BeanServer$Counter" "start" "I" ∈ jj_gw := jj_mem4 (List.mem_of_getElem? (i := 35) (by decide +kernel)) (by decide +kernel)
theorem wd_756 : Cond.fieldLink "BeanServer$Counter" (25 : Nat) "BeanServer$Counter" "step" "I" ∈ jj_gw := jj_mem4 (List.mem_of_getElem? (i := 36) (by decide +kernel)) (by decide +kernel)
theorem wd_757 : Cond.fieldLink "BeanServer$Counter" (28 : Nat) "BeanServer$Counter" "mark" "J" ∈ jj_gw := jj_mem4 (List.mem_of_getElem? (i := 37) (by decide +kernel)) (by decide +kernel)
theorem wd_758 : Cond.fieldLink "BeanServer$Counter" (9 : Nat) "BeanServer$Counter" "ready" "Z" ∈ jj_gw := jj_mem4 (List.mem_of_getElem? (i := 38) (by decide +kernel)) (by decide +kernel)
theorem wd_759 : Cond.fieldLink "BeanServer$Counter" (15 : Nat) "BeanServer$Counter" "hasLatest" "Z" ∈ jj_gw := jj_mem4 (List.mem_of_getElem? (i := 39) (by decide +kernel)) (by decide +kernel)
theorem wd_760 : Cond.fieldLink "BeanServer$Counter" (18 : Nat) "BeanServer$Counter" "latest" "I" ∈ jj_gw := jj_mem4 (List.mem_of_getElem? (i := 40) (by decide +kernel)) (by decide +kernel)
theorem wd_761 : Cond.fieldLink "BeanServer$Monitor" (13 : Nat) "BeanServer$Monitor" "name" "Ljava/lang/String;" ∈ jj_gw := jj_mem4 (List.mem_of_getElem? (i := 41) (by decide +kernel)) (by decide +kernel)
theorem wd_762 : Cond.fieldLink "BeanServer" (219 : Nat) "BeanServer$Monitor" "name" "Ljava/lang/String;" ∈ jj_gw := jj_mem4 (List.mem_of_getElem? (i := 42) (by decide +kernel)) (by decide +kernel)
theorem wd_763 : Cond.fieldLink "BeanServer$Monitor" (17 : Nat) "BeanServer$Monitor" "attribute" "I" ∈ jj_gw := jj_mem4 (List.mem_of_getElem? (i := 43) (by decide +kernel)) (by decide +kernel)
theorem wd_764 : Cond.fieldLink "BeanServer" (221 : Nat) "BeanServer$Monitor" "attribute" "I" ∈ jj_gw := jj_mem4 (List.mem_of_getElem? (i := 44) (by decide +kernel)) (by decide +kernel)
theorem wd_765 : Cond.fieldLink "BeanServer$Monitor" (7 : Nat) "BeanServer$Monitor" "erred" "Z" ∈ jj_gw := jj_mem4 (List.mem_of_getElem? (i := 45) (by decide +kernel)) (by decide +kernel)
theorem wd_766 : Cond.fieldLink "BeanServer" (224 : Nat) "BeanServer$Monitor" "erred" "Z" ∈ jj_gw := jj_mem4 (List.mem_of_getElem? (i := 46) (by decide +kernel)) (by decide +kernel)
theorem wd_767 : Cond.laysFinal "BeanServer$Counter" "BeanServer$Counter" "start" "I" ∈ jj_gw := jj_mem4 (List.mem_of_getElem? (i := 47) (by decide +kernel)) (by decide +kernel)
theorem wd_769 : Cond.laysFinal "BeanServer$Counter" "BeanServer$Counter" "step" "I" ∈ jj_gw := jj_mem4 (List.mem_of_getElem? (i := 49) (by decide +kernel)) (by decide +kernel)
theorem wd_771 : Cond.lays "BeanServer$Counter" "BeanServer$Counter" "mark" "J" ∈ jj_gw := jj_mem4 (List.mem_of_getElem? (i := 51) (by decide +kernel)) (by decide +kernel)
theorem wd_773 : Cond.lays "BeanServer$Counter" "BeanServer$Counter" "ready" "Z" ∈ jj_gw := jj_mem4 (List.mem_of_getElem? (i := 53) (by decide +kernel)) (by decide +kernel)
theorem wd_775 : Cond.lays "BeanServer$Counter" "BeanServer$Counter" "hasLatest" "Z" ∈ jj_gw := jj_mem4 (List.mem_of_getElem? (i := 55) (by decide +kernel)) (by decide +kernel)
theorem wd_777 : Cond.lays "BeanServer$Counter" "BeanServer$Counter" "latest" "I" ∈ jj_gw := jj_mem4 (List.mem_of_getElem? (i := 57) (by decide +kernel)) (by decide +kernel)
theorem wd_779 : Cond.laysFinal "BeanServer$Counter" "BeanServer$Monitor" "name" "Ljava/lang/String;" ∈ jj_gw := jj_mem4 (List.mem_of_getElem? (i := 59) (by decide +kernel)) (by decide +kernel)
theorem wd_781 : Cond.laysFinal "BeanServer$Counter" "BeanServer$Monitor" "attribute" "I" ∈ jj_gw := jj_mem4 (List.mem_of_getElem? (i := 61) (by decide +kernel)) (by decide +kernel)
theorem wd_783 : Cond.lays "BeanServer$Counter" "BeanServer$Monitor" "erred" "Z" ∈ jj_gw := jj_mem4 (List.mem_of_getElem? (i := 63) (by decide +kernel)) (by decide +kernel)
theorem wd_785 : Cond.superclass "BeanServer$Counter" "BeanServer$Monitor" ∈ jj_gw := jj_mem4 (List.mem_of_getElem? (i := 65) (by decide +kernel)) (by decide +kernel)
theorem wd_786 : Cond.methodLink "BeanServerLaw" (73 : Nat) (⟨"BeanServer", "gauge", "(IIII)I"⟩ : MethodName) ∈ jj_gw := jj_mem4 (List.mem_of_getElem? (i := 66) (by decide +kernel)) (by decide +kernel)
theorem wd_787 : Cond.instanceMethod (⟨"BeanServer", "gauge", "(IIII)I"⟩ : MethodName) ∈ jj_gw := jj_mem4 (List.mem_of_getElem? (i := 67) (by decide +kernel)) (by decide +kernel)
theorem wd_788 : Cond.selects "BeanServer" (⟨"BeanServer", "gauge", "(IIII)I"⟩ : MethodName) (⟨"BeanServer", "gauge", "(IIII)I"⟩ : MethodName) ∈ jj_gw := jj_mem4 (List.mem_of_getElem? (i := 68) (by decide +kernel)) (by decide +kernel)
theorem wd_789 : Cond.code (⟨"BeanServer", "gauge", "(IIII)I"⟩ : MethodName) prog_1_method_15_code (6 : Nat) (Option.some FieldType.int) ∈ jj_gw := jj_mem4 (List.mem_of_getElem? (i := 69) (by decide +kernel)) (by decide +kernel)
theorem wd_790 : Cond.classLink "BeanServer" (176 : Nat) "BeanServer$Gauge" ∈ jj_gw := jj_mem4 (List.mem_of_getElem? (i := 70) (by decide +kernel)) (by decide +kernel)
theorem wd_791 : Cond.instantiable "BeanServer$Gauge" (6 : Nat) ∈ jj_gw := jj_mem4 (List.mem_of_getElem? (i := 71) (by decide +kernel)) (by decide +kernel)
theorem wd_792 : Cond.methodLink "BeanServer" (178 : Nat) (⟨"BeanServer$Gauge", "<init>", "(Ljava/lang/String;III)V"⟩ : MethodName) ∈ jj_gw := jj_mem4 (List.mem_of_getElem? (i := 72) (by decide +kernel)) (by decide +kernel)
theorem wd_793 : Cond.instanceMethod (⟨"BeanServer$Gauge", "<init>", "(Ljava/lang/String;III)V"⟩ : MethodName) ∈ jj_gw := jj_mem4 (List.mem_of_getElem? (i := 73) (by decide +kernel)) (by decide +kernel)
theorem wd_794 : Cond.code (⟨"BeanServer$Gauge", "<init>", "(Ljava/lang/String;III)V"⟩ : MethodName) prog_4_method_1_code (5 : Nat) (Option.none : Option FieldType) ∈ jj_gw := jj_mem4 (List.mem_of_getElem? (i := 74) (by decide +kernel)) (by decide +kernel)
theorem wd_795 : Cond.methodLink "BeanServer$Gauge" (3 : Nat) (⟨"BeanServer$Monitor", "<init>", "(Ljava/lang/String;I)V"⟩ : MethodName) ∈ jj_gw := jj_mem4 (List.mem_of_getElem? (i := 75) (by decide +kernel)) (by decide +kernel)
theorem wd_796 : Cond.fieldLink "BeanServer$Gauge" (15 : Nat) "BeanServer$Gauge" "low" "I" ∈ jj_gw := jj_mem4 (List.mem_of_getElem? (i := 76) (by decide +kernel)) (by decide +kernel)
theorem wd_797 : Cond.fieldLink "BeanServer$Gauge" (18 : Nat) "BeanServer$Gauge" "high" "I" ∈ jj_gw := jj_mem4 (List.mem_of_getElem? (i := 77) (by decide +kernel)) (by decide +kernel)
theorem wd_798 : Cond.fieldLink "BeanServer$Gauge" (9 : Nat) "BeanServer$Gauge" "side" "I" ∈ jj_gw := jj_mem4 (List.mem_of_getElem? (i := 78) (by decide +kernel)) (by decide +kernel)
theorem wd_799 : Cond.laysFinal "BeanServer$Gauge" "BeanServer$Gauge" "low" "I" ∈ jj_gw := jj_mem4 (List.mem_of_getElem? (i := 79) (by decide +kernel)) (by decide +kernel)
theorem wd_801 : Cond.laysFinal "BeanServer$Gauge" "BeanServer$Gauge" "high" "I" ∈ jj_gw := jj_mem4 (List.mem_of_getElem? (i := 81) (by decide +kernel)) (by decide +kernel)
theorem wd_803 : Cond.lays "BeanServer$Gauge" "BeanServer$Gauge" "side" "I" ∈ jj_gw := jj_mem4 (List.mem_of_getElem? (i := 83) (by decide +kernel)) (by decide +kernel)
theorem wd_805 : Cond.laysFinal "BeanServer$Gauge" "BeanServer$Monitor" "name" "Ljava/lang/String;" ∈ jj_gw := jj_mem4 (List.mem_of_getElem? (i := 85) (by decide +kernel)) (by decide +kernel)
theorem wd_806 : Cond.laysFinal "BeanServer$Gauge" "BeanServer$Monitor" "attribute" "I" ∈ jj_gw := jj_mem4 (List.mem_of_getElem? (i := 86) (by decide +kernel)) (by decide +kernel)
theorem wd_807 : Cond.lays "BeanServer$Gauge" "BeanServer$Monitor" "erred" "Z" ∈ jj_gw := jj_mem4 (List.mem_of_getElem? (i := 87) (by decide +kernel)) (by decide +kernel)
theorem wd_808 : Cond.superclass "BeanServer$Gauge" "BeanServer$Monitor" ∈ jj_gw := jj_mem4 (List.mem_of_getElem? (i := 88) (by decide +kernel)) (by decide +kernel)
theorem wd_809 : Cond.methodLink "BeanServerLaw" (77 : Nat) (⟨"BeanServer", "cancel", "(I)Z"⟩ : MethodName) ∈ jj_gw := jj_mem4 (List.mem_of_getElem? (i := 89) (by decide +kernel)) (by decide +kernel)
theorem wd_810 : Cond.instanceMethod (⟨"BeanServer", "cancel", "(I)Z"⟩ : MethodName) ∈ jj_gw := jj_mem4 (List.mem_of_getElem? (i := 90) (by decide +kernel)) (by decide +kernel)
theorem wd_811 : Cond.selects "BeanServer" (⟨"BeanServer", "cancel", "(I)Z"⟩ : MethodName) (⟨"BeanServer", "cancel", "(I)Z"⟩ : MethodName) ∈ jj_gw := jj_mem4 (List.mem_of_getElem? (i := 91) (by decide +kernel)) (by decide +kernel)
theorem wd_812 : Cond.code (⟨"BeanServer", "cancel", "(I)Z"⟩ : MethodName) prog_1_method_16_code (2 : Nat) (Option.some FieldType.boolean) ∈ jj_gw := jj_mem4 (List.mem_of_getElem? (i := 92) (by decide +kernel)) (by decide +kernel)
theorem wd_813 : Cond.methodLink "BeanServer" (179 : Nat) (⟨"BeanServer", "monitorAt", "(I)LBeanServer$Monitor;"⟩ : MethodName) ∈ jj_gw := jj_mem4 (List.mem_of_getElem? (i := 93) (by decide +kernel)) (by decide +kernel)
theorem wd_815 : Cond.instanceMethod (⟨"BeanServer", "monitorAt", "(I)LBeanServer$Monitor;"⟩ : MethodName) ∈ jj_gw := jj_mem4 (List.mem_of_getElem? (i := 95) (by decide +kernel)) (by decide +kernel)
theorem wd_816 : Cond.code (⟨"BeanServer", "monitorAt", "(I)LBeanServer$Monitor;"⟩ : MethodName) prog_1_method_28_code (2 : Nat) (Option.some (FieldType.object "BeanServer$Monitor")) ∈ jj_gw := jj_mem4 (List.mem_of_getElem? (i := 96) (by decide +kernel)) (by decide +kernel)
theorem wd_817 : Cond.methodLink "BeanServerLaw" (82 : Nat) (⟨"BeanServer", "observe", "()I"⟩ : MethodName) ∈ jj_gw := jj_mem4 (List.mem_of_getElem? (i := 97) (by decide +kernel)) (by decide +kernel)
theorem wd_818 : Cond.instanceMethod (⟨"BeanServer", "observe", "()I"⟩ : MethodName) ∈ jj_gw := jj_mem4 (List.mem_of_getElem? (i := 98) (by decide +kernel)) (by decide +kernel)
theorem wd_819 : Cond.selects "BeanServer" (⟨"BeanServer", "observe", "()I"⟩ : MethodName) (⟨"BeanServer", "observe", "()I"⟩ : MethodName) ∈ jj_gw := jj_mem4 (List.mem_of_getElem? (i := 99) (by decide +kernel)) (by decide +kernel)
theorem wd_820 : Cond.code (⟨"BeanServer", "observe", "()I"⟩ : MethodName) prog_1_method_17_code (3 : Nat) (Option.some FieldType.int) ∈ jj_gw := jj_mem4 (List.mem_of_getElem? (i := 100) (by decide +kernel)) (by decide +kernel)
theorem wd_821 : Cond.methodLink "BeanServer" (186 : Nat) (⟨"BeanServer", "letLook", "(LBeanServer$Monitor;I)V"⟩ : MethodName) ∈ jj_gw := jj_mem4 (List.mem_of_getElem? (i := 101) (by decide +kernel)) (by decide +kernel)
theorem wd_823 : Cond.instanceMethod (⟨"BeanServer", "letLook", "(LBeanServer$Monitor;I)V"⟩ : MethodName) ∈ jj_gw := jj_mem4 (List.mem_of_getElem? (i := 103) (by decide +kernel)) (by decide +kernel)
theorem wd_824 : Cond.code (⟨"BeanServer", "letLook", "(LBeanServer$Monitor;I)V"⟩ : MethodName) prog_1_method_33_code (6 : Nat) (Option.none : Option FieldType) ∈ jj_gw := jj_mem4 (List.mem_of_getElem? (i := 104) (by decide +kernel)) (by decide +kernel)
theorem wd_825 : Cond.methodLink "BeanServer" (227 : Nat) (⟨"BeanServer$Monitor", "kindFor", "(I)I"⟩ : MethodName) ∈ jj_gw := jj_mem4 (List.mem_of_getElem? (i := 105) (by decide +kernel)) (by decide +kernel)
theorem wd_827 : Cond.sameMethod "BeanServer$Monitor" "BeanServer$Monitor" "kindFor" "(I)I" ∈ jj_gw := jj_mem4 (List.mem_of_getElem? (i := 107) (by decide +kernel)) (by decide +kernel)
theorem wd_828 : Cond.selects "BeanServer$Counter" (⟨"BeanServer$Monitor", "kindFor", "(I)I"⟩ : MethodName) (⟨"BeanServer$Counter", "kindFor", "(I)I"⟩ : MethodName) ∈ jj_gw := jj_mem4 (List.mem_of_getElem? (i := 108) (by decide +kernel)) (by decide +kernel)
theorem wd_829 : Cond.instanceMethod (⟨"BeanServer$Counter", "kindFor", "(I)I"⟩ : MethodName) ∈ jj_gw := jj_mem4 (List.mem_of_getElem? (i := 109) (by decide +kernel)) (by decide +kernel)
theorem wd_830 : Cond.code (⟨"BeanServer$Counter", "kindFor", "(I)I"⟩ : MethodName) prog_3_method_2_code (2 : Nat) (Option.some FieldType.int) ∈ jj_gw := jj_mem4 (List.mem_of_getElem? (i := 110) (by decide +kernel)) (by decide +kernel)
theorem wd_831 : Cond.methodLink "BeanServer$Counter" (32 : Nat) (⟨"BeanServer$Counter", "firstMarkAbove", "(I)J"⟩ : MethodName) ∈ jj_gw := jj_mem4 (List.mem_of_getElem? (i := 111) (by decide +kernel)) (by decide +kernel)
theorem wd_833 : Cond.instanceMethod (⟨"BeanServer$Counter", "firstMarkAbove", "(I)J"⟩ : MethodName) ∈ jj_gw := jj_mem4 (List.mem_of_getElem? (i := 113) (by decide +kernel)) (by decide +kernel)
theorem wd_834 : Cond.code (⟨"BeanServer$Counter", "firstMarkAbove", "(I)J"⟩ : MethodName) prog_3_method_3_code (4 : Nat) (Option.some FieldType.long) ∈ jj_gw := jj_mem4 (List.mem_of_getElem? (i := 114) (by decide +kernel)) (by decide +kernel)
theorem wd_835 : Cond.selects "BeanServer$Gauge" (⟨"BeanServer$Monitor", "kindFor", "(I)I"⟩ : MethodName) (⟨"BeanServer$Gauge", "kindFor", "(I)I"⟩ : MethodName) ∈ jj_gw := jj_mem4 (List.mem_of_getElem? (i := 115) (by decide +kernel)) (by decide +kernel)
theorem wd_836 : Cond.instanceMethod (⟨"BeanServer$Gauge", "kindFor", "(I)I"⟩ : MethodName) ∈ jj_gw := jj_mem4 (List.mem_of_getElem? (i := 116) (by decide +kernel)) (by decide +kernel)
theorem wd_837 : Cond.code (⟨"BeanServer$Gauge", "kindFor", "(I)I"⟩ : MethodName) prog_4_method_2_code (2 : Nat) (Option.some FieldType.int) ∈ jj_gw := jj_mem4 (List.mem_of_getElem? (i := 117) (by decide +kernel)) (by decide +kernel)
theorem wd_838 : Cond.methodLink "BeanServerLaw" (86 : Nat) (⟨"BeanServer", "mark", "(I)J"⟩ : MethodName) ∈ jj_gw := jj_mem4 (List.mem_of_getElem? (i := 118) (by decide +kernel)) (by decide +kernel)
theorem wd_839 : Cond.instanceMethod (⟨"BeanServer", "mark", "(I)J"⟩ : MethodName) ∈ jj_gw := jj_mem4 (List.mem_of_getElem? (i := 119) (by decide +kernel)) (by decide +kernel)
theorem wd_840 : Cond.selects "BeanServer" (⟨"BeanServer", "mark", "(I)J"⟩ : MethodName) (⟨"BeanServer", "mark", "(I)J"⟩ : MethodName) ∈ jj_gw := jj_mem4 (List.mem_of_getElem? (i := 120) (by decide +kernel)) (by decide +kernel)
theorem wd_841 : Cond.code (⟨"BeanServer", "mark", "(I)J"⟩ : MethodName) prog_1_method_18_code (3 : Nat) (Option.some FieldType.long) ∈ jj_gw := jj_mem4 (List.mem_of_getElem? (i := 121) (by decide +kernel)) (by decide +kernel)
theorem wd_842 : Cond.methodLink "BeanServer" (190 : Nat) (⟨"BeanServer$Monitor", "level", "()J"⟩ : MethodName) ∈ jj_gw := jj_mem4 (List.mem_of_getElem? (i := 122) (by decide +kernel)) (by decide +kernel)
theorem wd_844 : Cond.sameMethod "BeanServer$Monitor" "BeanServer$Monitor" "level" "()J" ∈ jj_gw := jj_mem4 (List.mem_of_getElem? (i := 124) (by decide +kernel)) (by decide +kernel)
theorem wd_845 : Cond.selects "BeanServer$Counter" (⟨"BeanServer$Monitor", "level", "()J"⟩ : MethodName) (⟨"BeanServer$Counter", "level", "()J"⟩ : MethodName) ∈ jj_gw := jj_mem4 (List.mem_of_getElem? (i := 125) (by decide +kernel)) (by decide +kernel)
theorem wd_846 : Cond.instanceMethod (⟨"BeanServer$Counter", "level", "()J"⟩ : MethodName) ∈ jj_gw := jj_mem4 (List.mem_of_getElem? (i := 126) (by decide +kernel)) (by decide +kernel)
theorem wd_847 : Cond.code (⟨"BeanServer$Counter", "level", "()J"⟩ : MethodName) prog_3_method_4_code (1 : Nat) (Option.some FieldType.long) ∈ jj_gw := jj_mem4 (List.mem_of_getElem? (i := 127) (by decide +kernel)) (by decide +kernel)
theorem wd_848 : Cond.selects "BeanServer$Gauge" (⟨"BeanServer$Monitor", "level", "()J"⟩ : MethodName) (⟨"BeanServer$Gauge", "level", "()J"⟩ : MethodName) ∈ jj_gw := jj_mem4 (List.mem_of_getElem? (i := 128) (by decide +kernel)) (by decide +kernel)
theorem wd_849 : Cond.instanceMethod (⟨"BeanServer$Gauge", "level", "()J"⟩ : MethodName) ∈ jj_gw := jj_mem4 (List.mem_of_getElem? (i := 129) (by decide +kernel)) (by decide +kernel)
theorem wd_850 : Cond.code (⟨"BeanServer$Gauge", "level", "()J"⟩ : MethodName) prog_4_method_3_code (1 : Nat) (Option.some FieldType.long) ∈ jj_gw := jj_mem4 (List.mem_of_getElem? (i := 130) (by decide +kernel)) (by decide +kernel)
theorem wd_851 : Cond.methodLink "BeanServerLaw" (91 : Nat) (⟨"BeanServer", "listen", "(I)I"⟩ : MethodName) ∈ jj_gw := jj_mem4 (List.mem_of_getElem? (i := 131) (by decide +kernel)) (by decide +kernel)
theorem wd_852 : Cond.instanceMethod (⟨"BeanServer", "listen", "(I)I"⟩ : MethodName) ∈ jj_gw := jj_mem4 (List.mem_of_getElem? (i := 132) (by decide +kernel)) (by decide +kernel)
theorem wd_853 : Cond.selects "BeanServer" (⟨"BeanServer", "listen", "(I)I"⟩ : MethodName) (⟨"BeanServer", "listen", "(I)I"⟩ : MethodName) ∈ jj_gw := jj_mem4 (List.mem_of_getElem? (i := 133) (by decide +kernel)) (by decide +kernel)
theorem wd_854 : Cond.code (⟨"BeanServer", "listen", "(I)I"⟩ : MethodName) prog_1_method_19_code (2 : Nat) (Option.some FieldType.int) ∈ jj_gw := jj_mem4 (List.mem_of_getElem? (i := 134) (by decide +kernel)) (by decide +kernel)
theorem wd_855 : Cond.methodLink "BeanServerLaw" (95 : Nat) (⟨"BeanServer", "notice", "(II)I"⟩ : MethodName) ∈ jj_gw := jj_mem4 (List.mem_of_getElem? (i := 135) (by decide +kernel)) (by decide +kernel)
theorem wd_856 : Cond.instanceMethod (⟨"BeanServer", "notice", "(II)I"⟩ : MethodName) ∈ jj_gw := jj_mem4 (List.mem_of_getElem? (i := 136) (by decide +kernel)) (by decide +kernel)
theorem wd_857 : Cond.selects "BeanServer" (⟨"BeanServer", "notice", "(II)I"⟩ : MethodName) (⟨"BeanServer", "notice", "(II)I"⟩ : MethodName) ∈ jj_gw := jj_mem4 (List.mem_of_getElem? (i := 137) (by decide +kernel)) (by decide +kernel)
theorem wd_858 : Cond.code (⟨"BeanServer", "notice", "(II)I"⟩ : MethodName) prog_1_method_20_code (3 : Nat) (Option.some FieldType.int) ∈ jj_gw := jj_mem4 (List.mem_of_getElem? (i := 138) (by decide +kernel)) (by decide +kernel)
theorem wd_859 : Cond.methodLink "BeanServer" (197 : Nat) (⟨"BeanServer$Log", "told", "(II)I"⟩ : MethodName) ∈ jj_gw := jj_mem4 (List.mem_of_getElem? (i := 139) (by decide +kernel)) (by decide +kernel)
theorem wd_860 : Cond.instanceMethod (⟨"BeanServer$Log", "told", "(II)I"⟩ : MethodName) ∈ jj_gw := jj_mem4 (List.mem_of_getElem? (i := 140) (by decide +kernel)) (by decide +kernel)
theorem wd_861 : Cond.selects "BeanServer$Log" (⟨"BeanServer$Log", "told", "(II)I"⟩ : MethodName) (⟨"BeanServer$Log", "told", "(II)I"⟩ : MethodName) ∈ jj_gw := jj_mem4 (List.mem_of_getElem? (i := 141) (by decide +kernel)) (by decide +kernel)
theorem wd_862 : Cond.code (⟨"BeanServer$Log", "told", "(II)I"⟩ : MethodName) prog_5_method_3_code (4 : Nat) (Option.some FieldType.int) ∈ jj_gw := jj_mem4 (List.mem_of_getElem? (i := 142) (by decide +kernel)) (by decide +kernel)
theorem wd_863 : Cond.methodLink "BeanServer$Log" (43 : Nat) (⟨"java/lang/Math", "floorMod", "(II)I"⟩ : MethodName) ∈ jj_gw := jj_mem4 (List.mem_of_getElem? (i := 143) (by decide +kernel)) (by decide +kernel)
theorem wd_864 : Cond.static (⟨"java/lang/Math", "floorMod", "(II)I"⟩ : MethodName) ∈ jj_gw := jj_mem4 (List.mem_of_getElem? (i := 144) (by decide +kernel)) (by decide +kernel)
theorem wd_865 : Cond.code (⟨"java/lang/Math", "floorMod", "(II)I"⟩ : MethodName) prog_16_method_50_code (3 : Nat) (Option.some FieldType.int) ∈ jj_gw := jj_mem4 (List.mem_of_getElem? (i := 145) (by decide +kernel)) (by decide +kernel)
theorem wd_866 : Cond.classLink "BeanServerLaw" (10 : Nat) "BeanServerModel" ∈ jj_gw := jj_mem4 (List.mem_of_getElem? (i := 146) (by decide +kernel)) (by decide +kernel)
theorem wd_867 : Cond.instantiable "BeanServerModel" (29 : Nat) ∈ jj_gw := jj_mem4 (List.mem_of_getElem? (i := 147) (by decide +kernel)) (by decide +kernel)
theorem wd_868 : Cond.methodLink "BeanServerLaw" (12 : Nat) (⟨"BeanServerModel", "<init>", "()V"⟩ : MethodName) ∈ jj_gw := jj_mem4 (List.mem_of_getElem? (i := 148) (by decide +kernel)) (by decide +kernel)
theorem wd_869 : Cond.instanceMethod (⟨"BeanServerModel", "<init>", "()V"⟩ : MethodName) ∈ jj_gw := jj_mem4 (List.mem_of_getElem? (i := 149) (by decide +kernel)) (by decide +kernel)
theorem wd_870 : Cond.code (⟨"BeanServerModel", "<init>", "()V"⟩ : MethodName) prog_12_method_1_code (1 : Nat) (Option.none : Option FieldType) ∈ jj_gw := jj_mem4 (List.mem_of_getElem? (i := 150) (by decide +kernel)) (by decide +kernel)
theorem wd_871 : Cond.methodLink "BeanServerModel" (1 : Nat) (⟨"java/lang/Object", "<init>", "()V"⟩ : MethodName) ∈ jj_gw := jj_mem4 (List.mem_of_getElem? (i := 151) (by decide +kernel)) (by decide +kernel)
theorem wd_872 : Cond.fieldLink "BeanServerModel" (7 : Nat) "BeanServerModel" "letters" "[C" ∈ jj_gw := jj_mem4 (List.mem_of_getElem? (i := 152) (by decide +kernel)) (by decide +kernel)
theorem wd_873 : Cond.fieldLink "BeanServerModel" (13 : Nat) "BeanServerModel" "sizes" "[I" ∈ jj_gw := jj_mem4 (List.mem_of_getElem? (i := 153) (by decide +kernel)) (by decide +kernel)
theorem wd_874 : Cond.fieldLink "BeanServerModel" (17 : Nat) "BeanServerModel" "there" "[Z" ∈ jj_gw := jj_mem4 (List.mem_of_getElem? (i := 154) (by decide +kernel)) (by decide +kernel)
theorem wd_875 : Cond.fieldLink "BeanServerModel" (21 : Nat) "BeanServerModel" "values" "[I" ∈ jj_gw := jj_mem4 (List.mem_of_getElem? (i := 155) (by decide +kernel)) (by decide +kernel)
theorem wd_876 : Cond.fieldLink "BeanServerModel" (24 : Nat) "BeanServerModel" "has" "[Z" ∈ jj_gw := jj_mem4 (List.mem_of_getElem? (i := 156) (by decide +kernel)) (by decide +kernel)
theorem wd_877 : Cond.fieldLink "BeanServerModel" (27 : Nat) "BeanServerModel" "asked" "[Z" ∈ jj_gw := jj_mem4 (List.mem_of_getElem? (i := 157) (by decide +kernel)) (by decide +kernel)
theorem wd_878 : Cond.fieldLink "BeanServerModel" (30 : Nat) "BeanServerModel" "monitor" "[I" ∈ jj_gw := jj_mem4 (List.mem_of_getElem? (i := 158) (by decide +kernel)) (by decide +kernel)
theorem wd_879 : Cond.fieldLink "BeanServerModel" (33 : Nat) "BeanServerModel" "watched" "[I" ∈ jj_gw := jj_mem4 (List.mem_of_getElem? (i := 159) (by decide +kernel)) (by decide +kernel)
theorem wd_880 : Cond.fieldLink "BeanServerModel" (36 : Nat) "BeanServerModel" "low" "[I" ∈ jj_gw := jj_mem4 (List.mem_of_getElem? (i := 160) (by decide +kernel)) (by decide +kernel)
theorem wd_881 : Cond.fieldLink "BeanServerModel" (39 : Nat) "BeanServerModel" "high" "[I" ∈ jj_gw := jj_mem4 (List.mem_of_getElem? (i := 161) (by decide +kernel)) (by decide +kernel)
theorem wd_882 : Cond.fieldLink "BeanServerModel" (42 : Nat) "BeanServerModel" "marks" "[J" ∈ jj_gw := jj_mem4 (List.mem_of_getElem? (i := 162) (by decide +kernel)) (by decide +kernel)
theorem wd_883 : Cond.fieldLink "BeanServerModel" (46 : Nat) "BeanServerModel" "ready" "[Z" ∈ jj_gw := jj_mem4 (List.mem_of_getElem? (i := 163) (by decide +kernel)) (by decide +kernel)
theorem wd_884 : Cond.fieldLink "BeanServerModel" (49 : Nat) "BeanServerModel" "seen" "[Z" ∈ jj_gw := jj_mem4 (List.mem_of_getElem? (i := 164) (by decide +kernel)) (by decide +kernel)
theorem wd_885 : Cond.fieldLink "BeanServerModel" (52 : Nat) "BeanServerModel" "latest" "[I" ∈ jj_gw := jj_mem4 (List.mem_of_getElem? (i := 165) (by decide +kernel)) (by decide +kernel)
theorem wd_886 : Cond.fieldLink "BeanServerModel" (55 : Nat) "BeanServerModel" "erred" "[Z" ∈ jj_gw := jj_mem4 (List.mem_of_getElem? (i := 166) (by decide +kernel)) (by decide +kernel)
theorem wd_887 : Cond.fieldLink "BeanServerModel" (151 : Nat) "BeanServerModel" "given" "I" ∈ jj_gw := jj_mem4 (List.mem_of_getElem? (i := 167) (by decide +kernel)) (by decide +kernel)
theorem wd_888 : Cond.fieldLink "BeanServerModel" (58 : Nat) "BeanServerModel" "listened" "I" ∈ jj_gw := jj_mem4 (List.mem_of_getElem? (i := 168) (by decide +kernel)) (by decide +kernel)
theorem wd_889 : Cond.fieldLink "BeanServerModel" (154 : Nat) "BeanServerModel" "logged" "I" ∈ jj_gw := jj_mem4 (List.mem_of_getElem? (i := 169) (by decide +kernel)) (by decide +kernel)
theorem wd_890 : Cond.fieldLink "BeanServerModel" (62 : Nat) "BeanServerModel" "log" "[I" ∈ jj_gw := jj_mem4 (List.mem_of_getElem? (i := 170) (by decide +kernel)) (by decide +kernel)
theorem wd_891 : Cond.fieldLink "BeanServerModel" (250 : Nat) "BeanServerModel" "chosen" "I" ∈ jj_gw := jj_mem4 (List.mem_of_getElem? (i := 171) (by decide +kernel)) (by decide +kernel)
theorem wd_892 : Cond.fieldLink "BeanServerModel" (65 : Nat) "BeanServerModel" "choice" "[I" ∈ jj_gw := jj_mem4 (List.mem_of_getElem? (i := 172) (by decide +kernel)) (by decide +kernel)
theorem wd_893 : Cond.fieldLink "BeanServerModel" (68 : Nat) "BeanServerModel" "where" "[I" ∈ jj_gw := jj_mem4 (List.mem_of_getElem? (i := 173) (by decide +kernel)) (by decide +kernel)
theorem wd_894 : Cond.fieldLink "BeanServerModel" (102 : Nat) "BeanServerModel" "open" "Z" ∈ jj_gw := jj_mem4 (List.mem_of_getElem? (i := 174) (by decide +kernel)) (by decide +kernel)
theorem wd_895 : Cond.fieldLink "BeanServerModel" (71 : Nat) "BeanServerModel" "live" "[Z" ∈ jj_gw := jj_mem4 (List.mem_of_getElem? (i := 175) (by decide +kernel)) (by decide +kernel)
theorem wd_896 : Cond.fieldLink "BeanServerModel" (74 : Nat) "BeanServerModel" "any" "[Z" ∈ jj_gw := jj_mem4 (List.mem_of_getElem? (i := 176) (by decide +kernel)) (by decide +kernel)
theorem wd_897 : Cond.fieldLink "BeanServerModel" (77 : Nat) "BeanServerModel" "all" "[Z" ∈ jj_gw := jj_mem4 (List.mem_of_getElem? (i := 177) (by decide +kernel)) (by decide +kernel)
theorem wd_898 : Cond.fieldLink "BeanServerModel" (80 : Nat) "BeanServerModel" "turned" "[Z" ∈ jj_gw := jj_mem4 (List.mem_of_getElem? (i := 178) (by decide +kernel)) (by decide +kernel)
theorem wd_899 : Cond.fieldLink "BeanServerModel" (219 : Nat) "BeanServerModel" "failed" "Z" ∈ jj_gw := jj_mem4 (List.mem_of_getElem? (i := 179) (by decide +kernel)) (by decide +kernel)
theorem wd_900 : Cond.fieldLink "BeanServerModel" (216 : Nat) "BeanServerModel" "at" "I" ∈ jj_gw := jj_mem4 (List.mem_of_getElem? (i := 180) (by decide +kernel)) (by decide +kernel)
theorem wd_901 : Cond.laysFinal "BeanServerModel" "BeanServerModel" "letters" "[C" ∈ jj_gw := jj_mem4 (List.mem_of_getElem? (i := 181) (by decide +kernel)) (by decide +kernel)
theorem wd_903 : Cond.laysFinal "BeanServerModel" "BeanServerModel" "sizes" "[I" ∈ jj_gw := jj_mem4 (List.mem_of_getElem? (i := 183) (by decide +kernel)) (by decide +kernel)
theorem wd_905 : Cond.laysFinal "BeanServerModel" "BeanServerModel" "there" "[Z" ∈ jj_gw := jj_mem4 (List.mem_of_getElem? (i := 185) (by decide +kernel)) (by decide +kernel)
theorem wd_907 : Cond.laysFinal "BeanServerModel" "BeanServerModel" "values" "[I" ∈ jj_gw := jj_mem4 (List.mem_of_getElem? (i := 187) (by decide +kernel)) (by decide +kernel)
theorem wd_909 : Cond.laysFinal "BeanServerModel" "BeanServerModel" "has" "[Z" ∈ jj_gw := jj_mem4 (List.mem_of_getElem? (i := 189) (by decide +kernel)) (by decide +kernel)
theorem wd_911 : Cond.laysFinal "BeanServerModel" "BeanServerModel" "asked" "[Z" ∈ jj_gw := jj_mem4 (List.mem_of_getElem? (i := 191) (by decide +kernel)) (by decide +kernel)
theorem wd_913 : Cond.laysFinal "BeanServerModel" "BeanServerModel" "monitor" "[I" ∈ jj_gw := jj_mem4 (List.mem_of_getElem? (i := 193) (by decide +kernel)) (by decide +kernel)
theorem wd_915 : Cond.laysFinal "BeanServerModel" "BeanServerModel" "watched" "[I" ∈ jj_gw := jj_mem4 (List.mem_of_getElem? (i := 195) (by decide +kernel)) (by decide +kernel)
theorem wd_917 : Cond.laysFinal "BeanServerModel" "BeanServerModel" "low" "[I" ∈ jj_gw := jj_mem4 (List.mem_of_getElem? (i := 197) (by decide +kernel)) (by decide +kernel)
theorem wd_919 : Cond.laysFinal "BeanServerModel" "BeanServerModel" "high" "[I" ∈ jj_gw := jj_mem4 (List.mem_of_getElem? (i := 199) (by decide +kernel)) (by decide +kernel)
theorem wd_921 : Cond.laysFinal "BeanServerModel" "BeanServerModel" "marks" "[J" ∈ jj_gw := jj_mem4 (List.mem_of_getElem? (i := 201) (by decide +kernel)) (by decide +kernel)
theorem wd_923 : Cond.laysFinal "BeanServerModel" "BeanServerModel" "ready" "[Z" ∈ jj_gw := jj_mem4 (List.mem_of_getElem? (i := 203) (by decide +kernel)) (by decide +kernel)
theorem wd_925 : Cond.laysFinal "BeanServerModel" "BeanServerModel" "seen" "[Z" ∈ jj_gw := jj_mem4 (List.mem_of_getElem? (i := 205) (by decide +kernel)) (by decide +kernel)
theorem wd_927 : Cond.laysFinal "BeanServerModel" "BeanServerModel" "latest" "[I" ∈ jj_gw := jj_mem4 (List.mem_of_getElem? (i := 207) (by decide +kernel)) (by decide +kernel)
theorem wd_929 : Cond.laysFinal "BeanServerModel" "BeanServerModel" "erred" "[Z" ∈ jj_gw := jj_mem4 (List.mem_of_getElem? (i := 209) (by decide +kernel)) (by decide +kernel)
theorem wd_931 : Cond.lays "BeanServerModel" "BeanServerModel" "given" "I" ∈ jj_gw := jj_mem4 (List.mem_of_getElem? (i := 211) (by decide +kernel)) (by decide +kernel)
theorem wd_933 : Cond.lays "BeanServerModel" "BeanServerModel" "listened" "I" ∈ jj_gw := jj_mem4 (List.mem_of_getElem? (i := 213) (by decide +kernel)) (by decide +kernel)
theorem wd_935 : Cond.lays "BeanServerModel" "BeanServerModel" "logged" "I" ∈ jj_gw := jj_mem4 (List.mem_of_getElem? (i := 215) (by decide +kernel)) (by decide +kernel)
theorem wd_937 : Cond.laysFinal "BeanServerModel" "BeanServerModel" "log" "[I" ∈ jj_gw := jj_mem4 (List.mem_of_getElem? (i := 217) (by decide +kernel)) (by decide +kernel)
theorem wd_939 : Cond.lays "BeanServerModel" "BeanServerModel" "chosen" "I" ∈ jj_gw := jj_mem4 (List.mem_of_getElem? (i := 219) (by decide +kernel)) (by decide +kernel)
theorem wd_941 : Cond.laysFinal "BeanServerModel" "BeanServerModel" "choice" "[I" ∈ jj_gw := jj_mem4 (List.mem_of_getElem? (i := 221) (by decide +kernel)) (by decide +kernel)
theorem wd_943 : Cond.laysFinal "BeanServerModel" "BeanServerModel" "where" "[I" ∈ jj_gw := jj_mem4 (List.mem_of_getElem? (i := 223) (by decide +kernel)) (by decide +kernel)
theorem wd_945 : Cond.lays "BeanServerModel" "BeanServerModel" "open" "Z" ∈ jj_gw := jj_mem4 (List.mem_of_getElem? (i := 225) (by decide +kernel)) (by decide +kernel)
theorem wd_947 : Cond.laysFinal "BeanServerModel" "BeanServerModel" "live" "[Z" ∈ jj_gw := jj_mem4 (List.mem_of_getElem? (i := 227) (by decide +kernel)) (by decide +kernel)
theorem wd_949 : Cond.laysFinal "BeanServerModel" "BeanServerModel" "any" "[Z" ∈ jj_gw := jj_mem4 (List.mem_of_getElem? (i := 229) (by decide +kernel)) (by decide +kernel)
theorem wd_951 : Cond.laysFinal "BeanServerModel" "BeanServerModel" "all" "[Z" ∈ jj_gw := jj_mem4 (List.mem_of_getElem? (i := 231) (by decide +kernel)) (by decide +kernel)
theorem wd_953 : Cond.laysFinal "BeanServerModel" "BeanServerModel" "turned" "[Z" ∈ jj_gw := jj_mem4 (List.mem_of_getElem? (i := 233) (by decide +kernel)) (by decide +kernel)
theorem wd_955 : Cond.lays "BeanServerModel" "BeanServerModel" "failed" "Z" ∈ jj_gw := jj_mem4 (List.mem_of_getElem? (i := 235) (by decide +kernel)) (by decide +kernel)
theorem wd_957 : Cond.lays "BeanServerModel" "BeanServerModel" "at" "I" ∈ jj_gw := jj_mem4 (List.mem_of_getElem? (i := 237) (by decide +kernel)) (by decide +kernel)
theorem wd_959 : Cond.superclass "BeanServerModel" "java/lang/Object" ∈ jj_gw := jj_mem4 (List.mem_of_getElem? (i := 239) (by decide +kernel)) (by decide +kernel)
theorem wd_960 : Cond.arrayClass FieldType.char ∈ jj_gw := jj_mem5 (List.mem_of_getElem? (i := 0) (by decide +kernel)) (by decide +kernel)
theorem wd_961 : Cond.arrayClass FieldType.long ∈ jj_gw := jj_mem5 (List.mem_of_getElem? (i := 1) (by decide +kernel)) (by decide +kernel)
theorem wd_962 : Cond.methodLink "BeanServerLaw" (17 : Nat) (⟨"BeanServerModel", "write", "(C)Z"⟩ : MethodName) ∈ jj_gw := jj_mem5 (List.mem_of_getElem? (i := 2) (by decide +kernel)) (by decide +kernel)
theorem wd_963 : Cond.instanceMethod (⟨"BeanServerModel", "write", "(C)Z"⟩ : MethodName) ∈ jj_gw := jj_mem5 (List.mem_of_getElem? (i := 3) (by decide +kernel)) (by decide +kernel)
theorem wd_964 : Cond.selects "BeanServerModel" (⟨"BeanServerModel", "write", "(C)Z"⟩ : MethodName) (⟨"BeanServerModel", "write", "(C)Z"⟩ : MethodName) ∈ jj_gw := jj_mem5 (List.mem_of_getElem? (i := 4) (by decide +kernel)) (by decide +kernel)
theorem wd_965 : Cond.code (⟨"BeanServerModel", "write", "(C)Z"⟩ : MethodName) prog_12_method_7_code (2 : Nat) (Option.some FieldType.boolean) ∈ jj_gw := jj_mem5 (List.mem_of_getElem? (i := 5) (by decide +kernel)) (by decide +kernel)
theorem wd_966 : Cond.methodLink "BeanServerModel" (87 : Nat) (⟨"BeanServerModel", "put", "(IC)V"⟩ : MethodName) ∈ jj_gw := jj_mem5 (List.mem_of_getElem? (i := 6) (by decide +kernel)) (by decide +kernel)
theorem wd_968 : Cond.instanceMethod (⟨"BeanServerModel", "put", "(IC)V"⟩ : MethodName) ∈ jj_gw := jj_mem5 (List.mem_of_getElem? (i := 8) (by decide +kernel)) (by decide +kernel)
theorem wd_969 : Cond.code (⟨"BeanServerModel", "put", "(IC)V"⟩ : MethodName) prog_12_method_3_code (3 : Nat) (Option.none : Option FieldType) ∈ jj_gw := jj_mem5 (List.mem_of_getElem? (i := 9) (by decide +kernel)) (by decide +kernel)
theorem wd_970 : Cond.methodLink "BeanServerLaw" (22 : Nat) (⟨"BeanServerModel", "register", "()I"⟩ : MethodName) ∈ jj_gw := jj_mem5 (List.mem_of_getElem? (i := 10) (by decide +kernel)) (by decide +kernel)
theorem wd_971 : Cond.instanceMethod (⟨"BeanServerModel", "register", "()I"⟩ : MethodName) ∈ jj_gw := jj_mem5 (List.mem_of_getElem? (i := 11) (by decide +kernel)) (by decide +kernel)
theorem wd_972 : Cond.selects "BeanServerModel" (⟨"BeanServerModel", "register", "()I"⟩ : MethodName) (⟨"BeanServerModel", "register", "()I"⟩ : MethodName) ∈ jj_gw := jj_mem5 (List.mem_of_getElem? (i := 12) (by decide +kernel)) (by decide +kernel)
theorem wd_973 : Cond.code (⟨"BeanServerModel", "register", "()I"⟩ : MethodName) prog_12_method_24_code (3 : Nat) (Option.some FieldType.int) ∈ jj_gw := jj_mem5 (List.mem_of_getElem? (i := 13) (by decide +kernel)) (by decide +kernel)
theorem wd_974 : Cond.methodLink "BeanServerModel" (157 : Nat) (⟨"BeanServerModel", "takeName", "()Z"⟩ : MethodName) ∈ jj_gw := jj_mem5 (List.mem_of_getElem? (i := 14) (by decide +kernel)) (by decide +kernel)
theorem wd_976 : Cond.instanceMethod (⟨"BeanServerModel", "takeName", "()Z"⟩ : MethodName) ∈ jj_gw := jj_mem5 (List.mem_of_getElem? (i := 16) (by decide +kernel)) (by decide +kernel)
theorem wd_977 : Cond.code (⟨"BeanServerModel", "takeName", "()Z"⟩ : MethodName) prog_12_method_16_code (1 : Nat) (Option.some FieldType.boolean) ∈ jj_gw := jj_mem5 (List.mem_of_getElem? (i := 17) (by decide +kernel)) (by decide +kernel)
theorem wd_978 : Cond.methodLink "BeanServerModel" (122 : Nat) (⟨"BeanServerModel", "take", "()V"⟩ : MethodName) ∈ jj_gw := jj_mem5 (List.mem_of_getElem? (i := 18) (by decide +kernel)) (by decide +kernel)
theorem wd_980 : Cond.instanceMethod (⟨"BeanServerModel", "take", "()V"⟩ : MethodName) ∈ jj_gw := jj_mem5 (List.mem_of_getElem? (i := 20) (by decide +kernel)) (by decide +kernel)
theorem wd_981 : Cond.code (⟨"BeanServerModel", "take", "()V"⟩ : MethodName) prog_12_method_6_code (1 : Nat) (Option.none : Option FieldType) ∈ jj_gw := jj_mem5 (List.mem_of_getElem? (i := 21) (by decide +kernel)) (by decide +kernel)
theorem wd_982 : Cond.methodLink "BeanServerModel" (91 : Nat) (⟨"BeanServerModel", "copy", "(II)V"⟩ : MethodName) ∈ jj_gw := jj_mem5 (List.mem_of_getElem? (i := 22) (by decide +kernel)) (by decide +kernel)
theorem wd_984 : Cond.instanceMethod (⟨"BeanServerModel", "copy", "(II)V"⟩ : MethodName) ∈ jj_gw := jj_mem5 (List.mem_of_getElem? (i := 24) (by decide +kernel)) (by decide +kernel)
theorem wd_985 : Cond.code (⟨"BeanServerModel", "copy", "(II)V"⟩ : MethodName) prog_12_method_4_code (4 : Nat) (Option.none : Option FieldType) ∈ jj_gw := jj_mem5 (List.mem_of_getElem? (i := 25) (by decide +kernel)) (by decide +kernel)
theorem wd_986 : Cond.methodLink "BeanServerModel" (83 : Nat) (⟨"BeanServerModel", "get1", "(II)C"⟩ : MethodName) ∈ jj_gw := jj_mem5 (List.mem_of_getElem? (i := 26) (by decide +kernel)) (by decide +kernel)
theorem wd_988 : Cond.instanceMethod (⟨"BeanServerModel", "get1", "(II)C"⟩ : MethodName) ∈ jj_gw := jj_mem5 (List.mem_of_getElem? (i := 28) (by decide +kernel)) (by decide +kernel)
theorem wd_989 : Cond.code (⟨"BeanServerModel", "get1", "(II)C"⟩ : MethodName) prog_12_method_2_code (3 : Nat) (Option.some FieldType.char) ∈ jj_gw := jj_mem5 (List.mem_of_getElem? (i := 29) (by decide +kernel)) (by decide +kernel)
theorem wd_990 : Cond.methodLink "BeanServerModel" (125 : Nat) (⟨"BeanServerModel", "reads", "(IZ)Z"⟩ : MethodName) ∈ jj_gw := jj_mem5 (List.mem_of_getElem? (i := 30) (by decide +kernel)) (by decide +kernel)
theorem wd_992 : Cond.instanceMethod (⟨"BeanServerModel", "reads", "(IZ)Z"⟩ : MethodName) ∈ jj_gw := jj_mem5 (List.mem_of_getElem? (i := 32) (by decide +kernel)) (by decide +kernel)
theorem wd_993 : Cond.code (⟨"BeanServerModel", "reads", "(IZ)Z"⟩ : MethodName) prog_12_method_13_code (5 : Nat) (Option.some FieldType.boolean) ∈ jj_gw := jj_mem5 (List.mem_of_getElem? (i := 33) (by decide +kernel)) (by decide +kernel)
theorem wd_994 : Cond.methodLink "BeanServerModel" (110 : Nat) (⟨"BeanServerModel", "colon", "(I)I"⟩ : MethodName) ∈ jj_gw := jj_mem5 (List.mem_of_getElem? (i := 34) (by decide +kernel)) (by decide +kernel)
theorem wd_996 : Cond.instanceMethod (⟨"BeanServerModel", "colon", "(I)I"⟩ : MethodName) ∈ jj_gw := jj_mem5 (List.mem_of_getElem? (i := 36) (by decide +kernel)) (by decide +kernel)
theorem wd_997 : Cond.code (⟨"BeanServerModel", "colon", "(I)I"⟩ : MethodName) prog_12_method_12_code (3 : Nat) (Option.some FieldType.int) ∈ jj_gw := jj_mem5 (List.mem_of_getElem? (i := 37) (by decide +kernel)) (by decide +kernel)
theorem wd_998 : Cond.methodLink "BeanServerModel" (106 : Nat) (⟨"BeanServerModel", "allowed", "(CZ)Z"⟩ : MethodName) ∈ jj_gw := jj_mem5 (List.mem_of_getElem? (i := 38) (by decide +kernel)) (by decide +kernel)
theorem wd_999 : Cond.static (⟨"BeanServerModel", "allowed", "(CZ)Z"⟩ : MethodName) ∈ jj_gw := jj_mem5 (List.mem_of_getElem? (i := 39) (by decide +kernel)) (by decide +kernel)
theorem wd_1000 : Cond.code (⟨"BeanServerModel", "allowed", "(CZ)Z"⟩ : MethodName) prog_12_method_10_code (2 : Nat) (Option.some FieldType.boolean) ∈ jj_gw := jj_mem5 (List.mem_of_getElem? (i := 40) (by decide +kernel)) (by decide +kernel)
theorem wd_1001 : Cond.methodLink "BeanServerModel" (95 : Nat) (⟨"BeanServerModel", "isSmall", "(C)Z"⟩ : MethodName) ∈ jj_gw := jj_mem5 (List.mem_of_getElem? (i := 41) (by decide +kernel)) (by decide +kernel)
theorem wd_1002 : Cond.static (⟨"BeanServerModel", "isSmall", "(C)Z"⟩ : MethodName) ∈ jj_gw := jj_mem5 (List.mem_of_getElem? (i := 42) (by decide +kernel)) (by decide +kernel)
theorem wd_1003 : Cond.code (⟨"BeanServerModel", "isSmall", "(C)Z"⟩ : MethodName) prog_12_method_8_code (1 : Nat) (Option.some FieldType.boolean) ∈ jj_gw := jj_mem5 (List.mem_of_getElem? (i := 43) (by decide +kernel)) (by decide +kernel)
theorem wd_1004 : Cond.methodLink "BeanServerModel" (99 : Nat) (⟨"BeanServerModel", "isDigit", "(C)Z"⟩ : MethodName) ∈ jj_gw := jj_mem5 (List.mem_of_getElem? (i := 44) (by decide +kernel)) (by decide +kernel)
theorem wd_1005 : Cond.static (⟨"BeanServerModel", "isDigit", "(C)Z"⟩ : MethodName) ∈ jj_gw := jj_mem5 (List.mem_of_getElem? (i := 45) (by decide +kernel)) (by decide +kernel)
theorem wd_1006 : Cond.code (⟨"BeanServerModel", "isDigit", "(C)Z"⟩ : MethodName) prog_12_method_9_code (1 : Nat) (Option.some FieldType.boolean) ∈ jj_gw := jj_mem5 (List.mem_of_getElem? (i := 46) (by decide +kernel)) (by decide +kernel)
theorem wd_1007 : Cond.methodLink "BeanServerModel" (114 : Nat) (⟨"BeanServerModel", "list", "(IIZ)Z"⟩ : MethodName) ∈ jj_gw := jj_mem5 (List.mem_of_getElem? (i := 47) (by decide +kernel)) (by decide +kernel)
theorem wd_1009 : Cond.instanceMethod (⟨"BeanServerModel", "list", "(IIZ)Z"⟩ : MethodName) ∈ jj_gw := jj_mem5 (List.mem_of_getElem? (i := 49) (by decide +kernel)) (by decide +kernel)
theorem wd_1010 : Cond.code (⟨"BeanServerModel", "list", "(IIZ)Z"⟩ : MethodName) prog_12_method_11_code (9 : Nat) (Option.some FieldType.boolean) ∈ jj_gw := jj_mem5 (List.mem_of_getElem? (i := 50) (by decide +kernel)) (by decide +kernel)
theorem wd_1011 : Cond.methodLink "BeanServerModel" (129 : Nat) (⟨"BeanServerModel", "order", "()V"⟩ : MethodName) ∈ jj_gw := jj_mem5 (List.mem_of_getElem? (i := 51) (by decide +kernel)) (by decide +kernel)
theorem wd_1013 : Cond.instanceMethod (⟨"BeanServerModel", "order", "()V"⟩ : MethodName) ∈ jj_gw := jj_mem5 (List.mem_of_getElem? (i := 53) (by decide +kernel)) (by decide +kernel)
theorem wd_1014 : Cond.code (⟨"BeanServerModel", "order", "()V"⟩ : MethodName) prog_12_method_15_code (4 : Nat) (Option.none : Option FieldType) ∈ jj_gw := jj_mem5 (List.mem_of_getElem? (i := 54) (by decide +kernel)) (by decide +kernel)
theorem wd_1015 : Cond.methodLink "BeanServerModel" (118 : Nat) (⟨"BeanServerModel", "copyProperty", "(III)V"⟩ : MethodName) ∈ jj_gw := jj_mem5 (List.mem_of_getElem? (i := 55) (by decide +kernel)) (by decide +kernel)
theorem wd_1017 : Cond.instanceMethod (⟨"BeanServerModel", "copyProperty", "(III)V"⟩ : MethodName) ∈ jj_gw := jj_mem5 (List.mem_of_getElem? (i := 57) (by decide +kernel)) (by decide +kernel)
theorem wd_1018 : Cond.code (⟨"BeanServerModel", "copyProperty", "(III)V"⟩ : MethodName) prog_12_method_14_code (5 : Nat) (Option.none : Option FieldType) ∈ jj_gw := jj_mem5 (List.mem_of_getElem? (i := 58) (by decide +kernel)) (by decide +kernel)
theorem wd_1019 : Cond.methodLink "BeanServerModel" (161 : Nat) (⟨"BeanServerModel", "beanWith", "(I)I"⟩ : MethodName) ∈ jj_gw := jj_mem5 (List.mem_of_getElem? (i := 59) (by decide +kernel)) (by decide +kernel)
theorem wd_1021 : Cond.instanceMethod (⟨"BeanServerModel", "beanWith", "(I)I"⟩ : MethodName) ∈ jj_gw := jj_mem5 (List.mem_of_getElem? (i := 61) (by decide +kernel)) (by decide +kernel)
theorem wd_1022 : Cond.code (⟨"BeanServerModel", "beanWith", "(I)I"⟩ : MethodName) prog_12_method_17_code (3 : Nat) (Option.some FieldType.int) ∈ jj_gw := jj_mem5 (List.mem_of_getElem? (i := 62) (by decide +kernel)) (by decide +kernel)
theorem wd_1023 : Cond.methodLink "BeanServerModel" (132 : Nat) (⟨"BeanServerModel", "same", "(II)Z"⟩ : MethodName) ∈ jj_gw := jj_mem5 (List.mem_of_getElem? (i := 63) (by decide +kernel)) (by decide +kernel)
theorem wd_1025 : Cond.instanceMethod (⟨"BeanServerModel", "same", "(II)Z"⟩ : MethodName) ∈ jj_gw := jj_mem5 (List.mem_of_getElem? (i := 65) (by decide +kernel)) (by decide +kernel)
theorem wd_1026 : Cond.code (⟨"BeanServerModel", "same", "(II)Z"⟩ : MethodName) prog_12_method_5_code (5 : Nat) (Option.some FieldType.boolean) ∈ jj_gw := jj_mem5 (List.mem_of_getElem? (i := 66) (by decide +kernel)) (by decide +kernel)
theorem wd_1027 : Cond.methodLink "BeanServerModel" (164 : Nat) (⟨"BeanServerModel", "give", "(III)V"⟩ : MethodName) ∈ jj_gw := jj_mem5 (List.mem_of_getElem? (i := 67) (by decide +kernel)) (by decide +kernel)
theorem wd_1029 : Cond.instanceMethod (⟨"BeanServerModel", "give", "(III)V"⟩ : MethodName) ∈ jj_gw := jj_mem5 (List.mem_of_getElem? (i := 69) (by decide +kernel)) (by decide +kernel)
theorem wd_1030 : Cond.code (⟨"BeanServerModel", "give", "(III)V"⟩ : MethodName) prog_12_method_23_code (5 : Nat) (Option.none : Option FieldType) ∈ jj_gw := jj_mem5 (List.mem_of_getElem? (i := 70) (by decide +kernel)) (by decide +kernel)
theorem wd_1031 : Cond.methodLink "BeanServerLaw" (26 : Nat) (⟨"BeanServerModel", "unregister", "()I"⟩ : MethodName) ∈ jj_gw := jj_mem5 (List.mem_of_getElem? (i := 71) (by decide +kernel)) (by decide +kernel)
theorem wd_1032 : Cond.instanceMethod (⟨"BeanServerModel", "unregister", "()I"⟩ : MethodName) ∈ jj_gw := jj_mem5 (List.mem_of_getElem? (i := 72) (by decide +kernel)) (by decide +kernel)
theorem wd_1033 : Cond.selects "BeanServerModel" (⟨"BeanServerModel", "unregister", "()I"⟩ : MethodName) (⟨"BeanServerModel", "unregister", "()I"⟩ : MethodName) ∈ jj_gw := jj_mem5 (List.mem_of_getElem? (i := 73) (by decide +kernel)) (by decide +kernel)
theorem wd_1034 : Cond.code (⟨"BeanServerModel", "unregister", "()I"⟩ : MethodName) prog_12_method_25_code (2 : Nat) (Option.some FieldType.int) ∈ jj_gw := jj_mem5 (List.mem_of_getElem? (i := 74) (by decide +kernel)) (by decide +kernel)
theorem wd_1035 : Cond.methodLink "BeanServerModel" (167 : Nat) (⟨"BeanServerModel", "find", "()I"⟩ : MethodName) ∈ jj_gw := jj_mem5 (List.mem_of_getElem? (i := 75) (by decide +kernel)) (by decide +kernel)
theorem wd_1036 : Cond.instanceMethod (⟨"BeanServerModel", "find", "()I"⟩ : MethodName) ∈ jj_gw := jj_mem5 (List.mem_of_getElem? (i := 76) (by decide +kernel)) (by decide +kernel)
theorem wd_1037 : Cond.selects "BeanServerModel" (⟨"BeanServerModel", "find", "()I"⟩ : MethodName) (⟨"BeanServerModel", "find", "()I"⟩ : MethodName) ∈ jj_gw := jj_mem5 (List.mem_of_getElem? (i := 77) (by decide +kernel)) (by decide +kernel)
theorem wd_1038 : Cond.code (⟨"BeanServerModel", "find", "()I"⟩ : MethodName) prog_12_method_26_code (2 : Nat) (Option.some FieldType.int) ∈ jj_gw := jj_mem5 (List.mem_of_getElem? (i := 78) (by decide +kernel)) (by decide +kernel)
theorem wd_1039 : Cond.methodLink "BeanServerLaw" (30 : Nat) (⟨"BeanServerModel", "find", "()I"⟩ : MethodName) ∈ jj_gw := jj_mem5 (List.mem_of_getElem? (i := 79) (by decide +kernel)) (by decide +kernel)
theorem wd_1040 : Cond.methodLink "BeanServerLaw" (35 : Nat) (⟨"BeanServerModel", "set", "(III)Z"⟩ : MethodName) ∈ jj_gw := jj_mem5 (List.mem_of_getElem? (i := 80) (by decide +kernel)) (by decide +kernel)
theorem wd_1041 : Cond.instanceMethod (⟨"BeanServerModel", "set", "(III)Z"⟩ : MethodName) ∈ jj_gw := jj_mem5 (List.mem_of_getElem? (i := 81) (by decide +kernel)) (by decide +kernel)
theorem wd_1042 : Cond.selects "BeanServerModel" (⟨"BeanServerModel", "set", "(III)Z"⟩ : MethodName) (⟨"BeanServerModel", "set", "(III)Z"⟩ : MethodName) ∈ jj_gw := jj_mem5 (List.mem_of_getElem? (i := 82) (by decide +kernel)) (by decide +kernel)
theorem wd_1043 : Cond.code (⟨"BeanServerModel", "set", "(III)Z"⟩ : MethodName) prog_12_method_29_code (4 : Nat) (Option.some FieldType.boolean) ∈ jj_gw := jj_mem5 (List.mem_of_getElem? (i := 83) (by decide +kernel)) (by decide +kernel)
theorem wd_1044 : Cond.methodLink "BeanServerModel" (175 : Nat) (⟨"BeanServerModel", "isSlot", "(II)Z"⟩ : MethodName) ∈ jj_gw := jj_mem5 (List.mem_of_getElem? (i := 84) (by decide +kernel)) (by decide +kernel)
theorem wd_1046 : Cond.instanceMethod (⟨"BeanServerModel", "isSlot", "(II)Z"⟩ : MethodName) ∈ jj_gw := jj_mem5 (List.mem_of_getElem? (i := 86) (by decide +kernel)) (by decide +kernel)
theorem wd_1047 : Cond.code (⟨"BeanServerModel", "isSlot", "(II)Z"⟩ : MethodName) prog_12_method_28_code (3 : Nat) (Option.some FieldType.boolean) ∈ jj_gw := jj_mem5 (List.mem_of_getElem? (i := 87) (by decide +kernel)) (by decide +kernel)
theorem wd_1048 : Cond.methodLink "BeanServerModel" (171 : Nat) (⟨"BeanServerModel", "isBean", "(I)Z"⟩ : MethodName) ∈ jj_gw := jj_mem5 (List.mem_of_getElem? (i := 88) (by decide +kernel)) (by decide +kernel)
theorem wd_1050 : Cond.instanceMethod (⟨"BeanServerModel", "isBean", "(I)Z"⟩ : MethodName) ∈ jj_gw := jj_mem5 (List.mem_of_getElem? (i := 90) (by decide +kernel)) (by decide +kernel)
theorem wd_1051 : Cond.code (⟨"BeanServerModel", "isBean", "(I)Z"⟩ : MethodName) prog_12_method_27_code (2 : Nat) (Option.some FieldType.boolean) ∈ jj_gw := jj_mem5 (List.mem_of_getElem? (i := 91) (by decide +kernel)) (by decide +kernel)
theorem wd_1052 : Cond.methodLink "BeanServerLaw" (40 : Nat) (⟨"BeanServerModel", "unset", "(II)Z"⟩ : MethodName) ∈ jj_gw := jj_mem5 (List.mem_of_getElem? (i := 92) (by decide +kernel)) (by decide +kernel)
theorem wd_1053 : Cond.instanceMethod (⟨"BeanServerModel", "unset", "(II)Z"⟩ : MethodName) ∈ jj_gw := jj_mem5 (List.mem_of_getElem? (i := 93) (by decide +kernel)) (by decide +kernel)
theorem wd_1054 : Cond.selects "BeanServerModel" (⟨"BeanServerModel", "unset", "(II)Z"⟩ : MethodName) (⟨"BeanServerModel", "unset", "(II)Z"⟩ : MethodName) ∈ jj_gw := jj_mem5 (List.mem_of_getElem? (i := 94) (by decide +kernel)) (by decide +kernel)
theorem wd_1055 : Cond.code (⟨"BeanServerModel", "unset", "(II)Z"⟩ : MethodName) prog_12_method_30_code (4 : Nat) (Option.some FieldType.boolean) ∈ jj_gw := jj_mem5 (List.mem_of_getElem? (i := 95) (by decide +kernel)) (by decide +kernel)
theorem wd_1056 : Cond.methodLink "BeanServerLaw" (45 : Nat) (⟨"BeanServerModel", "get", "(II)I"⟩ : MethodName) ∈ jj_gw := jj_mem5 (List.mem_of_getElem? (i := 96) (by decide +kernel)) (by decide +kernel)
theorem wd_1057 : Cond.instanceMethod (⟨"BeanServerModel", "get", "(II)I"⟩ : MethodName) ∈ jj_gw := jj_mem5 (List.mem_of_getElem? (i := 97) (by decide +kernel)) (by decide +kernel)
theorem wd_1058 : Cond.selects "BeanServerModel" (⟨"BeanServerModel", "get", "(II)I"⟩ : MethodName) (⟨"BeanServerModel", "get", "(II)I"⟩ : MethodName) ∈ jj_gw := jj_mem5 (List.mem_of_getElem? (i := 98) (by decide +kernel)) (by decide +kernel)
theorem wd_1059 : Cond.code (⟨"BeanServerModel", "get", "(II)I"⟩ : MethodName) prog_12_method_31_code (3 : Nat) (Option.some FieldType.int) ∈ jj_gw := jj_mem5 (List.mem_of_getElem? (i := 99) (by decide +kernel)) (by decide +kernel)
theorem wd_1060 : Cond.methodLink "BeanServerLaw" (49 : Nat) (⟨"BeanServerModel", "define", "()I"⟩ : MethodName) ∈ jj_gw := jj_mem5 (List.mem_of_getElem? (i := 100) (by decide +kernel)) (by decide +kernel)
theorem wd_1061 : Cond.instanceMethod (⟨"BeanServerModel", "define", "()I"⟩ : MethodName) ∈ jj_gw := jj_mem5 (List.mem_of_getElem? (i := 101) (by decide +kernel)) (by decide +kernel)
theorem wd_1062 : Cond.selects "BeanServerModel" (⟨"BeanServerModel", "define", "()I"⟩ : MethodName) (⟨"BeanServerModel", "define", "()I"⟩ : MethodName) ∈ jj_gw := jj_mem5 (List.mem_of_getElem? (i := 102) (by decide +kernel)) (by decide +kernel)
theorem wd_1063 : Cond.code (⟨"BeanServerModel", "define", "()I"⟩ : MethodName) prog_12_method_44_code (3 : Nat) (Option.some FieldType.int) ∈ jj_gw := jj_mem5 (List.mem_of_getElem? (i := 103) (by decide +kernel)) (by decide +kernel)
theorem wd_1064 : Cond.methodLink "BeanServerModel" (210 : Nat) (⟨"BeanServerModel", "isQuery", "()Z"⟩ : MethodName) ∈ jj_gw := jj_mem5 (List.mem_of_getElem? (i := 104) (by decide +kernel)) (by decide +kernel)
theorem wd_1066 : Cond.instanceMethod (⟨"BeanServerModel", "isQuery", "()Z"⟩ : MethodName) ∈ jj_gw := jj_mem5 (List.mem_of_getElem? (i := 106) (by decide +kernel)) (by decide +kernel)
theorem wd_1067 : Cond.code (⟨"BeanServerModel", "isQuery", "()Z"⟩ : MethodName) prog_12_method_37_code (5 : Nat) (Option.some FieldType.boolean) ∈ jj_gw := jj_mem5 (List.mem_of_getElem? (i := 107) (by decide +kernel)) (by decide +kernel)
theorem wd_1068 : Cond.methodLink "BeanServerModel" (190 : Nat) (⟨"BeanServerModel", "comparisonEnd", "(I)I"⟩ : MethodName) ∈ jj_gw := jj_mem5 (List.mem_of_getElem? (i := 108) (by decide +kernel)) (by decide +kernel)
theorem wd_1070 : Cond.instanceMethod (⟨"BeanServerModel", "comparisonEnd", "(I)I"⟩ : MethodName) ∈ jj_gw := jj_mem5 (List.mem_of_getElem? (i := 110) (by decide +kernel)) (by decide +kernel)
theorem wd_1071 : Cond.code (⟨"BeanServerModel", "comparisonEnd", "(I)I"⟩ : MethodName) prog_12_method_36_code (3 : Nat) (Option.some FieldType.int) ∈ jj_gw := jj_mem5 (List.mem_of_getElem? (i := 111) (by decide +kernel)) (by decide +kernel)
theorem wd_1072 : Cond.methodLink "BeanServerModel" (184 : Nat) (⟨"BeanServerModel", "valueEnd", "(I)I"⟩ : MethodName) ∈ jj_gw := jj_mem5 (List.mem_of_getElem? (i := 112) (by decide +kernel)) (by decide +kernel)
theorem wd_1074 : Cond.instanceMethod (⟨"BeanServerModel", "valueEnd", "(I)I"⟩ : MethodName) ∈ jj_gw := jj_mem5 (List.mem_of_getElem? (i := 114) (by decide +kernel)) (by decide +kernel)
theorem wd_1075 : Cond.code (⟨"BeanServerModel", "valueEnd", "(I)I"⟩ : MethodName) prog_12_method_35_code (3 : Nat) (Option.some FieldType.int) ∈ jj_gw := jj_mem5 (List.mem_of_getElem? (i := 115) (by decide +kernel)) (by decide +kernel)
theorem wd_1076 : Cond.methodLink "BeanServerModel" (178 : Nat) (⟨"BeanServerModel", "unit", "(I)I"⟩ : MethodName) ∈ jj_gw := jj_mem5 (List.mem_of_getElem? (i := 116) (by decide +kernel)) (by decide +kernel)
theorem wd_1078 : Cond.instanceMethod (⟨"BeanServerModel", "unit", "(I)I"⟩ : MethodName) ∈ jj_gw := jj_mem5 (List.mem_of_getElem? (i := 118) (by decide +kernel)) (by decide +kernel)
theorem wd_1079 : Cond.code (⟨"BeanServerModel", "unit", "(I)I"⟩ : MethodName) prog_12_method_32_code (4 : Nat) (Option.some FieldType.int) ∈ jj_gw := jj_mem5 (List.mem_of_getElem? (i := 119) (by decide +kernel)) (by decide +kernel)
theorem wd_1080 : Cond.methodLink "BeanServerModel" (181 : Nat) (⟨"BeanServerModel", "isOperator", "(C)Z"⟩ : MethodName) ∈ jj_gw := jj_mem5 (List.mem_of_getElem? (i := 120) (by decide +kernel)) (by decide +kernel)
theorem wd_1081 : Cond.static (⟨"BeanServerModel", "isOperator", "(C)Z"⟩ : MethodName) ∈ jj_gw := jj_mem5 (List.mem_of_getElem? (i := 121) (by decide +kernel)) (by decide +kernel)
theorem wd_1082 : Cond.code (⟨"BeanServerModel", "isOperator", "(C)Z"⟩ : MethodName) prog_12_method_33_code (1 : Nat) (Option.some FieldType.boolean) ∈ jj_gw := jj_mem5 (List.mem_of_getElem? (i := 122) (by decide +kernel)) (by decide +kernel)
theorem wd_1083 : Cond.methodLink "BeanServerModel" (187 : Nat) (⟨"BeanServerModel", "isRelation", "(C)Z"⟩ : MethodName) ∈ jj_gw := jj_mem5 (List.mem_of_getElem? (i := 123) (by decide +kernel)) (by decide +kernel)
theorem wd_1084 : Cond.static (⟨"BeanServerModel", "isRelation", "(C)Z"⟩ : MethodName) ∈ jj_gw := jj_mem5 (List.mem_of_getElem? (i := 124) (by decide +kernel)) (by decide +kernel)
theorem wd_1085 : Cond.code (⟨"BeanServerModel", "isRelation", "(C)Z"⟩ : MethodName) prog_12_method_34_code (1 : Nat) (Option.some FieldType.boolean) ∈ jj_gw := jj_mem5 (List.mem_of_getElem? (i := 125) (by decide +kernel)) (by decide +kernel)
theorem wd_1086 : Cond.methodLink "BeanServerModel" (213 : Nat) (⟨"BeanServerModel", "shorten", "()V"⟩ : MethodName) ∈ jj_gw := jj_mem5 (List.mem_of_getElem? (i := 126) (by decide +kernel)) (by decide +kernel)
theorem wd_1088 : Cond.instanceMethod (⟨"BeanServerModel", "shorten", "()V"⟩ : MethodName) ∈ jj_gw := jj_mem5 (List.mem_of_getElem? (i := 128) (by decide +kernel)) (by decide +kernel)
theorem wd_1089 : Cond.code (⟨"BeanServerModel", "shorten", "()V"⟩ : MethodName) prog_12_method_42_code (5 : Nat) (Option.none : Option FieldType) ∈ jj_gw := jj_mem5 (List.mem_of_getElem? (i := 129) (by decide +kernel)) (by decide +kernel)
theorem wd_1090 : Cond.methodLink "BeanServerModel" (203 : Nat) (⟨"BeanServerModel", "last", "()C"⟩ : MethodName) ∈ jj_gw := jj_mem5 (List.mem_of_getElem? (i := 130) (by decide +kernel)) (by decide +kernel)
theorem wd_1092 : Cond.instanceMethod (⟨"BeanServerModel", "last", "()C"⟩ : MethodName) ∈ jj_gw := jj_mem5 (List.mem_of_getElem? (i := 132) (by decide +kernel)) (by decide +kernel)
theorem wd_1093 : Cond.code (⟨"BeanServerModel", "last", "()C"⟩ : MethodName) prog_12_method_43_code (1 : Nat) (Option.some FieldType.char) ∈ jj_gw := jj_mem5 (List.mem_of_getElem? (i := 133) (by decide +kernel)) (by decide +kernel)
theorem wd_1094 : Cond.methodLink "BeanServerModel" (207 : Nat) (⟨"BeanServerModel", "needed", "(I)Z"⟩ : MethodName) ∈ jj_gw := jj_mem5 (List.mem_of_getElem? (i := 134) (by decide +kernel)) (by decide +kernel)
theorem wd_1096 : Cond.instanceMethod (⟨"BeanServerModel", "needed", "(I)Z"⟩ : MethodName) ∈ jj_gw := jj_mem5 (List.mem_of_getElem? (i := 136) (by decide +kernel)) (by decide +kernel)
theorem wd_1097 : Cond.code (⟨"BeanServerModel", "needed", "(I)Z"⟩ : MethodName) prog_12_method_41_code (7 : Nat) (Option.some FieldType.boolean) ∈ jj_gw := jj_mem5 (List.mem_of_getElem? (i := 137) (by decide +kernel)) (by decide +kernel)
theorem wd_1098 : Cond.methodLink "BeanServerModel" (193 : Nat) (⟨"BeanServerModel", "partner", "(I)I"⟩ : MethodName) ∈ jj_gw := jj_mem5 (List.mem_of_getElem? (i := 138) (by decide +kernel)) (by decide +kernel)
theorem wd_1100 : Cond.instanceMethod (⟨"BeanServerModel", "partner", "(I)I"⟩ : MethodName) ∈ jj_gw := jj_mem5 (List.mem_of_getElem? (i := 140) (by decide +kernel)) (by decide +kernel)
theorem wd_1101 : Cond.code (⟨"BeanServerModel", "partner", "(I)I"⟩ : MethodName) prog_12_method_38_code (7 : Nat) (Option.some FieldType.int) ∈ jj_gw := jj_mem5 (List.mem_of_getElem? (i := 141) (by decide +kernel)) (by decide +kernel)
theorem wd_1102 : Cond.methodLink "BeanServerModel" (196 : Nat) (⟨"BeanServerModel", "contains", "(IIC)Z"⟩ : MethodName) ∈ jj_gw := jj_mem5 (List.mem_of_getElem? (i := 142) (by decide +kernel)) (by decide +kernel)
theorem wd_1104 : Cond.instanceMethod (⟨"BeanServerModel", "contains", "(IIC)Z"⟩ : MethodName) ∈ jj_gw := jj_mem5 (List.mem_of_getElem? (i := 144) (by decide +kernel)) (by decide +kernel)
theorem wd_1105 : Cond.code (⟨"BeanServerModel", "contains", "(IIC)Z"⟩ : MethodName) prog_12_method_39_code (8 : Nat) (Option.some FieldType.boolean) ∈ jj_gw := jj_mem5 (List.mem_of_getElem? (i := 145) (by decide +kernel)) (by decide +kernel)
theorem wd_1106 : Cond.methodLink "BeanServerModel" (200 : Nat) (⟨"BeanServerModel", "amongSeveral", "(II)Z"⟩ : MethodName) ∈ jj_gw := jj_mem5 (List.mem_of_getElem? (i := 146) (by decide +kernel)) (by decide +kernel)
theorem wd_1108 : Cond.instanceMethod (⟨"BeanServerModel", "amongSeveral", "(II)Z"⟩ : MethodName) ∈ jj_gw := jj_mem5 (List.mem_of_getElem? (i := 148) (by decide +kernel)) (by decide +kernel)
theorem wd_1109 : Cond.code (⟨"BeanServerModel", "amongSeveral", "(II)Z"⟩ : MethodName) prog_12_method_40_code (4 : Nat) (Option.some FieldType.boolean) ∈ jj_gw := jj_mem5 (List.mem_of_getElem? (i := 149) (by decide +kernel)) (by decide +kernel)
theorem wd_1110 : Cond.methodLink "BeanServerLaw" (53 : Nat) (⟨"BeanServerModel", "check", "(II)I"⟩ : MethodName) ∈ jj_gw := jj_mem5 (List.mem_of_getElem? (i := 150) (by decide +kernel)) (by decide +kernel)
theorem wd_1111 : Cond.instanceMethod (⟨"BeanServerModel", "check", "(II)I"⟩ : MethodName) ∈ jj_gw := jj_mem5 (List.mem_of_getElem? (i := 151) (by decide +kernel)) (by decide +kernel)
theorem wd_1112 : Cond.selects "BeanServerModel" (⟨"BeanServerModel", "check", "(II)I"⟩ : MethodName) (⟨"BeanServerModel", "check", "(II)I"⟩ : MethodName) ∈ jj_gw := jj_mem5 (List.mem_of_getElem? (i := 152) (by decide +kernel)) (by decide +kernel)
theorem wd_1113 : Cond.code (⟨"BeanServerModel", "check", "(II)I"⟩ : MethodName) prog_12_method_53_code (3 : Nat) (Option.some FieldType.int) ∈ jj_gw := jj_mem5 (List.mem_of_getElem? (i := 153) (by decide +kernel)) (by decide +kernel)
theorem wd_1114 : Cond.methodLink "BeanServerModel" (244 : Nat) (⟨"BeanServerModel", "isAsked", "(I)Z"⟩ : MethodName) ∈ jj_gw := jj_mem5 (List.mem_of_getElem? (i := 154) (by decide +kernel)) (by decide +kernel)
theorem wd_1116 : Cond.instanceMethod (⟨"BeanServerModel", "isAsked", "(I)Z"⟩ : MethodName) ∈ jj_gw := jj_mem5 (List.mem_of_getElem? (i := 156) (by decide +kernel)) (by decide +kernel)
theorem wd_1117 : Cond.code (⟨"BeanServerModel", "isAsked", "(I)Z"⟩ : MethodName) prog_12_method_52_code (2 : Nat) (Option.some FieldType.boolean) ∈ jj_gw := jj_mem5 (List.mem_of_getElem? (i := 157) (by decide +kernel)) (by decide +kernel)
theorem wd_1118 : Cond.methodLink "BeanServerModel" (247 : Nat) (⟨"BeanServerModel", "truth", "(II)I"⟩ : MethodName) ∈ jj_gw := jj_mem5 (List.mem_of_getElem? (i := 158) (by decide +kernel)) (by decide +kernel)
theorem wd_1120 : Cond.instanceMethod (⟨"BeanServerModel", "truth", "(II)I"⟩ : MethodName) ∈ jj_gw := jj_mem5 (List.mem_of_getElem? (i := 160) (by decide +kernel)) (by decide +kernel)
theorem wd_1121 : Cond.code (⟨"BeanServerModel", "truth", "(II)I"⟩ : MethodName) prog_12_method_51_code (8 : Nat) (Option.some FieldType.int) ∈ jj_gw := jj_mem5 (List.mem_of_getElem? (i := 161) (by decide +kernel)) (by decide +kernel)
theorem wd_1122 : Cond.methodLink "BeanServerModel" (231 : Nat) (⟨"BeanServerModel", "enter", "(IZ)V"⟩ : MethodName) ∈ jj_gw := jj_mem5 (List.mem_of_getElem? (i := 162) (by decide +kernel)) (by decide +kernel)
theorem wd_1124 : Cond.instanceMethod (⟨"BeanServerModel", "enter", "(IZ)V"⟩ : MethodName) ∈ jj_gw := jj_mem5 (List.mem_of_getElem? (i := 164) (by decide +kernel)) (by decide +kernel)
theorem wd_1125 : Cond.code (⟨"BeanServerModel", "enter", "(IZ)V"⟩ : MethodName) prog_12_method_48_code (3 : Nat) (Option.none : Option FieldType) ∈ jj_gw := jj_mem5 (List.mem_of_getElem? (i := 165) (by decide +kernel)) (by decide +kernel)
theorem wd_1126 : Cond.methodLink "BeanServerModel" (235 : Nat) (⟨"BeanServerModel", "looked", "(I)Z"⟩ : MethodName) ∈ jj_gw := jj_mem5 (List.mem_of_getElem? (i := 166) (by decide +kernel)) (by decide +kernel)
theorem wd_1128 : Cond.instanceMethod (⟨"BeanServerModel", "looked", "(I)Z"⟩ : MethodName) ∈ jj_gw := jj_mem5 (List.mem_of_getElem? (i := 168) (by decide +kernel)) (by decide +kernel)
theorem wd_1129 : Cond.code (⟨"BeanServerModel", "looked", "(I)Z"⟩ : MethodName) prog_12_method_50_code (2 : Nat) (Option.some FieldType.boolean) ∈ jj_gw := jj_mem5 (List.mem_of_getElem? (i := 169) (by decide +kernel)) (by decide +kernel)
theorem wd_1130 : Cond.methodLink "BeanServerModel" (238 : Nat) (⟨"BeanServerModel", "settle", "(IZ)V"⟩ : MethodName) ∈ jj_gw := jj_mem5 (List.mem_of_getElem? (i := 170) (by decide +kernel)) (by decide +kernel)
theorem wd_1132 : Cond.instanceMethod (⟨"BeanServerModel", "settle", "(IZ)V"⟩ : MethodName) ∈ jj_gw := jj_mem5 (List.mem_of_getElem? (i := 172) (by decide +kernel)) (by decide +kernel)
theorem wd_1133 : Cond.code (⟨"BeanServerModel", "settle", "(IZ)V"⟩ : MethodName) prog_12_method_49_code (3 : Nat) (Option.none : Option FieldType) ∈ jj_gw := jj_mem5 (List.mem_of_getElem? (i := 173) (by decide +kernel)) (by decide +kernel)
theorem wd_1134 : Cond.methodLink "BeanServerModel" (241 : Nat) (⟨"BeanServerModel", "comparison", "(II)Z"⟩ : MethodName) ∈ jj_gw := jj_mem5 (List.mem_of_getElem? (i := 174) (by decide +kernel)) (by decide +kernel)
theorem wd_1136 : Cond.instanceMethod (⟨"BeanServerModel", "comparison", "(II)Z"⟩ : MethodName) ∈ jj_gw := jj_mem5 (List.mem_of_getElem? (i := 176) (by decide +kernel)) (by decide +kernel)
theorem wd_1137 : Cond.code (⟨"BeanServerModel", "comparison", "(II)Z"⟩ : MethodName) prog_12_method_47_code (6 : Nat) (Option.some FieldType.boolean) ∈ jj_gw := jj_mem5 (List.mem_of_getElem? (i := 177) (by decide +kernel)) (by decide +kernel)
theorem wd_1138 : Cond.methodLink "BeanServerModel" (228 : Nat) (⟨"BeanServerModel", "value", "(II)I"⟩ : MethodName) ∈ jj_gw := jj_mem5 (List.mem_of_getElem? (i := 178) (by decide +kernel)) (by decide +kernel)
theorem wd_1140 : Cond.instanceMethod (⟨"BeanServerModel", "value", "(II)I"⟩ : MethodName) ∈ jj_gw := jj_mem5 (List.mem_of_getElem? (i := 180) (by decide +kernel)) (by decide +kernel)
theorem wd_1141 : Cond.code (⟨"BeanServerModel", "value", "(II)I"⟩ : MethodName) prog_12_method_46_code (8 : Nat) (Option.some FieldType.int) ∈ jj_gw := jj_mem5 (List.mem_of_getElem? (i := 181) (by decide +kernel)) (by decide +kernel)
theorem wd_1142 : Cond.methodLink "BeanServerModel" (225 : Nat) (⟨"BeanServerModel", "unitValue", "(II)I"⟩ : MethodName) ∈ jj_gw := jj_mem5 (List.mem_of_getElem? (i := 182) (by decide +kernel)) (by decide +kernel)
theorem wd_1144 : Cond.instanceMethod (⟨"BeanServerModel", "unitValue", "(II)I"⟩ : MethodName) ∈ jj_gw := jj_mem5 (List.mem_of_getElem? (i := 184) (by decide +kernel)) (by decide +kernel)
theorem wd_1145 : Cond.code (⟨"BeanServerModel", "unitValue", "(II)I"⟩ : MethodName) prog_12_method_45_code (5 : Nat) (Option.some FieldType.int) ∈ jj_gw := jj_mem5 (List.mem_of_getElem? (i := 185) (by decide +kernel)) (by decide +kernel)
theorem wd_1146 : Cond.methodLink "BeanServerModel" (222 : Nat) (⟨"BeanServerModel", "get", "(II)I"⟩ : MethodName) ∈ jj_gw := jj_mem5 (List.mem_of_getElem? (i := 186) (by decide +kernel)) (by decide +kernel)
theorem wd_1147 : Cond.methodLink "BeanServerLaw" (58 : Nat) (⟨"BeanServerModel", "select", "(I)I"⟩ : MethodName) ∈ jj_gw := jj_mem5 (List.mem_of_getElem? (i := 187) (by decide +kernel)) (by decide +kernel)
theorem wd_1148 : Cond.instanceMethod (⟨"BeanServerModel", "select", "(I)I"⟩ : MethodName) ∈ jj_gw := jj_mem5 (List.mem_of_getElem? (i := 188) (by decide +kernel)) (by decide +kernel)
theorem wd_1149 : Cond.selects "BeanServerModel" (⟨"BeanServerModel", "select", "(I)I"⟩ : MethodName) (⟨"BeanServerModel", "select", "(I)I"⟩ : MethodName) ∈ jj_gw := jj_mem5 (List.mem_of_getElem? (i := 189) (by decide +kernel)) (by decide +kernel)
theorem wd_1150 : Cond.code (⟨"BeanServerModel", "select", "(I)I"⟩ : MethodName) prog_12_method_54_code (3 : Nat) (Option.some FieldType.int) ∈ jj_gw := jj_mem5 (List.mem_of_getElem? (i := 190) (by decide +kernel)) (by decide +kernel)
theorem wd_1151 : Cond.methodLink "BeanServerModel" (253 : Nat) (⟨"BeanServerModel", "fits", "(I)Z"⟩ : MethodName) ∈ jj_gw := jj_mem5 (List.mem_of_getElem? (i := 191) (by decide +kernel)) (by decide +kernel)
theorem wd_1153 : Cond.instanceMethod (⟨"BeanServerModel", "fits", "(I)Z"⟩ : MethodName) ∈ jj_gw := jj_mem5 (List.mem_of_getElem? (i := 193) (by decide +kernel)) (by decide +kernel)
theorem wd_1154 : Cond.code (⟨"BeanServerModel", "fits", "(I)Z"⟩ : MethodName) prog_12_method_22_code (5 : Nat) (Option.some FieldType.boolean) ∈ jj_gw := jj_mem5 (List.mem_of_getElem? (i := 194) (by decide +kernel)) (by decide +kernel)
theorem wd_1155 : Cond.methodLink "BeanServerModel" (143 : Nat) (⟨"BeanServerModel", "matches", "(IIII)Z"⟩ : MethodName) ∈ jj_gw := jj_mem5 (List.mem_of_getElem? (i := 195) (by decide +kernel)) (by decide +kernel)
theorem wd_1157 : Cond.instanceMethod (⟨"BeanServerModel", "matches", "(IIII)Z"⟩ : MethodName) ∈ jj_gw := jj_mem5 (List.mem_of_getElem? (i := 197) (by decide +kernel)) (by decide +kernel)
theorem wd_1158 : Cond.code (⟨"BeanServerModel", "matches", "(IIII)Z"⟩ : MethodName) prog_12_method_18_code (11 : Nat) (Option.some FieldType.boolean) ∈ jj_gw := jj_mem5 (List.mem_of_getElem? (i := 198) (by decide +kernel)) (by decide +kernel)
theorem wd_1159 : Cond.methodLink "BeanServerModel" (136 : Nat) (⟨"BeanServerModel", "isPart", "(C)Z"⟩ : MethodName) ∈ jj_gw := jj_mem5 (List.mem_of_getElem? (i := 199) (by decide +kernel)) (by decide +kernel)
theorem wd_1160 : Cond.static (⟨"BeanServerModel", "isPart", "(C)Z"⟩ : MethodName) ∈ jj_gw := jj_mem5 (List.mem_of_getElem? (i := 200) (by decide +kernel)) (by decide +kernel)
theorem wd_1161 : Cond.code (⟨"BeanServerModel", "isPart", "(C)Z"⟩ : MethodName) prog_12_method_19_code (1 : Nat) (Option.some FieldType.boolean) ∈ jj_gw := jj_mem5 (List.mem_of_getElem? (i := 201) (by decide +kernel)) (by decide +kernel)
theorem wd_1162 : Cond.methodLink "BeanServerModel" (139 : Nat) (⟨"BeanServerModel", "spread", "(IIII)I"⟩ : MethodName) ∈ jj_gw := jj_mem5 (List.mem_of_getElem? (i := 202) (by decide +kernel)) (by decide +kernel)
theorem wd_1164 : Cond.instanceMethod (⟨"BeanServerModel", "spread", "(IIII)I"⟩ : MethodName) ∈ jj_gw := jj_mem5 (List.mem_of_getElem? (i := 204) (by decide +kernel)) (by decide +kernel)
theorem wd_1165 : Cond.code (⟨"BeanServerModel", "spread", "(IIII)I"⟩ : MethodName) prog_12_method_20_code (7 : Nat) (Option.some FieldType.int) ∈ jj_gw := jj_mem5 (List.mem_of_getElem? (i := 205) (by decide +kernel)) (by decide +kernel)
theorem wd_1166 : Cond.methodLink "BeanServerModel" (147 : Nat) (⟨"BeanServerModel", "property", "(II)I"⟩ : MethodName) ∈ jj_gw := jj_mem5 (List.mem_of_getElem? (i := 206) (by decide +kernel)) (by decide +kernel)
theorem wd_1168 : Cond.instanceMethod (⟨"BeanServerModel", "property", "(II)I"⟩ : MethodName) ∈ jj_gw := jj_mem5 (List.mem_of_getElem? (i := 208) (by decide +kernel)) (by decide +kernel)
theorem wd_1169 : Cond.code (⟨"BeanServerModel", "property", "(II)I"⟩ : MethodName) prog_12_method_21_code (6 : Nat) (Option.some FieldType.int) ∈ jj_gw := jj_mem5 (List.mem_of_getElem? (i := 209) (by decide +kernel)) (by decide +kernel)
theorem wd_1170 : Cond.methodLink "BeanServerLaw" (62 : Nat) (⟨"BeanServerModel", "selected", "(I)I"⟩ : MethodName) ∈ jj_gw := jj_mem5 (List.mem_of_getElem? (i := 210) (by decide +kernel)) (by decide +kernel)
theorem wd_1171 : Cond.instanceMethod (⟨"BeanServerModel", "selected", "(I)I"⟩ : MethodName) ∈ jj_gw := jj_mem5 (List.mem_of_getElem? (i := 211) (by decide +kernel)) (by decide +kernel)
theorem wd_1172 : Cond.selects "BeanServerModel" (⟨"BeanServerModel", "selected", "(I)I"⟩ : MethodName) (⟨"BeanServerModel", "selected", "(I)I"⟩ : MethodName) ∈ jj_gw := jj_mem5 (List.mem_of_getElem? (i := 212) (by decide +kernel)) (by decide +kernel)
theorem wd_1173 : Cond.code (⟨"BeanServerModel", "selected", "(I)I"⟩ : MethodName) prog_12_method_55_code (2 : Nat) (Option.some FieldType.int) ∈ jj_gw := jj_mem5 (List.mem_of_getElem? (i := 213) (by decide +kernel)) (by decide +kernel)
theorem wd_1174 : Cond.methodLink "BeanServerLaw" (67 : Nat) (⟨"BeanServerModel", "form", "(III)I"⟩ : MethodName) ∈ jj_gw := jj_mem5 (List.mem_of_getElem? (i := 214) (by decide +kernel)) (by decide +kernel)
theorem wd_1175 : Cond.instanceMethod (⟨"BeanServerModel", "form", "(III)I"⟩ : MethodName) ∈ jj_gw := jj_mem5 (List.mem_of_getElem? (i := 215) (by decide +kernel)) (by decide +kernel)
theorem wd_1176 : Cond.selects "BeanServerModel" (⟨"BeanServerModel", "form", "(III)I"⟩ : MethodName) (⟨"BeanServerModel", "form", "(III)I"⟩ : MethodName) ∈ jj_gw := jj_mem5 (List.mem_of_getElem? (i := 216) (by decide +kernel)) (by decide +kernel)
theorem wd_1177 : Cond.code (⟨"BeanServerModel", "form", "(III)I"⟩ : MethodName) prog_12_method_56_code (5 : Nat) (Option.some FieldType.int) ∈ jj_gw := jj_mem5 (List.mem_of_getElem? (i := 217) (by decide +kernel)) (by decide +kernel)
theorem wd_1178 : Cond.methodLink "BeanServerLaw" (72 : Nat) (⟨"BeanServerModel", "counter", "(IIII)I"⟩ : MethodName) ∈ jj_gw := jj_mem5 (List.mem_of_getElem? (i := 218) (by decide +kernel)) (by decide +kernel)
theorem wd_1179 : Cond.instanceMethod (⟨"BeanServerModel", "counter", "(IIII)I"⟩ : MethodName) ∈ jj_gw := jj_mem5 (List.mem_of_getElem? (i := 219) (by decide +kernel)) (by decide +kernel)
theorem wd_1180 : Cond.selects "BeanServerModel" (⟨"BeanServerModel", "counter", "(IIII)I"⟩ : MethodName) (⟨"BeanServerModel", "counter", "(IIII)I"⟩ : MethodName) ∈ jj_gw := jj_mem5 (List.mem_of_getElem? (i := 220) (by decide +kernel)) (by decide +kernel)
theorem wd_1181 : Cond.code (⟨"BeanServerModel", "counter", "(IIII)I"⟩ : MethodName) prog_12_method_58_code (5 : Nat) (Option.some FieldType.int) ∈ jj_gw := jj_mem5 (List.mem_of_getElem? (i := 221) (by decide +kernel)) (by decide +kernel)
theorem wd_1182 : Cond.methodLink "BeanServerModel" (256 : Nat) (⟨"BeanServerModel", "watch", "(IIIII)I"⟩ : MethodName) ∈ jj_gw := jj_mem5 (List.mem_of_getElem? (i := 222) (by decide +kernel)) (by decide +kernel)
theorem wd_1184 : Cond.instanceMethod (⟨"BeanServerModel", "watch", "(IIIII)I"⟩ : MethodName) ∈ jj_gw := jj_mem5 (List.mem_of_getElem? (i := 224) (by decide +kernel)) (by decide +kernel)
theorem wd_1185 : Cond.code (⟨"BeanServerModel", "watch", "(IIIII)I"⟩ : MethodName) prog_12_method_57_code (7 : Nat) (Option.some FieldType.int) ∈ jj_gw := jj_mem5 (List.mem_of_getElem? (i := 225) (by decide +kernel)) (by decide +kernel)
theorem wd_1186 : Cond.methodLink "BeanServerLaw" (76 : Nat) (⟨"BeanServerModel", "gauge", "(IIII)I"⟩ : MethodName) ∈ jj_gw := jj_mem5 (List.mem_of_getElem? (i := 226) (by decide +kernel)) (by decide +kernel)
theorem wd_1187 : Cond.instanceMethod (⟨"BeanServerModel", "gauge", "(IIII)I"⟩ : MethodName) ∈ jj_gw := jj_mem5 (List.mem_of_getElem? (i := 227) (by decide +kernel)) (by decide +kernel)
theorem wd_1188 : Cond.selects "BeanServerModel" (⟨"BeanServerModel", "gauge", "(IIII)I"⟩ : MethodName) (⟨"BeanServerModel", "gauge", "(IIII)I"⟩ : MethodName) ∈ jj_gw := jj_mem5 (List.mem_of_getElem? (i := 228) (by decide +kernel)) (by decide +kernel)
theorem wd_1189 : Cond.code (⟨"BeanServerModel", "gauge", "(IIII)I"⟩ : MethodName) prog_12_method_59_code (5 : Nat) (Option.some FieldType.int) ∈ jj_gw := jj_mem5 (List.mem_of_getElem? (i := 229) (by decide +kernel)) (by decide +kernel)
theorem wd_1190 : Cond.methodLink "BeanServerLaw" (81 : Nat) (⟨"BeanServerModel", "cancel", "(I)Z"⟩ : MethodName) ∈ jj_gw := jj_mem5 (List.mem_of_getElem? (i := 230) (by decide +kernel)) (by decide +kernel)
theorem wd_1191 : Cond.instanceMethod (⟨"BeanServerModel", "cancel", "(I)Z"⟩ : MethodName) ∈ jj_gw := jj_mem5 (List.mem_of_getElem? (i := 231) (by decide +kernel)) (by decide +kernel)
theorem wd_1192 : Cond.selects "BeanServerModel" (⟨"BeanServerModel", "cancel", "(I)Z"⟩ : MethodName) (⟨"BeanServerModel", "cancel", "(I)Z"⟩ : MethodName) ∈ jj_gw := jj_mem5 (List.mem_of_getElem? (i := 232) (by decide +kernel)) (by decide +kernel)
theorem wd_1193 : Cond.code (⟨"BeanServerModel", "cancel", "(I)Z"⟩ : MethodName) prog_12_method_61_code (2 : Nat) (Option.some FieldType.boolean) ∈ jj_gw := jj_mem5 (List.mem_of_getElem? (i := 233) (by decide +kernel)) (by decide +kernel)
theorem wd_1194 : Cond.methodLink "BeanServerModel" (260 : Nat) (⟨"BeanServerModel", "isMonitor", "(I)Z"⟩ : MethodName) ∈ jj_gw := jj_mem5 (List.mem_of_getElem? (i := 234) (by decide +kernel)) (by decide +kernel)
theorem wd_1196 : Cond.instanceMethod (⟨"BeanServerModel", "isMonitor", "(I)Z"⟩ : MethodName) ∈ jj_gw := jj_mem5 (List.mem_of_getElem? (i := 236) (by decide +kernel)) (by decide +kernel)
theorem wd_1197 : Cond.code (⟨"BeanServerModel", "isMonitor", "(I)Z"⟩ : MethodName) prog_12_method_60_code (2 : Nat) (Option.some FieldType.boolean) ∈ jj_gw := jj_mem5 (List.mem_of_getElem? (i := 237) (by decide +kernel)) (by decide +kernel)
theorem wd_1198 : Cond.methodLink "BeanServerLaw" (85 : Nat) (⟨"BeanServerModel", "observe", "()I"⟩ : MethodName) ∈ jj_gw := jj_mem5 (List.mem_of_getElem? (i := 238) (by decide +kernel)) (by decide +kernel)
theorem wd_1199 : Cond.instanceMethod (⟨"BeanServerModel", "observe", "()I"⟩ : MethodName) ∈ jj_gw := jj_mem5 (List.mem_of_getElem? (i := 239) (by decide +kernel)) (by decide +kernel)
theorem wd_1200 : Cond.selects "BeanServerModel" (⟨"BeanServerModel", "observe", "()I"⟩ : MethodName) (⟨"BeanServerModel", "observe", "()I"⟩ : MethodName) ∈ jj_gw := jj_mem6 (List.mem_of_getElem? (i := 0) (by decide +kernel)) (by decide +kernel)
theorem wd_1201 : Cond.code (⟨"BeanServerModel", "observe", "()I"⟩ : MethodName) prog_12_method_65_code (3 : Nat) (Option.some FieldType.int) ∈ jj_gw := jj_mem6 (List.mem_of_getElem? (i := 1) (by decide +kernel)) (by decide +kernel)
theorem wd_1202 : Cond.methodLink "BeanServerModel" (271 : Nat) (⟨"BeanServerModel", "observe1", "(I)V"⟩ : MethodName) ∈ jj_gw := jj_mem6 (List.mem_of_getElem? (i := 2) (by decide +kernel)) (by decide +kernel)
theorem wd_1204 : Cond.instanceMethod (⟨"BeanServerModel", "observe1", "(I)V"⟩ : MethodName) ∈ jj_gw := jj_mem6 (List.mem_of_getElem? (i := 4) (by decide +kernel)) (by decide +kernel)
theorem wd_1205 : Cond.code (⟨"BeanServerModel", "observe1", "(I)V"⟩ : MethodName) prog_12_method_64_code (5 : Nat) (Option.none : Option FieldType) ∈ jj_gw := jj_mem6 (List.mem_of_getElem? (i := 5) (by decide +kernel)) (by decide +kernel)
theorem wd_1206 : Cond.methodLink "BeanServerModel" (265 : Nat) (⟨"BeanServerModel", "count", "(II)V"⟩ : MethodName) ∈ jj_gw := jj_mem6 (List.mem_of_getElem? (i := 6) (by decide +kernel)) (by decide +kernel)
theorem wd_1208 : Cond.instanceMethod (⟨"BeanServerModel", "count", "(II)V"⟩ : MethodName) ∈ jj_gw := jj_mem6 (List.mem_of_getElem? (i := 8) (by decide +kernel)) (by decide +kernel)
theorem wd_1209 : Cond.code (⟨"BeanServerModel", "count", "(II)V"⟩ : MethodName) prog_12_method_62_code (5 : Nat) (Option.none : Option FieldType) ∈ jj_gw := jj_mem6 (List.mem_of_getElem? (i := 9) (by decide +kernel)) (by decide +kernel)
theorem wd_1210 : Cond.methodLink "BeanServerModel" (268 : Nat) (⟨"BeanServerModel", "gaugeOf", "(II)V"⟩ : MethodName) ∈ jj_gw := jj_mem6 (List.mem_of_getElem? (i := 10) (by decide +kernel)) (by decide +kernel)
theorem wd_1212 : Cond.instanceMethod (⟨"BeanServerModel", "gaugeOf", "(II)V"⟩ : MethodName) ∈ jj_gw := jj_mem6 (List.mem_of_getElem? (i := 12) (by decide +kernel)) (by decide +kernel)
theorem wd_1213 : Cond.code (⟨"BeanServerModel", "gaugeOf", "(II)V"⟩ : MethodName) prog_12_method_63_code (3 : Nat) (Option.none : Option FieldType) ∈ jj_gw := jj_mem6 (List.mem_of_getElem? (i := 13) (by decide +kernel)) (by decide +kernel)
theorem wd_1214 : Cond.constantLong "BeanServerModel" (263 : Nat) (-1 : Int64) ∈ jj_gw := jj_mem6 (List.mem_of_getElem? (i := 14) (by decide +kernel)) (by decide +kernel)
theorem wd_1215 : Cond.methodLink "BeanServerLaw" (90 : Nat) (⟨"BeanServerModel", "mark", "(I)J"⟩ : MethodName) ∈ jj_gw := jj_mem6 (List.mem_of_getElem? (i := 15) (by decide +kernel)) (by decide +kernel)
theorem wd_1216 : Cond.instanceMethod (⟨"BeanServerModel", "mark", "(I)J"⟩ : MethodName) ∈ jj_gw := jj_mem6 (List.mem_of_getElem? (i := 16) (by decide +kernel)) (by decide +kernel)
theorem wd_1217 : Cond.selects "BeanServerModel" (⟨"BeanServerModel", "mark", "(I)J"⟩ : MethodName) (⟨"BeanServerModel", "mark", "(I)J"⟩ : MethodName) ∈ jj_gw := jj_mem6 (List.mem_of_getElem? (i := 17) (by decide +kernel)) (by decide +kernel)
theorem wd_1218 : Cond.code (⟨"BeanServerModel", "mark", "(I)J"⟩ : MethodName) prog_12_method_66_code (2 : Nat) (Option.some FieldType.long) ∈ jj_gw := jj_mem6 (List.mem_of_getElem? (i := 18) (by decide +kernel)) (by decide +kernel)
theorem wd_1219 : Cond.methodLink "BeanServerLaw" (94 : Nat) (⟨"BeanServerModel", "listen", "(I)I"⟩ : MethodName) ∈ jj_gw := jj_mem6 (List.mem_of_getElem? (i := 19) (by decide +kernel)) (by decide +kernel)
theorem wd_1220 : Cond.instanceMethod (⟨"BeanServerModel", "listen", "(I)I"⟩ : MethodName) ∈ jj_gw := jj_mem6 (List.mem_of_getElem? (i := 20) (by decide +kernel)) (by decide +kernel)
theorem wd_1221 : Cond.selects "BeanServerModel" (⟨"BeanServerModel", "listen", "(I)I"⟩ : MethodName) (⟨"BeanServerModel", "listen", "(I)I"⟩ : MethodName) ∈ jj_gw := jj_mem6 (List.mem_of_getElem? (i := 21) (by decide +kernel)) (by decide +kernel)
theorem wd_1222 : Cond.code (⟨"BeanServerModel", "listen", "(I)I"⟩ : MethodName) prog_12_method_67_code (2 : Nat) (Option.some FieldType.int) ∈ jj_gw := jj_mem6 (List.mem_of_getElem? (i := 22) (by decide +kernel)) (by decide +kernel)
theorem wd_1223 : Cond.methodLink "BeanServerLaw" (98 : Nat) (⟨"BeanServerModel", "notice", "(II)I"⟩ : MethodName) ∈ jj_gw := jj_mem6 (List.mem_of_getElem? (i := 23) (by decide +kernel)) (by decide +kernel)
theorem wd_1224 : Cond.instanceMethod (⟨"BeanServerModel", "notice", "(II)I"⟩ : MethodName) ∈ jj_gw := jj_mem6 (List.mem_of_getElem? (i := 24) (by decide +kernel)) (by decide +kernel)
theorem wd_1225 : Cond.selects "BeanServerModel" (⟨"BeanServerModel", "notice", "(II)I"⟩ : MethodName) (⟨"BeanServerModel", "notice", "(II)I"⟩ : MethodName) ∈ jj_gw := jj_mem6 (List.mem_of_getElem? (i := 25) (by decide +kernel)) (by decide +kernel)
theorem wd_1226 : Cond.code (⟨"BeanServerModel", "notice", "(II)I"⟩ : MethodName) prog_12_method_68_code (3 : Nat) (Option.some FieldType.int) ∈ jj_gw := jj_mem6 (List.mem_of_getElem? (i := 26) (by decide +kernel)) (by decide +kernel)
theorem wd_1227 : Cond.sameMethod "java/lang/AbstractStringBuilder" "java/lang/AbstractStringBuilder" "length" "()I" ∈ jj_gw := jj_mem6 (List.mem_of_getElem? (i := 27) (by decide +kernel)) (by decide +kernel)
theorem wd_1228 : Cond.sameMethod "java/lang/AbstractStringBuilder" "java/lang/AbstractStringBuilder" "append" "(C)Ljava/lang/AbstractStringBuilder;" ∈ jj_gw := jj_mem6 (List.mem_of_getElem? (i := 28) (by decide +kernel)) (by decide +kernel)
theorem wd_1229 : Cond.sameMethod "java/lang/AbstractStringBuilder" "java/lang/AbstractStringBuilder" "ensureCapacityInternal" "(I)V" ∈ jj_gw := jj_mem6 (List.mem_of_getElem? (i := 29) (by decide +kernel)) (by decide +kernel)
theorem wd_1230 : Cond.sameMethod "java/lang/AbstractStringBuilder" "java/lang/AbstractStringBuilder" "newCapacity" "(I)I" ∈ jj_gw := jj_mem6 (List.mem_of_getElem? (i := 30) (by decide +kernel)) (by decide +kernel)
theorem wd_1231 : Cond.sameMethod "java/lang/AbstractStringBuilder" "java/lang/AbstractStringBuilder" "inflate" "()V" ∈ jj_gw := jj_mem6 (List.mem_of_getElem? (i := 31) (by decide +kernel)) (by decide +kernel)
theorem wd_1232 : Cond.selects "java/lang/StringBuilder" (⟨"java/lang/AbstractStringBuilder", "length", "()I"⟩ : MethodName) (⟨"java/lang/StringBuilder", "length", "()I"⟩ : MethodName) ∈ jj_gw := jj_mem6 (List.mem_of_getElem? (i := 32) (by decide +kernel)) (by decide +kernel)
theorem wd_1233 : Cond.sameMethod "java/lang/AbstractStringBuilder" "java/lang/AbstractStringBuilder" "setLength" "(I)V" ∈ jj_gw := jj_mem6 (List.mem_of_getElem? (i := 33) (by decide +kernel)) (by decide +kernel)
theorem wd_1234 : Cond.sameMethod "java/lang/AbstractStringBuilder" "java/lang/AbstractStringBuilder" "charAt" "(I)C" ∈ jj_gw := jj_mem6 (List.mem_of_getElem? (i := 34) (by decide +kernel)) (by decide +kernel)
theorem wd_1235 : Cond.sameMethod "java/lang/AbstractStringBuilder" "java/lang/AbstractStringBuilder" "deleteCharAt" "(I)Ljava/lang/AbstractStringBuilder;" ∈ jj_gw := jj_mem6 (List.mem_of_getElem? (i := 35) (by decide +kernel)) (by decide +kernel)
theorem wd_1236 : Cond.sameMethod "java/lang/AbstractStringBuilder" "java/lang/AbstractStringBuilder" "shift" "(II)V" ∈ jj_gw := jj_mem6 (List.mem_of_getElem? (i := 36) (by decide +kernel)) (by decide +kernel)
theorem wp_0 : Cond.selects "BeanServer" (⟨"BeanServer", "takenName", "()LBeanServer$Pattern;"⟩ : MethodName) (⟨"BeanServer", "takenName", "()LBeanServer$Pattern;"⟩ : MethodName) ∈ jj_gw := jj_memP (List.mem_of_getElem? (i := 0) (by decide +kernel)) (by decide +kernel)
theorem wp_1 : Cond.selects "BeanServer" (⟨"BeanServer", "taken", "()Ljava/lang/String;"⟩ : MethodName) (⟨"BeanServer", "taken", "()Ljava/lang/String;"⟩ : MethodName) ∈ jj_gw := jj_memP (List.mem_of_getElem? (i := 1) (by decide +kernel)) (by decide +kernel)
theorem wp_2 : Cond.selects "BeanServer$Pattern" (⟨"BeanServer$Pattern", "rowEnd", "(I)I"⟩ : MethodName) (⟨"BeanServer$Pattern", "rowEnd", "(I)I"⟩ : MethodName) ∈ jj_gw := jj_memP (List.mem_of_getElem? (i := 2) (by decide +kernel)) (by decide +kernel)
theorem wp_3 : Cond.selects "BeanServer$Pattern" (⟨"BeanServer$Pattern", "parseList", "(I)Z"⟩ : MethodName) (⟨"BeanServer$Pattern", "parseList", "(I)Z"⟩ : MethodName) ∈ jj_gw := jj_memP (List.mem_of_getElem? (i := 3) (by decide +kernel)) (by decide +kernel)
theorem wp_4 : Cond.selects "BeanServer$Pattern" (⟨"BeanServer$Pattern", "parseProperty", "(I)I"⟩ : MethodName) (⟨"BeanServer$Pattern", "parseProperty", "(I)I"⟩ : MethodName) ∈ jj_gw := jj_memP (List.mem_of_getElem? (i := 4) (by decide +kernel)) (by decide +kernel)
theorem wp_5 : Cond.selects "BeanServer$Pattern" (⟨"BeanServer$Pattern", "ordered", "()Ljava/lang/String;"⟩ : MethodName) (⟨"BeanServer$Pattern", "ordered", "()Ljava/lang/String;"⟩ : MethodName) ∈ jj_gw := jj_memP (List.mem_of_getElem? (i := 5) (by decide +kernel)) (by decide +kernel)
theorem wp_6 : Cond.selects "BeanServer$Pattern" (⟨"BeanServer$Pattern", "copy", "(IILjava/lang/StringBuilder;)V"⟩ : MethodName) (⟨"BeanServer$Pattern", "copy", "(IILjava/lang/StringBuilder;)V"⟩ : MethodName) ∈ jj_gw := jj_memP (List.mem_of_getElem? (i := 6) (by decide +kernel)) (by decide +kernel)
theorem wp_7 : Cond.selects "BeanServer" (⟨"BeanServer", "beanNamed", "(Ljava/lang/String;)I"⟩ : MethodName) (⟨"BeanServer", "beanNamed", "(Ljava/lang/String;)I"⟩ : MethodName) ∈ jj_gw := jj_memP (List.mem_of_getElem? (i := 7) (by decide +kernel)) (by decide +kernel)
theorem wp_8 : Cond.selects "BeanServer" (⟨"BeanServer", "freeBean", "()I"⟩ : MethodName) (⟨"BeanServer", "freeBean", "()I"⟩ : MethodName) ∈ jj_gw := jj_memP (List.mem_of_getElem? (i := 8) (by decide +kernel)) (by decide +kernel)
theorem wp_9 : Cond.selects "BeanServer" (⟨"BeanServer", "beanAt", "(I)LBeanServer$Bean;"⟩ : MethodName) (⟨"BeanServer", "beanAt", "(I)LBeanServer$Bean;"⟩ : MethodName) ∈ jj_gw := jj_memP (List.mem_of_getElem? (i := 9) (by decide +kernel)) (by decide +kernel)
theorem wp_10 : Cond.selects "BeanServer$QueryReader" (⟨"BeanServer$QueryReader", "all", "()I"⟩ : MethodName) (⟨"BeanServer$QueryReader", "all", "()I"⟩ : MethodName) ∈ jj_gw := jj_memP (List.mem_of_getElem? (i := 10) (by decide +kernel)) (by decide +kernel)
theorem wp_11 : Cond.selects "BeanServer$QueryReader" (⟨"BeanServer$QueryReader", "one", "()I"⟩ : MethodName) (⟨"BeanServer$QueryReader", "one", "()I"⟩ : MethodName) ∈ jj_gw := jj_memP (List.mem_of_getElem? (i := 11) (by decide +kernel)) (by decide +kernel)
theorem wp_12 : Cond.selects "BeanServer$QueryReader" (⟨"BeanServer$QueryReader", "step", "()V"⟩ : MethodName) (⟨"BeanServer$QueryReader", "step", "()V"⟩ : MethodName) ∈ jj_gw := jj_memP (List.mem_of_getElem? (i := 12) (by decide +kernel)) (by decide +kernel)
theorem wp_13 : Cond.selects "BeanServer$QueryReader" (⟨"BeanServer$QueryReader", "sum", "()I"⟩ : MethodName) (⟨"BeanServer$QueryReader", "sum", "()I"⟩ : MethodName) ∈ jj_gw := jj_memP (List.mem_of_getElem? (i := 13) (by decide +kernel)) (by decide +kernel)
theorem wp_14 : Cond.selects "BeanServer$QueryReader" (⟨"BeanServer$QueryReader", "product", "()I"⟩ : MethodName) (⟨"BeanServer$QueryReader", "product", "()I"⟩ : MethodName) ∈ jj_gw := jj_memP (List.mem_of_getElem? (i := 14) (by decide +kernel)) (by decide +kernel)
theorem wp_15 : Cond.selects "BeanServer$QueryReader" (⟨"BeanServer$QueryReader", "unit", "()I"⟩ : MethodName) (⟨"BeanServer$QueryReader", "unit", "()I"⟩ : MethodName) ∈ jj_gw := jj_memP (List.mem_of_getElem? (i := 15) (by decide +kernel)) (by decide +kernel)
theorem wp_16 : Cond.selects "BeanServer$QueryForm" (⟨"BeanServer$QueryForm", "openParenthesis", "()V"⟩ : MethodName) (⟨"BeanServer$QueryForm", "openParenthesis", "()V"⟩ : MethodName) ∈ jj_gw := jj_memP (List.mem_of_getElem? (i := 16) (by decide +kernel)) (by decide +kernel)
theorem wp_17 : Cond.selects "BeanServer$QueryForm" (⟨"BeanServer$QueryForm", "closeParenthesis", "(C)V"⟩ : MethodName) (⟨"BeanServer$QueryForm", "closeParenthesis", "(C)V"⟩ : MethodName) ∈ jj_gw := jj_memP (List.mem_of_getElem? (i := 17) (by decide +kernel)) (by decide +kernel)
theorem wp_18 : Cond.selects "BeanServer$QueryForm" (⟨"BeanServer$QueryForm", "lastBefore", "(I)C"⟩ : MethodName) (⟨"BeanServer$QueryForm", "lastBefore", "(I)C"⟩ : MethodName) ∈ jj_gw := jj_memP (List.mem_of_getElem? (i := 18) (by decide +kernel)) (by decide +kernel)
theorem wp_19 : Cond.selects "BeanServer$QueryForm" (⟨"BeanServer$QueryForm", "jointFrom", "(I)C"⟩ : MethodName) (⟨"BeanServer$QueryForm", "jointFrom", "(I)C"⟩ : MethodName) ∈ jj_gw := jj_memP (List.mem_of_getElem? (i := 19) (by decide +kernel)) (by decide +kernel)
theorem wp_20 : Cond.selects "BeanServer" (⟨"BeanServer", "queryAt", "(I)LBeanServer$Query;"⟩ : MethodName) (⟨"BeanServer", "queryAt", "(I)LBeanServer$Query;"⟩ : MethodName) ∈ jj_gw := jj_memP (List.mem_of_getElem? (i := 20) (by decide +kernel)) (by decide +kernel)
theorem wp_21 : Cond.selects "BeanServer$Pattern" (⟨"BeanServer$Pattern", "standsFor", "(IILjava/lang/String;II)Z"⟩ : MethodName) (⟨"BeanServer$Pattern", "standsFor", "(IILjava/lang/String;II)Z"⟩ : MethodName) ∈ jj_gw := jj_memP (List.mem_of_getElem? (i := 21) (by decide +kernel)) (by decide +kernel)
theorem wp_22 : Cond.selects "BeanServer" (⟨"BeanServer", "shownForm", "(II)Ljava/lang/String;"⟩ : MethodName) (⟨"BeanServer", "shownForm", "(II)Ljava/lang/String;"⟩ : MethodName) ∈ jj_gw := jj_memP (List.mem_of_getElem? (i := 22) (by decide +kernel)) (by decide +kernel)
theorem wp_23 : Cond.selects "BeanServer" (⟨"BeanServer", "numberForMonitorOf", "(I)I"⟩ : MethodName) (⟨"BeanServer", "numberForMonitorOf", "(I)I"⟩ : MethodName) ∈ jj_gw := jj_memP (List.mem_of_getElem? (i := 23) (by decide +kernel)) (by decide +kernel)
theorem wp_24 : Cond.selects "BeanServer" (⟨"BeanServer", "monitorAt", "(I)LBeanServer$Monitor;"⟩ : MethodName) (⟨"BeanServer", "monitorAt", "(I)LBeanServer$Monitor;"⟩ : MethodName) ∈ jj_gw := jj_memP (List.mem_of_getElem? (i := 24) (by decide +kernel)) (by decide +kernel)
theorem wp_25 : Cond.selects "BeanServer" (⟨"BeanServer", "letLook", "(LBeanServer$Monitor;I)V"⟩ : MethodName) (⟨"BeanServer", "letLook", "(LBeanServer$Monitor;I)V"⟩ : MethodName) ∈ jj_gw := jj_memP (List.mem_of_getElem? (i := 25) (by decide +kernel)) (by decide +kernel)
theorem wp_26 : Cond.selects "BeanServer$Counter" (⟨"BeanServer$Counter", "firstMarkAbove", "(I)J"⟩ : MethodName) (⟨"BeanServer$Counter", "firstMarkAbove", "(I)J"⟩ : MethodName) ∈ jj_gw := jj_memP (List.mem_of_getElem? (i := 26) (by decide +kernel)) (by decide +kernel)
theorem wp_27 : Cond.selects "BeanServerModel" (⟨"BeanServerModel", "put", "(IC)V"⟩ : MethodName) (⟨"BeanServerModel", "put", "(IC)V"⟩ : MethodName) ∈ jj_gw := jj_memP (List.mem_of_getElem? (i := 27) (by decide +kernel)) (by decide +kernel)
theorem wp_28 : Cond.selects "BeanServerModel" (⟨"BeanServerModel", "takeName", "()Z"⟩ : MethodName) (⟨"BeanServerModel", "takeName", "()Z"⟩ : MethodName) ∈ jj_gw := jj_memP (List.mem_of_getElem? (i := 28) (by decide +kernel)) (by decide +kernel)
theorem wp_29 : Cond.selects "BeanServerModel" (⟨"BeanServerModel", "take", "()V"⟩ : MethodName) (⟨"BeanServerModel", "take", "()V"⟩ : MethodName) ∈ jj_gw := jj_memP (List.mem_of_getElem? (i := 29) (by decide +kernel)) (by decide +kernel)
theorem wp_30 : Cond.selects "BeanServerModel" (⟨"BeanServerModel", "copy", "(II)V"⟩ : MethodName) (⟨"BeanServerModel", "copy", "(II)V"⟩ : MethodName) ∈ jj_gw := jj_memP (List.mem_of_getElem? (i := 30) (by decide +kernel)) (by decide +kernel)
theorem wp_31 : Cond.selects "BeanServerModel" (⟨"BeanServerModel", "get1", "(II)C"⟩ : MethodName) (⟨"BeanServerModel", "get1", "(II)C"⟩ : MethodName) ∈ jj_gw := jj_memP (List.mem_of_getElem? (i := 31) (by decide +kernel)) (by decide +kernel)
theorem wp_32 : Cond.selects "BeanServerModel" (⟨"BeanServerModel", "reads", "(IZ)Z"⟩ : MethodName) (⟨"BeanServerModel", "reads", "(IZ)Z"⟩ : MethodName) ∈ jj_gw := jj_memP (List.mem_of_getElem? (i := 32) (by decide +kernel)) (by decide +kernel)
theorem wp_33 : Cond.selects "BeanServerModel" (⟨"BeanServerModel", "colon", "(I)I"⟩ : MethodName) (⟨"BeanServerModel", "colon", "(I)I"⟩ : MethodName) ∈ jj_gw := jj_memP (List.mem_of_getElem? (i := 33) (by decide +kernel)) (by decide +kernel)
theorem wp_34 : Cond.selects "BeanServerModel" (⟨"BeanServerModel", "list", "(IIZ)Z"⟩ : MethodName) (⟨"BeanServerModel", "list", "(IIZ)Z"⟩ : MethodName) ∈ jj_gw := jj_memP (List.mem_of_getElem? (i := 34) (by decide +kernel)) (by decide +kernel)
theorem wp_35 : Cond.selects "BeanServerModel" (⟨"BeanServerModel", "order", "()V"⟩ : MethodName) (⟨"BeanServerModel", "order", "()V"⟩ : MethodName) ∈ jj_gw := jj_memP (List.mem_of_getElem? (i := 35) (by decide +kernel)) (by decide +kernel)
theorem wp_36 : Cond.selects "BeanServerModel" (⟨"BeanServerModel", "copyProperty", "(III)V"⟩ : MethodName) (⟨"BeanServerModel", "copyProperty", "(III)V"⟩ : MethodName) ∈ jj_gw := jj_memP (List.mem_of_getElem? (i := 36) (by decide +kernel)) (by decide +kernel)
theorem wp_37 : Cond.selects "BeanServerModel" (⟨"BeanServerModel", "beanWith", "(I)I"⟩ : MethodName) (⟨"BeanServerModel", "beanWith", "(I)I"⟩ : MethodName) ∈ jj_gw := jj_memP (List.mem_of_getElem? (i := 37) (by decide +kernel)) (by decide +kernel)
theorem wp_38 : Cond.selects "BeanServerModel" (⟨"BeanServerModel", "same", "(II)Z"⟩ : MethodName) (⟨"BeanServerModel", "same", "(II)Z"⟩ : MethodName) ∈ jj_gw := jj_memP (List.mem_of_getElem? (i := 38) (by decide +kernel)) (by decide +kernel)
theorem wp_39 : Cond.selects "BeanServerModel" (⟨"BeanServerModel", "give", "(III)V"⟩ : MethodName) (⟨"BeanServerModel", "give", "(III)V"⟩ : MethodName) ∈ jj_gw := jj_memP (List.mem_of_getElem? (i := 39) (by decide +kernel)) (by decide +kernel)
theorem wp_40 : Cond.selects "BeanServerModel" (⟨"BeanServerModel", "isSlot", "(II)Z"⟩ : MethodName) (⟨"BeanServerModel", "isSlot", "(II)Z"⟩ : MethodName) ∈ jj_gw := jj_memP (List.mem_of_getElem? (i := 40) (by decide +kernel)) (by decide +kernel)
theorem wp_41 : Cond.selects "BeanServerModel" (⟨"BeanServerModel", "isBean", "(I)Z"⟩ : MethodName) (⟨"BeanServerModel", "isBean", "(I)Z"⟩ : MethodName) ∈ jj_gw := jj_memP (List.mem_of_getElem? (i := 41) (by decide +kernel)) (by decide +kernel)
theorem wp_42 : Cond.selects "BeanServerModel" (⟨"BeanServerModel", "isQuery", "()Z"⟩ : MethodName) (⟨"BeanServerModel", "isQuery", "()Z"⟩ : MethodName) ∈ jj_gw := jj_memP (List.mem_of_getElem? (i := 42) (by decide +kernel)) (by decide +kernel)
theorem wp_43 : Cond.selects "BeanServerModel" (⟨"BeanServerModel", "comparisonEnd", "(I)I"⟩ : MethodName) (⟨"BeanServerModel", "comparisonEnd", "(I)I"⟩ : MethodName) ∈ jj_gw := jj_memP (List.mem_of_getElem? (i := 43) (by decide +kernel)) (by decide +kernel)
theorem wp_44 : Cond.selects "BeanServerModel" (⟨"BeanServerModel", "valueEnd", "(I)I"⟩ : MethodName) (⟨"BeanServerModel", "valueEnd", "(I)I"⟩ : MethodName) ∈ jj_gw := jj_memP (List.mem_of_getElem? (i := 44) (by decide +kernel)) (by decide +kernel)
theorem wp_45 : Cond.selects "BeanServerModel" (⟨"BeanServerModel", "unit", "(I)I"⟩ : MethodName) (⟨"BeanServerModel", "unit", "(I)I"⟩ : MethodName) ∈ jj_gw := jj_memP (List.mem_of_getElem? (i := 45) (by decide +kernel)) (by decide +kernel)
theorem wp_46 : Cond.selects "BeanServerModel" (⟨"BeanServerModel", "shorten", "()V"⟩ : MethodName) (⟨"BeanServerModel", "shorten", "()V"⟩ : MethodName) ∈ jj_gw := jj_memP (List.mem_of_getElem? (i := 46) (by decide +kernel)) (by decide +kernel)
theorem wp_47 : Cond.selects "BeanServerModel" (⟨"BeanServerModel", "last", "()C"⟩ : MethodName) (⟨"BeanServerModel", "last", "()C"⟩ : MethodName) ∈ jj_gw := jj_memP (List.mem_of_getElem? (i := 47) (by decide +kernel)) (by decide +kernel)
theorem wp_48 : Cond.selects "BeanServerModel" (⟨"BeanServerModel", "needed", "(I)Z"⟩ : MethodName) (⟨"BeanServerModel", "needed", "(I)Z"⟩ : MethodName) ∈ jj_gw := jj_memP (List.mem_of_getElem? (i := 48) (by decide +kernel)) (by decide +kernel)
theorem wp_49 : Cond.selects "BeanServerModel" (⟨"BeanServerModel", "partner", "(I)I"⟩ : MethodName) (⟨"BeanServerModel", "partner", "(I)I"⟩ : MethodName) ∈ jj_gw := jj_memP (List.mem_of_getElem? (i := 49) (by decide +kernel)) (by decide +kernel)
theorem wp_50 : Cond.selects "BeanServerModel" (⟨"BeanServerModel", "contains", "(IIC)Z"⟩ : MethodName) (⟨"BeanServerModel", "contains", "(IIC)Z"⟩ : MethodName) ∈ jj_gw := jj_memP (List.mem_of_getElem? (i := 50) (by decide +kernel)) (by decide +kernel)
theorem wp_51 : Cond.selects "BeanServerModel" (⟨"BeanServerModel", "amongSeveral", "(II)Z"⟩ : MethodName) (⟨"BeanServerModel", "amongSeveral", "(II)Z"⟩ : MethodName) ∈ jj_gw := jj_memP (List.mem_of_getElem? (i := 51) (by decide +kernel)) (by decide +kernel)
theorem wp_52 : Cond.selects "BeanServerModel" (⟨"BeanServerModel", "isAsked", "(I)Z"⟩ : MethodName) (⟨"BeanServerModel", "isAsked", "(I)Z"⟩ : MethodName) ∈ jj_gw := jj_memP (List.mem_of_getElem? (i := 52) (by decide +kernel)) (by decide +kernel)
theorem wp_53 : Cond.selects "BeanServerModel" (⟨"BeanServerModel", "truth", "(II)I"⟩ : MethodName) (⟨"BeanServerModel", "truth", "(II)I"⟩ : MethodName) ∈ jj_gw := jj_memP (List.mem_of_getElem? (i := 53) (by decide +kernel)) (by decide +kernel)
theorem wp_54 : Cond.selects "BeanServerModel" (⟨"BeanServerModel", "enter", "(IZ)V"⟩ : MethodName) (⟨"BeanServerModel", "enter", "(IZ)V"⟩ : MethodName) ∈ jj_gw := jj_memP (List.mem_of_getElem? (i := 54) (by decide +kernel)) (by decide +kernel)
theorem wp_55 : Cond.selects "BeanServerModel" (⟨"BeanServerModel", "looked", "(I)Z"⟩ : MethodName) (⟨"BeanServerModel", "looked", "(I)Z"⟩ : MethodName) ∈ jj_gw := jj_memP (List.mem_of_getElem? (i := 55) (by decide +kernel)) (by decide +kernel)
theorem wp_56 : Cond.selects "BeanServerModel" (⟨"BeanServerModel", "settle", "(IZ)V"⟩ : MethodName) (⟨"BeanServerModel", "settle", "(IZ)V"⟩ : MethodName) ∈ jj_gw := jj_memP (List.mem_of_getElem? (i := 56) (by decide +kernel)) (by decide +kernel)
theorem wp_57 : Cond.selects "BeanServerModel" (⟨"BeanServerModel", "comparison", "(II)Z"⟩ : MethodName) (⟨"BeanServerModel", "comparison", "(II)Z"⟩ : MethodName) ∈ jj_gw := jj_memP (List.mem_of_getElem? (i := 57) (by decide +kernel)) (by decide +kernel)
theorem wp_58 : Cond.selects "BeanServerModel" (⟨"BeanServerModel", "value", "(II)I"⟩ : MethodName) (⟨"BeanServerModel", "value", "(II)I"⟩ : MethodName) ∈ jj_gw := jj_memP (List.mem_of_getElem? (i := 58) (by decide +kernel)) (by decide +kernel)
theorem wp_59 : Cond.selects "BeanServerModel" (⟨"BeanServerModel", "unitValue", "(II)I"⟩ : MethodName) (⟨"BeanServerModel", "unitValue", "(II)I"⟩ : MethodName) ∈ jj_gw := jj_memP (List.mem_of_getElem? (i := 59) (by decide +kernel)) (by decide +kernel)
theorem wp_60 : Cond.selects "BeanServerModel" (⟨"BeanServerModel", "fits", "(I)Z"⟩ : MethodName) (⟨"BeanServerModel", "fits", "(I)Z"⟩ : MethodName) ∈ jj_gw := jj_memP (List.mem_of_getElem? (i := 60) (by decide +kernel)) (by decide +kernel)
theorem wp_61 : Cond.selects "BeanServerModel" (⟨"BeanServerModel", "matches", "(IIII)Z"⟩ : MethodName) (⟨"BeanServerModel", "matches", "(IIII)Z"⟩ : MethodName) ∈ jj_gw := jj_memP (List.mem_of_getElem? (i := 61) (by decide +kernel)) (by decide +kernel)
theorem wp_62 : Cond.selects "BeanServerModel" (⟨"BeanServerModel", "spread", "(IIII)I"⟩ : MethodName) (⟨"BeanServerModel", "spread", "(IIII)I"⟩ : MethodName) ∈ jj_gw := jj_memP (List.mem_of_getElem? (i := 62) (by decide +kernel)) (by decide +kernel)
theorem wp_63 : Cond.selects "BeanServerModel" (⟨"BeanServerModel", "property", "(II)I"⟩ : MethodName) (⟨"BeanServerModel", "property", "(II)I"⟩ : MethodName) ∈ jj_gw := jj_memP (List.mem_of_getElem? (i := 63) (by decide +kernel)) (by decide +kernel)
theorem wp_64 : Cond.selects "BeanServerModel" (⟨"BeanServerModel", "watch", "(IIIII)I"⟩ : MethodName) (⟨"BeanServerModel", "watch", "(IIIII)I"⟩ : MethodName) ∈ jj_gw := jj_memP (List.mem_of_getElem? (i := 64) (by decide +kernel)) (by decide +kernel)
theorem wp_65 : Cond.selects "BeanServerModel" (⟨"BeanServerModel", "isMonitor", "(I)Z"⟩ : MethodName) (⟨"BeanServerModel", "isMonitor", "(I)Z"⟩ : MethodName) ∈ jj_gw := jj_memP (List.mem_of_getElem? (i := 65) (by decide +kernel)) (by decide +kernel)
theorem wp_66 : Cond.selects "BeanServerModel" (⟨"BeanServerModel", "observe1", "(I)V"⟩ : MethodName) (⟨"BeanServerModel", "observe1", "(I)V"⟩ : MethodName) ∈ jj_gw := jj_memP (List.mem_of_getElem? (i := 66) (by decide +kernel)) (by decide +kernel)
theorem wp_67 : Cond.selects "BeanServerModel" (⟨"BeanServerModel", "count", "(II)V"⟩ : MethodName) (⟨"BeanServerModel", "count", "(II)V"⟩ : MethodName) ∈ jj_gw := jj_memP (List.mem_of_getElem? (i := 67) (by decide +kernel)) (by decide +kernel)
theorem wp_68 : Cond.selects "BeanServerModel" (⟨"BeanServerModel", "gaugeOf", "(II)V"⟩ : MethodName) (⟨"BeanServerModel", "gaugeOf", "(II)V"⟩ : MethodName) ∈ jj_gw := jj_memP (List.mem_of_getElem? (i := 68) (by decide +kernel)) (by decide +kernel)
theorem wx_0 : Cond.selects "java/lang/StringBuilder" (⟨"java/lang/AbstractStringBuilder", "ensureCapacityInternal", "(I)V"⟩ : MethodName) (⟨"java/lang/AbstractStringBuilder", "ensureCapacityInternal", "(I)V"⟩ : MethodName) ∈ jj_gw := jj_memX (List.mem_of_getElem? (i := 0) (by decide +kernel)) (by decide +kernel)
theorem wx_1 : Cond.selects "java/lang/StringBuilder" (⟨"java/lang/AbstractStringBuilder", "newCapacity", "(I)I"⟩ : MethodName) (⟨"java/lang/AbstractStringBuilder", "newCapacity", "(I)I"⟩ : MethodName) ∈ jj_gw := jj_memX (List.mem_of_getElem? (i := 1) (by decide +kernel)) (by decide +kernel)
theorem wx_2 : Cond.selects "java/lang/StringBuilder" (⟨"java/lang/AbstractStringBuilder", "inflate", "()V"⟩ : MethodName) (⟨"java/lang/AbstractStringBuilder", "inflate", "()V"⟩ : MethodName) ∈ jj_gw := jj_memX (List.mem_of_getElem? (i := 2) (by decide +kernel)) (by decide +kernel)
theorem wx_3 : Cond.selects "java/lang/StringBuilder" (⟨"java/lang/AbstractStringBuilder", "shift", "(II)V"⟩ : MethodName) (⟨"java/lang/AbstractStringBuilder", "shift", "(II)V"⟩ : MethodName) ∈ jj_gw := jj_memX (List.mem_of_getElem? (i := 3) (by decide +kernel)) (by decide +kernel)
end
section
theorem cl_BS : jj_CL 0 cn_BS cf_BS 9 ct_BS := by
  refine ⟨rfl, fun w hw => ?_, by decide +kernel, by decide +kernel⟩
  obtain ⟨k, hk, rfl⟩ := List.mem_map.mp hw
  have hk := List.mem_range.mp hk
  match k, hk with
  | 0, _ => exact wd_114
  | 1, _ => exact wd_116
  | 2, _ => exact wd_118
  | 3, _ => exact wd_120
  | 4, _ => exact wd_122
  | 5, _ => exact wd_124
  | 6, _ => exact wd_126
  | 7, _ => exact wd_128
  | 8, _ => exact wd_130
  | n + 9, h => exact absurd h (by omega)
theorem cl_BE : jj_CL 1 cn_BE cf_BE 3 ct_BE := by
  refine ⟨rfl, fun w hw => ?_, by decide +kernel, by decide +kernel⟩
  obtain ⟨k, hk, rfl⟩ := List.mem_map.mp hw
  have hk := List.mem_range.mp hk
  match k, hk with
  | 0, _ => exact wd_501
  | 1, _ => exact wd_503
  | 2, _ => exact wd_505
  | n + 3, h => exact absurd h (by omega)
theorem cl_LG : jj_CL 2 cn_LG cf_LG 8 ct_LG := by
  refine ⟨rfl, fun w hw => ?_, by decide +kernel, by decide +kernel⟩
  obtain ⟨k, hk, rfl⟩ := List.mem_map.mp hw
  have hk := List.mem_range.mp hk
  match k, hk with
  | 0, _ => exact wd_86
  | 1, _ => exact wd_88
  | 2, _ => exact wd_90
  | 3, _ => exact wd_92
  | 4, _ => exact wd_94
  | 5, _ => exact wd_96
  | 6, _ => exact wd_98
  | 7, _ => exact wd_100
  | n + 8, h => exact absurd h (by omega)
theorem cl_PT : jj_CL 3 cn_PT cf_PT 6 ct_PT := by
  refine ⟨rfl, fun w hw => ?_, by decide +kernel, by decide +kernel⟩
  obtain ⟨k, hk, rfl⟩ := List.mem_map.mp hw
  have hk := List.mem_range.mp hk
  match k, hk with
  | 0, _ => exact wd_342
  | 1, _ => exact wd_344
  | 2, _ => exact wd_346
  | 3, _ => exact wd_348
  | 4, _ => exact wd_350
  | 5, _ => exact wd_352
  | n + 6, h => exact absurd h (by omega)
theorem cl_QU : jj_CL 4 cn_QU cf_QU 1 ct_QU := by
  refine ⟨rfl, fun w hw => ?_, by decide +kernel, by decide +kernel⟩
  obtain ⟨k, hk, rfl⟩ := List.mem_map.mp hw
  have hk := List.mem_range.mp hk
  match k, hk with
  | 0, _ => exact wd_699
  | n + 1, h => exact absurd h (by omega)
theorem cl_QR : jj_CL 5 cn_QR cf_QR 6 ct_QR := by
  refine ⟨rfl, fun w hw => ?_, by decide +kernel, by decide +kernel⟩
  obtain ⟨k, hk, rfl⟩ := List.mem_map.mp hw
  have hk := List.mem_range.mp hk
  match k, hk with
  | 0, _ => exact wd_569
  | 1, _ => exact wd_571
  | 2, _ => exact wd_573
  | 3, _ => exact wd_575
  | 4, _ => exact wd_577
  | 5, _ => exact wd_579
  | n + 6, h => exact absurd h (by omega)
theorem cl_QF : jj_CL 6 cn_QF cf_QF 4 ct_QF := by
  refine ⟨rfl, fun w hw => ?_, by decide +kernel, by decide +kernel⟩
  obtain ⟨k, hk, rfl⟩ := List.mem_map.mp hw
  have hk := List.mem_range.mp hk
  match k, hk with
  | 0, _ => exact wd_631
  | 1, _ => exact wd_633
  | 2, _ => exact wd_635
  | 3, _ => exact wd_637
  | n + 4, h => exact absurd h (by omega)
theorem cl_CT : jj_CL 7 cn_CT cf_CT 9 ct_CT := by
  refine ⟨rfl, fun w hw => ?_, by decide +kernel, by decide +kernel⟩
  obtain ⟨k, hk, rfl⟩ := List.mem_map.mp hw
  have hk := List.mem_range.mp hk
  match k, hk with
  | 0, _ => exact wd_767
  | 1, _ => exact wd_769
  | 2, _ => exact wd_771
  | 3, _ => exact wd_773
  | 4, _ => exact wd_775
  | 5, _ => exact wd_777
  | 6, _ => exact wd_779
  | 7, _ => exact wd_781
  | 8, _ => exact wd_783
  | n + 9, h => exact absurd h (by omega)
theorem cl_GA : jj_CL 8 cn_GA cf_GA 6 ct_GA := by
  refine ⟨rfl, fun w hw => ?_, by decide +kernel, by decide +kernel⟩
  obtain ⟨k, hk, rfl⟩ := List.mem_map.mp hw
  have hk := List.mem_range.mp hk
  match k, hk with
  | 0, _ => exact wd_799
  | 1, _ => exact wd_801
  | 2, _ => exact wd_803
  | 3, _ => exact wd_805
  | 4, _ => exact wd_806
  | 5, _ => exact wd_807
  | n + 6, h => exact absurd h (by omega)
theorem cl_MO : jj_CL 9 cn_MO cf_MO 29 ct_MO := by
  refine ⟨rfl, fun w hw => ?_, by decide +kernel, by decide +kernel⟩
  obtain ⟨k, hk, rfl⟩ := List.mem_map.mp hw
  have hk := List.mem_range.mp hk
  match k, hk with
  | 0, _ => exact wd_901
  | 1, _ => exact wd_903
  | 2, _ => exact wd_905
  | 3, _ => exact wd_907
  | 4, _ => exact wd_909
  | 5, _ => exact wd_911
  | 6, _ => exact wd_913
  | 7, _ => exact wd_915
  | 8, _ => exact wd_917
  | 9, _ => exact wd_919
  | 10, _ => exact wd_921
  | 11, _ => exact wd_923
  | 12, _ => exact wd_925
  | 13, _ => exact wd_927
  | 14, _ => exact wd_929
  | 15, _ => exact wd_931
  | 16, _ => exact wd_933
  | 17, _ => exact wd_935
  | 18, _ => exact wd_937
  | 19, _ => exact wd_939
  | 20, _ => exact wd_941
  | 21, _ => exact wd_943
  | 22, _ => exact wd_945
  | 23, _ => exact wd_947
  | 24, _ => exact wd_949
  | 25, _ => exact wd_951
  | 26, _ => exact wd_953
  | 27, _ => exact wd_955
  | 28, _ => exact wd_957
  | n + 29, h => exact absurd h (by omega)
theorem cl_ST : jj_CL 10 cn_ST cf_ST 4 ct_ST := by
  refine ⟨rfl, fun w hw => ?_, by decide +kernel, by decide +kernel⟩
  obtain ⟨k, hk, rfl⟩ := List.mem_map.mp hw
  have hk := List.mem_range.mp hk
  match k, hk with
  | 0, _ => exact wd_296
  | 1, _ => exact wd_298
  | 2, _ => exact wd_300
  | 3, _ => exact wd_302
  | n + 4, h => exact absurd h (by omega)
theorem cl_SB : jj_CL 11 cn_SB cf_SB 4 ct_SB := by
  refine ⟨rfl, fun w hw => ?_, by decide +kernel, by decide +kernel⟩
  obtain ⟨k, hk, rfl⟩ := List.mem_map.mp hw
  have hk := List.mem_range.mp hk
  match k, hk with
  | 0, _ => exact wd_54
  | 1, _ => exact wd_56
  | 2, _ => exact wd_58
  | 3, _ => exact wd_60
  | n + 4, h => exact absurd h (by omega)
/-- java/lang/AbstractStringBuilder #15: java/lang/AbstractStringBuilder.value [B -/
theorem fl_AS_15 : jj_FL "java/lang/AbstractStringBuilder" 15 11 0 (.array .byte) false := ⟨_, _, _, _, "java/lang/AbstractStringBuilder", cl_SB, by decide, rfl, rfl, Or.inl wd_49, Or.inl rfl⟩
/-- java/lang/AbstractStringBuilder #22: java/lang/AbstractStringBuilder.coder B -/
theorem fl_AS_22 : jj_FL "java/lang/AbstractStringBuilder" 22 11 1 .byte false := ⟨_, _, _, _, "java/lang/AbstractStringBuilder", cl_SB, by decide, rfl, rfl, Or.inl wd_50, Or.inl rfl⟩
/-- java/lang/AbstractStringBuilder #73: java/lang/AbstractStringBuilder.maybeLatin1 Z -/
theorem fl_AS_73 : jj_FL "java/lang/AbstractStringBuilder" 73 11 2 .boolean false := ⟨_, _, _, _, "java/lang/AbstractStringBuilder", cl_SB, by decide, rfl, rfl, Or.inl wd_51, Or.inl rfl⟩
/-- java/lang/String #1048: java/lang/AbstractStringBuilder.maybeLatin1 Z -/
theorem fl_ST_1048 : jj_FL "java/lang/String" 1048 11 2 .boolean false := ⟨_, _, _, _, "java/lang/AbstractStringBuilder", cl_SB, by decide, rfl, rfl, Or.inl wd_52, Or.inl rfl⟩
/-- java/lang/AbstractStringBuilder #79: java/lang/AbstractStringBuilder.count I -/
theorem fl_AS_79 : jj_FL "java/lang/AbstractStringBuilder" 79 11 3 .int false := ⟨_, _, _, _, "java/lang/AbstractStringBuilder", cl_SB, by decide, rfl, rfl, Or.inl wd_53, Or.inl rfl⟩
/-- BeanServer$Log #9: BeanServer$Log.numbers [I -/
theorem fp_LG_9 : jj_FP "BeanServer$Log" 9 2 0 (.array .int) true := ⟨_, _, _, _, "BeanServer$Log", cl_LG, by decide, rfl, rfl, fun _ => rfl, wd_76, Or.inl rfl⟩
theorem fl_LG_9 : jj_FL "BeanServer$Log" 9 2 0 (.array .int) true := fp_LG_9.fl
/-- BeanServer$Log #15: BeanServer$Log.kinds [I -/
theorem fp_LG_15 : jj_FP "BeanServer$Log" 15 2 1 (.array .int) true := ⟨_, _, _, _, "BeanServer$Log", cl_LG, by decide, rfl, rfl, fun _ => rfl, wd_77, Or.inl rfl⟩
theorem fl_LG_15 : jj_FL "BeanServer$Log" 15 2 1 (.array .int) true := fp_LG_15.fl
/-- BeanServer$Log #18: BeanServer$Log.sources [I -/
theorem fp_LG_18 : jj_FP "BeanServer$Log" 18 2 2 (.array .int) true := ⟨_, _, _, _, "BeanServer$Log", cl_LG, by decide, rfl, rfl, fun _ => rfl, wd_78, Or.inl rfl⟩
theorem fl_LG_18 : jj_FL "BeanServer$Log" 18 2 2 (.array .int) true := fp_LG_18.fl
/-- BeanServer$Log #21: BeanServer$Log.values [I -/
theorem fp_LG_21 : jj_FP "BeanServer$Log" 21 2 3 (.array .int) true := ⟨_, _, _, _, "BeanServer$Log", cl_LG, by decide, rfl, rfl, fun _ => rfl, wd_79, Or.inl rfl⟩
theorem fl_LG_21 : jj_FL "BeanServer$Log" 21 2 3 (.array .int) true := fp_LG_21.fl
/-- BeanServer$Log #24: BeanServer$Log.size I -/
theorem fl_LG_24 : jj_FL "BeanServer$Log" 24 2 4 .int false := ⟨_, _, _, _, "BeanServer$Log", cl_LG, by decide, rfl, rfl, Or.inl wd_80, Or.inl rfl⟩
/-- BeanServer$Log #28: BeanServer$Log.next I -/
theorem fl_LG_28 : jj_FL "BeanServer$Log" 28 2 5 .int false := ⟨_, _, _, _, "BeanServer$Log", cl_LG, by decide, rfl, rfl, Or.inl wd_81, Or.inl rfl⟩
/-- BeanServer$Log #31: BeanServer$Log.given I -/
theorem fl_LG_31 : jj_FL "BeanServer$Log" 31 2 6 .int false := ⟨_, _, _, _, "BeanServer$Log", cl_LG, by decide, rfl, rfl, Or.inl wd_82, Or.inl rfl⟩
/-- BeanServer #183: BeanServer$Log.given I -/
theorem fl_BS_183 : jj_FL "BeanServer" 183 2 6 .int false := ⟨_, _, _, _, "BeanServer$Log", cl_LG, by decide, rfl, rfl, Or.inl wd_83, Or.inl rfl⟩
/-- BeanServer$Log #34: BeanServer$Log.listened I -/
theorem fl_LG_34 : jj_FL "BeanServer$Log" 34 2 7 .int false := ⟨_, _, _, _, "BeanServer$Log", cl_LG, by decide, rfl, rfl, Or.inl wd_84, Or.inl rfl⟩
/-- BeanServer #194: BeanServer$Log.listened I -/
theorem fl_BS_194 : jj_FL "BeanServer" 194 2 7 .int false := ⟨_, _, _, _, "BeanServer$Log", cl_LG, by decide, rfl, rfl, Or.inl wd_85, Or.inl rfl⟩
/-- BeanServer #10: BeanServer.buffer Ljava/lang/StringBuilder; -/
theorem fp_BS_10 : jj_FP "BeanServer" 10 0 0 (.object "java/lang/StringBuilder") true := ⟨_, _, _, _, "BeanServer", cl_BS, by decide, rfl, rfl, fun _ => rfl, wd_105, Or.inl rfl⟩
theorem fl_BS_10 : jj_FL "BeanServer" 10 0 0 (.object "java/lang/StringBuilder") true := fp_BS_10.fl
/-- BeanServer #18: BeanServer.beans [LBeanServer$Bean; -/
theorem fp_BS_18 : jj_FP "BeanServer" 18 0 1 (.array (.object "BeanServer$Bean")) true := ⟨_, _, _, _, "BeanServer", cl_BS, by decide, rfl, rfl, fun _ => rfl, wd_106, Or.inl rfl⟩
theorem fl_BS_18 : jj_FL "BeanServer" 18 0 1 (.array (.object "BeanServer$Bean")) true := fp_BS_18.fl
/-- BeanServer #24: BeanServer.queries [LBeanServer$Query; -/
theorem fp_BS_24 : jj_FP "BeanServer" 24 0 2 (.array (.object "BeanServer$Query")) true := ⟨_, _, _, _, "BeanServer", cl_BS, by decide, rfl, rfl, fun _ => rfl, wd_107, Or.inl rfl⟩
theorem fl_BS_24 : jj_FL "BeanServer" 24 0 2 (.array (.object "BeanServer$Query")) true := fp_BS_24.fl
/-- BeanServer #28: BeanServer.queryCount I -/
theorem fl_BS_28 : jj_FL "BeanServer" 28 0 3 .int false := ⟨_, _, _, _, "BeanServer", cl_BS, by decide, rfl, rfl, Or.inl wd_108, Or.inl rfl⟩
/-- BeanServer #34: BeanServer.monitors [LBeanServer$Monitor; -/
theorem fp_BS_34 : jj_FP "BeanServer" 34 0 4 (.array (.object "BeanServer$Monitor")) true := ⟨_, _, _, _, "BeanServer", cl_BS, by decide, rfl, rfl, fun _ => rfl, wd_109, Or.inl rfl⟩
theorem fl_BS_34 : jj_FL "BeanServer" 34 0 4 (.array (.object "BeanServer$Monitor")) true := fp_BS_34.fl
/-- BeanServer #41: BeanServer.log LBeanServer$Log; -/
theorem fp_BS_41 : jj_FP "BeanServer" 41 0 5 (.object "BeanServer$Log") true := ⟨_, _, _, _, "BeanServer", cl_BS, by decide, rfl, rfl, fun _ => rfl, wd_110, Or.inl rfl⟩
theorem fl_BS_41 : jj_FL "BeanServer" 41 0 5 (.object "BeanServer$Log") true := fp_BS_41.fl
/-- BeanServer #45: BeanServer.selection [I -/
theorem fp_BS_45 : jj_FP "BeanServer" 45 0 6 (.array .int) true := ⟨_, _, _, _, "BeanServer", cl_BS, by decide, rfl, rfl, fun _ => rfl, wd_111, Or.inl rfl⟩
theorem fl_BS_45 : jj_FL "BeanServer" 45 0 6 (.array .int) true := fp_BS_45.fl
/-- BeanServer #49: BeanServer.selectionSize I -/
theorem fl_BS_49 : jj_FL "BeanServer" 49 0 7 .int false := ⟨_, _, _, _, "BeanServer", cl_BS, by decide, rfl, rfl, Or.inl wd_112, Or.inl rfl⟩
/-- BeanServer #54: BeanServer.latestPattern Ljava/lang/String; -/
theorem fl_BS_54 : jj_FL "BeanServer" 54 0 8 (.object "java/lang/String") false := ⟨_, _, _, _, "BeanServer", cl_BS, by decide, rfl, rfl, Or.inl wd_113, Or.inl rfl⟩
/-- java/lang/String #9: java/lang/String.value [B -/
theorem fp_ST_9 : jj_FP "java/lang/String" 9 10 0 (.array .byte) true := ⟨_, _, _, _, "java/lang/String", cl_ST, by decide, rfl, rfl, fun _ => rfl, wd_294, Or.inl rfl⟩
theorem fl_ST_9 : jj_FL "java/lang/String" 9 10 0 (.array .byte) true := fp_ST_9.fl
/-- java/lang/String #15: java/lang/String.coder B -/
theorem fp_ST_15 : jj_FP "java/lang/String" 15 10 1 .byte true := ⟨_, _, _, _, "java/lang/String", cl_ST, by decide, rfl, rfl, fun _ => rfl, wd_295, Or.inl rfl⟩
theorem fl_ST_15 : jj_FL "java/lang/String" 15 10 1 .byte true := fp_ST_15.fl
/-- BeanServer$Pattern #32: BeanServer$Pattern.text Ljava/lang/String; -/
theorem fp_PT_32 : jj_FP "BeanServer$Pattern" 32 3 0 (.object "java/lang/String") true := ⟨_, _, _, _, "BeanServer$Pattern", cl_PT, by decide, rfl, rfl, fun _ => rfl, wd_335, Or.inl rfl⟩
theorem fl_PT_32 : jj_FL "BeanServer$Pattern" 32 3 0 (.object "java/lang/String") true := fp_PT_32.fl
/-- BeanServer$Pattern #9: BeanServer$Pattern.starts [I -/
theorem fp_PT_9 : jj_FP "BeanServer$Pattern" 9 3 1 (.array .int) true := ⟨_, _, _, _, "BeanServer$Pattern", cl_PT, by decide, rfl, rfl, fun _ => rfl, wd_336, Or.inl rfl⟩
theorem fl_PT_9 : jj_FL "BeanServer$Pattern" 9 3 1 (.array .int) true := fp_PT_9.fl
/-- BeanServer$Pattern #15: BeanServer$Pattern.ends [I -/
theorem fp_PT_15 : jj_FP "BeanServer$Pattern" 15 3 2 (.array .int) true := ⟨_, _, _, _, "BeanServer$Pattern", cl_PT, by decide, rfl, rfl, fun _ => rfl, wd_337, Or.inl rfl⟩
theorem fl_PT_15 : jj_FL "BeanServer$Pattern" 15 3 2 (.array .int) true := fp_PT_15.fl
/-- BeanServer$Pattern #18: BeanServer$Pattern.domainEnd I -/
theorem fl_PT_18 : jj_FL "BeanServer$Pattern" 18 3 3 .int false := ⟨_, _, _, _, "BeanServer$Pattern", cl_PT, by decide, rfl, rfl, Or.inl wd_338, Or.inl rfl⟩
/-- BeanServer$Pattern #22: BeanServer$Pattern.open Z -/
theorem fl_PT_22 : jj_FL "BeanServer$Pattern" 22 3 4 .boolean false := ⟨_, _, _, _, "BeanServer$Pattern", cl_PT, by decide, rfl, rfl, Or.inl wd_339, Or.inl rfl⟩
/-- BeanServer$Pattern #28: BeanServer$Pattern.form Ljava/lang/String; -/
theorem fl_PT_28 : jj_FL "BeanServer$Pattern" 28 3 5 (.object "java/lang/String") false := ⟨_, _, _, _, "BeanServer$Pattern", cl_PT, by decide, rfl, rfl, Or.inl wd_340, Or.inl rfl⟩
/-- BeanServer #70: BeanServer$Pattern.form Ljava/lang/String; -/
theorem fl_BS_70 : jj_FL "BeanServer" 70 3 5 (.object "java/lang/String") false := ⟨_, _, _, _, "BeanServer$Pattern", cl_PT, by decide, rfl, rfl, Or.inl wd_341, Or.inl rfl⟩
/-- BeanServer$Bean #19: BeanServer$Bean.name LBeanServer$Pattern; -/
theorem fp_BE_19 : jj_FP "BeanServer$Bean" 19 1 0 (.object "BeanServer$Pattern") true := ⟨_, _, _, _, "BeanServer$Bean", cl_BE, by decide, rfl, rfl, fun _ => rfl, wd_493, Or.inl rfl⟩
theorem fl_BE_19 : jj_FL "BeanServer$Bean" 19 1 0 (.object "BeanServer$Pattern") true := fp_BE_19.fl
/-- BeanServer #147: BeanServer$Bean.name LBeanServer$Pattern; -/
theorem fl_BS_147 : jj_FL "BeanServer" 147 1 0 (.object "BeanServer$Pattern") true := ⟨_, _, _, _, "BeanServer$Bean", cl_BE, by decide, rfl, rfl, Or.inl wd_494, Or.inl rfl⟩
/-- BeanServer$Bean #9: BeanServer$Bean.values [I -/
theorem fp_BE_9 : jj_FP "BeanServer$Bean" 9 1 1 (.array .int) true := ⟨_, _, _, _, "BeanServer$Bean", cl_BE, by decide, rfl, rfl, fun _ => rfl, wd_495, Or.inl rfl⟩
theorem fl_BE_9 : jj_FL "BeanServer$Bean" 9 1 1 (.array .int) true := fp_BE_9.fl
/-- BeanServer #97: BeanServer$Bean.values [I -/
theorem fl_BS_97 : jj_FL "BeanServer" 97 1 1 (.array .int) true := ⟨_, _, _, _, "BeanServer$Bean", cl_BE, by decide, rfl, rfl, Or.inl wd_496, Or.inl rfl⟩
/-- BeanServer$QueryReader #83: BeanServer$Bean.values [I -/
theorem fl_QR_83 : jj_FL "BeanServer$QueryReader" 83 1 1 (.array .int) true := ⟨_, _, _, _, "BeanServer$Bean", cl_BE, by decide, rfl, rfl, Or.inl wd_497, Or.inl rfl⟩
/-- BeanServer$Bean #15: BeanServer$Bean.present [Z -/
theorem fp_BE_15 : jj_FP "BeanServer$Bean" 15 1 2 (.array .boolean) true := ⟨_, _, _, _, "BeanServer$Bean", cl_BE, by decide, rfl, rfl, fun _ => rfl, wd_498, Or.inl rfl⟩
theorem fl_BE_15 : jj_FL "BeanServer$Bean" 15 1 2 (.array .boolean) true := fp_BE_15.fl
/-- BeanServer #100: BeanServer$Bean.present [Z -/
theorem fl_BS_100 : jj_FL "BeanServer" 100 1 2 (.array .boolean) true := ⟨_, _, _, _, "BeanServer$Bean", cl_BE, by decide, rfl, rfl, Or.inl wd_499, Or.inl rfl⟩
/-- BeanServer$QueryReader #77: BeanServer$Bean.present [Z -/
theorem fl_QR_77 : jj_FL "BeanServer$QueryReader" 77 1 2 (.array .boolean) true := ⟨_, _, _, _, "BeanServer$Bean", cl_BE, by decide, rfl, rfl, Or.inl wd_500, Or.inl rfl⟩
/-- BeanServer$QueryReader #22: BeanServer$QueryReader.text Ljava/lang/String; -/
theorem fp_QR_22 : jj_FP "BeanServer$QueryReader" 22 5 0 (.object "java/lang/String") true := ⟨_, _, _, _, "BeanServer$QueryReader", cl_QR, by decide, rfl, rfl, fun _ => rfl, wd_561, Or.inl rfl⟩
theorem fl_QR_22 : jj_FL "BeanServer$QueryReader" 22 5 0 (.object "java/lang/String") true := fp_QR_22.fl
/-- BeanServer$QueryReader #26: BeanServer$QueryReader.bean LBeanServer$Bean; -/
theorem fp_QR_26 : jj_FP "BeanServer$QueryReader" 26 5 1 (.object "BeanServer$Bean") true := ⟨_, _, _, _, "BeanServer$QueryReader", cl_QR, by decide, rfl, rfl, fun _ => rfl, wd_562, Or.inl rfl⟩
theorem fl_QR_26 : jj_FL "BeanServer$QueryReader" 26 5 1 (.object "BeanServer$Bean") true := fp_QR_26.fl
/-- BeanServer$QueryReader #9: BeanServer$QueryReader.at I -/
theorem fl_QR_9 : jj_FL "BeanServer$QueryReader" 9 5 2 .int false := ⟨_, _, _, _, "BeanServer$QueryReader", cl_QR, by decide, rfl, rfl, Or.inl wd_563, Or.inl rfl⟩
/-- BeanServer #123: BeanServer$QueryReader.at I -/
theorem fl_BS_123 : jj_FL "BeanServer" 123 5 2 .int false := ⟨_, _, _, _, "BeanServer$QueryReader", cl_QR, by decide, rfl, rfl, Or.inl wd_564, Or.inl rfl⟩
/-- BeanServer$QueryReader #15: BeanServer$QueryReader.wrong Z -/
theorem fl_QR_15 : jj_FL "BeanServer$QueryReader" 15 5 3 .boolean false := ⟨_, _, _, _, "BeanServer$QueryReader", cl_QR, by decide, rfl, rfl, Or.inl wd_565, Or.inl rfl⟩
/-- BeanServer #119: BeanServer$QueryReader.wrong Z -/
theorem fl_BS_119 : jj_FL "BeanServer" 119 5 3 .boolean false := ⟨_, _, _, _, "BeanServer$QueryReader", cl_QR, by decide, rfl, rfl, Or.inl wd_566, Or.inl rfl⟩
/-- BeanServer$QueryReader #40: BeanServer$QueryReader.here C -/
theorem fl_QR_40 : jj_FL "BeanServer$QueryReader" 40 5 4 .char false := ⟨_, _, _, _, "BeanServer$QueryReader", cl_QR, by decide, rfl, rfl, Or.inl wd_567, Or.inl rfl⟩
/-- BeanServer$QueryReader #19: BeanServer$QueryReader.failed Z -/
theorem fl_QR_19 : jj_FL "BeanServer$QueryReader" 19 5 5 .boolean false := ⟨_, _, _, _, "BeanServer$QueryReader", cl_QR, by decide, rfl, rfl, Or.inl wd_568, Or.inl rfl⟩
/-- BeanServer$QueryForm #26: BeanServer$QueryForm.text Ljava/lang/String; -/
theorem fp_QF_26 : jj_FP "BeanServer$QueryForm" 26 6 0 (.object "java/lang/String") true := ⟨_, _, _, _, "BeanServer$QueryForm", cl_QF, by decide, rfl, rfl, fun _ => rfl, wd_627, Or.inl rfl⟩
theorem fl_QF_26 : jj_FL "BeanServer$QueryForm" 26 6 0 (.object "java/lang/String") true := fp_QF_26.fl
/-- BeanServer$QueryForm #12: BeanServer$QueryForm.out Ljava/lang/StringBuilder; -/
theorem fp_QF_12 : jj_FP "BeanServer$QueryForm" 12 6 1 (.object "java/lang/StringBuilder") true := ⟨_, _, _, _, "BeanServer$QueryForm", cl_QF, by decide, rfl, rfl, fun _ => rfl, wd_628, Or.inl rfl⟩
theorem fl_QF_12 : jj_FL "BeanServer$QueryForm" 12 6 1 (.object "java/lang/StringBuilder") true := fp_QF_12.fl
/-- BeanServer$QueryForm #18: BeanServer$QueryForm.opens [I -/
theorem fp_QF_18 : jj_FP "BeanServer$QueryForm" 18 6 2 (.array .int) true := ⟨_, _, _, _, "BeanServer$QueryForm", cl_QF, by decide, rfl, rfl, fun _ => rfl, wd_629, Or.inl rfl⟩
theorem fl_QF_18 : jj_FL "BeanServer$QueryForm" 18 6 2 (.array .int) true := fp_QF_18.fl
/-- BeanServer$QueryForm #22: BeanServer$QueryForm.depth I -/
theorem fl_QF_22 : jj_FL "BeanServer$QueryForm" 22 6 3 .int false := ⟨_, _, _, _, "BeanServer$QueryForm", cl_QF, by decide, rfl, rfl, Or.inl wd_630, Or.inl rfl⟩
/-- BeanServer$Query #7: BeanServer$Query.form Ljava/lang/String; -/
theorem fp_QU_7 : jj_FP "BeanServer$Query" 7 4 0 (.object "java/lang/String") true := ⟨_, _, _, _, "BeanServer$Query", cl_QU, by decide, rfl, rfl, fun _ => rfl, wd_697, Or.inl rfl⟩
theorem fl_QU_7 : jj_FL "BeanServer$Query" 7 4 0 (.object "java/lang/String") true := fp_QU_7.fl
/-- BeanServer #142: BeanServer$Query.form Ljava/lang/String; -/
theorem fl_BS_142 : jj_FL "BeanServer" 142 4 0 (.object "java/lang/String") true := ⟨_, _, _, _, "BeanServer$Query", cl_QU, by decide, rfl, rfl, Or.inl wd_698, Or.inl rfl⟩
/-- BeanServer$Counter #22: BeanServer$Counter.start I -/
theorem fp_CT_22 : jj_FP "BeanServer$Counter" 22 7 0 .int true := ⟨_, _, _, _, "BeanServer$Counter", cl_CT, by decide, rfl, rfl, fun _ => rfl, wd_755, Or.inl rfl⟩
theorem fl_CT_22 : jj_FL "BeanServer$Counter" 22 7 0 .int true := fp_CT_22.fl
/-- BeanServer$Counter #25: BeanServer$Counter.step I -/
theorem fp_CT_25 : jj_FP "BeanServer$Counter" 25 7 1 .int true := ⟨_, _, _, _, "BeanServer$Counter", cl_CT, by decide, rfl, rfl, fun _ => rfl, wd_756, Or.inl rfl⟩
theorem fl_CT_25 : jj_FL "BeanServer$Counter" 25 7 1 .int true := fp_CT_25.fl
/-- BeanServer$Counter #28: BeanServer$Counter.mark J -/
theorem fl_CT_28 : jj_FL "BeanServer$Counter" 28 7 2 .long false := ⟨_, _, _, _, "BeanServer$Counter", cl_CT, by decide, rfl, rfl, Or.inl wd_757, Or.inl rfl⟩
/-- BeanServer$Counter #9: BeanServer$Counter.ready Z -/
theorem fl_CT_9 : jj_FL "BeanServer$Counter" 9 7 3 .boolean false := ⟨_, _, _, _, "BeanServer$Counter", cl_CT, by decide, rfl, rfl, Or.inl wd_758, Or.inl rfl⟩
/-- BeanServer$Counter #15: BeanServer$Counter.hasLatest Z -/
theorem fl_CT_15 : jj_FL "BeanServer$Counter" 15 7 4 .boolean false := ⟨_, _, _, _, "BeanServer$Counter", cl_CT, by decide, rfl, rfl, Or.inl wd_759, Or.inl rfl⟩
/-- BeanServer$Counter #18: BeanServer$Counter.latest I -/
theorem fl_CT_18 : jj_FL "BeanServer$Counter" 18 7 5 .int false := ⟨_, _, _, _, "BeanServer$Counter", cl_CT, by decide, rfl, rfl, Or.inl wd_760, Or.inl rfl⟩
/-- BeanServer$Monitor #13: BeanServer$Monitor.name Ljava/lang/String; -/
theorem fp_MN_13_CT : jj_FP "BeanServer$Monitor" 13 7 6 (.object "java/lang/String") true := ⟨_, _, _, _, "BeanServer$Monitor", cl_CT, by decide, rfl, rfl, fun _ => rfl, wd_761, Or.inl rfl⟩
theorem fl_MN_13_CT : jj_FL "BeanServer$Monitor" 13 7 6 (.object "java/lang/String") true := fp_MN_13_CT.fl
/-- BeanServer$Monitor #13: BeanServer$Monitor.name Ljava/lang/String; -/
theorem fp_MN_13_GA : jj_FP "BeanServer$Monitor" 13 8 3 (.object "java/lang/String") true := ⟨_, _, _, _, "BeanServer$Monitor", cl_GA, by decide, rfl, rfl, fun _ => rfl, wd_761, Or.inl rfl⟩
theorem fl_MN_13_GA : jj_FL "BeanServer$Monitor" 13 8 3 (.object "java/lang/String") true := fp_MN_13_GA.fl
/-- BeanServer #219: BeanServer$Monitor.name Ljava/lang/String; -/
theorem fl_BS_219_CT : jj_FL "BeanServer" 219 7 6 (.object "java/lang/String") true := ⟨_, _, _, _, "BeanServer$Monitor", cl_CT, by decide, rfl, rfl, Or.inl wd_762, Or.inl rfl⟩
/-- BeanServer #219: BeanServer$Monitor.name Ljava/lang/String; -/
theorem fl_BS_219_GA : jj_FL "BeanServer" 219 8 3 (.object "java/lang/String") true := ⟨_, _, _, _, "BeanServer$Monitor", cl_GA, by decide, rfl, rfl, Or.inl wd_762, Or.inl rfl⟩
/-- BeanServer$Monitor #17: BeanServer$Monitor.attribute I -/
theorem fp_MN_17_CT : jj_FP "BeanServer$Monitor" 17 7 7 .int true := ⟨_, _, _, _, "BeanServer$Monitor", cl_CT, by decide, rfl, rfl, fun _ => rfl, wd_763, Or.inl rfl⟩
theorem fl_MN_17_CT : jj_FL "BeanServer$Monitor" 17 7 7 .int true := fp_MN_17_CT.fl
/-- BeanServer$Monitor #17: BeanServer$Monitor.attribute I -/
theorem fp_MN_17_GA : jj_FP "BeanServer$Monitor" 17 8 4 .int true := ⟨_, _, _, _, "BeanServer$Monitor", cl_GA, by decide, rfl, rfl, fun _ => rfl, wd_763, Or.inl rfl⟩
theorem fl_MN_17_GA : jj_FL "BeanServer$Monitor" 17 8 4 .int true := fp_MN_17_GA.fl
/-- BeanServer #221: BeanServer$Monitor.attribute I -/
theorem fl_BS_221_CT : jj_FL "BeanServer" 221 7 7 .int true := ⟨_, _, _, _, "BeanServer$Monitor", cl_CT, by decide, rfl, rfl, Or.inl wd_764, Or.inl rfl⟩
/-- BeanServer #221: BeanServer$Monitor.attribute I -/
theorem fl_BS_221_GA : jj_FL "BeanServer" 221 8 4 .int true := ⟨_, _, _, _, "BeanServer$Monitor", cl_GA, by decide, rfl, rfl, Or.inl wd_764, Or.inl rfl⟩
/-- BeanServer$Monitor #7: BeanServer$Monitor.erred Z -/
theorem fl_MN_7_CT : jj_FL "BeanServer$Monitor" 7 7 8 .boolean false := ⟨_, _, _, _, "BeanServer$Monitor", cl_CT, by decide, rfl, rfl, Or.inl wd_765, Or.inl rfl⟩
/-- BeanServer$Monitor #7: BeanServer$Monitor.erred Z -/
theorem fl_MN_7_GA : jj_FL "BeanServer$Monitor" 7 8 5 .boolean false := ⟨_, _, _, _, "BeanServer$Monitor", cl_GA, by decide, rfl, rfl, Or.inl wd_765, Or.inl rfl⟩
/-- BeanServer #224: BeanServer$Monitor.erred Z -/
theorem fl_BS_224_CT : jj_FL "BeanServer" 224 7 8 .boolean false := ⟨_, _, _, _, "BeanServer$Monitor", cl_CT, by decide, rfl, rfl, Or.inl wd_766, Or.inl rfl⟩
/-- BeanServer #224: BeanServer$Monitor.erred Z -/
theorem fl_BS_224_GA : jj_FL "BeanServer" 224 8 5 .boolean false := ⟨_, _, _, _, "BeanServer$Monitor", cl_GA, by decide, rfl, rfl, Or.inl wd_766, Or.inl rfl⟩
/-- BeanServer$Gauge #15: BeanServer$Gauge.low I -/
theorem fp_GA_15 : jj_FP "BeanServer$Gauge" 15 8 0 .int true := ⟨_, _, _, _, "BeanServer$Gauge", cl_GA, by decide, rfl, rfl, fun _ => rfl, wd_796, Or.inl rfl⟩
theorem fl_GA_15 : jj_FL "BeanServer$Gauge" 15 8 0 .int true := fp_GA_15.fl
/-- BeanServer$Gauge #18: BeanServer$Gauge.high I -/
theorem fp_GA_18 : jj_FP "BeanServer$Gauge" 18 8 1 .int true := ⟨_, _, _, _, "BeanServer$Gauge", cl_GA, by decide, rfl, rfl, fun _ => rfl, wd_797, Or.inl rfl⟩
theorem fl_GA_18 : jj_FL "BeanServer$Gauge" 18 8 1 .int true := fp_GA_18.fl
/-- BeanServer$Gauge #9: BeanServer$Gauge.side I -/
theorem fl_GA_9 : jj_FL "BeanServer$Gauge" 9 8 2 .int false := ⟨_, _, _, _, "BeanServer$Gauge", cl_GA, by decide, rfl, rfl, Or.inl wd_798, Or.inl rfl⟩
/-- BeanServerModel #7: BeanServerModel.letters [C -/
theorem fp_MO_7 : jj_FP "BeanServerModel" 7 9 0 (.array .char) true := ⟨_, _, _, _, "BeanServerModel", cl_MO, by decide, rfl, rfl, fun _ => rfl, wd_872, Or.inl rfl⟩
theorem fl_MO_7 : jj_FL "BeanServerModel" 7 9 0 (.array .char) true := fp_MO_7.fl
/-- BeanServerModel #13: BeanServerModel.sizes [I -/
theorem fp_MO_13 : jj_FP "BeanServerModel" 13 9 1 (.array .int) true := ⟨_, _, _, _, "BeanServerModel", cl_MO, by decide, rfl, rfl, fun _ => rfl, wd_873, Or.inl rfl⟩
theorem fl_MO_13 : jj_FL "BeanServerModel" 13 9 1 (.array .int) true := fp_MO_13.fl
/-- BeanServerModel #17: BeanServerModel.there [Z -/
theorem fp_MO_17 : jj_FP "BeanServerModel" 17 9 2 (.array .boolean) true := ⟨_, _, _, _, "BeanServerModel", cl_MO, by decide, rfl, rfl, fun _ => rfl, wd_874, Or.inl rfl⟩
theorem fl_MO_17 : jj_FL "BeanServerModel" 17 9 2 (.array .boolean) true := fp_MO_17.fl
/-- BeanServerModel #21: BeanServerModel.values [I -/
theorem fp_MO_21 : jj_FP "BeanServerModel" 21 9 3 (.array .int) true := ⟨_, _, _, _, "BeanServerModel", cl_MO, by decide, rfl, rfl, fun _ => rfl, wd_875, Or.inl rfl⟩
theorem fl_MO_21 : jj_FL "BeanServerModel" 21 9 3 (.array .int) true := fp_MO_21.fl
/-- BeanServerModel #24: BeanServerModel.has [Z -/
theorem fp_MO_24 : jj_FP "BeanServerModel" 24 9 4 (.array .boolean) true := ⟨_, _, _, _, "BeanServerModel", cl_MO, by decide, rfl, rfl, fun _ => rfl, wd_876, Or.inl rfl⟩
theorem fl_MO_24 : jj_FL "BeanServerModel" 24 9 4 (.array .boolean) true := fp_MO_24.fl
/-- BeanServerModel #27: BeanServerModel.asked [Z -/
theorem fp_MO_27 : jj_FP "BeanServerModel" 27 9 5 (.array .boolean) true := ⟨_, _, _, _, "BeanServerModel", cl_MO, by decide, rfl, rfl, fun _ => rfl, wd_877, Or.inl rfl⟩
theorem fl_MO_27 : jj_FL "BeanServerModel" 27 9 5 (.array .boolean) true := fp_MO_27.fl
/-- BeanServerModel #30: BeanServerModel.monitor [I -/
theorem fp_MO_30 : jj_FP "BeanServerModel" 30 9 6 (.array .int) true := ⟨_, _, _, _, "BeanServerModel", cl_MO, by decide, rfl, rfl, fun _ => rfl, wd_878, Or.inl rfl⟩
theorem fl_MO_30 : jj_FL "BeanServerModel" 30 9 6 (.array .int) true := fp_MO_30.fl
/-- BeanServerModel #33: BeanServerModel.watched [I -/
theorem fp_MO_33 : jj_FP "BeanServerModel" 33 9 7 (.array .int) true := ⟨_, _, _, _, "BeanServerModel", cl_MO, by decide, rfl, rfl, fun _ => rfl, wd_879, Or.inl rfl⟩
theorem fl_MO_33 : jj_FL "BeanServerModel" 33 9 7 (.array .int) true := fp_MO_33.fl
/-- BeanServerModel #36: BeanServerModel.low [I -/
theorem fp_MO_36 : jj_FP "BeanServerModel" 36 9 8 (.array .int) true := ⟨_, _, _, _, "BeanServerModel", cl_MO, by decide, rfl, rfl, fun _ => rfl, wd_880, Or.inl rfl⟩
theorem fl_MO_36 : jj_FL "BeanServerModel" 36 9 8 (.array .int) true := fp_MO_36.fl
/-- BeanServerModel #39: BeanServerModel.high [I -/
theorem fp_MO_39 : jj_FP "BeanServerModel" 39 9 9 (.array .int) true := ⟨_, _, _, _, "BeanServerModel", cl_MO, by decide, rfl, rfl, fun _ => rfl, wd_881, Or.inl rfl⟩
theorem fl_MO_39 : jj_FL "BeanServerModel" 39 9 9 (.array .int) true := fp_MO_39.fl
/-- BeanServerModel #42: BeanServerModel.marks [J -/
theorem fp_MO_42 : jj_FP "BeanServerModel" 42 9 10 (.array .long) true := ⟨_, _, _, _, "BeanServerModel", cl_MO, by decide, rfl, rfl, fun _ => rfl, wd_882, Or.inl rfl⟩
theorem fl_MO_42 : jj_FL "BeanServerModel" 42 9 10 (.array .long) true := fp_MO_42.fl
/-- BeanServerModel #46: BeanServerModel.ready [Z -/
theorem fp_MO_46 : jj_FP "BeanServerModel" 46 9 11 (.array .boolean) true := ⟨_, _, _, _, "BeanServerModel", cl_MO, by decide, rfl, rfl, fun _ => rfl, wd_883, Or.inl rfl⟩
theorem fl_MO_46 : jj_FL "BeanServerModel" 46 9 11 (.array .boolean) true := fp_MO_46.fl
/-- BeanServerModel #49: BeanServerModel.seen [Z -/
theorem fp_MO_49 : jj_FP "BeanServerModel" 49 9 12 (.array .boolean) true := ⟨_, _, _, _, "BeanServerModel", cl_MO, by decide, rfl, rfl, fun _ => rfl, wd_884, Or.inl rfl⟩
theorem fl_MO_49 : jj_FL "BeanServerModel" 49 9 12 (.array .boolean) true := fp_MO_49.fl
/-- BeanServerModel #52: BeanServerModel.latest [I -/
theorem fp_MO_52 : jj_FP "BeanServerModel" 52 9 13 (.array .int) true := ⟨_, _, _, _, "BeanServerModel", cl_MO, by decide, rfl, rfl, fun _ => rfl, wd_885, Or.inl rfl⟩
theorem fl_MO_52 : jj_FL "BeanServerModel" 52 9 13 (.array .int) true := fp_MO_52.fl
/-- BeanServerModel #55: BeanServerModel.erred [Z -/
theorem fp_MO_55 : jj_FP "BeanServerModel" 55 9 14 (.array .boolean) true := ⟨_, _, _, _, "BeanServerModel", cl_MO, by decide, rfl, rfl, fun _ => rfl, wd_886, Or.inl rfl⟩
theorem fl_MO_55 : jj_FL "BeanServerModel" 55 9 14 (.array .boolean) true := fp_MO_55.fl
/-- BeanServerModel #151: BeanServerModel.given I -/
theorem fl_MO_151 : jj_FL "BeanServerModel" 151 9 15 .int false := ⟨_, _, _, _, "BeanServerModel", cl_MO, by decide, rfl, rfl, Or.inl wd_887, Or.inl rfl⟩
/-- BeanServerModel #58: BeanServerModel.listened I -/
theorem fl_MO_58 : jj_FL "BeanServerModel" 58 9 16 .int false := ⟨_, _, _, _, "BeanServerModel", cl_MO, by decide, rfl, rfl, Or.inl wd_888, Or.inl rfl⟩
/-- BeanServerModel #154: BeanServerModel.logged I -/
theorem fl_MO_154 : jj_FL "BeanServerModel" 154 9 17 .int false := ⟨_, _, _, _, "BeanServerModel", cl_MO, by decide, rfl, rfl, Or.inl wd_889, Or.inl rfl⟩
/-- BeanServerModel #62: BeanServerModel.log [I -/
theorem fp_MO_62 : jj_FP "BeanServerModel" 62 9 18 (.array .int) true := ⟨_, _, _, _, "BeanServerModel", cl_MO, by decide, rfl, rfl, fun _ => rfl, wd_890, Or.inl rfl⟩
theorem fl_MO_62 : jj_FL "BeanServerModel" 62 9 18 (.array .int) true := fp_MO_62.fl
/-- BeanServerModel #250: BeanServerModel.chosen I -/
theorem fl_MO_250 : jj_FL "BeanServerModel" 250 9 19 .int false := ⟨_, _, _, _, "BeanServerModel", cl_MO, by decide, rfl, rfl, Or.inl wd_891, Or.inl rfl⟩
/-- BeanServerModel #65: BeanServerModel.choice [I -/
theorem fp_MO_65 : jj_FP "BeanServerModel" 65 9 20 (.array .int) true := ⟨_, _, _, _, "BeanServerModel", cl_MO, by decide, rfl, rfl, fun _ => rfl, wd_892, Or.inl rfl⟩
theorem fl_MO_65 : jj_FL "BeanServerModel" 65 9 20 (.array .int) true := fp_MO_65.fl
/-- BeanServerModel #68: BeanServerModel.where [I -/
theorem fp_MO_68 : jj_FP "BeanServerModel" 68 9 21 (.array .int) true := ⟨_, _, _, _, "BeanServerModel", cl_MO, by decide, rfl, rfl, fun _ => rfl, wd_893, Or.inl rfl⟩
theorem fl_MO_68 : jj_FL "BeanServerModel" 68 9 21 (.array .int) true := fp_MO_68.fl
/-- BeanServerModel #102: BeanServerModel.open Z -/
theorem fl_MO_102 : jj_FL "BeanServerModel" 102 9 22 .boolean false := ⟨_, _, _, _, "BeanServerModel", cl_MO, by decide, rfl, rfl, Or.inl wd_894, Or.inl rfl⟩
/-- BeanServerModel #71: BeanServerModel.live [Z -/
theorem fp_MO_71 : jj_FP "BeanServerModel" 71 9 23 (.array .boolean) true := ⟨_, _, _, _, "BeanServerModel", cl_MO, by decide, rfl, rfl, fun _ => rfl, wd_895, Or.inl rfl⟩
theorem fl_MO_71 : jj_FL "BeanServerModel" 71 9 23 (.array .boolean) true := fp_MO_71.fl
/-- BeanServerModel #74: BeanServerModel.any [Z -/
theorem fp_MO_74 : jj_FP "BeanServerModel" 74 9 24 (.array .boolean) true := ⟨_, _, _, _, "BeanServerModel", cl_MO, by decide, rfl, rfl, fun _ => rfl, wd_896, Or.inl rfl⟩
theorem fl_MO_74 : jj_FL "BeanServerModel" 74 9 24 (.array .boolean) true := fp_MO_74.fl
/-- BeanServerModel #77: BeanServerModel.all [Z -/
theorem fp_MO_77 : jj_FP "BeanServerModel" 77 9 25 (.array .boolean) true := ⟨_, _, _, _, "BeanServerModel", cl_MO, by decide, rfl, rfl, fun _ => rfl, wd_897, Or.inl rfl⟩
theorem fl_MO_77 : jj_FL "BeanServerModel" 77 9 25 (.array .boolean) true := fp_MO_77.fl
/-- BeanServerModel #80: BeanServerModel.turned [Z -/
theorem fp_MO_80 : jj_FP "BeanServerModel" 80 9 26 (.array .boolean) true := ⟨_, _, _, _, "BeanServerModel", cl_MO, by decide, rfl, rfl, fun _ => rfl, wd_898, Or.inl rfl⟩
theorem fl_MO_80 : jj_FL "BeanServerModel" 80 9 26 (.array .boolean) true := fp_MO_80.fl
/-- BeanServerModel #219: BeanServerModel.failed Z -/
theorem fl_MO_219 : jj_FL "BeanServerModel" 219 9 27 .boolean false := ⟨_, _, _, _, "BeanServerModel", cl_MO, by decide, rfl, rfl, Or.inl wd_899, Or.inl rfl⟩
/-- BeanServerModel #216: BeanServerModel.at I -/
theorem fl_MO_216 : jj_FL "BeanServerModel" 216 9 28 .int false := ⟨_, _, _, _, "BeanServerModel", cl_MO, by decide, rfl, rfl, Or.inl wd_900, Or.inl rfl⟩
/-- BeanServerLaw #9: BeanServer.<init>()V -/
theorem ml_LW_9 : jj_ML "BeanServerLaw" 9 yn_BS_init yb_BS_init 1 none 0 := ⟨Or.inl wd_25, wd_27, wd_1, by decide +kernel⟩
/-- BeanServer #9: java/lang/StringBuilder.<init>()V -/
theorem ml_BS_9 : jj_ML "BeanServer" 9 yn_SB_init yb_SB_init 1 none 0 := ⟨Or.inl wd_33, wd_35, wd_3, by decide +kernel⟩
/-- java/lang/StringBuilder #1: java/lang/AbstractStringBuilder.<init>(I)V -/
theorem ml_SB_1 : jj_ML "java/lang/StringBuilder" 1 yn_AS_init yb_AS_init 2 none 1 := ⟨Or.inl wd_36, wd_38, wd_2, by decide +kernel⟩
/-- java/lang/AbstractStringBuilder #26: java/lang/StringUTF16.newBytesFor(I)[B -/
theorem ml_AS_26 : jj_ML "java/lang/AbstractStringBuilder" 26 yn_SU_newBytesFor yb_SU_newBytesFor 1 (some (.array .byte)) 1 := ⟨Or.inl wd_42, wd_44, wd_5, by decide +kernel⟩
/-- java/lang/StringUTF16 #11: java/lang/StringUTF16.newBytesLength(I)I -/
theorem ml_SU_11 : jj_ML "java/lang/StringUTF16" 11 yn_SU_newBytesLength yb_SU_newBytesLength 1 (some .int) 1 := ⟨Or.inl wd_45, wd_47, wd_5, by decide +kernel⟩
/-- BeanServer #40: BeanServer$Log.<init>()V -/
theorem ml_BS_40 : jj_ML "BeanServer" 40 yn_LG_init yb_LG_init 1 none 0 := ⟨Or.inr ⟨"BeanServer", by decide⟩, wd_74, wd_6, by decide +kernel⟩
/-- BeanServerLaw #13: BeanServer.write(C)Z -/
theorem ml_LW_13 : jj_ML "BeanServerLaw" 13 yn_BS_write yb_BS_write 2 (some .boolean) 1 := ⟨Or.inl wd_133, wd_136, wd_1, by decide +kernel⟩
/-- BeanServer #58: java/lang/StringBuilder.length()I -/
theorem ml_BS_58 : jj_ML "BeanServer" 58 yn_SB_length yb_SB_length 1 (some .int) 0 := ⟨Or.inl wd_137, wd_140, wd_3, by decide +kernel⟩
/-- java/lang/StringBuilder #343: java/lang/AbstractStringBuilder.length()I -/
theorem ml_SB_343 : jj_ML "java/lang/StringBuilder" 343 yn_AS_length yb_AS_length 1 (some .int) 0 := ⟨Or.inl wd_141, wd_143, wd_2, by decide +kernel⟩
/-- BeanServer #62: java/lang/StringBuilder.append(C)Ljava/lang/StringBuilder; -/
theorem ml_BS_62 : jj_ML "BeanServer" 62 yn_SB_append yb_SB_append 2 (some (.object "java/lang/StringBuilder")) 1 := ⟨Or.inl wd_144, wd_147, wd_3, by decide +kernel⟩
/-- java/lang/StringBuilder #50: java/lang/AbstractStringBuilder.append(C)Ljava/lang/AbstractStringBuilder; -/
theorem ml_SB_50 : jj_ML "java/lang/StringBuilder" 50 yn_AS_append yb_AS_append 2 (some (.object "java/lang/AbstractStringBuilder")) 1 := ⟨Or.inl wd_148, wd_150, wd_2, by decide +kernel⟩
/-- java/lang/AbstractStringBuilder #100: java/lang/AbstractStringBuilder.ensureCapacityInternal(I)V -/
theorem ml_AS_100 : jj_ML "java/lang/AbstractStringBuilder" 100 yn_AS_ensureCapacityInternal yb_AS_ensureCapacityInternal 3 none 1 := ⟨Or.inl wd_151, wd_154, wd_2, by decide +kernel⟩
/-- java/lang/AbstractStringBuilder #104: java/lang/AbstractStringBuilder.newCapacity(I)I -/
theorem ml_AS_104 : jj_ML "java/lang/AbstractStringBuilder" 104 yn_AS_newCapacity yb_AS_newCapacity 6 (some .int) 1 := ⟨Or.inl wd_155, wd_158, wd_2, by decide +kernel⟩
/-- java/lang/AbstractStringBuilder #114: jdk/internal/util/ArraysSupport.newLength(III)I -/
theorem ml_AS_114 : jj_ML "java/lang/AbstractStringBuilder" 114 yn_AP_newLength yb_AP_newLength 4 (some .int) 3 := ⟨Or.inl wd_159, wd_161, wd_8, by decide +kernel⟩
/-- jdk/internal/util/ArraysSupport #194: java/lang/Math.max(II)I -/
theorem ml_AP_194 : jj_ML "jdk/internal/util/ArraysSupport" 194 yn_MA_max yb_MA_max 2 (some .int) 2 := ⟨Or.inl wd_162, wd_164, wd_9, by decide +kernel⟩
/-- jdk/internal/util/ArraysSupport #201: jdk/internal/util/ArraysSupport.hugeLength(II)I -/
theorem ml_AP_201 : jj_ML "jdk/internal/util/ArraysSupport" 201 yn_AP_hugeLength yb_AP_hugeLength 3 (some .int) 2 := ⟨Or.inl wd_166, wd_168, wd_8, by decide +kernel⟩
/-- java/lang/AbstractStringBuilder #108: java/util/Arrays.copyOf([BI)[B -/
theorem ml_AS_108 : jj_ML "java/lang/AbstractStringBuilder" 108 yn_AR_copyOf yb_AR_copyOf 3 (some (.array .byte)) 2 := ⟨Or.inl wd_170, wd_172, wd_10, by decide +kernel⟩
/-- java/util/Arrays #304: java/lang/Math.min(II)I -/
theorem ml_AR_304 : jj_ML "java/util/Arrays" 304 yn_MA_min yb_MA_min 2 (some .int) 2 := ⟨Or.inl wd_180, wd_182, wd_9, by decide +kernel⟩
/-- java/lang/AbstractStringBuilder #83: java/lang/AbstractStringBuilder.isLatin1()Z -/
theorem ml_AS_83 : jj_ML "java/lang/AbstractStringBuilder" 83 yn_AS_isLatin1 yb_AS_isLatin1 1 (some .boolean) 0 := ⟨Or.inl wd_186, wd_190, wd_2, by decide +kernel⟩
/-- java/lang/AbstractStringBuilder #191: java/lang/StringLatin1.canEncode(C)Z -/
theorem ml_AS_191 : jj_ML "java/lang/AbstractStringBuilder" 191 yn_SL_canEncode1 yb_SL_canEncode1 1 (some .boolean) 1 := ⟨Or.inl wd_191, wd_193, wd_12, by decide +kernel⟩
/-- java/lang/AbstractStringBuilder #195: java/lang/AbstractStringBuilder.inflate()V -/
theorem ml_AS_195 : jj_ML "java/lang/AbstractStringBuilder" 195 yn_AS_inflate yb_AS_inflate 2 none 0 := ⟨Or.inl wd_194, wd_197, wd_2, by decide +kernel⟩
/-- java/lang/AbstractStringBuilder #125: java/lang/StringLatin1.inflate([BI[BII)V -/
theorem ml_AS_125 : jj_ML "java/lang/AbstractStringBuilder" 125 yn_SL_inflate yb_SL_inflate 5 none 5 := ⟨Or.inl wd_198, wd_200, wd_12, by decide +kernel⟩
/-- java/lang/StringLatin1 #240: java/lang/StringUTF16.inflate([BI[BII)V -/
theorem ml_SL_240 : jj_ML "java/lang/StringLatin1" 240 yn_SU_inflate yb_SU_inflate 6 none 5 := ⟨Or.inl wd_201, wd_203, wd_5, by decide +kernel⟩
/-- java/lang/StringUTF16 #173: java/lang/StringUTF16.checkBoundsOffCount(II[B)V -/
theorem ml_SU_173 : jj_ML "java/lang/StringUTF16" 173 yn_SU_checkBoundsOffCount yb_SU_checkBoundsOffCount 3 none 3 := ⟨Or.inl wd_204, wd_206, wd_5, by decide +kernel⟩
/-- java/lang/StringUTF16 #48: java/lang/StringUTF16.length([B)I -/
theorem ml_SU_48 : jj_ML "java/lang/StringUTF16" 48 yn_SU_length yb_SU_length 1 (some .int) 1 := ⟨Or.inl wd_207, wd_209, wd_5, by decide +kernel⟩
/-- java/lang/StringUTF16 #419: java/lang/String.checkBoundsOffCount(III)I -/
theorem ml_SU_419 : jj_ML "java/lang/StringUTF16" 419 yn_ST_checkBoundsOffCount yb_ST_checkBoundsOffCount 3 (some .int) 3 := ⟨Or.inl wd_210, wd_212, wd_4, by decide +kernel⟩
/-- java/lang/String #1065: jdk/internal/util/Preconditions.checkFromIndexSize(IIILjava/util/function/BiFunction;)I -/
theorem ml_ST_1065 : jj_ML "java/lang/String" 1065 yn_PR_checkFromIndexSize yb_PR_checkFromIndexSize 4 (some .int) 4 := ⟨Or.inl wd_215, wd_217, wd_13, by decide +kernel⟩
/-- java/lang/StringUTF16 #111: java/lang/StringUTF16.putChar([BII)V -/
theorem ml_SU_111 : jj_ML "java/lang/StringUTF16" 111 yn_SU_putChar yb_SU_putChar 3 none 3 := ⟨Or.inl wd_218, wd_220, wd_5, by decide +kernel⟩
/-- java/lang/AbstractStringBuilder #197: java/lang/StringUTF16.putCharSB([BII)V -/
theorem ml_AS_197 : jj_ML "java/lang/AbstractStringBuilder" 197 yn_SU_putCharSB yb_SU_putCharSB 3 none 3 := ⟨Or.inl wd_227, wd_229, wd_5, by decide +kernel⟩
/-- java/lang/StringUTF16 #67: java/lang/StringUTF16.checkIndex(I[B)V -/
theorem ml_SU_67 : jj_ML "java/lang/StringUTF16" 67 yn_SU_checkIndex yb_SU_checkIndex 2 none 2 := ⟨Or.inl wd_230, wd_232, wd_5, by decide +kernel⟩
/-- java/lang/StringUTF16 #414: java/lang/String.checkIndex(II)V -/
theorem ml_SU_414 : jj_ML "java/lang/StringUTF16" 414 yn_ST_checkIndex yb_ST_checkIndex 2 none 2 := ⟨Or.inl wd_233, wd_235, wd_4, by decide +kernel⟩
/-- java/lang/String #1059: jdk/internal/util/Preconditions.checkIndex(IILjava/util/function/BiFunction;)I -/
theorem ml_ST_1059 : jj_ML "java/lang/String" 1059 yn_PR_checkIndex yb_PR_checkIndex 3 (some .int) 3 := ⟨Or.inl wd_236, wd_238, wd_13, by decide +kernel⟩
/-- BeanServerLaw #18: BeanServer.register()I -/
theorem ml_LW_18 : jj_ML "BeanServerLaw" 18 yn_BS_register yb_BS_register 3 (some .int) 0 := ⟨Or.inl wd_239, wd_242, wd_1, by decide +kernel⟩
/-- BeanServer #66: BeanServer.takenName()LBeanServer$Pattern; -/
theorem ml_BS_66 : jj_ML "BeanServer" 66 yn_BS_takenName yb_BS_takenName 2 (some (.object "BeanServer$Pattern")) 0 := ⟨Or.inl wd_243, wd_246, wd_1, by decide +kernel⟩
/-- BeanServer #104: BeanServer.taken()Ljava/lang/String; -/
theorem ml_BS_104 : jj_ML "BeanServer" 104 yn_BS_taken yb_BS_taken 2 (some (.object "java/lang/String")) 0 := ⟨Or.inl wd_247, wd_250, wd_1, by decide +kernel⟩
/-- BeanServer #201: java/lang/StringBuilder.toString()Ljava/lang/String; -/
theorem ml_BS_201 : jj_ML "BeanServer" 201 yn_SB_toString yb_SB_toString 1 (some (.object "java/lang/String")) 0 := ⟨Or.inl wd_251, wd_254, wd_3, by decide +kernel⟩
/-- java/lang/StringBuilder #137: java/lang/String.<init>(Ljava/lang/StringBuilder;)V -/
theorem ml_SB_137 : jj_ML "java/lang/StringBuilder" 137 yn_ST_init1 yb_ST_init1 2 none 1 := ⟨Or.inl wd_257, wd_259, wd_4, by decide +kernel⟩
/-- java/lang/String #489: java/lang/String.<init>(Ljava/lang/AbstractStringBuilder;Ljava/lang/Void;)V -/
theorem ml_ST_489 : jj_ML "java/lang/String" 489 yn_ST_init2 yb_ST_init2 5 none 2 := ⟨Or.inl wd_260, wd_262, wd_4, by decide +kernel⟩
/-- java/lang/String #552: java/lang/AbstractStringBuilder.getValue()[B -/
theorem ml_ST_552 : jj_ML "java/lang/String" 552 yn_AS_getValue yb_AS_getValue 1 (some (.array .byte)) 0 := ⟨Or.inl wd_264, wd_268, wd_2, by decide +kernel⟩
/-- java/lang/String #549: java/lang/AbstractStringBuilder.length()I -/
theorem ml_ST_549 : jj_ML "java/lang/String" 549 yn_AS_length yb_AS_length 1 (some .int) 0 := ⟨Or.inl wd_269, wd_143, wd_2, by decide +kernel⟩
/-- java/lang/String #1047: java/lang/AbstractStringBuilder.isLatin1()Z -/
theorem ml_ST_1047 : jj_ML "java/lang/String" 1047 yn_AS_isLatin1 yb_AS_isLatin1 1 (some .boolean) 0 := ⟨Or.inl wd_270, wd_190, wd_2, by decide +kernel⟩
/-- java/lang/String #54: java/util/Arrays.copyOfRange([BII)[B -/
theorem ml_ST_54 : jj_ML "java/lang/String" 54 yn_AR_copyOfRange yb_AR_copyOfRange 3 (some (.array .byte)) 3 := ⟨Or.inl wd_271, wd_273, wd_10, by decide +kernel⟩
/-- java/util/Arrays #339: java/util/Arrays.copyOfRangeByte([BII)[B -/
theorem ml_AR_339 : jj_ML "java/util/Arrays" 339 yn_AR_copyOfRangeByte yb_AR_copyOfRangeByte 5 (some (.array .byte)) 3 := ⟨Or.inl wd_274, wd_276, wd_10, by decide +kernel⟩
/-- java/util/Arrays #343: java/util/Arrays.checkLength(II)V -/
theorem ml_AR_343 : jj_ML "java/util/Arrays" 343 yn_AR_checkLength yb_AR_checkLength 2 none 2 := ⟨Or.inl wd_277, wd_279, wd_10, by decide +kernel⟩
/-- java/lang/String #1051: java/lang/StringUTF16.compress([BII)[B -/
theorem ml_ST_1051 : jj_ML "java/lang/String" 1051 yn_SU_compress1 yb_SU_compress1 6 (some (.array .byte)) 3 := ⟨Or.inl wd_281, wd_283, wd_5, by decide +kernel⟩
/-- java/lang/StringUTF16 #123: java/lang/StringUTF16.compress([BI[BII)I -/
theorem ml_SU_123 : jj_ML "java/lang/StringUTF16" 123 yn_SU_compress2 yb_SU_compress2 7 (some .int) 5 := ⟨Or.inl wd_284, wd_286, wd_5, by decide +kernel⟩
/-- java/lang/StringUTF16 #71: java/lang/StringUTF16.getChar([BI)C -/
theorem ml_SU_71 : jj_ML "java/lang/StringUTF16" 71 yn_SU_getChar yb_SU_getChar 2 (some .char) 2 := ⟨Or.inl wd_287, wd_289, wd_5, by decide +kernel⟩
/-- java/lang/StringUTF16 #126: java/util/Arrays.copyOfRange([BII)[B -/
theorem ml_SU_126 : jj_ML "java/lang/StringUTF16" 126 yn_AR_copyOfRange yb_AR_copyOfRange 3 (some (.array .byte)) 3 := ⟨Or.inl wd_290, wd_273, wd_10, by decide +kernel⟩
/-- java/lang/String #47: java/lang/StringUTF16.coderFromArrayLen([BI)B -/
theorem ml_ST_47 : jj_ML "java/lang/String" 47 yn_SU_coderFromArrayLen yb_SU_coderFromArrayLen 2 (some .byte) 2 := ⟨Or.inl wd_291, wd_293, wd_5, by decide +kernel⟩
/-- BeanServer #204: java/lang/StringBuilder.setLength(I)V -/
theorem ml_BS_204 : jj_ML "BeanServer" 204 yn_SB_setLength yb_SB_setLength 2 none 1 := ⟨Or.inl wd_305, wd_308, wd_3, by decide +kernel⟩
/-- java/lang/StringBuilder #333: java/lang/AbstractStringBuilder.setLength(I)V -/
theorem ml_SB_333 : jj_ML "java/lang/StringBuilder" 333 yn_AS_setLength yb_AS_setLength 2 none 1 := ⟨Or.inl wd_309, wd_311, wd_2, by decide +kernel⟩
/-- java/lang/AbstractStringBuilder #133: java/lang/StringLatin1.fillNull([BII)V -/
theorem ml_AS_133 : jj_ML "java/lang/AbstractStringBuilder" 133 yn_SL_fillNull yb_SL_fillNull 3 none 3 := ⟨Or.inl wd_312, wd_314, wd_12, by decide +kernel⟩
/-- java/lang/StringLatin1 #236: java/util/Arrays.fill([BIIB)V -/
theorem ml_SL_236 : jj_ML "java/lang/StringLatin1" 236 yn_AR_fill yb_AR_fill 5 none 4 := ⟨Or.inl wd_315, wd_317, wd_10, by decide +kernel⟩
/-- java/util/Arrays #13: java/util/Arrays.rangeCheck(III)V -/
theorem ml_AR_13 : jj_ML "java/util/Arrays" 13 yn_AR_rangeCheck yb_AR_rangeCheck 3 none 3 := ⟨Or.inl wd_318, wd_320, wd_10, by decide +kernel⟩
/-- java/lang/AbstractStringBuilder #137: java/lang/StringUTF16.fillNull([BII)V -/
theorem ml_AS_137 : jj_ML "java/lang/AbstractStringBuilder" 137 yn_SU_fillNull yb_SU_fillNull 3 none 3 := ⟨Or.inl wd_321, wd_323, wd_5, by decide +kernel⟩
/-- java/lang/StringUTF16 #380: java/util/Arrays.fill([BIIB)V -/
theorem ml_SU_380 : jj_ML "java/lang/StringUTF16" 380 yn_AR_fill yb_AR_fill 5 none 4 := ⟨Or.inl wd_324, wd_317, wd_10, by decide +kernel⟩
/-- BeanServer #143: BeanServer.patternIn(Ljava/lang/String;)LBeanServer$Pattern; -/
theorem ml_BS_143 : jj_ML "BeanServer" 143 yn_BS_patternIn yb_BS_patternIn 2 (some (.object "BeanServer$Pattern")) 1 := ⟨Or.inl wd_325, wd_327, wd_1, by decide +kernel⟩
/-- BeanServer #211: BeanServer$Pattern.<init>(Ljava/lang/String;)V -/
theorem ml_BS_211 : jj_ML "BeanServer" 211 yn_PT_init yb_PT_init 2 none 1 := ⟨Or.inl wd_330, wd_332, wd_14, by decide +kernel⟩
/-- BeanServer #212: BeanServer$Pattern.parse()Z -/
theorem ml_BS_212 : jj_ML "BeanServer" 212 yn_PT_parse yb_PT_parse 1 (some .boolean) 0 := ⟨Or.inl wd_355, wd_358, wd_14, by decide +kernel⟩
/-- BeanServer$Pattern #35: BeanServer$Pattern.rowEnd(I)I -/
theorem ml_PT_35 : jj_ML "BeanServer$Pattern" 35 yn_PT_rowEnd yb_PT_rowEnd 3 (some .int) 1 := ⟨Or.inl wd_359, wd_362, wd_14, by decide +kernel⟩
/-- BeanServer$Pattern #39: java/lang/String.length()I -/
theorem ml_PT_39 : jj_ML "BeanServer$Pattern" 39 yn_ST_length yb_ST_length 1 (some .int) 0 := ⟨Or.inl wd_363, wd_366, wd_4, by decide +kernel⟩
/-- java/lang/String #335: java/lang/String.coder()B -/
theorem ml_ST_335 : jj_ML "java/lang/String" 335 yn_ST_coder yb_ST_coder 1 (some .byte) 0 := ⟨Or.inl wd_367, wd_370, wd_4, by decide +kernel⟩
/-- BeanServer$Pattern #45: java/lang/String.charAt(I)C -/
theorem ml_PT_45 : jj_ML "BeanServer$Pattern" 45 yn_ST_charAt yb_ST_charAt 2 (some .char) 1 := ⟨Or.inl wd_371, wd_374, wd_4, by decide +kernel⟩
/-- java/lang/String #492: java/lang/String.isLatin1()Z -/
theorem ml_ST_492 : jj_ML "java/lang/String" 492 yn_ST_isLatin1 yb_ST_isLatin1 1 (some .boolean) 0 := ⟨Or.inl wd_375, wd_378, wd_4, by decide +kernel⟩
/-- java/lang/String #495: java/lang/StringLatin1.charAt([BI)C -/
theorem ml_ST_495 : jj_ML "java/lang/String" 495 yn_SL_charAt yb_SL_charAt 2 (some .char) 2 := ⟨Or.inl wd_379, wd_381, wd_12, by decide +kernel⟩
/-- java/lang/StringLatin1 #9: java/lang/String.checkIndex(II)V -/
theorem ml_SL_9 : jj_ML "java/lang/StringLatin1" 9 yn_ST_checkIndex yb_ST_checkIndex 2 none 2 := ⟨Or.inl wd_382, wd_235, wd_4, by decide +kernel⟩
/-- java/lang/String #498: java/lang/StringUTF16.charAt([BI)C -/
theorem ml_ST_498 : jj_ML "java/lang/String" 498 yn_SU_charAt yb_SU_charAt 2 (some .char) 2 := ⟨Or.inl wd_383, wd_385, wd_5, by decide +kernel⟩
/-- BeanServer$Pattern #64: BeanServer$Pattern.isRowCharacter(C)Z -/
theorem ml_PT_64 : jj_ML "BeanServer$Pattern" 64 yn_PT_isRowCharacter yb_PT_isRowCharacter 1 (some .boolean) 1 := ⟨Or.inl wd_386, wd_388, wd_14, by decide +kernel⟩
/-- BeanServer$Pattern #49: BeanServer$Pattern.parseList(I)Z -/
theorem ml_PT_49 : jj_ML "BeanServer$Pattern" 49 yn_PT_parseList yb_PT_parseList 5 (some .boolean) 1 := ⟨Or.inl wd_389, wd_392, wd_14, by decide +kernel⟩
/-- BeanServer$Pattern #68: BeanServer$Pattern.parseProperty(I)I -/
theorem ml_PT_68 : jj_ML "BeanServer$Pattern" 68 yn_PT_parseProperty yb_PT_parseProperty 5 (some .int) 1 := ⟨Or.inl wd_393, wd_396, wd_14, by decide +kernel⟩
/-- BeanServer$Pattern #53: BeanServer$Pattern.ordered()Ljava/lang/String; -/
theorem ml_PT_53 : jj_ML "BeanServer$Pattern" 53 yn_PT_ordered yb_PT_ordered 4 (some (.object "java/lang/String")) 0 := ⟨Or.inl wd_397, wd_400, wd_14, by decide +kernel⟩
/-- BeanServer$Pattern #73: java/lang/StringBuilder.<init>()V -/
theorem ml_PT_73 : jj_ML "BeanServer$Pattern" 73 yn_SB_init yb_SB_init 1 none 0 := ⟨Or.inl wd_402, wd_35, wd_3, by decide +kernel⟩
/-- BeanServer$Pattern #74: BeanServer$Pattern.copy(IILjava/lang/StringBuilder;)V -/
theorem ml_PT_74 : jj_ML "BeanServer$Pattern" 74 yn_PT_copy yb_PT_copy 5 none 3 := ⟨Or.inl wd_403, wd_406, wd_14, by decide +kernel⟩
/-- BeanServer$Pattern #83: java/lang/StringBuilder.append(C)Ljava/lang/StringBuilder; -/
theorem ml_PT_83 : jj_ML "BeanServer$Pattern" 83 yn_SB_append yb_SB_append 2 (some (.object "java/lang/StringBuilder")) 1 := ⟨Or.inl wd_407, wd_147, wd_3, by decide +kernel⟩
/-- BeanServer$Pattern #78: java/lang/StringBuilder.length()I -/
theorem ml_PT_78 : jj_ML "BeanServer$Pattern" 78 yn_SB_length yb_SB_length 1 (some .int) 0 := ⟨Or.inl wd_408, wd_140, wd_3, by decide +kernel⟩
/-- BeanServer$Pattern #79: BeanServer$Pattern.separate(ILjava/lang/StringBuilder;)V -/
theorem ml_PT_79 : jj_ML "BeanServer$Pattern" 79 yn_PT_separate yb_PT_separate 2 none 2 := ⟨Or.inl wd_409, wd_411, wd_14, by decide +kernel⟩
/-- BeanServer$Pattern #87: java/lang/StringBuilder.toString()Ljava/lang/String; -/
theorem ml_PT_87 : jj_ML "BeanServer$Pattern" 87 yn_SB_toString yb_SB_toString 1 (some (.object "java/lang/String")) 0 := ⟨Or.inl wd_412, wd_254, wd_3, by decide +kernel⟩
/-- BeanServer #208: BeanServer$Pattern.isName()Z -/
theorem ml_BS_208 : jj_ML "BeanServer" 208 yn_PT_isName yb_PT_isName 1 (some .boolean) 0 := ⟨Or.inl wd_413, wd_416, wd_14, by decide +kernel⟩
/-- BeanServer$Pattern #57: java/lang/String.indexOf(I)I -/
theorem ml_PT_57 : jj_ML "BeanServer$Pattern" 57 yn_ST_indexOf1 yb_ST_indexOf1 2 (some .int) 1 := ⟨Or.inl wd_417, wd_420, wd_4, by decide +kernel⟩
/-- java/lang/String #633: java/lang/String.indexOf(II)I -/
theorem ml_ST_633 : jj_ML "java/lang/String" 633 yn_ST_indexOf2 yb_ST_indexOf2 3 (some .int) 2 := ⟨Or.inl wd_421, wd_424, wd_4, by decide +kernel⟩
/-- java/lang/String #505: java/lang/String.length()I -/
theorem ml_ST_505 : jj_ML "java/lang/String" 505 yn_ST_length yb_ST_length 1 (some .int) 0 := ⟨Or.inl wd_425, wd_366, wd_4, by decide +kernel⟩
/-- java/lang/String #637: java/lang/StringLatin1.indexOf([BIII)I -/
theorem ml_ST_637 : jj_ML "java/lang/String" 637 yn_SL_indexOf yb_SL_indexOf 4 (some .int) 4 := ⟨Or.inl wd_426, wd_428, wd_12, by decide +kernel⟩
/-- java/lang/StringLatin1 #88: java/lang/StringLatin1.canEncode(I)Z -/
theorem ml_SL_88 : jj_ML "java/lang/StringLatin1" 88 yn_SL_canEncode2 yb_SL_canEncode2 1 (some .boolean) 1 := ⟨Or.inl wd_429, wd_431, wd_12, by decide +kernel⟩
/-- java/lang/StringLatin1 #92: java/lang/Math.max(II)I -/
theorem ml_SL_92 : jj_ML "java/lang/StringLatin1" 92 yn_MA_max yb_MA_max 2 (some .int) 2 := ⟨Or.inl wd_432, wd_164, wd_9, by decide +kernel⟩
/-- java/lang/StringLatin1 #38: java/lang/Math.min(II)I -/
theorem ml_SL_38 : jj_ML "java/lang/StringLatin1" 38 yn_MA_min yb_MA_min 2 (some .int) 2 := ⟨Or.inl wd_433, wd_182, wd_9, by decide +kernel⟩
/-- java/lang/StringLatin1 #95: java/lang/StringLatin1.indexOfChar([BIII)I -/
theorem ml_SL_95 : jj_ML "java/lang/StringLatin1" 95 yn_SL_indexOfChar yb_SL_indexOfChar 6 (some .int) 4 := ⟨Or.inl wd_434, wd_436, wd_12, by decide +kernel⟩
/-- java/lang/String #640: java/lang/StringUTF16.indexOf([BIII)I -/
theorem ml_ST_640 : jj_ML "java/lang/String" 640 yn_SU_indexOf yb_SU_indexOf 4 (some .int) 4 := ⟨Or.inl wd_437, wd_439, wd_5, by decide +kernel⟩
/-- java/lang/StringUTF16 #224: java/lang/Math.max(II)I -/
theorem ml_SU_224 : jj_ML "java/lang/StringUTF16" 224 yn_MA_max yb_MA_max 2 (some .int) 2 := ⟨Or.inl wd_440, wd_164, wd_9, by decide +kernel⟩
/-- java/lang/StringUTF16 #183: java/lang/Math.min(II)I -/
theorem ml_SU_183 : jj_ML "java/lang/StringUTF16" 183 yn_MA_min yb_MA_min 2 (some .int) 2 := ⟨Or.inl wd_441, wd_182, wd_9, by decide +kernel⟩
/-- java/lang/StringUTF16 #228: java/lang/StringUTF16.indexOfChar([BIII)I -/
theorem ml_SU_228 : jj_ML "java/lang/StringUTF16" 228 yn_SU_indexOfChar yb_SU_indexOfChar 4 (some .int) 4 := ⟨Or.inl wd_443, wd_445, wd_5, by decide +kernel⟩
/-- java/lang/StringUTF16 #96: java/lang/StringUTF16.checkBoundsBeginEnd(II[B)V -/
theorem ml_SU_96 : jj_ML "java/lang/StringUTF16" 96 yn_SU_checkBoundsBeginEnd yb_SU_checkBoundsBeginEnd 3 none 3 := ⟨Or.inl wd_446, wd_448, wd_5, by decide +kernel⟩
/-- java/lang/StringUTF16 #241: java/lang/String.checkBoundsBeginEnd(III)V -/
theorem ml_SU_241 : jj_ML "java/lang/StringUTF16" 241 yn_ST_checkBoundsBeginEnd yb_ST_checkBoundsBeginEnd 3 none 3 := ⟨Or.inl wd_449, wd_451, wd_4, by decide +kernel⟩
/-- java/lang/String #1062: jdk/internal/util/Preconditions.checkFromToIndex(IIILjava/util/function/BiFunction;)I -/
theorem ml_ST_1062 : jj_ML "java/lang/String" 1062 yn_PR_checkFromToIndex yb_PR_checkFromToIndex 4 (some .int) 4 := ⟨Or.inl wd_452, wd_454, wd_13, by decide +kernel⟩
/-- java/lang/StringUTF16 #244: java/lang/StringUTF16.indexOfCharUnsafe([BIII)I -/
theorem ml_SU_244 : jj_ML "java/lang/StringUTF16" 244 yn_SU_indexOfCharUnsafe yb_SU_indexOfCharUnsafe 5 (some .int) 4 := ⟨Or.inl wd_455, wd_457, wd_5, by decide +kernel⟩
/-- java/lang/StringUTF16 #232: java/lang/StringUTF16.indexOfSupplementary([BIII)I -/
theorem ml_SU_232 : jj_ML "java/lang/StringUTF16" 232 yn_SU_indexOfSupplementary yb_SU_indexOfSupplementary 7 (some .int) 4 := ⟨Or.inl wd_458, wd_460, wd_5, by decide +kernel⟩
/-- java/lang/StringUTF16 #164: java/lang/Character.isValidCodePoint(I)Z -/
theorem ml_SU_164 : jj_ML "java/lang/StringUTF16" 164 yn_CH_isValidCodePoint yb_CH_isValidCodePoint 2 (some .boolean) 1 := ⟨Or.inl wd_461, wd_463, wd_15, by decide +kernel⟩
/-- java/lang/StringUTF16 #157: java/lang/Character.highSurrogate(I)C -/
theorem ml_SU_157 : jj_ML "java/lang/StringUTF16" 157 yn_CH_highSurrogate yb_CH_highSurrogate 1 (some .char) 1 := ⟨Or.inl wd_464, wd_466, wd_15, by decide +kernel⟩
/-- java/lang/StringUTF16 #161: java/lang/Character.lowSurrogate(I)C -/
theorem ml_SU_161 : jj_ML "java/lang/StringUTF16" 161 yn_CH_lowSurrogate yb_CH_lowSurrogate 1 (some .char) 1 := ⟨Or.inl wd_468, wd_470, wd_15, by decide +kernel⟩
/-- BeanServer #75: BeanServer.beanNamed(Ljava/lang/String;)I -/
theorem ml_BS_75 : jj_ML "BeanServer" 75 yn_BS_beanNamed yb_BS_beanNamed 3 (some .int) 1 := ⟨Or.inl wd_472, wd_475, wd_1, by decide +kernel⟩
/-- BeanServer #215: java/lang/String.equals(Ljava/lang/Object;)Z -/
theorem ml_BS_215 : jj_ML "BeanServer" 215 yn_ST_equals yb_ST_equals 3 (some .boolean) 1 := ⟨Or.inl wd_476, wd_479, wd_4, by decide +kernel⟩
/-- java/lang/String #541: java/lang/StringLatin1.equals([B[B)Z -/
theorem ml_ST_541 : jj_ML "java/lang/String" 541 yn_SL_equals yb_SL_equals 3 (some .boolean) 2 := ⟨Or.inl wd_481, wd_483, wd_12, by decide +kernel⟩
/-- BeanServer #79: BeanServer.freeBean()I -/
theorem ml_BS_79 : jj_ML "BeanServer" 79 yn_BS_freeBean yb_BS_freeBean 2 (some .int) 0 := ⟨Or.inl wd_484, wd_487, wd_1, by decide +kernel⟩
/-- BeanServer #82: BeanServer$Bean.<init>(LBeanServer$Pattern;)V -/
theorem ml_BS_82 : jj_ML "BeanServer" 82 yn_BE_init yb_BE_init 2 none 1 := ⟨Or.inl wd_489, wd_491, wd_16, by decide +kernel⟩
/-- BeanServer #85: BeanServer$Log.give(III)V -/
theorem ml_BS_85 : jj_ML "BeanServer" 85 yn_LG_give yb_LG_give 4 none 3 := ⟨Or.inl wd_509, wd_512, wd_6, by decide +kernel⟩
/-- BeanServer$Log #37: java/lang/Math.min(II)I -/
theorem ml_LG_37 : jj_ML "BeanServer$Log" 37 yn_MA_min yb_MA_min 2 (some .int) 2 := ⟨Or.inl wd_513, wd_182, wd_9, by decide +kernel⟩
/-- BeanServerLaw #23: BeanServer.unregister()I -/
theorem ml_LW_23 : jj_ML "BeanServerLaw" 23 yn_BS_unregister yb_BS_unregister 3 (some .int) 0 := ⟨Or.inl wd_514, wd_517, wd_1, by decide +kernel⟩
/-- BeanServerLaw #27: BeanServer.find()I -/
theorem ml_LW_27 : jj_ML "BeanServerLaw" 27 yn_BS_find yb_BS_find 2 (some .int) 0 := ⟨Or.inl wd_518, wd_521, wd_1, by decide +kernel⟩
/-- BeanServerLaw #31: BeanServer.set(III)Z -/
theorem ml_LW_31 : jj_ML "BeanServerLaw" 31 yn_BS_set yb_BS_set 5 (some .boolean) 3 := ⟨Or.inl wd_522, wd_525, wd_1, by decide +kernel⟩
/-- BeanServer #89: BeanServer.beanAt(I)LBeanServer$Bean; -/
theorem ml_BS_89 : jj_ML "BeanServer" 89 yn_BS_beanAt yb_BS_beanAt 2 (some (.object "BeanServer$Bean")) 1 := ⟨Or.inl wd_526, wd_529, wd_1, by decide +kernel⟩
/-- BeanServer #93: BeanServer.isAttribute(I)Z -/
theorem ml_BS_93 : jj_ML "BeanServer" 93 yn_BS_isAttribute yb_BS_isAttribute 1 (some .boolean) 1 := ⟨Or.inl wd_530, wd_532, wd_1, by decide +kernel⟩
/-- BeanServerLaw #36: BeanServer.unset(II)Z -/
theorem ml_LW_36 : jj_ML "BeanServerLaw" 36 yn_BS_unset yb_BS_unset 4 (some .boolean) 2 := ⟨Or.inl wd_533, wd_536, wd_1, by decide +kernel⟩
/-- BeanServerLaw #41: BeanServer.get(II)I -/
theorem ml_LW_41 : jj_ML "BeanServerLaw" 41 yn_BS_get yb_BS_get 4 (some .int) 2 := ⟨Or.inl wd_537, wd_540, wd_1, by decide +kernel⟩
/-- BeanServerLaw #46: BeanServer.define()I -/
theorem ml_LW_46 : jj_ML "BeanServerLaw" 46 yn_BS_define yb_BS_define 3 (some .int) 0 := ⟨Or.inl wd_541, wd_544, wd_1, by decide +kernel⟩
/-- BeanServer #108: BeanServer.nestings(Ljava/lang/String;)I -/
theorem ml_BS_108 : jj_ML "BeanServer" 108 yn_BS_nestings yb_BS_nestings 3 (some .int) 1 := ⟨Or.inl wd_545, wd_547, wd_1, by decide +kernel⟩
/-- BeanServer #126: java/lang/String.length()I -/
theorem ml_BS_126 : jj_ML "BeanServer" 126 yn_ST_length yb_ST_length 1 (some .int) 0 := ⟨Or.inl wd_548, wd_366, wd_4, by decide +kernel⟩
/-- BeanServer #163: java/lang/String.charAt(I)C -/
theorem ml_BS_163 : jj_ML "BeanServer" 163 yn_ST_charAt yb_ST_charAt 2 (some .char) 1 := ⟨Or.inl wd_549, wd_374, wd_4, by decide +kernel⟩
/-- BeanServer #113: BeanServer$QueryReader.<init>(Ljava/lang/String;LBeanServer$Bean;)V -/
theorem ml_BS_113 : jj_ML "BeanServer" 113 yn_QR_init yb_QR_init 3 none 2 := ⟨Or.inl wd_552, wd_554, wd_17, by decide +kernel⟩
/-- BeanServer$QueryReader #30: java/lang/String.isEmpty()Z -/
theorem ml_QR_30 : jj_ML "BeanServer$QueryReader" 30 yn_ST_isEmpty yb_ST_isEmpty 1 (some .boolean) 0 := ⟨Or.inl wd_556, wd_559, wd_4, by decide +kernel⟩
/-- BeanServer$QueryReader #36: java/lang/String.charAt(I)C -/
theorem ml_QR_36 : jj_ML "BeanServer$QueryReader" 36 yn_ST_charAt yb_ST_charAt 2 (some .char) 1 := ⟨Or.inl wd_560, wd_374, wd_4, by decide +kernel⟩
/-- BeanServer #116: BeanServer$QueryReader.any()I -/
theorem ml_BS_116 : jj_ML "BeanServer" 116 yn_QR_any yb_QR_any 4 (some .int) 0 := ⟨Or.inl wd_582, wd_585, wd_17, by decide +kernel⟩
/-- BeanServer$QueryReader #44: BeanServer$QueryReader.all()I -/
theorem ml_QR_44 : jj_ML "BeanServer$QueryReader" 44 yn_QR_all yb_QR_all 4 (some .int) 0 := ⟨Or.inl wd_586, wd_589, wd_17, by decide +kernel⟩
/-- BeanServer$QueryReader #54: BeanServer$QueryReader.one()I -/
theorem ml_QR_54 : jj_ML "BeanServer$QueryReader" 54 yn_QR_one yb_QR_one 4 (some .int) 0 := ⟨Or.inl wd_590, wd_593, wd_17, by decide +kernel⟩
/-- BeanServer$QueryReader #51: BeanServer$QueryReader.step()V -/
theorem ml_QR_51 : jj_ML "BeanServer$QueryReader" 51 yn_QR_step yb_QR_step 1 none 0 := ⟨Or.inl wd_594, wd_597, wd_17, by decide +kernel⟩
/-- BeanServer$QueryReader #48: java/lang/String.length()I -/
theorem ml_QR_48 : jj_ML "BeanServer$QueryReader" 48 yn_ST_length yb_ST_length 1 (some .int) 0 := ⟨Or.inl wd_598, wd_366, wd_4, by decide +kernel⟩
/-- BeanServer$QueryReader #57: BeanServer$QueryReader.any()I -/
theorem ml_QR_57 : jj_ML "BeanServer$QueryReader" 57 yn_QR_any yb_QR_any 4 (some .int) 0 := ⟨Or.inl wd_599, wd_585, wd_17, by decide +kernel⟩
/-- BeanServer$QueryReader #60: BeanServer$QueryReader.sum()I -/
theorem ml_QR_60 : jj_ML "BeanServer$QueryReader" 60 yn_QR_sum yb_QR_sum 5 (some .int) 0 := ⟨Or.inl wd_600, wd_603, wd_17, by decide +kernel⟩
/-- BeanServer$QueryReader #71: BeanServer$QueryReader.product()I -/
theorem ml_QR_71 : jj_ML "BeanServer$QueryReader" 71 yn_QR_product yb_QR_product 5 (some .int) 0 := ⟨Or.inl wd_604, wd_607, wd_17, by decide +kernel⟩
/-- BeanServer$QueryReader #74: BeanServer$QueryReader.unit()I -/
theorem ml_QR_74 : jj_ML "BeanServer$QueryReader" 74 yn_QR_unit yb_QR_unit 3 (some .int) 0 := ⟨Or.inl wd_608, wd_611, wd_17, by decide +kernel⟩
/-- BeanServer$QueryReader #63: BeanServer$QueryReader.isRelation(C)Z -/
theorem ml_QR_63 : jj_ML "BeanServer$QueryReader" 63 yn_QR_isRelation yb_QR_isRelation 1 (some .boolean) 1 := ⟨Or.inl wd_612, wd_614, wd_17, by decide +kernel⟩
/-- BeanServer$QueryReader #67: BeanServer$QueryReader.compared(ICI)I -/
theorem ml_QR_67 : jj_ML "BeanServer$QueryReader" 67 yn_QR_compared yb_QR_compared 4 (some .int) 3 := ⟨Or.inl wd_615, wd_617, wd_17, by decide +kernel⟩
/-- BeanServer #131: BeanServer$QueryForm.<init>(Ljava/lang/String;)V -/
theorem ml_BS_131 : jj_ML "BeanServer" 131 yn_QF_init yb_QF_init 2 none 1 := ⟨Or.inl wd_621, wd_623, wd_19, by decide +kernel⟩
/-- BeanServer$QueryForm #11: java/lang/StringBuilder.<init>()V -/
theorem ml_QF_11 : jj_ML "BeanServer$QueryForm" 11 yn_SB_init yb_SB_init 1 none 0 := ⟨Or.inl wd_626, wd_35, wd_3, by decide +kernel⟩
/-- BeanServer #134: BeanServer$QueryForm.written()Ljava/lang/String; -/
theorem ml_BS_134 : jj_ML "BeanServer" 134 yn_QF_written yb_QF_written 4 (some (.object "java/lang/String")) 0 := ⟨Or.inl wd_640, wd_643, wd_19, by decide +kernel⟩
/-- BeanServer$QueryForm #30: java/lang/String.length()I -/
theorem ml_QF_30 : jj_ML "BeanServer$QueryForm" 30 yn_ST_length yb_ST_length 1 (some .int) 0 := ⟨Or.inl wd_644, wd_366, wd_4, by decide +kernel⟩
/-- BeanServer$QueryForm #36: java/lang/String.charAt(I)C -/
theorem ml_QF_36 : jj_ML "BeanServer$QueryForm" 36 yn_ST_charAt yb_ST_charAt 2 (some .char) 1 := ⟨Or.inl wd_645, wd_374, wd_4, by decide +kernel⟩
/-- BeanServer$QueryForm #40: BeanServer$QueryForm.openParenthesis()V -/
theorem ml_QF_40 : jj_ML "BeanServer$QueryForm" 40 yn_QF_openParenthesis yb_QF_openParenthesis 1 none 0 := ⟨Or.inl wd_646, wd_649, wd_19, by decide +kernel⟩
/-- BeanServer$QueryForm #51: java/lang/StringBuilder.length()I -/
theorem ml_QF_51 : jj_ML "BeanServer$QueryForm" 51 yn_SB_length yb_SB_length 1 (some .int) 0 := ⟨Or.inl wd_650, wd_140, wd_3, by decide +kernel⟩
/-- BeanServer$QueryForm #55: java/lang/StringBuilder.append(C)Ljava/lang/StringBuilder; -/
theorem ml_QF_55 : jj_ML "BeanServer$QueryForm" 55 yn_SB_append yb_SB_append 2 (some (.object "java/lang/StringBuilder")) 1 := ⟨Or.inl wd_651, wd_147, wd_3, by decide +kernel⟩
/-- BeanServer$QueryForm #43: BeanServer$QueryForm.closeParenthesis(C)V -/
theorem ml_QF_43 : jj_ML "BeanServer$QueryForm" 43 yn_QF_closeParenthesis yb_QF_closeParenthesis 3 none 1 := ⟨Or.inl wd_652, wd_655, wd_19, by decide +kernel⟩
/-- BeanServer$QueryForm #52: BeanServer$QueryForm.lastBefore(I)C -/
theorem ml_QF_52 : jj_ML "BeanServer$QueryForm" 52 yn_QF_lastBefore yb_QF_lastBefore 2 (some .char) 1 := ⟨Or.inl wd_656, wd_659, wd_19, by decide +kernel⟩
/-- BeanServer$QueryForm #74: java/lang/StringBuilder.charAt(I)C -/
theorem ml_QF_74 : jj_ML "BeanServer$QueryForm" 74 yn_SB_charAt yb_SB_charAt 2 (some .char) 1 := ⟨Or.inl wd_660, wd_663, wd_3, by decide +kernel⟩
/-- java/lang/StringBuilder #329: java/lang/AbstractStringBuilder.charAt(I)C -/
theorem ml_SB_329 : jj_ML "java/lang/StringBuilder" 329 yn_AS_charAt yb_AS_charAt 5 (some .char) 1 := ⟨Or.inl wd_664, wd_666, wd_2, by decide +kernel⟩
/-- java/lang/AbstractStringBuilder #138: java/lang/Math.min(II)I -/
theorem ml_AS_138 : jj_ML "java/lang/AbstractStringBuilder" 138 yn_MA_min yb_MA_min 2 (some .int) 2 := ⟨Or.inl wd_667, wd_182, wd_9, by decide +kernel⟩
/-- java/lang/AbstractStringBuilder #144: java/lang/String.checkIndex(II)V -/
theorem ml_AS_144 : jj_ML "java/lang/AbstractStringBuilder" 144 yn_ST_checkIndex yb_ST_checkIndex 2 none 2 := ⟨Or.inl wd_668, wd_235, wd_4, by decide +kernel⟩
/-- java/lang/AbstractStringBuilder #148: java/lang/StringUTF16.getChar([BI)C -/
theorem ml_AS_148 : jj_ML "java/lang/AbstractStringBuilder" 148 yn_SU_getChar yb_SU_getChar 2 (some .char) 2 := ⟨Or.inl wd_669, wd_289, wd_5, by decide +kernel⟩
/-- BeanServer$QueryForm #63: BeanServer$QueryForm.jointFrom(I)C -/
theorem ml_QF_63 : jj_ML "BeanServer$QueryForm" 63 yn_QF_jointFrom yb_QF_jointFrom 6 (some .char) 1 := ⟨Or.inl wd_670, wd_673, wd_19, by decide +kernel⟩
/-- BeanServer$QueryForm #66: BeanServer$QueryForm.isNeeded(CCC)Z -/
theorem ml_QF_66 : jj_ML "BeanServer$QueryForm" 66 yn_QF_isNeeded yb_QF_isNeeded 3 (some .boolean) 3 := ⟨Or.inl wd_674, wd_676, wd_19, by decide +kernel⟩
/-- BeanServer$QueryForm #70: java/lang/StringBuilder.deleteCharAt(I)Ljava/lang/StringBuilder; -/
theorem ml_QF_70 : jj_ML "BeanServer$QueryForm" 70 yn_SB_deleteCharAt yb_SB_deleteCharAt 2 (some (.object "java/lang/StringBuilder")) 1 := ⟨Or.inl wd_677, wd_680, wd_3, by decide +kernel⟩
/-- java/lang/StringBuilder #72: java/lang/AbstractStringBuilder.deleteCharAt(I)Ljava/lang/AbstractStringBuilder; -/
theorem ml_SB_72 : jj_ML "java/lang/StringBuilder" 72 yn_AS_deleteCharAt yb_AS_deleteCharAt 2 (some (.object "java/lang/AbstractStringBuilder")) 1 := ⟨Or.inl wd_681, wd_683, wd_2, by decide +kernel⟩
/-- java/lang/AbstractStringBuilder #283: java/lang/AbstractStringBuilder.shift(II)V -/
theorem ml_AS_283 : jj_ML "java/lang/AbstractStringBuilder" 283 yn_AS_shift yb_AS_shift 3 none 2 := ⟨Or.inl wd_684, wd_687, wd_2, by decide +kernel⟩
/-- BeanServer$QueryForm #47: BeanServer$QueryForm.isDigit(C)Z -/
theorem ml_QF_47 : jj_ML "BeanServer$QueryForm" 47 yn_QF_isDigit yb_QF_isDigit 1 (some .boolean) 1 := ⟨Or.inl wd_689, wd_691, wd_19, by decide +kernel⟩
/-- BeanServer$QueryForm #59: java/lang/StringBuilder.toString()Ljava/lang/String; -/
theorem ml_QF_59 : jj_ML "BeanServer$QueryForm" 59 yn_SB_toString yb_SB_toString 1 (some (.object "java/lang/String")) 0 := ⟨Or.inl wd_692, wd_254, wd_3, by decide +kernel⟩
/-- BeanServer #137: BeanServer$Query.<init>(Ljava/lang/String;)V -/
theorem ml_BS_137 : jj_ML "BeanServer" 137 yn_QU_init yb_QU_init 2 none 1 := ⟨Or.inl wd_693, wd_695, wd_18, by decide +kernel⟩
/-- BeanServerLaw #50: BeanServer.check(II)I -/
theorem ml_LW_50 : jj_ML "BeanServerLaw" 50 yn_BS_check yb_BS_check 5 (some .int) 2 := ⟨Or.inl wd_702, wd_705, wd_1, by decide +kernel⟩
/-- BeanServer #138: BeanServer.queryAt(I)LBeanServer$Query; -/
theorem ml_BS_138 : jj_ML "BeanServer" 138 yn_BS_queryAt yb_BS_queryAt 2 (some (.object "BeanServer$Query")) 1 := ⟨Or.inl wd_706, wd_709, wd_1, by decide +kernel⟩
/-- BeanServerLaw #54: BeanServer.select(I)I -/
theorem ml_LW_54 : jj_ML "BeanServerLaw" 54 yn_BS_select yb_BS_select 7 (some .int) 1 := ⟨Or.inl wd_710, wd_713, wd_1, by decide +kernel⟩
/-- BeanServer #151: BeanServer$Pattern.fits(LBeanServer$Pattern;)Z -/
theorem ml_BS_151 : jj_ML "BeanServer" 151 yn_PT_fits yb_PT_fits 4 (some .boolean) 1 := ⟨Or.inl wd_714, wd_717, wd_14, by decide +kernel⟩
/-- BeanServer$Pattern #60: BeanServer$Pattern.standsFor(IILjava/lang/String;II)Z -/
theorem ml_PT_60 : jj_ML "BeanServer$Pattern" 60 yn_PT_standsFor yb_PT_standsFor 9 (some .boolean) 5 := ⟨Or.inl wd_718, wd_721, wd_14, by decide +kernel⟩
/-- BeanServer$Pattern #90: BeanServer$Pattern.reachedBehind(CILjava/lang/String;II)I -/
theorem ml_PT_90 : jj_ML "BeanServer$Pattern" 90 yn_PT_reachedBehind yb_PT_reachedBehind 8 (some .int) 5 := ⟨Or.inl wd_722, wd_724, wd_14, by decide +kernel⟩
/-- BeanServerLaw #59: BeanServer.selected(I)I -/
theorem ml_LW_59 : jj_ML "BeanServerLaw" 59 yn_BS_selected yb_BS_selected 2 (some .int) 1 := ⟨Or.inl wd_725, wd_728, wd_1, by decide +kernel⟩
/-- BeanServerLaw #63: BeanServer.form(III)I -/
theorem ml_LW_63 : jj_ML "BeanServerLaw" 63 yn_BS_form yb_BS_form 5 (some .int) 3 := ⟨Or.inl wd_729, wd_732, wd_1, by decide +kernel⟩
/-- BeanServer #155: BeanServer.shownForm(II)Ljava/lang/String; -/
theorem ml_BS_155 : jj_ML "BeanServer" 155 yn_BS_shownForm yb_BS_shownForm 3 (some (.object "java/lang/String")) 2 := ⟨Or.inl wd_733, wd_736, wd_1, by decide +kernel⟩
/-- BeanServer #159: java/lang/String.isEmpty()Z -/
theorem ml_BS_159 : jj_ML "BeanServer" 159 yn_ST_isEmpty yb_ST_isEmpty 1 (some .boolean) 0 := ⟨Or.inl wd_737, wd_559, wd_4, by decide +kernel⟩
/-- BeanServerLaw #68: BeanServer.counter(IIII)I -/
theorem ml_LW_68 : jj_ML "BeanServerLaw" 68 yn_BS_counter yb_BS_counter 6 (some .int) 4 := ⟨Or.inl wd_738, wd_741, wd_1, by decide +kernel⟩
/-- BeanServer #167: BeanServer.numberForMonitorOf(I)I -/
theorem ml_BS_167 : jj_ML "BeanServer" 167 yn_BS_numberForMonitorOf yb_BS_numberForMonitorOf 3 (some .int) 1 := ⟨Or.inl wd_742, wd_745, wd_1, by decide +kernel⟩
/-- BeanServer #173: BeanServer$Counter.<init>(Ljava/lang/String;III)V -/
theorem ml_BS_173 : jj_ML "BeanServer" 173 yn_CT_init yb_CT_init 5 none 4 := ⟨Or.inl wd_748, wd_750, wd_21, by decide +kernel⟩
/-- BeanServer$Counter #3: BeanServer$Monitor.<init>(Ljava/lang/String;I)V -/
theorem ml_CT_3 : jj_ML "BeanServer$Counter" 3 yn_MN_init yb_MN_init 3 none 2 := ⟨Or.inl wd_751, wd_753, wd_20, by decide +kernel⟩
/-- BeanServerLaw #73: BeanServer.gauge(IIII)I -/
theorem ml_LW_73 : jj_ML "BeanServerLaw" 73 yn_BS_gauge yb_BS_gauge 6 (some .int) 4 := ⟨Or.inl wd_786, wd_789, wd_1, by decide +kernel⟩
/-- BeanServer #178: BeanServer$Gauge.<init>(Ljava/lang/String;III)V -/
theorem ml_BS_178 : jj_ML "BeanServer" 178 yn_GA_init yb_GA_init 5 none 4 := ⟨Or.inl wd_792, wd_794, wd_22, by decide +kernel⟩
/-- BeanServer$Gauge #3: BeanServer$Monitor.<init>(Ljava/lang/String;I)V -/
theorem ml_GA_3 : jj_ML "BeanServer$Gauge" 3 yn_MN_init yb_MN_init 3 none 2 := ⟨Or.inl wd_795, wd_753, wd_20, by decide +kernel⟩
/-- BeanServerLaw #77: BeanServer.cancel(I)Z -/
theorem ml_LW_77 : jj_ML "BeanServerLaw" 77 yn_BS_cancel yb_BS_cancel 2 (some .boolean) 1 := ⟨Or.inl wd_809, wd_812, wd_1, by decide +kernel⟩
/-- BeanServer #179: BeanServer.monitorAt(I)LBeanServer$Monitor; -/
theorem ml_BS_179 : jj_ML "BeanServer" 179 yn_BS_monitorAt yb_BS_monitorAt 2 (some (.object "BeanServer$Monitor")) 1 := ⟨Or.inl wd_813, wd_816, wd_1, by decide +kernel⟩
/-- BeanServerLaw #82: BeanServer.observe()I -/
theorem ml_LW_82 : jj_ML "BeanServerLaw" 82 yn_BS_observe yb_BS_observe 3 (some .int) 0 := ⟨Or.inl wd_817, wd_820, wd_1, by decide +kernel⟩
/-- BeanServer #186: BeanServer.letLook(LBeanServer$Monitor;I)V -/
theorem ml_BS_186 : jj_ML "BeanServer" 186 yn_BS_letLook yb_BS_letLook 6 none 2 := ⟨Or.inl wd_821, wd_824, wd_1, by decide +kernel⟩
/-- BeanServer$Counter #32: BeanServer$Counter.firstMarkAbove(I)J -/
theorem ml_CT_32 : jj_ML "BeanServer$Counter" 32 yn_CT_firstMarkAbove yb_CT_firstMarkAbove 4 (some .long) 1 := ⟨Or.inl wd_831, wd_834, wd_21, by decide +kernel⟩
/-- BeanServerLaw #86: BeanServer.mark(I)J -/
theorem ml_LW_86 : jj_ML "BeanServerLaw" 86 yn_BS_mark yb_BS_mark 3 (some .long) 1 := ⟨Or.inl wd_838, wd_841, wd_1, by decide +kernel⟩
/-- BeanServerLaw #91: BeanServer.listen(I)I -/
theorem ml_LW_91 : jj_ML "BeanServerLaw" 91 yn_BS_listen yb_BS_listen 2 (some .int) 1 := ⟨Or.inl wd_851, wd_854, wd_1, by decide +kernel⟩
/-- BeanServerLaw #95: BeanServer.notice(II)I -/
theorem ml_LW_95 : jj_ML "BeanServerLaw" 95 yn_BS_notice yb_BS_notice 3 (some .int) 2 := ⟨Or.inl wd_855, wd_858, wd_1, by decide +kernel⟩
/-- BeanServer #197: BeanServer$Log.told(II)I -/
theorem ml_BS_197 : jj_ML "BeanServer" 197 yn_LG_told yb_LG_told 4 (some .int) 2 := ⟨Or.inl wd_859, wd_862, wd_6, by decide +kernel⟩
/-- BeanServer$Log #43: java/lang/Math.floorMod(II)I -/
theorem ml_LG_43 : jj_ML "BeanServer$Log" 43 yn_MA_floorMod yb_MA_floorMod 3 (some .int) 2 := ⟨Or.inl wd_863, wd_865, wd_9, by decide +kernel⟩
/-- BeanServerLaw #12: BeanServerModel.<init>()V -/
theorem ml_LW_12 : jj_ML "BeanServerLaw" 12 yn_MO_init yb_MO_init 1 none 0 := ⟨Or.inl wd_868, wd_870, wd_7, by decide +kernel⟩
/-- BeanServerLaw #17: BeanServerModel.write(C)Z -/
theorem ml_LW_17 : jj_ML "BeanServerLaw" 17 yn_MO_write yb_MO_write 2 (some .boolean) 1 := ⟨Or.inl wd_962, wd_965, wd_7, by decide +kernel⟩
/-- BeanServerModel #87: BeanServerModel.put(IC)V -/
theorem ml_MO_87 : jj_ML "BeanServerModel" 87 yn_MO_put yb_MO_put 3 none 2 := ⟨Or.inl wd_966, wd_969, wd_7, by decide +kernel⟩
/-- BeanServerLaw #22: BeanServerModel.register()I -/
theorem ml_LW_22 : jj_ML "BeanServerLaw" 22 yn_MO_register yb_MO_register 3 (some .int) 0 := ⟨Or.inl wd_970, wd_973, wd_7, by decide +kernel⟩
/-- BeanServerModel #157: BeanServerModel.takeName()Z -/
theorem ml_MO_157 : jj_ML "BeanServerModel" 157 yn_MO_takeName yb_MO_takeName 1 (some .boolean) 0 := ⟨Or.inl wd_974, wd_977, wd_7, by decide +kernel⟩
/-- BeanServerModel #122: BeanServerModel.take()V -/
theorem ml_MO_122 : jj_ML "BeanServerModel" 122 yn_MO_take yb_MO_take 1 none 0 := ⟨Or.inl wd_978, wd_981, wd_7, by decide +kernel⟩
/-- BeanServerModel #91: BeanServerModel.copy(II)V -/
theorem ml_MO_91 : jj_ML "BeanServerModel" 91 yn_MO_copy yb_MO_copy 4 none 2 := ⟨Or.inl wd_982, wd_985, wd_7, by decide +kernel⟩
/-- BeanServerModel #83: BeanServerModel.get1(II)C -/
theorem ml_MO_83 : jj_ML "BeanServerModel" 83 yn_MO_get1 yb_MO_get1 3 (some .char) 2 := ⟨Or.inl wd_986, wd_989, wd_7, by decide +kernel⟩
/-- BeanServerModel #125: BeanServerModel.reads(IZ)Z -/
theorem ml_MO_125 : jj_ML "BeanServerModel" 125 yn_MO_reads yb_MO_reads 5 (some .boolean) 2 := ⟨Or.inl wd_990, wd_993, wd_7, by decide +kernel⟩
/-- BeanServerModel #110: BeanServerModel.colon(I)I -/
theorem ml_MO_110 : jj_ML "BeanServerModel" 110 yn_MO_colon yb_MO_colon 3 (some .int) 1 := ⟨Or.inl wd_994, wd_997, wd_7, by decide +kernel⟩
/-- BeanServerModel #106: BeanServerModel.allowed(CZ)Z -/
theorem ml_MO_106 : jj_ML "BeanServerModel" 106 yn_MO_allowed yb_MO_allowed 2 (some .boolean) 2 := ⟨Or.inl wd_998, wd_1000, wd_7, by decide +kernel⟩
/-- BeanServerModel #95: BeanServerModel.isSmall(C)Z -/
theorem ml_MO_95 : jj_ML "BeanServerModel" 95 yn_MO_isSmall yb_MO_isSmall 1 (some .boolean) 1 := ⟨Or.inl wd_1001, wd_1003, wd_7, by decide +kernel⟩
/-- BeanServerModel #99: BeanServerModel.isDigit(C)Z -/
theorem ml_MO_99 : jj_ML "BeanServerModel" 99 yn_MO_isDigit yb_MO_isDigit 1 (some .boolean) 1 := ⟨Or.inl wd_1004, wd_1006, wd_7, by decide +kernel⟩
/-- BeanServerModel #114: BeanServerModel.list(IIZ)Z -/
theorem ml_MO_114 : jj_ML "BeanServerModel" 114 yn_MO_list yb_MO_list 9 (some .boolean) 3 := ⟨Or.inl wd_1007, wd_1010, wd_7, by decide +kernel⟩
/-- BeanServerModel #129: BeanServerModel.order()V -/
theorem ml_MO_129 : jj_ML "BeanServerModel" 129 yn_MO_order yb_MO_order 4 none 0 := ⟨Or.inl wd_1011, wd_1014, wd_7, by decide +kernel⟩
/-- BeanServerModel #118: BeanServerModel.copyProperty(III)V -/
theorem ml_MO_118 : jj_ML "BeanServerModel" 118 yn_MO_copyProperty yb_MO_copyProperty 5 none 3 := ⟨Or.inl wd_1015, wd_1018, wd_7, by decide +kernel⟩
/-- BeanServerModel #161: BeanServerModel.beanWith(I)I -/
theorem ml_MO_161 : jj_ML "BeanServerModel" 161 yn_MO_beanWith yb_MO_beanWith 3 (some .int) 1 := ⟨Or.inl wd_1019, wd_1022, wd_7, by decide +kernel⟩
/-- BeanServerModel #132: BeanServerModel.same(II)Z -/
theorem ml_MO_132 : jj_ML "BeanServerModel" 132 yn_MO_same yb_MO_same 5 (some .boolean) 2 := ⟨Or.inl wd_1023, wd_1026, wd_7, by decide +kernel⟩
/-- BeanServerModel #164: BeanServerModel.give(III)V -/
theorem ml_MO_164 : jj_ML "BeanServerModel" 164 yn_MO_give yb_MO_give 5 none 3 := ⟨Or.inl wd_1027, wd_1030, wd_7, by decide +kernel⟩
/-- BeanServerLaw #26: BeanServerModel.unregister()I -/
theorem ml_LW_26 : jj_ML "BeanServerLaw" 26 yn_MO_unregister yb_MO_unregister 2 (some .int) 0 := ⟨Or.inl wd_1031, wd_1034, wd_7, by decide +kernel⟩
/-- BeanServerModel #167: BeanServerModel.find()I -/
theorem ml_MO_167 : jj_ML "BeanServerModel" 167 yn_MO_find yb_MO_find 2 (some .int) 0 := ⟨Or.inl wd_1035, wd_1038, wd_7, by decide +kernel⟩
/-- BeanServerLaw #30: BeanServerModel.find()I -/
theorem ml_LW_30 : jj_ML "BeanServerLaw" 30 yn_MO_find yb_MO_find 2 (some .int) 0 := ⟨Or.inl wd_1039, wd_1038, wd_7, by decide +kernel⟩
/-- BeanServerLaw #35: BeanServerModel.set(III)Z -/
theorem ml_LW_35 : jj_ML "BeanServerLaw" 35 yn_MO_set yb_MO_set 4 (some .boolean) 3 := ⟨Or.inl wd_1040, wd_1043, wd_7, by decide +kernel⟩
/-- BeanServerModel #175: BeanServerModel.isSlot(II)Z -/
theorem ml_MO_175 : jj_ML "BeanServerModel" 175 yn_MO_isSlot yb_MO_isSlot 3 (some .boolean) 2 := ⟨Or.inl wd_1044, wd_1047, wd_7, by decide +kernel⟩
/-- BeanServerModel #171: BeanServerModel.isBean(I)Z -/
theorem ml_MO_171 : jj_ML "BeanServerModel" 171 yn_MO_isBean yb_MO_isBean 2 (some .boolean) 1 := ⟨Or.inl wd_1048, wd_1051, wd_7, by decide +kernel⟩
/-- BeanServerLaw #40: BeanServerModel.unset(II)Z -/
theorem ml_LW_40 : jj_ML "BeanServerLaw" 40 yn_MO_unset yb_MO_unset 4 (some .boolean) 2 := ⟨Or.inl wd_1052, wd_1055, wd_7, by decide +kernel⟩
/-- BeanServerLaw #45: BeanServerModel.get(II)I -/
theorem ml_LW_45 : jj_ML "BeanServerLaw" 45 yn_MO_get yb_MO_get 3 (some .int) 2 := ⟨Or.inl wd_1056, wd_1059, wd_7, by decide +kernel⟩
/-- BeanServerLaw #49: BeanServerModel.define()I -/
theorem ml_LW_49 : jj_ML "BeanServerLaw" 49 yn_MO_define yb_MO_define 3 (some .int) 0 := ⟨Or.inl wd_1060, wd_1063, wd_7, by decide +kernel⟩
/-- BeanServerModel #210: BeanServerModel.isQuery()Z -/
theorem ml_MO_210 : jj_ML "BeanServerModel" 210 yn_MO_isQuery yb_MO_isQuery 5 (some .boolean) 0 := ⟨Or.inl wd_1064, wd_1067, wd_7, by decide +kernel⟩
/-- BeanServerModel #190: BeanServerModel.comparisonEnd(I)I -/
theorem ml_MO_190 : jj_ML "BeanServerModel" 190 yn_MO_comparisonEnd yb_MO_comparisonEnd 3 (some .int) 1 := ⟨Or.inl wd_1068, wd_1071, wd_7, by decide +kernel⟩
/-- BeanServerModel #184: BeanServerModel.valueEnd(I)I -/
theorem ml_MO_184 : jj_ML "BeanServerModel" 184 yn_MO_valueEnd yb_MO_valueEnd 3 (some .int) 1 := ⟨Or.inl wd_1072, wd_1075, wd_7, by decide +kernel⟩
/-- BeanServerModel #178: BeanServerModel.unit(I)I -/
theorem ml_MO_178 : jj_ML "BeanServerModel" 178 yn_MO_unit yb_MO_unit 4 (some .int) 1 := ⟨Or.inl wd_1076, wd_1079, wd_7, by decide +kernel⟩
/-- BeanServerModel #181: BeanServerModel.isOperator(C)Z -/
theorem ml_MO_181 : jj_ML "BeanServerModel" 181 yn_MO_isOperator yb_MO_isOperator 1 (some .boolean) 1 := ⟨Or.inl wd_1080, wd_1082, wd_7, by decide +kernel⟩
/-- BeanServerModel #187: BeanServerModel.isRelation(C)Z -/
theorem ml_MO_187 : jj_ML "BeanServerModel" 187 yn_MO_isRelation yb_MO_isRelation 1 (some .boolean) 1 := ⟨Or.inl wd_1083, wd_1085, wd_7, by decide +kernel⟩
/-- BeanServerModel #213: BeanServerModel.shorten()V -/
theorem ml_MO_213 : jj_ML "BeanServerModel" 213 yn_MO_shorten yb_MO_shorten 5 none 0 := ⟨Or.inl wd_1086, wd_1089, wd_7, by decide +kernel⟩
/-- BeanServerModel #203: BeanServerModel.last()C -/
theorem ml_MO_203 : jj_ML "BeanServerModel" 203 yn_MO_last yb_MO_last 1 (some .char) 0 := ⟨Or.inl wd_1090, wd_1093, wd_7, by decide +kernel⟩
/-- BeanServerModel #207: BeanServerModel.needed(I)Z -/
theorem ml_MO_207 : jj_ML "BeanServerModel" 207 yn_MO_needed yb_MO_needed 7 (some .boolean) 1 := ⟨Or.inl wd_1094, wd_1097, wd_7, by decide +kernel⟩
/-- BeanServerModel #193: BeanServerModel.partner(I)I -/
theorem ml_MO_193 : jj_ML "BeanServerModel" 193 yn_MO_partner yb_MO_partner 7 (some .int) 1 := ⟨Or.inl wd_1098, wd_1101, wd_7, by decide +kernel⟩
/-- BeanServerModel #196: BeanServerModel.contains(IIC)Z -/
theorem ml_MO_196 : jj_ML "BeanServerModel" 196 yn_MO_contains yb_MO_contains 8 (some .boolean) 3 := ⟨Or.inl wd_1102, wd_1105, wd_7, by decide +kernel⟩
/-- BeanServerModel #200: BeanServerModel.amongSeveral(II)Z -/
theorem ml_MO_200 : jj_ML "BeanServerModel" 200 yn_MO_amongSeveral yb_MO_amongSeveral 4 (some .boolean) 2 := ⟨Or.inl wd_1106, wd_1109, wd_7, by decide +kernel⟩
/-- BeanServerLaw #53: BeanServerModel.check(II)I -/
theorem ml_LW_53 : jj_ML "BeanServerLaw" 53 yn_MO_check yb_MO_check 3 (some .int) 2 := ⟨Or.inl wd_1110, wd_1113, wd_7, by decide +kernel⟩
/-- BeanServerModel #244: BeanServerModel.isAsked(I)Z -/
theorem ml_MO_244 : jj_ML "BeanServerModel" 244 yn_MO_isAsked yb_MO_isAsked 2 (some .boolean) 1 := ⟨Or.inl wd_1114, wd_1117, wd_7, by decide +kernel⟩
/-- BeanServerModel #247: BeanServerModel.truth(II)I -/
theorem ml_MO_247 : jj_ML "BeanServerModel" 247 yn_MO_truth yb_MO_truth 8 (some .int) 2 := ⟨Or.inl wd_1118, wd_1121, wd_7, by decide +kernel⟩
/-- BeanServerModel #231: BeanServerModel.enter(IZ)V -/
theorem ml_MO_231 : jj_ML "BeanServerModel" 231 yn_MO_enter yb_MO_enter 3 none 2 := ⟨Or.inl wd_1122, wd_1125, wd_7, by decide +kernel⟩
/-- BeanServerModel #235: BeanServerModel.looked(I)Z -/
theorem ml_MO_235 : jj_ML "BeanServerModel" 235 yn_MO_looked yb_MO_looked 2 (some .boolean) 1 := ⟨Or.inl wd_1126, wd_1129, wd_7, by decide +kernel⟩
/-- BeanServerModel #238: BeanServerModel.settle(IZ)V -/
theorem ml_MO_238 : jj_ML "BeanServerModel" 238 yn_MO_settle yb_MO_settle 3 none 2 := ⟨Or.inl wd_1130, wd_1133, wd_7, by decide +kernel⟩
/-- BeanServerModel #241: BeanServerModel.comparison(II)Z -/
theorem ml_MO_241 : jj_ML "BeanServerModel" 241 yn_MO_comparison yb_MO_comparison 6 (some .boolean) 2 := ⟨Or.inl wd_1134, wd_1137, wd_7, by decide +kernel⟩
/-- BeanServerModel #228: BeanServerModel.value(II)I -/
theorem ml_MO_228 : jj_ML "BeanServerModel" 228 yn_MO_value yb_MO_value 8 (some .int) 2 := ⟨Or.inl wd_1138, wd_1141, wd_7, by decide +kernel⟩
/-- BeanServerModel #225: BeanServerModel.unitValue(II)I -/
theorem ml_MO_225 : jj_ML "BeanServerModel" 225 yn_MO_unitValue yb_MO_unitValue 5 (some .int) 2 := ⟨Or.inl wd_1142, wd_1145, wd_7, by decide +kernel⟩
/-- BeanServerModel #222: BeanServerModel.get(II)I -/
theorem ml_MO_222 : jj_ML "BeanServerModel" 222 yn_MO_get yb_MO_get 3 (some .int) 2 := ⟨Or.inl wd_1146, wd_1059, wd_7, by decide +kernel⟩
/-- BeanServerLaw #58: BeanServerModel.select(I)I -/
theorem ml_LW_58 : jj_ML "BeanServerLaw" 58 yn_MO_select yb_MO_select 3 (some .int) 1 := ⟨Or.inl wd_1147, wd_1150, wd_7, by decide +kernel⟩
/-- BeanServerModel #253: BeanServerModel.fits(I)Z -/
theorem ml_MO_253 : jj_ML "BeanServerModel" 253 yn_MO_fits yb_MO_fits 5 (some .boolean) 1 := ⟨Or.inl wd_1151, wd_1154, wd_7, by decide +kernel⟩
/-- BeanServerModel #143: BeanServerModel.matches(IIII)Z -/
theorem ml_MO_143 : jj_ML "BeanServerModel" 143 yn_MO_matches yb_MO_matches 11 (some .boolean) 4 := ⟨Or.inl wd_1155, wd_1158, wd_7, by decide +kernel⟩
/-- BeanServerModel #136: BeanServerModel.isPart(C)Z -/
theorem ml_MO_136 : jj_ML "BeanServerModel" 136 yn_MO_isPart yb_MO_isPart 1 (some .boolean) 1 := ⟨Or.inl wd_1159, wd_1161, wd_7, by decide +kernel⟩
/-- BeanServerModel #139: BeanServerModel.spread(IIII)I -/
theorem ml_MO_139 : jj_ML "BeanServerModel" 139 yn_MO_spread yb_MO_spread 7 (some .int) 4 := ⟨Or.inl wd_1162, wd_1165, wd_7, by decide +kernel⟩
/-- BeanServerModel #147: BeanServerModel.property(II)I -/
theorem ml_MO_147 : jj_ML "BeanServerModel" 147 yn_MO_property yb_MO_property 6 (some .int) 2 := ⟨Or.inl wd_1166, wd_1169, wd_7, by decide +kernel⟩
/-- BeanServerLaw #62: BeanServerModel.selected(I)I -/
theorem ml_LW_62 : jj_ML "BeanServerLaw" 62 yn_MO_selected yb_MO_selected 2 (some .int) 1 := ⟨Or.inl wd_1170, wd_1173, wd_7, by decide +kernel⟩
/-- BeanServerLaw #67: BeanServerModel.form(III)I -/
theorem ml_LW_67 : jj_ML "BeanServerLaw" 67 yn_MO_form yb_MO_form 5 (some .int) 3 := ⟨Or.inl wd_1174, wd_1177, wd_7, by decide +kernel⟩
/-- BeanServerLaw #72: BeanServerModel.counter(IIII)I -/
theorem ml_LW_72 : jj_ML "BeanServerLaw" 72 yn_MO_counter yb_MO_counter 5 (some .int) 4 := ⟨Or.inl wd_1178, wd_1181, wd_7, by decide +kernel⟩
/-- BeanServerModel #256: BeanServerModel.watch(IIIII)I -/
theorem ml_MO_256 : jj_ML "BeanServerModel" 256 yn_MO_watch yb_MO_watch 7 (some .int) 5 := ⟨Or.inl wd_1182, wd_1185, wd_7, by decide +kernel⟩
/-- BeanServerLaw #76: BeanServerModel.gauge(IIII)I -/
theorem ml_LW_76 : jj_ML "BeanServerLaw" 76 yn_MO_gauge yb_MO_gauge 5 (some .int) 4 := ⟨Or.inl wd_1186, wd_1189, wd_7, by decide +kernel⟩
/-- BeanServerLaw #81: BeanServerModel.cancel(I)Z -/
theorem ml_LW_81 : jj_ML "BeanServerLaw" 81 yn_MO_cancel yb_MO_cancel 2 (some .boolean) 1 := ⟨Or.inl wd_1190, wd_1193, wd_7, by decide +kernel⟩
/-- BeanServerModel #260: BeanServerModel.isMonitor(I)Z -/
theorem ml_MO_260 : jj_ML "BeanServerModel" 260 yn_MO_isMonitor yb_MO_isMonitor 2 (some .boolean) 1 := ⟨Or.inl wd_1194, wd_1197, wd_7, by decide +kernel⟩
/-- BeanServerLaw #85: BeanServerModel.observe()I -/
theorem ml_LW_85 : jj_ML "BeanServerLaw" 85 yn_MO_observe yb_MO_observe 3 (some .int) 0 := ⟨Or.inl wd_1198, wd_1201, wd_7, by decide +kernel⟩
/-- BeanServerModel #271: BeanServerModel.observe1(I)V -/
theorem ml_MO_271 : jj_ML "BeanServerModel" 271 yn_MO_observe1 yb_MO_observe1 5 none 1 := ⟨Or.inl wd_1202, wd_1205, wd_7, by decide +kernel⟩
/-- BeanServerModel #265: BeanServerModel.count(II)V -/
theorem ml_MO_265 : jj_ML "BeanServerModel" 265 yn_MO_count yb_MO_count 5 none 2 := ⟨Or.inl wd_1206, wd_1209, wd_7, by decide +kernel⟩
/-- BeanServerModel #268: BeanServerModel.gaugeOf(II)V -/
theorem ml_MO_268 : jj_ML "BeanServerModel" 268 yn_MO_gaugeOf yb_MO_gaugeOf 3 none 2 := ⟨Or.inl wd_1210, wd_1213, wd_7, by decide +kernel⟩
/-- BeanServerLaw #90: BeanServerModel.mark(I)J -/
theorem ml_LW_90 : jj_ML "BeanServerLaw" 90 yn_MO_mark yb_MO_mark 2 (some .long) 1 := ⟨Or.inl wd_1215, wd_1218, wd_7, by decide +kernel⟩
/-- BeanServerLaw #94: BeanServerModel.listen(I)I -/
theorem ml_LW_94 : jj_ML "BeanServerLaw" 94 yn_MO_listen yb_MO_listen 2 (some .int) 1 := ⟨Or.inl wd_1219, wd_1222, wd_7, by decide +kernel⟩
/-- BeanServerLaw #98: BeanServerModel.notice(II)I -/
theorem ml_LW_98 : jj_ML "BeanServerLaw" 98 yn_MO_notice yb_MO_notice 3 (some .int) 2 := ⟨Or.inl wd_1223, wd_1226, wd_7, by decide +kernel⟩
theorem ms_SB_343 : jj_MS "java/lang/StringBuilder" 343 yn_AS_length yb_AS_length 1 (some .int) 0 := ⟨wd_141, wd_1227, wd_62, wd_142, wd_2, wd_143, by decide +kernel⟩
theorem ms_SB_50 : jj_MS "java/lang/StringBuilder" 50 yn_AS_append yb_AS_append 2 (some (.object "java/lang/AbstractStringBuilder")) 1 := ⟨wd_148, wd_1228, wd_62, wd_149, wd_2, wd_150, by decide +kernel⟩
theorem ms_SB_333 : jj_MS "java/lang/StringBuilder" 333 yn_AS_setLength yb_AS_setLength 2 none 1 := ⟨wd_309, wd_1233, wd_62, wd_310, wd_2, wd_311, by decide +kernel⟩
theorem ms_SB_329 : jj_MS "java/lang/StringBuilder" 329 yn_AS_charAt yb_AS_charAt 5 (some .char) 1 := ⟨wd_664, wd_1234, wd_62, wd_665, wd_2, wd_666, by decide +kernel⟩
theorem ms_SB_72 : jj_MS "java/lang/StringBuilder" 72 yn_AS_deleteCharAt yb_AS_deleteCharAt 2 (some (.object "java/lang/AbstractStringBuilder")) 1 := ⟨wd_681, wd_1235, wd_62, wd_682, wd_2, wd_683, by decide +kernel⟩
theorem nw_LW_7 : jj_NW "BeanServerLaw" 7 0 9 [.null, .null, .null, .int 0, .null, .null, .null, .int 0, .null] := ⟨_, _, _, cl_BS, wd_23, wd_24, wd_1, by decide +kernel⟩
theorem nw_BS_7 : jj_NW "BeanServer" 7 11 4 [.null, .int 0, .int 0, .int 0] := ⟨_, _, _, cl_SB, wd_31, wd_32, wd_3, by decide +kernel⟩
theorem nw_BS_16 : jj_NW "BeanServer" 16 1 3 [.null, .null, .null] := ⟨_, _, _, cl_BE, wd_64, wd_488, wd_16, by decide +kernel⟩
theorem nw_BS_22 : jj_NW "BeanServer" 22 4 1 [.null] := ⟨_, _, _, cl_QU, wd_66, wd_618, wd_18, by decide +kernel⟩
theorem nw_BS_38 : jj_NW "BeanServer" 38 2 8 [.null, .null, .null, .null, .int 0, .int 0, .int 0, .int 0] := ⟨_, _, _, cl_LG, wd_70, wd_71, wd_6, by decide +kernel⟩
theorem nw_SB_18 : jj_NW "java/lang/StringBuilder" 18 10 4 [.null, .int 0, .int 0, .int 0] := ⟨_, _, _, cl_ST, wd_255, wd_256, wd_4, by decide +kernel⟩
theorem nw_BS_71 : jj_NW "BeanServer" 71 3 6 [.null, .null, .null, .int 0, .int 0, .null] := ⟨_, _, _, cl_PT, wd_328, wd_329, wd_14, by decide +kernel⟩
theorem nw_PT_71 : jj_NW "BeanServer$Pattern" 71 11 4 [.null, .int 0, .int 0, .int 0] := ⟨_, _, _, cl_SB, wd_401, wd_32, wd_3, by decide +kernel⟩
theorem nw_ST_10 : jj_NW "java/lang/String" 10 10 4 [.null, .int 0, .int 0, .int 0] := ⟨_, _, _, cl_ST, wd_480, wd_256, wd_4, by decide +kernel⟩
theorem nw_BS_111 : jj_NW "BeanServer" 111 5 6 [.null, .null, .int 0, .int 0, .int 0, .int 0] := ⟨_, _, _, cl_QR, wd_550, wd_551, wd_17, by decide +kernel⟩
theorem nw_BS_129 : jj_NW "BeanServer" 129 6 4 [.null, .null, .null, .int 0] := ⟨_, _, _, cl_QF, wd_619, wd_620, wd_19, by decide +kernel⟩
theorem nw_QF_9 : jj_NW "BeanServer$QueryForm" 9 11 4 [.null, .int 0, .int 0, .int 0] := ⟨_, _, _, cl_SB, wd_625, wd_32, wd_3, by decide +kernel⟩
theorem nw_BS_171 : jj_NW "BeanServer" 171 7 9 [.int 0, .int 0, .long 0, .int 0, .int 0, .int 0, .null, .int 0, .int 0] := ⟨_, _, _, cl_CT, wd_746, wd_747, wd_21, by decide +kernel⟩
theorem nw_BS_176 : jj_NW "BeanServer" 176 8 6 [.int 0, .int 0, .int 0, .null, .int 0, .int 0] := ⟨_, _, _, cl_GA, wd_790, wd_791, wd_22, by decide +kernel⟩
theorem nw_LW_10 : jj_NW "BeanServerLaw" 10 9 29 [.null, .null, .null, .null, .null, .null, .null, .null, .null, .null, .null, .null, .null, .null, .null, .int 0, .int 0, .int 0, .null, .int 0, .null, .null, .int 0, .null, .null, .null, .null, .int 0, .int 0] := ⟨_, _, _, cl_MO, wd_866, wd_867, wd_7, by decide +kernel⟩
theorem se_BS_BS_write : jj_SEL "BeanServer" yn_BS_write := fun _ _ h => h _ wd_135
theorem se_SB_SB_length : jj_SEL "java/lang/StringBuilder" yn_SB_length := fun _ _ h => h _ wd_139
theorem se_SB_SB_append : jj_SEL "java/lang/StringBuilder" yn_SB_append := fun _ _ h => h _ wd_146
theorem se_SB_AS_isLatin1 : jj_SEL "java/lang/StringBuilder" yn_AS_isLatin1 := fun _ _ h => h _ wd_189
theorem se_BS_BS_register : jj_SEL "BeanServer" yn_BS_register := fun _ _ h => h _ wd_241
theorem se_SB_SB_toString : jj_SEL "java/lang/StringBuilder" yn_SB_toString := fun _ _ h => h _ wd_253
theorem se_SB_AS_getValue : jj_SEL "java/lang/StringBuilder" yn_AS_getValue := fun _ _ h => h _ wd_267
theorem se_SB_SB_setLength : jj_SEL "java/lang/StringBuilder" yn_SB_setLength := fun _ _ h => h _ wd_307
theorem se_PT_PT_parse : jj_SEL "BeanServer$Pattern" yn_PT_parse := fun _ _ h => h _ wd_357
theorem se_ST_ST_length : jj_SEL "java/lang/String" yn_ST_length := fun _ _ h => h _ wd_365
theorem se_ST_ST_coder : jj_SEL "java/lang/String" yn_ST_coder := fun _ _ h => h _ wd_369
theorem se_ST_ST_charAt : jj_SEL "java/lang/String" yn_ST_charAt := fun _ _ h => h _ wd_373
theorem se_ST_ST_isLatin1 : jj_SEL "java/lang/String" yn_ST_isLatin1 := fun _ _ h => h _ wd_377
theorem se_PT_PT_isName : jj_SEL "BeanServer$Pattern" yn_PT_isName := fun _ _ h => h _ wd_415
theorem se_ST_ST_indexOf1 : jj_SEL "java/lang/String" yn_ST_indexOf1 := fun _ _ h => h _ wd_419
theorem se_ST_ST_indexOf2 : jj_SEL "java/lang/String" yn_ST_indexOf2 := fun _ _ h => h _ wd_423
theorem se_ST_ST_equals : jj_SEL "java/lang/String" yn_ST_equals := fun _ _ h => h _ wd_478
theorem se_LG_LG_give : jj_SEL "BeanServer$Log" yn_LG_give := fun _ _ h => h _ wd_511
theorem se_BS_BS_unregister : jj_SEL "BeanServer" yn_BS_unregister := fun _ _ h => h _ wd_516
theorem se_BS_BS_find : jj_SEL "BeanServer" yn_BS_find := fun _ _ h => h _ wd_520
theorem se_BS_BS_set : jj_SEL "BeanServer" yn_BS_set := fun _ _ h => h _ wd_524
theorem se_BS_BS_unset : jj_SEL "BeanServer" yn_BS_unset := fun _ _ h => h _ wd_535
theorem se_BS_BS_get : jj_SEL "BeanServer" yn_BS_get := fun _ _ h => h _ wd_539
theorem se_BS_BS_define : jj_SEL "BeanServer" yn_BS_define := fun _ _ h => h _ wd_543
theorem se_ST_ST_isEmpty : jj_SEL "java/lang/String" yn_ST_isEmpty := fun _ _ h => h _ wd_558
theorem se_QR_QR_any : jj_SEL "BeanServer$QueryReader" yn_QR_any := fun _ _ h => h _ wd_584
theorem se_QF_QF_written : jj_SEL "BeanServer$QueryForm" yn_QF_written := fun _ _ h => h _ wd_642
theorem se_SB_SB_charAt : jj_SEL "java/lang/StringBuilder" yn_SB_charAt := fun _ _ h => h _ wd_662
theorem se_SB_SB_deleteCharAt : jj_SEL "java/lang/StringBuilder" yn_SB_deleteCharAt := fun _ _ h => h _ wd_679
theorem se_BS_BS_check : jj_SEL "BeanServer" yn_BS_check := fun _ _ h => h _ wd_704
theorem se_BS_BS_select : jj_SEL "BeanServer" yn_BS_select := fun _ _ h => h _ wd_712
theorem se_PT_PT_fits : jj_SEL "BeanServer$Pattern" yn_PT_fits := fun _ _ h => h _ wd_716
theorem se_BS_BS_selected : jj_SEL "BeanServer" yn_BS_selected := fun _ _ h => h _ wd_727
theorem se_BS_BS_form : jj_SEL "BeanServer" yn_BS_form := fun _ _ h => h _ wd_731
theorem se_BS_BS_counter : jj_SEL "BeanServer" yn_BS_counter := fun _ _ h => h _ wd_740
theorem se_BS_BS_gauge : jj_SEL "BeanServer" yn_BS_gauge := fun _ _ h => h _ wd_788
theorem se_BS_BS_cancel : jj_SEL "BeanServer" yn_BS_cancel := fun _ _ h => h _ wd_811
theorem se_BS_BS_observe : jj_SEL "BeanServer" yn_BS_observe := fun _ _ h => h _ wd_819
theorem se_BS_BS_mark : jj_SEL "BeanServer" yn_BS_mark := fun _ _ h => h _ wd_840
theorem se_BS_BS_listen : jj_SEL "BeanServer" yn_BS_listen := fun _ _ h => h _ wd_853
theorem se_BS_BS_notice : jj_SEL "BeanServer" yn_BS_notice := fun _ _ h => h _ wd_857
theorem se_LG_LG_told : jj_SEL "BeanServer$Log" yn_LG_told := fun _ _ h => h _ wd_861
theorem se_MO_MO_write : jj_SEL "BeanServerModel" yn_MO_write := fun _ _ h => h _ wd_964
theorem se_MO_MO_register : jj_SEL "BeanServerModel" yn_MO_register := fun _ _ h => h _ wd_972
theorem se_MO_MO_unregister : jj_SEL "BeanServerModel" yn_MO_unregister := fun _ _ h => h _ wd_1033
theorem se_MO_MO_find : jj_SEL "BeanServerModel" yn_MO_find := fun _ _ h => h _ wd_1037
theorem se_MO_MO_set : jj_SEL "BeanServerModel" yn_MO_set := fun _ _ h => h _ wd_1042
theorem se_MO_MO_unset : jj_SEL "BeanServerModel" yn_MO_unset := fun _ _ h => h _ wd_1054
theorem se_MO_MO_get : jj_SEL "BeanServerModel" yn_MO_get := fun _ _ h => h _ wd_1058
theorem se_MO_MO_define : jj_SEL "BeanServerModel" yn_MO_define := fun _ _ h => h _ wd_1062
theorem se_MO_MO_check : jj_SEL "BeanServerModel" yn_MO_check := fun _ _ h => h _ wd_1112
theorem se_MO_MO_select : jj_SEL "BeanServerModel" yn_MO_select := fun _ _ h => h _ wd_1149
theorem se_MO_MO_selected : jj_SEL "BeanServerModel" yn_MO_selected := fun _ _ h => h _ wd_1172
theorem se_MO_MO_form : jj_SEL "BeanServerModel" yn_MO_form := fun _ _ h => h _ wd_1176
theorem se_MO_MO_counter : jj_SEL "BeanServerModel" yn_MO_counter := fun _ _ h => h _ wd_1180
theorem se_MO_MO_gauge : jj_SEL "BeanServerModel" yn_MO_gauge := fun _ _ h => h _ wd_1188
theorem se_MO_MO_cancel : jj_SEL "BeanServerModel" yn_MO_cancel := fun _ _ h => h _ wd_1192
theorem se_MO_MO_observe : jj_SEL "BeanServerModel" yn_MO_observe := fun _ _ h => h _ wd_1200
theorem se_MO_MO_mark : jj_SEL "BeanServerModel" yn_MO_mark := fun _ _ h => h _ wd_1217
theorem se_MO_MO_listen : jj_SEL "BeanServerModel" yn_MO_listen := fun _ _ h => h _ wd_1221
theorem se_MO_MO_notice : jj_SEL "BeanServerModel" yn_MO_notice := fun _ _ h => h _ wd_1225
theorem se_BS_BS_takenName : jj_SEL "BeanServer" yn_BS_takenName := fun _ _ h => h _ wp_0
theorem se_BS_BS_taken : jj_SEL "BeanServer" yn_BS_taken := fun _ _ h => h _ wp_1
theorem se_PT_PT_rowEnd : jj_SEL "BeanServer$Pattern" yn_PT_rowEnd := fun _ _ h => h _ wp_2
theorem se_PT_PT_parseList : jj_SEL "BeanServer$Pattern" yn_PT_parseList := fun _ _ h => h _ wp_3
theorem se_PT_PT_parseProperty : jj_SEL "BeanServer$Pattern" yn_PT_parseProperty := fun _ _ h => h _ wp_4
theorem se_PT_PT_ordered : jj_SEL "BeanServer$Pattern" yn_PT_ordered := fun _ _ h => h _ wp_5
theorem se_PT_PT_copy : jj_SEL "BeanServer$Pattern" yn_PT_copy := fun _ _ h => h _ wp_6
theorem se_BS_BS_beanNamed : jj_SEL "BeanServer" yn_BS_beanNamed := fun _ _ h => h _ wp_7
theorem se_BS_BS_freeBean : jj_SEL "BeanServer" yn_BS_freeBean := fun _ _ h => h _ wp_8
theorem se_BS_BS_beanAt : jj_SEL "BeanServer" yn_BS_beanAt := fun _ _ h => h _ wp_9
theorem se_QR_QR_all : jj_SEL "BeanServer$QueryReader" yn_QR_all := fun _ _ h => h _ wp_10
theorem se_QR_QR_one : jj_SEL "BeanServer$QueryReader" yn_QR_one := fun _ _ h => h _ wp_11
theorem se_QR_QR_step : jj_SEL "BeanServer$QueryReader" yn_QR_step := fun _ _ h => h _ wp_12
theorem se_QR_QR_sum : jj_SEL "BeanServer$QueryReader" yn_QR_sum := fun _ _ h => h _ wp_13
theorem se_QR_QR_product : jj_SEL "BeanServer$QueryReader" yn_QR_product := fun _ _ h => h _ wp_14
theorem se_QR_QR_unit : jj_SEL "BeanServer$QueryReader" yn_QR_unit := fun _ _ h => h _ wp_15
theorem se_QF_QF_openParenthesis : jj_SEL "BeanServer$QueryForm" yn_QF_openParenthesis := fun _ _ h => h _ wp_16
theorem se_QF_QF_closeParenthesis : jj_SEL "BeanServer$QueryForm" yn_QF_closeParenthesis := fun _ _ h => h _ wp_17
theorem se_QF_QF_lastBefore : jj_SEL "BeanServer$QueryForm" yn_QF_lastBefore := fun _ _ h => h _ wp_18
theorem se_QF_QF_jointFrom : jj_SEL "BeanServer$QueryForm" yn_QF_jointFrom := fun _ _ h => h _ wp_19
theorem se_BS_BS_queryAt : jj_SEL "BeanServer" yn_BS_queryAt := fun _ _ h => h _ wp_20
theorem se_PT_PT_standsFor : jj_SEL "BeanServer$Pattern" yn_PT_standsFor := fun _ _ h => h _ wp_21
theorem se_BS_BS_shownForm : jj_SEL "BeanServer" yn_BS_shownForm := fun _ _ h => h _ wp_22
theorem se_BS_BS_numberForMonitorOf : jj_SEL "BeanServer" yn_BS_numberForMonitorOf := fun _ _ h => h _ wp_23
theorem se_BS_BS_monitorAt : jj_SEL "BeanServer" yn_BS_monitorAt := fun _ _ h => h _ wp_24
theorem se_BS_BS_letLook : jj_SEL "BeanServer" yn_BS_letLook := fun _ _ h => h _ wp_25
theorem se_CT_CT_firstMarkAbove : jj_SEL "BeanServer$Counter" yn_CT_firstMarkAbove := fun _ _ h => h _ wp_26
theorem se_MO_MO_put : jj_SEL "BeanServerModel" yn_MO_put := fun _ _ h => h _ wp_27
theorem se_MO_MO_takeName : jj_SEL "BeanServerModel" yn_MO_takeName := fun _ _ h => h _ wp_28
theorem se_MO_MO_take : jj_SEL "BeanServerModel" yn_MO_take := fun _ _ h => h _ wp_29
theorem se_MO_MO_copy : jj_SEL "BeanServerModel" yn_MO_copy := fun _ _ h => h _ wp_30
theorem se_MO_MO_get1 : jj_SEL "BeanServerModel" yn_MO_get1 := fun _ _ h => h _ wp_31
theorem se_MO_MO_reads : jj_SEL "BeanServerModel" yn_MO_reads := fun _ _ h => h _ wp_32
theorem se_MO_MO_colon : jj_SEL "BeanServerModel" yn_MO_colon := fun _ _ h => h _ wp_33
theorem se_MO_MO_list : jj_SEL "BeanServerModel" yn_MO_list := fun _ _ h => h _ wp_34
theorem se_MO_MO_order : jj_SEL "BeanServerModel" yn_MO_order := fun _ _ h => h _ wp_35
theorem se_MO_MO_copyProperty : jj_SEL "BeanServerModel" yn_MO_copyProperty := fun _ _ h => h _ wp_36
theorem se_MO_MO_beanWith : jj_SEL "BeanServerModel" yn_MO_beanWith := fun _ _ h => h _ wp_37
theorem se_MO_MO_same : jj_SEL "BeanServerModel" yn_MO_same := fun _ _ h => h _ wp_38
theorem se_MO_MO_give : jj_SEL "BeanServerModel" yn_MO_give := fun _ _ h => h _ wp_39
theorem se_MO_MO_isSlot : jj_SEL "BeanServerModel" yn_MO_isSlot := fun _ _ h => h _ wp_40
theorem se_MO_MO_isBean : jj_SEL "BeanServerModel" yn_MO_isBean := fun _ _ h => h _ wp_41
theorem se_MO_MO_isQuery : jj_SEL "BeanServerModel" yn_MO_isQuery := fun _ _ h => h _ wp_42
theorem se_MO_MO_comparisonEnd : jj_SEL "BeanServerModel" yn_MO_comparisonEnd := fun _ _ h => h _ wp_43
theorem se_MO_MO_valueEnd : jj_SEL "BeanServerModel" yn_MO_valueEnd := fun _ _ h => h _ wp_44
theorem se_MO_MO_unit : jj_SEL "BeanServerModel" yn_MO_unit := fun _ _ h => h _ wp_45
theorem se_MO_MO_shorten : jj_SEL "BeanServerModel" yn_MO_shorten := fun _ _ h => h _ wp_46
theorem se_MO_MO_last : jj_SEL "BeanServerModel" yn_MO_last := fun _ _ h => h _ wp_47
theorem se_MO_MO_needed : jj_SEL "BeanServerModel" yn_MO_needed := fun _ _ h => h _ wp_48
theorem se_MO_MO_partner : jj_SEL "BeanServerModel" yn_MO_partner := fun _ _ h => h _ wp_49
theorem se_MO_MO_contains : jj_SEL "BeanServerModel" yn_MO_contains := fun _ _ h => h _ wp_50
theorem se_MO_MO_amongSeveral : jj_SEL "BeanServerModel" yn_MO_amongSeveral := fun _ _ h => h _ wp_51
theorem se_MO_MO_isAsked : jj_SEL "BeanServerModel" yn_MO_isAsked := fun _ _ h => h _ wp_52
theorem se_MO_MO_truth : jj_SEL "BeanServerModel" yn_MO_truth := fun _ _ h => h _ wp_53
theorem se_MO_MO_enter : jj_SEL "BeanServerModel" yn_MO_enter := fun _ _ h => h _ wp_54
theorem se_MO_MO_looked : jj_SEL "BeanServerModel" yn_MO_looked := fun _ _ h => h _ wp_55
theorem se_MO_MO_settle : jj_SEL "BeanServerModel" yn_MO_settle := fun _ _ h => h _ wp_56
theorem se_MO_MO_comparison : jj_SEL "BeanServerModel" yn_MO_comparison := fun _ _ h => h _ wp_57
theorem se_MO_MO_value : jj_SEL "BeanServerModel" yn_MO_value := fun _ _ h => h _ wp_58
theorem se_MO_MO_unitValue : jj_SEL "BeanServerModel" yn_MO_unitValue := fun _ _ h => h _ wp_59
theorem se_MO_MO_fits : jj_SEL "BeanServerModel" yn_MO_fits := fun _ _ h => h _ wp_60
theorem se_MO_MO_matches : jj_SEL "BeanServerModel" yn_MO_matches := fun _ _ h => h _ wp_61
theorem se_MO_MO_spread : jj_SEL "BeanServerModel" yn_MO_spread := fun _ _ h => h _ wp_62
theorem se_MO_MO_property : jj_SEL "BeanServerModel" yn_MO_property := fun _ _ h => h _ wp_63
theorem se_MO_MO_watch : jj_SEL "BeanServerModel" yn_MO_watch := fun _ _ h => h _ wp_64
theorem se_MO_MO_isMonitor : jj_SEL "BeanServerModel" yn_MO_isMonitor := fun _ _ h => h _ wp_65
theorem se_MO_MO_observe1 : jj_SEL "BeanServerModel" yn_MO_observe1 := fun _ _ h => h _ wp_66
theorem se_MO_MO_count : jj_SEL "BeanServerModel" yn_MO_count := fun _ _ h => h _ wp_67
theorem se_MO_MO_gaugeOf : jj_SEL "BeanServerModel" yn_MO_gaugeOf := fun _ _ h => h _ wp_68
theorem se_SB_AS_ensureCapacityInternal : jj_SEL "java/lang/StringBuilder" yn_AS_ensureCapacityInternal := fun _ _ h => h _ wx_0
theorem se_SB_AS_newCapacity : jj_SEL "java/lang/StringBuilder" yn_AS_newCapacity := fun _ _ h => h _ wx_1
theorem se_SB_AS_inflate : jj_SEL "java/lang/StringBuilder" yn_AS_inflate := fun _ _ h => h _ wx_2
theorem se_SB_AS_shift : jj_SEL "java/lang/StringBuilder" yn_AS_shift := fun _ _ h => h _ wx_3
end
section
def tb_SB_init : jjTab := [(0, .aload_n 0, 1, 0, 0),
  (1, .bipush 16, 3, 0, 16),
  (3, .invokespecial 1, 6, 0, 0),
  (6, .return_, 7, 0, 0)]
theorem tg_SB_init : jj_good yb_SB_init 1 tb_SB_init := by unfold jj_good; decide +kernel
def tb_AS_init : jjTab := [(0, .aload_n 0, 1, 0, 0),
  (1, .invokespecial 3, 4, 0, 0),
  (4, .getstatic 18, 7, 0, 0),
  (7, .ifCond .eq 18, 10, 25, 0),
  (10, .aload_n 0, 11, 0, 0),
  (11, .iload_n 1, 12, 0, 0),
  (12, .newarray .byte, 14, 0, 0),
  (14, .putfield 15, 17, 0, 0),
  (17, .aload_n 0, 18, 0, 0),
  (18, .iconst 0, 19, 0, 0),
  (19, .putfield 22, 22, 0, 0),
  (22, .goto 16, 25, 38, 0),
  (25, .aload_n 0, 26, 0, 0),
  (26, .iload_n 1, 27, 0, 0),
  (27, .invokestatic 26, 30, 0, 0),
  (30, .putfield 15, 33, 0, 0),
  (33, .aload_n 0, 34, 0, 0),
  (34, .iconst 1, 35, 0, 1),
  (35, .putfield 22, 38, 0, 0),
  (38, .return_, 39, 0, 0)]
theorem tg_AS_init : jj_good yb_AS_init 2 tb_AS_init := by unfold jj_good; decide +kernel
def tb_SB_length : jjTab := [(0, .aload_n 0, 1, 0, 0),
  (1, .invokespecial 343, 4, 0, 0),
  (4, .ireturn, 5, 0, 0)]
theorem tg_SB_length : jj_good yb_SB_length 1 tb_SB_length := by unfold jj_good; decide +kernel
def tb_AS_length : jjTab := [(0, .aload_n 0, 1, 0, 0),
  (1, .getfield 79, 4, 0, 0),
  (4, .ireturn, 5, 0, 0)]
theorem tg_AS_length : jj_good yb_AS_length 1 tb_AS_length := by unfold jj_good; decide +kernel
def tb_SB_append : jjTab := [(0, .aload_n 0, 1, 0, 0),
  (1, .iload_n 1, 2, 0, 0),
  (2, .invokespecial 50, 5, 0, 0),
  (5, .pop, 6, 0, 0),
  (6, .aload_n 0, 7, 0, 0),
  (7, .areturn, 8, 0, 0)]
theorem tg_SB_append : jj_good yb_SB_append 2 tb_SB_append := by unfold jj_good; decide +kernel
def tb_AS_append : jjTab := [(0, .aload_n 0, 1, 0, 0),
  (1, .aload_n 0, 2, 0, 0),
  (2, .getfield 79, 5, 0, 0),
  (5, .iconst 1, 6, 0, 1),
  (6, .iadd, 7, 0, 0),
  (7, .invokevirtual 100, 10, 0, 0),
  (10, .aload_n 0, 11, 0, 0),
  (11, .invokevirtual 83, 14, 0, 0),
  (14, .ifCond .eq 31, 17, 45, 0),
  (17, .iload_n 1, 18, 0, 0),
  (18, .invokestatic 191, 21, 0, 0),
  (21, .ifCond .eq 24, 24, 45, 0),
  (24, .aload_n 0, 25, 0, 0),
  (25, .getfield 15, 28, 0, 0),
  (28, .aload_n 0, 29, 0, 0),
  (29, .dup, 30, 0, 0),
  (30, .getfield 79, 33, 0, 0),
  (33, .dup_x1, 34, 0, 0),
  (34, .iconst 1, 35, 0, 1),
  (35, .iadd, 36, 0, 0),
  (36, .putfield 79, 39, 0, 0),
  (39, .iload_n 1, 40, 0, 0),
  (40, .i2b, 41, 0, 0),
  (41, .bastore, 42, 0, 0),
  (42, .goto 33, 45, 75, 0),
  (45, .aload_n 0, 46, 0, 0),
  (46, .invokevirtual 83, 49, 0, 0),
  (49, .ifCond .eq 7, 52, 56, 0),
  (52, .aload_n 0, 53, 0, 0),
  (53, .invokevirtual 195, 56, 0, 0),
  (56, .aload_n 0, 57, 0, 0),
  (57, .getfield 15, 60, 0, 0),
  (60, .aload_n 0, 61, 0, 0),
  (61, .dup, 62, 0, 0),
  (62, .getfield 79, 65, 0, 0),
  (65, .dup_x1, 66, 0, 0),
  (66, .iconst 1, 67, 0, 1),
  (67, .iadd, 68, 0, 0),
  (68, .putfield 79, 71, 0, 0),
  (71, .iload_n 1, 72, 0, 0),
  (72, .invokestatic 197, 75, 0, 0),
  (75, .aload_n 0, 76, 0, 0),
  (76, .areturn, 77, 0, 0)]
theorem tg_AS_append : jj_good yb_AS_append 2 tb_AS_append := by unfold jj_good; decide +kernel
def tb_AS_ensureCapacityInternal : jjTab := [(0, .aload_n 0, 1, 0, 0),
  (1, .getfield 15, 4, 0, 0),
  (4, .arraylength, 5, 0, 0),
  (5, .aload_n 0, 6, 0, 0),
  (6, .getfield 22, 9, 0, 0),
  (9, .ishr, 10, 0, 0),
  (10, .istore_n 2, 11, 0, 0),
  (11, .iload_n 1, 12, 0, 0),
  (12, .iload_n 2, 13, 0, 0),
  (13, .isub, 14, 0, 0),
  (14, .ifCond .le 24, 17, 38, 0),
  (17, .aload_n 0, 18, 0, 0),
  (18, .aload_n 0, 19, 0, 0),
  (19, .getfield 15, 22, 0, 0),
  (22, .aload_n 0, 23, 0, 0),
  (23, .iload_n 1, 24, 0, 0),
  (24, .invokevirtual 104, 27, 0, 0),
  (27, .aload_n 0, 28, 0, 0),
  (28, .getfield 22, 31, 0, 0),
  (31, .ishl, 32, 0, 0),
  (32, .invokestatic 108, 35, 0, 0),
  (35, .putfield 15, 38, 0, 0),
  (38, .return_, 39, 0, 0)]
theorem tg_AS_ensureCapacityInternal : jj_good yb_AS_ensureCapacityInternal 3 tb_AS_ensureCapacityInternal := by unfold jj_good; decide +kernel
def tb_AS_newCapacity : jjTab := [(0, .aload_n 0, 1, 0, 0),
  (1, .getfield 15, 4, 0, 0),
  (4, .arraylength, 5, 0, 0),
  (5, .istore_n 2, 6, 0, 0),
  (6, .iload_n 1, 7, 0, 0),
  (7, .aload_n 0, 8, 0, 0),
  (8, .getfield 22, 11, 0, 0),
  (11, .ishl, 12, 0, 0),
  (12, .istore_n 3, 13, 0, 0),
  (13, .iload_n 3, 14, 0, 0),
  (14, .iload_n 2, 15, 0, 0),
  (15, .isub, 16, 0, 0),
  (16, .istore 4, 18, 0, 0),
  (18, .iload_n 2, 19, 0, 0),
  (19, .iload 4, 21, 0, 0),
  (21, .iload_n 2, 22, 0, 0),
  (22, .iconst 2, 23, 0, 2),
  (23, .aload_n 0, 24, 0, 0),
  (24, .getfield 22, 27, 0, 0),
  (27, .ishl, 28, 0, 0),
  (28, .iadd, 29, 0, 0),
  (29, .invokestatic 114, 32, 0, 0),
  (32, .istore 5, 34, 0, 0),
  (34, .iload 5, 36, 0, 0),
  (36, .ldc 39, 38, 0, 0),
  (38, .if_icmp .ne 13, 41, 51, 0),
  (41, .new 120, 44, 0, 0),
  (44, .dup, 45, 0, 0),
  (45, .ldc 122, 47, 0, 0),
  (47, .invokespecial 124, 50, 0, 0),
  (50, .athrow, 51, 0, 0),
  (51, .iload 5, 53, 0, 0),
  (53, .aload_n 0, 54, 0, 0),
  (54, .getfield 22, 57, 0, 0),
  (57, .ishr, 58, 0, 0),
  (58, .ireturn, 59, 0, 0)]
theorem tg_AS_newCapacity : jj_good yb_AS_newCapacity 6 tb_AS_newCapacity := by unfold jj_good; decide +kernel
def tb_AP_newLength : jjTab := [(0, .iload_n 0, 1, 0, 0),
  (1, .iload_n 1, 2, 0, 0),
  (2, .iload_n 2, 3, 0, 0),
  (3, .invokestatic 194, 6, 0, 0),
  (6, .iadd, 7, 0, 0),
  (7, .istore_n 3, 8, 0, 0),
  (8, .iconst 0, 9, 0, 0),
  (9, .iload_n 3, 10, 0, 0),
  (10, .if_icmp .ge 11, 13, 21, 0),
  (13, .iload_n 3, 14, 0, 0),
  (14, .ldc 200, 16, 0, 0),
  (16, .if_icmp .gt 5, 19, 21, 0),
  (19, .iload_n 3, 20, 0, 0),
  (20, .ireturn, 21, 0, 0),
  (21, .iload_n 0, 22, 0, 0),
  (22, .iload_n 1, 23, 0, 0),
  (23, .invokestatic 201, 26, 0, 0),
  (26, .ireturn, 27, 0, 0)]
theorem tg_AP_newLength : jj_good yb_AP_newLength 4 tb_AP_newLength := by unfold jj_good; decide +kernel
def tb_AR_copyOf : jjTab := [(0, .iload_n 1, 1, 0, 0),
  (1, .aload_n 0, 2, 0, 0),
  (2, .arraylength, 3, 0, 0),
  (3, .if_icmp .ne 11, 6, 14, 0),
  (6, .aload_n 0, 7, 0, 0),
  (7, .invokevirtual 310, 10, 0, 0),
  (10, .checkcast 311, 13, 0, 0),
  (13, .areturn, 14, 0, 0),
  (14, .iload_n 1, 15, 0, 0),
  (15, .newarray .byte, 17, 0, 0),
  (17, .astore_n 2, 18, 0, 0),
  (18, .aload_n 0, 19, 0, 0),
  (19, .iconst 0, 20, 0, 0),
  (20, .aload_n 2, 21, 0, 0),
  (21, .iconst 0, 22, 0, 0),
  (22, .aload_n 0, 23, 0, 0),
  (23, .arraylength, 24, 0, 0),
  (24, .iload_n 1, 25, 0, 0),
  (25, .invokestatic 304, 28, 0, 0),
  (28, .invokestatic 150, 31, 0, 0),
  (31, .aload_n 2, 32, 0, 0),
  (32, .areturn, 33, 0, 0)]
theorem tg_AR_copyOf : jj_good yb_AR_copyOf 3 tb_AR_copyOf := by unfold jj_good; decide +kernel
def tb_AS_isLatin1 : jjTab := [(0, .getstatic 18, 3, 0, 0),
  (3, .ifCond .eq 14, 6, 17, 0),
  (6, .aload_n 0, 7, 0, 0),
  (7, .getfield 22, 10, 0, 0),
  (10, .ifCond .ne 7, 13, 17, 0),
  (13, .iconst 1, 14, 0, 1),
  (14, .goto 4, 17, 18, 0),
  (17, .iconst 0, 18, 0, 0),
  (18, .ireturn, 19, 0, 0)]
theorem tg_AS_isLatin1 : jj_good yb_AS_isLatin1 1 tb_AS_isLatin1 := by unfold jj_good; decide +kernel
def tb_SL_canEncode1 : jjTab := [(0, .iload_n 0, 1, 0, 0),
  (1, .sipush 255, 4, 0, 255),
  (4, .if_icmp .gt 7, 7, 11, 0),
  (7, .iconst 1, 8, 0, 1),
  (8, .goto 4, 11, 12, 0),
  (11, .iconst 0, 12, 0, 0),
  (12, .ireturn, 13, 0, 0)]
theorem tg_SL_canEncode1 : jj_good yb_SL_canEncode1 1 tb_SL_canEncode1 := by unfold jj_good; decide +kernel
def tb_SB_toString : jjTab := [(0, .new 18, 3, 0, 0),
  (3, .dup, 4, 0, 0),
  (4, .aload_n 0, 5, 0, 0),
  (5, .invokespecial 137, 8, 0, 0),
  (8, .areturn, 9, 0, 0)]
theorem tg_SB_toString : jj_good yb_SB_toString 1 tb_SB_toString := by unfold jj_good; decide +kernel
def tb_ST_init1 : jjTab := [(0, .aload_n 0, 1, 0, 0),
  (1, .aload_n 1, 2, 0, 0),
  (2, .aconst_null, 3, 0, 0),
  (3, .invokespecial 489, 6, 0, 0),
  (6, .return_, 7, 0, 0)]
theorem tg_ST_init1 : jj_good yb_ST_init1 2 tb_ST_init1 := by unfold jj_good; decide +kernel
def tb_ST_init2 : jjTab := [(0, .aload_n 0, 1, 0, 0),
  (1, .invokespecial 1, 4, 0, 0),
  (4, .aload_n 1, 5, 0, 0),
  (5, .invokevirtual 552, 8, 0, 0),
  (8, .astore_n 3, 9, 0, 0),
  (9, .aload_n 1, 10, 0, 0),
  (10, .invokevirtual 549, 13, 0, 0),
  (13, .istore 4, 15, 0, 0),
  (15, .aload_n 1, 16, 0, 0),
  (16, .invokevirtual 1047, 19, 0, 0),
  (19, .ifCond .eq 22, 22, 41, 0),
  (22, .aload_n 0, 23, 0, 0),
  (23, .iconst 0, 24, 0, 0),
  (24, .putfield 15, 27, 0, 0),
  (27, .aload_n 0, 28, 0, 0),
  (28, .aload_n 3, 29, 0, 0),
  (29, .iconst 0, 30, 0, 0),
  (30, .iload 4, 32, 0, 0),
  (32, .invokestatic 54, 35, 0, 0),
  (35, .putfield 9, 38, 0, 0),
  (38, .goto 59, 41, 97, 0),
  (41, .getstatic 38, 44, 0, 0),
  (44, .ifCond .eq 35, 47, 79, 0),
  (47, .aload_n 1, 48, 0, 0),
  (48, .getfield 1048, 51, 0, 0),
  (51, .ifCond .eq 28, 54, 79, 0),
  (54, .aload_n 0, 55, 0, 0),
  (55, .aload_n 3, 56, 0, 0),
  (56, .iconst 0, 57, 0, 0),
  (57, .iload 4, 59, 0, 0),
  (59, .invokestatic 1051, 62, 0, 0),
  (62, .putfield 9, 65, 0, 0),
  (65, .aload_n 0, 66, 0, 0),
  (66, .aload_n 0, 67, 0, 0),
  (67, .getfield 9, 70, 0, 0),
  (70, .iload 4, 72, 0, 0),
  (72, .invokestatic 47, 75, 0, 0),
  (75, .putfield 15, 78, 0, 0),
  (78, .return_, 79, 0, 0),
  (79, .aload_n 0, 80, 0, 0),
  (80, .iconst 1, 81, 0, 1),
  (81, .putfield 15, 84, 0, 0),
  (84, .aload_n 0, 85, 0, 0),
  (85, .aload_n 3, 86, 0, 0),
  (86, .iconst 0, 87, 0, 0),
  (87, .iload 4, 89, 0, 0),
  (89, .iconst 1, 90, 0, 1),
  (90, .ishl, 91, 0, 0),
  (91, .invokestatic 54, 94, 0, 0),
  (94, .putfield 9, 97, 0, 0),
  (97, .return_, 98, 0, 0)]
theorem tg_ST_init2 : jj_good yb_ST_init2 5 tb_ST_init2 := by unfold jj_good; decide +kernel
def tb_AS_getValue : jjTab := [(0, .aload_n 0, 1, 0, 0),
  (1, .getfield 15, 4, 0, 0),
  (4, .areturn, 5, 0, 0)]
theorem tg_AS_getValue : jj_good yb_AS_getValue 1 tb_AS_getValue := by unfold jj_good; decide +kernel
def tb_AR_copyOfRange : jjTab := [(0, .iload_n 1, 1, 0, 0),
  (1, .ifCond .ne 9, 4, 10, 0),
  (4, .iload_n 2, 5, 0, 0),
  (5, .aload_n 0, 6, 0, 0),
  (6, .arraylength, 7, 0, 0),
  (7, .if_icmp .eq 10, 10, 17, 0),
  (10, .aload_n 0, 11, 0, 0),
  (11, .iload_n 1, 12, 0, 0),
  (12, .iload_n 2, 13, 0, 0),
  (13, .invokestatic 339, 16, 0, 0),
  (16, .areturn, 17, 0, 0),
  (17, .aload_n 0, 18, 0, 0),
  (18, .invokevirtual 310, 21, 0, 0),
  (21, .checkcast 311, 24, 0, 0),
  (24, .areturn, 25, 0, 0)]
theorem tg_AR_copyOfRange : jj_good yb_AR_copyOfRange 3 tb_AR_copyOfRange := by unfold jj_good; decide +kernel
def tb_AR_copyOfRangeByte : jjTab := [(0, .iload_n 1, 1, 0, 0),
  (1, .iload_n 2, 2, 0, 0),
  (2, .invokestatic 343, 5, 0, 0),
  (5, .iload_n 2, 6, 0, 0),
  (6, .iload_n 1, 7, 0, 0),
  (7, .isub, 8, 0, 0),
  (8, .istore_n 3, 9, 0, 0),
  (9, .iload_n 3, 10, 0, 0),
  (10, .newarray .byte, 12, 0, 0),
  (12, .astore 4, 14, 0, 0),
  (14, .aload_n 0, 15, 0, 0),
  (15, .iload_n 1, 16, 0, 0),
  (16, .aload 4, 18, 0, 0),
  (18, .iconst 0, 19, 0, 0),
  (19, .aload_n 0, 20, 0, 0),
  (20, .arraylength, 21, 0, 0),
  (21, .iload_n 1, 22, 0, 0),
  (22, .isub, 23, 0, 0),
  (23, .iload_n 3, 24, 0, 0),
  (24, .invokestatic 304, 27, 0, 0),
  (27, .invokestatic 150, 30, 0, 0),
  (30, .aload 4, 32, 0, 0),
  (32, .areturn, 33, 0, 0)]
theorem tg_AR_copyOfRangeByte : jj_good yb_AR_copyOfRangeByte 5 tb_AR_copyOfRangeByte := by unfold jj_good; decide +kernel
def tb_AR_checkLength : jjTab := [(0, .iload_n 1, 1, 0, 0),
  (1, .iload_n 0, 2, 0, 0),
  (2, .if_icmp .ge 35, 5, 37, 0),
  (5, .new 43, 8, 0, 0),
  (8, .dup, 9, 0, 0),
  (9, .new 45, 12, 0, 0),
  (12, .dup, 13, 0, 0),
  (13, .invokespecial 47, 16, 0, 0),
  (16, .iload_n 0, 17, 0, 0),
  (17, .invokevirtual 54, 20, 0, 0),
  (20, .ldc_w 337, 23, 0, 0),
  (23, .invokevirtual 50, 26, 0, 0),
  (26, .iload_n 1, 27, 0, 0),
  (27, .invokevirtual 54, 30, 0, 0),
  (30, .invokevirtual 61, 33, 0, 0),
  (33, .invokespecial 65, 36, 0, 0),
  (36, .athrow, 37, 0, 0),
  (37, .return_, 38, 0, 0)]
theorem tg_AR_checkLength : jj_good yb_AR_checkLength 2 tb_AR_checkLength := by unfold jj_good; decide +kernel
def tb_SB_setLength : jjTab := [(0, .aload_n 0, 1, 0, 0),
  (1, .iload_n 1, 2, 0, 0),
  (2, .invokespecial 333, 5, 0, 0),
  (5, .return_, 6, 0, 0)]
theorem tg_SB_setLength : jj_good yb_SB_setLength 2 tb_SB_setLength := by unfold jj_good; decide +kernel
def tb_AS_setLength : jjTab := [(0, .iload_n 1, 1, 0, 0),
  (1, .ifCond .ge 12, 4, 13, 0),
  (4, .new 129, 7, 0, 0),
  (7, .dup, 8, 0, 0),
  (8, .iload_n 1, 9, 0, 0),
  (9, .invokespecial 131, 12, 0, 0),
  (12, .athrow, 13, 0, 0),
  (13, .aload_n 0, 14, 0, 0),
  (14, .iload_n 1, 15, 0, 0),
  (15, .invokevirtual 100, 18, 0, 0),
  (18, .aload_n 0, 19, 0, 0),
  (19, .getfield 79, 22, 0, 0),
  (22, .iload_n 1, 23, 0, 0),
  (23, .if_icmp .ge 40, 26, 63, 0),
  (26, .aload_n 0, 27, 0, 0),
  (27, .invokevirtual 83, 30, 0, 0),
  (30, .ifCond .eq 18, 33, 48, 0),
  (33, .aload_n 0, 34, 0, 0),
  (34, .getfield 15, 37, 0, 0),
  (37, .aload_n 0, 38, 0, 0),
  (38, .getfield 79, 41, 0, 0),
  (41, .iload_n 1, 42, 0, 0),
  (42, .invokestatic 133, 45, 0, 0),
  (45, .goto 31, 48, 76, 0),
  (48, .aload_n 0, 49, 0, 0),
  (49, .getfield 15, 52, 0, 0),
  (52, .aload_n 0, 53, 0, 0),
  (53, .getfield 79, 56, 0, 0),
  (56, .iload_n 1, 57, 0, 0),
  (57, .invokestatic 137, 60, 0, 0),
  (60, .goto 16, 63, 76, 0),
  (63, .aload_n 0, 64, 0, 0),
  (64, .getfield 79, 67, 0, 0),
  (67, .iload_n 1, 68, 0, 0),
  (68, .if_icmp .le 8, 71, 76, 0),
  (71, .aload_n 0, 72, 0, 0),
  (72, .iconst 1, 73, 0, 1),
  (73, .putfield 73, 76, 0, 0),
  (76, .aload_n 0, 77, 0, 0),
  (77, .iload_n 1, 78, 0, 0),
  (78, .putfield 79, 81, 0, 0),
  (81, .return_, 82, 0, 0)]
theorem tg_AS_setLength : jj_good yb_AS_setLength 2 tb_AS_setLength := by unfold jj_good; decide +kernel
def tb_ST_length : jjTab := [(0, .aload_n 0, 1, 0, 0),
  (1, .getfield 9, 4, 0, 0),
  (4, .arraylength, 5, 0, 0),
  (5, .aload_n 0, 6, 0, 0),
  (6, .invokevirtual 335, 9, 0, 0),
  (9, .ishr, 10, 0, 0),
  (10, .ireturn, 11, 0, 0)]
theorem tg_ST_length : jj_good yb_ST_length 1 tb_ST_length := by unfold jj_good; decide +kernel
def tb_ST_coder : jjTab := [(0, .getstatic 38, 3, 0, 0),
  (3, .ifCond .eq 10, 6, 13, 0),
  (6, .aload_n 0, 7, 0, 0),
  (7, .getfield 15, 10, 0, 0),
  (10, .goto 4, 13, 14, 0),
  (13, .iconst 1, 14, 0, 1),
  (14, .ireturn, 15, 0, 0)]
theorem tg_ST_coder : jj_good yb_ST_coder 1 tb_ST_coder := by unfold jj_good; decide +kernel
def tb_ST_charAt : jjTab := [(0, .aload_n 0, 1, 0, 0),
  (1, .invokevirtual 492, 4, 0, 0),
  (4, .ifCond .eq 12, 7, 16, 0),
  (7, .aload_n 0, 8, 0, 0),
  (8, .getfield 9, 11, 0, 0),
  (11, .iload_n 1, 12, 0, 0),
  (12, .invokestatic 495, 15, 0, 0),
  (15, .ireturn, 16, 0, 0),
  (16, .aload_n 0, 17, 0, 0),
  (17, .getfield 9, 20, 0, 0),
  (20, .iload_n 1, 21, 0, 0),
  (21, .invokestatic 498, 24, 0, 0),
  (24, .ireturn, 25, 0, 0)]
theorem tg_ST_charAt : jj_good yb_ST_charAt 2 tb_ST_charAt := by unfold jj_good; decide +kernel
def tb_ST_isLatin1 : jjTab := [(0, .getstatic 38, 3, 0, 0),
  (3, .ifCond .eq 14, 6, 17, 0),
  (6, .aload_n 0, 7, 0, 0),
  (7, .getfield 15, 10, 0, 0),
  (10, .ifCond .ne 7, 13, 17, 0),
  (13, .iconst 1, 14, 0, 1),
  (14, .goto 4, 17, 18, 0),
  (17, .iconst 0, 18, 0, 0),
  (18, .ireturn, 19, 0, 0)]
theorem tg_ST_isLatin1 : jj_good yb_ST_isLatin1 1 tb_ST_isLatin1 := by unfold jj_good; decide +kernel
def tb_SL_charAt : jjTab := [(0, .iload_n 1, 1, 0, 0),
  (1, .aload_n 0, 2, 0, 0),
  (2, .arraylength, 3, 0, 0),
  (3, .invokestatic 9, 6, 0, 0),
  (6, .aload_n 0, 7, 0, 0),
  (7, .iload_n 1, 8, 0, 0),
  (8, .baload, 9, 0, 0),
  (9, .sipush 255, 12, 0, 255),
  (12, .iand, 13, 0, 0),
  (13, .i2c, 14, 0, 0),
  (14, .ireturn, 15, 0, 0)]
theorem tg_SL_charAt : jj_good yb_SL_charAt 2 tb_SL_charAt := by unfold jj_good; decide +kernel
def tb_ST_checkIndex : jjTab := [(0, .iload_n 0, 1, 0, 0),
  (1, .iload_n 1, 2, 0, 0),
  (2, .getstatic 1053, 5, 0, 0),
  (5, .invokestatic 1059, 8, 0, 0),
  (8, .pop, 9, 0, 0),
  (9, .return_, 10, 0, 0)]
theorem tg_ST_checkIndex : jj_good yb_ST_checkIndex 2 tb_ST_checkIndex := by unfold jj_good; decide +kernel
def tb_PR_checkIndex : jjTab := [(0, .iload_n 0, 1, 0, 0),
  (1, .ifCond .lt 8, 4, 9, 0),
  (4, .iload_n 0, 5, 0, 0),
  (5, .iload_n 1, 6, 0, 0),
  (6, .if_icmp .lt 10, 9, 16, 0),
  (9, .aload_n 2, 10, 0, 0),
  (10, .iload_n 0, 11, 0, 0),
  (11, .iload_n 1, 12, 0, 0),
  (12, .invokestatic 95, 15, 0, 0),
  (15, .athrow, 16, 0, 0),
  (16, .iload_n 0, 17, 0, 0),
  (17, .ireturn, 18, 0, 0)]
theorem tg_PR_checkIndex : jj_good yb_PR_checkIndex 3 tb_PR_checkIndex := by unfold jj_good; decide +kernel
def tb_ST_isEmpty : jjTab := [(0, .aload_n 0, 1, 0, 0),
  (1, .getfield 9, 4, 0, 0),
  (4, .arraylength, 5, 0, 0),
  (5, .ifCond .ne 7, 8, 12, 0),
  (8, .iconst 1, 9, 0, 1),
  (9, .goto 4, 12, 13, 0),
  (12, .iconst 0, 13, 0, 0),
  (13, .ireturn, 14, 0, 0)]
theorem tg_ST_isEmpty : jj_good yb_ST_isEmpty 1 tb_ST_isEmpty := by unfold jj_good; decide +kernel
def tb_MA_max : jjTab := [(0, .iload_n 0, 1, 0, 0),
  (1, .iload_n 1, 2, 0, 0),
  (2, .if_icmp .lt 7, 5, 9, 0),
  (5, .iload_n 0, 6, 0, 0),
  (6, .goto 4, 9, 10, 0),
  (9, .iload_n 1, 10, 0, 0),
  (10, .ireturn, 11, 0, 0)]
theorem tg_MA_max : jj_good yb_MA_max 2 tb_MA_max := by unfold jj_good; decide +kernel
def tb_MA_min : jjTab := [(0, .iload_n 0, 1, 0, 0),
  (1, .iload_n 1, 2, 0, 0),
  (2, .if_icmp .gt 7, 5, 9, 0),
  (5, .iload_n 0, 6, 0, 0),
  (6, .goto 4, 9, 10, 0),
  (9, .iload_n 1, 10, 0, 0),
  (10, .ireturn, 11, 0, 0)]
theorem tg_MA_min : jj_good yb_MA_min 2 tb_MA_min := by unfold jj_good; decide +kernel
def tb_ST_equals : jjTab := [(0, .aload_n 0, 1, 0, 0),
  (1, .aload_n 1, 2, 0, 0),
  (2, .if_acmp .ne 5, 5, 7, 0),
  (5, .iconst 1, 6, 0, 1),
  (6, .ireturn, 7, 0, 0),
  (7, .aload_n 1, 8, 0, 0),
  (8, .instanceof 10, 11, 0, 0),
  (11, .ifCond .eq 43, 14, 54, 0),
  (14, .aload_n 1, 15, 0, 0),
  (15, .checkcast 10, 18, 0, 0),
  (18, .astore_n 2, 19, 0, 0),
  (19, .getstatic 38, 22, 0, 0),
  (22, .ifCond .eq 14, 25, 36, 0),
  (25, .aload_n 0, 26, 0, 0),
  (26, .getfield 15, 29, 0, 0),
  (29, .aload_n 2, 30, 0, 0),
  (30, .getfield 15, 33, 0, 0),
  (33, .if_icmp .ne 21, 36, 54, 0),
  (36, .aload_n 0, 37, 0, 0),
  (37, .getfield 9, 40, 0, 0),
  (40, .aload_n 2, 41, 0, 0),
  (41, .getfield 9, 44, 0, 0),
  (44, .invokestatic 541, 47, 0, 0),
  (47, .ifCond .eq 7, 50, 54, 0),
  (50, .iconst 1, 51, 0, 1),
  (51, .goto 4, 54, 55, 0),
  (54, .iconst 0, 55, 0, 0),
  (55, .ireturn, 56, 0, 0)]
theorem tg_ST_equals : jj_good yb_ST_equals 3 tb_ST_equals := by unfold jj_good; decide +kernel
def tb_SL_equals : jjTab := [(0, .aload_n 0, 1, 0, 0),
  (1, .arraylength, 2, 0, 0),
  (2, .aload_n 1, 3, 0, 0),
  (3, .arraylength, 4, 0, 0),
  (4, .if_icmp .ne 30, 7, 34, 0),
  (7, .iconst 0, 8, 0, 0),
  (8, .istore_n 2, 9, 0, 0),
  (9, .iload_n 2, 10, 0, 0),
  (10, .aload_n 0, 11, 0, 0),
  (11, .arraylength, 12, 0, 0),
  (12, .if_icmp .ge 20, 15, 32, 0),
  (15, .aload_n 0, 16, 0, 0),
  (16, .iload_n 2, 17, 0, 0),
  (17, .baload, 18, 0, 0),
  (18, .aload_n 1, 19, 0, 0),
  (19, .iload_n 2, 20, 0, 0),
  (20, .baload, 21, 0, 0),
  (21, .if_icmp .eq 5, 24, 26, 0),
  (24, .iconst 0, 25, 0, 0),
  (25, .ireturn, 26, 0, 0),
  (26, .iinc 2 1, 29, 0, 1),
  (29, .goto (-20), 32, 9, 0),
  (32, .iconst 1, 33, 0, 1),
  (33, .ireturn, 34, 0, 0),
  (34, .iconst 0, 35, 0, 0),
  (35, .ireturn, 36, 0, 0)]
theorem tg_SL_equals : jj_good yb_SL_equals 3 tb_SL_equals := by unfold jj_good; decide +kernel
def tb_SB_charAt : jjTab := [(0, .aload_n 0, 1, 0, 0),
  (1, .iload_n 1, 2, 0, 0),
  (2, .invokespecial 329, 5, 0, 0),
  (5, .ireturn, 6, 0, 0)]
theorem tg_SB_charAt : jj_good yb_SB_charAt 2 tb_SB_charAt := by unfold jj_good; decide +kernel
def tb_AS_charAt : jjTab := [(0, .aload_n 0, 1, 0, 0),
  (1, .getfield 22, 4, 0, 0),
  (4, .istore_n 2, 5, 0, 0),
  (5, .aload_n 0, 6, 0, 0),
  (6, .getfield 15, 9, 0, 0),
  (9, .astore_n 3, 10, 0, 0),
  (10, .aload_n 0, 11, 0, 0),
  (11, .getfield 79, 14, 0, 0),
  (14, .aload_n 3, 15, 0, 0),
  (15, .arraylength, 16, 0, 0),
  (16, .iload_n 2, 17, 0, 0),
  (17, .ishr, 18, 0, 0),
  (18, .invokestatic 138, 21, 0, 0),
  (21, .istore 4, 23, 0, 0),
  (23, .iload_n 1, 24, 0, 0),
  (24, .iload 4, 26, 0, 0),
  (26, .invokestatic 144, 29, 0, 0),
  (29, .iload_n 2, 30, 0, 0),
  (30, .ifCond .ne 12, 33, 42, 0),
  (33, .aload_n 3, 34, 0, 0),
  (34, .iload_n 1, 35, 0, 0),
  (35, .baload, 36, 0, 0),
  (36, .sipush 255, 39, 0, 255),
  (39, .iand, 40, 0, 0),
  (40, .i2c, 41, 0, 0),
  (41, .ireturn, 42, 0, 0),
  (42, .aload_n 3, 43, 0, 0),
  (43, .iload_n 1, 44, 0, 0),
  (44, .invokestatic 148, 47, 0, 0),
  (47, .ireturn, 48, 0, 0)]
theorem tg_AS_charAt : jj_good yb_AS_charAt 5 tb_AS_charAt := by unfold jj_good; decide +kernel
def tb_SB_deleteCharAt : jjTab := [(0, .aload_n 0, 1, 0, 0),
  (1, .iload_n 1, 2, 0, 0),
  (2, .invokespecial 72, 5, 0, 0),
  (5, .pop, 6, 0, 0),
  (6, .aload_n 0, 7, 0, 0),
  (7, .areturn, 8, 0, 0)]
theorem tg_SB_deleteCharAt : jj_good yb_SB_deleteCharAt 2 tb_SB_deleteCharAt := by unfold jj_good; decide +kernel
def tb_AS_deleteCharAt : jjTab := [(0, .iload_n 1, 1, 0, 0),
  (1, .aload_n 0, 2, 0, 0),
  (2, .getfield 79, 5, 0, 0),
  (5, .invokestatic 144, 8, 0, 0),
  (8, .aload_n 0, 9, 0, 0),
  (9, .iload_n 1, 10, 0, 0),
  (10, .iconst 1, 11, 0, 1),
  (11, .iadd, 12, 0, 0),
  (12, .iconst (-1), 13, 0, (-1)),
  (13, .invokevirtual 283, 16, 0, 0),
  (16, .aload_n 0, 17, 0, 0),
  (17, .dup, 18, 0, 0),
  (18, .getfield 79, 21, 0, 0),
  (21, .iconst 1, 22, 0, 1),
  (22, .isub, 23, 0, 0),
  (23, .putfield 79, 26, 0, 0),
  (26, .aload_n 0, 27, 0, 0),
  (27, .iconst 1, 28, 0, 1),
  (28, .putfield 73, 31, 0, 0),
  (31, .aload_n 0, 32, 0, 0),
  (32, .areturn, 33, 0, 0)]
theorem tg_AS_deleteCharAt : jj_good yb_AS_deleteCharAt 2 tb_AS_deleteCharAt := by unfold jj_good; decide +kernel
def tb_AS_shift : jjTab := [(0, .aload_n 0, 1, 0, 0),
  (1, .getfield 15, 4, 0, 0),
  (4, .iload_n 1, 5, 0, 0),
  (5, .aload_n 0, 6, 0, 0),
  (6, .getfield 22, 9, 0, 0),
  (9, .ishl, 10, 0, 0),
  (10, .aload_n 0, 11, 0, 0),
  (11, .getfield 15, 14, 0, 0),
  (14, .iload_n 1, 15, 0, 0),
  (15, .iload_n 2, 16, 0, 0),
  (16, .iadd, 17, 0, 0),
  (17, .aload_n 0, 18, 0, 0),
  (18, .getfield 22, 21, 0, 0),
  (21, .ishl, 22, 0, 0),
  (22, .aload_n 0, 23, 0, 0),
  (23, .getfield 79, 26, 0, 0),
  (26, .iload_n 1, 27, 0, 0),
  (27, .isub, 28, 0, 0),
  (28, .aload_n 0, 29, 0, 0),
  (29, .getfield 22, 32, 0, 0),
  (32, .ishl, 33, 0, 0),
  (33, .invokestatic 309, 36, 0, 0),
  (36, .return_, 37, 0, 0)]
theorem tg_AS_shift : jj_good yb_AS_shift 3 tb_AS_shift := by unfold jj_good; decide +kernel
def tb_MA_floorMod : jjTab := [(0, .iload_n 0, 1, 0, 0),
  (1, .iload_n 1, 2, 0, 0),
  (2, .irem, 3, 0, 0),
  (3, .istore_n 2, 4, 0, 0),
  (4, .iload_n 0, 5, 0, 0),
  (5, .iload_n 1, 6, 0, 0),
  (6, .ixor, 7, 0, 0),
  (7, .ifCond .ge 11, 10, 18, 0),
  (10, .iload_n 2, 11, 0, 0),
  (11, .ifCond .eq 7, 14, 18, 0),
  (14, .iload_n 2, 15, 0, 0),
  (15, .iload_n 1, 16, 0, 0),
  (16, .iadd, 17, 0, 0),
  (17, .ireturn, 18, 0, 0),
  (18, .iload_n 2, 19, 0, 0),
  (19, .ireturn, 20, 0, 0)]
theorem tg_MA_floorMod : jj_good yb_MA_floorMod 3 tb_MA_floorMod := by unfold jj_good; decide +kernel
def tb_ST_indexOf1 : jjTab := [(0, .aload_n 0, 1, 0, 0),
  (1, .iload_n 1, 2, 0, 0),
  (2, .iconst 0, 3, 0, 0),
  (3, .invokevirtual 633, 6, 0, 0),
  (6, .ireturn, 7, 0, 0)]
theorem tg_ST_indexOf1 : jj_good yb_ST_indexOf1 2 tb_ST_indexOf1 := by unfold jj_good; decide +kernel
def tb_ST_indexOf2 : jjTab := [(0, .aload_n 0, 1, 0, 0),
  (1, .invokevirtual 492, 4, 0, 0),
  (4, .ifCond .eq 19, 7, 23, 0),
  (7, .aload_n 0, 8, 0, 0),
  (8, .getfield 9, 11, 0, 0),
  (11, .iload_n 1, 12, 0, 0),
  (12, .iload_n 2, 13, 0, 0),
  (13, .aload_n 0, 14, 0, 0),
  (14, .invokevirtual 505, 17, 0, 0),
  (17, .invokestatic 637, 20, 0, 0),
  (20, .goto 16, 23, 36, 0),
  (23, .aload_n 0, 24, 0, 0),
  (24, .getfield 9, 27, 0, 0),
  (27, .iload_n 1, 28, 0, 0),
  (28, .iload_n 2, 29, 0, 0),
  (29, .aload_n 0, 30, 0, 0),
  (30, .invokevirtual 505, 33, 0, 0),
  (33, .invokestatic 640, 36, 0, 0),
  (36, .ireturn, 37, 0, 0)]
theorem tg_ST_indexOf2 : jj_good yb_ST_indexOf2 3 tb_ST_indexOf2 := by unfold jj_good; decide +kernel
def tb_SL_indexOf : jjTab := [(0, .iload_n 1, 1, 0, 0),
  (1, .invokestatic 88, 4, 0, 0),
  (4, .ifCond .ne 5, 7, 9, 0),
  (7, .iconst (-1), 8, 0, (-1)),
  (8, .ireturn, 9, 0, 0),
  (9, .iload_n 2, 10, 0, 0),
  (10, .iconst 0, 11, 0, 0),
  (11, .invokestatic 92, 14, 0, 0),
  (14, .istore_n 2, 15, 0, 0),
  (15, .iload_n 3, 16, 0, 0),
  (16, .aload_n 0, 17, 0, 0),
  (17, .arraylength, 18, 0, 0),
  (18, .invokestatic 38, 21, 0, 0),
  (21, .istore_n 3, 22, 0, 0),
  (22, .iload_n 2, 23, 0, 0),
  (23, .iload_n 3, 24, 0, 0),
  (24, .if_icmp .lt 5, 27, 29, 0),
  (27, .iconst (-1), 28, 0, (-1)),
  (28, .ireturn, 29, 0, 0),
  (29, .aload_n 0, 30, 0, 0),
  (30, .iload_n 1, 31, 0, 0),
  (31, .iload_n 2, 32, 0, 0),
  (32, .iload_n 3, 33, 0, 0),
  (33, .invokestatic 95, 36, 0, 0),
  (36, .ireturn, 37, 0, 0)]
theorem tg_SL_indexOf : jj_good yb_SL_indexOf 4 tb_SL_indexOf := by unfold jj_good; decide +kernel
def tb_SL_canEncode2 : jjTab := [(0, .iload_n 0, 1, 0, 0),
  (1, .ifCond .lt 14, 4, 15, 0),
  (4, .iload_n 0, 5, 0, 0),
  (5, .sipush 255, 8, 0, 255),
  (8, .if_icmp .gt 7, 11, 15, 0),
  (11, .iconst 1, 12, 0, 1),
  (12, .goto 4, 15, 16, 0),
  (15, .iconst 0, 16, 0, 0),
  (16, .ireturn, 17, 0, 0)]
theorem tg_SL_canEncode2 : jj_good yb_SL_canEncode2 1 tb_SL_canEncode2 := by unfold jj_good; decide +kernel
def tb_SL_indexOfChar : jjTab := [(0, .iload_n 1, 1, 0, 0),
  (1, .i2b, 2, 0, 0),
  (2, .istore 4, 4, 0, 0),
  (4, .iload_n 2, 5, 0, 0),
  (5, .istore 5, 7, 0, 0),
  (7, .iload 5, 9, 0, 0),
  (9, .iload_n 3, 10, 0, 0),
  (10, .if_icmp .ge 21, 13, 31, 0),
  (13, .aload_n 0, 14, 0, 0),
  (14, .iload 5, 16, 0, 0),
  (16, .baload, 17, 0, 0),
  (17, .iload 4, 19, 0, 0),
  (19, .if_icmp .ne 6, 22, 25, 0),
  (22, .iload 5, 24, 0, 0),
  (24, .ireturn, 25, 0, 0),
  (25, .iinc 5 1, 28, 0, 1),
  (28, .goto (-21), 31, 7, 0),
  (31, .iconst (-1), 32, 0, (-1)),
  (32, .ireturn, 33, 0, 0)]
theorem tg_SL_indexOfChar : jj_good yb_SL_indexOfChar 6 tb_SL_indexOfChar := by unfold jj_good; decide +kernel
end
section
def tb_BS_init : jjTab := [(0, .aload_n 0, 1, 0, 0),
  (1, .invokespecial 1, 4, 0, 0),
  (4, .aload_n 0, 5, 0, 0),
  (5, .new 7, 8, 0, 0),
  (8, .dup, 9, 0, 0),
  (9, .invokespecial 9, 12, 0, 0),
  (12, .putfield 10, 15, 0, 0),
  (15, .aload_n 0, 16, 0, 0),
  (16, .bipush 12, 18, 0, 12),
  (18, .anewarray 16, 21, 0, 0),
  (21, .putfield 18, 24, 0, 0),
  (24, .aload_n 0, 25, 0, 0),
  (25, .bipush 6, 27, 0, 6),
  (27, .anewarray 22, 30, 0, 0),
  (30, .putfield 24, 33, 0, 0),
  (33, .aload_n 0, 34, 0, 0),
  (34, .iconst 0, 35, 0, 0),
  (35, .putfield 28, 38, 0, 0),
  (38, .aload_n 0, 39, 0, 0),
  (39, .bipush 6, 41, 0, 6),
  (41, .anewarray 32, 44, 0, 0),
  (44, .putfield 34, 47, 0, 0),
  (47, .aload_n 0, 48, 0, 0),
  (48, .new 38, 51, 0, 0),
  (51, .dup, 52, 0, 0),
  (52, .invokespecial 40, 55, 0, 0),
  (55, .putfield 41, 58, 0, 0),
  (58, .aload_n 0, 59, 0, 0),
  (59, .bipush 12, 61, 0, 12),
  (61, .newarray .int, 63, 0, 0),
  (63, .putfield 45, 66, 0, 0),
  (66, .aload_n 0, 67, 0, 0),
  (67, .iconst 0, 68, 0, 0),
  (68, .putfield 49, 71, 0, 0),
  (71, .aload_n 0, 72, 0, 0),
  (72, .ldc 52, 74, 0, 0),
  (74, .putfield 54, 77, 0, 0),
  (77, .return_, 78, 0, 0)]
theorem tg_BS_init : jj_good yb_BS_init 1 tb_BS_init := by unfold jj_good; decide +kernel
def tb_BS_write : jjTab := [(0, .iload_n 1, 1, 0, 0),
  (1, .bipush 32, 3, 0, 32),
  (3, .if_icmp .lt 21, 6, 24, 0),
  (6, .iload_n 1, 7, 0, 0),
  (7, .bipush 126, 9, 0, 126),
  (9, .if_icmp .gt 15, 12, 24, 0),
  (12, .aload_n 0, 13, 0, 0),
  (13, .getfield 10, 16, 0, 0),
  (16, .invokevirtual 58, 19, 0, 0),
  (19, .bipush 60, 21, 0, 60),
  (21, .if_icmp .lt 5, 24, 26, 0),
  (24, .iconst 0, 25, 0, 0),
  (25, .ireturn, 26, 0, 0),
  (26, .aload_n 0, 27, 0, 0),
  (27, .getfield 10, 30, 0, 0),
  (30, .iload_n 1, 31, 0, 0),
  (31, .invokevirtual 62, 34, 0, 0),
  (34, .pop, 35, 0, 0),
  (35, .iconst 1, 36, 0, 1),
  (36, .ireturn, 37, 0, 0)]
theorem tg_BS_write : jj_good yb_BS_write 2 tb_BS_write := by unfold jj_good; decide +kernel
def tb_BS_register : jjTab := [(0, .aload_n 0, 1, 0, 0),
  (1, .invokevirtual 66, 4, 0, 0),
  (4, .astore_n 1, 5, 0, 0),
  (5, .aload_n 1, 6, 0, 0),
  (6, .ifnonnull 5, 9, 11, 0),
  (9, .iconst (-1), 10, 0, (-1)),
  (10, .ireturn, 11, 0, 0),
  (11, .aload_n 0, 12, 0, 0),
  (12, .aload_n 1, 13, 0, 0),
  (13, .getfield 70, 16, 0, 0),
  (16, .invokevirtual 75, 19, 0, 0),
  (19, .bipush (-2), 21, 0, (-2)),
  (21, .if_icmp .eq 6, 24, 27, 0),
  (24, .bipush (-3), 26, 0, (-3)),
  (26, .ireturn, 27, 0, 0),
  (27, .aload_n 0, 28, 0, 0),
  (28, .invokevirtual 79, 31, 0, 0),
  (31, .istore_n 2, 32, 0, 0),
  (32, .iload_n 2, 33, 0, 0),
  (33, .bipush (-4), 35, 0, (-4)),
  (35, .if_icmp .eq 27, 38, 62, 0),
  (38, .aload_n 0, 39, 0, 0),
  (39, .getfield 18, 42, 0, 0),
  (42, .iload_n 2, 43, 0, 0),
  (43, .new 16, 46, 0, 0),
  (46, .dup, 47, 0, 0),
  (47, .aload_n 1, 48, 0, 0),
  (48, .invokespecial 82, 51, 0, 0),
  (51, .aastore, 52, 0, 0),
  (52, .aload_n 0, 53, 0, 0),
  (53, .getfield 41, 56, 0, 0),
  (56, .iconst 0, 57, 0, 0),
  (57, .iload_n 2, 58, 0, 0),
  (58, .iconst 0, 59, 0, 0),
  (59, .invokevirtual 85, 62, 0, 0),
  (62, .iload_n 2, 63, 0, 0),
  (63, .ireturn, 64, 0, 0)]
theorem tg_BS_register : jj_good yb_BS_register 3 tb_BS_register := by unfold jj_good; decide +kernel
def tb_BS_takenName : jjTab := [(0, .aload_n 0, 1, 0, 0),
  (1, .invokevirtual 104, 4, 0, 0),
  (4, .invokestatic 143, 7, 0, 0),
  (7, .astore_n 1, 8, 0, 0),
  (8, .aload_n 1, 9, 0, 0),
  (9, .ifnull 14, 12, 23, 0),
  (12, .aload_n 1, 13, 0, 0),
  (13, .invokevirtual 208, 16, 0, 0),
  (16, .ifCond .eq 7, 19, 23, 0),
  (19, .aload_n 1, 20, 0, 0),
  (20, .goto 4, 23, 24, 0),
  (23, .aconst_null, 24, 0, 0),
  (24, .areturn, 25, 0, 0)]
theorem tg_BS_takenName : jj_good yb_BS_takenName 2 tb_BS_takenName := by unfold jj_good; decide +kernel
def tb_BS_taken : jjTab := [(0, .aload_n 0, 1, 0, 0),
  (1, .getfield 10, 4, 0, 0),
  (4, .invokevirtual 201, 7, 0, 0),
  (7, .astore_n 1, 8, 0, 0),
  (8, .aload_n 0, 9, 0, 0),
  (9, .getfield 10, 12, 0, 0),
  (12, .iconst 0, 13, 0, 0),
  (13, .invokevirtual 204, 16, 0, 0),
  (16, .aload_n 1, 17, 0, 0),
  (17, .areturn, 18, 0, 0)]
theorem tg_BS_taken : jj_good yb_BS_taken 2 tb_BS_taken := by unfold jj_good; decide +kernel
def tb_BS_patternIn : jjTab := [(0, .new 71, 3, 0, 0),
  (3, .dup, 4, 0, 0),
  (4, .aload_n 0, 5, 0, 0),
  (5, .invokespecial 211, 8, 0, 0),
  (8, .astore_n 1, 9, 0, 0),
  (9, .aload_n 1, 10, 0, 0),
  (10, .invokevirtual 212, 13, 0, 0),
  (13, .ifCond .eq 7, 16, 20, 0),
  (16, .aload_n 1, 17, 0, 0),
  (17, .goto 4, 20, 21, 0),
  (20, .aconst_null, 21, 0, 0),
  (21, .areturn, 22, 0, 0)]
theorem tg_BS_patternIn : jj_good yb_BS_patternIn 2 tb_BS_patternIn := by unfold jj_good; decide +kernel
def tb_BS_beanNamed : jjTab := [(0, .iconst 0, 1, 0, 0),
  (1, .istore_n 2, 2, 0, 0),
  (2, .iload_n 2, 3, 0, 0),
  (3, .bipush 12, 5, 0, 12),
  (5, .if_icmp .ge 39, 8, 44, 0),
  (8, .aload_n 0, 9, 0, 0),
  (9, .getfield 18, 12, 0, 0),
  (12, .iload_n 2, 13, 0, 0),
  (13, .aaload, 14, 0, 0),
  (14, .ifnull 24, 17, 38, 0),
  (17, .aload_n 0, 18, 0, 0),
  (18, .getfield 18, 21, 0, 0),
  (21, .iload_n 2, 22, 0, 0),
  (22, .aaload, 23, 0, 0),
  (23, .getfield 147, 26, 0, 0),
  (26, .getfield 70, 29, 0, 0),
  (29, .aload_n 1, 30, 0, 0),
  (30, .invokevirtual 215, 33, 0, 0),
  (33, .ifCond .eq 5, 36, 38, 0),
  (36, .iload_n 2, 37, 0, 0),
  (37, .ireturn, 38, 0, 0),
  (38, .iinc 2 1, 41, 0, 1),
  (41, .goto (-39), 44, 2, 0),
  (44, .bipush (-2), 46, 0, (-2)),
  (46, .ireturn, 47, 0, 0)]
theorem tg_BS_beanNamed : jj_good yb_BS_beanNamed 3 tb_BS_beanNamed := by unfold jj_good; decide +kernel
def tb_BS_freeBean : jjTab := [(0, .iconst 0, 1, 0, 0),
  (1, .istore_n 1, 2, 0, 0),
  (2, .iload_n 1, 3, 0, 0),
  (3, .bipush 12, 5, 0, 12),
  (5, .if_icmp .ge 20, 8, 25, 0),
  (8, .aload_n 0, 9, 0, 0),
  (9, .getfield 18, 12, 0, 0),
  (12, .iload_n 1, 13, 0, 0),
  (13, .aaload, 14, 0, 0),
  (14, .ifnonnull 5, 17, 19, 0),
  (17, .iload_n 1, 18, 0, 0),
  (18, .ireturn, 19, 0, 0),
  (19, .iinc 1 1, 22, 0, 1),
  (22, .goto (-20), 25, 2, 0),
  (25, .bipush (-4), 27, 0, (-4)),
  (27, .ireturn, 28, 0, 0)]
theorem tg_BS_freeBean : jj_good yb_BS_freeBean 2 tb_BS_freeBean := by unfold jj_good; decide +kernel
def tb_BS_unregister : jjTab := [(0, .aload_n 0, 1, 0, 0),
  (1, .invokevirtual 66, 4, 0, 0),
  (4, .astore_n 1, 5, 0, 0),
  (5, .aload_n 1, 6, 0, 0),
  (6, .ifnonnull 5, 9, 11, 0),
  (9, .iconst (-1), 10, 0, (-1)),
  (10, .ireturn, 11, 0, 0),
  (11, .aload_n 0, 12, 0, 0),
  (12, .aload_n 1, 13, 0, 0),
  (13, .getfield 70, 16, 0, 0),
  (16, .invokevirtual 75, 19, 0, 0),
  (19, .istore_n 2, 20, 0, 0),
  (20, .iload_n 2, 21, 0, 0),
  (21, .bipush (-2), 23, 0, (-2)),
  (23, .if_icmp .eq 20, 26, 43, 0),
  (26, .aload_n 0, 27, 0, 0),
  (27, .getfield 18, 30, 0, 0),
  (30, .iload_n 2, 31, 0, 0),
  (31, .aconst_null, 32, 0, 0),
  (32, .aastore, 33, 0, 0),
  (33, .aload_n 0, 34, 0, 0),
  (34, .getfield 41, 37, 0, 0),
  (37, .iconst 1, 38, 0, 1),
  (38, .iload_n 2, 39, 0, 0),
  (39, .iconst 0, 40, 0, 0),
  (40, .invokevirtual 85, 43, 0, 0),
  (43, .iload_n 2, 44, 0, 0),
  (44, .ireturn, 45, 0, 0)]
theorem tg_BS_unregister : jj_good yb_BS_unregister 3 tb_BS_unregister := by unfold jj_good; decide +kernel
def tb_BS_find : jjTab := [(0, .aload_n 0, 1, 0, 0),
  (1, .invokevirtual 66, 4, 0, 0),
  (4, .astore_n 1, 5, 0, 0),
  (5, .aload_n 1, 6, 0, 0),
  (6, .ifnonnull 7, 9, 13, 0),
  (9, .iconst (-1), 10, 0, (-1)),
  (10, .goto 11, 13, 21, 0),
  (13, .aload_n 0, 14, 0, 0),
  (14, .aload_n 1, 15, 0, 0),
  (15, .getfield 70, 18, 0, 0),
  (18, .invokevirtual 75, 21, 0, 0),
  (21, .ireturn, 22, 0, 0)]
theorem tg_BS_find : jj_good yb_BS_find 2 tb_BS_find := by unfold jj_good; decide +kernel
def tb_BS_set : jjTab := [(0, .aload_n 0, 1, 0, 0),
  (1, .iload_n 1, 2, 0, 0),
  (2, .invokevirtual 89, 5, 0, 0),
  (5, .astore 4, 7, 0, 0),
  (7, .aload 4, 9, 0, 0),
  (9, .ifnull 10, 12, 19, 0),
  (12, .iload_n 2, 13, 0, 0),
  (13, .invokestatic 93, 16, 0, 0),
  (16, .ifCond .ne 5, 19, 21, 0),
  (19, .iconst 0, 20, 0, 0),
  (20, .ireturn, 21, 0, 0),
  (21, .aload 4, 23, 0, 0),
  (23, .getfield 97, 26, 0, 0),
  (26, .iload_n 2, 27, 0, 0),
  (27, .iload_n 3, 28, 0, 0),
  (28, .iastore, 29, 0, 0),
  (29, .aload 4, 31, 0, 0),
  (31, .getfield 100, 34, 0, 0),
  (34, .iload_n 2, 35, 0, 0),
  (35, .iconst 1, 36, 0, 1),
  (36, .bastore, 37, 0, 0),
  (37, .iconst 1, 38, 0, 1),
  (38, .ireturn, 39, 0, 0)]
theorem tg_BS_set : jj_good yb_BS_set 5 tb_BS_set := by unfold jj_good; decide +kernel
def tb_BS_beanAt : jjTab := [(0, .iload_n 1, 1, 0, 0),
  (1, .ifCond .lt 9, 4, 10, 0),
  (4, .iload_n 1, 5, 0, 0),
  (5, .bipush 12, 7, 0, 12),
  (7, .if_icmp .lt 7, 10, 14, 0),
  (10, .aconst_null, 11, 0, 0),
  (11, .goto 9, 14, 20, 0),
  (14, .aload_n 0, 15, 0, 0),
  (15, .getfield 18, 18, 0, 0),
  (18, .iload_n 1, 19, 0, 0),
  (19, .aaload, 20, 0, 0),
  (20, .areturn, 21, 0, 0)]
theorem tg_BS_beanAt : jj_good yb_BS_beanAt 2 tb_BS_beanAt := by unfold jj_good; decide +kernel
def tb_BS_isAttribute : jjTab := [(0, .iload_n 0, 1, 0, 0),
  (1, .ifCond .lt 12, 4, 13, 0),
  (4, .iload_n 0, 5, 0, 0),
  (5, .iconst 5, 6, 0, 5),
  (6, .if_icmp .ge 7, 9, 13, 0),
  (9, .iconst 1, 10, 0, 1),
  (10, .goto 4, 13, 14, 0),
  (13, .iconst 0, 14, 0, 0),
  (14, .ireturn, 15, 0, 0)]
theorem tg_BS_isAttribute : jj_good yb_BS_isAttribute 1 tb_BS_isAttribute := by unfold jj_good; decide +kernel
def tb_BS_unset : jjTab := [(0, .aload_n 0, 1, 0, 0),
  (1, .iload_n 1, 2, 0, 0),
  (2, .invokevirtual 89, 5, 0, 0),
  (5, .astore_n 3, 6, 0, 0),
  (6, .aload_n 3, 7, 0, 0),
  (7, .ifnull 19, 10, 26, 0),
  (10, .iload_n 2, 11, 0, 0),
  (11, .invokestatic 93, 14, 0, 0),
  (14, .ifCond .eq 12, 17, 26, 0),
  (17, .aload_n 3, 18, 0, 0),
  (18, .getfield 100, 21, 0, 0),
  (21, .iload_n 2, 22, 0, 0),
  (22, .baload, 23, 0, 0),
  (23, .ifCond .ne 5, 26, 28, 0),
  (26, .iconst 0, 27, 0, 0),
  (27, .ireturn, 28, 0, 0),
  (28, .aload_n 3, 29, 0, 0),
  (29, .getfield 100, 32, 0, 0),
  (32, .iload_n 2, 33, 0, 0),
  (33, .iconst 0, 34, 0, 0),
  (34, .bastore, 35, 0, 0),
  (35, .iconst 1, 36, 0, 1),
  (36, .ireturn, 37, 0, 0)]
theorem tg_BS_unset : jj_good yb_BS_unset 4 tb_BS_unset := by unfold jj_good; decide +kernel
def tb_BS_get : jjTab := [(0, .aload_n 0, 1, 0, 0),
  (1, .iload_n 1, 2, 0, 0),
  (2, .invokevirtual 89, 5, 0, 0),
  (5, .astore_n 3, 6, 0, 0),
  (6, .aload_n 3, 7, 0, 0),
  (7, .ifnull 19, 10, 26, 0),
  (10, .iload_n 2, 11, 0, 0),
  (11, .invokestatic 93, 14, 0, 0),
  (14, .ifCond .eq 12, 17, 26, 0),
  (17, .aload_n 3, 18, 0, 0),
  (18, .getfield 100, 21, 0, 0),
  (21, .iload_n 2, 22, 0, 0),
  (22, .baload, 23, 0, 0),
  (23, .ifCond .ne 5, 26, 28, 0),
  (26, .iconst 0, 27, 0, 0),
  (27, .ireturn, 28, 0, 0),
  (28, .aload_n 3, 29, 0, 0),
  (29, .getfield 97, 32, 0, 0),
  (32, .iload_n 2, 33, 0, 0),
  (33, .iaload, 34, 0, 0),
  (34, .ireturn, 35, 0, 0)]
theorem tg_BS_get : jj_good yb_BS_get 4 tb_BS_get := by unfold jj_good; decide +kernel
def tb_BS_define : jjTab := [(0, .aload_n 0, 1, 0, 0),
  (1, .invokevirtual 104, 4, 0, 0),
  (4, .astore_n 1, 5, 0, 0),
  (5, .aload_n 1, 6, 0, 0),
  (6, .invokestatic 108, 9, 0, 0),
  (9, .bipush 8, 11, 0, 8),
  (11, .if_icmp .le 6, 14, 17, 0),
  (14, .bipush (-4), 16, 0, (-4)),
  (16, .ireturn, 17, 0, 0),
  (17, .new 111, 20, 0, 0),
  (20, .dup, 21, 0, 0),
  (21, .aload_n 1, 22, 0, 0),
  (22, .aconst_null, 23, 0, 0),
  (23, .invokespecial 113, 26, 0, 0),
  (26, .astore_n 2, 27, 0, 0),
  (27, .aload_n 2, 28, 0, 0),
  (28, .invokevirtual 116, 31, 0, 0),
  (31, .pop, 32, 0, 0),
  (32, .aload_n 2, 33, 0, 0),
  (33, .getfield 119, 36, 0, 0),
  (36, .ifCond .ne 14, 39, 50, 0),
  (39, .aload_n 2, 40, 0, 0),
  (40, .getfield 123, 43, 0, 0),
  (43, .aload_n 1, 44, 0, 0),
  (44, .invokevirtual 126, 47, 0, 0),
  (47, .if_icmp .ge 5, 50, 52, 0),
  (50, .iconst (-1), 51, 0, (-1)),
  (51, .ireturn, 52, 0, 0),
  (52, .aload_n 0, 53, 0, 0),
  (53, .getfield 28, 56, 0, 0),
  (56, .bipush 6, 58, 0, 6),
  (58, .if_icmp .lt 6, 61, 64, 0),
  (61, .bipush (-4), 63, 0, (-4)),
  (63, .ireturn, 64, 0, 0),
  (64, .aload_n 0, 65, 0, 0),
  (65, .getfield 24, 68, 0, 0),
  (68, .aload_n 0, 69, 0, 0),
  (69, .getfield 28, 72, 0, 0),
  (72, .new 22, 75, 0, 0),
  (75, .dup, 76, 0, 0),
  (76, .new 129, 79, 0, 0),
  (79, .dup, 80, 0, 0),
  (80, .aload_n 1, 81, 0, 0),
  (81, .invokespecial 131, 84, 0, 0),
  (84, .invokevirtual 134, 87, 0, 0),
  (87, .invokespecial 137, 90, 0, 0),
  (90, .aastore, 91, 0, 0),
  (91, .aload_n 0, 92, 0, 0),
  (92, .dup, 93, 0, 0),
  (93, .getfield 28, 96, 0, 0),
  (96, .iconst 1, 97, 0, 1),
  (97, .iadd, 98, 0, 0),
  (98, .putfield 28, 101, 0, 0),
  (101, .aload_n 0, 102, 0, 0),
  (102, .getfield 28, 105, 0, 0),
  (105, .iconst 1, 106, 0, 1),
  (106, .isub, 107, 0, 0),
  (107, .ireturn, 108, 0, 0)]
theorem tg_BS_define : jj_good yb_BS_define 3 tb_BS_define := by unfold jj_good; decide +kernel
def tb_BS_nestings : jjTab := [(0, .iconst 0, 1, 0, 0),
  (1, .istore_n 1, 2, 0, 0),
  (2, .iconst 0, 3, 0, 0),
  (3, .istore_n 2, 4, 0, 0),
  (4, .iload_n 2, 5, 0, 0),
  (5, .aload_n 0, 6, 0, 0),
  (6, .invokevirtual 126, 9, 0, 0),
  (9, .if_icmp .ge 32, 12, 41, 0),
  (12, .aload_n 0, 13, 0, 0),
  (13, .iload_n 2, 14, 0, 0),
  (14, .invokevirtual 163, 17, 0, 0),
  (17, .bipush 40, 19, 0, 40),
  (19, .if_icmp .eq 13, 22, 32, 0),
  (22, .aload_n 0, 23, 0, 0),
  (23, .iload_n 2, 24, 0, 0),
  (24, .invokevirtual 163, 27, 0, 0),
  (27, .bipush 33, 29, 0, 33),
  (29, .if_icmp .ne 6, 32, 35, 0),
  (32, .iinc 1 1, 35, 0, 1),
  (35, .iinc 2 1, 38, 0, 1),
  (38, .goto (-34), 41, 4, 0),
  (41, .iload_n 1, 42, 0, 0),
  (42, .ireturn, 43, 0, 0)]
theorem tg_BS_nestings : jj_good yb_BS_nestings 3 tb_BS_nestings := by unfold jj_good; decide +kernel
def tb_BS_check : jjTab := [(0, .aload_n 0, 1, 0, 0),
  (1, .iload_n 1, 2, 0, 0),
  (2, .invokevirtual 138, 5, 0, 0),
  (5, .astore_n 3, 6, 0, 0),
  (6, .aload_n 0, 7, 0, 0),
  (7, .iload_n 2, 8, 0, 0),
  (8, .invokevirtual 89, 11, 0, 0),
  (11, .astore 4, 13, 0, 0),
  (13, .aload_n 3, 14, 0, 0),
  (14, .ifnull 8, 17, 22, 0),
  (17, .aload 4, 19, 0, 0),
  (19, .ifnonnull 6, 22, 25, 0),
  (22, .bipush (-2), 24, 0, (-2)),
  (24, .ireturn, 25, 0, 0),
  (25, .new 111, 28, 0, 0),
  (28, .dup, 29, 0, 0),
  (29, .aload_n 3, 30, 0, 0),
  (30, .getfield 142, 33, 0, 0),
  (33, .aload 4, 35, 0, 0),
  (35, .invokespecial 113, 38, 0, 0),
  (38, .invokevirtual 116, 41, 0, 0),
  (41, .ireturn, 42, 0, 0)]
theorem tg_BS_check : jj_good yb_BS_check 5 tb_BS_check := by unfold jj_good; decide +kernel
def tb_BS_queryAt : jjTab := [(0, .iload_n 1, 1, 0, 0),
  (1, .ifCond .lt 11, 4, 12, 0),
  (4, .iload_n 1, 5, 0, 0),
  (5, .aload_n 0, 6, 0, 0),
  (6, .getfield 28, 9, 0, 0),
  (9, .if_icmp .lt 7, 12, 16, 0),
  (12, .aconst_null, 13, 0, 0),
  (13, .goto 9, 16, 22, 0),
  (16, .aload_n 0, 17, 0, 0),
  (17, .getfield 24, 20, 0, 0),
  (20, .iload_n 1, 21, 0, 0),
  (21, .aaload, 22, 0, 0),
  (22, .areturn, 23, 0, 0)]
theorem tg_BS_queryAt : jj_good yb_BS_queryAt 2 tb_BS_queryAt := by unfold jj_good; decide +kernel
def tb_BS_select : jjTab := [(0, .aload_n 0, 1, 0, 0),
  (1, .invokevirtual 104, 4, 0, 0),
  (4, .astore_n 2, 5, 0, 0),
  (5, .aload_n 0, 6, 0, 0),
  (6, .iload_n 1, 7, 0, 0),
  (7, .invokevirtual 138, 10, 0, 0),
  (10, .astore_n 3, 11, 0, 0),
  (11, .aload_n 3, 12, 0, 0),
  (12, .ifnonnull 11, 15, 23, 0),
  (15, .iload_n 1, 16, 0, 0),
  (16, .iconst (-1), 17, 0, (-1)),
  (17, .if_icmp .eq 6, 20, 23, 0),
  (20, .bipush (-2), 22, 0, (-2)),
  (22, .ireturn, 23, 0, 0),
  (23, .aload_n 2, 24, 0, 0),
  (24, .invokestatic 143, 27, 0, 0),
  (27, .astore 4, 29, 0, 0),
  (29, .aload 4, 31, 0, 0),
  (31, .ifnonnull 5, 34, 36, 0),
  (34, .iconst (-1), 35, 0, (-1)),
  (35, .ireturn, 36, 0, 0),
  (36, .aload_n 0, 37, 0, 0),
  (37, .aload 4, 39, 0, 0),
  (39, .getfield 70, 42, 0, 0),
  (42, .putfield 54, 45, 0, 0),
  (45, .aload_n 0, 46, 0, 0),
  (46, .iconst 0, 47, 0, 0),
  (47, .putfield 49, 50, 0, 0),
  (50, .iconst 0, 51, 0, 0),
  (51, .istore 5, 53, 0, 0),
  (53, .iload 5, 55, 0, 0),
  (55, .bipush 12, 57, 0, 12),
  (57, .if_icmp .ge 81, 60, 138, 0),
  (60, .aload_n 0, 61, 0, 0),
  (61, .getfield 18, 64, 0, 0),
  (64, .iload 5, 66, 0, 0),
  (66, .aaload, 67, 0, 0),
  (67, .astore 6, 69, 0, 0),
  (69, .aload 6, 71, 0, 0),
  (71, .ifnull 61, 74, 132, 0),
  (74, .aload 4, 76, 0, 0),
  (76, .aload 6, 78, 0, 0),
  (78, .getfield 147, 81, 0, 0),
  (81, .invokevirtual 151, 84, 0, 0),
  (84, .ifCond .eq 48, 87, 132, 0),
  (87, .aload_n 3, 88, 0, 0),
  (88, .ifnull 23, 91, 111, 0),
  (91, .new 111, 94, 0, 0),
  (94, .dup, 95, 0, 0),
  (95, .aload_n 3, 96, 0, 0),
  (96, .getfield 142, 99, 0, 0),
  (99, .aload 6, 101, 0, 0),
  (101, .invokespecial 113, 104, 0, 0),
  (104, .invokevirtual 116, 107, 0, 0),
  (107, .iconst 1, 108, 0, 1),
  (108, .if_icmp .ne 24, 111, 132, 0),
  (111, .aload_n 0, 112, 0, 0),
  (112, .getfield 45, 115, 0, 0),
  (115, .aload_n 0, 116, 0, 0),
  (116, .getfield 49, 119, 0, 0),
  (119, .iload 5, 121, 0, 0),
  (121, .iastore, 122, 0, 0),
  (122, .aload_n 0, 123, 0, 0),
  (123, .dup, 124, 0, 0),
  (124, .getfield 49, 127, 0, 0),
  (127, .iconst 1, 128, 0, 1),
  (128, .iadd, 129, 0, 0),
  (129, .putfield 49, 132, 0, 0),
  (132, .iinc 5 1, 135, 0, 1),
  (135, .goto (-82), 138, 53, 0),
  (138, .aload_n 0, 139, 0, 0),
  (139, .getfield 49, 142, 0, 0),
  (142, .ireturn, 143, 0, 0)]
theorem tg_BS_select : jj_good yb_BS_select 7 tb_BS_select := by unfold jj_good; decide +kernel
def tb_BS_selected : jjTab := [(0, .iload_n 1, 1, 0, 0),
  (1, .ifCond .lt 11, 4, 12, 0),
  (4, .iload_n 1, 5, 0, 0),
  (5, .aload_n 0, 6, 0, 0),
  (6, .getfield 49, 9, 0, 0),
  (9, .if_icmp .lt 8, 12, 17, 0),
  (12, .bipush (-2), 14, 0, (-2)),
  (14, .goto 9, 17, 23, 0),
  (17, .aload_n 0, 18, 0, 0),
  (18, .getfield 45, 21, 0, 0),
  (21, .iload_n 1, 22, 0, 0),
  (22, .iaload, 23, 0, 0),
  (23, .ireturn, 24, 0, 0)]
theorem tg_BS_selected : jj_good yb_BS_selected 2 tb_BS_selected := by unfold jj_good; decide +kernel
def tb_BS_form : jjTab := [(0, .aload_n 0, 1, 0, 0),
  (1, .iload_n 1, 2, 0, 0),
  (2, .iload_n 2, 3, 0, 0),
  (3, .invokevirtual 155, 6, 0, 0),
  (6, .astore 4, 8, 0, 0),
  (8, .aload 4, 10, 0, 0),
  (10, .invokevirtual 159, 13, 0, 0),
  (13, .ifCond .eq 6, 16, 19, 0),
  (16, .bipush (-2), 18, 0, (-2)),
  (18, .ireturn, 19, 0, 0),
  (19, .iload_n 3, 20, 0, 0),
  (20, .iconst (-1), 21, 0, (-1)),
  (21, .if_icmp .ne 9, 24, 30, 0),
  (24, .aload 4, 26, 0, 0),
  (26, .invokevirtual 126, 29, 0, 0),
  (29, .ireturn, 30, 0, 0),
  (30, .iload_n 3, 31, 0, 0),
  (31, .ifCond .lt 12, 34, 43, 0),
  (34, .iload_n 3, 35, 0, 0),
  (35, .aload 4, 37, 0, 0),
  (37, .invokevirtual 126, 40, 0, 0),
  (40, .if_icmp .lt 6, 43, 46, 0),
  (43, .bipush (-2), 45, 0, (-2)),
  (45, .ireturn, 46, 0, 0),
  (46, .aload 4, 48, 0, 0),
  (48, .iload_n 3, 49, 0, 0),
  (49, .invokevirtual 163, 52, 0, 0),
  (52, .ireturn, 53, 0, 0)]
theorem tg_BS_form : jj_good yb_BS_form 5 tb_BS_form := by unfold jj_good; decide +kernel
def tb_BS_shownForm : jjTab := [(0, .iload_n 1, 1, 0, 0),
  (1, .ifCond .ne 23, 4, 24, 0),
  (4, .aload_n 0, 5, 0, 0),
  (5, .iload_n 2, 6, 0, 0),
  (6, .invokevirtual 89, 9, 0, 0),
  (9, .ifnull 15, 12, 24, 0),
  (12, .aload_n 0, 13, 0, 0),
  (13, .iload_n 2, 14, 0, 0),
  (14, .invokevirtual 89, 17, 0, 0),
  (17, .getfield 147, 20, 0, 0),
  (20, .getfield 70, 23, 0, 0),
  (23, .areturn, 24, 0, 0),
  (24, .iload_n 1, 25, 0, 0),
  (25, .iconst 1, 26, 0, 1),
  (26, .if_icmp .ne 20, 29, 46, 0),
  (29, .aload_n 0, 30, 0, 0),
  (30, .iload_n 2, 31, 0, 0),
  (31, .invokevirtual 138, 34, 0, 0),
  (34, .ifnull 12, 37, 46, 0),
  (37, .aload_n 0, 38, 0, 0),
  (38, .iload_n 2, 39, 0, 0),
  (39, .invokevirtual 138, 42, 0, 0),
  (42, .getfield 142, 45, 0, 0),
  (45, .areturn, 46, 0, 0),
  (46, .iload_n 1, 47, 0, 0),
  (47, .iconst 2, 48, 0, 2),
  (48, .if_icmp .ne 10, 51, 58, 0),
  (51, .aload_n 0, 52, 0, 0),
  (52, .getfield 54, 55, 0, 0),
  (55, .goto 5, 58, 60, 0),
  (58, .ldc 52, 60, 0, 0),
  (60, .areturn, 61, 0, 0)]
theorem tg_BS_shownForm : jj_good yb_BS_shownForm 3 tb_BS_shownForm := by unfold jj_good; decide +kernel
def tb_BS_counter : jjTab := [(0, .iload_n 2, 1, 0, 0),
  (1, .invokestatic 93, 4, 0, 0),
  (4, .ifCond .eq 8, 7, 12, 0),
  (7, .iload 4, 9, 0, 0),
  (9, .ifCond .ge 5, 12, 14, 0),
  (12, .iconst (-1), 13, 0, (-1)),
  (13, .ireturn, 14, 0, 0),
  (14, .aload_n 0, 15, 0, 0),
  (15, .iload_n 1, 16, 0, 0),
  (16, .invokevirtual 167, 19, 0, 0),
  (19, .istore 5, 21, 0, 0),
  (21, .iload 5, 23, 0, 0),
  (23, .ifCond .lt 33, 26, 56, 0),
  (26, .aload_n 0, 27, 0, 0),
  (27, .getfield 34, 30, 0, 0),
  (30, .iload 5, 32, 0, 0),
  (32, .new 171, 35, 0, 0),
  (35, .dup, 36, 0, 0),
  (36, .aload_n 0, 37, 0, 0),
  (37, .getfield 18, 40, 0, 0),
  (40, .iload_n 1, 41, 0, 0),
  (41, .aaload, 42, 0, 0),
  (42, .getfield 147, 45, 0, 0),
  (45, .getfield 70, 48, 0, 0),
  (48, .iload_n 2, 49, 0, 0),
  (49, .iload_n 3, 50, 0, 0),
  (50, .iload 4, 52, 0, 0),
  (52, .invokespecial 173, 55, 0, 0),
  (55, .aastore, 56, 0, 0),
  (56, .iload 5, 58, 0, 0),
  (58, .ireturn, 59, 0, 0)]
theorem tg_BS_counter : jj_good yb_BS_counter 6 tb_BS_counter := by unfold jj_good; decide +kernel
def tb_BS_numberForMonitorOf : jjTab := [(0, .aload_n 0, 1, 0, 0),
  (1, .iload_n 1, 2, 0, 0),
  (2, .invokevirtual 89, 5, 0, 0),
  (5, .ifnonnull 6, 8, 11, 0),
  (8, .bipush (-2), 10, 0, (-2)),
  (10, .ireturn, 11, 0, 0),
  (11, .iconst 0, 12, 0, 0),
  (12, .istore_n 2, 13, 0, 0),
  (13, .iload_n 2, 14, 0, 0),
  (14, .bipush 6, 16, 0, 6),
  (16, .if_icmp .ge 20, 19, 36, 0),
  (19, .aload_n 0, 20, 0, 0),
  (20, .getfield 34, 23, 0, 0),
  (23, .iload_n 2, 24, 0, 0),
  (24, .aaload, 25, 0, 0),
  (25, .ifnonnull 5, 28, 30, 0),
  (28, .iload_n 2, 29, 0, 0),
  (29, .ireturn, 30, 0, 0),
  (30, .iinc 2 1, 33, 0, 1),
  (33, .goto (-20), 36, 13, 0),
  (36, .bipush (-4), 38, 0, (-4)),
  (38, .ireturn, 39, 0, 0)]
theorem tg_BS_numberForMonitorOf : jj_good yb_BS_numberForMonitorOf 3 tb_BS_numberForMonitorOf := by unfold jj_good; decide +kernel
def tb_BS_gauge : jjTab := [(0, .iload_n 2, 1, 0, 0),
  (1, .invokestatic 93, 4, 0, 0),
  (4, .ifCond .eq 9, 7, 13, 0),
  (7, .iload_n 3, 8, 0, 0),
  (8, .iload 4, 10, 0, 0),
  (10, .if_icmp .lt 5, 13, 15, 0),
  (13, .iconst (-1), 14, 0, (-1)),
  (14, .ireturn, 15, 0, 0),
  (15, .aload_n 0, 16, 0, 0),
  (16, .iload_n 1, 17, 0, 0),
  (17, .invokevirtual 167, 20, 0, 0),
  (20, .istore 5, 22, 0, 0),
  (22, .iload 5, 24, 0, 0),
  (24, .ifCond .lt 33, 27, 57, 0),
  (27, .aload_n 0, 28, 0, 0),
  (28, .getfield 34, 31, 0, 0),
  (31, .iload 5, 33, 0, 0),
  (33, .new 176, 36, 0, 0),
  (36, .dup, 37, 0, 0),
  (37, .aload_n 0, 38, 0, 0),
  (38, .getfield 18, 41, 0, 0),
  (41, .iload_n 1, 42, 0, 0),
  (42, .aaload, 43, 0, 0),
  (43, .getfield 147, 46, 0, 0),
  (46, .getfield 70, 49, 0, 0),
  (49, .iload_n 2, 50, 0, 0),
  (50, .iload_n 3, 51, 0, 0),
  (51, .iload 4, 53, 0, 0),
  (53, .invokespecial 178, 56, 0, 0),
  (56, .aastore, 57, 0, 0),
  (57, .iload 5, 59, 0, 0),
  (59, .ireturn, 60, 0, 0)]
theorem tg_BS_gauge : jj_good yb_BS_gauge 6 tb_BS_gauge := by unfold jj_good; decide +kernel
def tb_BS_cancel : jjTab := [(0, .aload_n 0, 1, 0, 0),
  (1, .iload_n 1, 2, 0, 0),
  (2, .invokevirtual 179, 5, 0, 0),
  (5, .ifnonnull 5, 8, 10, 0),
  (8, .iconst 0, 9, 0, 0),
  (9, .ireturn, 10, 0, 0),
  (10, .aload_n 0, 11, 0, 0),
  (11, .getfield 34, 14, 0, 0),
  (14, .iload_n 1, 15, 0, 0),
  (15, .aconst_null, 16, 0, 0),
  (16, .aastore, 17, 0, 0),
  (17, .iconst 1, 18, 0, 1),
  (18, .ireturn, 19, 0, 0)]
theorem tg_BS_cancel : jj_good yb_BS_cancel 2 tb_BS_cancel := by unfold jj_good; decide +kernel
def tb_BS_monitorAt : jjTab := [(0, .iload_n 1, 1, 0, 0),
  (1, .ifCond .lt 9, 4, 10, 0),
  (4, .iload_n 1, 5, 0, 0),
  (5, .bipush 6, 7, 0, 6),
  (7, .if_icmp .lt 7, 10, 14, 0),
  (10, .aconst_null, 11, 0, 0),
  (11, .goto 9, 14, 20, 0),
  (14, .aload_n 0, 15, 0, 0),
  (15, .getfield 34, 18, 0, 0),
  (18, .iload_n 1, 19, 0, 0),
  (19, .aaload, 20, 0, 0),
  (20, .areturn, 21, 0, 0)]
theorem tg_BS_monitorAt : jj_good yb_BS_monitorAt 2 tb_BS_monitorAt := by unfold jj_good; decide +kernel
def tb_BS_observe : jjTab := [(0, .aload_n 0, 1, 0, 0),
  (1, .getfield 41, 4, 0, 0),
  (4, .getfield 183, 7, 0, 0),
  (7, .istore_n 1, 8, 0, 0),
  (8, .iconst 0, 9, 0, 0),
  (9, .istore_n 2, 10, 0, 0),
  (10, .iload_n 2, 11, 0, 0),
  (11, .bipush 6, 13, 0, 6),
  (13, .if_icmp .ge 29, 16, 42, 0),
  (16, .aload_n 0, 17, 0, 0),
  (17, .getfield 34, 20, 0, 0),
  (20, .iload_n 2, 21, 0, 0),
  (21, .aaload, 22, 0, 0),
  (22, .ifnull 14, 25, 36, 0),
  (25, .aload_n 0, 26, 0, 0),
  (26, .aload_n 0, 27, 0, 0),
  (27, .getfield 34, 30, 0, 0),
  (30, .iload_n 2, 31, 0, 0),
  (31, .aaload, 32, 0, 0),
  (32, .iload_n 2, 33, 0, 0),
  (33, .invokevirtual 186, 36, 0, 0),
  (36, .iinc 2 1, 39, 0, 1),
  (39, .goto (-29), 42, 10, 0),
  (42, .aload_n 0, 43, 0, 0),
  (43, .getfield 41, 46, 0, 0),
  (46, .getfield 183, 49, 0, 0),
  (49, .iload_n 1, 50, 0, 0),
  (50, .isub, 51, 0, 0),
  (51, .ireturn, 52, 0, 0)]
theorem tg_BS_observe : jj_good yb_BS_observe 3 tb_BS_observe := by unfold jj_good; decide +kernel
def tb_BS_letLook : jjTab := [(0, .aload_n 0, 1, 0, 0),
  (1, .aload_n 0, 2, 0, 0),
  (2, .aload_n 1, 3, 0, 0),
  (3, .getfield 219, 6, 0, 0),
  (6, .invokevirtual 75, 9, 0, 0),
  (9, .invokevirtual 89, 12, 0, 0),
  (12, .astore_n 3, 13, 0, 0),
  (13, .aload_n 3, 14, 0, 0),
  (14, .ifnull 15, 17, 29, 0),
  (17, .aload_n 3, 18, 0, 0),
  (18, .getfield 100, 21, 0, 0),
  (21, .aload_n 1, 22, 0, 0),
  (22, .getfield 221, 25, 0, 0),
  (25, .baload, 26, 0, 0),
  (26, .ifCond .ne 26, 29, 52, 0),
  (29, .aload_n 1, 30, 0, 0),
  (30, .getfield 224, 33, 0, 0),
  (33, .ifCond .ne 13, 36, 46, 0),
  (36, .aload_n 0, 37, 0, 0),
  (37, .getfield 41, 40, 0, 0),
  (40, .iconst 5, 41, 0, 5),
  (41, .iload_n 2, 42, 0, 0),
  (42, .iconst 0, 43, 0, 0),
  (43, .invokevirtual 85, 46, 0, 0),
  (46, .aload_n 1, 47, 0, 0),
  (47, .iconst 1, 48, 0, 1),
  (48, .putfield 224, 51, 0, 0),
  (51, .return_, 52, 0, 0),
  (52, .aload_n 1, 53, 0, 0),
  (53, .iconst 0, 54, 0, 0),
  (54, .putfield 224, 57, 0, 0),
  (57, .aload_n 3, 58, 0, 0),
  (58, .getfield 97, 61, 0, 0),
  (61, .aload_n 1, 62, 0, 0),
  (62, .getfield 221, 65, 0, 0),
  (65, .iaload, 66, 0, 0),
  (66, .istore 4, 68, 0, 0),
  (68, .aload_n 1, 69, 0, 0),
  (69, .iload 4, 71, 0, 0),
  (71, .invokevirtual 227, 74, 0, 0),
  (74, .istore 5, 76, 0, 0),
  (76, .iload 5, 78, 0, 0),
  (78, .iconst (-1), 79, 0, (-1)),
  (79, .if_icmp .eq 15, 82, 94, 0),
  (82, .aload_n 0, 83, 0, 0),
  (83, .getfield 41, 86, 0, 0),
  (86, .iload 5, 88, 0, 0),
  (88, .iload_n 2, 89, 0, 0),
  (89, .iload 4, 91, 0, 0),
  (91, .invokevirtual 85, 94, 0, 0),
  (94, .return_, 95, 0, 0)]
theorem tg_BS_letLook : jj_good yb_BS_letLook 6 tb_BS_letLook := by unfold jj_good; decide +kernel
def tb_BS_mark : jjTab := [(0, .aload_n 0, 1, 0, 0),
  (1, .iload_n 1, 2, 0, 0),
  (2, .invokevirtual 179, 5, 0, 0),
  (5, .astore_n 2, 6, 0, 0),
  (6, .aload_n 2, 7, 0, 0),
  (7, .ifnonnull 7, 10, 14, 0),
  (10, .lconst 0, 11, 0, 0),
  (11, .goto 7, 14, 18, 0),
  (14, .aload_n 2, 15, 0, 0),
  (15, .invokevirtual 190, 18, 0, 0),
  (18, .lreturn, 19, 0, 0)]
theorem tg_BS_mark : jj_good yb_BS_mark 3 tb_BS_mark := by unfold jj_good; decide +kernel
def tb_BS_listen : jjTab := [(0, .aload_n 0, 1, 0, 0),
  (1, .getfield 41, 4, 0, 0),
  (4, .iload_n 1, 5, 0, 0),
  (5, .putfield 194, 8, 0, 0),
  (8, .aload_n 0, 9, 0, 0),
  (9, .getfield 41, 12, 0, 0),
  (12, .getfield 183, 15, 0, 0),
  (15, .ireturn, 16, 0, 0)]
theorem tg_BS_listen : jj_good yb_BS_listen 2 tb_BS_listen := by unfold jj_good; decide +kernel
def tb_BS_notice : jjTab := [(0, .aload_n 0, 1, 0, 0),
  (1, .getfield 41, 4, 0, 0),
  (4, .iload_n 1, 5, 0, 0),
  (5, .iload_n 2, 6, 0, 0),
  (6, .invokevirtual 197, 9, 0, 0),
  (9, .ireturn, 10, 0, 0)]
theorem tg_BS_notice : jj_good yb_BS_notice 3 tb_BS_notice := by unfold jj_good; decide +kernel
end
section
def tb_LG_init : jjTab := [(0, .aload_n 0, 1, 0, 0),
  (1, .invokespecial 3, 4, 0, 0),
  (4, .aload_n 0, 5, 0, 0),
  (5, .bipush 16, 7, 0, 16),
  (7, .newarray .int, 9, 0, 0),
  (9, .putfield 9, 12, 0, 0),
  (12, .aload_n 0, 13, 0, 0),
  (13, .bipush 16, 15, 0, 16),
  (15, .newarray .int, 17, 0, 0),
  (17, .putfield 15, 20, 0, 0),
  (20, .aload_n 0, 21, 0, 0),
  (21, .bipush 16, 23, 0, 16),
  (23, .newarray .int, 25, 0, 0),
  (25, .putfield 18, 28, 0, 0),
  (28, .aload_n 0, 29, 0, 0),
  (29, .bipush 16, 31, 0, 16),
  (31, .newarray .int, 33, 0, 0),
  (33, .putfield 21, 36, 0, 0),
  (36, .aload_n 0, 37, 0, 0),
  (37, .iconst 0, 38, 0, 0),
  (38, .putfield 24, 41, 0, 0),
  (41, .aload_n 0, 42, 0, 0),
  (42, .iconst 0, 43, 0, 0),
  (43, .putfield 28, 46, 0, 0),
  (46, .aload_n 0, 47, 0, 0),
  (47, .iconst 0, 48, 0, 0),
  (48, .putfield 31, 51, 0, 0),
  (51, .aload_n 0, 52, 0, 0),
  (52, .bipush 63, 54, 0, 63),
  (54, .putfield 34, 57, 0, 0),
  (57, .return_, 58, 0, 0)]
theorem tg_LG_init : jj_good yb_LG_init 1 tb_LG_init := by unfold jj_good; decide +kernel
def tb_PT_init : jjTab := [(0, .aload_n 0, 1, 0, 0),
  (1, .invokespecial 3, 4, 0, 0),
  (4, .aload_n 0, 5, 0, 0),
  (5, .bipush 26, 7, 0, 26),
  (7, .newarray .int, 9, 0, 0),
  (9, .putfield 9, 12, 0, 0),
  (12, .aload_n 0, 13, 0, 0),
  (13, .bipush 26, 15, 0, 26),
  (15, .newarray .int, 17, 0, 0),
  (17, .putfield 15, 20, 0, 0),
  (20, .aload_n 0, 21, 0, 0),
  (21, .iconst 0, 22, 0, 0),
  (22, .putfield 18, 25, 0, 0),
  (25, .aload_n 0, 26, 0, 0),
  (26, .iconst 0, 27, 0, 0),
  (27, .putfield 22, 30, 0, 0),
  (30, .aload_n 0, 31, 0, 0),
  (31, .ldc 26, 33, 0, 0),
  (33, .putfield 28, 36, 0, 0),
  (36, .aload_n 0, 37, 0, 0),
  (37, .aload_n 1, 38, 0, 0),
  (38, .putfield 32, 41, 0, 0),
  (41, .return_, 42, 0, 0)]
theorem tg_PT_init : jj_good yb_PT_init 2 tb_PT_init := by unfold jj_good; decide +kernel
def tb_PT_parse : jjTab := [(0, .aload_n 0, 1, 0, 0),
  (1, .aload_n 0, 2, 0, 0),
  (2, .iconst 0, 3, 0, 0),
  (3, .invokevirtual 35, 6, 0, 0),
  (6, .putfield 18, 9, 0, 0),
  (9, .aload_n 0, 10, 0, 0),
  (10, .getfield 18, 13, 0, 0),
  (13, .bipush 6, 15, 0, 6),
  (15, .if_icmp .gt 33, 18, 48, 0),
  (18, .aload_n 0, 19, 0, 0),
  (19, .getfield 18, 22, 0, 0),
  (22, .aload_n 0, 23, 0, 0),
  (23, .getfield 32, 26, 0, 0),
  (26, .invokevirtual 39, 29, 0, 0),
  (29, .if_icmp .ge 19, 32, 48, 0),
  (32, .aload_n 0, 33, 0, 0),
  (33, .getfield 32, 36, 0, 0),
  (36, .aload_n 0, 37, 0, 0),
  (37, .getfield 18, 40, 0, 0),
  (40, .invokevirtual 45, 43, 0, 0),
  (43, .bipush 58, 45, 0, 58),
  (45, .if_icmp .eq 5, 48, 50, 0),
  (48, .iconst 0, 49, 0, 0),
  (49, .ireturn, 50, 0, 0),
  (50, .aload_n 0, 51, 0, 0),
  (51, .aload_n 0, 52, 0, 0),
  (52, .getfield 18, 55, 0, 0),
  (55, .iconst 1, 56, 0, 1),
  (56, .iadd, 57, 0, 0),
  (57, .invokevirtual 49, 60, 0, 0),
  (60, .ifCond .ne 5, 63, 65, 0),
  (63, .iconst 0, 64, 0, 0),
  (64, .ireturn, 65, 0, 0),
  (65, .aload_n 0, 66, 0, 0),
  (66, .aload_n 0, 67, 0, 0),
  (67, .invokevirtual 53, 70, 0, 0),
  (70, .putfield 28, 73, 0, 0),
  (73, .iconst 1, 74, 0, 1),
  (74, .ireturn, 75, 0, 0)]
theorem tg_PT_parse : jj_good yb_PT_parse 1 tb_PT_parse := by unfold jj_good; decide +kernel
def tb_PT_rowEnd : jjTab := [(0, .iload_n 1, 1, 0, 0),
  (1, .istore_n 2, 2, 0, 0),
  (2, .iload_n 2, 3, 0, 0),
  (3, .aload_n 0, 4, 0, 0),
  (4, .getfield 32, 7, 0, 0),
  (7, .invokevirtual 39, 10, 0, 0),
  (10, .if_icmp .ge 23, 13, 33, 0),
  (13, .aload_n 0, 14, 0, 0),
  (14, .getfield 32, 17, 0, 0),
  (17, .iload_n 2, 18, 0, 0),
  (18, .invokevirtual 45, 21, 0, 0),
  (21, .invokestatic 64, 24, 0, 0),
  (24, .ifCond .eq 9, 27, 33, 0),
  (27, .iinc 2 1, 30, 0, 1),
  (30, .goto (-28), 33, 2, 0),
  (33, .iload_n 2, 34, 0, 0),
  (34, .ireturn, 35, 0, 0)]
theorem tg_PT_rowEnd : jj_good yb_PT_rowEnd 3 tb_PT_rowEnd := by unfold jj_good; decide +kernel
def tb_PT_isRowCharacter : jjTab := [(0, .iload_n 0, 1, 0, 0),
  (1, .bipush 97, 3, 0, 97),
  (3, .if_icmp .lt 9, 6, 12, 0),
  (6, .iload_n 0, 7, 0, 0),
  (7, .bipush 122, 9, 0, 122),
  (9, .if_icmp .le 27, 12, 36, 0),
  (12, .iload_n 0, 13, 0, 0),
  (13, .bipush 48, 15, 0, 48),
  (15, .if_icmp .lt 9, 18, 24, 0),
  (18, .iload_n 0, 19, 0, 0),
  (19, .bipush 57, 21, 0, 57),
  (21, .if_icmp .le 15, 24, 36, 0),
  (24, .iload_n 0, 25, 0, 0),
  (25, .bipush 63, 27, 0, 63),
  (27, .if_icmp .eq 9, 30, 36, 0),
  (30, .iload_n 0, 31, 0, 0),
  (31, .bipush 42, 33, 0, 42),
  (33, .if_icmp .ne 7, 36, 40, 0),
  (36, .iconst 1, 37, 0, 1),
  (37, .goto 4, 40, 41, 0),
  (40, .iconst 0, 41, 0, 0),
  (41, .ireturn, 42, 0, 0)]
theorem tg_PT_isRowCharacter : jj_good yb_PT_isRowCharacter 1 tb_PT_isRowCharacter := by unfold jj_good; decide +kernel
def tb_PT_parseList : jjTab := [(0, .iload_n 1, 1, 0, 0),
  (1, .istore_n 2, 2, 0, 0),
  (2, .iconst 0, 3, 0, 0),
  (3, .istore_n 3, 4, 0, 0),
  (4, .iload_n 3, 5, 0, 0),
  (5, .bipush 26, 7, 0, 26),
  (7, .if_icmp .gt 104, 10, 111, 0),
  (10, .iload_n 2, 11, 0, 0),
  (11, .aload_n 0, 12, 0, 0),
  (12, .getfield 32, 15, 0, 0),
  (15, .invokevirtual 39, 18, 0, 0),
  (18, .if_icmp .ge 93, 21, 111, 0),
  (21, .aload_n 0, 22, 0, 0),
  (22, .getfield 32, 25, 0, 0),
  (25, .iload_n 2, 26, 0, 0),
  (26, .invokevirtual 45, 29, 0, 0),
  (29, .bipush 42, 31, 0, 42),
  (31, .if_icmp .ne 27, 34, 58, 0),
  (34, .aload_n 0, 35, 0, 0),
  (35, .iconst 1, 36, 0, 1),
  (36, .putfield 22, 39, 0, 0),
  (39, .iload_n 2, 40, 0, 0),
  (40, .iconst 1, 41, 0, 1),
  (41, .iadd, 42, 0, 0),
  (42, .aload_n 0, 43, 0, 0),
  (43, .getfield 32, 46, 0, 0),
  (46, .invokevirtual 39, 49, 0, 0),
  (49, .if_icmp .ne 7, 52, 56, 0),
  (52, .iconst 1, 53, 0, 1),
  (53, .goto 4, 56, 57, 0),
  (56, .iconst 0, 57, 0, 0),
  (57, .ireturn, 58, 0, 0),
  (58, .aload_n 0, 59, 0, 0),
  (59, .iload_n 2, 60, 0, 0),
  (60, .invokevirtual 68, 63, 0, 0),
  (63, .istore 4, 65, 0, 0),
  (65, .iload 4, 67, 0, 0),
  (67, .aload_n 0, 68, 0, 0),
  (68, .getfield 32, 71, 0, 0),
  (71, .invokevirtual 39, 74, 0, 0),
  (74, .if_icmp .ne 5, 77, 79, 0),
  (77, .iconst 1, 78, 0, 1),
  (78, .ireturn, 79, 0, 0),
  (79, .iload 4, 81, 0, 0),
  (81, .ifCond .lt 17, 84, 98, 0),
  (84, .aload_n 0, 85, 0, 0),
  (85, .getfield 32, 88, 0, 0),
  (88, .iload 4, 90, 0, 0),
  (90, .invokevirtual 45, 93, 0, 0),
  (93, .bipush 44, 95, 0, 44),
  (95, .if_icmp .eq 5, 98, 100, 0),
  (98, .iconst 0, 99, 0, 0),
  (99, .ireturn, 100, 0, 0),
  (100, .iload 4, 102, 0, 0),
  (102, .iconst 1, 103, 0, 1),
  (103, .iadd, 104, 0, 0),
  (104, .istore_n 2, 105, 0, 0),
  (105, .iinc 3 1, 108, 0, 1),
  (108, .goto (-104), 111, 4, 0),
  (111, .iconst 0, 112, 0, 0),
  (112, .ireturn, 113, 0, 0)]
theorem tg_PT_parseList : jj_good yb_PT_parseList 5 tb_PT_parseList := by unfold jj_good; decide +kernel
def tb_PT_parseProperty : jjTab := [(0, .iload_n 1, 1, 0, 0),
  (1, .iconst 2, 2, 0, 2),
  (2, .iadd, 3, 0, 0),
  (3, .istore_n 2, 4, 0, 0),
  (4, .iload_n 2, 5, 0, 0),
  (5, .aload_n 0, 6, 0, 0),
  (6, .getfield 32, 9, 0, 0),
  (9, .invokevirtual 39, 12, 0, 0),
  (12, .if_icmp .ge 18, 15, 30, 0),
  (15, .aload_n 0, 16, 0, 0),
  (16, .getfield 32, 19, 0, 0),
  (19, .iload_n 1, 20, 0, 0),
  (20, .iconst 1, 21, 0, 1),
  (21, .iadd, 22, 0, 0),
  (22, .invokevirtual 45, 25, 0, 0),
  (25, .bipush 61, 27, 0, 61),
  (27, .if_icmp .eq 5, 30, 32, 0),
  (30, .iconst (-1), 31, 0, (-1)),
  (31, .ireturn, 32, 0, 0),
  (32, .aload_n 0, 33, 0, 0),
  (33, .getfield 32, 36, 0, 0),
  (36, .iload_n 1, 37, 0, 0),
  (37, .invokevirtual 45, 40, 0, 0),
  (40, .bipush 97, 42, 0, 97),
  (42, .isub, 43, 0, 0),
  (43, .istore_n 3, 44, 0, 0),
  (44, .iload_n 3, 45, 0, 0),
  (45, .ifCond .lt 18, 48, 63, 0),
  (48, .iload_n 3, 49, 0, 0),
  (49, .bipush 26, 51, 0, 26),
  (51, .if_icmp .ge 12, 54, 63, 0),
  (54, .aload_n 0, 55, 0, 0),
  (55, .getfield 9, 58, 0, 0),
  (58, .iload_n 3, 59, 0, 0),
  (59, .iaload, 60, 0, 0),
  (60, .ifCond .eq 5, 63, 65, 0),
  (63, .iconst (-1), 64, 0, (-1)),
  (64, .ireturn, 65, 0, 0),
  (65, .aload_n 0, 66, 0, 0),
  (66, .iload_n 2, 67, 0, 0),
  (67, .invokevirtual 35, 70, 0, 0),
  (70, .istore 4, 72, 0, 0),
  (72, .iload 4, 74, 0, 0),
  (74, .iload_n 2, 75, 0, 0),
  (75, .if_icmp .eq 11, 78, 86, 0),
  (78, .iload 4, 80, 0, 0),
  (80, .iload_n 2, 81, 0, 0),
  (81, .iconst 4, 82, 0, 4),
  (82, .iadd, 83, 0, 0),
  (83, .if_icmp .le 5, 86, 88, 0),
  (86, .iconst (-1), 87, 0, (-1)),
  (87, .ireturn, 88, 0, 0),
  (88, .aload_n 0, 89, 0, 0),
  (89, .getfield 9, 92, 0, 0),
  (92, .iload_n 3, 93, 0, 0),
  (93, .iload_n 2, 94, 0, 0),
  (94, .iastore, 95, 0, 0),
  (95, .aload_n 0, 96, 0, 0),
  (96, .getfield 15, 99, 0, 0),
  (99, .iload_n 3, 100, 0, 0),
  (100, .iload 4, 102, 0, 0),
  (102, .iastore, 103, 0, 0),
  (103, .iload 4, 105, 0, 0),
  (105, .ireturn, 106, 0, 0)]
theorem tg_PT_parseProperty : jj_good yb_PT_parseProperty 5 tb_PT_parseProperty := by unfold jj_good; decide +kernel
def tb_PT_ordered : jjTab := [(0, .new 71, 3, 0, 0),
  (3, .dup, 4, 0, 0),
  (4, .invokespecial 73, 7, 0, 0),
  (7, .astore_n 1, 8, 0, 0),
  (8, .aload_n 0, 9, 0, 0),
  (9, .iconst 0, 10, 0, 0),
  (10, .aload_n 0, 11, 0, 0),
  (11, .getfield 18, 14, 0, 0),
  (14, .iconst 1, 15, 0, 1),
  (15, .iadd, 16, 0, 0),
  (16, .aload_n 1, 17, 0, 0),
  (17, .invokevirtual 74, 20, 0, 0),
  (20, .aload_n 1, 21, 0, 0),
  (21, .invokevirtual 78, 24, 0, 0),
  (24, .istore_n 2, 25, 0, 0),
  (25, .iconst 0, 26, 0, 0),
  (26, .istore_n 3, 27, 0, 0),
  (27, .iload_n 3, 28, 0, 0),
  (28, .bipush 26, 30, 0, 26),
  (30, .if_icmp .ge 42, 33, 72, 0),
  (33, .aload_n 0, 34, 0, 0),
  (34, .getfield 9, 37, 0, 0),
  (37, .iload_n 3, 38, 0, 0),
  (38, .iaload, 39, 0, 0),
  (39, .ifCond .eq 27, 42, 66, 0),
  (42, .iload_n 2, 43, 0, 0),
  (43, .aload_n 1, 44, 0, 0),
  (44, .invokestatic 79, 47, 0, 0),
  (47, .aload_n 0, 48, 0, 0),
  (48, .aload_n 0, 49, 0, 0),
  (49, .getfield 9, 52, 0, 0),
  (52, .iload_n 3, 53, 0, 0),
  (53, .iaload, 54, 0, 0),
  (54, .iconst 2, 55, 0, 2),
  (55, .isub, 56, 0, 0),
  (56, .aload_n 0, 57, 0, 0),
  (57, .getfield 15, 60, 0, 0),
  (60, .iload_n 3, 61, 0, 0),
  (61, .iaload, 62, 0, 0),
  (62, .aload_n 1, 63, 0, 0),
  (63, .invokevirtual 74, 66, 0, 0),
  (66, .iinc 3 1, 69, 0, 1),
  (69, .goto (-42), 72, 27, 0),
  (72, .aload_n 0, 73, 0, 0),
  (73, .getfield 22, 76, 0, 0),
  (76, .ifCond .eq 15, 79, 91, 0),
  (79, .iload_n 2, 80, 0, 0),
  (80, .aload_n 1, 81, 0, 0),
  (81, .invokestatic 79, 84, 0, 0),
  (84, .aload_n 1, 85, 0, 0),
  (85, .bipush 42, 87, 0, 42),
  (87, .invokevirtual 83, 90, 0, 0),
  (90, .pop, 91, 0, 0),
  (91, .aload_n 1, 92, 0, 0),
  (92, .invokevirtual 87, 95, 0, 0),
  (95, .areturn, 96, 0, 0)]
theorem tg_PT_ordered : jj_good yb_PT_ordered 4 tb_PT_ordered := by unfold jj_good; decide +kernel
def tb_PT_copy : jjTab := [(0, .iload_n 1, 1, 0, 0),
  (1, .istore 4, 3, 0, 0),
  (3, .iload 4, 5, 0, 0),
  (5, .iload_n 2, 6, 0, 0),
  (6, .if_icmp .ge 23, 9, 29, 0),
  (9, .aload_n 3, 10, 0, 0),
  (10, .aload_n 0, 11, 0, 0),
  (11, .getfield 32, 14, 0, 0),
  (14, .iload 4, 16, 0, 0),
  (16, .invokevirtual 45, 19, 0, 0),
  (19, .invokevirtual 83, 22, 0, 0),
  (22, .pop, 23, 0, 0),
  (23, .iinc 4 1, 26, 0, 1),
  (26, .goto (-23), 29, 3, 0),
  (29, .return_, 30, 0, 0)]
theorem tg_PT_copy : jj_good yb_PT_copy 5 tb_PT_copy := by unfold jj_good; decide +kernel
def tb_PT_separate : jjTab := [(0, .aload_n 1, 1, 0, 0),
  (1, .invokevirtual 78, 4, 0, 0),
  (4, .iload_n 0, 5, 0, 0),
  (5, .if_icmp .le 10, 8, 15, 0),
  (8, .aload_n 1, 9, 0, 0),
  (9, .bipush 44, 11, 0, 44),
  (11, .invokevirtual 83, 14, 0, 0),
  (14, .pop, 15, 0, 0),
  (15, .return_, 16, 0, 0)]
theorem tg_PT_separate : jj_good yb_PT_separate 2 tb_PT_separate := by unfold jj_good; decide +kernel
def tb_PT_isName : jjTab := [(0, .aload_n 0, 1, 0, 0),
  (1, .getfield 18, 4, 0, 0),
  (4, .ifCond .le 31, 7, 35, 0),
  (7, .aload_n 0, 8, 0, 0),
  (8, .getfield 32, 11, 0, 0),
  (11, .bipush 42, 13, 0, 42),
  (13, .invokevirtual 57, 16, 0, 0),
  (16, .ifCond .ge 19, 19, 35, 0),
  (19, .aload_n 0, 20, 0, 0),
  (20, .getfield 32, 23, 0, 0),
  (23, .bipush 63, 25, 0, 63),
  (25, .invokevirtual 57, 28, 0, 0),
  (28, .ifCond .ge 7, 31, 35, 0),
  (31, .iconst 1, 32, 0, 1),
  (32, .goto 4, 35, 36, 0),
  (35, .iconst 0, 36, 0, 0),
  (36, .ireturn, 37, 0, 0)]
theorem tg_PT_isName : jj_good yb_PT_isName 1 tb_PT_isName := by unfold jj_good; decide +kernel
def tb_BE_init : jjTab := [(0, .aload_n 0, 1, 0, 0),
  (1, .invokespecial 3, 4, 0, 0),
  (4, .aload_n 0, 5, 0, 0),
  (5, .iconst 5, 6, 0, 5),
  (6, .newarray .int, 8, 0, 0),
  (8, .putfield 9, 11, 0, 0),
  (11, .aload_n 0, 12, 0, 0),
  (12, .iconst 5, 13, 0, 5),
  (13, .newarray .boolean, 15, 0, 0),
  (15, .putfield 15, 18, 0, 0),
  (18, .aload_n 0, 19, 0, 0),
  (19, .aload_n 1, 20, 0, 0),
  (20, .putfield 19, 23, 0, 0),
  (23, .return_, 24, 0, 0)]
theorem tg_BE_init : jj_good yb_BE_init 2 tb_BE_init := by unfold jj_good; decide +kernel
def tb_LG_give : jjTab := [(0, .aload_n 0, 1, 0, 0),
  (1, .dup, 2, 0, 0),
  (2, .getfield 31, 5, 0, 0),
  (5, .iconst 1, 6, 0, 1),
  (6, .iadd, 7, 0, 0),
  (7, .putfield 31, 10, 0, 0),
  (10, .aload_n 0, 11, 0, 0),
  (11, .getfield 34, 14, 0, 0),
  (14, .iload_n 1, 15, 0, 0),
  (15, .ishr, 16, 0, 0),
  (16, .iconst 1, 17, 0, 1),
  (17, .iand, 18, 0, 0),
  (18, .ifCond .ne 4, 21, 22, 0),
  (21, .return_, 22, 0, 0),
  (22, .aload_n 0, 23, 0, 0),
  (23, .getfield 9, 26, 0, 0),
  (26, .aload_n 0, 27, 0, 0),
  (27, .getfield 28, 30, 0, 0),
  (30, .aload_n 0, 31, 0, 0),
  (31, .getfield 31, 34, 0, 0),
  (34, .iastore, 35, 0, 0),
  (35, .aload_n 0, 36, 0, 0),
  (36, .getfield 15, 39, 0, 0),
  (39, .aload_n 0, 40, 0, 0),
  (40, .getfield 28, 43, 0, 0),
  (43, .iload_n 1, 44, 0, 0),
  (44, .iastore, 45, 0, 0),
  (45, .aload_n 0, 46, 0, 0),
  (46, .getfield 18, 49, 0, 0),
  (49, .aload_n 0, 50, 0, 0),
  (50, .getfield 28, 53, 0, 0),
  (53, .iload_n 2, 54, 0, 0),
  (54, .iastore, 55, 0, 0),
  (55, .aload_n 0, 56, 0, 0),
  (56, .getfield 21, 59, 0, 0),
  (59, .aload_n 0, 60, 0, 0),
  (60, .getfield 28, 63, 0, 0),
  (63, .iload_n 3, 64, 0, 0),
  (64, .iastore, 65, 0, 0),
  (65, .aload_n 0, 66, 0, 0),
  (66, .aload_n 0, 67, 0, 0),
  (67, .getfield 28, 70, 0, 0),
  (70, .iconst 1, 71, 0, 1),
  (71, .iadd, 72, 0, 0),
  (72, .bipush 16, 74, 0, 16),
  (74, .irem, 75, 0, 0),
  (75, .putfield 28, 78, 0, 0),
  (78, .aload_n 0, 79, 0, 0),
  (79, .aload_n 0, 80, 0, 0),
  (80, .getfield 24, 83, 0, 0),
  (83, .iconst 1, 84, 0, 1),
  (84, .iadd, 85, 0, 0),
  (85, .bipush 16, 87, 0, 16),
  (87, .invokestatic 37, 90, 0, 0),
  (90, .putfield 24, 93, 0, 0),
  (93, .return_, 94, 0, 0)]
theorem tg_LG_give : jj_good yb_LG_give 4 tb_LG_give := by unfold jj_good; decide +kernel
def tb_QR_init : jjTab := [(0, .aload_n 0, 1, 0, 0),
  (1, .invokespecial 3, 4, 0, 0),
  (4, .aload_n 0, 5, 0, 0),
  (5, .iconst 0, 6, 0, 0),
  (6, .putfield 9, 9, 0, 0),
  (9, .aload_n 0, 10, 0, 0),
  (10, .iconst 0, 11, 0, 0),
  (11, .putfield 15, 14, 0, 0),
  (14, .aload_n 0, 15, 0, 0),
  (15, .iconst 0, 16, 0, 0),
  (16, .putfield 19, 19, 0, 0),
  (19, .aload_n 0, 20, 0, 0),
  (20, .aload_n 1, 21, 0, 0),
  (21, .putfield 22, 24, 0, 0),
  (24, .aload_n 0, 25, 0, 0),
  (25, .aload_n 2, 26, 0, 0),
  (26, .putfield 26, 29, 0, 0),
  (29, .aload_n 0, 30, 0, 0),
  (30, .aload_n 1, 31, 0, 0),
  (31, .invokevirtual 30, 34, 0, 0),
  (34, .ifCond .eq 7, 37, 41, 0),
  (37, .iconst 0, 38, 0, 0),
  (38, .goto 8, 41, 46, 0),
  (41, .aload_n 1, 42, 0, 0),
  (42, .iconst 0, 43, 0, 0),
  (43, .invokevirtual 36, 46, 0, 0),
  (46, .putfield 40, 49, 0, 0),
  (49, .return_, 50, 0, 0)]
theorem tg_QR_init : jj_good yb_QR_init 3 tb_QR_init := by unfold jj_good; decide +kernel
def tb_QR_any : jjTab := [(0, .aload_n 0, 1, 0, 0),
  (1, .invokevirtual 44, 4, 0, 0),
  (4, .istore_n 1, 5, 0, 0),
  (5, .iconst 0, 6, 0, 0),
  (6, .istore_n 2, 7, 0, 0),
  (7, .iload_n 2, 8, 0, 0),
  (8, .aload_n 0, 9, 0, 0),
  (9, .getfield 22, 12, 0, 0),
  (12, .invokevirtual 48, 15, 0, 0),
  (15, .if_icmp .ge 37, 18, 52, 0),
  (18, .aload_n 0, 19, 0, 0),
  (19, .getfield 40, 22, 0, 0),
  (22, .bipush 124, 24, 0, 124),
  (24, .if_icmp .ne 28, 27, 52, 0),
  (27, .aload_n 0, 28, 0, 0),
  (28, .invokevirtual 51, 31, 0, 0),
  (31, .aload_n 0, 32, 0, 0),
  (32, .invokevirtual 44, 35, 0, 0),
  (35, .istore_n 3, 36, 0, 0),
  (36, .iload_n 1, 37, 0, 0),
  (37, .ifCond .ne 7, 40, 44, 0),
  (40, .iload_n 3, 41, 0, 0),
  (41, .goto 4, 44, 45, 0),
  (44, .iload_n 1, 45, 0, 0),
  (45, .istore_n 1, 46, 0, 0),
  (46, .iinc 2 1, 49, 0, 1),
  (49, .goto (-42), 52, 7, 0),
  (52, .iload_n 1, 53, 0, 0),
  (53, .ireturn, 54, 0, 0)]
theorem tg_QR_any : jj_good yb_QR_any 4 tb_QR_any := by unfold jj_good; decide +kernel
def tb_QR_all : jjTab := [(0, .aload_n 0, 1, 0, 0),
  (1, .invokevirtual 54, 4, 0, 0),
  (4, .istore_n 1, 5, 0, 0),
  (5, .iconst 0, 6, 0, 0),
  (6, .istore_n 2, 7, 0, 0),
  (7, .iload_n 2, 8, 0, 0),
  (8, .aload_n 0, 9, 0, 0),
  (9, .getfield 22, 12, 0, 0),
  (12, .invokevirtual 48, 15, 0, 0),
  (15, .if_icmp .ge 38, 18, 53, 0),
  (18, .aload_n 0, 19, 0, 0),
  (19, .getfield 40, 22, 0, 0),
  (22, .bipush 38, 24, 0, 38),
  (24, .if_icmp .ne 29, 27, 53, 0),
  (27, .aload_n 0, 28, 0, 0),
  (28, .invokevirtual 51, 31, 0, 0),
  (31, .aload_n 0, 32, 0, 0),
  (32, .invokevirtual 54, 35, 0, 0),
  (35, .istore_n 3, 36, 0, 0),
  (36, .iload_n 1, 37, 0, 0),
  (37, .iconst 1, 38, 0, 1),
  (38, .if_icmp .ne 7, 41, 45, 0),
  (41, .iload_n 3, 42, 0, 0),
  (42, .goto 4, 45, 46, 0),
  (45, .iload_n 1, 46, 0, 0),
  (46, .istore_n 1, 47, 0, 0),
  (47, .iinc 2 1, 50, 0, 1),
  (50, .goto (-43), 53, 7, 0),
  (53, .iload_n 1, 54, 0, 0),
  (54, .ireturn, 55, 0, 0)]
theorem tg_QR_all : jj_good yb_QR_all 4 tb_QR_all := by unfold jj_good; decide +kernel
def tb_QR_one : jjTab := [(0, .aload_n 0, 1, 0, 0),
  (1, .getfield 40, 4, 0, 0),
  (4, .bipush 33, 6, 0, 33),
  (6, .if_icmp .ne 25, 9, 31, 0),
  (9, .aload_n 0, 10, 0, 0),
  (10, .invokevirtual 51, 13, 0, 0),
  (13, .aload_n 0, 14, 0, 0),
  (14, .invokevirtual 54, 17, 0, 0),
  (17, .istore_n 1, 18, 0, 0),
  (18, .iload_n 1, 19, 0, 0),
  (19, .iconst 2, 20, 0, 2),
  (20, .if_icmp .ne 7, 23, 27, 0),
  (23, .iconst 2, 24, 0, 2),
  (24, .goto 6, 27, 30, 0),
  (27, .iconst 1, 28, 0, 1),
  (28, .iload_n 1, 29, 0, 0),
  (29, .isub, 30, 0, 0),
  (30, .ireturn, 31, 0, 0),
  (31, .aload_n 0, 32, 0, 0),
  (32, .getfield 40, 35, 0, 0),
  (35, .bipush 40, 37, 0, 40),
  (37, .if_icmp .ne 43, 40, 80, 0),
  (40, .aload_n 0, 41, 0, 0),
  (41, .invokevirtual 51, 44, 0, 0),
  (44, .aload_n 0, 45, 0, 0),
  (45, .invokevirtual 57, 48, 0, 0),
  (48, .istore_n 1, 49, 0, 0),
  (49, .aload_n 0, 50, 0, 0),
  (50, .aload_n 0, 51, 0, 0),
  (51, .getfield 15, 54, 0, 0),
  (54, .ifCond .ne 12, 57, 66, 0),
  (57, .aload_n 0, 58, 0, 0),
  (58, .getfield 40, 61, 0, 0),
  (61, .bipush 41, 63, 0, 41),
  (63, .if_icmp .eq 7, 66, 70, 0),
  (66, .iconst 1, 67, 0, 1),
  (67, .goto 4, 70, 71, 0),
  (70, .iconst 0, 71, 0, 0),
  (71, .putfield 15, 74, 0, 0),
  (74, .aload_n 0, 75, 0, 0),
  (75, .invokevirtual 51, 78, 0, 0),
  (78, .iload_n 1, 79, 0, 0),
  (79, .ireturn, 80, 0, 0),
  (80, .aload_n 0, 81, 0, 0),
  (81, .iconst 0, 82, 0, 0),
  (82, .putfield 19, 85, 0, 0),
  (85, .aload_n 0, 86, 0, 0),
  (86, .invokevirtual 60, 89, 0, 0),
  (89, .istore_n 1, 90, 0, 0),
  (90, .aload_n 0, 91, 0, 0),
  (91, .getfield 40, 94, 0, 0),
  (94, .istore_n 2, 95, 0, 0),
  (95, .aload_n 0, 96, 0, 0),
  (96, .aload_n 0, 97, 0, 0),
  (97, .getfield 15, 100, 0, 0),
  (100, .ifCond .ne 10, 103, 110, 0),
  (103, .iload_n 2, 104, 0, 0),
  (104, .invokestatic 63, 107, 0, 0),
  (107, .ifCond .ne 7, 110, 114, 0),
  (110, .iconst 1, 111, 0, 1),
  (111, .goto 4, 114, 115, 0),
  (114, .iconst 0, 115, 0, 0),
  (115, .putfield 15, 118, 0, 0),
  (118, .aload_n 0, 119, 0, 0),
  (119, .invokevirtual 51, 122, 0, 0),
  (122, .aload_n 0, 123, 0, 0),
  (123, .invokevirtual 60, 126, 0, 0),
  (126, .istore_n 3, 127, 0, 0),
  (127, .aload_n 0, 128, 0, 0),
  (128, .getfield 19, 131, 0, 0),
  (131, .ifCond .eq 7, 134, 138, 0),
  (134, .iconst 2, 135, 0, 2),
  (135, .goto 9, 138, 144, 0),
  (138, .iload_n 1, 139, 0, 0),
  (139, .iload_n 2, 140, 0, 0),
  (140, .iload_n 3, 141, 0, 0),
  (141, .invokestatic 67, 144, 0, 0),
  (144, .ireturn, 145, 0, 0)]
theorem tg_QR_one : jj_good yb_QR_one 4 tb_QR_one := by unfold jj_good; decide +kernel
def tb_QR_step : jjTab := [(0, .aload_n 0, 1, 0, 0),
  (1, .getfield 9, 4, 0, 0),
  (4, .aload_n 0, 5, 0, 0),
  (5, .getfield 22, 8, 0, 0),
  (8, .invokevirtual 48, 11, 0, 0),
  (11, .if_icmp .ge 13, 14, 24, 0),
  (14, .aload_n 0, 15, 0, 0),
  (15, .dup, 16, 0, 0),
  (16, .getfield 9, 19, 0, 0),
  (19, .iconst 1, 20, 0, 1),
  (20, .iadd, 21, 0, 0),
  (21, .putfield 9, 24, 0, 0),
  (24, .aload_n 0, 25, 0, 0),
  (25, .aload_n 0, 26, 0, 0),
  (26, .getfield 9, 29, 0, 0),
  (29, .aload_n 0, 30, 0, 0),
  (30, .getfield 22, 33, 0, 0),
  (33, .invokevirtual 48, 36, 0, 0),
  (36, .if_icmp .ge 17, 39, 53, 0),
  (39, .aload_n 0, 40, 0, 0),
  (40, .getfield 22, 43, 0, 0),
  (43, .aload_n 0, 44, 0, 0),
  (44, .getfield 9, 47, 0, 0),
  (47, .invokevirtual 36, 50, 0, 0),
  (50, .goto 4, 53, 54, 0),
  (53, .iconst 0, 54, 0, 0),
  (54, .putfield 40, 57, 0, 0),
  (57, .return_, 58, 0, 0)]
theorem tg_QR_step : jj_good yb_QR_step 1 tb_QR_step := by unfold jj_good; decide +kernel
def tb_QR_sum : jjTab := [(0, .aload_n 0, 1, 0, 0),
  (1, .invokevirtual 71, 4, 0, 0),
  (4, .istore_n 1, 5, 0, 0),
  (5, .iconst 0, 6, 0, 0),
  (6, .istore_n 2, 7, 0, 0),
  (7, .iload_n 2, 8, 0, 0),
  (8, .aload_n 0, 9, 0, 0),
  (9, .getfield 22, 12, 0, 0),
  (12, .invokevirtual 48, 15, 0, 0),
  (15, .if_icmp .ge 68, 18, 83, 0),
  (18, .aload_n 0, 19, 0, 0),
  (19, .getfield 40, 22, 0, 0),
  (22, .bipush 43, 24, 0, 43),
  (24, .if_icmp .eq 12, 27, 36, 0),
  (27, .aload_n 0, 28, 0, 0),
  (28, .getfield 40, 31, 0, 0),
  (31, .bipush 45, 33, 0, 45),
  (33, .if_icmp .ne 50, 36, 83, 0),
  (36, .aload_n 0, 37, 0, 0),
  (37, .getfield 40, 40, 0, 0),
  (40, .bipush 43, 42, 0, 43),
  (42, .if_icmp .ne 7, 45, 49, 0),
  (45, .iconst 1, 46, 0, 1),
  (46, .goto 4, 49, 50, 0),
  (49, .iconst 0, 50, 0, 0),
  (50, .istore_n 3, 51, 0, 0),
  (51, .aload_n 0, 52, 0, 0),
  (52, .invokevirtual 51, 55, 0, 0),
  (55, .aload_n 0, 56, 0, 0),
  (56, .invokevirtual 71, 59, 0, 0),
  (59, .istore 4, 61, 0, 0),
  (61, .iload_n 3, 62, 0, 0),
  (62, .ifCond .eq 10, 65, 72, 0),
  (65, .iload_n 1, 66, 0, 0),
  (66, .iload 4, 68, 0, 0),
  (68, .iadd, 69, 0, 0),
  (69, .goto 7, 72, 76, 0),
  (72, .iload_n 1, 73, 0, 0),
  (73, .iload 4, 75, 0, 0),
  (75, .isub, 76, 0, 0),
  (76, .istore_n 1, 77, 0, 0),
  (77, .iinc 2 1, 80, 0, 1),
  (80, .goto (-73), 83, 7, 0),
  (83, .iload_n 1, 84, 0, 0),
  (84, .ireturn, 85, 0, 0)]
theorem tg_QR_sum : jj_good yb_QR_sum 5 tb_QR_sum := by unfold jj_good; decide +kernel
def tb_QR_product : jjTab := [(0, .aload_n 0, 1, 0, 0),
  (1, .invokevirtual 74, 4, 0, 0),
  (4, .istore_n 1, 5, 0, 0),
  (5, .iconst 0, 6, 0, 0),
  (6, .istore_n 2, 7, 0, 0),
  (7, .iload_n 2, 8, 0, 0),
  (8, .aload_n 0, 9, 0, 0),
  (9, .getfield 22, 12, 0, 0),
  (12, .invokevirtual 48, 15, 0, 0),
  (15, .if_icmp .ge 82, 18, 97, 0),
  (18, .aload_n 0, 19, 0, 0),
  (19, .getfield 40, 22, 0, 0),
  (22, .bipush 42, 24, 0, 42),
  (24, .if_icmp .eq 12, 27, 36, 0),
  (27, .aload_n 0, 28, 0, 0),
  (28, .getfield 40, 31, 0, 0),
  (31, .bipush 47, 33, 0, 47),
  (33, .if_icmp .ne 64, 36, 97, 0),
  (36, .aload_n 0, 37, 0, 0),
  (37, .getfield 40, 40, 0, 0),
  (40, .bipush 42, 42, 0, 42),
  (42, .if_icmp .ne 7, 45, 49, 0),
  (45, .iconst 1, 46, 0, 1),
  (46, .goto 4, 49, 50, 0),
  (49, .iconst 0, 50, 0, 0),
  (50, .istore_n 3, 51, 0, 0),
  (51, .aload_n 0, 52, 0, 0),
  (52, .invokevirtual 51, 55, 0, 0),
  (55, .aload_n 0, 56, 0, 0),
  (56, .invokevirtual 74, 59, 0, 0),
  (59, .istore 4, 61, 0, 0),
  (61, .iload_n 3, 62, 0, 0),
  (62, .ifCond .eq 11, 65, 73, 0),
  (65, .iload_n 1, 66, 0, 0),
  (66, .iload 4, 68, 0, 0),
  (68, .imul, 69, 0, 0),
  (69, .istore_n 1, 70, 0, 0),
  (70, .goto 21, 73, 91, 0),
  (73, .iload 4, 75, 0, 0),
  (75, .ifCond .ne 11, 78, 86, 0),
  (78, .aload_n 0, 79, 0, 0),
  (79, .iconst 1, 80, 0, 1),
  (80, .putfield 19, 83, 0, 0),
  (83, .goto 8, 86, 91, 0),
  (86, .iload_n 1, 87, 0, 0),
  (87, .iload 4, 89, 0, 0),
  (89, .idiv, 90, 0, 0),
  (90, .istore_n 1, 91, 0, 0),
  (91, .iinc 2 1, 94, 0, 1),
  (94, .goto (-87), 97, 7, 0),
  (97, .iload_n 1, 98, 0, 0),
  (98, .ireturn, 99, 0, 0)]
theorem tg_QR_product : jj_good yb_QR_product 5 tb_QR_product := by unfold jj_good; decide +kernel
def tb_QR_unit : jjTab := [(0, .aload_n 0, 1, 0, 0),
  (1, .getfield 40, 4, 0, 0),
  (4, .bipush 97, 6, 0, 97),
  (6, .if_icmp .lt 60, 9, 66, 0),
  (9, .aload_n 0, 10, 0, 0),
  (10, .getfield 40, 13, 0, 0),
  (13, .bipush 102, 15, 0, 102),
  (15, .if_icmp .ge 51, 18, 66, 0),
  (18, .aload_n 0, 19, 0, 0),
  (19, .getfield 40, 22, 0, 0),
  (22, .bipush 97, 24, 0, 97),
  (24, .isub, 25, 0, 0),
  (25, .istore_n 1, 26, 0, 0),
  (26, .aload_n 0, 27, 0, 0),
  (27, .invokevirtual 51, 30, 0, 0),
  (30, .aload_n 0, 31, 0, 0),
  (31, .getfield 26, 34, 0, 0),
  (34, .ifnull 25, 37, 59, 0),
  (37, .aload_n 0, 38, 0, 0),
  (38, .getfield 26, 41, 0, 0),
  (41, .getfield 77, 44, 0, 0),
  (44, .iload_n 1, 45, 0, 0),
  (45, .baload, 46, 0, 0),
  (46, .ifCond .eq 13, 49, 59, 0),
  (49, .aload_n 0, 50, 0, 0),
  (50, .getfield 26, 53, 0, 0),
  (53, .getfield 83, 56, 0, 0),
  (56, .iload_n 1, 57, 0, 0),
  (57, .iaload, 58, 0, 0),
  (58, .ireturn, 59, 0, 0),
  (59, .aload_n 0, 60, 0, 0),
  (60, .iconst 1, 61, 0, 1),
  (61, .putfield 19, 64, 0, 0),
  (64, .iconst 0, 65, 0, 0),
  (65, .ireturn, 66, 0, 0),
  (66, .aload_n 0, 67, 0, 0),
  (67, .aload_n 0, 68, 0, 0),
  (68, .getfield 15, 71, 0, 0),
  (71, .ifCond .ne 21, 74, 92, 0),
  (74, .aload_n 0, 75, 0, 0),
  (75, .getfield 40, 78, 0, 0),
  (78, .bipush 48, 80, 0, 48),
  (80, .if_icmp .lt 12, 83, 92, 0),
  (83, .aload_n 0, 84, 0, 0),
  (84, .getfield 40, 87, 0, 0),
  (87, .bipush 57, 89, 0, 57),
  (89, .if_icmp .le 7, 92, 96, 0),
  (92, .iconst 1, 93, 0, 1),
  (93, .goto 4, 96, 97, 0),
  (96, .iconst 0, 97, 0, 0),
  (97, .putfield 15, 100, 0, 0),
  (100, .iconst 0, 101, 0, 0),
  (101, .istore_n 1, 102, 0, 0),
  (102, .iconst 0, 103, 0, 0),
  (103, .istore_n 2, 104, 0, 0),
  (104, .iload_n 2, 105, 0, 0),
  (105, .iconst 4, 106, 0, 4),
  (106, .if_icmp .ge 44, 109, 150, 0),
  (109, .aload_n 0, 110, 0, 0),
  (110, .getfield 40, 113, 0, 0),
  (113, .bipush 48, 115, 0, 48),
  (115, .if_icmp .lt 35, 118, 150, 0),
  (118, .aload_n 0, 119, 0, 0),
  (119, .getfield 40, 122, 0, 0),
  (122, .bipush 57, 124, 0, 57),
  (124, .if_icmp .gt 26, 127, 150, 0),
  (127, .iload_n 1, 128, 0, 0),
  (128, .bipush 10, 130, 0, 10),
  (130, .imul, 131, 0, 0),
  (131, .aload_n 0, 132, 0, 0),
  (132, .getfield 40, 135, 0, 0),
  (135, .bipush 48, 137, 0, 48),
  (137, .isub, 138, 0, 0),
  (138, .iadd, 139, 0, 0),
  (139, .istore_n 1, 140, 0, 0),
  (140, .aload_n 0, 141, 0, 0),
  (141, .invokevirtual 51, 144, 0, 0),
  (144, .iinc 2 1, 147, 0, 1),
  (147, .goto (-43), 150, 104, 0),
  (150, .iload_n 1, 151, 0, 0),
  (151, .ireturn, 152, 0, 0)]
theorem tg_QR_unit : jj_good yb_QR_unit 3 tb_QR_unit := by unfold jj_good; decide +kernel
def tb_QR_isRelation : jjTab := [(0, .iload_n 0, 1, 0, 0),
  (1, .bipush 61, 3, 0, 61),
  (3, .if_icmp .eq 21, 6, 24, 0),
  (6, .iload_n 0, 7, 0, 0),
  (7, .bipush 60, 9, 0, 60),
  (9, .if_icmp .eq 15, 12, 24, 0),
  (12, .iload_n 0, 13, 0, 0),
  (13, .bipush 62, 15, 0, 62),
  (15, .if_icmp .eq 9, 18, 24, 0),
  (18, .iload_n 0, 19, 0, 0),
  (19, .bipush 35, 21, 0, 35),
  (21, .if_icmp .ne 7, 24, 28, 0),
  (24, .iconst 1, 25, 0, 1),
  (25, .goto 4, 28, 29, 0),
  (28, .iconst 0, 29, 0, 0),
  (29, .ireturn, 30, 0, 0)]
theorem tg_QR_isRelation : jj_good yb_QR_isRelation 1 tb_QR_isRelation := by unfold jj_good; decide +kernel
def tb_QR_compared : jjTab := [(0, .iload_n 1, 1, 0, 0),
  (1, .bipush 61, 3, 0, 61),
  (3, .if_icmp .ne 8, 6, 11, 0),
  (6, .iload_n 0, 7, 0, 0),
  (7, .iload_n 2, 8, 0, 0),
  (8, .if_icmp .eq 36, 11, 44, 0),
  (11, .iload_n 1, 12, 0, 0),
  (12, .bipush 60, 14, 0, 60),
  (14, .if_icmp .ne 8, 17, 22, 0),
  (17, .iload_n 0, 18, 0, 0),
  (18, .iload_n 2, 19, 0, 0),
  (19, .if_icmp .lt 25, 22, 44, 0),
  (22, .iload_n 1, 23, 0, 0),
  (23, .bipush 62, 25, 0, 62),
  (25, .if_icmp .ne 8, 28, 33, 0),
  (28, .iload_n 0, 29, 0, 0),
  (29, .iload_n 2, 30, 0, 0),
  (30, .if_icmp .gt 14, 33, 44, 0),
  (33, .iload_n 1, 34, 0, 0),
  (34, .bipush 35, 36, 0, 35),
  (36, .if_icmp .ne 12, 39, 48, 0),
  (39, .iload_n 0, 40, 0, 0),
  (40, .iload_n 2, 41, 0, 0),
  (41, .if_icmp .eq 7, 44, 48, 0),
  (44, .iconst 1, 45, 0, 1),
  (45, .goto 4, 48, 49, 0),
  (48, .iconst 0, 49, 0, 0),
  (49, .istore_n 3, 50, 0, 0),
  (50, .iload_n 3, 51, 0, 0),
  (51, .ifCond .eq 7, 54, 58, 0),
  (54, .iconst 1, 55, 0, 1),
  (55, .goto 4, 58, 59, 0),
  (58, .iconst 0, 59, 0, 0),
  (59, .ireturn, 60, 0, 0)]
theorem tg_QR_compared : jj_good yb_QR_compared 4 tb_QR_compared := by unfold jj_good; decide +kernel
def tb_QF_init : jjTab := [(0, .aload_n 0, 1, 0, 0),
  (1, .invokespecial 3, 4, 0, 0),
  (4, .aload_n 0, 5, 0, 0),
  (5, .new 9, 8, 0, 0),
  (8, .dup, 9, 0, 0),
  (9, .invokespecial 11, 12, 0, 0),
  (12, .putfield 12, 15, 0, 0),
  (15, .aload_n 0, 16, 0, 0),
  (16, .bipush 8, 18, 0, 8),
  (18, .newarray .int, 20, 0, 0),
  (20, .putfield 18, 23, 0, 0),
  (23, .aload_n 0, 24, 0, 0),
  (24, .iconst 0, 25, 0, 0),
  (25, .putfield 22, 28, 0, 0),
  (28, .aload_n 0, 29, 0, 0),
  (29, .aload_n 1, 30, 0, 0),
  (30, .putfield 26, 33, 0, 0),
  (33, .return_, 34, 0, 0)]
theorem tg_QF_init : jj_good yb_QF_init 2 tb_QF_init := by unfold jj_good; decide +kernel
def tb_QF_written : jjTab := [(0, .iconst 0, 1, 0, 0),
  (1, .istore_n 1, 2, 0, 0),
  (2, .iload_n 1, 3, 0, 0),
  (3, .aload_n 0, 4, 0, 0),
  (4, .getfield 26, 7, 0, 0),
  (7, .invokevirtual 30, 10, 0, 0),
  (10, .if_icmp .ge 112, 13, 122, 0),
  (13, .aload_n 0, 14, 0, 0),
  (14, .getfield 26, 17, 0, 0),
  (17, .iload_n 1, 18, 0, 0),
  (18, .invokevirtual 36, 21, 0, 0),
  (21, .istore_n 2, 22, 0, 0),
  (22, .iload_n 1, 23, 0, 0),
  (23, .iconst 1, 24, 0, 1),
  (24, .iadd, 25, 0, 0),
  (25, .aload_n 0, 26, 0, 0),
  (26, .getfield 26, 29, 0, 0),
  (29, .invokevirtual 30, 32, 0, 0),
  (32, .if_icmp .ge 16, 35, 48, 0),
  (35, .aload_n 0, 36, 0, 0),
  (36, .getfield 26, 39, 0, 0),
  (39, .iload_n 1, 40, 0, 0),
  (40, .iconst 1, 41, 0, 1),
  (41, .iadd, 42, 0, 0),
  (42, .invokevirtual 36, 45, 0, 0),
  (45, .goto 4, 48, 49, 0),
  (48, .iconst 0, 49, 0, 0),
  (49, .istore_n 3, 50, 0, 0),
  (50, .iload_n 2, 51, 0, 0),
  (51, .bipush 40, 53, 0, 40),
  (53, .if_icmp .ne 10, 56, 63, 0),
  (56, .aload_n 0, 57, 0, 0),
  (57, .invokevirtual 40, 60, 0, 0),
  (60, .goto 56, 63, 116, 0),
  (63, .iload_n 2, 64, 0, 0),
  (64, .bipush 41, 66, 0, 41),
  (66, .if_icmp .ne 11, 69, 77, 0),
  (69, .aload_n 0, 70, 0, 0),
  (70, .iload_n 3, 71, 0, 0),
  (71, .invokevirtual 43, 74, 0, 0),
  (74, .goto 42, 77, 116, 0),
  (77, .iload_n 2, 78, 0, 0),
  (78, .bipush 48, 80, 0, 48),
  (80, .if_icmp .ne 27, 83, 107, 0),
  (83, .iload_n 3, 84, 0, 0),
  (84, .invokestatic 47, 87, 0, 0),
  (87, .ifCond .eq 20, 90, 107, 0),
  (90, .aload_n 0, 91, 0, 0),
  (91, .aload_n 0, 92, 0, 0),
  (92, .getfield 12, 95, 0, 0),
  (95, .invokevirtual 51, 98, 0, 0),
  (98, .invokevirtual 52, 101, 0, 0),
  (101, .invokestatic 47, 104, 0, 0),
  (104, .ifCond .eq 12, 107, 116, 0),
  (107, .aload_n 0, 108, 0, 0),
  (108, .getfield 12, 111, 0, 0),
  (111, .iload_n 2, 112, 0, 0),
  (112, .invokevirtual 55, 115, 0, 0),
  (115, .pop, 116, 0, 0),
  (116, .iinc 1 1, 119, 0, 1),
  (119, .goto (-117), 122, 2, 0),
  (122, .aload_n 0, 123, 0, 0),
  (123, .getfield 12, 126, 0, 0),
  (126, .invokevirtual 59, 129, 0, 0),
  (129, .areturn, 130, 0, 0)]
theorem tg_QF_written : jj_good yb_QF_written 4 tb_QF_written := by unfold jj_good; decide +kernel
def tb_QF_openParenthesis : jjTab := [(0, .aload_n 0, 1, 0, 0),
  (1, .getfield 22, 4, 0, 0),
  (4, .bipush 8, 6, 0, 8),
  (6, .if_icmp .ge 39, 9, 45, 0),
  (9, .aload_n 0, 10, 0, 0),
  (10, .getfield 18, 13, 0, 0),
  (13, .aload_n 0, 14, 0, 0),
  (14, .getfield 22, 17, 0, 0),
  (17, .aload_n 0, 18, 0, 0),
  (18, .getfield 12, 21, 0, 0),
  (21, .invokevirtual 51, 24, 0, 0),
  (24, .iastore, 25, 0, 0),
  (25, .aload_n 0, 26, 0, 0),
  (26, .dup, 27, 0, 0),
  (27, .getfield 22, 30, 0, 0),
  (30, .iconst 1, 31, 0, 1),
  (31, .iadd, 32, 0, 0),
  (32, .putfield 22, 35, 0, 0),
  (35, .aload_n 0, 36, 0, 0),
  (36, .getfield 12, 39, 0, 0),
  (39, .bipush 40, 41, 0, 40),
  (41, .invokevirtual 55, 44, 0, 0),
  (44, .pop, 45, 0, 0),
  (45, .return_, 46, 0, 0)]
theorem tg_QF_openParenthesis : jj_good yb_QF_openParenthesis 1 tb_QF_openParenthesis := by unfold jj_good; decide +kernel
def tb_QF_closeParenthesis : jjTab := [(0, .aload_n 0, 1, 0, 0),
  (1, .getfield 22, 4, 0, 0),
  (4, .ifCond .ne 4, 7, 8, 0),
  (7, .return_, 8, 0, 0),
  (8, .aload_n 0, 9, 0, 0),
  (9, .dup, 10, 0, 0),
  (10, .getfield 22, 13, 0, 0),
  (13, .iconst 1, 14, 0, 1),
  (14, .isub, 15, 0, 0),
  (15, .putfield 22, 18, 0, 0),
  (18, .aload_n 0, 19, 0, 0),
  (19, .getfield 18, 22, 0, 0),
  (22, .aload_n 0, 23, 0, 0),
  (23, .getfield 22, 26, 0, 0),
  (26, .iaload, 27, 0, 0),
  (27, .istore_n 2, 28, 0, 0),
  (28, .aload_n 0, 29, 0, 0),
  (29, .iload_n 2, 30, 0, 0),
  (30, .invokevirtual 52, 33, 0, 0),
  (33, .aload_n 0, 34, 0, 0),
  (34, .iload_n 2, 35, 0, 0),
  (35, .iconst 1, 36, 0, 1),
  (36, .iadd, 37, 0, 0),
  (37, .invokevirtual 63, 40, 0, 0),
  (40, .iload_n 1, 41, 0, 0),
  (41, .invokestatic 66, 44, 0, 0),
  (44, .ifCond .eq 16, 47, 60, 0),
  (47, .aload_n 0, 48, 0, 0),
  (48, .getfield 12, 51, 0, 0),
  (51, .bipush 41, 53, 0, 41),
  (53, .invokevirtual 55, 56, 0, 0),
  (56, .pop, 57, 0, 0),
  (57, .goto 12, 60, 69, 0),
  (60, .aload_n 0, 61, 0, 0),
  (61, .getfield 12, 64, 0, 0),
  (64, .iload_n 2, 65, 0, 0),
  (65, .invokevirtual 70, 68, 0, 0),
  (68, .pop, 69, 0, 0),
  (69, .return_, 70, 0, 0)]
theorem tg_QF_closeParenthesis : jj_good yb_QF_closeParenthesis 3 tb_QF_closeParenthesis := by unfold jj_good; decide +kernel
def tb_QF_lastBefore : jjTab := [(0, .iload_n 1, 1, 0, 0),
  (1, .ifCond .le 27, 4, 28, 0),
  (4, .iload_n 1, 5, 0, 0),
  (5, .aload_n 0, 6, 0, 0),
  (6, .getfield 12, 9, 0, 0),
  (9, .invokevirtual 51, 12, 0, 0),
  (12, .if_icmp .gt 16, 15, 28, 0),
  (15, .aload_n 0, 16, 0, 0),
  (16, .getfield 12, 19, 0, 0),
  (19, .iload_n 1, 20, 0, 0),
  (20, .iconst 1, 21, 0, 1),
  (21, .isub, 22, 0, 0),
  (22, .invokevirtual 74, 25, 0, 0),
  (25, .goto 4, 28, 29, 0),
  (28, .iconst 0, 29, 0, 0),
  (29, .ireturn, 30, 0, 0)]
theorem tg_QF_lastBefore : jj_good yb_QF_lastBefore 2 tb_QF_lastBefore := by unfold jj_good; decide +kernel
def tb_QF_jointFrom : jjTab := [(0, .iconst 0, 1, 0, 0),
  (1, .istore_n 2, 2, 0, 0),
  (2, .iconst 0, 3, 0, 0),
  (3, .istore_n 3, 4, 0, 0),
  (4, .iload_n 1, 5, 0, 0),
  (5, .istore 4, 7, 0, 0),
  (7, .iload 4, 9, 0, 0),
  (9, .aload_n 0, 10, 0, 0),
  (10, .getfield 12, 13, 0, 0),
  (13, .invokevirtual 51, 16, 0, 0),
  (16, .if_icmp .ge 71, 19, 87, 0),
  (19, .aload_n 0, 20, 0, 0),
  (20, .getfield 12, 23, 0, 0),
  (23, .iload 4, 25, 0, 0),
  (25, .invokevirtual 74, 28, 0, 0),
  (28, .istore 5, 30, 0, 0),
  (30, .iload 5, 32, 0, 0),
  (32, .bipush 40, 34, 0, 40),
  (34, .if_icmp .ne 9, 37, 43, 0),
  (37, .iinc 3 1, 40, 0, 1),
  (40, .goto 41, 43, 81, 0),
  (43, .iload 5, 45, 0, 0),
  (45, .bipush 41, 47, 0, 41),
  (47, .if_icmp .ne 9, 50, 56, 0),
  (50, .iinc 3 (-1), 53, 0, (-1)),
  (53, .goto 28, 56, 81, 0),
  (56, .iload_n 3, 57, 0, 0),
  (57, .ifCond .ne 24, 60, 81, 0),
  (60, .iload 5, 62, 0, 0),
  (62, .bipush 124, 64, 0, 124),
  (64, .if_icmp .eq 14, 67, 78, 0),
  (67, .iload 5, 69, 0, 0),
  (69, .bipush 38, 71, 0, 38),
  (71, .if_icmp .ne 10, 74, 81, 0),
  (74, .iload_n 2, 75, 0, 0),
  (75, .ifCond .ne 6, 78, 81, 0),
  (78, .iload 5, 80, 0, 0),
  (80, .istore_n 2, 81, 0, 0),
  (81, .iinc 4 1, 84, 0, 1),
  (84, .goto (-77), 87, 7, 0),
  (87, .iload_n 2, 88, 0, 0),
  (88, .ireturn, 89, 0, 0)]
theorem tg_QF_jointFrom : jj_good yb_QF_jointFrom 6 tb_QF_jointFrom := by unfold jj_good; decide +kernel
def tb_QF_isNeeded : jjTab := [(0, .iload_n 0, 1, 0, 0),
  (1, .bipush 33, 3, 0, 33),
  (3, .if_icmp .ne 13, 6, 16, 0),
  (6, .iload_n 1, 7, 0, 0),
  (7, .ifCond .eq 7, 10, 14, 0),
  (10, .iconst 1, 11, 0, 1),
  (11, .goto 4, 14, 15, 0),
  (14, .iconst 0, 15, 0, 0),
  (15, .ireturn, 16, 0, 0),
  (16, .iload_n 1, 17, 0, 0),
  (17, .bipush 124, 19, 0, 124),
  (19, .if_icmp .ne 19, 22, 38, 0),
  (22, .iload_n 0, 23, 0, 0),
  (23, .bipush 38, 25, 0, 38),
  (25, .if_icmp .eq 9, 28, 34, 0),
  (28, .iload_n 2, 29, 0, 0),
  (29, .bipush 38, 31, 0, 38),
  (31, .if_icmp .ne 7, 34, 38, 0),
  (34, .iconst 1, 35, 0, 1),
  (35, .goto 4, 38, 39, 0),
  (38, .iconst 0, 39, 0, 0),
  (39, .ireturn, 40, 0, 0)]
theorem tg_QF_isNeeded : jj_good yb_QF_isNeeded 3 tb_QF_isNeeded := by unfold jj_good; decide +kernel
def tb_QF_isDigit : jjTab := [(0, .iload_n 0, 1, 0, 0),
  (1, .bipush 48, 3, 0, 48),
  (3, .if_icmp .lt 13, 6, 16, 0),
  (6, .iload_n 0, 7, 0, 0),
  (7, .bipush 57, 9, 0, 57),
  (9, .if_icmp .gt 7, 12, 16, 0),
  (12, .iconst 1, 13, 0, 1),
  (13, .goto 4, 16, 17, 0),
  (16, .iconst 0, 17, 0, 0),
  (17, .ireturn, 18, 0, 0)]
theorem tg_QF_isDigit : jj_good yb_QF_isDigit 1 tb_QF_isDigit := by unfold jj_good; decide +kernel
def tb_QU_init : jjTab := [(0, .aload_n 0, 1, 0, 0),
  (1, .invokespecial 1, 4, 0, 0),
  (4, .aload_n 0, 5, 0, 0),
  (5, .aload_n 1, 6, 0, 0),
  (6, .putfield 7, 9, 0, 0),
  (9, .return_, 10, 0, 0)]
theorem tg_QU_init : jj_good yb_QU_init 2 tb_QU_init := by unfold jj_good; decide +kernel
def tb_PT_fits : jjTab := [(0, .aload_n 0, 1, 0, 0),
  (1, .iconst 0, 2, 0, 0),
  (2, .aload_n 0, 3, 0, 0),
  (3, .getfield 18, 6, 0, 0),
  (6, .aload_n 1, 7, 0, 0),
  (7, .getfield 32, 10, 0, 0),
  (10, .iconst 0, 11, 0, 0),
  (11, .aload_n 1, 12, 0, 0),
  (12, .getfield 18, 15, 0, 0),
  (15, .invokevirtual 60, 18, 0, 0),
  (18, .ifCond .ne 5, 21, 23, 0),
  (21, .iconst 0, 22, 0, 0),
  (22, .ireturn, 23, 0, 0),
  (23, .iconst 0, 24, 0, 0),
  (24, .istore_n 2, 25, 0, 0),
  (25, .iload_n 2, 26, 0, 0),
  (26, .bipush 26, 28, 0, 26),
  (28, .if_icmp .ge 87, 31, 115, 0),
  (31, .aload_n 1, 32, 0, 0),
  (32, .getfield 9, 35, 0, 0),
  (35, .iload_n 2, 36, 0, 0),
  (36, .iaload, 37, 0, 0),
  (37, .ifCond .eq 7, 40, 44, 0),
  (40, .iconst 1, 41, 0, 1),
  (41, .goto 4, 44, 45, 0),
  (44, .iconst 0, 45, 0, 0),
  (45, .istore_n 3, 46, 0, 0),
  (46, .aload_n 0, 47, 0, 0),
  (47, .getfield 9, 50, 0, 0),
  (50, .iload_n 2, 51, 0, 0),
  (51, .iaload, 52, 0, 0),
  (52, .ifCond .ne 16, 55, 68, 0),
  (55, .iload_n 3, 56, 0, 0),
  (56, .ifCond .eq 53, 59, 109, 0),
  (59, .aload_n 0, 60, 0, 0),
  (60, .getfield 22, 63, 0, 0),
  (63, .ifCond .ne 46, 66, 109, 0),
  (66, .iconst 0, 67, 0, 0),
  (67, .ireturn, 68, 0, 0),
  (68, .iload_n 3, 69, 0, 0),
  (69, .ifCond .eq 38, 72, 107, 0),
  (72, .aload_n 0, 73, 0, 0),
  (73, .aload_n 0, 74, 0, 0),
  (74, .getfield 9, 77, 0, 0),
  (77, .iload_n 2, 78, 0, 0),
  (78, .iaload, 79, 0, 0),
  (79, .aload_n 0, 80, 0, 0),
  (80, .getfield 15, 83, 0, 0),
  (83, .iload_n 2, 84, 0, 0),
  (84, .iaload, 85, 0, 0),
  (85, .aload_n 1, 86, 0, 0),
  (86, .getfield 32, 89, 0, 0),
  (89, .aload_n 1, 90, 0, 0),
  (90, .getfield 9, 93, 0, 0),
  (93, .iload_n 2, 94, 0, 0),
  (94, .iaload, 95, 0, 0),
  (95, .aload_n 1, 96, 0, 0),
  (96, .getfield 15, 99, 0, 0),
  (99, .iload_n 2, 100, 0, 0),
  (100, .iaload, 101, 0, 0),
  (101, .invokevirtual 60, 104, 0, 0),
  (104, .ifCond .ne 5, 107, 109, 0),
  (107, .iconst 0, 108, 0, 0),
  (108, .ireturn, 109, 0, 0),
  (109, .iinc 2 1, 112, 0, 1),
  (112, .goto (-87), 115, 25, 0),
  (115, .iconst 1, 116, 0, 1),
  (116, .ireturn, 117, 0, 0)]
theorem tg_PT_fits : jj_good yb_PT_fits 4 tb_PT_fits := by unfold jj_good; decide +kernel
def tb_PT_standsFor : jjTab := [(0, .iconst 1, 1, 0, 1),
  (1, .istore 6, 3, 0, 0),
  (3, .iload_n 1, 4, 0, 0),
  (4, .istore 7, 6, 0, 0),
  (6, .iload 7, 8, 0, 0),
  (8, .iload_n 2, 9, 0, 0),
  (9, .if_icmp .ge 52, 12, 61, 0),
  (12, .aload_n 0, 13, 0, 0),
  (13, .getfield 32, 16, 0, 0),
  (16, .iload 7, 18, 0, 0),
  (18, .invokevirtual 45, 21, 0, 0),
  (21, .istore 8, 23, 0, 0),
  (23, .iload 8, 25, 0, 0),
  (25, .bipush 42, 27, 0, 42),
  (27, .if_icmp .ne 14, 30, 41, 0),
  (30, .iload 6, 32, 0, 0),
  (32, .iload 6, 34, 0, 0),
  (34, .ineg, 35, 0, 0),
  (35, .ior, 36, 0, 0),
  (36, .istore 6, 38, 0, 0),
  (38, .goto 17, 41, 55, 0),
  (41, .iload 8, 43, 0, 0),
  (43, .iload 6, 45, 0, 0),
  (45, .aload_n 3, 46, 0, 0),
  (46, .iload 4, 48, 0, 0),
  (48, .iload 5, 50, 0, 0),
  (50, .invokestatic 90, 53, 0, 0),
  (53, .istore 6, 55, 0, 0),
  (55, .iinc 7 1, 58, 0, 1),
  (58, .goto (-52), 61, 6, 0),
  (61, .iload 6, 63, 0, 0),
  (63, .iload 5, 65, 0, 0),
  (65, .iload 4, 67, 0, 0),
  (67, .isub, 68, 0, 0),
  (68, .ishr, 69, 0, 0),
  (69, .iconst 1, 70, 0, 1),
  (70, .iand, 71, 0, 0),
  (71, .iconst 1, 72, 0, 1),
  (72, .if_icmp .ne 7, 75, 79, 0),
  (75, .iconst 1, 76, 0, 1),
  (76, .goto 4, 79, 80, 0),
  (79, .iconst 0, 80, 0, 0),
  (80, .ireturn, 81, 0, 0)]
theorem tg_PT_standsFor : jj_good yb_PT_standsFor 9 tb_PT_standsFor := by unfold jj_good; decide +kernel
def tb_PT_reachedBehind : jjTab := [(0, .iconst 0, 1, 0, 0),
  (1, .istore 5, 3, 0, 0),
  (3, .iload_n 3, 4, 0, 0),
  (4, .istore 6, 6, 0, 0),
  (6, .iload 6, 8, 0, 0),
  (8, .iload 4, 10, 0, 0),
  (10, .if_icmp .ge 52, 13, 62, 0),
  (13, .iload 6, 15, 0, 0),
  (15, .iload_n 3, 16, 0, 0),
  (16, .isub, 17, 0, 0),
  (17, .istore 7, 19, 0, 0),
  (19, .iload_n 1, 20, 0, 0),
  (20, .iload 7, 22, 0, 0),
  (22, .ishr, 23, 0, 0),
  (23, .iconst 1, 24, 0, 1),
  (24, .iand, 25, 0, 0),
  (25, .iconst 1, 26, 0, 1),
  (26, .if_icmp .ne 30, 29, 56, 0),
  (29, .iload_n 0, 30, 0, 0),
  (30, .bipush 63, 32, 0, 63),
  (32, .if_icmp .eq 13, 35, 45, 0),
  (35, .iload_n 0, 36, 0, 0),
  (36, .aload_n 2, 37, 0, 0),
  (37, .iload 6, 39, 0, 0),
  (39, .invokevirtual 45, 42, 0, 0),
  (42, .if_icmp .ne 14, 45, 56, 0),
  (45, .iload 5, 47, 0, 0),
  (47, .iconst 1, 48, 0, 1),
  (48, .iload 7, 50, 0, 0),
  (50, .iconst 1, 51, 0, 1),
  (51, .iadd, 52, 0, 0),
  (52, .ishl, 53, 0, 0),
  (53, .ior, 54, 0, 0),
  (54, .istore 5, 56, 0, 0),
  (56, .iinc 6 1, 59, 0, 1),
  (59, .goto (-53), 62, 6, 0),
  (62, .iload 5, 64, 0, 0),
  (64, .ireturn, 65, 0, 0)]
theorem tg_PT_reachedBehind : jj_good yb_PT_reachedBehind 8 tb_PT_reachedBehind := by unfold jj_good; decide +kernel
def tb_CT_init : jjTab := [(0, .aload_n 0, 1, 0, 0),
  (1, .aload_n 1, 2, 0, 0),
  (2, .iload_n 2, 3, 0, 0),
  (3, .invokespecial 3, 6, 0, 0),
  (6, .aload_n 0, 7, 0, 0),
  (7, .iconst 1, 8, 0, 1),
  (8, .putfield 9, 11, 0, 0),
  (11, .aload_n 0, 12, 0, 0),
  (12, .iconst 0, 13, 0, 0),
  (13, .putfield 15, 16, 0, 0),
  (16, .aload_n 0, 17, 0, 0),
  (17, .iconst 0, 18, 0, 0),
  (18, .putfield 18, 21, 0, 0),
  (21, .aload_n 0, 22, 0, 0),
  (22, .iload_n 3, 23, 0, 0),
  (23, .putfield 22, 26, 0, 0),
  (26, .aload_n 0, 27, 0, 0),
  (27, .iload 4, 29, 0, 0),
  (29, .putfield 25, 32, 0, 0),
  (32, .aload_n 0, 33, 0, 0),
  (33, .iload_n 3, 34, 0, 0),
  (34, .i2l, 35, 0, 0),
  (35, .putfield 28, 38, 0, 0),
  (38, .return_, 39, 0, 0)]
theorem tg_CT_init : jj_good yb_CT_init 5 tb_CT_init := by unfold jj_good; decide +kernel
def tb_MN_init : jjTab := [(0, .aload_n 0, 1, 0, 0),
  (1, .invokespecial 1, 4, 0, 0),
  (4, .aload_n 0, 5, 0, 0),
  (5, .iconst 0, 6, 0, 0),
  (6, .putfield 7, 9, 0, 0),
  (9, .aload_n 0, 10, 0, 0),
  (10, .aload_n 1, 11, 0, 0),
  (11, .putfield 13, 14, 0, 0),
  (14, .aload_n 0, 15, 0, 0),
  (15, .iload_n 2, 16, 0, 0),
  (16, .putfield 17, 19, 0, 0),
  (19, .return_, 20, 0, 0)]
theorem tg_MN_init : jj_good yb_MN_init 3 tb_MN_init := by unfold jj_good; decide +kernel
def tb_GA_init : jjTab := [(0, .aload_n 0, 1, 0, 0),
  (1, .aload_n 1, 2, 0, 0),
  (2, .iload_n 2, 3, 0, 0),
  (3, .invokespecial 3, 6, 0, 0),
  (6, .aload_n 0, 7, 0, 0),
  (7, .iconst 0, 8, 0, 0),
  (8, .putfield 9, 11, 0, 0),
  (11, .aload_n 0, 12, 0, 0),
  (12, .iload_n 3, 13, 0, 0),
  (13, .putfield 15, 16, 0, 0),
  (16, .aload_n 0, 17, 0, 0),
  (17, .iload 4, 19, 0, 0),
  (19, .putfield 18, 22, 0, 0),
  (22, .return_, 23, 0, 0)]
theorem tg_GA_init : jj_good yb_GA_init 5 tb_GA_init := by unfold jj_good; decide +kernel
def tb_CT_kindFor : jjTab := [(0, .aload_n 0, 1, 0, 0),
  (1, .getfield 15, 4, 0, 0),
  (4, .ifCond .eq 25, 7, 29, 0),
  (7, .iload_n 1, 8, 0, 0),
  (8, .aload_n 0, 9, 0, 0),
  (9, .getfield 18, 12, 0, 0),
  (12, .if_icmp .ge 17, 15, 29, 0),
  (15, .aload_n 0, 16, 0, 0),
  (16, .aload_n 0, 17, 0, 0),
  (17, .getfield 22, 20, 0, 0),
  (20, .i2l, 21, 0, 0),
  (21, .putfield 28, 24, 0, 0),
  (24, .aload_n 0, 25, 0, 0),
  (25, .iconst 1, 26, 0, 1),
  (26, .putfield 9, 29, 0, 0),
  (29, .aload_n 0, 30, 0, 0),
  (30, .iconst 1, 31, 0, 1),
  (31, .putfield 15, 34, 0, 0),
  (34, .aload_n 0, 35, 0, 0),
  (35, .iload_n 1, 36, 0, 0),
  (36, .putfield 18, 39, 0, 0),
  (39, .iload_n 1, 40, 0, 0),
  (40, .i2l, 41, 0, 0),
  (41, .aload_n 0, 42, 0, 0),
  (42, .getfield 28, 45, 0, 0),
  (45, .lcmp, 46, 0, 0),
  (46, .ifCond .ge 8, 49, 54, 0),
  (49, .aload_n 0, 50, 0, 0),
  (50, .iconst 1, 51, 0, 1),
  (51, .putfield 9, 54, 0, 0),
  (54, .aload_n 0, 55, 0, 0),
  (55, .getfield 9, 58, 0, 0),
  (58, .ifCond .eq 13, 61, 71, 0),
  (61, .iload_n 1, 62, 0, 0),
  (62, .i2l, 63, 0, 0),
  (63, .aload_n 0, 64, 0, 0),
  (64, .getfield 28, 67, 0, 0),
  (67, .lcmp, 68, 0, 0),
  (68, .ifCond .ge 5, 71, 73, 0),
  (71, .iconst (-1), 72, 0, (-1)),
  (72, .ireturn, 73, 0, 0),
  (73, .aload_n 0, 74, 0, 0),
  (74, .getfield 25, 77, 0, 0),
  (77, .ifCond .ne 11, 80, 88, 0),
  (80, .aload_n 0, 81, 0, 0),
  (81, .iconst 0, 82, 0, 0),
  (82, .putfield 9, 85, 0, 0),
  (85, .goto 12, 88, 97, 0),
  (88, .aload_n 0, 89, 0, 0),
  (89, .aload_n 0, 90, 0, 0),
  (90, .iload_n 1, 91, 0, 0),
  (91, .invokevirtual 32, 94, 0, 0),
  (94, .putfield 28, 97, 0, 0),
  (97, .iconst 2, 98, 0, 2),
  (98, .ireturn, 99, 0, 0)]
theorem tg_CT_kindFor : jj_good yb_CT_kindFor 2 tb_CT_kindFor := by unfold jj_good; decide +kernel
def tb_CT_firstMarkAbove : jjTab := [(0, .iload_n 1, 1, 0, 0),
  (1, .i2l, 2, 0, 0),
  (2, .aload_n 0, 3, 0, 0),
  (3, .getfield 22, 6, 0, 0),
  (6, .i2l, 7, 0, 0),
  (7, .lsub, 8, 0, 0),
  (8, .aload_n 0, 9, 0, 0),
  (9, .getfield 25, 12, 0, 0),
  (12, .i2l, 13, 0, 0),
  (13, .ldiv, 14, 0, 0),
  (14, .lconst 1, 15, 0, 0),
  (15, .ladd, 16, 0, 0),
  (16, .lstore_n 2, 17, 0, 0),
  (17, .aload_n 0, 18, 0, 0),
  (18, .getfield 22, 21, 0, 0),
  (21, .i2l, 22, 0, 0),
  (22, .lload_n 2, 23, 0, 0),
  (23, .aload_n 0, 24, 0, 0),
  (24, .getfield 25, 27, 0, 0),
  (27, .i2l, 28, 0, 0),
  (28, .lmul, 29, 0, 0),
  (29, .ladd, 30, 0, 0),
  (30, .lreturn, 31, 0, 0)]
theorem tg_CT_firstMarkAbove : jj_good yb_CT_firstMarkAbove 4 tb_CT_firstMarkAbove := by unfold jj_good; decide +kernel
def tb_GA_kindFor : jjTab := [(0, .iload_n 1, 1, 0, 0),
  (1, .aload_n 0, 2, 0, 0),
  (2, .getfield 18, 5, 0, 0),
  (5, .if_icmp .lt 18, 8, 23, 0),
  (8, .aload_n 0, 9, 0, 0),
  (9, .getfield 9, 12, 0, 0),
  (12, .iconst 1, 13, 0, 1),
  (13, .if_icmp .eq 10, 16, 23, 0),
  (16, .aload_n 0, 17, 0, 0),
  (17, .iconst 1, 18, 0, 1),
  (18, .putfield 9, 21, 0, 0),
  (21, .iconst 3, 22, 0, 3),
  (22, .ireturn, 23, 0, 0),
  (23, .iload_n 1, 24, 0, 0),
  (24, .aload_n 0, 25, 0, 0),
  (25, .getfield 15, 28, 0, 0),
  (28, .if_icmp .gt 18, 31, 46, 0),
  (31, .aload_n 0, 32, 0, 0),
  (32, .getfield 9, 35, 0, 0),
  (35, .iconst (-1), 36, 0, (-1)),
  (36, .if_icmp .eq 10, 39, 46, 0),
  (39, .aload_n 0, 40, 0, 0),
  (40, .iconst (-1), 41, 0, (-1)),
  (41, .putfield 9, 44, 0, 0),
  (44, .iconst 4, 45, 0, 4),
  (45, .ireturn, 46, 0, 0),
  (46, .iconst (-1), 47, 0, (-1)),
  (47, .ireturn, 48, 0, 0)]
theorem tg_GA_kindFor : jj_good yb_GA_kindFor 2 tb_GA_kindFor := by unfold jj_good; decide +kernel
def tb_CT_level : jjTab := [(0, .aload_n 0, 1, 0, 0),
  (1, .getfield 28, 4, 0, 0),
  (4, .lreturn, 5, 0, 0)]
theorem tg_CT_level : jj_good yb_CT_level 1 tb_CT_level := by unfold jj_good; decide +kernel
def tb_GA_level : jjTab := [(0, .aload_n 0, 1, 0, 0),
  (1, .getfield 9, 4, 0, 0),
  (4, .i2l, 5, 0, 0),
  (5, .lreturn, 6, 0, 0)]
theorem tg_GA_level : jj_good yb_GA_level 1 tb_GA_level := by unfold jj_good; decide +kernel
def tb_LG_told : jjTab := [(0, .iload_n 1, 1, 0, 0),
  (1, .ifCond .lt 11, 4, 12, 0),
  (4, .iload_n 1, 5, 0, 0),
  (5, .aload_n 0, 6, 0, 0),
  (6, .getfield 24, 9, 0, 0),
  (9, .if_icmp .lt 6, 12, 15, 0),
  (12, .bipush (-2), 14, 0, (-2)),
  (14, .ireturn, 15, 0, 0),
  (15, .aload_n 0, 16, 0, 0),
  (16, .getfield 28, 19, 0, 0),
  (19, .iconst 1, 20, 0, 1),
  (20, .isub, 21, 0, 0),
  (21, .iload_n 1, 22, 0, 0),
  (22, .isub, 23, 0, 0),
  (23, .bipush 16, 25, 0, 16),
  (25, .invokestatic 43, 28, 0, 0),
  (28, .istore_n 3, 29, 0, 0),
  (29, .iload_n 2, 30, 0, 0),
  (60, .aload_n 0, 61, 0, 0),
  (61, .getfield 9, 64, 0, 0),
  (64, .iload_n 3, 65, 0, 0),
  (65, .iaload, 66, 0, 0),
  (66, .ireturn, 67, 0, 0),
  (67, .aload_n 0, 68, 0, 0),
  (68, .getfield 15, 71, 0, 0),
  (71, .iload_n 3, 72, 0, 0),
  (72, .iaload, 73, 0, 0),
  (73, .ireturn, 74, 0, 0),
  (74, .aload_n 0, 75, 0, 0),
  (75, .getfield 18, 78, 0, 0),
  (78, .iload_n 3, 79, 0, 0),
  (79, .iaload, 80, 0, 0),
  (80, .ireturn, 81, 0, 0),
  (81, .aload_n 0, 82, 0, 0),
  (82, .getfield 21, 85, 0, 0),
  (85, .iload_n 3, 86, 0, 0),
  (86, .iaload, 87, 0, 0),
  (87, .ireturn, 88, 0, 0),
  (88, .bipush (-2), 90, 0, (-2)),
  (90, .ireturn, 91, 0, 0)]
theorem tg_LG_told : jj_good yb_LG_told 4 tb_LG_told := by unfold jj_good; decide +kernel
end
section
def tb_MO_init : jjTab := [(0, .aload_n 0, 1, 0, 0),
  (1, .invokespecial 1, 4, 0, 0),
  (4, .aload_n 0, 5, 0, 0),
  (5, .sipush 2040, 8, 0, 2040),
  (8, .newarray .char, 10, 0, 0),
  (10, .putfield 7, 13, 0, 0),
  (13, .aload_n 0, 14, 0, 0),
  (14, .bipush 34, 16, 0, 34),
  (16, .newarray .int, 18, 0, 0),
  (18, .putfield 13, 21, 0, 0),
  (21, .aload_n 0, 22, 0, 0),
  (22, .bipush 12, 24, 0, 12),
  (24, .newarray .boolean, 26, 0, 0),
  (26, .putfield 17, 29, 0, 0),
  (29, .aload_n 0, 30, 0, 0),
  (30, .bipush 60, 32, 0, 60),
  (32, .newarray .int, 34, 0, 0),
  (34, .putfield 21, 37, 0, 0),
  (37, .aload_n 0, 38, 0, 0),
  (38, .bipush 60, 40, 0, 60),
  (40, .newarray .boolean, 42, 0, 0),
  (42, .putfield 24, 45, 0, 0),
  (45, .aload_n 0, 46, 0, 0),
  (46, .bipush 6, 48, 0, 6),
  (48, .newarray .boolean, 50, 0, 0),
  (50, .putfield 27, 53, 0, 0),
  (53, .aload_n 0, 54, 0, 0),
  (54, .bipush 6, 56, 0, 6),
  (56, .newarray .int, 58, 0, 0),
  (58, .putfield 30, 61, 0, 0),
  (61, .aload_n 0, 62, 0, 0),
  (62, .bipush 6, 64, 0, 6),
  (64, .newarray .int, 66, 0, 0),
  (66, .putfield 33, 69, 0, 0),
  (69, .aload_n 0, 70, 0, 0),
  (70, .bipush 6, 72, 0, 6),
  (72, .newarray .int, 74, 0, 0),
  (74, .putfield 36, 77, 0, 0),
  (77, .aload_n 0, 78, 0, 0),
  (78, .bipush 6, 80, 0, 6),
  (80, .newarray .int, 82, 0, 0),
  (82, .putfield 39, 85, 0, 0),
  (85, .aload_n 0, 86, 0, 0),
  (86, .bipush 6, 88, 0, 6),
  (88, .newarray .long, 90, 0, 0),
  (90, .putfield 42, 93, 0, 0),
  (93, .aload_n 0, 94, 0, 0),
  (94, .bipush 6, 96, 0, 6),
  (96, .newarray .boolean, 98, 0, 0),
  (98, .putfield 46, 101, 0, 0),
  (101, .aload_n 0, 102, 0, 0),
  (102, .bipush 6, 104, 0, 6),
  (104, .newarray .boolean, 106, 0, 0),
  (106, .putfield 49, 109, 0, 0),
  (109, .aload_n 0, 110, 0, 0),
  (110, .bipush 6, 112, 0, 6),
  (112, .newarray .int, 114, 0, 0),
  (114, .putfield 52, 117, 0, 0),
  (117, .aload_n 0, 118, 0, 0),
  (118, .bipush 6, 120, 0, 6),
  (120, .newarray .boolean, 122, 0, 0),
  (122, .putfield 55, 125, 0, 0),
  (125, .aload_n 0, 126, 0, 0),
  (126, .bipush 63, 128, 0, 63),
  (128, .putfield 58, 131, 0, 0),
  (131, .aload_n 0, 132, 0, 0),
  (132, .bipush 64, 134, 0, 64),
  (134, .newarray .int, 136, 0, 0),
  (136, .putfield 62, 139, 0, 0),
  (139, .aload_n 0, 140, 0, 0),
  (140, .bipush 12, 142, 0, 12),
  (142, .newarray .int, 144, 0, 0),
  (144, .putfield 65, 147, 0, 0),
  (147, .aload_n 0, 148, 0, 0),
  (148, .bipush 26, 150, 0, 26),
  (150, .newarray .int, 152, 0, 0),
  (152, .putfield 68, 155, 0, 0),
  (155, .aload_n 0, 156, 0, 0),
  (156, .bipush 12, 158, 0, 12),
  (158, .newarray .boolean, 160, 0, 0),
  (160, .putfield 71, 163, 0, 0),
  (163, .aload_n 0, 164, 0, 0),
  (164, .bipush 12, 166, 0, 12),
  (166, .newarray .boolean, 168, 0, 0),
  (168, .putfield 74, 171, 0, 0),
  (171, .aload_n 0, 172, 0, 0),
  (172, .bipush 12, 174, 0, 12),
  (174, .newarray .boolean, 176, 0, 0),
  (176, .putfield 77, 179, 0, 0),
  (179, .aload_n 0, 180, 0, 0),
  (180, .bipush 12, 182, 0, 12),
  (182, .newarray .boolean, 184, 0, 0),
  (184, .putfield 80, 187, 0, 0),
  (187, .return_, 188, 0, 0)]
theorem tg_MO_init : jj_good yb_MO_init 1 tb_MO_init := by unfold jj_good; decide +kernel
def tb_MO_write : jjTab := [(0, .iload_n 1, 1, 0, 0),
  (1, .bipush 32, 3, 0, 32),
  (3, .if_icmp .lt 21, 6, 24, 0),
  (6, .iload_n 1, 7, 0, 0),
  (7, .bipush 126, 9, 0, 126),
  (9, .if_icmp .gt 15, 12, 24, 0),
  (12, .aload_n 0, 13, 0, 0),
  (13, .getfield 13, 16, 0, 0),
  (16, .bipush 33, 18, 0, 33),
  (18, .iaload, 19, 0, 0),
  (19, .bipush 60, 21, 0, 60),
  (21, .if_icmp .ne 5, 24, 26, 0),
  (24, .iconst 0, 25, 0, 0),
  (25, .ireturn, 26, 0, 0),
  (26, .aload_n 0, 27, 0, 0),
  (27, .bipush 33, 29, 0, 33),
  (29, .iload_n 1, 30, 0, 0),
  (30, .invokevirtual 87, 33, 0, 0),
  (33, .iconst 1, 34, 0, 1),
  (34, .ireturn, 35, 0, 0)]
theorem tg_MO_write : jj_good yb_MO_write 2 tb_MO_write := by unfold jj_good; decide +kernel
def tb_MO_put : jjTab := [(0, .aload_n 0, 1, 0, 0),
  (1, .getfield 7, 4, 0, 0),
  (4, .bipush 60, 6, 0, 60),
  (6, .iload_n 1, 7, 0, 0),
  (7, .imul, 8, 0, 0),
  (8, .aload_n 0, 9, 0, 0),
  (9, .getfield 13, 12, 0, 0),
  (12, .iload_n 1, 13, 0, 0),
  (13, .iaload, 14, 0, 0),
  (14, .iadd, 15, 0, 0),
  (15, .iload_n 2, 16, 0, 0),
  (16, .castore, 17, 0, 0),
  (17, .aload_n 0, 18, 0, 0),
  (18, .getfield 13, 21, 0, 0),
  (21, .iload_n 1, 22, 0, 0),
  (22, .dup2, 23, 0, 0),
  (23, .iaload, 24, 0, 0),
  (24, .iconst 1, 25, 0, 1),
  (25, .iadd, 26, 0, 0),
  (26, .iastore, 27, 0, 0),
  (27, .return_, 28, 0, 0)]
theorem tg_MO_put : jj_good yb_MO_put 3 tb_MO_put := by unfold jj_good; decide +kernel
def tb_MO_register : jjTab := [(0, .aload_n 0, 1, 0, 0),
  (1, .invokevirtual 157, 4, 0, 0),
  (4, .ifCond .ne 5, 7, 9, 0),
  (7, .iconst (-1), 8, 0, (-1)),
  (8, .ireturn, 9, 0, 0),
  (9, .aload_n 0, 10, 0, 0),
  (10, .bipush 32, 12, 0, 32),
  (12, .invokevirtual 161, 15, 0, 0),
  (15, .ifCond .lt 6, 18, 21, 0),
  (18, .bipush (-3), 20, 0, (-3)),
  (20, .ireturn, 21, 0, 0),
  (21, .iconst 0, 22, 0, 0),
  (22, .istore_n 1, 23, 0, 0),
  (23, .iload_n 1, 24, 0, 0),
  (24, .bipush 12, 26, 0, 12),
  (26, .if_icmp .ge 18, 29, 44, 0),
  (29, .aload_n 0, 30, 0, 0),
  (30, .getfield 17, 33, 0, 0),
  (33, .iload_n 1, 34, 0, 0),
  (34, .baload, 35, 0, 0),
  (35, .ifCond .eq 9, 38, 44, 0),
  (38, .iinc 1 1, 41, 0, 1),
  (41, .goto (-18), 44, 23, 0),
  (44, .iload_n 1, 45, 0, 0),
  (45, .bipush 12, 47, 0, 12),
  (47, .if_icmp .ne 6, 50, 53, 0),
  (50, .bipush (-4), 52, 0, (-4)),
  (52, .ireturn, 53, 0, 0),
  (53, .aload_n 0, 54, 0, 0),
  (54, .getfield 17, 57, 0, 0),
  (57, .iload_n 1, 58, 0, 0),
  (58, .iconst 1, 59, 0, 1),
  (59, .bastore, 60, 0, 0),
  (60, .aload_n 0, 61, 0, 0),
  (61, .bipush 32, 63, 0, 32),
  (63, .iload_n 1, 64, 0, 0),
  (64, .invokevirtual 91, 67, 0, 0),
  (67, .iconst 0, 68, 0, 0),
  (68, .istore_n 2, 69, 0, 0),
  (69, .iload_n 2, 70, 0, 0),
  (70, .iconst 5, 71, 0, 5),
  (71, .if_icmp .ge 31, 74, 102, 0),
  (74, .aload_n 0, 75, 0, 0),
  (75, .getfield 24, 78, 0, 0),
  (78, .iconst 5, 79, 0, 5),
  (79, .iload_n 1, 80, 0, 0),
  (80, .imul, 81, 0, 0),
  (81, .iload_n 2, 82, 0, 0),
  (82, .iadd, 83, 0, 0),
  (83, .iconst 0, 84, 0, 0),
  (84, .bastore, 85, 0, 0),
  (85, .aload_n 0, 86, 0, 0),
  (86, .getfield 21, 89, 0, 0),
  (89, .iconst 5, 90, 0, 5),
  (90, .iload_n 1, 91, 0, 0),
  (91, .imul, 92, 0, 0),
  (92, .iload_n 2, 93, 0, 0),
  (93, .iadd, 94, 0, 0),
  (94, .iconst 0, 95, 0, 0),
  (95, .iastore, 96, 0, 0),
  (96, .iinc 2 1, 99, 0, 1),
  (99, .goto (-30), 102, 69, 0),
  (102, .aload_n 0, 103, 0, 0),
  (103, .iconst 0, 104, 0, 0),
  (104, .iload_n 1, 105, 0, 0),
  (105, .iconst 0, 106, 0, 0),
  (106, .invokevirtual 164, 109, 0, 0),
  (109, .iload_n 1, 110, 0, 0),
  (110, .ireturn, 111, 0, 0)]
theorem tg_MO_register : jj_good yb_MO_register 3 tb_MO_register := by unfold jj_good; decide +kernel
def tb_MO_takeName : jjTab := [(0, .aload_n 0, 1, 0, 0),
  (1, .invokevirtual 122, 4, 0, 0),
  (4, .aload_n 0, 5, 0, 0),
  (5, .bipush 31, 7, 0, 31),
  (7, .iconst 0, 8, 0, 0),
  (8, .invokevirtual 125, 11, 0, 0),
  (11, .ifCond .ne 5, 14, 16, 0),
  (14, .iconst 0, 15, 0, 0),
  (15, .ireturn, 16, 0, 0),
  (16, .aload_n 0, 17, 0, 0),
  (17, .invokevirtual 129, 20, 0, 0),
  (20, .iconst 1, 21, 0, 1),
  (21, .ireturn, 22, 0, 0)]
theorem tg_MO_takeName : jj_good yb_MO_takeName 1 tb_MO_takeName := by unfold jj_good; decide +kernel
def tb_MO_take : jjTab := [(0, .aload_n 0, 1, 0, 0),
  (1, .bipush 33, 3, 0, 33),
  (3, .bipush 31, 5, 0, 31),
  (5, .invokevirtual 91, 8, 0, 0),
  (8, .aload_n 0, 9, 0, 0),
  (9, .getfield 13, 12, 0, 0),
  (12, .bipush 33, 14, 0, 33),
  (14, .iconst 0, 15, 0, 0),
  (15, .iastore, 16, 0, 0),
  (16, .return_, 17, 0, 0)]
theorem tg_MO_take : jj_good yb_MO_take 1 tb_MO_take := by unfold jj_good; decide +kernel
def tb_MO_copy : jjTab := [(0, .aload_n 0, 1, 0, 0),
  (1, .getfield 13, 4, 0, 0),
  (4, .iload_n 2, 5, 0, 0),
  (5, .iconst 0, 6, 0, 0),
  (6, .iastore, 7, 0, 0),
  (7, .iconst 0, 8, 0, 0),
  (8, .istore_n 3, 9, 0, 0),
  (9, .iload_n 3, 10, 0, 0),
  (10, .aload_n 0, 11, 0, 0),
  (11, .getfield 13, 14, 0, 0),
  (14, .iload_n 1, 15, 0, 0),
  (15, .iaload, 16, 0, 0),
  (16, .if_icmp .ge 20, 19, 36, 0),
  (19, .aload_n 0, 20, 0, 0),
  (20, .iload_n 2, 21, 0, 0),
  (21, .aload_n 0, 22, 0, 0),
  (22, .iload_n 1, 23, 0, 0),
  (23, .iload_n 3, 24, 0, 0),
  (24, .invokevirtual 83, 27, 0, 0),
  (27, .invokevirtual 87, 30, 0, 0),
  (30, .iinc 3 1, 33, 0, 1),
  (33, .goto (-24), 36, 9, 0),
  (36, .return_, 37, 0, 0)]
theorem tg_MO_copy : jj_good yb_MO_copy 4 tb_MO_copy := by unfold jj_good; decide +kernel
def tb_MO_get1 : jjTab := [(0, .iload_n 2, 1, 0, 0),
  (1, .ifCond .lt 13, 4, 14, 0),
  (4, .iload_n 2, 5, 0, 0),
  (5, .aload_n 0, 6, 0, 0),
  (6, .getfield 13, 9, 0, 0),
  (9, .iload_n 1, 10, 0, 0),
  (10, .iaload, 11, 0, 0),
  (11, .if_icmp .lt 7, 14, 18, 0),
  (14, .iconst 0, 15, 0, 0),
  (15, .goto 14, 18, 29, 0),
  (18, .aload_n 0, 19, 0, 0),
  (19, .getfield 7, 22, 0, 0),
  (22, .bipush 60, 24, 0, 60),
  (24, .iload_n 1, 25, 0, 0),
  (25, .imul, 26, 0, 0),
  (26, .iload_n 2, 27, 0, 0),
  (27, .iadd, 28, 0, 0),
  (28, .caload, 29, 0, 0),
  (29, .ireturn, 30, 0, 0)]
theorem tg_MO_get1 : jj_good yb_MO_get1 3 tb_MO_get1 := by unfold jj_good; decide +kernel
def tb_MO_reads : jjTab := [(0, .aload_n 0, 1, 0, 0),
  (1, .iload_n 1, 2, 0, 0),
  (2, .invokevirtual 110, 5, 0, 0),
  (5, .istore_n 3, 6, 0, 0),
  (6, .iload_n 3, 7, 0, 0),
  (7, .aload_n 0, 8, 0, 0),
  (8, .getfield 13, 11, 0, 0),
  (11, .iload_n 1, 12, 0, 0),
  (12, .iaload, 13, 0, 0),
  (13, .if_icmp .eq 22, 16, 35, 0),
  (16, .iload_n 3, 17, 0, 0),
  (17, .bipush 6, 19, 0, 6),
  (19, .if_icmp .gt 16, 22, 35, 0),
  (22, .iload_n 3, 23, 0, 0),
  (23, .iload_n 2, 24, 0, 0),
  (24, .ifCond .eq 7, 27, 31, 0),
  (27, .iconst 0, 28, 0, 0),
  (28, .goto 4, 31, 32, 0),
  (31, .iconst 1, 32, 0, 1),
  (32, .if_icmp .ge 5, 35, 37, 0),
  (35, .iconst 0, 36, 0, 0),
  (36, .ireturn, 37, 0, 0),
  (37, .iconst 0, 38, 0, 0),
  (38, .istore 4, 40, 0, 0),
  (40, .iload 4, 42, 0, 0),
  (42, .iload_n 3, 43, 0, 0),
  (43, .if_icmp .ge 25, 46, 68, 0),
  (46, .aload_n 0, 47, 0, 0),
  (47, .iload_n 1, 48, 0, 0),
  (48, .iload 4, 50, 0, 0),
  (50, .invokevirtual 83, 53, 0, 0),
  (53, .iload_n 2, 54, 0, 0),
  (54, .invokestatic 106, 57, 0, 0),
  (57, .ifCond .ne 5, 60, 62, 0),
  (60, .iconst 0, 61, 0, 0),
  (61, .ireturn, 62, 0, 0),
  (62, .iinc 4 1, 65, 0, 1),
  (65, .goto (-25), 68, 40, 0),
  (68, .aload_n 0, 69, 0, 0),
  (69, .iload_n 1, 70, 0, 0),
  (70, .iload_n 3, 71, 0, 0),
  (71, .iconst 1, 72, 0, 1),
  (72, .iadd, 73, 0, 0),
  (73, .iload_n 2, 74, 0, 0),
  (74, .invokevirtual 114, 77, 0, 0),
  (77, .ireturn, 78, 0, 0)]
theorem tg_MO_reads : jj_good yb_MO_reads 5 tb_MO_reads := by unfold jj_good; decide +kernel
def tb_MO_colon : jjTab := [(0, .iconst 0, 1, 0, 0),
  (1, .istore_n 2, 2, 0, 0),
  (2, .iload_n 2, 3, 0, 0),
  (3, .aload_n 0, 4, 0, 0),
  (4, .getfield 13, 7, 0, 0),
  (7, .iload_n 1, 8, 0, 0),
  (8, .iaload, 9, 0, 0),
  (9, .if_icmp .ge 20, 12, 29, 0),
  (12, .aload_n 0, 13, 0, 0),
  (13, .iload_n 1, 14, 0, 0),
  (14, .iload_n 2, 15, 0, 0),
  (15, .invokevirtual 83, 18, 0, 0),
  (18, .bipush 58, 20, 0, 58),
  (20, .if_icmp .eq 9, 23, 29, 0),
  (23, .iinc 2 1, 26, 0, 1),
  (26, .goto (-24), 29, 2, 0),
  (29, .iload_n 2, 30, 0, 0),
  (30, .ireturn, 31, 0, 0)]
theorem tg_MO_colon : jj_good yb_MO_colon 3 tb_MO_colon := by unfold jj_good; decide +kernel
def tb_MO_allowed : jjTab := [(0, .iload_n 0, 1, 0, 0),
  (1, .invokestatic 95, 4, 0, 0),
  (4, .ifCond .ne 26, 7, 30, 0),
  (7, .iload_n 0, 8, 0, 0),
  (8, .invokestatic 99, 11, 0, 0),
  (11, .ifCond .ne 19, 14, 30, 0),
  (14, .iload_n 1, 15, 0, 0),
  (15, .ifCond .eq 19, 18, 34, 0),
  (18, .iload_n 0, 19, 0, 0),
  (19, .bipush 63, 21, 0, 63),
  (21, .if_icmp .eq 9, 24, 30, 0),
  (24, .iload_n 0, 25, 0, 0),
  (25, .bipush 42, 27, 0, 42),
  (27, .if_icmp .ne 7, 30, 34, 0),
  (30, .iconst 1, 31, 0, 1),
  (31, .goto 4, 34, 35, 0),
  (34, .iconst 0, 35, 0, 0),
  (35, .ireturn, 36, 0, 0)]
theorem tg_MO_allowed : jj_good yb_MO_allowed 2 tb_MO_allowed := by unfold jj_good; decide +kernel
def tb_MO_isSmall : jjTab := [(0, .iload_n 0, 1, 0, 0),
  (1, .bipush 97, 3, 0, 97),
  (3, .if_icmp .lt 13, 6, 16, 0),
  (6, .iload_n 0, 7, 0, 0),
  (7, .bipush 122, 9, 0, 122),
  (9, .if_icmp .gt 7, 12, 16, 0),
  (12, .iconst 1, 13, 0, 1),
  (13, .goto 4, 16, 17, 0),
  (16, .iconst 0, 17, 0, 0),
  (17, .ireturn, 18, 0, 0)]
theorem tg_MO_isSmall : jj_good yb_MO_isSmall 1 tb_MO_isSmall := by unfold jj_good; decide +kernel
def tb_MO_isDigit : jjTab := [(0, .iload_n 0, 1, 0, 0),
  (1, .bipush 48, 3, 0, 48),
  (3, .if_icmp .lt 13, 6, 16, 0),
  (6, .iload_n 0, 7, 0, 0),
  (7, .bipush 57, 9, 0, 57),
  (9, .if_icmp .gt 7, 12, 16, 0),
  (12, .iconst 1, 13, 0, 1),
  (13, .goto 4, 16, 17, 0),
  (16, .iconst 0, 17, 0, 0),
  (17, .ireturn, 18, 0, 0)]
theorem tg_MO_isDigit : jj_good yb_MO_isDigit 1 tb_MO_isDigit := by unfold jj_good; decide +kernel
def tb_MO_list : jjTab := [(0, .iconst 0, 1, 0, 0),
  (1, .istore 4, 3, 0, 0),
  (3, .iload 4, 5, 0, 0),
  (5, .bipush 26, 7, 0, 26),
  (7, .if_icmp .ge 17, 10, 24, 0),
  (10, .aload_n 0, 11, 0, 0),
  (11, .getfield 68, 14, 0, 0),
  (14, .iload 4, 16, 0, 0),
  (16, .iconst (-1), 17, 0, (-1)),
  (17, .iastore, 18, 0, 0),
  (18, .iinc 4 1, 21, 0, 1),
  (21, .goto (-18), 24, 3, 0),
  (24, .aload_n 0, 25, 0, 0),
  (25, .iconst 0, 26, 0, 0),
  (26, .putfield 102, 29, 0, 0),
  (29, .aload_n 0, 30, 0, 0),
  (30, .getfield 13, 33, 0, 0),
  (33, .iload_n 1, 34, 0, 0),
  (34, .iaload, 35, 0, 0),
  (35, .istore 4, 37, 0, 0),
  (37, .iload_n 2, 38, 0, 0),
  (38, .istore 5, 40, 0, 0),
  (40, .iconst 0, 41, 0, 0),
  (41, .istore 6, 43, 0, 0),
  (43, .iload 6, 45, 0, 0),
  (45, .bipush 60, 47, 0, 60),
  (47, .if_icmp .ge 184, 50, 231, 0),
  (50, .iload_n 3, 51, 0, 0),
  (51, .ifCond .eq 31, 54, 82, 0),
  (54, .iload 5, 56, 0, 0),
  (56, .iload 4, 58, 0, 0),
  (58, .iconst 1, 59, 0, 1),
  (59, .isub, 60, 0, 0),
  (60, .if_icmp .ne 22, 63, 82, 0),
  (63, .aload_n 0, 64, 0, 0),
  (64, .iload_n 1, 65, 0, 0),
  (65, .iload 5, 67, 0, 0),
  (67, .invokevirtual 83, 70, 0, 0),
  (70, .bipush 42, 72, 0, 42),
  (72, .if_icmp .ne 10, 75, 82, 0),
  (75, .aload_n 0, 76, 0, 0),
  (76, .iconst 1, 77, 0, 1),
  (77, .putfield 102, 80, 0, 0),
  (80, .iconst 1, 81, 0, 1),
  (81, .ireturn, 82, 0, 0),
  (82, .aload_n 0, 83, 0, 0),
  (83, .iload_n 1, 84, 0, 0),
  (84, .iload 5, 86, 0, 0),
  (86, .invokevirtual 83, 89, 0, 0),
  (89, .istore 7, 91, 0, 0),
  (91, .iload 7, 93, 0, 0),
  (93, .invokestatic 95, 96, 0, 0),
  (96, .ifCond .eq 17, 99, 113, 0),
  (99, .aload_n 0, 100, 0, 0),
  (100, .iload_n 1, 101, 0, 0),
  (101, .iload 5, 103, 0, 0),
  (103, .iconst 1, 104, 0, 1),
  (104, .iadd, 105, 0, 0),
  (105, .invokevirtual 83, 108, 0, 0),
  (108, .bipush 61, 110, 0, 61),
  (110, .if_icmp .eq 5, 113, 115, 0),
  (113, .iconst 0, 114, 0, 0),
  (114, .ireturn, 115, 0, 0),
  (115, .aload_n 0, 116, 0, 0),
  (116, .getfield 68, 119, 0, 0),
  (119, .iload 7, 121, 0, 0),
  (121, .bipush 97, 123, 0, 97),
  (123, .isub, 124, 0, 0),
  (124, .iaload, 125, 0, 0),
  (125, .ifCond .lt 5, 128, 130, 0),
  (128, .iconst 0, 129, 0, 0),
  (129, .ireturn, 130, 0, 0),
  (130, .aload_n 0, 131, 0, 0),
  (131, .getfield 68, 134, 0, 0),
  (134, .iload 7, 136, 0, 0),
  (136, .bipush 97, 138, 0, 97),
  (138, .isub, 139, 0, 0),
  (139, .iload 5, 141, 0, 0),
  (141, .iastore, 142, 0, 0),
  (142, .iload 5, 144, 0, 0),
  (144, .iconst 2, 145, 0, 2),
  (145, .iadd, 146, 0, 0),
  (146, .istore 8, 148, 0, 0),
  (148, .iload 8, 150, 0, 0),
  (150, .iload 4, 152, 0, 0),
  (152, .if_icmp .ge 23, 155, 175, 0),
  (155, .aload_n 0, 156, 0, 0),
  (156, .iload_n 1, 157, 0, 0),
  (157, .iload 8, 159, 0, 0),
  (159, .invokevirtual 83, 162, 0, 0),
  (162, .iload_n 3, 163, 0, 0),
  (163, .invokestatic 106, 166, 0, 0),
  (166, .ifCond .eq 9, 169, 175, 0),
  (169, .iinc 8 1, 172, 0, 1),
  (172, .goto (-24), 175, 148, 0),
  (175, .iload 8, 177, 0, 0),
  (177, .iload 5, 179, 0, 0),
  (179, .iconst 3, 180, 0, 3),
  (180, .iadd, 181, 0, 0),
  (181, .if_icmp .lt 13, 184, 194, 0),
  (184, .iload 8, 186, 0, 0),
  (186, .iload 5, 188, 0, 0),
  (188, .bipush 6, 190, 0, 6),
  (190, .iadd, 191, 0, 0),
  (191, .if_icmp .le 5, 194, 196, 0),
  (194, .iconst 0, 195, 0, 0),
  (195, .ireturn, 196, 0, 0),
  (196, .iload 8, 198, 0, 0),
  (198, .iload 4, 200, 0, 0),
  (200, .if_icmp .ne 5, 203, 205, 0),
  (203, .iconst 1, 204, 0, 1),
  (204, .ireturn, 205, 0, 0),
  (205, .aload_n 0, 206, 0, 0),
  (206, .iload_n 1, 207, 0, 0),
  (207, .iload 8, 209, 0, 0),
  (209, .invokevirtual 83, 212, 0, 0),
  (212, .bipush 44, 214, 0, 44),
  (214, .if_icmp .eq 5, 217, 219, 0),
  (217, .iconst 0, 218, 0, 0),
  (218, .ireturn, 219, 0, 0),
  (219, .iload 8, 221, 0, 0),
  (221, .iconst 1, 222, 0, 1),
  (222, .iadd, 223, 0, 0),
  (223, .istore 5, 225, 0, 0),
  (225, .iinc 6 1, 228, 0, 1),
  (228, .goto (-185), 231, 43, 0),
  (231, .iconst 0, 232, 0, 0),
  (232, .ireturn, 233, 0, 0)]
theorem tg_MO_list : jj_good yb_MO_list 9 tb_MO_list := by unfold jj_good; decide +kernel
def tb_MO_order : jjTab := [(0, .aload_n 0, 1, 0, 0),
  (1, .getfield 13, 4, 0, 0),
  (4, .bipush 32, 6, 0, 32),
  (6, .iconst 0, 7, 0, 0),
  (7, .iastore, 8, 0, 0),
  (8, .aload_n 0, 9, 0, 0),
  (9, .bipush 31, 11, 0, 31),
  (11, .invokevirtual 110, 14, 0, 0),
  (14, .istore_n 1, 15, 0, 0),
  (15, .iconst 0, 16, 0, 0),
  (16, .istore_n 2, 17, 0, 0),
  (17, .iload_n 2, 18, 0, 0),
  (18, .iload_n 1, 19, 0, 0),
  (19, .if_icmp .gt 22, 22, 41, 0),
  (22, .aload_n 0, 23, 0, 0),
  (23, .bipush 32, 25, 0, 32),
  (25, .aload_n 0, 26, 0, 0),
  (26, .bipush 31, 28, 0, 31),
  (28, .iload_n 2, 29, 0, 0),
  (29, .invokevirtual 83, 32, 0, 0),
  (32, .invokevirtual 87, 35, 0, 0),
  (35, .iinc 2 1, 38, 0, 1),
  (38, .goto (-21), 41, 17, 0),
  (41, .iconst 0, 42, 0, 0),
  (42, .istore_n 2, 43, 0, 0),
  (43, .iconst 0, 44, 0, 0),
  (44, .istore_n 3, 45, 0, 0),
  (45, .iload_n 3, 46, 0, 0),
  (46, .bipush 26, 48, 0, 26),
  (48, .if_icmp .ge 49, 51, 97, 0),
  (51, .aload_n 0, 52, 0, 0),
  (52, .getfield 68, 55, 0, 0),
  (55, .iload_n 3, 56, 0, 0),
  (56, .iaload, 57, 0, 0),
  (57, .ifCond .ge 6, 60, 63, 0),
  (60, .goto 31, 63, 91, 0),
  (63, .iload_n 2, 64, 0, 0),
  (64, .ifCond .eq 11, 67, 75, 0),
  (67, .aload_n 0, 68, 0, 0),
  (68, .bipush 32, 70, 0, 32),
  (70, .bipush 44, 72, 0, 44),
  (72, .invokevirtual 87, 75, 0, 0),
  (75, .aload_n 0, 76, 0, 0),
  (76, .bipush 31, 78, 0, 31),
  (78, .aload_n 0, 79, 0, 0),
  (79, .getfield 68, 82, 0, 0),
  (82, .iload_n 3, 83, 0, 0),
  (83, .iaload, 84, 0, 0),
  (84, .bipush 32, 86, 0, 32),
  (86, .invokevirtual 118, 89, 0, 0),
  (89, .iconst 1, 90, 0, 1),
  (90, .istore_n 2, 91, 0, 0),
  (91, .iinc 3 1, 94, 0, 1),
  (94, .goto (-49), 97, 45, 0),
  (97, .aload_n 0, 98, 0, 0),
  (98, .getfield 102, 101, 0, 0),
  (101, .ifCond .eq 15, 104, 116, 0),
  (104, .iload_n 2, 105, 0, 0),
  (105, .ifCond .eq 11, 108, 116, 0),
  (108, .aload_n 0, 109, 0, 0),
  (109, .bipush 32, 111, 0, 32),
  (111, .bipush 44, 113, 0, 44),
  (113, .invokevirtual 87, 116, 0, 0),
  (116, .aload_n 0, 117, 0, 0),
  (117, .getfield 102, 120, 0, 0),
  (120, .ifCond .eq 11, 123, 131, 0),
  (123, .aload_n 0, 124, 0, 0),
  (124, .bipush 32, 126, 0, 32),
  (126, .bipush 42, 128, 0, 42),
  (128, .invokevirtual 87, 131, 0, 0),
  (131, .return_, 132, 0, 0)]
theorem tg_MO_order : jj_good yb_MO_order 4 tb_MO_order := by unfold jj_good; decide +kernel
def tb_MO_copyProperty : jjTab := [(0, .iload_n 2, 1, 0, 0),
  (1, .istore 4, 3, 0, 0),
  (3, .aload_n 0, 4, 0, 0),
  (4, .iload_n 3, 5, 0, 0),
  (5, .aload_n 0, 6, 0, 0),
  (6, .iload_n 1, 7, 0, 0),
  (7, .iload 4, 9, 0, 0),
  (9, .invokevirtual 83, 12, 0, 0),
  (12, .invokevirtual 87, 15, 0, 0),
  (15, .iinc 4 1, 18, 0, 1),
  (18, .iload 4, 20, 0, 0),
  (20, .aload_n 0, 21, 0, 0),
  (21, .getfield 13, 24, 0, 0),
  (24, .iload_n 1, 25, 0, 0),
  (25, .iaload, 26, 0, 0),
  (26, .if_icmp .ge 15, 29, 41, 0),
  (29, .aload_n 0, 30, 0, 0),
  (30, .iload_n 1, 31, 0, 0),
  (31, .iload 4, 33, 0, 0),
  (33, .invokevirtual 83, 36, 0, 0),
  (36, .bipush 44, 38, 0, 44),
  (38, .if_icmp .ne (-35), 41, 3, 0),
  (41, .return_, 42, 0, 0)]
theorem tg_MO_copyProperty : jj_good yb_MO_copyProperty 5 tb_MO_copyProperty := by unfold jj_good; decide +kernel
def tb_MO_beanWith : jjTab := [(0, .iconst 0, 1, 0, 0),
  (1, .istore_n 2, 2, 0, 0),
  (2, .iload_n 2, 3, 0, 0),
  (3, .bipush 12, 5, 0, 12),
  (5, .if_icmp .ge 29, 8, 34, 0),
  (8, .aload_n 0, 9, 0, 0),
  (9, .getfield 17, 12, 0, 0),
  (12, .iload_n 2, 13, 0, 0),
  (13, .baload, 14, 0, 0),
  (14, .ifCond .eq 14, 17, 28, 0),
  (17, .aload_n 0, 18, 0, 0),
  (18, .iload_n 2, 19, 0, 0),
  (19, .iload_n 1, 20, 0, 0),
  (20, .invokevirtual 132, 23, 0, 0),
  (23, .ifCond .eq 5, 26, 28, 0),
  (26, .iload_n 2, 27, 0, 0),
  (27, .ireturn, 28, 0, 0),
  (28, .iinc 2 1, 31, 0, 1),
  (31, .goto (-29), 34, 2, 0),
  (34, .iconst (-1), 35, 0, (-1)),
  (35, .ireturn, 36, 0, 0)]
theorem tg_MO_beanWith : jj_good yb_MO_beanWith 3 tb_MO_beanWith := by unfold jj_good; decide +kernel
def tb_MO_same : jjTab := [(0, .aload_n 0, 1, 0, 0),
  (1, .getfield 13, 4, 0, 0),
  (4, .iload_n 1, 5, 0, 0),
  (5, .iaload, 6, 0, 0),
  (6, .aload_n 0, 7, 0, 0),
  (7, .getfield 13, 10, 0, 0),
  (10, .iload_n 2, 11, 0, 0),
  (11, .iaload, 12, 0, 0),
  (12, .if_icmp .ne 7, 15, 19, 0),
  (15, .iconst 1, 16, 0, 1),
  (16, .goto 4, 19, 20, 0),
  (19, .iconst 0, 20, 0, 0),
  (20, .istore_n 3, 21, 0, 0),
  (21, .iconst 0, 22, 0, 0),
  (22, .istore 4, 24, 0, 0),
  (24, .iload 4, 26, 0, 0),
  (26, .aload_n 0, 27, 0, 0),
  (27, .getfield 13, 30, 0, 0),
  (30, .iload_n 1, 31, 0, 0),
  (31, .iaload, 32, 0, 0),
  (32, .if_icmp .ge 36, 35, 68, 0),
  (35, .iload_n 3, 36, 0, 0),
  (36, .ifCond .eq 24, 39, 60, 0),
  (39, .aload_n 0, 40, 0, 0),
  (40, .iload_n 1, 41, 0, 0),
  (41, .iload 4, 43, 0, 0),
  (43, .invokevirtual 83, 46, 0, 0),
  (46, .aload_n 0, 47, 0, 0),
  (47, .iload_n 2, 48, 0, 0),
  (48, .iload 4, 50, 0, 0),
  (50, .invokevirtual 83, 53, 0, 0),
  (53, .if_icmp .ne 7, 56, 60, 0),
  (56, .iconst 1, 57, 0, 1),
  (57, .goto 4, 60, 61, 0),
  (60, .iconst 0, 61, 0, 0),
  (61, .istore_n 3, 62, 0, 0),
  (62, .iinc 4 1, 65, 0, 1),
  (65, .goto (-41), 68, 24, 0),
  (68, .iload_n 3, 69, 0, 0),
  (69, .ireturn, 70, 0, 0)]
theorem tg_MO_same : jj_good yb_MO_same 5 tb_MO_same := by unfold jj_good; decide +kernel
def tb_MO_give : jjTab := [(0, .aload_n 0, 1, 0, 0),
  (1, .dup, 2, 0, 0),
  (2, .getfield 151, 5, 0, 0),
  (5, .iconst 1, 6, 0, 1),
  (6, .iadd, 7, 0, 0),
  (7, .putfield 151, 10, 0, 0),
  (10, .aload_n 0, 11, 0, 0),
  (11, .getfield 58, 14, 0, 0),
  (14, .iload_n 1, 15, 0, 0),
  (15, .ishr, 16, 0, 0),
  (16, .iconst 1, 17, 0, 1),
  (17, .iand, 18, 0, 0),
  (18, .ifCond .ne 4, 21, 22, 0),
  (21, .return_, 22, 0, 0),
  (22, .bipush 63, 24, 0, 63),
  (24, .istore 4, 26, 0, 0),
  (26, .iload 4, 28, 0, 0),
  (28, .iconst 3, 29, 0, 3),
  (29, .if_icmp .le 25, 32, 54, 0),
  (32, .aload_n 0, 33, 0, 0),
  (33, .getfield 62, 36, 0, 0),
  (36, .iload 4, 38, 0, 0),
  (38, .aload_n 0, 39, 0, 0),
  (39, .getfield 62, 42, 0, 0),
  (42, .iload 4, 44, 0, 0),
  (44, .iconst 4, 45, 0, 4),
  (45, .isub, 46, 0, 0),
  (46, .iaload, 47, 0, 0),
  (47, .iastore, 48, 0, 0),
  (48, .iinc 4 (-1), 51, 0, (-1)),
  (51, .goto (-25), 54, 26, 0),
  (54, .aload_n 0, 55, 0, 0),
  (55, .getfield 62, 58, 0, 0),
  (58, .iconst 0, 59, 0, 0),
  (59, .aload_n 0, 60, 0, 0),
  (60, .getfield 151, 63, 0, 0),
  (63, .iastore, 64, 0, 0),
  (64, .aload_n 0, 65, 0, 0),
  (65, .getfield 62, 68, 0, 0),
  (68, .iconst 1, 69, 0, 1),
  (69, .iload_n 1, 70, 0, 0),
  (70, .iastore, 71, 0, 0),
  (71, .aload_n 0, 72, 0, 0),
  (72, .getfield 62, 75, 0, 0),
  (75, .iconst 2, 76, 0, 2),
  (76, .iload_n 2, 77, 0, 0),
  (77, .iastore, 78, 0, 0),
  (78, .aload_n 0, 79, 0, 0),
  (79, .getfield 62, 82, 0, 0),
  (82, .iconst 3, 83, 0, 3),
  (83, .iload_n 3, 84, 0, 0),
  (84, .iastore, 85, 0, 0),
  (85, .aload_n 0, 86, 0, 0),
  (86, .aload_n 0, 87, 0, 0),
  (87, .getfield 154, 90, 0, 0),
  (90, .bipush 16, 92, 0, 16),
  (92, .if_icmp .ge 12, 95, 104, 0),
  (95, .aload_n 0, 96, 0, 0),
  (96, .getfield 154, 99, 0, 0),
  (99, .iconst 1, 100, 0, 1),
  (100, .iadd, 101, 0, 0),
  (101, .goto 5, 104, 106, 0),
  (104, .bipush 16, 106, 0, 16),
  (106, .putfield 154, 109, 0, 0),
  (109, .return_, 110, 0, 0)]
theorem tg_MO_give : jj_good yb_MO_give 5 tb_MO_give := by unfold jj_good; decide +kernel
def tb_MO_unregister : jjTab := [(0, .aload_n 0, 1, 0, 0),
  (1, .invokevirtual 167, 4, 0, 0),
  (4, .istore_n 1, 5, 0, 0),
  (5, .iload_n 1, 6, 0, 0),
  (6, .ifCond .ge 5, 9, 11, 0),
  (9, .iload_n 1, 10, 0, 0),
  (10, .ireturn, 11, 0, 0),
  (11, .aload_n 0, 12, 0, 0),
  (12, .getfield 17, 15, 0, 0),
  (15, .iload_n 1, 16, 0, 0),
  (16, .iconst 0, 17, 0, 0),
  (17, .bastore, 18, 0, 0),
  (18, .aload_n 0, 19, 0, 0),
  (19, .iconst 1, 20, 0, 1),
  (20, .iload_n 1, 21, 0, 0),
  (21, .iconst 0, 22, 0, 0),
  (22, .invokevirtual 164, 25, 0, 0),
  (25, .iload_n 1, 26, 0, 0),
  (26, .ireturn, 27, 0, 0)]
theorem tg_MO_unregister : jj_good yb_MO_unregister 2 tb_MO_unregister := by unfold jj_good; decide +kernel
def tb_MO_find : jjTab := [(0, .aload_n 0, 1, 0, 0),
  (1, .invokevirtual 157, 4, 0, 0),
  (4, .ifCond .ne 5, 7, 9, 0),
  (7, .iconst (-1), 8, 0, (-1)),
  (8, .ireturn, 9, 0, 0),
  (9, .aload_n 0, 10, 0, 0),
  (10, .bipush 32, 12, 0, 32),
  (12, .invokevirtual 161, 15, 0, 0),
  (15, .istore_n 1, 16, 0, 0),
  (16, .iload_n 1, 17, 0, 0),
  (17, .ifCond .ge 8, 20, 25, 0),
  (20, .bipush (-2), 22, 0, (-2)),
  (22, .goto 4, 25, 26, 0),
  (25, .iload_n 1, 26, 0, 0),
  (26, .ireturn, 27, 0, 0)]
theorem tg_MO_find : jj_good yb_MO_find 2 tb_MO_find := by unfold jj_good; decide +kernel
def tb_MO_set : jjTab := [(0, .aload_n 0, 1, 0, 0),
  (1, .iload_n 1, 2, 0, 0),
  (2, .iload_n 2, 3, 0, 0),
  (3, .invokevirtual 175, 6, 0, 0),
  (6, .ifCond .ne 5, 9, 11, 0),
  (9, .iconst 0, 10, 0, 0),
  (10, .ireturn, 11, 0, 0),
  (11, .aload_n 0, 12, 0, 0),
  (12, .getfield 24, 15, 0, 0),
  (15, .iconst 5, 16, 0, 5),
  (16, .iload_n 1, 17, 0, 0),
  (17, .imul, 18, 0, 0),
  (18, .iload_n 2, 19, 0, 0),
  (19, .iadd, 20, 0, 0),
  (20, .iconst 1, 21, 0, 1),
  (21, .bastore, 22, 0, 0),
  (22, .aload_n 0, 23, 0, 0),
  (23, .getfield 21, 26, 0, 0),
  (26, .iconst 5, 27, 0, 5),
  (27, .iload_n 1, 28, 0, 0),
  (28, .imul, 29, 0, 0),
  (29, .iload_n 2, 30, 0, 0),
  (30, .iadd, 31, 0, 0),
  (31, .iload_n 3, 32, 0, 0),
  (32, .iastore, 33, 0, 0),
  (33, .iconst 1, 34, 0, 1),
  (34, .ireturn, 35, 0, 0)]
theorem tg_MO_set : jj_good yb_MO_set 4 tb_MO_set := by unfold jj_good; decide +kernel
def tb_MO_isSlot : jjTab := [(0, .aload_n 0, 1, 0, 0),
  (1, .iload_n 1, 2, 0, 0),
  (2, .invokevirtual 171, 5, 0, 0),
  (5, .ifCond .eq 16, 8, 21, 0),
  (8, .iload_n 2, 9, 0, 0),
  (9, .ifCond .lt 12, 12, 21, 0),
  (12, .iload_n 2, 13, 0, 0),
  (13, .iconst 5, 14, 0, 5),
  (14, .if_icmp .ge 7, 17, 21, 0),
  (17, .iconst 1, 18, 0, 1),
  (18, .goto 4, 21, 22, 0),
  (21, .iconst 0, 22, 0, 0),
  (22, .ireturn, 23, 0, 0)]
theorem tg_MO_isSlot : jj_good yb_MO_isSlot 3 tb_MO_isSlot := by unfold jj_good; decide +kernel
def tb_MO_isBean : jjTab := [(0, .iload_n 1, 1, 0, 0),
  (1, .ifCond .lt 22, 4, 23, 0),
  (4, .iload_n 1, 5, 0, 0),
  (5, .bipush 12, 7, 0, 12),
  (7, .if_icmp .ge 16, 10, 23, 0),
  (10, .aload_n 0, 11, 0, 0),
  (11, .getfield 17, 14, 0, 0),
  (14, .iload_n 1, 15, 0, 0),
  (15, .baload, 16, 0, 0),
  (16, .ifCond .eq 7, 19, 23, 0),
  (19, .iconst 1, 20, 0, 1),
  (20, .goto 4, 23, 24, 0),
  (23, .iconst 0, 24, 0, 0),
  (24, .ireturn, 25, 0, 0)]
theorem tg_MO_isBean : jj_good yb_MO_isBean 2 tb_MO_isBean := by unfold jj_good; decide +kernel
def tb_MO_unset : jjTab := [(0, .aload_n 0, 1, 0, 0),
  (1, .iload_n 1, 2, 0, 0),
  (2, .iload_n 2, 3, 0, 0),
  (3, .invokevirtual 175, 6, 0, 0),
  (6, .ifCond .ne 5, 9, 11, 0),
  (9, .iconst 0, 10, 0, 0),
  (10, .ireturn, 11, 0, 0),
  (11, .aload_n 0, 12, 0, 0),
  (12, .getfield 24, 15, 0, 0),
  (15, .iconst 5, 16, 0, 5),
  (16, .iload_n 1, 17, 0, 0),
  (17, .imul, 18, 0, 0),
  (18, .iload_n 2, 19, 0, 0),
  (19, .iadd, 20, 0, 0),
  (20, .baload, 21, 0, 0),
  (21, .istore_n 3, 22, 0, 0),
  (22, .aload_n 0, 23, 0, 0),
  (23, .getfield 24, 26, 0, 0),
  (26, .iconst 5, 27, 0, 5),
  (27, .iload_n 1, 28, 0, 0),
  (28, .imul, 29, 0, 0),
  (29, .iload_n 2, 30, 0, 0),
  (30, .iadd, 31, 0, 0),
  (31, .iconst 0, 32, 0, 0),
  (32, .bastore, 33, 0, 0),
  (33, .iload_n 3, 34, 0, 0),
  (34, .ireturn, 35, 0, 0)]
theorem tg_MO_unset : jj_good yb_MO_unset 4 tb_MO_unset := by unfold jj_good; decide +kernel
def tb_MO_get : jjTab := [(0, .aload_n 0, 1, 0, 0),
  (1, .iload_n 1, 2, 0, 0),
  (2, .iload_n 2, 3, 0, 0),
  (3, .invokevirtual 175, 6, 0, 0),
  (6, .ifCond .ne 5, 9, 11, 0),
  (9, .iconst 0, 10, 0, 0),
  (10, .ireturn, 11, 0, 0),
  (11, .aload_n 0, 12, 0, 0),
  (12, .getfield 24, 15, 0, 0),
  (15, .iconst 5, 16, 0, 5),
  (16, .iload_n 1, 17, 0, 0),
  (17, .imul, 18, 0, 0),
  (18, .iload_n 2, 19, 0, 0),
  (19, .iadd, 20, 0, 0),
  (20, .baload, 21, 0, 0),
  (21, .ifCond .eq 16, 24, 37, 0),
  (24, .aload_n 0, 25, 0, 0),
  (25, .getfield 21, 28, 0, 0),
  (28, .iconst 5, 29, 0, 5),
  (29, .iload_n 1, 30, 0, 0),
  (30, .imul, 31, 0, 0),
  (31, .iload_n 2, 32, 0, 0),
  (32, .iadd, 33, 0, 0),
  (33, .iaload, 34, 0, 0),
  (34, .goto 4, 37, 38, 0),
  (37, .iconst 0, 38, 0, 0),
  (38, .ireturn, 39, 0, 0)]
theorem tg_MO_get : jj_good yb_MO_get 3 tb_MO_get := by unfold jj_good; decide +kernel
def tb_MO_define : jjTab := [(0, .aload_n 0, 1, 0, 0),
  (1, .invokevirtual 122, 4, 0, 0),
  (4, .iconst 0, 5, 0, 0),
  (5, .istore_n 1, 6, 0, 0),
  (6, .iconst 0, 7, 0, 0),
  (7, .istore_n 2, 8, 0, 0),
  (8, .iload_n 2, 9, 0, 0),
  (9, .aload_n 0, 10, 0, 0),
  (10, .getfield 13, 13, 0, 0),
  (13, .bipush 31, 15, 0, 31),
  (15, .iaload, 16, 0, 0),
  (16, .if_icmp .ge 36, 19, 52, 0),
  (19, .aload_n 0, 20, 0, 0),
  (20, .bipush 31, 22, 0, 31),
  (22, .iload_n 2, 23, 0, 0),
  (23, .invokevirtual 83, 26, 0, 0),
  (26, .bipush 40, 28, 0, 40),
  (28, .if_icmp .eq 15, 31, 43, 0),
  (31, .aload_n 0, 32, 0, 0),
  (32, .bipush 31, 34, 0, 31),
  (34, .iload_n 2, 35, 0, 0),
  (35, .invokevirtual 83, 38, 0, 0),
  (38, .bipush 33, 40, 0, 33),
  (40, .if_icmp .ne 6, 43, 46, 0),
  (43, .iinc 1 1, 46, 0, 1),
  (46, .iinc 2 1, 49, 0, 1),
  (49, .goto (-41), 52, 8, 0),
  (52, .iload_n 1, 53, 0, 0),
  (53, .bipush 8, 55, 0, 8),
  (55, .if_icmp .le 6, 58, 61, 0),
  (58, .bipush (-4), 60, 0, (-4)),
  (60, .ireturn, 61, 0, 0),
  (61, .aload_n 0, 62, 0, 0),
  (62, .invokevirtual 210, 65, 0, 0),
  (65, .ifCond .ne 5, 68, 70, 0),
  (68, .iconst (-1), 69, 0, (-1)),
  (69, .ireturn, 70, 0, 0),
  (70, .iconst 0, 71, 0, 0),
  (71, .istore_n 2, 72, 0, 0),
  (72, .iload_n 2, 73, 0, 0),
  (73, .bipush 6, 75, 0, 6),
  (75, .if_icmp .ge 18, 78, 93, 0),
  (78, .aload_n 0, 79, 0, 0),
  (79, .getfield 27, 82, 0, 0),
  (82, .iload_n 2, 83, 0, 0),
  (83, .baload, 84, 0, 0),
  (84, .ifCond .eq 9, 87, 93, 0),
  (87, .iinc 2 1, 90, 0, 1),
  (90, .goto (-18), 93, 72, 0),
  (93, .iload_n 2, 94, 0, 0),
  (94, .bipush 6, 96, 0, 6),
  (96, .if_icmp .ne 6, 99, 102, 0),
  (99, .bipush (-4), 101, 0, (-4)),
  (101, .ireturn, 102, 0, 0),
  (102, .aload_n 0, 103, 0, 0),
  (103, .getfield 27, 106, 0, 0),
  (106, .iload_n 2, 107, 0, 0),
  (107, .iconst 1, 108, 0, 1),
  (108, .bastore, 109, 0, 0),
  (109, .aload_n 0, 110, 0, 0),
  (110, .invokevirtual 213, 113, 0, 0),
  (113, .aload_n 0, 114, 0, 0),
  (114, .bipush 31, 116, 0, 31),
  (116, .bipush 18, 118, 0, 18),
  (118, .iload_n 2, 119, 0, 0),
  (119, .iadd, 120, 0, 0),
  (120, .invokevirtual 91, 123, 0, 0),
  (123, .aload_n 0, 124, 0, 0),
  (124, .bipush 32, 126, 0, 32),
  (126, .bipush 24, 128, 0, 24),
  (128, .iload_n 2, 129, 0, 0),
  (129, .iadd, 130, 0, 0),
  (130, .invokevirtual 91, 133, 0, 0),
  (133, .iload_n 2, 134, 0, 0),
  (134, .ireturn, 135, 0, 0)]
theorem tg_MO_define : jj_good yb_MO_define 3 tb_MO_define := by unfold jj_good; decide +kernel
def tb_MO_isQuery : jjTab := [(0, .iconst 0, 1, 0, 0),
  (1, .istore_n 1, 2, 0, 0),
  (2, .iconst 0, 3, 0, 0),
  (3, .istore_n 2, 4, 0, 0),
  (4, .iconst 0, 5, 0, 0),
  (5, .istore_n 3, 6, 0, 0),
  (6, .iload_n 3, 7, 0, 0),
  (7, .aload_n 0, 8, 0, 0),
  (8, .getfield 13, 11, 0, 0),
  (11, .bipush 31, 13, 0, 31),
  (13, .iaload, 14, 0, 0),
  (14, .if_icmp .ge 109, 17, 123, 0),
  (17, .aload_n 0, 18, 0, 0),
  (18, .bipush 31, 20, 0, 31),
  (20, .iload_n 3, 21, 0, 0),
  (21, .invokevirtual 83, 24, 0, 0),
  (24, .istore 4, 26, 0, 0),
  (26, .iload_n 2, 27, 0, 0),
  (27, .ifCond .eq 49, 30, 76, 0),
  (30, .iload 4, 32, 0, 0),
  (32, .bipush 41, 34, 0, 41),
  (34, .if_icmp .ne 9, 37, 43, 0),
  (37, .iinc 1 (-1), 40, 0, (-1)),
  (40, .goto 24, 43, 64, 0),
  (43, .iload 4, 45, 0, 0),
  (45, .bipush 38, 47, 0, 38),
  (47, .if_icmp .eq 10, 50, 57, 0),
  (50, .iload 4, 52, 0, 0),
  (52, .bipush 124, 54, 0, 124),
  (54, .if_icmp .ne 8, 57, 62, 0),
  (57, .iconst 0, 58, 0, 0),
  (58, .istore_n 2, 59, 0, 0),
  (59, .goto 5, 62, 64, 0),
  (62, .iconst 0, 63, 0, 0),
  (63, .ireturn, 64, 0, 0),
  (64, .iload_n 1, 65, 0, 0),
  (65, .ifCond .ge 5, 68, 70, 0),
  (68, .iconst 0, 69, 0, 0),
  (69, .ireturn, 70, 0, 0),
  (70, .iinc 3 1, 73, 0, 1),
  (73, .goto 47, 76, 120, 0),
  (76, .iload 4, 78, 0, 0),
  (78, .bipush 33, 80, 0, 33),
  (80, .if_icmp .eq 10, 83, 90, 0),
  (83, .iload 4, 85, 0, 0),
  (85, .bipush 40, 87, 0, 40),
  (87, .if_icmp .ne 19, 90, 106, 0),
  (90, .iload 4, 92, 0, 0),
  (92, .bipush 40, 94, 0, 40),
  (94, .if_icmp .ne 6, 97, 100, 0),
  (97, .iinc 1 1, 100, 0, 1),
  (100, .iinc 3 1, 103, 0, 1),
  (103, .goto 17, 106, 120, 0),
  (106, .aload_n 0, 107, 0, 0),
  (107, .iload_n 3, 108, 0, 0),
  (108, .invokevirtual 190, 111, 0, 0),
  (111, .istore_n 3, 112, 0, 0),
  (112, .iload_n 3, 113, 0, 0),
  (113, .ifCond .ge 5, 116, 118, 0),
  (116, .iconst 0, 117, 0, 0),
  (117, .ireturn, 118, 0, 0),
  (118, .iconst 1, 119, 0, 1),
  (119, .istore_n 2, 120, 0, 0),
  (120, .goto (-114), 123, 6, 0),
  (123, .iload_n 2, 124, 0, 0),
  (124, .ifCond .eq 11, 127, 135, 0),
  (127, .iload_n 1, 128, 0, 0),
  (128, .ifCond .ne 7, 131, 135, 0),
  (131, .iconst 1, 132, 0, 1),
  (132, .goto 4, 135, 136, 0),
  (135, .iconst 0, 136, 0, 0),
  (136, .ireturn, 137, 0, 0)]
theorem tg_MO_isQuery : jj_good yb_MO_isQuery 5 tb_MO_isQuery := by unfold jj_good; decide +kernel
def tb_MO_comparisonEnd : jjTab := [(0, .aload_n 0, 1, 0, 0),
  (1, .iload_n 1, 2, 0, 0),
  (2, .invokevirtual 184, 5, 0, 0),
  (5, .istore_n 2, 6, 0, 0),
  (6, .iload_n 2, 7, 0, 0),
  (7, .ifCond .lt 26, 10, 33, 0),
  (10, .aload_n 0, 11, 0, 0),
  (11, .bipush 31, 13, 0, 31),
  (13, .iload_n 2, 14, 0, 0),
  (14, .invokevirtual 83, 17, 0, 0),
  (17, .invokestatic 187, 20, 0, 0),
  (20, .ifCond .eq 13, 23, 33, 0),
  (23, .aload_n 0, 24, 0, 0),
  (24, .iload_n 2, 25, 0, 0),
  (25, .iconst 1, 26, 0, 1),
  (26, .iadd, 27, 0, 0),
  (27, .invokevirtual 184, 30, 0, 0),
  (30, .goto 4, 33, 34, 0),
  (33, .iconst (-1), 34, 0, (-1)),
  (34, .ireturn, 35, 0, 0)]
theorem tg_MO_comparisonEnd : jj_good yb_MO_comparisonEnd 3 tb_MO_comparisonEnd := by unfold jj_good; decide +kernel
def tb_MO_valueEnd : jjTab := [(0, .aload_n 0, 1, 0, 0),
  (1, .iload_n 1, 2, 0, 0),
  (2, .invokevirtual 178, 5, 0, 0),
  (5, .istore_n 2, 6, 0, 0),
  (6, .iload_n 2, 7, 0, 0),
  (7, .ifCond .lt 27, 10, 34, 0),
  (10, .aload_n 0, 11, 0, 0),
  (11, .bipush 31, 13, 0, 31),
  (13, .iload_n 2, 14, 0, 0),
  (14, .invokevirtual 83, 17, 0, 0),
  (17, .invokestatic 181, 20, 0, 0),
  (20, .ifCond .eq 14, 23, 34, 0),
  (23, .aload_n 0, 24, 0, 0),
  (24, .iload_n 2, 25, 0, 0),
  (25, .iconst 1, 26, 0, 1),
  (26, .iadd, 27, 0, 0),
  (27, .invokevirtual 178, 30, 0, 0),
  (30, .istore_n 2, 31, 0, 0),
  (31, .goto (-25), 34, 6, 0),
  (34, .iload_n 2, 35, 0, 0),
  (35, .ireturn, 36, 0, 0)]
theorem tg_MO_valueEnd : jj_good yb_MO_valueEnd 3 tb_MO_valueEnd := by unfold jj_good; decide +kernel
def tb_MO_unit : jjTab := [(0, .aload_n 0, 1, 0, 0),
  (1, .bipush 31, 3, 0, 31),
  (3, .iload_n 1, 4, 0, 0),
  (4, .invokevirtual 83, 7, 0, 0),
  (7, .istore_n 2, 8, 0, 0),
  (8, .iload_n 2, 9, 0, 0),
  (9, .bipush 97, 11, 0, 97),
  (11, .if_icmp .lt 13, 14, 24, 0),
  (14, .iload_n 2, 15, 0, 0),
  (15, .bipush 101, 17, 0, 101),
  (17, .if_icmp .gt 7, 20, 24, 0),
  (20, .iload_n 1, 21, 0, 0),
  (21, .iconst 1, 22, 0, 1),
  (22, .iadd, 23, 0, 0),
  (23, .ireturn, 24, 0, 0),
  (24, .iload_n 1, 25, 0, 0),
  (25, .istore_n 3, 26, 0, 0),
  (26, .aload_n 0, 27, 0, 0),
  (27, .bipush 31, 29, 0, 31),
  (29, .iload_n 3, 30, 0, 0),
  (30, .invokevirtual 83, 33, 0, 0),
  (33, .invokestatic 99, 36, 0, 0),
  (36, .ifCond .eq 9, 39, 45, 0),
  (39, .iinc 3 1, 42, 0, 1),
  (42, .goto (-16), 45, 26, 0),
  (45, .iload_n 3, 46, 0, 0),
  (46, .iload_n 1, 47, 0, 0),
  (47, .if_icmp .eq 10, 50, 57, 0),
  (50, .iload_n 3, 51, 0, 0),
  (51, .iload_n 1, 52, 0, 0),
  (52, .iconst 4, 53, 0, 4),
  (53, .iadd, 54, 0, 0),
  (54, .if_icmp .le 7, 57, 61, 0),
  (57, .iconst (-1), 58, 0, (-1)),
  (58, .goto 4, 61, 62, 0),
  (61, .iload_n 3, 62, 0, 0),
  (62, .ireturn, 63, 0, 0)]
theorem tg_MO_unit : jj_good yb_MO_unit 4 tb_MO_unit := by unfold jj_good; decide +kernel
def tb_MO_isOperator : jjTab := [(0, .iload_n 0, 1, 0, 0),
  (1, .bipush 43, 3, 0, 43),
  (3, .if_icmp .eq 21, 6, 24, 0),
  (6, .iload_n 0, 7, 0, 0),
  (7, .bipush 45, 9, 0, 45),
  (9, .if_icmp .eq 15, 12, 24, 0),
  (12, .iload_n 0, 13, 0, 0),
  (13, .bipush 42, 15, 0, 42),
  (15, .if_icmp .eq 9, 18, 24, 0),
  (18, .iload_n 0, 19, 0, 0),
  (19, .bipush 47, 21, 0, 47),
  (21, .if_icmp .ne 7, 24, 28, 0),
  (24, .iconst 1, 25, 0, 1),
  (25, .goto 4, 28, 29, 0),
  (28, .iconst 0, 29, 0, 0),
  (29, .ireturn, 30, 0, 0)]
theorem tg_MO_isOperator : jj_good yb_MO_isOperator 1 tb_MO_isOperator := by unfold jj_good; decide +kernel
def tb_MO_isRelation : jjTab := [(0, .iload_n 0, 1, 0, 0),
  (1, .bipush 61, 3, 0, 61),
  (3, .if_icmp .eq 21, 6, 24, 0),
  (6, .iload_n 0, 7, 0, 0),
  (7, .bipush 60, 9, 0, 60),
  (9, .if_icmp .eq 15, 12, 24, 0),
  (12, .iload_n 0, 13, 0, 0),
  (13, .bipush 62, 15, 0, 62),
  (15, .if_icmp .eq 9, 18, 24, 0),
  (18, .iload_n 0, 19, 0, 0),
  (19, .bipush 35, 21, 0, 35),
  (21, .if_icmp .ne 7, 24, 28, 0),
  (24, .iconst 1, 25, 0, 1),
  (25, .goto 4, 28, 29, 0),
  (28, .iconst 0, 29, 0, 0),
  (29, .ireturn, 30, 0, 0)]
theorem tg_MO_isRelation : jj_good yb_MO_isRelation 1 tb_MO_isRelation := by unfold jj_good; decide +kernel
def tb_MO_shorten : jjTab := [(0, .aload_n 0, 1, 0, 0),
  (1, .getfield 13, 4, 0, 0),
  (4, .bipush 32, 6, 0, 32),
  (6, .iconst 0, 7, 0, 0),
  (7, .iastore, 8, 0, 0),
  (8, .iconst 0, 9, 0, 0),
  (9, .istore_n 1, 10, 0, 0),
  (10, .iload_n 1, 11, 0, 0),
  (11, .aload_n 0, 12, 0, 0),
  (12, .getfield 13, 15, 0, 0),
  (15, .bipush 31, 17, 0, 31),
  (17, .iaload, 18, 0, 0),
  (18, .if_icmp .ge 109, 21, 127, 0),
  (21, .aload_n 0, 22, 0, 0),
  (22, .bipush 31, 24, 0, 31),
  (24, .iload_n 1, 25, 0, 0),
  (25, .invokevirtual 83, 28, 0, 0),
  (28, .istore_n 2, 29, 0, 0),
  (29, .iload_n 2, 30, 0, 0),
  (30, .bipush 48, 32, 0, 48),
  (32, .if_icmp .ne 32, 35, 64, 0),
  (35, .aload_n 0, 36, 0, 0),
  (36, .bipush 31, 38, 0, 31),
  (38, .iload_n 1, 39, 0, 0),
  (39, .iconst 1, 40, 0, 1),
  (40, .iadd, 41, 0, 0),
  (41, .invokevirtual 83, 44, 0, 0),
  (44, .invokestatic 99, 47, 0, 0),
  (47, .ifCond .eq 17, 50, 64, 0),
  (50, .aload_n 0, 51, 0, 0),
  (51, .invokevirtual 203, 54, 0, 0),
  (54, .invokestatic 99, 57, 0, 0),
  (57, .ifCond .ne 7, 60, 64, 0),
  (60, .iconst 1, 61, 0, 1),
  (61, .goto 4, 64, 65, 0),
  (64, .iconst 0, 65, 0, 0),
  (65, .istore_n 3, 66, 0, 0),
  (66, .iload_n 2, 67, 0, 0),
  (67, .bipush 40, 69, 0, 40),
  (69, .if_icmp .ne 11, 72, 80, 0),
  (72, .aload_n 0, 73, 0, 0),
  (73, .iload_n 1, 74, 0, 0),
  (74, .invokevirtual 207, 77, 0, 0),
  (77, .ifCond .eq 21, 80, 98, 0),
  (80, .iload_n 2, 81, 0, 0),
  (81, .bipush 41, 83, 0, 41),
  (83, .if_icmp .ne 19, 86, 102, 0),
  (86, .aload_n 0, 87, 0, 0),
  (87, .aload_n 0, 88, 0, 0),
  (88, .iload_n 1, 89, 0, 0),
  (89, .invokevirtual 193, 92, 0, 0),
  (92, .invokevirtual 207, 95, 0, 0),
  (95, .ifCond .ne 7, 98, 102, 0),
  (98, .iconst 1, 99, 0, 1),
  (99, .goto 4, 102, 103, 0),
  (102, .iconst 0, 103, 0, 0),
  (103, .istore 4, 105, 0, 0),
  (105, .iload_n 3, 106, 0, 0),
  (106, .ifCond .ne 15, 109, 121, 0),
  (109, .iload 4, 111, 0, 0),
  (111, .ifCond .ne 10, 114, 121, 0),
  (114, .aload_n 0, 115, 0, 0),
  (115, .bipush 32, 117, 0, 32),
  (117, .iload_n 2, 118, 0, 0),
  (118, .invokevirtual 87, 121, 0, 0),
  (121, .iinc 1 1, 124, 0, 1),
  (124, .goto (-114), 127, 10, 0),
  (127, .return_, 128, 0, 0)]
theorem tg_MO_shorten : jj_good yb_MO_shorten 5 tb_MO_shorten := by unfold jj_good; decide +kernel
end
section
def tb_MO_last : jjTab := [(0, .aload_n 0, 1, 0, 0),
  (1, .bipush 32, 3, 0, 32),
  (3, .aload_n 0, 4, 0, 0),
  (4, .getfield 13, 7, 0, 0),
  (7, .bipush 32, 9, 0, 32),
  (9, .iaload, 10, 0, 0),
  (10, .iconst 1, 11, 0, 1),
  (11, .isub, 12, 0, 0),
  (12, .invokevirtual 83, 15, 0, 0),
  (15, .ireturn, 16, 0, 0)]
theorem tg_MO_last : jj_good yb_MO_last 1 tb_MO_last := by unfold jj_good; decide +kernel
def tb_MO_needed : jjTab := [(0, .aload_n 0, 1, 0, 0),
  (1, .iload_n 1, 2, 0, 0),
  (2, .invokevirtual 193, 5, 0, 0),
  (5, .istore_n 2, 6, 0, 0),
  (6, .iload_n 1, 7, 0, 0),
  (7, .iconst 1, 8, 0, 1),
  (8, .iadd, 9, 0, 0),
  (9, .istore_n 3, 10, 0, 0),
  (10, .iload_n 2, 11, 0, 0),
  (11, .istore 4, 13, 0, 0),
  (13, .aload_n 0, 14, 0, 0),
  (14, .bipush 31, 16, 0, 31),
  (16, .iload_n 3, 17, 0, 0),
  (17, .invokevirtual 83, 20, 0, 0),
  (20, .bipush 40, 22, 0, 40),
  (22, .if_icmp .ne 24, 25, 46, 0),
  (25, .aload_n 0, 26, 0, 0),
  (26, .iload_n 3, 27, 0, 0),
  (27, .invokevirtual 193, 30, 0, 0),
  (30, .iload 4, 32, 0, 0),
  (32, .iconst 1, 33, 0, 1),
  (33, .isub, 34, 0, 0),
  (34, .if_icmp .ne 12, 37, 46, 0),
  (37, .iinc 3 1, 40, 0, 1),
  (40, .iinc 4 (-1), 43, 0, (-1)),
  (43, .goto (-30), 46, 13, 0),
  (46, .aload_n 0, 47, 0, 0),
  (47, .iload_n 3, 48, 0, 0),
  (48, .iload 4, 50, 0, 0),
  (50, .bipush 124, 52, 0, 124),
  (52, .invokevirtual 196, 55, 0, 0),
  (55, .istore 5, 57, 0, 0),
  (57, .aload_n 0, 58, 0, 0),
  (58, .bipush 31, 60, 0, 31),
  (60, .iload_n 1, 61, 0, 0),
  (61, .iconst 1, 62, 0, 1),
  (62, .isub, 63, 0, 0),
  (63, .invokevirtual 83, 66, 0, 0),
  (66, .bipush 33, 68, 0, 33),
  (68, .if_icmp .ne 7, 71, 75, 0),
  (71, .iconst 1, 72, 0, 1),
  (72, .goto 4, 75, 76, 0),
  (75, .iconst 0, 76, 0, 0),
  (76, .istore 6, 78, 0, 0),
  (78, .iload 5, 80, 0, 0),
  (80, .ifCond .eq 23, 83, 103, 0),
  (83, .iload 6, 85, 0, 0),
  (85, .ifCond .ne 12, 88, 97, 0),
  (88, .aload_n 0, 89, 0, 0),
  (89, .iload_n 1, 90, 0, 0),
  (90, .iload_n 2, 91, 0, 0),
  (91, .invokevirtual 200, 94, 0, 0),
  (94, .ifCond .eq 7, 97, 101, 0),
  (97, .iconst 1, 98, 0, 1),
  (98, .goto 4, 101, 102, 0),
  (101, .iconst 0, 102, 0, 0),
  (102, .ireturn, 103, 0, 0),
  (103, .iload 6, 105, 0, 0),
  (105, .ifCond .eq 19, 108, 124, 0),
  (108, .aload_n 0, 109, 0, 0),
  (109, .iload_n 3, 110, 0, 0),
  (110, .iload 4, 112, 0, 0),
  (112, .bipush 38, 114, 0, 38),
  (114, .invokevirtual 196, 117, 0, 0),
  (117, .ifCond .eq 7, 120, 124, 0),
  (120, .iconst 1, 121, 0, 1),
  (121, .goto 4, 124, 125, 0),
  (124, .iconst 0, 125, 0, 0),
  (125, .ireturn, 126, 0, 0)]
theorem tg_MO_needed : jj_good yb_MO_needed 7 tb_MO_needed := by unfold jj_good; decide +kernel
def tb_MO_partner : jjTab := [(0, .aload_n 0, 1, 0, 0),
  (1, .bipush 31, 3, 0, 31),
  (3, .iload_n 1, 4, 0, 0),
  (4, .invokevirtual 83, 7, 0, 0),
  (7, .bipush 40, 9, 0, 40),
  (9, .if_icmp .ne 7, 12, 16, 0),
  (12, .iconst 1, 13, 0, 1),
  (13, .goto 4, 16, 17, 0),
  (16, .iconst (-1), 17, 0, (-1)),
  (17, .istore_n 2, 18, 0, 0),
  (18, .iconst 0, 19, 0, 0),
  (19, .istore_n 3, 20, 0, 0),
  (20, .iload_n 1, 21, 0, 0),
  (21, .istore 4, 23, 0, 0),
  (23, .iconst 0, 24, 0, 0),
  (24, .istore 5, 26, 0, 0),
  (26, .iload 5, 28, 0, 0),
  (28, .bipush 60, 30, 0, 60),
  (30, .if_icmp .ge 60, 33, 90, 0),
  (33, .aload_n 0, 34, 0, 0),
  (34, .bipush 31, 36, 0, 31),
  (36, .iload 4, 38, 0, 0),
  (38, .invokevirtual 83, 41, 0, 0),
  (41, .istore 6, 43, 0, 0),
  (43, .iload 6, 45, 0, 0),
  (45, .bipush 40, 47, 0, 40),
  (47, .if_icmp .ne 9, 50, 56, 0),
  (50, .iload_n 3, 51, 0, 0),
  (51, .iconst 1, 52, 0, 1),
  (52, .iadd, 53, 0, 0),
  (53, .goto 17, 56, 70, 0),
  (56, .iload 6, 58, 0, 0),
  (58, .bipush 41, 60, 0, 41),
  (60, .if_icmp .ne 9, 63, 69, 0),
  (63, .iload_n 3, 64, 0, 0),
  (64, .iconst 1, 65, 0, 1),
  (65, .isub, 66, 0, 0),
  (66, .goto 4, 69, 70, 0),
  (69, .iload_n 3, 70, 0, 0),
  (70, .istore_n 3, 71, 0, 0),
  (71, .iload_n 3, 72, 0, 0),
  (72, .ifCond .ne 6, 75, 78, 0),
  (75, .iload 4, 77, 0, 0),
  (77, .ireturn, 78, 0, 0),
  (78, .iload 4, 80, 0, 0),
  (80, .iload_n 2, 81, 0, 0),
  (81, .iadd, 82, 0, 0),
  (82, .istore 4, 84, 0, 0),
  (84, .iinc 5 1, 87, 0, 1),
  (87, .goto (-61), 90, 26, 0),
  (90, .iload 4, 92, 0, 0),
  (92, .ireturn, 93, 0, 0)]
theorem tg_MO_partner : jj_good yb_MO_partner 7 tb_MO_partner := by unfold jj_good; decide +kernel
def tb_MO_contains : jjTab := [(0, .iconst 0, 1, 0, 0),
  (1, .istore 4, 3, 0, 0),
  (3, .iconst 0, 4, 0, 0),
  (4, .istore 5, 6, 0, 0),
  (6, .iload_n 1, 7, 0, 0),
  (7, .istore 6, 9, 0, 0),
  (9, .iload 6, 11, 0, 0),
  (11, .iload_n 2, 12, 0, 0),
  (12, .if_icmp .ge 74, 15, 86, 0),
  (15, .aload_n 0, 16, 0, 0),
  (16, .bipush 31, 18, 0, 31),
  (18, .iload 6, 20, 0, 0),
  (20, .invokevirtual 83, 23, 0, 0),
  (23, .istore 7, 25, 0, 0),
  (25, .iload 7, 27, 0, 0),
  (27, .bipush 40, 29, 0, 40),
  (29, .if_icmp .ne 10, 32, 39, 0),
  (32, .iload 4, 34, 0, 0),
  (34, .iconst 1, 35, 0, 1),
  (35, .iadd, 36, 0, 0),
  (36, .goto 19, 39, 55, 0),
  (39, .iload 7, 41, 0, 0),
  (41, .bipush 41, 43, 0, 41),
  (43, .if_icmp .ne 10, 46, 53, 0),
  (46, .iload 4, 48, 0, 0),
  (48, .iconst 1, 49, 0, 1),
  (49, .isub, 50, 0, 0),
  (50, .goto 5, 53, 55, 0),
  (53, .iload 4, 55, 0, 0),
  (55, .istore 4, 57, 0, 0),
  (57, .iload 5, 59, 0, 0),
  (59, .ifCond .ne 14, 62, 73, 0),
  (62, .iload 4, 64, 0, 0),
  (64, .ifCond .ne 13, 67, 77, 0),
  (67, .iload 7, 69, 0, 0),
  (69, .iload_n 3, 70, 0, 0),
  (70, .if_icmp .ne 7, 73, 77, 0),
  (73, .iconst 1, 74, 0, 1),
  (74, .goto 4, 77, 78, 0),
  (77, .iconst 0, 78, 0, 0),
  (78, .istore 5, 80, 0, 0),
  (80, .iinc 6 1, 83, 0, 1),
  (83, .goto (-74), 86, 9, 0),
  (86, .iload 5, 88, 0, 0),
  (88, .ireturn, 89, 0, 0)]
theorem tg_MO_contains : jj_good yb_MO_contains 8 tb_MO_contains := by unfold jj_good; decide +kernel
def tb_MO_amongSeveral : jjTab := [(0, .iload_n 1, 1, 0, 0),
  (1, .iconst 1, 2, 0, 1),
  (2, .isub, 3, 0, 0),
  (3, .istore_n 3, 4, 0, 0),
  (4, .aload_n 0, 5, 0, 0),
  (5, .bipush 31, 7, 0, 31),
  (7, .iload_n 3, 8, 0, 0),
  (8, .invokevirtual 83, 11, 0, 0),
  (11, .bipush 33, 13, 0, 33),
  (13, .if_icmp .ne 9, 16, 22, 0),
  (16, .iinc 3 (-1), 19, 0, (-1)),
  (19, .goto (-15), 22, 4, 0),
  (22, .aload_n 0, 23, 0, 0),
  (23, .bipush 31, 25, 0, 31),
  (25, .iload_n 3, 26, 0, 0),
  (26, .invokevirtual 83, 29, 0, 0),
  (29, .bipush 38, 31, 0, 38),
  (31, .if_icmp .eq 17, 34, 48, 0),
  (34, .aload_n 0, 35, 0, 0),
  (35, .bipush 31, 37, 0, 31),
  (37, .iload_n 2, 38, 0, 0),
  (38, .iconst 1, 39, 0, 1),
  (39, .iadd, 40, 0, 0),
  (40, .invokevirtual 83, 43, 0, 0),
  (43, .bipush 38, 45, 0, 38),
  (45, .if_icmp .ne 7, 48, 52, 0),
  (48, .iconst 1, 49, 0, 1),
  (49, .goto 4, 52, 53, 0),
  (52, .iconst 0, 53, 0, 0),
  (53, .ireturn, 54, 0, 0)]
theorem tg_MO_amongSeveral : jj_good yb_MO_amongSeveral 4 tb_MO_amongSeveral := by unfold jj_good; decide +kernel
def tb_MO_check : jjTab := [(0, .aload_n 0, 1, 0, 0),
  (1, .iload_n 1, 2, 0, 0),
  (2, .invokevirtual 244, 5, 0, 0),
  (5, .ifCond .eq 23, 8, 28, 0),
  (8, .aload_n 0, 9, 0, 0),
  (9, .iload_n 2, 10, 0, 0),
  (10, .invokevirtual 171, 13, 0, 0),
  (13, .ifCond .eq 15, 16, 28, 0),
  (16, .aload_n 0, 17, 0, 0),
  (17, .bipush 18, 19, 0, 18),
  (19, .iload_n 1, 20, 0, 0),
  (20, .iadd, 21, 0, 0),
  (21, .iload_n 2, 22, 0, 0),
  (22, .invokevirtual 247, 25, 0, 0),
  (25, .goto 5, 28, 30, 0),
  (28, .bipush (-2), 30, 0, (-2)),
  (30, .ireturn, 31, 0, 0)]
theorem tg_MO_check : jj_good yb_MO_check 3 tb_MO_check := by unfold jj_good; decide +kernel
def tb_MO_isAsked : jjTab := [(0, .iload_n 1, 1, 0, 0),
  (1, .ifCond .lt 22, 4, 23, 0),
  (4, .iload_n 1, 5, 0, 0),
  (5, .bipush 6, 7, 0, 6),
  (7, .if_icmp .ge 16, 10, 23, 0),
  (10, .aload_n 0, 11, 0, 0),
  (11, .getfield 27, 14, 0, 0),
  (14, .iload_n 1, 15, 0, 0),
  (15, .baload, 16, 0, 0),
  (16, .ifCond .eq 7, 19, 23, 0),
  (19, .iconst 1, 20, 0, 1),
  (20, .goto 4, 23, 24, 0),
  (23, .iconst 0, 24, 0, 0),
  (24, .ireturn, 25, 0, 0)]
theorem tg_MO_isAsked : jj_good yb_MO_isAsked 2 tb_MO_isAsked := by unfold jj_good; decide +kernel
def tb_MO_truth : jjTab := [(0, .iconst 0, 1, 0, 0),
  (1, .istore_n 3, 2, 0, 0),
  (2, .aload_n 0, 3, 0, 0),
  (3, .iconst 0, 4, 0, 0),
  (4, .putfield 219, 7, 0, 0),
  (7, .aload_n 0, 8, 0, 0),
  (8, .iconst 0, 9, 0, 0),
  (9, .putfield 216, 12, 0, 0),
  (12, .aload_n 0, 13, 0, 0),
  (13, .iconst 0, 14, 0, 0),
  (14, .iconst 1, 15, 0, 1),
  (15, .invokevirtual 231, 18, 0, 0),
  (18, .aload_n 0, 19, 0, 0),
  (19, .getfield 216, 22, 0, 0),
  (22, .aload_n 0, 23, 0, 0),
  (23, .getfield 13, 26, 0, 0),
  (26, .iload_n 1, 27, 0, 0),
  (27, .iaload, 28, 0, 0),
  (28, .if_icmp .ge 271, 31, 299, 0),
  (31, .aload_n 0, 32, 0, 0),
  (32, .iload_n 1, 33, 0, 0),
  (33, .aload_n 0, 34, 0, 0),
  (34, .getfield 216, 37, 0, 0),
  (37, .invokevirtual 83, 40, 0, 0),
  (40, .istore 4, 42, 0, 0),
  (42, .iload 4, 44, 0, 0),
  (44, .bipush 33, 46, 0, 33),
  (46, .if_icmp .ne 36, 49, 82, 0),
  (49, .aload_n 0, 50, 0, 0),
  (50, .getfield 80, 53, 0, 0),
  (53, .iload_n 3, 54, 0, 0),
  (54, .aload_n 0, 55, 0, 0),
  (55, .getfield 80, 58, 0, 0),
  (58, .iload_n 3, 59, 0, 0),
  (59, .baload, 60, 0, 0),
  (60, .ifCond .ne 7, 63, 67, 0),
  (63, .iconst 1, 64, 0, 1),
  (64, .goto 4, 67, 68, 0),
  (67, .iconst 0, 68, 0, 0),
  (68, .bastore, 69, 0, 0),
  (69, .aload_n 0, 70, 0, 0),
  (70, .dup, 71, 0, 0),
  (71, .getfield 216, 74, 0, 0),
  (74, .iconst 1, 75, 0, 1),
  (75, .iadd, 76, 0, 0),
  (76, .putfield 216, 79, 0, 0),
  (79, .goto 217, 82, 296, 0),
  (82, .iload 4, 84, 0, 0),
  (84, .bipush 40, 86, 0, 40),
  (86, .if_icmp .ne 31, 89, 117, 0),
  (89, .aload_n 0, 90, 0, 0),
  (90, .iload_n 3, 91, 0, 0),
  (91, .iconst 1, 92, 0, 1),
  (92, .iadd, 93, 0, 0),
  (93, .aload_n 0, 94, 0, 0),
  (94, .iload_n 3, 95, 0, 0),
  (95, .invokevirtual 235, 98, 0, 0),
  (98, .invokevirtual 231, 101, 0, 0),
  (101, .iinc 3 1, 104, 0, 1),
  (104, .aload_n 0, 105, 0, 0),
  (105, .dup, 106, 0, 0),
  (106, .getfield 216, 109, 0, 0),
  (109, .iconst 1, 110, 0, 1),
  (110, .iadd, 111, 0, 0),
  (111, .putfield 216, 114, 0, 0),
  (114, .goto 182, 117, 296, 0),
  (117, .iload 4, 119, 0, 0),
  (119, .bipush 41, 121, 0, 41),
  (121, .if_icmp .ne 51, 124, 172, 0),
  (124, .aload_n 0, 125, 0, 0),
  (125, .getfield 74, 128, 0, 0),
  (128, .iload_n 3, 129, 0, 0),
  (129, .baload, 130, 0, 0),
  (130, .ifCond .ne 12, 133, 142, 0),
  (133, .aload_n 0, 134, 0, 0),
  (134, .getfield 77, 137, 0, 0),
  (137, .iload_n 3, 138, 0, 0),
  (138, .baload, 139, 0, 0),
  (139, .ifCond .eq 7, 142, 146, 0),
  (142, .iconst 1, 143, 0, 1),
  (143, .goto 4, 146, 147, 0),
  (146, .iconst 0, 147, 0, 0),
  (147, .istore 5, 149, 0, 0),
  (149, .iinc 3 (-1), 152, 0, (-1)),
  (152, .aload_n 0, 153, 0, 0),
  (153, .iload_n 3, 154, 0, 0),
  (154, .iload 5, 156, 0, 0),
  (156, .invokevirtual 238, 159, 0, 0),
  (159, .aload_n 0, 160, 0, 0),
  (160, .dup, 161, 0, 0),
  (161, .getfield 216, 164, 0, 0),
  (164, .iconst 1, 165, 0, 1),
  (165, .iadd, 166, 0, 0),
  (166, .putfield 216, 169, 0, 0),
  (169, .goto 127, 172, 296, 0),
  (172, .iload 4, 174, 0, 0),
  (174, .bipush 38, 176, 0, 38),
  (176, .if_icmp .ne 16, 179, 192, 0),
  (179, .aload_n 0, 180, 0, 0),
  (180, .dup, 181, 0, 0),
  (181, .getfield 216, 184, 0, 0),
  (184, .iconst 1, 185, 0, 1),
  (185, .iadd, 186, 0, 0),
  (186, .putfield 216, 189, 0, 0),
  (189, .goto 107, 192, 296, 0),
  (192, .iload 4, 194, 0, 0),
  (194, .bipush 124, 196, 0, 124),
  (196, .if_icmp .ne 52, 199, 248, 0),
  (199, .aload_n 0, 200, 0, 0),
  (200, .getfield 74, 203, 0, 0),
  (203, .iload_n 3, 204, 0, 0),
  (204, .aload_n 0, 205, 0, 0),
  (205, .getfield 74, 208, 0, 0),
  (208, .iload_n 3, 209, 0, 0),
  (209, .baload, 210, 0, 0),
  (210, .ifCond .ne 12, 213, 222, 0),
  (213, .aload_n 0, 214, 0, 0),
  (214, .getfield 77, 217, 0, 0),
  (217, .iload_n 3, 218, 0, 0),
  (218, .baload, 219, 0, 0),
  (219, .ifCond .eq 7, 222, 226, 0),
  (222, .iconst 1, 223, 0, 1),
  (223, .goto 4, 226, 227, 0),
  (226, .iconst 0, 227, 0, 0),
  (227, .bastore, 228, 0, 0),
  (228, .aload_n 0, 229, 0, 0),
  (229, .getfield 77, 232, 0, 0),
  (232, .iload_n 3, 233, 0, 0),
  (233, .iconst 1, 234, 0, 1),
  (234, .bastore, 235, 0, 0),
  (235, .aload_n 0, 236, 0, 0),
  (236, .dup, 237, 0, 0),
  (237, .getfield 216, 240, 0, 0),
  (240, .iconst 1, 241, 0, 1),
  (241, .iadd, 242, 0, 0),
  (242, .putfield 216, 245, 0, 0),
  (245, .goto 51, 248, 296, 0),
  (248, .aload_n 0, 249, 0, 0),
  (249, .iload_n 3, 250, 0, 0),
  (250, .invokevirtual 235, 253, 0, 0),
  (253, .istore 5, 255, 0, 0),
  (255, .aload_n 0, 256, 0, 0),
  (256, .getfield 219, 259, 0, 0),
  (259, .istore 6, 261, 0, 0),
  (261, .aload_n 0, 262, 0, 0),
  (262, .iload_n 1, 263, 0, 0),
  (263, .iload_n 2, 264, 0, 0),
  (264, .invokevirtual 241, 267, 0, 0),
  (267, .istore 7, 269, 0, 0),
  (269, .iload 5, 271, 0, 0),
  (271, .ifCond .eq 12, 274, 283, 0),
  (274, .aload_n 0, 275, 0, 0),
  (275, .getfield 219, 278, 0, 0),
  (278, .ifCond .eq 5, 281, 283, 0),
  (281, .iconst 2, 282, 0, 2),
  (282, .ireturn, 283, 0, 0),
  (283, .aload_n 0, 284, 0, 0),
  (284, .iload 6, 286, 0, 0),
  (286, .putfield 219, 289, 0, 0),
  (289, .aload_n 0, 290, 0, 0),
  (290, .iload_n 3, 291, 0, 0),
  (291, .iload 7, 293, 0, 0),
  (293, .invokevirtual 238, 296, 0, 0),
  (296, .goto (-278), 299, 18, 0),
  (299, .aload_n 0, 300, 0, 0),
  (300, .getfield 74, 303, 0, 0),
  (303, .iconst 0, 304, 0, 0),
  (304, .baload, 305, 0, 0),
  (305, .ifCond .ne 12, 308, 317, 0),
  (308, .aload_n 0, 309, 0, 0),
  (309, .getfield 77, 312, 0, 0),
  (312, .iconst 0, 313, 0, 0),
  (313, .baload, 314, 0, 0),
  (314, .ifCond .eq 7, 317, 321, 0),
  (317, .iconst 1, 318, 0, 1),
  (318, .goto 4, 321, 322, 0),
  (321, .iconst 0, 322, 0, 0),
  (322, .ireturn, 323, 0, 0)]
theorem tg_MO_truth : jj_good yb_MO_truth 8 tb_MO_truth := by unfold jj_good; decide +kernel
def tb_MO_enter : jjTab := [(0, .aload_n 0, 1, 0, 0),
  (1, .getfield 71, 4, 0, 0),
  (4, .iload_n 1, 5, 0, 0),
  (5, .iload_n 2, 6, 0, 0),
  (6, .bastore, 7, 0, 0),
  (7, .aload_n 0, 8, 0, 0),
  (8, .getfield 74, 11, 0, 0),
  (11, .iload_n 1, 12, 0, 0),
  (12, .iconst 0, 13, 0, 0),
  (13, .bastore, 14, 0, 0),
  (14, .aload_n 0, 15, 0, 0),
  (15, .getfield 77, 18, 0, 0),
  (18, .iload_n 1, 19, 0, 0),
  (19, .iconst 1, 20, 0, 1),
  (20, .bastore, 21, 0, 0),
  (21, .aload_n 0, 22, 0, 0),
  (22, .getfield 80, 25, 0, 0),
  (25, .iload_n 1, 26, 0, 0),
  (26, .iconst 0, 27, 0, 0),
  (27, .bastore, 28, 0, 0),
  (28, .return_, 29, 0, 0)]
theorem tg_MO_enter : jj_good yb_MO_enter 3 tb_MO_enter := by unfold jj_good; decide +kernel
def tb_MO_looked : jjTab := [(0, .aload_n 0, 1, 0, 0),
  (1, .getfield 71, 4, 0, 0),
  (4, .iload_n 1, 5, 0, 0),
  (5, .baload, 6, 0, 0),
  (6, .ifCond .eq 25, 9, 31, 0),
  (9, .aload_n 0, 10, 0, 0),
  (10, .getfield 74, 13, 0, 0),
  (13, .iload_n 1, 14, 0, 0),
  (14, .baload, 15, 0, 0),
  (15, .ifCond .ne 16, 18, 31, 0),
  (18, .aload_n 0, 19, 0, 0),
  (19, .getfield 77, 22, 0, 0),
  (22, .iload_n 1, 23, 0, 0),
  (23, .baload, 24, 0, 0),
  (24, .ifCond .eq 7, 27, 31, 0),
  (27, .iconst 1, 28, 0, 1),
  (28, .goto 4, 31, 32, 0),
  (31, .iconst 0, 32, 0, 0),
  (32, .ireturn, 33, 0, 0)]
theorem tg_MO_looked : jj_good yb_MO_looked 2 tb_MO_looked := by unfold jj_good; decide +kernel
def tb_MO_settle : jjTab := [(0, .aload_n 0, 1, 0, 0),
  (1, .getfield 77, 4, 0, 0),
  (4, .iload_n 1, 5, 0, 0),
  (5, .aload_n 0, 6, 0, 0),
  (6, .getfield 77, 9, 0, 0),
  (9, .iload_n 1, 10, 0, 0),
  (10, .baload, 11, 0, 0),
  (11, .ifCond .eq 17, 14, 28, 0),
  (14, .iload_n 2, 15, 0, 0),
  (15, .aload_n 0, 16, 0, 0),
  (16, .getfield 80, 19, 0, 0),
  (19, .iload_n 1, 20, 0, 0),
  (20, .baload, 21, 0, 0),
  (21, .if_icmp .eq 7, 24, 28, 0),
  (24, .iconst 1, 25, 0, 1),
  (25, .goto 4, 28, 29, 0),
  (28, .iconst 0, 29, 0, 0),
  (29, .bastore, 30, 0, 0),
  (30, .aload_n 0, 31, 0, 0),
  (31, .getfield 80, 34, 0, 0),
  (34, .iload_n 1, 35, 0, 0),
  (35, .iconst 0, 36, 0, 0),
  (36, .bastore, 37, 0, 0),
  (37, .return_, 38, 0, 0)]
theorem tg_MO_settle : jj_good yb_MO_settle 3 tb_MO_settle := by unfold jj_good; decide +kernel
def tb_MO_comparison : jjTab := [(0, .aload_n 0, 1, 0, 0),
  (1, .iload_n 1, 2, 0, 0),
  (2, .iload_n 2, 3, 0, 0),
  (3, .invokevirtual 228, 6, 0, 0),
  (6, .istore_n 3, 7, 0, 0),
  (7, .aload_n 0, 8, 0, 0),
  (8, .iload_n 1, 9, 0, 0),
  (9, .aload_n 0, 10, 0, 0),
  (10, .getfield 216, 13, 0, 0),
  (13, .invokevirtual 83, 16, 0, 0),
  (16, .istore 4, 18, 0, 0),
  (18, .aload_n 0, 19, 0, 0),
  (19, .dup, 20, 0, 0),
  (20, .getfield 216, 23, 0, 0),
  (23, .iconst 1, 24, 0, 1),
  (24, .iadd, 25, 0, 0),
  (25, .putfield 216, 28, 0, 0),
  (28, .aload_n 0, 29, 0, 0),
  (29, .iload_n 1, 30, 0, 0),
  (30, .iload_n 2, 31, 0, 0),
  (31, .invokevirtual 228, 34, 0, 0),
  (34, .istore 5, 36, 0, 0),
  (36, .iload 4, 38, 0, 0),
  (38, .bipush 61, 40, 0, 61),
  (40, .if_icmp .ne 17, 43, 57, 0),
  (43, .iload_n 3, 44, 0, 0),
  (44, .iload 5, 46, 0, 0),
  (46, .if_icmp .ne 7, 49, 53, 0),
  (49, .iconst 1, 50, 0, 1),
  (50, .goto 60, 53, 110, 0),
  (53, .iconst 0, 54, 0, 0),
  (54, .goto 56, 57, 110, 0),
  (57, .iload 4, 59, 0, 0),
  (59, .bipush 60, 61, 0, 60),
  (61, .if_icmp .ne 17, 64, 78, 0),
  (64, .iload_n 3, 65, 0, 0),
  (65, .iload 5, 67, 0, 0),
  (67, .if_icmp .ge 7, 70, 74, 0),
  (70, .iconst 1, 71, 0, 1),
  (71, .goto 39, 74, 110, 0),
  (74, .iconst 0, 75, 0, 0),
  (75, .goto 35, 78, 110, 0),
  (78, .iload 4, 80, 0, 0),
  (80, .bipush 62, 82, 0, 62),
  (82, .if_icmp .ne 17, 85, 99, 0),
  (85, .iload_n 3, 86, 0, 0),
  (86, .iload 5, 88, 0, 0),
  (88, .if_icmp .le 7, 91, 95, 0),
  (91, .iconst 1, 92, 0, 1),
  (92, .goto 18, 95, 110, 0),
  (95, .iconst 0, 96, 0, 0),
  (96, .goto 14, 99, 110, 0),
  (99, .iload_n 3, 100, 0, 0),
  (100, .iload 5, 102, 0, 0),
  (102, .if_icmp .eq 7, 105, 109, 0),
  (105, .iconst 1, 106, 0, 1),
  (106, .goto 4, 109, 110, 0),
  (109, .iconst 0, 110, 0, 0),
  (110, .ireturn, 111, 0, 0)]
theorem tg_MO_comparison : jj_good yb_MO_comparison 6 tb_MO_comparison := by unfold jj_good; decide +kernel
def tb_MO_value : jjTab := [(0, .iconst 0, 1, 0, 0),
  (1, .istore_n 3, 2, 0, 0),
  (2, .aload_n 0, 3, 0, 0),
  (3, .iload_n 1, 4, 0, 0),
  (4, .iload_n 2, 5, 0, 0),
  (5, .invokevirtual 225, 8, 0, 0),
  (8, .istore 4, 10, 0, 0),
  (10, .iconst 1, 11, 0, 1),
  (11, .istore 5, 13, 0, 0),
  (13, .aload_n 0, 14, 0, 0),
  (14, .iload_n 1, 15, 0, 0),
  (15, .aload_n 0, 16, 0, 0),
  (16, .getfield 216, 19, 0, 0),
  (19, .invokevirtual 83, 22, 0, 0),
  (22, .invokestatic 181, 25, 0, 0),
  (25, .ifCond .eq 134, 28, 159, 0),
  (28, .aload_n 0, 29, 0, 0),
  (29, .iload_n 1, 30, 0, 0),
  (30, .aload_n 0, 31, 0, 0),
  (31, .getfield 216, 34, 0, 0),
  (34, .invokevirtual 83, 37, 0, 0),
  (37, .istore 6, 39, 0, 0),
  (39, .aload_n 0, 40, 0, 0),
  (40, .dup, 41, 0, 0),
  (41, .getfield 216, 44, 0, 0),
  (44, .iconst 1, 45, 0, 1),
  (45, .iadd, 46, 0, 0),
  (46, .putfield 216, 49, 0, 0),
  (49, .aload_n 0, 50, 0, 0),
  (50, .iload_n 1, 51, 0, 0),
  (51, .iload_n 2, 52, 0, 0),
  (52, .invokevirtual 225, 55, 0, 0),
  (55, .istore 7, 57, 0, 0),
  (57, .iload 6, 59, 0, 0),
  (59, .bipush 42, 61, 0, 42),
  (61, .if_icmp .ne 13, 64, 74, 0),
  (64, .iload 4, 66, 0, 0),
  (66, .iload 7, 68, 0, 0),
  (68, .imul, 69, 0, 0),
  (69, .istore 4, 71, 0, 0),
  (71, .goto 85, 74, 156, 0),
  (74, .iload 6, 76, 0, 0),
  (76, .bipush 47, 78, 0, 47),
  (78, .if_icmp .ne 43, 81, 121, 0),
  (81, .aload_n 0, 82, 0, 0),
  (82, .aload_n 0, 83, 0, 0),
  (83, .getfield 219, 86, 0, 0),
  (86, .ifCond .ne 8, 89, 94, 0),
  (89, .iload 7, 91, 0, 0),
  (91, .ifCond .ne 7, 94, 98, 0),
  (94, .iconst 1, 95, 0, 1),
  (95, .goto 4, 98, 99, 0),
  (98, .iconst 0, 99, 0, 0),
  (99, .putfield 219, 102, 0, 0),
  (102, .iload 7, 104, 0, 0),
  (104, .ifCond .ne 7, 107, 111, 0),
  (107, .iconst 0, 108, 0, 0),
  (108, .goto 8, 111, 116, 0),
  (111, .iload 4, 113, 0, 0),
  (113, .iload 7, 115, 0, 0),
  (115, .idiv, 116, 0, 0),
  (116, .istore 4, 118, 0, 0),
  (118, .goto 38, 121, 156, 0),
  (121, .iload 5, 123, 0, 0),
  (123, .ifCond .eq 10, 126, 133, 0),
  (126, .iload_n 3, 127, 0, 0),
  (127, .iload 4, 129, 0, 0),
  (129, .iadd, 130, 0, 0),
  (130, .goto 7, 133, 137, 0),
  (133, .iload_n 3, 134, 0, 0),
  (134, .iload 4, 136, 0, 0),
  (136, .isub, 137, 0, 0),
  (137, .istore_n 3, 138, 0, 0),
  (138, .iload 6, 140, 0, 0),
  (140, .bipush 43, 142, 0, 43),
  (142, .if_icmp .ne 7, 145, 149, 0),
  (145, .iconst 1, 146, 0, 1),
  (146, .goto 4, 149, 150, 0),
  (149, .iconst 0, 150, 0, 0),
  (150, .istore 5, 152, 0, 0),
  (152, .iload 7, 154, 0, 0),
  (154, .istore 4, 156, 0, 0),
  (156, .goto (-143), 159, 13, 0),
  (159, .iload 5, 161, 0, 0),
  (161, .ifCond .eq 10, 164, 171, 0),
  (164, .iload_n 3, 165, 0, 0),
  (165, .iload 4, 167, 0, 0),
  (167, .iadd, 168, 0, 0),
  (168, .goto 7, 171, 175, 0),
  (171, .iload_n 3, 172, 0, 0),
  (172, .iload 4, 174, 0, 0),
  (174, .isub, 175, 0, 0),
  (175, .ireturn, 176, 0, 0)]
theorem tg_MO_value : jj_good yb_MO_value 8 tb_MO_value := by unfold jj_good; decide +kernel
def tb_MO_unitValue : jjTab := [(0, .aload_n 0, 1, 0, 0),
  (1, .iload_n 1, 2, 0, 0),
  (2, .aload_n 0, 3, 0, 0),
  (3, .getfield 216, 6, 0, 0),
  (6, .invokevirtual 83, 9, 0, 0),
  (9, .istore_n 3, 10, 0, 0),
  (10, .iload_n 3, 11, 0, 0),
  (11, .invokestatic 95, 14, 0, 0),
  (14, .ifCond .eq 55, 17, 69, 0),
  (17, .aload_n 0, 18, 0, 0),
  (18, .dup, 19, 0, 0),
  (19, .getfield 216, 22, 0, 0),
  (22, .iconst 1, 23, 0, 1),
  (23, .iadd, 24, 0, 0),
  (24, .putfield 216, 27, 0, 0),
  (27, .aload_n 0, 28, 0, 0),
  (28, .aload_n 0, 29, 0, 0),
  (29, .getfield 219, 32, 0, 0),
  (32, .ifCond .ne 19, 35, 51, 0),
  (35, .aload_n 0, 36, 0, 0),
  (36, .getfield 24, 39, 0, 0),
  (39, .iconst 5, 40, 0, 5),
  (40, .iload_n 2, 41, 0, 0),
  (41, .imul, 42, 0, 0),
  (42, .iload_n 3, 43, 0, 0),
  (43, .iadd, 44, 0, 0),
  (44, .bipush 97, 46, 0, 97),
  (46, .isub, 47, 0, 0),
  (47, .baload, 48, 0, 0),
  (48, .ifCond .ne 7, 51, 55, 0),
  (51, .iconst 1, 52, 0, 1),
  (52, .goto 4, 55, 56, 0),
  (55, .iconst 0, 56, 0, 0),
  (56, .putfield 219, 59, 0, 0),
  (59, .aload_n 0, 60, 0, 0),
  (60, .iload_n 2, 61, 0, 0),
  (61, .iload_n 3, 62, 0, 0),
  (62, .bipush 97, 64, 0, 97),
  (64, .isub, 65, 0, 0),
  (65, .invokevirtual 222, 68, 0, 0),
  (68, .ireturn, 69, 0, 0),
  (69, .iconst 0, 70, 0, 0),
  (70, .istore 4, 72, 0, 0),
  (72, .aload_n 0, 73, 0, 0),
  (73, .iload_n 1, 74, 0, 0),
  (74, .aload_n 0, 75, 0, 0),
  (75, .getfield 216, 78, 0, 0),
  (78, .invokevirtual 83, 81, 0, 0),
  (81, .invokestatic 99, 84, 0, 0),
  (84, .ifCond .eq 36, 87, 120, 0),
  (87, .bipush 10, 89, 0, 10),
  (89, .iload 4, 91, 0, 0),
  (91, .imul, 92, 0, 0),
  (92, .aload_n 0, 93, 0, 0),
  (93, .iload_n 1, 94, 0, 0),
  (94, .aload_n 0, 95, 0, 0),
  (95, .getfield 216, 98, 0, 0),
  (98, .invokevirtual 83, 101, 0, 0),
  (101, .iadd, 102, 0, 0),
  (102, .bipush 48, 104, 0, 48),
  (104, .isub, 105, 0, 0),
  (105, .istore 4, 107, 0, 0),
  (107, .aload_n 0, 108, 0, 0),
  (108, .dup, 109, 0, 0),
  (109, .getfield 216, 112, 0, 0),
  (112, .iconst 1, 113, 0, 1),
  (113, .iadd, 114, 0, 0),
  (114, .putfield 216, 117, 0, 0),
  (117, .goto (-45), 120, 72, 0),
  (120, .iload 4, 122, 0, 0),
  (122, .ireturn, 123, 0, 0)]
theorem tg_MO_unitValue : jj_good yb_MO_unitValue 5 tb_MO_unitValue := by unfold jj_good; decide +kernel
def tb_MO_select : jjTab := [(0, .aload_n 0, 1, 0, 0),
  (1, .invokevirtual 122, 4, 0, 0),
  (4, .iload_n 1, 5, 0, 0),
  (5, .iconst (-1), 6, 0, (-1)),
  (6, .if_icmp .eq 14, 9, 20, 0),
  (9, .aload_n 0, 10, 0, 0),
  (10, .iload_n 1, 11, 0, 0),
  (11, .invokevirtual 244, 14, 0, 0),
  (14, .ifCond .ne 6, 17, 20, 0),
  (17, .bipush (-2), 19, 0, (-2)),
  (19, .ireturn, 20, 0, 0),
  (20, .aload_n 0, 21, 0, 0),
  (21, .bipush 31, 23, 0, 31),
  (23, .iconst 1, 24, 0, 1),
  (24, .invokevirtual 125, 27, 0, 0),
  (27, .ifCond .ne 5, 30, 32, 0),
  (30, .iconst (-1), 31, 0, (-1)),
  (31, .ireturn, 32, 0, 0),
  (32, .aload_n 0, 33, 0, 0),
  (33, .invokevirtual 129, 36, 0, 0),
  (36, .aload_n 0, 37, 0, 0),
  (37, .bipush 32, 39, 0, 32),
  (39, .bipush 30, 41, 0, 30),
  (41, .invokevirtual 91, 44, 0, 0),
  (44, .aload_n 0, 45, 0, 0),
  (45, .iconst 0, 46, 0, 0),
  (46, .putfield 250, 49, 0, 0),
  (49, .iconst 0, 50, 0, 0),
  (50, .istore_n 2, 51, 0, 0),
  (51, .iload_n 2, 52, 0, 0),
  (52, .bipush 12, 54, 0, 12),
  (54, .if_icmp .ge 67, 57, 121, 0),
  (57, .aload_n 0, 58, 0, 0),
  (58, .getfield 17, 61, 0, 0),
  (61, .iload_n 2, 62, 0, 0),
  (62, .baload, 63, 0, 0),
  (63, .ifCond .eq 52, 66, 115, 0),
  (66, .aload_n 0, 67, 0, 0),
  (67, .iload_n 2, 68, 0, 0),
  (68, .invokevirtual 253, 71, 0, 0),
  (71, .ifCond .ne 6, 74, 77, 0),
  (74, .goto 41, 77, 115, 0),
  (77, .iload_n 1, 78, 0, 0),
  (78, .iconst (-1), 79, 0, (-1)),
  (79, .if_icmp .eq 16, 82, 95, 0),
  (82, .aload_n 0, 83, 0, 0),
  (83, .bipush 18, 85, 0, 18),
  (85, .iload_n 1, 86, 0, 0),
  (86, .iadd, 87, 0, 0),
  (87, .iload_n 2, 88, 0, 0),
  (88, .invokevirtual 247, 91, 0, 0),
  (91, .iconst 1, 92, 0, 1),
  (92, .if_icmp .ne 23, 95, 115, 0),
  (95, .aload_n 0, 96, 0, 0),
  (96, .getfield 65, 99, 0, 0),
  (99, .aload_n 0, 100, 0, 0),
  (100, .getfield 250, 103, 0, 0),
  (103, .iload_n 2, 104, 0, 0),
  (104, .iastore, 105, 0, 0),
  (105, .aload_n 0, 106, 0, 0),
  (106, .dup, 107, 0, 0),
  (107, .getfield 250, 110, 0, 0),
  (110, .iconst 1, 111, 0, 1),
  (111, .iadd, 112, 0, 0),
  (112, .putfield 250, 115, 0, 0),
  (115, .iinc 2 1, 118, 0, 1),
  (118, .goto (-67), 121, 51, 0),
  (121, .aload_n 0, 122, 0, 0),
  (122, .getfield 250, 125, 0, 0),
  (125, .ireturn, 126, 0, 0)]
theorem tg_MO_select : jj_good yb_MO_select 3 tb_MO_select := by unfold jj_good; decide +kernel
def tb_MO_fits : jjTab := [(0, .aload_n 0, 1, 0, 0),
  (1, .bipush 32, 3, 0, 32),
  (3, .iconst 0, 4, 0, 0),
  (4, .iload_n 1, 5, 0, 0),
  (5, .iconst 0, 6, 0, 0),
  (6, .invokevirtual 143, 9, 0, 0),
  (9, .ifCond .ne 5, 12, 14, 0),
  (12, .iconst 0, 13, 0, 0),
  (13, .ireturn, 14, 0, 0),
  (14, .iconst 0, 15, 0, 0),
  (15, .istore_n 2, 16, 0, 0),
  (16, .iload_n 2, 17, 0, 0),
  (17, .bipush 26, 19, 0, 26),
  (19, .if_icmp .ge 71, 22, 90, 0),
  (22, .aload_n 0, 23, 0, 0),
  (23, .bipush 32, 25, 0, 32),
  (25, .iload_n 2, 26, 0, 0),
  (26, .invokevirtual 147, 29, 0, 0),
  (29, .istore_n 3, 30, 0, 0),
  (30, .aload_n 0, 31, 0, 0),
  (31, .iload_n 1, 32, 0, 0),
  (32, .iload_n 2, 33, 0, 0),
  (33, .invokevirtual 147, 36, 0, 0),
  (36, .istore 4, 38, 0, 0),
  (38, .iload_n 3, 39, 0, 0),
  (39, .ifCond .ge 17, 42, 56, 0),
  (42, .iload 4, 44, 0, 0),
  (44, .ifCond .lt 12, 47, 56, 0),
  (47, .aload_n 0, 48, 0, 0),
  (48, .getfield 102, 51, 0, 0),
  (51, .ifCond .ne 5, 54, 56, 0),
  (54, .iconst 0, 55, 0, 0),
  (55, .ireturn, 56, 0, 0),
  (56, .iload_n 3, 57, 0, 0),
  (57, .ifCond .lt 27, 60, 84, 0),
  (60, .iload 4, 62, 0, 0),
  (62, .ifCond .lt 20, 65, 82, 0),
  (65, .aload_n 0, 66, 0, 0),
  (66, .bipush 32, 68, 0, 32),
  (68, .iload_n 3, 69, 0, 0),
  (69, .iconst 2, 70, 0, 2),
  (70, .iadd, 71, 0, 0),
  (71, .iload_n 1, 72, 0, 0),
  (72, .iload 4, 74, 0, 0),
  (74, .iconst 2, 75, 0, 2),
  (75, .iadd, 76, 0, 0),
  (76, .invokevirtual 143, 79, 0, 0),
  (79, .ifCond .ne 5, 82, 84, 0),
  (82, .iconst 0, 83, 0, 0),
  (83, .ireturn, 84, 0, 0),
  (84, .iinc 2 1, 87, 0, 1),
  (87, .goto (-71), 90, 16, 0),
  (90, .iconst 1, 91, 0, 1),
  (91, .ireturn, 92, 0, 0)]
theorem tg_MO_fits : jj_good yb_MO_fits 5 tb_MO_fits := by unfold jj_good; decide +kernel
def tb_MO_matches : jjTab := [(0, .iconst 0, 1, 0, 0),
  (1, .istore 5, 3, 0, 0),
  (3, .aload_n 0, 4, 0, 0),
  (4, .iload_n 1, 5, 0, 0),
  (5, .iload_n 2, 6, 0, 0),
  (6, .iload 5, 8, 0, 0),
  (8, .iadd, 9, 0, 0),
  (9, .invokevirtual 83, 12, 0, 0),
  (12, .invokestatic 136, 15, 0, 0),
  (15, .ifCond .eq 9, 18, 24, 0),
  (18, .iinc 5 1, 21, 0, 1),
  (21, .goto (-18), 24, 3, 0),
  (24, .aload_n 0, 25, 0, 0),
  (25, .iload_n 1, 26, 0, 0),
  (26, .iload_n 2, 27, 0, 0),
  (27, .iload 5, 29, 0, 0),
  (29, .iconst 1, 30, 0, 1),
  (30, .invokevirtual 139, 33, 0, 0),
  (33, .istore 6, 35, 0, 0),
  (35, .iload 4, 37, 0, 0),
  (37, .istore 7, 39, 0, 0),
  (39, .aload_n 0, 40, 0, 0),
  (40, .iload_n 3, 41, 0, 0),
  (41, .iload 7, 43, 0, 0),
  (43, .invokevirtual 83, 46, 0, 0),
  (46, .invokestatic 136, 49, 0, 0),
  (49, .ifCond .eq 108, 52, 157, 0),
  (52, .iconst 0, 53, 0, 0),
  (53, .istore 8, 55, 0, 0),
  (55, .iconst 0, 56, 0, 0),
  (56, .istore 9, 58, 0, 0),
  (58, .iload 9, 60, 0, 0),
  (60, .iload 5, 62, 0, 0),
  (62, .if_icmp .ge 77, 65, 139, 0),
  (65, .aload_n 0, 66, 0, 0),
  (66, .iload_n 1, 67, 0, 0),
  (67, .iload_n 2, 68, 0, 0),
  (68, .iload 9, 70, 0, 0),
  (70, .iadd, 71, 0, 0),
  (71, .invokevirtual 83, 74, 0, 0),
  (74, .istore 10, 76, 0, 0),
  (76, .iload 6, 78, 0, 0),
  (78, .iload 9, 80, 0, 0),
  (80, .ishr, 81, 0, 0),
  (81, .iconst 1, 82, 0, 1),
  (82, .iand, 83, 0, 0),
  (83, .iconst 1, 84, 0, 1),
  (84, .if_icmp .ne 49, 87, 133, 0),
  (87, .iload 8, 89, 0, 0),
  (89, .iload 10, 91, 0, 0),
  (91, .bipush 42, 93, 0, 42),
  (93, .if_icmp .ne 10, 96, 103, 0),
  (96, .iconst 1, 97, 0, 1),
  (97, .iload 9, 99, 0, 0),
  (99, .ishl, 100, 0, 0),
  (100, .goto 30, 103, 130, 0),
  (103, .iload 10, 105, 0, 0),
  (105, .bipush 63, 107, 0, 63),
  (107, .if_icmp .eq 15, 110, 122, 0),
  (110, .iload 10, 112, 0, 0),
  (112, .aload_n 0, 113, 0, 0),
  (113, .iload_n 3, 114, 0, 0),
  (114, .iload 7, 116, 0, 0),
  (116, .invokevirtual 83, 119, 0, 0),
  (119, .if_icmp .ne 10, 122, 129, 0),
  (122, .iconst 2, 123, 0, 2),
  (123, .iload 9, 125, 0, 0),
  (125, .ishl, 126, 0, 0),
  (126, .goto 4, 129, 130, 0),
  (129, .iconst 0, 130, 0, 0),
  (130, .ior, 131, 0, 0),
  (131, .istore 8, 133, 0, 0),
  (133, .iinc 9 1, 136, 0, 1),
  (136, .goto (-78), 139, 58, 0),
  (139, .aload_n 0, 140, 0, 0),
  (140, .iload_n 1, 141, 0, 0),
  (141, .iload_n 2, 142, 0, 0),
  (142, .iload 5, 144, 0, 0),
  (144, .iload 8, 146, 0, 0),
  (146, .invokevirtual 139, 149, 0, 0),
  (149, .istore 6, 151, 0, 0),
  (151, .iinc 7 1, 154, 0, 1),
  (154, .goto (-115), 157, 39, 0),
  (157, .iload 6, 159, 0, 0),
  (159, .iload 5, 161, 0, 0),
  (161, .ishr, 162, 0, 0),
  (162, .iconst 1, 163, 0, 1),
  (163, .iand, 164, 0, 0),
  (164, .iconst 1, 165, 0, 1),
  (165, .if_icmp .ne 7, 168, 172, 0),
  (168, .iconst 1, 169, 0, 1),
  (169, .goto 4, 172, 173, 0),
  (172, .iconst 0, 173, 0, 0),
  (173, .ireturn, 174, 0, 0)]
theorem tg_MO_matches : jj_good yb_MO_matches 11 tb_MO_matches := by unfold jj_good; decide +kernel
def tb_MO_isPart : jjTab := [(0, .iload_n 0, 1, 0, 0),
  (1, .ifCond .eq 19, 4, 20, 0),
  (4, .iload_n 0, 5, 0, 0),
  (5, .bipush 44, 7, 0, 44),
  (7, .if_icmp .eq 13, 10, 20, 0),
  (10, .iload_n 0, 11, 0, 0),
  (11, .bipush 58, 13, 0, 58),
  (13, .if_icmp .eq 7, 16, 20, 0),
  (16, .iconst 1, 17, 0, 1),
  (17, .goto 4, 20, 21, 0),
  (20, .iconst 0, 21, 0, 0),
  (21, .ireturn, 22, 0, 0)]
theorem tg_MO_isPart : jj_good yb_MO_isPart 1 tb_MO_isPart := by unfold jj_good; decide +kernel
def tb_MO_spread : jjTab := [(0, .iload 4, 2, 0, 0),
  (2, .istore 5, 4, 0, 0),
  (4, .iconst 0, 5, 0, 0),
  (5, .istore 6, 7, 0, 0),
  (7, .iload 6, 9, 0, 0),
  (9, .iload_n 3, 10, 0, 0),
  (10, .if_icmp .ge 43, 13, 53, 0),
  (13, .iload 5, 15, 0, 0),
  (15, .iload 6, 17, 0, 0),
  (17, .ishr, 18, 0, 0),
  (18, .iconst 1, 19, 0, 1),
  (19, .iand, 20, 0, 0),
  (20, .iconst 1, 21, 0, 1),
  (21, .if_icmp .ne 26, 24, 47, 0),
  (24, .aload_n 0, 25, 0, 0),
  (25, .iload_n 1, 26, 0, 0),
  (26, .iload_n 2, 27, 0, 0),
  (27, .iload 6, 29, 0, 0),
  (29, .iadd, 30, 0, 0),
  (30, .invokevirtual 83, 33, 0, 0),
  (33, .bipush 42, 35, 0, 42),
  (35, .if_icmp .ne 12, 38, 47, 0),
  (38, .iload 5, 40, 0, 0),
  (40, .iconst 2, 41, 0, 2),
  (41, .iload 6, 43, 0, 0),
  (43, .ishl, 44, 0, 0),
  (44, .ior, 45, 0, 0),
  (45, .istore 5, 47, 0, 0),
  (47, .iinc 6 1, 50, 0, 1),
  (50, .goto (-43), 53, 7, 0),
  (53, .iload 5, 55, 0, 0),
  (55, .ireturn, 56, 0, 0)]
theorem tg_MO_spread : jj_good yb_MO_spread 7 tb_MO_spread := by unfold jj_good; decide +kernel
def tb_MO_property : jjTab := [(0, .aload_n 0, 1, 0, 0),
  (1, .iload_n 1, 2, 0, 0),
  (2, .invokevirtual 110, 5, 0, 0),
  (5, .iconst 1, 6, 0, 1),
  (6, .iadd, 7, 0, 0),
  (7, .istore_n 3, 8, 0, 0),
  (8, .iload_n 3, 9, 0, 0),
  (9, .istore 4, 11, 0, 0),
  (11, .iload 4, 13, 0, 0),
  (13, .aload_n 0, 14, 0, 0),
  (14, .getfield 13, 17, 0, 0),
  (17, .iload_n 1, 18, 0, 0),
  (18, .iaload, 19, 0, 0),
  (19, .if_icmp .ge 58, 22, 77, 0),
  (22, .iload 4, 24, 0, 0),
  (24, .iload_n 3, 25, 0, 0),
  (25, .if_icmp .eq 17, 28, 42, 0),
  (28, .aload_n 0, 29, 0, 0),
  (29, .iload_n 1, 30, 0, 0),
  (30, .iload 4, 32, 0, 0),
  (32, .iconst 1, 33, 0, 1),
  (33, .isub, 34, 0, 0),
  (34, .invokevirtual 83, 37, 0, 0),
  (37, .bipush 44, 39, 0, 44),
  (39, .if_icmp .ne 7, 42, 46, 0),
  (42, .iconst 1, 43, 0, 1),
  (43, .goto 4, 46, 47, 0),
  (46, .iconst 0, 47, 0, 0),
  (47, .istore 5, 49, 0, 0),
  (49, .iload 5, 51, 0, 0),
  (51, .ifCond .eq 20, 54, 71, 0),
  (54, .aload_n 0, 55, 0, 0),
  (55, .iload_n 1, 56, 0, 0),
  (56, .iload 4, 58, 0, 0),
  (58, .invokevirtual 83, 61, 0, 0),
  (61, .bipush 97, 63, 0, 97),
  (63, .iload_n 2, 64, 0, 0),
  (64, .iadd, 65, 0, 0),
  (65, .if_icmp .ne 6, 68, 71, 0),
  (68, .iload 4, 70, 0, 0),
  (70, .ireturn, 71, 0, 0),
  (71, .iinc 4 1, 74, 0, 1),
  (74, .goto (-63), 77, 11, 0),
  (77, .iconst (-1), 78, 0, (-1)),
  (78, .ireturn, 79, 0, 0)]
theorem tg_MO_property : jj_good yb_MO_property 6 tb_MO_property := by unfold jj_good; decide +kernel
def tb_MO_selected : jjTab := [(0, .iload_n 1, 1, 0, 0),
  (1, .ifCond .lt 11, 4, 12, 0),
  (4, .iload_n 1, 5, 0, 0),
  (5, .aload_n 0, 6, 0, 0),
  (6, .getfield 250, 9, 0, 0),
  (9, .if_icmp .lt 8, 12, 17, 0),
  (12, .bipush (-2), 14, 0, (-2)),
  (14, .goto 9, 17, 23, 0),
  (17, .aload_n 0, 18, 0, 0),
  (18, .getfield 65, 21, 0, 0),
  (21, .iload_n 1, 22, 0, 0),
  (22, .iaload, 23, 0, 0),
  (23, .ireturn, 24, 0, 0)]
theorem tg_MO_selected : jj_good yb_MO_selected 2 tb_MO_selected := by unfold jj_good; decide +kernel
def tb_MO_form : jjTab := [(0, .iload_n 1, 1, 0, 0),
  (1, .ifCond .ne 15, 4, 16, 0),
  (4, .aload_n 0, 5, 0, 0),
  (5, .iload_n 2, 6, 0, 0),
  (6, .invokevirtual 171, 9, 0, 0),
  (9, .ifCond .eq 7, 12, 16, 0),
  (12, .iload_n 2, 13, 0, 0),
  (13, .goto 44, 16, 57, 0),
  (16, .iload_n 1, 17, 0, 0),
  (17, .iconst 1, 18, 0, 1),
  (18, .if_icmp .ne 18, 21, 36, 0),
  (21, .aload_n 0, 22, 0, 0),
  (22, .iload_n 2, 23, 0, 0),
  (23, .invokevirtual 244, 26, 0, 0),
  (26, .ifCond .eq 10, 29, 36, 0),
  (29, .bipush 24, 31, 0, 24),
  (31, .iload_n 2, 32, 0, 0),
  (32, .iadd, 33, 0, 0),
  (33, .goto 24, 36, 57, 0),
  (36, .iload_n 1, 37, 0, 0),
  (37, .iconst 2, 38, 0, 2),
  (38, .if_icmp .ne 18, 41, 56, 0),
  (41, .aload_n 0, 42, 0, 0),
  (42, .getfield 13, 45, 0, 0),
  (45, .bipush 30, 47, 0, 30),
  (47, .iaload, 48, 0, 0),
  (48, .ifCond .le 8, 51, 56, 0),
  (51, .bipush 30, 53, 0, 30),
  (53, .goto 4, 56, 57, 0),
  (56, .iconst (-1), 57, 0, (-1)),
  (57, .istore 4, 59, 0, 0),
  (59, .iload 4, 61, 0, 0),
  (61, .ifCond .lt 19, 64, 80, 0),
  (64, .iload_n 3, 65, 0, 0),
  (65, .iconst (-1), 66, 0, (-1)),
  (66, .if_icmp .lt 14, 69, 80, 0),
  (69, .iload_n 3, 70, 0, 0),
  (70, .aload_n 0, 71, 0, 0),
  (71, .getfield 13, 74, 0, 0),
  (74, .iload 4, 76, 0, 0),
  (76, .iaload, 77, 0, 0),
  (77, .if_icmp .lt 6, 80, 83, 0),
  (80, .bipush (-2), 82, 0, (-2)),
  (82, .ireturn, 83, 0, 0),
  (83, .iload_n 3, 84, 0, 0),
  (84, .ifCond .ge 13, 87, 97, 0),
  (87, .aload_n 0, 88, 0, 0),
  (88, .getfield 13, 91, 0, 0),
  (91, .iload 4, 93, 0, 0),
  (93, .iaload, 94, 0, 0),
  (94, .goto 10, 97, 104, 0),
  (97, .aload_n 0, 98, 0, 0),
  (98, .iload 4, 100, 0, 0),
  (100, .iload_n 3, 101, 0, 0),
  (101, .invokevirtual 83, 104, 0, 0),
  (104, .ireturn, 105, 0, 0)]
theorem tg_MO_form : jj_good yb_MO_form 5 tb_MO_form := by unfold jj_good; decide +kernel
def tb_MO_counter : jjTab := [(0, .iload_n 2, 1, 0, 0),
  (1, .ifCond .lt 13, 4, 14, 0),
  (4, .iload_n 2, 5, 0, 0),
  (5, .iconst 4, 6, 0, 4),
  (6, .if_icmp .gt 8, 9, 14, 0),
  (9, .iload 4, 11, 0, 0),
  (11, .ifCond .ge 7, 14, 18, 0),
  (14, .iconst (-1), 15, 0, (-1)),
  (15, .goto 13, 18, 28, 0),
  (18, .aload_n 0, 19, 0, 0),
  (19, .iconst 1, 20, 0, 1),
  (20, .iload_n 1, 21, 0, 0),
  (21, .iload_n 2, 22, 0, 0),
  (22, .iload_n 3, 23, 0, 0),
  (23, .iload 4, 25, 0, 0),
  (25, .invokevirtual 256, 28, 0, 0),
  (28, .ireturn, 29, 0, 0)]
theorem tg_MO_counter : jj_good yb_MO_counter 5 tb_MO_counter := by unfold jj_good; decide +kernel
def tb_MO_watch : jjTab := [(0, .aload_n 0, 1, 0, 0),
  (1, .iload_n 2, 2, 0, 0),
  (2, .invokevirtual 171, 5, 0, 0),
  (5, .ifCond .ne 6, 8, 11, 0),
  (8, .bipush (-2), 10, 0, (-2)),
  (10, .ireturn, 11, 0, 0),
  (11, .iconst 0, 12, 0, 0),
  (12, .istore 6, 14, 0, 0),
  (14, .iload 6, 16, 0, 0),
  (16, .bipush 6, 18, 0, 6),
  (18, .if_icmp .ge 19, 21, 37, 0),
  (21, .aload_n 0, 22, 0, 0),
  (22, .getfield 30, 25, 0, 0),
  (25, .iload 6, 27, 0, 0),
  (27, .iaload, 28, 0, 0),
  (28, .ifCond .le 9, 31, 37, 0),
  (31, .iinc 6 1, 34, 0, 1),
  (34, .goto (-20), 37, 14, 0),
  (37, .iload 6, 39, 0, 0),
  (39, .bipush 6, 41, 0, 6),
  (41, .if_icmp .ne 6, 44, 47, 0),
  (44, .bipush (-4), 46, 0, (-4)),
  (46, .ireturn, 47, 0, 0),
  (47, .aload_n 0, 48, 0, 0),
  (48, .getfield 30, 51, 0, 0),
  (51, .iload 6, 53, 0, 0),
  (53, .iload_n 1, 54, 0, 0),
  (54, .iastore, 55, 0, 0),
  (55, .aload_n 0, 56, 0, 0),
  (56, .iload_n 2, 57, 0, 0),
  (57, .bipush 12, 59, 0, 12),
  (59, .iload 6, 61, 0, 0),
  (61, .iadd, 62, 0, 0),
  (62, .invokevirtual 91, 65, 0, 0),
  (65, .aload_n 0, 66, 0, 0),
  (66, .getfield 33, 69, 0, 0),
  (69, .iload 6, 71, 0, 0),
  (71, .iload_n 3, 72, 0, 0),
  (72, .iastore, 73, 0, 0),
  (73, .aload_n 0, 74, 0, 0),
  (74, .getfield 36, 77, 0, 0),
  (77, .iload 6, 79, 0, 0),
  (79, .iload 4, 81, 0, 0),
  (81, .iastore, 82, 0, 0),
  (82, .aload_n 0, 83, 0, 0),
  (83, .getfield 39, 86, 0, 0),
  (86, .iload 6, 88, 0, 0),
  (88, .iload 5, 90, 0, 0),
  (90, .iastore, 91, 0, 0),
  (91, .aload_n 0, 92, 0, 0),
  (92, .getfield 42, 95, 0, 0),
  (95, .iload 6, 97, 0, 0),
  (97, .iload_n 1, 98, 0, 0),
  (98, .iconst 1, 99, 0, 1),
  (99, .if_icmp .ne 9, 102, 108, 0),
  (102, .iload 4, 104, 0, 0),
  (104, .i2l, 105, 0, 0),
  (105, .goto 4, 108, 109, 0),
  (108, .lconst 0, 109, 0, 0),
  (109, .lastore, 110, 0, 0),
  (110, .aload_n 0, 111, 0, 0),
  (111, .getfield 46, 114, 0, 0),
  (114, .iload 6, 116, 0, 0),
  (116, .iconst 1, 117, 0, 1),
  (117, .bastore, 118, 0, 0),
  (118, .aload_n 0, 119, 0, 0),
  (119, .getfield 49, 122, 0, 0),
  (122, .iload 6, 124, 0, 0),
  (124, .iconst 0, 125, 0, 0),
  (125, .bastore, 126, 0, 0),
  (126, .aload_n 0, 127, 0, 0),
  (127, .getfield 55, 130, 0, 0),
  (130, .iload 6, 132, 0, 0),
  (132, .iconst 0, 133, 0, 0),
  (133, .bastore, 134, 0, 0),
  (134, .iload 6, 136, 0, 0),
  (136, .ireturn, 137, 0, 0)]
theorem tg_MO_watch : jj_good yb_MO_watch 7 tb_MO_watch := by unfold jj_good; decide +kernel
def tb_MO_gauge : jjTab := [(0, .iload_n 2, 1, 0, 0),
  (1, .ifCond .lt 14, 4, 15, 0),
  (4, .iload_n 2, 5, 0, 0),
  (5, .iconst 4, 6, 0, 4),
  (6, .if_icmp .gt 9, 9, 15, 0),
  (9, .iload_n 3, 10, 0, 0),
  (10, .iload 4, 12, 0, 0),
  (12, .if_icmp .lt 7, 15, 19, 0),
  (15, .iconst (-1), 16, 0, (-1)),
  (16, .goto 13, 19, 29, 0),
  (19, .aload_n 0, 20, 0, 0),
  (20, .iconst 2, 21, 0, 2),
  (21, .iload_n 1, 22, 0, 0),
  (22, .iload_n 2, 23, 0, 0),
  (23, .iload_n 3, 24, 0, 0),
  (24, .iload 4, 26, 0, 0),
  (26, .invokevirtual 256, 29, 0, 0),
  (29, .ireturn, 30, 0, 0)]
theorem tg_MO_gauge : jj_good yb_MO_gauge 5 tb_MO_gauge := by unfold jj_good; decide +kernel
def tb_MO_cancel : jjTab := [(0, .aload_n 0, 1, 0, 0),
  (1, .iload_n 1, 2, 0, 0),
  (2, .invokevirtual 260, 5, 0, 0),
  (5, .ifCond .ne 5, 8, 10, 0),
  (8, .iconst 0, 9, 0, 0),
  (9, .ireturn, 10, 0, 0),
  (10, .aload_n 0, 11, 0, 0),
  (11, .getfield 30, 14, 0, 0),
  (14, .iload_n 1, 15, 0, 0),
  (15, .iconst 0, 16, 0, 0),
  (16, .iastore, 17, 0, 0),
  (17, .iconst 1, 18, 0, 1),
  (18, .ireturn, 19, 0, 0)]
theorem tg_MO_cancel : jj_good yb_MO_cancel 2 tb_MO_cancel := by unfold jj_good; decide +kernel
def tb_MO_isMonitor : jjTab := [(0, .iload_n 1, 1, 0, 0),
  (1, .ifCond .lt 22, 4, 23, 0),
  (4, .iload_n 1, 5, 0, 0),
  (5, .bipush 6, 7, 0, 6),
  (7, .if_icmp .ge 16, 10, 23, 0),
  (10, .aload_n 0, 11, 0, 0),
  (11, .getfield 30, 14, 0, 0),
  (14, .iload_n 1, 15, 0, 0),
  (15, .iaload, 16, 0, 0),
  (16, .ifCond .le 7, 19, 23, 0),
  (19, .iconst 1, 20, 0, 1),
  (20, .goto 4, 23, 24, 0),
  (23, .iconst 0, 24, 0, 0),
  (24, .ireturn, 25, 0, 0)]
theorem tg_MO_isMonitor : jj_good yb_MO_isMonitor 2 tb_MO_isMonitor := by unfold jj_good; decide +kernel
def tb_MO_observe : jjTab := [(0, .aload_n 0, 1, 0, 0),
  (1, .getfield 151, 4, 0, 0),
  (4, .istore_n 1, 5, 0, 0),
  (5, .iconst 0, 6, 0, 0),
  (6, .istore_n 2, 7, 0, 0),
  (7, .iload_n 2, 8, 0, 0),
  (8, .bipush 6, 10, 0, 6),
  (10, .if_icmp .ge 23, 13, 33, 0),
  (13, .aload_n 0, 14, 0, 0),
  (14, .getfield 30, 17, 0, 0),
  (17, .iload_n 2, 18, 0, 0),
  (18, .iaload, 19, 0, 0),
  (19, .ifCond .le 8, 22, 27, 0),
  (22, .aload_n 0, 23, 0, 0),
  (23, .iload_n 2, 24, 0, 0),
  (24, .invokevirtual 271, 27, 0, 0),
  (27, .iinc 2 1, 30, 0, 1),
  (30, .goto (-23), 33, 7, 0),
  (33, .aload_n 0, 34, 0, 0),
  (34, .getfield 151, 37, 0, 0),
  (37, .iload_n 1, 38, 0, 0),
  (38, .isub, 39, 0, 0),
  (39, .ireturn, 40, 0, 0)]
theorem tg_MO_observe : jj_good yb_MO_observe 3 tb_MO_observe := by unfold jj_good; decide +kernel
def tb_MO_observe1 : jjTab := [(0, .aload_n 0, 1, 0, 0),
  (1, .bipush 12, 3, 0, 12),
  (3, .iload_n 1, 4, 0, 0),
  (4, .iadd, 5, 0, 0),
  (5, .invokevirtual 161, 8, 0, 0),
  (8, .istore_n 2, 9, 0, 0),
  (9, .iload_n 2, 10, 0, 0),
  (10, .ifCond .lt 29, 13, 39, 0),
  (13, .aload_n 0, 14, 0, 0),
  (14, .getfield 24, 17, 0, 0),
  (17, .iconst 5, 18, 0, 5),
  (18, .iload_n 2, 19, 0, 0),
  (19, .ifCond .ge 7, 22, 26, 0),
  (22, .iconst 0, 23, 0, 0),
  (23, .goto 4, 26, 27, 0),
  (26, .iload_n 2, 27, 0, 0),
  (27, .imul, 28, 0, 0),
  (28, .aload_n 0, 29, 0, 0),
  (29, .getfield 33, 32, 0, 0),
  (32, .iload_n 1, 33, 0, 0),
  (33, .iaload, 34, 0, 0),
  (34, .iadd, 35, 0, 0),
  (35, .baload, 36, 0, 0),
  (36, .ifCond .ne 7, 39, 43, 0),
  (39, .iconst 1, 40, 0, 1),
  (40, .goto 4, 43, 44, 0),
  (43, .iconst 0, 44, 0, 0),
  (44, .istore_n 3, 45, 0, 0),
  (45, .iload_n 3, 46, 0, 0),
  (46, .ifCond .eq 19, 49, 65, 0),
  (49, .aload_n 0, 50, 0, 0),
  (50, .getfield 55, 53, 0, 0),
  (53, .iload_n 1, 54, 0, 0),
  (54, .baload, 55, 0, 0),
  (55, .ifCond .ne 10, 58, 65, 0),
  (58, .aload_n 0, 59, 0, 0),
  (59, .iconst 5, 60, 0, 5),
  (60, .iload_n 1, 61, 0, 0),
  (61, .iconst 0, 62, 0, 0),
  (62, .invokevirtual 164, 65, 0, 0),
  (65, .aload_n 0, 66, 0, 0),
  (66, .getfield 55, 69, 0, 0),
  (69, .iload_n 1, 70, 0, 0),
  (70, .iload_n 3, 71, 0, 0),
  (71, .bastore, 72, 0, 0),
  (72, .iload_n 3, 73, 0, 0),
  (73, .ifCond .eq 4, 76, 77, 0),
  (76, .return_, 77, 0, 0),
  (77, .aload_n 0, 78, 0, 0),
  (78, .getfield 21, 81, 0, 0),
  (81, .iconst 5, 82, 0, 5),
  (82, .iload_n 2, 83, 0, 0),
  (83, .imul, 84, 0, 0),
  (84, .aload_n 0, 85, 0, 0),
  (85, .getfield 33, 88, 0, 0),
  (88, .iload_n 1, 89, 0, 0),
  (89, .iaload, 90, 0, 0),
  (90, .iadd, 91, 0, 0),
  (91, .iaload, 92, 0, 0),
  (92, .istore 4, 94, 0, 0),
  (94, .aload_n 0, 95, 0, 0),
  (95, .getfield 30, 98, 0, 0),
  (98, .iload_n 1, 99, 0, 0),
  (99, .iaload, 100, 0, 0),
  (100, .iconst 1, 101, 0, 1),
  (101, .if_icmp .ne 13, 104, 114, 0),
  (104, .aload_n 0, 105, 0, 0),
  (105, .iload_n 1, 106, 0, 0),
  (106, .iload 4, 108, 0, 0),
  (108, .invokevirtual 265, 111, 0, 0),
  (111, .goto 10, 114, 121, 0),
  (114, .aload_n 0, 115, 0, 0),
  (115, .iload_n 1, 116, 0, 0),
  (116, .iload 4, 118, 0, 0),
  (118, .invokevirtual 268, 121, 0, 0),
  (121, .return_, 122, 0, 0)]
theorem tg_MO_observe1 : jj_good yb_MO_observe1 5 tb_MO_observe1 := by unfold jj_good; decide +kernel
def tb_MO_count : jjTab := [(0, .aload_n 0, 1, 0, 0),
  (1, .getfield 49, 4, 0, 0),
  (4, .iload_n 1, 5, 0, 0),
  (5, .baload, 6, 0, 0),
  (6, .ifCond .eq 33, 9, 39, 0),
  (9, .iload_n 2, 10, 0, 0),
  (10, .aload_n 0, 11, 0, 0),
  (11, .getfield 52, 14, 0, 0),
  (14, .iload_n 1, 15, 0, 0),
  (15, .iaload, 16, 0, 0),
  (16, .if_icmp .ge 23, 19, 39, 0),
  (19, .aload_n 0, 20, 0, 0),
  (20, .getfield 42, 23, 0, 0),
  (23, .iload_n 1, 24, 0, 0),
  (24, .aload_n 0, 25, 0, 0),
  (25, .getfield 36, 28, 0, 0),
  (28, .iload_n 1, 29, 0, 0),
  (29, .iaload, 30, 0, 0),
  (30, .i2l, 31, 0, 0),
  (31, .lastore, 32, 0, 0),
  (32, .aload_n 0, 33, 0, 0),
  (33, .getfield 46, 36, 0, 0),
  (36, .iload_n 1, 37, 0, 0),
  (37, .iconst 1, 38, 0, 1),
  (38, .bastore, 39, 0, 0),
  (39, .aload_n 0, 40, 0, 0),
  (40, .getfield 49, 43, 0, 0),
  (43, .iload_n 1, 44, 0, 0),
  (44, .iconst 1, 45, 0, 1),
  (45, .bastore, 46, 0, 0),
  (46, .aload_n 0, 47, 0, 0),
  (47, .getfield 52, 50, 0, 0),
  (50, .iload_n 1, 51, 0, 0),
  (51, .iload_n 2, 52, 0, 0),
  (52, .iastore, 53, 0, 0),
  (53, .iload_n 2, 54, 0, 0),
  (54, .i2l, 55, 0, 0),
  (55, .aload_n 0, 56, 0, 0),
  (56, .getfield 42, 59, 0, 0),
  (59, .iload_n 1, 60, 0, 0),
  (60, .laload, 61, 0, 0),
  (61, .lcmp, 62, 0, 0),
  (62, .ifCond .ge 10, 65, 72, 0),
  (65, .aload_n 0, 66, 0, 0),
  (66, .getfield 46, 69, 0, 0),
  (69, .iload_n 1, 70, 0, 0),
  (70, .iconst 1, 71, 0, 1),
  (71, .bastore, 72, 0, 0),
  (72, .aload_n 0, 73, 0, 0),
  (73, .getfield 46, 76, 0, 0),
  (76, .iload_n 1, 77, 0, 0),
  (77, .baload, 78, 0, 0),
  (78, .ifCond .eq 15, 81, 93, 0),
  (81, .iload_n 2, 82, 0, 0),
  (82, .i2l, 83, 0, 0),
  (83, .aload_n 0, 84, 0, 0),
  (84, .getfield 42, 87, 0, 0),
  (87, .iload_n 1, 88, 0, 0),
  (88, .laload, 89, 0, 0),
  (89, .lcmp, 90, 0, 0),
  (90, .ifCond .ge 4, 93, 94, 0),
  (93, .return_, 94, 0, 0),
  (94, .aload_n 0, 95, 0, 0),
  (95, .iconst 2, 96, 0, 2),
  (96, .iload_n 1, 97, 0, 0),
  (97, .iload_n 2, 98, 0, 0),
  (98, .invokevirtual 164, 101, 0, 0),
  (101, .aload_n 0, 102, 0, 0),
  (102, .getfield 39, 105, 0, 0),
  (105, .iload_n 1, 106, 0, 0),
  (106, .iaload, 107, 0, 0),
  (107, .i2l, 108, 0, 0),
  (108, .lstore_n 3, 109, 0, 0),
  (109, .lload_n 3, 110, 0, 0),
  (110, .lconst 0, 111, 0, 0),
  (111, .lcmp, 112, 0, 0),
  (112, .ifCond .ne 13, 115, 125, 0),
  (115, .aload_n 0, 116, 0, 0),
  (116, .getfield 46, 119, 0, 0),
  (119, .iload_n 1, 120, 0, 0),
  (120, .iconst 0, 121, 0, 0),
  (121, .bastore, 122, 0, 0),
  (122, .goto 33, 125, 155, 0),
  (125, .aload_n 0, 126, 0, 0),
  (126, .getfield 42, 129, 0, 0),
  (129, .iload_n 1, 130, 0, 0),
  (130, .aload_n 0, 131, 0, 0),
  (131, .getfield 36, 134, 0, 0),
  (134, .iload_n 1, 135, 0, 0),
  (135, .iaload, 136, 0, 0),
  (136, .i2l, 137, 0, 0),
  (137, .lload_n 3, 138, 0, 0),
  (138, .iload_n 2, 139, 0, 0),
  (139, .i2l, 140, 0, 0),
  (140, .aload_n 0, 141, 0, 0),
  (141, .getfield 36, 144, 0, 0),
  (144, .iload_n 1, 145, 0, 0),
  (145, .iaload, 146, 0, 0),
  (146, .i2l, 147, 0, 0),
  (147, .lsub, 148, 0, 0),
  (148, .lload_n 3, 149, 0, 0),
  (149, .ldiv, 150, 0, 0),
  (150, .lconst 1, 151, 0, 0),
  (151, .ladd, 152, 0, 0),
  (152, .lmul, 153, 0, 0),
  (153, .ladd, 154, 0, 0),
  (154, .lastore, 155, 0, 0),
  (155, .return_, 156, 0, 0)]
theorem tg_MO_count : jj_good yb_MO_count 5 tb_MO_count := by unfold jj_good; decide +kernel
def tb_MO_gaugeOf : jjTab := [(0, .iload_n 2, 1, 0, 0),
  (1, .aload_n 0, 2, 0, 0),
  (2, .getfield 39, 5, 0, 0),
  (5, .iload_n 1, 6, 0, 0),
  (6, .iaload, 7, 0, 0),
  (7, .if_icmp .lt 31, 10, 38, 0),
  (10, .aload_n 0, 11, 0, 0),
  (11, .getfield 42, 14, 0, 0),
  (14, .iload_n 1, 15, 0, 0),
  (15, .laload, 16, 0, 0),
  (16, .lconst 1, 17, 0, 0),
  (17, .lcmp, 18, 0, 0),
  (18, .ifCond .eq 20, 21, 38, 0),
  (21, .aload_n 0, 22, 0, 0),
  (22, .getfield 42, 25, 0, 0),
  (25, .iload_n 1, 26, 0, 0),
  (26, .lconst 1, 27, 0, 0),
  (27, .lastore, 28, 0, 0),
  (28, .aload_n 0, 29, 0, 0),
  (29, .iconst 3, 30, 0, 3),
  (30, .iload_n 1, 31, 0, 0),
  (31, .iload_n 2, 32, 0, 0),
  (32, .invokevirtual 164, 35, 0, 0),
  (35, .goto 42, 38, 77, 0),
  (38, .iload_n 2, 39, 0, 0),
  (39, .aload_n 0, 40, 0, 0),
  (40, .getfield 36, 43, 0, 0),
  (43, .iload_n 1, 44, 0, 0),
  (44, .iaload, 45, 0, 0),
  (45, .if_icmp .gt 32, 48, 77, 0),
  (48, .aload_n 0, 49, 0, 0),
  (49, .getfield 42, 52, 0, 0),
  (52, .iload_n 1, 53, 0, 0),
  (53, .laload, 54, 0, 0),
  (54, .ldc2_w 263, 57, 0, 0),
  (57, .lcmp, 58, 0, 0),
  (58, .ifCond .eq 19, 61, 77, 0),
  (61, .aload_n 0, 62, 0, 0),
  (62, .getfield 42, 65, 0, 0),
  (65, .iload_n 1, 66, 0, 0),
  (66, .ldc2_w 263, 69, 0, 0),
  (69, .lastore, 70, 0, 0),
  (70, .aload_n 0, 71, 0, 0),
  (71, .iconst 4, 72, 0, 4),
  (72, .iload_n 1, 73, 0, 0),
  (73, .iload_n 2, 74, 0, 0),
  (74, .invokevirtual 164, 77, 0, 0),
  (77, .return_, 78, 0, 0)]
theorem tg_MO_gaugeOf : jj_good yb_MO_gaugeOf 3 tb_MO_gaugeOf := by unfold jj_good; decide +kernel
def tb_MO_mark : jjTab := [(0, .aload_n 0, 1, 0, 0),
  (1, .iload_n 1, 2, 0, 0),
  (2, .invokevirtual 260, 5, 0, 0),
  (5, .ifCond .eq 12, 8, 17, 0),
  (8, .aload_n 0, 9, 0, 0),
  (9, .getfield 42, 12, 0, 0),
  (12, .iload_n 1, 13, 0, 0),
  (13, .laload, 14, 0, 0),
  (14, .goto 4, 17, 18, 0),
  (17, .lconst 0, 18, 0, 0),
  (18, .lreturn, 19, 0, 0)]
theorem tg_MO_mark : jj_good yb_MO_mark 2 tb_MO_mark := by unfold jj_good; decide +kernel
def tb_MO_listen : jjTab := [(0, .aload_n 0, 1, 0, 0),
  (1, .iload_n 1, 2, 0, 0),
  (2, .putfield 58, 5, 0, 0),
  (5, .aload_n 0, 6, 0, 0),
  (6, .getfield 151, 9, 0, 0),
  (9, .ireturn, 10, 0, 0)]
theorem tg_MO_listen : jj_good yb_MO_listen 2 tb_MO_listen := by unfold jj_good; decide +kernel
def tb_MO_notice : jjTab := [(0, .iload_n 1, 1, 0, 0),
  (1, .ifCond .lt 20, 4, 21, 0),
  (4, .iload_n 1, 5, 0, 0),
  (5, .aload_n 0, 6, 0, 0),
  (6, .getfield 154, 9, 0, 0),
  (9, .if_icmp .ge 12, 12, 21, 0),
  (12, .iload_n 2, 13, 0, 0),
  (13, .ifCond .lt 8, 16, 21, 0),
  (16, .iload_n 2, 17, 0, 0),
  (17, .iconst 3, 18, 0, 3),
  (18, .if_icmp .le 8, 21, 26, 0),
  (21, .bipush (-2), 23, 0, (-2)),
  (23, .goto 13, 26, 36, 0),
  (26, .aload_n 0, 27, 0, 0),
  (27, .getfield 62, 30, 0, 0),
  (30, .iconst 4, 31, 0, 4),
  (31, .iload_n 1, 32, 0, 0),
  (32, .imul, 33, 0, 0),
  (33, .iload_n 2, 34, 0, 0),
  (34, .iadd, 35, 0, 0),
  (35, .iaload, 36, 0, 0),
  (36, .ireturn, 37, 0, 0)]
theorem tg_MO_notice : jj_good yb_MO_notice 3 tb_MO_notice := by unfold jj_good; decide +kernel
end
section
/-! System.arraycopy of bytes, and what is said of updates -/
theorem jj_up_up {h : jjHp} {a : Nat} {e e' : va_E} : jj_up (jj_up h a e) a e' = jj_up h a e' := by
  funext b
  unfold jj_up
  split <;> rfl
theorem jj_up_self {h : jjHp} {a : Nat} {e : va_E} (ho : h a = some e) : jj_up h a e = h := by
  funext b
  unfold jj_up
  split
  next hb => rw [hb, ho]
  next => rfl
theorem jj_up_comm {h : jjHp} {a b : Nat} {e e' : va_E} (hn : a ≠ b) : jj_up (jj_up h a e) b e' = jj_up (jj_up h b e') a e := by
  funext q
  unfold jj_up
  by_cases h1 : q = b
  · subst h1
    rw [if_pos rfl, if_neg (Ne.symm hn), if_pos rfl]
  · rw [if_neg h1]
    by_cases h2 : q = a
    · rw [if_pos h2, if_pos h2]
    · rw [if_neg h2, if_neg h2, if_neg h1]
theorem jj_ne {h : jjHp} {a b : Nat} {e : va_E} (hf : h a = none) (hb : h b = some e) : b ≠ a := fun q => by subst q; rw [hf] at hb; cases hb
section JJB
variable {p : Program} {l : Launch} {e : Env} {R : Room} {s : State} {m : MethodId} {args : Array Value} {below : List Frame} {meth : Method} {c : Code} {Q : State → Prop} {y : MethodName} {cc : ByteArray} {nL : Nat} {ret : Option FieldType} {tb : jjTab} {D : va_G} {aC : Nat → ClassId} {base : Nat}
variable {pc pc' nx tg idx kc ks mc ms d : Nat} {kv : Int32} {lc lc' : jjLoc} {st st' rest : List Value} {h : jjHp} {a : Nat}
theorem jj_acopy (C : jj_C p s m args meth c y cc nL ret tb D aC base) {a0 n0 n1 j0 j1 n : Nat} {sp dp nn : Int32} {f g : Nat → Int32} (hf : jj_look tb pc = some (.invokestatic idx, nx, tg, kv)) (w1 : Cond.methodLink y.cls idx arraycopyName ∈ jj_gw) (w2 : Cond.native arraycopyName ∈ jj_gw) (w3 : Cond.static arraycopyName ∈ jj_gw) (w4 : Cond.initialized "java/lang/System" ∈ jj_gw)
    (ho0 : h a0 = some (.inl (aC 4, n0, .inl f))) (ho1 : h a = some (.inl (aC 4, n1, .inl g))) (e1 : sp = nI j0) (e2 : dp = nI j1) (e3 : nn = nI n) (h4 : j0 + n ≤ n0) (h5 : j1 + n ≤ n1) (hn0 : n0 < 2 ^ 31) (hn1 : n1 < 2 ^ 31) (hfit : ∀ i, i < n → fits .byte (.int (f (j0 + i))) = true) (hR : 1 ≤ R.frames) (hlo : (st.map fun v => v.category).sum + (nativeFrameWords "java/lang/System" "arraycopy" 5 + 11) ≤ R.locals)
    (kk : jj_J p l e R s m args below meth c D base nL Q nx lc st (jj_up h a (.inl (aC 4, n1, .inl (va_cpy f g j0 j1 n)))) kc ks) : jj_J p l e R s m args below meth c D base nL Q pc lc (.int nn :: .int dp :: .ref a :: .int sp :: .ref a0 :: st) h kc ks := by
  obtain ⟨hx, hb, hml, hown, hts, hg, hE, -, -, -⟩ := C
  obtain ⟨a1, a2, -⟩ := jj_good_at hg hf
  subst a2
  subst e1
  subst e2
  subst e3
  intro H locs ls hw hS hl
  obtain ⟨ws, hP, hD, hi⟩ := hw
  obtain ⟨q0, hq0⟩ := hi a0 _ ho0
  obtain ⟨q1, hq1⟩ := hi a _ ho1
  have c0 : (nI j0).toNatClampNeg = j0 := nI_clamp (by omega)
  have c1 : (nI j1).toNatClampNeg = j1 := nI_clamp (by omega)
  have c2 : (nI n).toNatClampNeg = n := nI_clamp (by omega)
  refine va_copyi hx hb (hml.trans hl.1.symm) hown (hts _ w1) (hts _ w2) (hts _ w3) (hts _ w4) hE.1 hP hD hS q0 q1 4 4 (ty := .byte) hq0 hq1 rfl rfl rfl (nI_pos (by omega)) (nI_pos (by omega)) (nI_pos (by omega)) (by rw [c0, c2]; exact h4) (by rw [c1, c2]; exact h5) (by rw [c0, c2]; exact hfit) hR hlo a1 (fun H1 locs1 hP1 hD1 hS1 => ?_)
  rw [c0, c1, c2] at hP1 hD1
  exact kk H1 locs1 ls ⟨_, hP1, hD1, jj_set_in (A := jj_A base) hi hq1⟩ hS1 hl
/-- the top of the stack, by another name for it -/
theorem jj_top {x x' : Int32} (hx : x = x') (k : jj_J p l e R s m args below meth c D base nL Q pc lc (.int x' :: st) h kc ks) : jj_J p l e R s m args below meth c D base nL Q pc lc (.int x :: st) h kc ks := hx ▸ k
/-- the same place, said otherwise -/
theorem jj_eq {h' : jjHp} (e1 : pc = pc') (e2 : lc = lc') (e3 : st = st') (e4 : h = h') (k : jj_J p l e R s m args below meth c D base nL Q pc' lc' st' h' kc ks) : jj_J p l e R s m args below meth c D base nL Q pc lc st h kc ks := by
  subst e1; subst e2; subst e3; subst e4; exact k
theorem jj_mmin (C : jj_C p s m args meth c y cc nL ret tb D aC base) {x z : Int32} (hf : jj_look tb pc = some (.invokestatic idx, nx, tg, kv)) (w1 : Cond.methodLink y.cls idx Lib.Math.min.name ∈ jj_gw) (w2 : Cond.static Lib.Math.min.name ∈ jj_gw) (w3 : Cond.initialized "java/lang/Math" ∈ jj_gw) (w4 : Cond.code Lib.Math.min.name Lib.Math.min.code 2 (some .int) ∈ jj_gw) (hR : 1 ≤ R.frames) (hlo : (st.map fun v => v.category).sum + 13 ≤ R.locals) (hc : kc ≤ R.cells) (hd : ks ≤ R.slots)
    (kk : jj_J p l e R s m args below meth c D base nL Q nx lc (.int (if z < x then z else x) :: st) h kc ks) : jj_J p l e R s m args below meth c D base nL Q pc lc (.int z :: .int x :: st) h kc ks := by
  obtain ⟨hx, hb, hml, hown, hts, hg, hE, -, -, -⟩ := C
  obtain ⟨a1, a2, -⟩ := jj_good_at hg hf
  subst a2
  exact fun H locs ls hw hS hl => va_mmin hx hb (hml.trans hl.1.symm) hown (hts _ w1) (hts _ w2) (hts _ w3) (hts _ w4) hR hlo hc hd a1 (kk H locs ls hw hS hl)
theorem jj_mmax (C : jj_C p s m args meth c y cc nL ret tb D aC base) {x z : Int32} (hf : jj_look tb pc = some (.invokestatic idx, nx, tg, kv)) (w1 : Cond.methodLink y.cls idx Lib.Math.max.name ∈ jj_gw) (w2 : Cond.static Lib.Math.max.name ∈ jj_gw) (w3 : Cond.initialized "java/lang/Math" ∈ jj_gw) (w4 : Cond.code Lib.Math.max.name Lib.Math.max.code 2 (some .int) ∈ jj_gw) (hR : 1 ≤ R.frames) (hlo : (st.map fun v => v.category).sum + 13 ≤ R.locals) (hc : kc ≤ R.cells) (hd : ks ≤ R.slots)
    (kk : jj_J p l e R s m args below meth c D base nL Q nx lc (.int (if x < z then z else x) :: st) h kc ks) : jj_J p l e R s m args below meth c D base nL Q pc lc (.int z :: .int x :: st) h kc ks := by
  obtain ⟨hx, hb, hml, hown, hts, hg, hE, -, -, -⟩ := C
  obtain ⟨a1, a2, -⟩ := jj_good_at hg hf
  subst a2
  exact fun H locs ls hw hS hl => va_mmax hx hb (hml.trans hl.1.symm) hown (hts _ w1) (hts _ w2) (hts _ w3) (hts _ w4) hR hlo hc hd a1 (kk H locs ls hw hS hl)
end JJB
end
section
/-! Contracts of the JDK's methods: length, isLatin1, canEncode, min, max; a new StringBuilder -/
abbrev kx_sb (b : Nat) (ml n : Int32) : va_E := .inr (11, [.ref b, .int 0, .int ml, .int n])
abbrev kx_st (b : Nat) (hs hz : Int32) : va_E := .inr (10, [.ref b, .int 0, .int hs, .int hz])
abbrev kx_ba (aC : Nat → ClassId) (n : Nat) (f : Nat → Int32) : va_E := .inl (aC 4, n, .inl f)
section KX
variable {l : Launch} {D : va_G} {aC : Nat → ClassId} {base : Nat} {h : jjHp}
theorem kx_AS_length {a b : Nat} {ml n : Int32} (ho : h a = some (kx_sb b ml n)) : jj_Ct l D aC base yn_AS_length yb_AS_length 1 (some .int) 0 0 0 [.ref a] h (fun r h' => r = some (.int n) ∧ h' = h) := by
  refine jj_start (tb := tb_AS_length) (by decide) tg_AS_length (Nat.le_of_ble_eq_true rfl) ?_
  intro p e s m args below meth c C
  refine jj_go C 1 rfl ?_
  refine jj_getf C rfl fl_AS_79 ho rfl ?_
  exact jj_iret C rfl rfl rfl (Nat.le_refl _) (Nat.le_refl _) ⟨rfl, rfl⟩
theorem kx_SB_length {a b : Nat} {ml n : Int32} (ho : h a = some (kx_sb b ml n)) : jj_Ct l D aC base yn_SB_length yb_SB_length 1 (some .int) 1 0 0 [.ref a] h (fun r h' => r = some (.int n) ∧ h' = h) := by
  refine jj_start (tb := tb_SB_length) (by decide) tg_SB_length (Nat.le_of_ble_eq_true rfl) ?_
  intro p e s m args below meth c C
  refine jj_go C 1 rfl ?_
  refine jj_callP C rfl ho rfl ms_SB_343 (kx_AS_length ho) (rest := []) rfl rfl ⟨Nat.le_refl _, Nat.le_of_ble_eq_true rfl⟩ (Nat.le_refl _) (Nat.le_refl _) (Nat.zero_le _) ?_
  rintro r h' ⟨rfl, rfl⟩
  exact jj_iret C rfl rfl rfl (Nat.le_refl _) (Nat.le_refl _) ⟨rfl, rfl⟩
theorem kx_AS_isLatin1 {a b : Nat} {ml n : Int32} (ho : h a = some (kx_sb b ml n)) : jj_Ct l D aC base yn_AS_isLatin1 yb_AS_isLatin1 1 (some .boolean) 0 0 0 [.ref a] h (fun r h' => r = some (.int 1) ∧ h' = h) := by
  refine jj_start (tb := tb_AS_isLatin1) (by decide) tg_AS_isLatin1 (Nat.le_of_ble_eq_true rfl) ?_
  intro p e s m args below meth c C
  refine jj_gets C rfl wd_40 ?_
  refine jj_if C rfl (fun hc => absurd hc (by decide)) (fun _ => ?_)
  refine jj_go C 1 rfl ?_
  refine jj_getf C rfl fl_AS_22 ho rfl ?_
  refine jj_if C rfl (fun _ => ?_) (fun hc => absurd rfl hc)
  refine jj_go C 2 rfl ?_
  exact jj_iret C rfl rfl rfl (Nat.le_refl _) (Nat.le_refl _) ⟨rfl, rfl⟩
theorem kx_AS_getValue {a b : Nat} {ml n : Int32} (ho : h a = some (kx_sb b ml n)) : jj_Ct l D aC base yn_AS_getValue yb_AS_getValue 1 (some (.array .byte)) 0 0 0 [.ref a] h (fun r h' => r = some (.ref b) ∧ h' = h) := by
  refine jj_start (tb := tb_AS_getValue) (by decide) tg_AS_getValue (Nat.le_of_ble_eq_true rfl) ?_
  intro p e s m args below meth c C
  refine jj_go C 1 rfl ?_
  refine jj_getf C rfl fl_AS_15 ho rfl ?_
  exact jj_aret C rfl rfl (Or.inr ⟨_, rfl⟩) (Or.inr ⟨_, rfl⟩) (Nat.le_refl _) (Nat.le_refl _) ⟨rfl, rfl⟩
theorem kx_SL_canEncode {k : Nat} (hk : k < 256) : jj_Ct l D aC base yn_SL_canEncode1 yb_SL_canEncode1 1 (some .boolean) 0 0 0 [.int (nI k)] h (fun r h' => r = some (.int 1) ∧ h' = h) := by
  refine jj_start (tb := tb_SL_canEncode1) (by decide) tg_SL_canEncode1 (Nat.le_of_ble_eq_true rfl) ?_
  intro p e s m args below meth c C
  refine jj_go C 2 rfl ?_
  refine jj_if C rfl (fun hc => absurd hc (show ¬ nI 255 < nI k from nI_nlt (by omega) (by decide))) (fun _ => ?_)
  refine jj_go C 2 rfl ?_
  exact jj_iret C rfl rfl rfl (Nat.le_refl _) (Nat.le_refl _) ⟨rfl, rfl⟩
theorem kx_AS_init {a : Nat} (ho : h a = some (.inr (11, [.null, .int 0, .int 0, .int 0]))) : jj_Ct l D aC base yn_AS_init yb_AS_init 2 none 1 1 16 [.ref a, .int 16] h (fun r h' => r = none ∧ ∃ b, h b = none ∧ h' = jj_up (jj_up h b (kx_ba aC 16 (fun _ => 0))) a (kx_sb b 0 0)) := by
  refine jj_start (tb := tb_AS_init) (by decide) tg_AS_init (Nat.le_of_ble_eq_true rfl) ?_
  intro p e s m args below meth c C
  refine jj_go C 1 rfl ?_
  refine jj_objI C rfl wd_39 wd_29 wd_30 ⟨Nat.le_of_ble_eq_true rfl, Nat.le_of_ble_eq_true rfl⟩ (Nat.zero_le _) ?_
  refine jj_gets C rfl wd_40 ?_
  refine jj_if C rfl (fun hc => absurd hc (by decide)) (fun _ => ?_)
  refine jj_go C 2 rfl ?_
  refine jj_newa C 4 (a0 := (16, .inl (fun _ => 0))) rfl wd_63 rfl rfl (fun _ => rfl) rfl (by decide) (Nat.le_of_ble_eq_true rfl) (Nat.le_of_ble_eq_true rfl) (fun b hb => ?_)
  refine jj_putf C rfl fl_AS_15 (jj_up_f hb ho) rfl rfl (Nat.le_of_ble_eq_true rfl) ?_
  refine jj_go C 2 rfl ?_
  refine jj_putf C rfl fl_AS_22 jj_up_s rfl rfl (Nat.le_of_ble_eq_true rfl) ?_
  refine jj_go C 1 rfl ?_
  refine jj_vret C rfl rfl (Nat.le_of_ble_eq_true rfl) (Nat.le_of_ble_eq_true rfl) ⟨rfl, b, hb, ?_⟩
  rw [jj_up_up]
  rfl
theorem kx_SB_init {a : Nat} (ho : h a = some (.inr (11, [.null, .int 0, .int 0, .int 0]))) : jj_Ct l D aC base yn_SB_init yb_SB_init 1 none 2 1 16 [.ref a] h (fun r h' => r = none ∧ ∃ b, h b = none ∧ h' = jj_up (jj_up h b (kx_ba aC 16 (fun _ => 0))) a (kx_sb b 0 0)) := by
  refine jj_start (tb := tb_SB_init) (by decide) tg_SB_init (Nat.le_of_ble_eq_true rfl) ?_
  intro p e s m args below meth c C
  refine jj_go C 2 rfl ?_
  refine jj_callI C rfl ml_SB_1 wd_37 rfl (kx_AS_init ho) (rest := []) rfl rfl ⟨Nat.le_refl _, Nat.le_of_ble_eq_true rfl⟩ (Nat.le_refl _) (Nat.le_refl _) (Nat.zero_le _) ?_
  rintro r h' ⟨rfl, hp⟩
  exact jj_vret C rfl rfl (Nat.le_refl _) (Nat.le_refl _) ⟨rfl, hp⟩
end KX
end
section
/-! An object in the making: its fields, its own new cells, and all else as it was -/
def jj_OI (h0 h : jjHp) (x ci : Nat) (fs : List Value) (L : List (Nat × Nat × va_E)) : Prop :=
  h x = some (.inr (ci, fs)) ∧ (∀ q ∈ L, h q.2.1 = some q.2.2 ∧ h0 q.2.1 = none) ∧ (L.map (fun q => q.2.1)).Nodup ∧ (∀ b e, b ≠ x → h0 b = some e → h b = some e) ∧ h0 x ≠ none
theorem jj_OI.start {h : jjHp} {x ci : Nat} {fs : List Value} (ho : h x = some (.inr (ci, fs))) : jj_OI h h x ci fs [] :=
  ⟨ho, fun q hq => absurd hq List.not_mem_nil, List.nodup_nil, fun _ _ _ hb => hb, by rw [ho]; exact fun z => by cases z⟩
/-- a new cell goes into a field -/
theorem jj_OI.add {h0 h : jjHp} {x ci k a : Nat} {fs : List Value} {L : List (Nat × Nat × va_E)} {e1 : va_E} (hI : jj_OI h0 h x ci fs L) (hfr : h a = none) : jj_OI h0 (jj_up (jj_up h a e1) x (.inr (ci, fs.set k (.ref a)))) x ci (fs.set k (.ref a)) ((k, a, e1) :: L) := by
  obtain ⟨i1, i2, i3, i4, i5⟩ := hI
  have hxa : x ≠ a := jj_ne hfr i1
  refine ⟨jj_up_s, fun q hq => ?_, ?_, fun b e hb h0b => (jj_up_n hb).trans (jj_up_f hfr (i4 b e hb h0b)), i5⟩
  · rcases List.mem_cons.mp hq with rfl | hq
    · refine ⟨(jj_up_n (Ne.symm hxa)).trans jj_up_s, ?_⟩
      cases hv : h0 a with
      | none => rfl
      | some e =>
        have := i4 a e (Ne.symm hxa) hv
        rw [hfr] at this
        cases this
    · obtain ⟨g1, g2⟩ := i2 q hq
      exact ⟨(jj_up_n (fun z : q.2.1 = x => i5 (by rw [← z]; exact g2))).trans (jj_up_f hfr g1), g2⟩
  · show (a :: L.map (fun q => q.2.1)).Nodup
    refine List.nodup_cons.mpr ⟨fun hm => ?_, i3⟩
    obtain ⟨q, hq, hqa⟩ := List.mem_map.mp hm
    have g1 := (i2 q hq).1
    rw [hqa, hfr] at g1
    cases g1
/-- a value goes into a field -/
theorem jj_OI.put {h0 h : jjHp} {x ci k : Nat} {v : Value} {fs : List Value} {L : List (Nat × Nat × va_E)} (hI : jj_OI h0 h x ci fs L) : jj_OI h0 (jj_up h x (.inr (ci, fs.set k v))) x ci (fs.set k v) L := by
  obtain ⟨i1, i2, i3, i4, i5⟩ := hI
  refine ⟨jj_up_s, fun q hq => ?_, i3, fun b e hb h0b => (jj_up_n hb).trans (i4 b e hb h0b), i5⟩
  obtain ⟨g1, g2⟩ := i2 q hq
  exact ⟨(jj_up_n (fun z : q.2.1 = x => i5 (by rw [← z]; exact g2))).trans g1, g2⟩
section JJO
variable {p : Program} {l : Launch} {e : Env} {R : Room} {s : State} {m : MethodId} {args : Array Value} {below : List Frame} {meth : Method} {c : Code} {Q : State → Prop} {y : MethodName} {cc : ByteArray} {nL : Nat} {ret : Option FieldType} {tb : jjTab} {D : va_G} {aC : Nat → ClassId} {base : Nat}
variable {pc pc1 nx tg tg1 idx kc ks mc ms d : Nat} {kv kv1 : Int32} {lc lc' : jjLoc} {st st' rest : List Value} {h h0 : jjHp} {x ci k : Nat} {fs : List Value} {L : List (Nat × Nat × va_E)}
/-- a new array goes into a final field -/
theorem jj_arrF (C : jj_C p s m args meth c y cc nL ret tb D aC base) (hI : jj_OI h0 h x ci fs L) (t0 : Nat) {cA : ClassId} {at0 : ArrayType} {ty : FieldType} {n : Int32} {N : Nat} {a0 : vp_A} (hf : jj_look tb pc = some (.newarray at0, pc1, tg1, kv1)) (hw0 : Cond.arrayClass (newarray.typeOf at0) ∈ jj_gw) (hty : newarray.typeOf at0 = ty) (ht : (jj_tys aC)[t0]? = some (cA, ty)) (ha : ∀ cA : ClassId, vp_cell cA a0 = arrV cA N (fun _ => defaultValue ty)) (hN : n = nI N) (hb0 : N ≤ 65536) (hc : kc + 1 ≤ R.cells) (hd : ks + N ≤ R.slots)
    (hf2 : jj_look tb pc1 = some (.putfield idx, nx, tg, kv)) (q : jj_FP y.cls idx ci k (.array ty) true) (hi0 : y.name = "<init>") (hlen : k < fs.length) (kk : ∀ (a : Nat) (h' : jjHp), jj_OI h0 h' x ci (fs.set k (.ref a)) ((k, a, .inl (cA, a0)) :: L) → jj_J p l e R s m args below meth c D base nL Q nx lc st h' (kc + 1) (ks + N)) : jj_J p l e R s m args below meth c D base nL Q pc lc (.int n :: .ref x :: st) h kc ks := by
  refine jj_newa C t0 hf hw0 hty ht ha hN hb0 hc hd (fun a hfr => ?_)
  exact jj_putF C hf2 q hi0 (jj_up_f hfr hI.1) rfl rfl hlen (kk a _ (hI.add hfr))
theorem jj_arrQ (C : jj_C p s m args meth c y cc nL ret tb D aC base) (hI : jj_OI h0 h x ci fs L) (t0 : Nat) {cA : ClassId} {CN : String} {idx0 : Nat} {n : Int32} {N : Nat} (hf : jj_look tb pc = some (.anewarray idx0, pc1, tg1, kv1)) (hw0 : Cond.classLink y.cls idx0 CN ∈ jj_gw) (hao : CN ∈ jj_ao) (ht : (jj_tys aC)[t0]? = some (cA, .object CN)) (hN : n = nI N) (hb0 : N ≤ 65536) (hc : kc + 1 ≤ R.cells) (hd : ks + N ≤ R.slots)
    (hf2 : jj_look tb pc1 = some (.putfield idx, nx, tg, kv)) (q : jj_FP y.cls idx ci k (.array (.object CN)) true) (hi0 : y.name = "<init>") (hlen : k < fs.length) (kk : ∀ (a : Nat) (h' : jjHp), jj_OI h0 h' x ci (fs.set k (.ref a)) ((k, a, .inl (cA, N, .inr (.inr (.inr (.inr (fun _ => none)))))) :: L) → jj_J p l e R s m args below meth c D base nL Q nx lc st h' (kc + 1) (ks + N)) : jj_J p l e R s m args below meth c D base nL Q pc lc (.int n :: .ref x :: st) h kc ks := by
  refine jj_newq C t0 hf hw0 hao ht hN hb0 hc hd (fun a hfr => ?_)
  exact jj_putF C hf2 q hi0 (jj_up_f hfr hI.1) rfl rfl hlen (kk a _ (hI.add hfr))
/-- a value goes into a field -/
theorem jj_numF (C : jj_C p s m args meth c y cc nL ret tb D aC base) (hI : jj_OI h0 h x ci fs L) {ty : FieldType} {v : Value} (hf : jj_look tb pc = some (.putfield idx, nx, tg, kv)) (q : jj_FL y.cls idx ci k ty false) (hn : narrow ty v = v) (hfit : fits ty v = true) (hlen : k < fs.length) (kk : ∀ (h' : jjHp), jj_OI h0 h' x ci (fs.set k v) L → jj_J p l e R s m args below meth c D base nL Q nx lc st h' kc ks) : jj_J p l e R s m args below meth c D base nL Q pc lc (v :: .ref x :: st) h kc ks :=
  jj_putf C hf q hI.1 hn hfit hlen (kk _ hI.put)
end JJO
end
section
/-- a new BeanServer$Log: its fields, its own arrays -/
abbrev ix_LG_fs (ad : Nat → Nat) : List Value := [.ref (ad 0), .ref (ad 1), .ref (ad 2), .ref (ad 3), .int 0, .int 0, .int 0, .int 63]
abbrev ix_LG_L (aC : Nat → ClassId) (ad : Nat → Nat) : List (Nat × Nat × va_E) := [(3, ad 3, .inl (aC 0, 16, .inl (fun _ => 0))), (2, ad 2, .inl (aC 0, 16, .inl (fun _ => 0))), (1, ad 1, .inl (aC 0, 16, .inl (fun _ => 0))), (0, ad 0, .inl (aC 0, 16, .inl (fun _ => 0)))]
set_option maxHeartbeats 4000000 in
set_option maxRecDepth 100000 in
theorem ix_LG_init {l : Launch} {D : va_G} {aC : Nat → ClassId} {base : Nat} {h : jjHp} {x : Nat} (ho : h x = some (.inr (2, [.null, .null, .null, .null, .int 0, .int 0, .int 0, .int 0]))) : jj_Ct l D aC base yn_LG_init yb_LG_init 1 none 1 4 64 [.ref x] h (fun r h' => r = none ∧ ∃ ad : Nat → Nat, jj_OI h h' x 2 (ix_LG_fs ad) (ix_LG_L aC ad)) := by
  refine jj_start (tb := tb_LG_init) (by decide) tg_LG_init (Nat.le_of_ble_eq_true rfl) ?_
  intro p e s m args below meth c C
  refine jj_go C 1 rfl ?_
  refine jj_objI C rfl wd_75 wd_29 wd_30 ⟨(Nat.le_of_ble_eq_true rfl), (Nat.le_of_ble_eq_true rfl)⟩ (Nat.zero_le _) ?_
  have hI := jj_OI.start ho
  refine jj_go C 2 rfl ?_
  refine jj_arrF C hI 0 (N := 16) (a0 := (16, .inl (fun _ => 0))) rfl wd_103 rfl rfl (fun _ => rfl) rfl (by decide) (Nat.le_of_ble_eq_true rfl) (Nat.le_of_ble_eq_true rfl) rfl fp_LG_9 rfl (Nat.le_of_ble_eq_true rfl) (fun a0 h0 hI => ?_)
  have hI : jj_OI h h0 x 2 [.ref a0, .null, .null, .null, .int 0, .int 0, .int 0, .int 0] _ := hI
  refine jj_go C 2 rfl ?_
  refine jj_arrF C hI 0 (N := 16) (a0 := (16, .inl (fun _ => 0))) rfl wd_103 rfl rfl (fun _ => rfl) rfl (by decide) (Nat.le_of_ble_eq_true rfl) (Nat.le_of_ble_eq_true rfl) rfl fp_LG_15 rfl (Nat.le_of_ble_eq_true rfl) (fun a1 h1 hI => ?_)
  have hI : jj_OI h h1 x 2 [.ref a0, .ref a1, .null, .null, .int 0, .int 0, .int 0, .int 0] _ := hI
  refine jj_go C 2 rfl ?_
  refine jj_arrF C hI 0 (N := 16) (a0 := (16, .inl (fun _ => 0))) rfl wd_103 rfl rfl (fun _ => rfl) rfl (by decide) (Nat.le_of_ble_eq_true rfl) (Nat.le_of_ble_eq_true rfl) rfl fp_LG_18 rfl (Nat.le_of_ble_eq_true rfl) (fun a2 h2 hI => ?_)
  have hI : jj_OI h h2 x 2 [.ref a0, .ref a1, .ref a2, .null, .int 0, .int 0, .int 0, .int 0] _ := hI
  refine jj_go C 2 rfl ?_
  refine jj_arrF C hI 0 (N := 16) (a0 := (16, .inl (fun _ => 0))) rfl wd_103 rfl rfl (fun _ => rfl) rfl (by decide) (Nat.le_of_ble_eq_true rfl) (Nat.le_of_ble_eq_true rfl) rfl fp_LG_21 rfl (Nat.le_of_ble_eq_true rfl) (fun a3 h3 hI => ?_)
  have hI : jj_OI h h3 x 2 [.ref a0, .ref a1, .ref a2, .ref a3, .int 0, .int 0, .int 0, .int 0] _ := hI
  refine jj_go C 2 rfl ?_
  refine jj_numF C hI rfl fl_LG_24 rfl rfl (Nat.le_of_ble_eq_true rfl) (fun h4 hI => ?_)
  have hI : jj_OI h h4 x 2 [.ref a0, .ref a1, .ref a2, .ref a3, .int 0, .int 0, .int 0, .int 0] _ := hI
  refine jj_go C 2 rfl ?_
  refine jj_numF C hI rfl fl_LG_28 rfl rfl (Nat.le_of_ble_eq_true rfl) (fun h5 hI => ?_)
  have hI : jj_OI h h5 x 2 [.ref a0, .ref a1, .ref a2, .ref a3, .int 0, .int 0, .int 0, .int 0] _ := hI
  refine jj_go C 2 rfl ?_
  refine jj_numF C hI rfl fl_LG_31 rfl rfl (Nat.le_of_ble_eq_true rfl) (fun h6 hI => ?_)
  have hI : jj_OI h h6 x 2 [.ref a0, .ref a1, .ref a2, .ref a3, .int 0, .int 0, .int 0, .int 0] _ := hI
  refine jj_go C 2 rfl ?_
  refine jj_numF C hI rfl fl_LG_34 rfl rfl (Nat.le_of_ble_eq_true rfl) (fun h7 hI => ?_)
  have hI : jj_OI h h7 x 2 [.ref a0, .ref a1, .ref a2, .ref a3, .int 0, .int 0, .int 0, .int 63] _ := hI
  exact jj_vret C rfl rfl (Nat.le_of_ble_eq_true rfl) (Nat.le_of_ble_eq_true rfl) ⟨rfl, fun k => [a0, a1, a2, a3].getD k 0, hI⟩
/-- a new BeanServerModel: its fields, its own arrays -/
abbrev ix_MO_fs (ad : Nat → Nat) : List Value := [.ref (ad 0), .ref (ad 1), .ref (ad 2), .ref (ad 3), .ref (ad 4), .ref (ad 5), .ref (ad 6), .ref (ad 7), .ref (ad 8), .ref (ad 9), .ref (ad 10), .ref (ad 11), .ref (ad 12), .ref (ad 13), .ref (ad 14), .int 0, .int 63, .int 0, .ref (ad 18), .int 0, .ref (ad 20), .ref (ad 21), .int 0, .ref (ad 23), .ref (ad 24), .ref (ad 25), .ref (ad 26), .int 0, .int 0]
abbrev ix_MO_L (aC : Nat → ClassId) (ad : Nat → Nat) : List (Nat × Nat × va_E) := [(26, ad 26, .inl (aC 1, 12, .inl (fun _ => 0))), (25, ad 25, .inl (aC 1, 12, .inl (fun _ => 0))), (24, ad 24, .inl (aC 1, 12, .inl (fun _ => 0))), (23, ad 23, .inl (aC 1, 12, .inl (fun _ => 0))), (21, ad 21, .inl (aC 0, 26, .inl (fun _ => 0))), (20, ad 20, .inl (aC 0, 12, .inl (fun _ => 0))), (18, ad 18, .inl (aC 0, 64, .inl (fun _ => 0))), (14, ad 14, .inl (aC 1, 6, .inl (fun _ => 0))), (13, ad 13, .inl (aC 0, 6, .inl (fun _ => 0))), (12, ad 12, .inl (aC 1, 6, .inl (fun _ => 0))), (11, ad 11, .inl (aC 1, 6, .inl (fun _ => 0))), (10, ad 10, .inl (aC 3, 6, .inr (.inl (fun _ => 0)))), (9, ad 9, .inl (aC 0, 6, .inl (fun _ => 0))), (8, ad 8, .inl (aC 0, 6, .inl (fun _ => 0))), (7, ad 7, .inl (aC 0, 6, .inl (fun _ => 0))), (6, ad 6, .inl (aC 0, 6, .inl (fun _ => 0))), (5, ad 5, .inl (aC 1, 6, .inl (fun _ => 0))), (4, ad 4, .inl (aC 1, 60, .inl (fun _ => 0))), (3, ad 3, .inl (aC 0, 60, .inl (fun _ => 0))), (2, ad 2, .inl (aC 1, 12, .inl (fun _ => 0))), (1, ad 1, .inl (aC 0, 34, .inl (fun _ => 0))), (0, ad 0, .inl (aC 2, 2040, .inl (fun _ => 0)))]
set_option maxHeartbeats 4000000 in
set_option maxRecDepth 100000 in
theorem ix_MO_init {l : Launch} {D : va_G} {aC : Nat → ClassId} {base : Nat} {h : jjHp} {x : Nat} (ho : h x = some (.inr (9, [.null, .null, .null, .null, .null, .null, .null, .null, .null, .null, .null, .null, .null, .null, .null, .int 0, .int 0, .int 0, .null, .int 0, .null, .null, .int 0, .null, .null, .null, .null, .int 0, .int 0]))) : jj_Ct l D aC base yn_MO_init yb_MO_init 1 none 1 22 2416 [.ref x] h (fun r h' => r = none ∧ ∃ ad : Nat → Nat, jj_OI h h' x 9 (ix_MO_fs ad) (ix_MO_L aC ad)) := by
  refine jj_start (tb := tb_MO_init) (by decide) tg_MO_init (Nat.le_of_ble_eq_true rfl) ?_
  intro p e s m args below meth c C
  refine jj_go C 1 rfl ?_
  refine jj_objI C rfl wd_871 wd_29 wd_30 ⟨(Nat.le_of_ble_eq_true rfl), (Nat.le_of_ble_eq_true rfl)⟩ (Nat.zero_le _) ?_
  have hI := jj_OI.start ho
  refine jj_go C 2 rfl ?_
  refine jj_arrF C hI 2 (N := 2040) (a0 := (2040, .inl (fun _ => 0))) rfl wd_960 rfl rfl (fun _ => rfl) rfl (by decide) (Nat.le_of_ble_eq_true rfl) (Nat.le_of_ble_eq_true rfl) rfl fp_MO_7 rfl (Nat.le_of_ble_eq_true rfl) (fun a0 h0 hI => ?_)
  have hI : jj_OI h h0 x 9 [.ref a0, .null, .null, .null, .null, .null, .null, .null, .null, .null, .null, .null, .null, .null, .null, .int 0, .int 0, .int 0, .null, .int 0, .null, .null, .int 0, .null, .null, .null, .null, .int 0, .int 0] _ := hI
  refine jj_go C 2 rfl ?_
  refine jj_arrF C hI 0 (N := 34) (a0 := (34, .inl (fun _ => 0))) rfl wd_103 rfl rfl (fun _ => rfl) rfl (by decide) (Nat.le_of_ble_eq_true rfl) (Nat.le_of_ble_eq_true rfl) rfl fp_MO_13 rfl (Nat.le_of_ble_eq_true rfl) (fun a1 h1 hI => ?_)
  have hI : jj_OI h h1 x 9 [.ref a0, .ref a1, .null, .null, .null, .null, .null, .null, .null, .null, .null, .null, .null, .null, .null, .int 0, .int 0, .int 0, .null, .int 0, .null, .null, .int 0, .null, .null, .null, .null, .int 0, .int 0] _ := hI
  refine jj_go C 2 rfl ?_
  refine jj_arrF C hI 1 (N := 12) (a0 := (12, .inl (fun _ => 0))) rfl wd_508 rfl rfl (fun _ => rfl) rfl (by decide) (Nat.le_of_ble_eq_true rfl) (Nat.le_of_ble_eq_true rfl) rfl fp_MO_17 rfl (Nat.le_of_ble_eq_true rfl) (fun a2 h2 hI => ?_)
  have hI : jj_OI h h2 x 9 [.ref a0, .ref a1, .ref a2, .null, .null, .null, .null, .null, .null, .null, .null, .null, .null, .null, .null, .int 0, .int 0, .int 0, .null, .int 0, .null, .null, .int 0, .null, .null, .null, .null, .int 0, .int 0] _ := hI
  refine jj_go C 2 rfl ?_
  refine jj_arrF C hI 0 (N := 60) (a0 := (60, .inl (fun _ => 0))) rfl wd_103 rfl rfl (fun _ => rfl) rfl (by decide) (Nat.le_of_ble_eq_true rfl) (Nat.le_of_ble_eq_true rfl) rfl fp_MO_21 rfl (Nat.le_of_ble_eq_true rfl) (fun a3 h3 hI => ?_)
  have hI : jj_OI h h3 x 9 [.ref a0, .ref a1, .ref a2, .ref a3, .null, .null, .null, .null, .null, .null, .null, .null, .null, .null, .null, .int 0, .int 0, .int 0, .null, .int 0, .null, .null, .int 0, .null, .null, .null, .null, .int 0, .int 0] _ := hI
  refine jj_go C 2 rfl ?_
  refine jj_arrF C hI 1 (N := 60) (a0 := (60, .inl (fun _ => 0))) rfl wd_508 rfl rfl (fun _ => rfl) rfl (by decide) (Nat.le_of_ble_eq_true rfl) (Nat.le_of_ble_eq_true rfl) rfl fp_MO_24 rfl (Nat.le_of_ble_eq_true rfl) (fun a4 h4 hI => ?_)
  have hI : jj_OI h h4 x 9 [.ref a0, .ref a1, .ref a2, .ref a3, .ref a4, .null, .null, .null, .null, .null, .null, .null, .null, .null, .null, .int 0, .int 0, .int 0, .null, .int 0, .null, .null, .int 0, .null, .null, .null, .null, .int 0, .int 0] _ := hI
  refine jj_go C 2 rfl ?_
  refine jj_arrF C hI 1 (N := 6) (a0 := (6, .inl (fun _ => 0))) rfl wd_508 rfl rfl (fun _ => rfl) rfl (by decide) (Nat.le_of_ble_eq_true rfl) (Nat.le_of_ble_eq_true rfl) rfl fp_MO_27 rfl (Nat.le_of_ble_eq_true rfl) (fun a5 h5 hI => ?_)
  have hI : jj_OI h h5 x 9 [.ref a0, .ref a1, .ref a2, .ref a3, .ref a4, .ref a5, .null, .null, .null, .null, .null, .null, .null, .null, .null, .int 0, .int 0, .int 0, .null, .int 0, .null, .null, .int 0, .null, .null, .null, .null, .int 0, .int 0] _ := hI
  refine jj_go C 2 rfl ?_
  refine jj_arrF C hI 0 (N := 6) (a0 := (6, .inl (fun _ => 0))) rfl wd_103 rfl rfl (fun _ => rfl) rfl (by decide) (Nat.le_of_ble_eq_true rfl) (Nat.le_of_ble_eq_true rfl) rfl fp_MO_30 rfl (Nat.le_of_ble_eq_true rfl) (fun a6 h6 hI => ?_)
  have hI : jj_OI h h6 x 9 [.ref a0, .ref a1, .ref a2, .ref a3, .ref a4, .ref a5, .ref a6, .null, .null, .null, .null, .null, .null, .null, .null, .int 0, .int 0, .int 0, .null, .int 0, .null, .null, .int 0, .null, .null, .null, .null, .int 0, .int 0] _ := hI
  refine jj_go C 2 rfl ?_
  refine jj_arrF C hI 0 (N := 6) (a0 := (6, .inl (fun _ => 0))) rfl wd_103 rfl rfl (fun _ => rfl) rfl (by decide) (Nat.le_of_ble_eq_true rfl) (Nat.le_of_ble_eq_true rfl) rfl fp_MO_33 rfl (Nat.le_of_ble_eq_true rfl) (fun a7 h7 hI => ?_)
  have hI : jj_OI h h7 x 9 [.ref a0, .ref a1, .ref a2, .ref a3, .ref a4, .ref a5, .ref a6, .ref a7, .null, .null, .null, .null, .null, .null, .null, .int 0, .int 0, .int 0, .null, .int 0, .null, .null, .int 0, .null, .null, .null, .null, .int 0, .int 0] _ := hI
  refine jj_go C 2 rfl ?_
  refine jj_arrF C hI 0 (N := 6) (a0 := (6, .inl (fun _ => 0))) rfl wd_103 rfl rfl (fun _ => rfl) rfl (by decide) (Nat.le_of_ble_eq_true rfl) (Nat.le_of_ble_eq_true rfl) rfl fp_MO_36 rfl (Nat.le_of_ble_eq_true rfl) (fun a8 h8 hI => ?_)
  have hI : jj_OI h h8 x 9 [.ref a0, .ref a1, .ref a2, .ref a3, .ref a4, .ref a5, .ref a6, .ref a7, .ref a8, .null, .null, .null, .null, .null, .null, .int 0, .int 0, .int 0, .null, .int 0, .null, .null, .int 0, .null, .null, .null, .null, .int 0, .int 0] _ := hI
  refine jj_go C 2 rfl ?_
  refine jj_arrF C hI 0 (N := 6) (a0 := (6, .inl (fun _ => 0))) rfl wd_103 rfl rfl (fun _ => rfl) rfl (by decide) (Nat.le_of_ble_eq_true rfl) (Nat.le_of_ble_eq_true rfl) rfl fp_MO_39 rfl (Nat.le_of_ble_eq_true rfl) (fun a9 h9 hI => ?_)
  have hI : jj_OI h h9 x 9 [.ref a0, .ref a1, .ref a2, .ref a3, .ref a4, .ref a5, .ref a6, .ref a7, .ref a8, .ref a9, .null, .null, .null, .null, .null, .int 0, .int 0, .int 0, .null, .int 0, .null, .null, .int 0, .null, .null, .null, .null, .int 0, .int 0] _ := hI
  refine jj_go C 2 rfl ?_
  refine jj_arrF C hI 3 (N := 6) (a0 := (6, .inr (.inl (fun _ => 0)))) rfl wd_961 rfl rfl (fun _ => rfl) rfl (by decide) (Nat.le_of_ble_eq_true rfl) (Nat.le_of_ble_eq_true rfl) rfl fp_MO_42 rfl (Nat.le_of_ble_eq_true rfl) (fun a10 h10 hI => ?_)
  have hI : jj_OI h h10 x 9 [.ref a0, .ref a1, .ref a2, .ref a3, .ref a4, .ref a5, .ref a6, .ref a7, .ref a8, .ref a9, .ref a10, .null, .null, .null, .null, .int 0, .int 0, .int 0, .null, .int 0, .null, .null, .int 0, .null, .null, .null, .null, .int 0, .int 0] _ := hI
  refine jj_go C 2 rfl ?_
  refine jj_arrF C hI 1 (N := 6) (a0 := (6, .inl (fun _ => 0))) rfl wd_508 rfl rfl (fun _ => rfl) rfl (by decide) (Nat.le_of_ble_eq_true rfl) (Nat.le_of_ble_eq_true rfl) rfl fp_MO_46 rfl (Nat.le_of_ble_eq_true rfl) (fun a11 h11 hI => ?_)
  have hI : jj_OI h h11 x 9 [.ref a0, .ref a1, .ref a2, .ref a3, .ref a4, .ref a5, .ref a6, .ref a7, .ref a8, .ref a9, .ref a10, .ref a11, .null, .null, .null, .int 0, .int 0, .int 0, .null, .int 0, .null, .null, .int 0, .null, .null, .null, .null, .int 0, .int 0] _ := hI
  refine jj_go C 2 rfl ?_
  refine jj_arrF C hI 1 (N := 6) (a0 := (6, .inl (fun _ => 0))) rfl wd_508 rfl rfl (fun _ => rfl) rfl (by decide) (Nat.le_of_ble_eq_true rfl) (Nat.le_of_ble_eq_true rfl) rfl fp_MO_49 rfl (Nat.le_of_ble_eq_true rfl) (fun a12 h12 hI => ?_)
  have hI : jj_OI h h12 x 9 [.ref a0, .ref a1, .ref a2, .ref a3, .ref a4, .ref a5, .ref a6, .ref a7, .ref a8, .ref a9, .ref a10, .ref a11, .ref a12, .null, .null, .int 0, .int 0, .int 0, .null, .int 0, .null, .null, .int 0, .null, .null, .null, .null, .int 0, .int 0] _ := hI
  refine jj_go C 2 rfl ?_
  refine jj_arrF C hI 0 (N := 6) (a0 := (6, .inl (fun _ => 0))) rfl wd_103 rfl rfl (fun _ => rfl) rfl (by decide) (Nat.le_of_ble_eq_true rfl) (Nat.le_of_ble_eq_true rfl) rfl fp_MO_52 rfl (Nat.le_of_ble_eq_true rfl) (fun a13 h13 hI => ?_)
  have hI : jj_OI h h13 x 9 [.ref a0, .ref a1, .ref a2, .ref a3, .ref a4, .ref a5, .ref a6, .ref a7, .ref a8, .ref a9, .ref a10, .ref a11, .ref a12, .ref a13, .null, .int 0, .int 0, .int 0, .null, .int 0, .null, .null, .int 0, .null, .null, .null, .null, .int 0, .int 0] _ := hI
  refine jj_go C 2 rfl ?_
  refine jj_arrF C hI 1 (N := 6) (a0 := (6, .inl (fun _ => 0))) rfl wd_508 rfl rfl (fun _ => rfl) rfl (by decide) (Nat.le_of_ble_eq_true rfl) (Nat.le_of_ble_eq_true rfl) rfl fp_MO_55 rfl (Nat.le_of_ble_eq_true rfl) (fun a14 h14 hI => ?_)
  have hI : jj_OI h h14 x 9 [.ref a0, .ref a1, .ref a2, .ref a3, .ref a4, .ref a5, .ref a6, .ref a7, .ref a8, .ref a9, .ref a10, .ref a11, .ref a12, .ref a13, .ref a14, .int 0, .int 0, .int 0, .null, .int 0, .null, .null, .int 0, .null, .null, .null, .null, .int 0, .int 0] _ := hI
  refine jj_go C 2 rfl ?_
  refine jj_numF C hI rfl fl_MO_58 rfl rfl (Nat.le_of_ble_eq_true rfl) (fun h15 hI => ?_)
  have hI : jj_OI h h15 x 9 [.ref a0, .ref a1, .ref a2, .ref a3, .ref a4, .ref a5, .ref a6, .ref a7, .ref a8, .ref a9, .ref a10, .ref a11, .ref a12, .ref a13, .ref a14, .int 0, .int 63, .int 0, .null, .int 0, .null, .null, .int 0, .null, .null, .null, .null, .int 0, .int 0] _ := hI
  refine jj_go C 2 rfl ?_
  refine jj_arrF C hI 0 (N := 64) (a0 := (64, .inl (fun _ => 0))) rfl wd_103 rfl rfl (fun _ => rfl) rfl (by decide) (Nat.le_of_ble_eq_true rfl) (Nat.le_of_ble_eq_true rfl) rfl fp_MO_62 rfl (Nat.le_of_ble_eq_true rfl) (fun a18 h16 hI => ?_)
  have hI : jj_OI h h16 x 9 [.ref a0, .ref a1, .ref a2, .ref a3, .ref a4, .ref a5, .ref a6, .ref a7, .ref a8, .ref a9, .ref a10, .ref a11, .ref a12, .ref a13, .ref a14, .int 0, .int 63, .int 0, .ref a18, .int 0, .null, .null, .int 0, .null, .null, .null, .null, .int 0, .int 0] _ := hI
  refine jj_go C 2 rfl ?_
  refine jj_arrF C hI 0 (N := 12) (a0 := (12, .inl (fun _ => 0))) rfl wd_103 rfl rfl (fun _ => rfl) rfl (by decide) (Nat.le_of_ble_eq_true rfl) (Nat.le_of_ble_eq_true rfl) rfl fp_MO_65 rfl (Nat.le_of_ble_eq_true rfl) (fun a20 h17 hI => ?_)
  have hI : jj_OI h h17 x 9 [.ref a0, .ref a1, .ref a2, .ref a3, .ref a4, .ref a5, .ref a6, .ref a7, .ref a8, .ref a9, .ref a10, .ref a11, .ref a12, .ref a13, .ref a14, .int 0, .int 63, .int 0, .ref a18, .int 0, .ref a20, .null, .int 0, .null, .null, .null, .null, .int 0, .int 0] _ := hI
  refine jj_go C 2 rfl ?_
  refine jj_arrF C hI 0 (N := 26) (a0 := (26, .inl (fun _ => 0))) rfl wd_103 rfl rfl (fun _ => rfl) rfl (by decide) (Nat.le_of_ble_eq_true rfl) (Nat.le_of_ble_eq_true rfl) rfl fp_MO_68 rfl (Nat.le_of_ble_eq_true rfl) (fun a21 h18 hI => ?_)
  have hI : jj_OI h h18 x 9 [.ref a0, .ref a1, .ref a2, .ref a3, .ref a4, .ref a5, .ref a6, .ref a7, .ref a8, .ref a9, .ref a10, .ref a11, .ref a12, .ref a13, .ref a14, .int 0, .int 63, .int 0, .ref a18, .int 0, .ref a20, .ref a21, .int 0, .null, .null, .null, .null, .int 0, .int 0] _ := hI
  refine jj_go C 2 rfl ?_
  refine jj_arrF C hI 1 (N := 12) (a0 := (12, .inl (fun _ => 0))) rfl wd_508 rfl rfl (fun _ => rfl) rfl (by decide) (Nat.le_of_ble_eq_true rfl) (Nat.le_of_ble_eq_true rfl) rfl fp_MO_71 rfl (Nat.le_of_ble_eq_true rfl) (fun a23 h19 hI => ?_)
  have hI : jj_OI h h19 x 9 [.ref a0, .ref a1, .ref a2, .ref a3, .ref a4, .ref a5, .ref a6, .ref a7, .ref a8, .ref a9, .ref a10, .ref a11, .ref a12, .ref a13, .ref a14, .int 0, .int 63, .int 0, .ref a18, .int 0, .ref a20, .ref a21, .int 0, .ref a23, .null, .null, .null, .int 0, .int 0] _ := hI
  refine jj_go C 2 rfl ?_
  refine jj_arrF C hI 1 (N := 12) (a0 := (12, .inl (fun _ => 0))) rfl wd_508 rfl rfl (fun _ => rfl) rfl (by decide) (Nat.le_of_ble_eq_true rfl) (Nat.le_of_ble_eq_true rfl) rfl fp_MO_74 rfl (Nat.le_of_ble_eq_true rfl) (fun a24 h20 hI => ?_)
  have hI : jj_OI h h20 x 9 [.ref a0, .ref a1, .ref a2, .ref a3, .ref a4, .ref a5, .ref a6, .ref a7, .ref a8, .ref a9, .ref a10, .ref a11, .ref a12, .ref a13, .ref a14, .int 0, .int 63, .int 0, .ref a18, .int 0, .ref a20, .ref a21, .int 0, .ref a23, .ref a24, .null, .null, .int 0, .int 0] _ := hI
  refine jj_go C 2 rfl ?_
  refine jj_arrF C hI 1 (N := 12) (a0 := (12, .inl (fun _ => 0))) rfl wd_508 rfl rfl (fun _ => rfl) rfl (by decide) (Nat.le_of_ble_eq_true rfl) (Nat.le_of_ble_eq_true rfl) rfl fp_MO_77 rfl (Nat.le_of_ble_eq_true rfl) (fun a25 h21 hI => ?_)
  have hI : jj_OI h h21 x 9 [.ref a0, .ref a1, .ref a2, .ref a3, .ref a4, .ref a5, .ref a6, .ref a7, .ref a8, .ref a9, .ref a10, .ref a11, .ref a12, .ref a13, .ref a14, .int 0, .int 63, .int 0, .ref a18, .int 0, .ref a20, .ref a21, .int 0, .ref a23, .ref a24, .ref a25, .null, .int 0, .int 0] _ := hI
  refine jj_go C 2 rfl ?_
  refine jj_arrF C hI 1 (N := 12) (a0 := (12, .inl (fun _ => 0))) rfl wd_508 rfl rfl (fun _ => rfl) rfl (by decide) (Nat.le_of_ble_eq_true rfl) (Nat.le_of_ble_eq_true rfl) rfl fp_MO_80 rfl (Nat.le_of_ble_eq_true rfl) (fun a26 h22 hI => ?_)
  have hI : jj_OI h h22 x 9 [.ref a0, .ref a1, .ref a2, .ref a3, .ref a4, .ref a5, .ref a6, .ref a7, .ref a8, .ref a9, .ref a10, .ref a11, .ref a12, .ref a13, .ref a14, .int 0, .int 63, .int 0, .ref a18, .int 0, .ref a20, .ref a21, .int 0, .ref a23, .ref a24, .ref a25, .ref a26, .int 0, .int 0] _ := hI
  exact jj_vret C rfl rfl (Nat.le_of_ble_eq_true rfl) (Nat.le_of_ble_eq_true rfl) ⟨rfl, fun k => [a0, a1, a2, a3, a4, a5, a6, a7, a8, a9, a10, a11, a12, a13, a14, 0, 0, 0, a18, 0, a20, a21, 0, a23, a24, a25, a26].getD k 0, hI⟩
end
section
/-! StringBuilder: append within the capacity -/
theorem ky_sub {a b : Nat} (ha : a < 2 ^ 30) (hb : b < 2 ^ 30) : nI a - nI b ≤ 0 ↔ a ≤ b := by
  rw [Int32.le_iff_toInt_le, pk_sub_toInt ha hb, Int32.toInt_zero]
  omega
theorem ky_byte : ∀ k, k < 128 → vp_nar .byte (nI k).toInt8.toInt32 = nI k := by decide +kernel
theorem ky_fit : ∀ k, k < 128 → fits .byte (.int (nI k)) = true := by decide +kernel
theorem ky_and : ∀ k, k < 128 → ((nI k &&& 255).toUInt32 % 65536).toInt32 = nI k := by decide +kernel
section KY
variable {l : Launch} {D : va_G} {aC : Nat → ClassId} {base : Nat} {h : jjHp}
theorem kx_ne {aC : Nat → ClassId} {a b m ci : Nat} {fs : List Value} {x : vp_A} {cA : ClassId} (ho : h a = some (.inr (ci, fs))) (hv : h b = some (.inl (cA, x))) : b ≠ a := fun z => by
  rw [z, ho] at hv
  cases hv
theorem kx_AS_ensure {a b m q : Nat} {ml n : Int32} {f : Nat → Int32} (ho : h a = some (kx_sb b ml n)) (hv : h b = some (kx_ba aC m f)) (hq : q ≤ m) (hm : m ≤ 65536) : jj_Ct l D aC base yn_AS_ensureCapacityInternal yb_AS_ensureCapacityInternal 3 none 0 0 0 [.ref a, .int (nI q)] h (fun r h' => r = none ∧ h' = h) := by
  refine jj_start (tb := tb_AS_ensureCapacityInternal) (by decide) tg_AS_ensureCapacityInternal (Nat.le_of_ble_eq_true rfl) ?_
  intro p e s m0 args below meth c C
  refine jj_go C 1 rfl ?_
  refine jj_getf C rfl fl_AS_15 ho rfl ?_
  refine jj_alen C 4 rfl hv rfl ?_
  refine jj_go C 1 rfl ?_
  refine jj_getf C rfl fl_AS_22 ho rfl ?_
  refine jj_go C 1 rfl ?_
  refine jj_top (sb_shr0 _) ?_
  refine jj_go C 4 rfl ?_
  refine jj_if C rfl (fun _ => ?_) (fun hc => absurd ((ky_sub (a := q) (b := m) (by omega) (by omega)).mpr hq) hc)
  exact jj_vret C rfl rfl (Nat.le_refl _) (Nat.le_refl _) ⟨rfl, rfl⟩
theorem kx_AS_append {a b m n k : Nat} {ml : Int32} {f : Nat → Int32} (ho : h a = some (kx_sb b ml (nI n))) (hv : h b = some (kx_ba aC m f)) (hn : n + 1 ≤ m) (hm : m ≤ 65536) (hk : k < 128) : jj_Ct l D aC base yn_AS_append yb_AS_append 2 (some (.object "java/lang/AbstractStringBuilder")) 1 0 0 [.ref a, .int (nI k)] h (fun r h' => r = some (.ref a) ∧ h' = jj_up (jj_up h a (kx_sb b ml (nI (n + 1)))) b (kx_ba aC m (upd f n (nI k)))) := by
  refine jj_start (tb := tb_AS_append) (by decide) tg_AS_append (Nat.le_of_ble_eq_true rfl) ?_
  intro p e s m0 args below meth c C
  refine jj_go C 2 rfl ?_
  refine jj_getf C rfl fl_AS_79 ho rfl ?_
  refine jj_go C 2 rfl ?_
  refine jj_top (nI_1 n) ?_
  refine jj_callV C rfl ml_AS_100 wd_153 ho rfl se_SB_AS_ensureCapacityInternal (kx_AS_ensure ho hv hn hm) (rest := []) rfl rfl ⟨Nat.le_refl _, Nat.le_of_ble_eq_true rfl⟩ (Nat.le_refl _) (Nat.le_refl _) (Nat.zero_le _) ?_
  rintro r h' ⟨rfl, rfl⟩
  refine jj_go C 1 rfl ?_
  refine jj_callV C rfl ml_AS_83 wd_187 ho rfl se_SB_AS_isLatin1 (kx_AS_isLatin1 ho) (rest := []) rfl rfl ⟨Nat.le_refl _, Nat.le_of_ble_eq_true rfl⟩ (Nat.le_refl _) (Nat.le_refl _) (Nat.zero_le _) ?_
  rintro r h' ⟨rfl, rfl⟩
  refine jj_if C rfl (fun hc => absurd hc (by decide)) (fun _ => ?_)
  refine jj_go C 1 rfl ?_
  refine jj_callS C rfl ml_AS_191 wd_192 (kx_SL_canEncode (k := k) (by omega)) (rest := []) rfl rfl ⟨Nat.le_refl _, Nat.le_of_ble_eq_true rfl⟩ (Nat.le_refl _) (Nat.le_refl _) (Nat.zero_le _) ?_
  rintro r h' ⟨rfl, rfl⟩
  refine jj_if C rfl (fun hc => absurd hc (by decide)) (fun _ => ?_)
  refine jj_go C 1 rfl ?_
  refine jj_getf C rfl fl_AS_15 ho rfl ?_
  refine jj_go C 2 rfl ?_
  refine jj_getf C rfl fl_AS_79 ho rfl ?_
  refine jj_go C 3 rfl ?_
  refine jj_top (nI_1 n) ?_
  refine jj_putf C rfl fl_AS_79 ho rfl rfl (Nat.le_of_ble_eq_true rfl) ?_
  refine jj_go C 2 rfl ?_
  refine jj_bast C rfl ((jj_up_n (kx_ne (m := m) (aC := aC) ho hv)).trans hv) rfl (show n < m by omega) (by omega) ?_
  refine jj_go C 2 rfl ?_
  refine jj_aret C rfl rfl (Or.inl ⟨_, rfl⟩) (Or.inr ⟨_, rfl⟩) (Nat.le_refl _) (Nat.le_refl _) ⟨rfl, ?_⟩
  rw [ky_byte k hk]
  rfl
theorem kx_SB_append {a b m n k : Nat} {ml : Int32} {f : Nat → Int32} (ho : h a = some (kx_sb b ml (nI n))) (hv : h b = some (kx_ba aC m f)) (hn : n + 1 ≤ m) (hm : m ≤ 65536) (hk : k < 128) : jj_Ct l D aC base yn_SB_append yb_SB_append 2 (some (.object "java/lang/StringBuilder")) 2 0 0 [.ref a, .int (nI k)] h (fun r h' => r = some (.ref a) ∧ h' = jj_up (jj_up h a (kx_sb b ml (nI (n + 1)))) b (kx_ba aC m (upd f n (nI k)))) := by
  refine jj_start (tb := tb_SB_append) (by decide) tg_SB_append (Nat.le_of_ble_eq_true rfl) ?_
  intro p e s m0 args below meth c C
  refine jj_go C 2 rfl ?_
  refine jj_callP C rfl ho rfl ms_SB_50 (kx_AS_append ho hv hn hm hk) (rest := []) rfl rfl ⟨Nat.le_refl _, Nat.le_of_ble_eq_true rfl⟩ (Nat.le_refl _) (Nat.le_refl _) (Nat.zero_le _) ?_
  rintro r h' ⟨rfl, rfl⟩
  refine jj_go C 2 rfl ?_
  exact jj_aret C rfl rfl (Or.inl ⟨_, rfl⟩) (Or.inr ⟨_, rfl⟩) (Nat.le_refl _) (Nat.le_refl _) ⟨rfl, rfl⟩
end KY
end
section
/-! String: length, charAt, isEmpty, equals -/
section JJS
variable {p : Program} {l : Launch} {e : Env} {R : Room} {s : State} {m : MethodId} {args : Array Value} {below : List Frame} {meth : Method} {c : Code} {Q : State → Prop} {y : MethodName} {cc : ByteArray} {nL : Nat} {ret : Option FieldType} {tb : jjTab} {D : va_G} {aC : Nat → ClassId} {base : Nat}
variable {pc pc' nx tg idx kc ks mc ms d : Nat} {kv : Int32} {lc lc' : jjLoc} {st st' rest : List Value} {h : jjHp} {a : Nat}
theorem jj_acmpne (C : jj_C p s m args meth c y cc nL ret tb D aC base) {x z : Nat} {o : Int} (hf : jj_look tb pc = some (.if_acmp .ne o, nx, tg, kv)) (kt : ¬ x = z → jj_J p l e R s m args below meth c D base nL Q tg lc st h kc ks) (kf : x = z → jj_J p l e R s m args below meth c D base nL Q nx lc st h kc ks) : jj_J p l e R s m args below meth c D base nL Q pc lc (.ref z :: .ref x :: st) h kc ks := by
  obtain ⟨hx, hb, hml, hown, hts, hg, hE, -, -, -⟩ := C
  obtain ⟨a1, a2, a3, -⟩ := jj_good_at hg hf
  subst a2
  exact fun H locs ls hw hS hl => lv_acmp_ne (rx := some x) (ry := some z) hx hb a1 (a3 o rfl) (fun q => kt (fun z9 => q (by rw [z9])) H locs ls hw hS hl) (fun q => kf (Option.some.inj q) H locs ls hw hS hl)
theorem jj_instY (C : jj_C p s m args meth c y cc nL ret tb D aC base) {ci : Nat} {fs : List Value} {r0 : vw_C} (hf : jj_look tb pc = some (.instanceof idx, nx, tg, kv)) (ho : h a = some (.inr (ci, fs))) (hcl : jj_cl[ci]? = some r0) (w1 : Cond.classLink y.cls idx r0.1 ∈ jj_gw) (kk : jj_J p l e R s m args below meth c D base nL Q nx lc (.int 1 :: st) h kc ks) : jj_J p l e R s m args below meth c D base nL Q pc lc (.ref a :: st) h kc ks := by
  obtain ⟨hx, hb, hml, hown, hts, hg, hE, -, -, -⟩ := C
  obtain ⟨a1, a2, -⟩ := jj_good_at hg hf
  subst a2
  exact fun H locs ls hw hS hl => va_instE hx hb hown (hts _ w1) (jj_recv hE hw ho hcl) a1 (kk H locs ls hw hS hl)
theorem jj_castY (C : jj_C p s m args meth c y cc nL ret tb D aC base) {ci : Nat} {fs : List Value} {r0 : vw_C} (hf : jj_look tb pc = some (.checkcast idx, nx, tg, kv)) (ho : h a = some (.inr (ci, fs))) (hcl : jj_cl[ci]? = some r0) (w1 : Cond.classLink y.cls idx r0.1 ∈ jj_gw) (kk : jj_J p l e R s m args below meth c D base nL Q nx lc (.ref a :: st) h kc ks) : jj_J p l e R s m args below meth c D base nL Q pc lc (.ref a :: st) h kc ks := by
  obtain ⟨hx, hb, hml, hown, hts, hg, hE, -, -, -⟩ := C
  obtain ⟨a1, a2, -⟩ := jj_good_at hg hf
  subst a2
  exact fun H locs ls hw hS hl => va_castE hx hb hown (hts _ w1) (jj_recv hE hw ho hcl) a1 (kk H locs ls hw hS hl)
end JJS
section KS
variable {l : Launch} {D : va_G} {aC : Nat → ClassId} {base : Nat} {h : jjHp}
theorem kx_ST_coder {a b : Nat} {hs hz : Int32} (ho : h a = some (kx_st b hs hz)) : jj_Ct l D aC base yn_ST_coder yb_ST_coder 1 (some .byte) 0 0 0 [.ref a] h (fun r h' => r = some (.int 0) ∧ h' = h) := by
  refine jj_start (tb := tb_ST_coder) (by decide) tg_ST_coder (Nat.le_of_ble_eq_true rfl) ?_
  intro p e s m args below meth c C
  refine jj_gets C rfl wd_280 ?_
  refine jj_if C rfl (fun hc => absurd hc (by decide)) (fun _ => ?_)
  refine jj_go C 1 rfl ?_
  refine jj_getf C rfl fl_ST_15 ho rfl ?_
  refine jj_go C 1 rfl ?_
  exact jj_iret C rfl rfl rfl (Nat.le_refl _) (Nat.le_refl _) ⟨rfl, rfl⟩
theorem kx_ST_isLatin1 {a b : Nat} {hs hz : Int32} (ho : h a = some (kx_st b hs hz)) : jj_Ct l D aC base yn_ST_isLatin1 yb_ST_isLatin1 1 (some .boolean) 0 0 0 [.ref a] h (fun r h' => r = some (.int 1) ∧ h' = h) := by
  refine jj_start (tb := tb_ST_isLatin1) (by decide) tg_ST_isLatin1 (Nat.le_of_ble_eq_true rfl) ?_
  intro p e s m args below meth c C
  refine jj_gets C rfl wd_280 ?_
  refine jj_if C rfl (fun hc => absurd hc (by decide)) (fun _ => ?_)
  refine jj_go C 1 rfl ?_
  refine jj_getf C rfl fl_ST_15 ho rfl ?_
  refine jj_if C rfl (fun _ => ?_) (fun hc => absurd rfl hc)
  refine jj_go C 2 rfl ?_
  exact jj_iret C rfl rfl rfl (Nat.le_refl _) (Nat.le_refl _) ⟨rfl, rfl⟩
theorem kx_ST_length {a b n : Nat} {hs hz : Int32} {f : Nat → Int32} (ho : h a = some (kx_st b hs hz)) (hv : h b = some (kx_ba aC n f)) : jj_Ct l D aC base yn_ST_length yb_ST_length 1 (some .int) 1 0 0 [.ref a] h (fun r h' => r = some (.int (nI n)) ∧ h' = h) := by
  refine jj_start (tb := tb_ST_length) (by decide) tg_ST_length (Nat.le_of_ble_eq_true rfl) ?_
  intro p e s m args below meth c C
  refine jj_go C 1 rfl ?_
  refine jj_getf C rfl fl_ST_9 ho rfl ?_
  refine jj_alen C 4 rfl hv rfl ?_
  refine jj_go C 1 rfl ?_
  refine jj_callV C rfl ml_ST_335 wd_368 ho rfl se_ST_ST_coder (kx_ST_coder ho) (rest := [.int (nI n)]) rfl rfl ⟨Nat.le_refl _, Nat.le_of_ble_eq_true rfl⟩ (Nat.le_refl _) (Nat.le_refl _) (Nat.le_of_ble_eq_true rfl) ?_
  rintro r h' ⟨rfl, rfl⟩
  refine jj_go C 1 rfl ?_
  refine jj_top (sb_shr0 _) ?_
  exact jj_iret C rfl rfl rfl (Nat.le_refl _) (Nat.le_refl _) ⟨rfl, rfl⟩
theorem kx_ST_isEmpty {a b n : Nat} {hs hz : Int32} {f : Nat → Int32} (ho : h a = some (kx_st b hs hz)) (hv : h b = some (kx_ba aC n f)) (hn : n < 2 ^ 31) : jj_Ct l D aC base yn_ST_isEmpty yb_ST_isEmpty 1 (some .boolean) 0 0 0 [.ref a] h (fun r h' => r = some (.int (if n = 0 then 1 else 0)) ∧ h' = h) := by
  refine jj_start (tb := tb_ST_isEmpty) (by decide) tg_ST_isEmpty (Nat.le_of_ble_eq_true rfl) ?_
  intro p e s m args below meth c C
  refine jj_go C 1 rfl ?_
  refine jj_getf C rfl fl_ST_9 ho rfl ?_
  refine jj_alen C 4 rfl hv rfl ?_
  refine jj_if C rfl (fun hc => ?_) (fun hc => ?_)
  · have h0 : n = 0 := (nI_eq hn (by decide)).mp (hc.trans nI_0.symm)
    subst h0
    refine jj_go C 2 rfl ?_
    exact jj_iret C rfl rfl rfl (Nat.le_refl _) (Nat.le_refl _) ⟨rfl, rfl⟩
  · have h0 : ¬ n = 0 := fun z => hc (by subst z; rfl)
    refine jj_go C 1 rfl ?_
    exact jj_iret C rfl rfl rfl (Nat.le_refl _) (Nat.le_refl _) ⟨by rw [if_neg h0], rfl⟩
/-- isEmpty of the class's own "" -/
theorem kx_ST_isEmpty0 : jj_Ct l D aC base yn_ST_isEmpty yb_ST_isEmpty 1 (some .boolean) 0 0 0 [.ref (aC 100)] h (fun r h' => r = some (.int 1) ∧ h' = h) := by
  refine jj_start (tb := tb_ST_isEmpty) (by decide) tg_ST_isEmpty (Nat.le_of_ble_eq_true rfl) ?_
  intro p e s m args below meth c C
  refine jj_go C 1 rfl ?_
  refine jj_litv C rfl wd_294 ?_
  refine jj_litl C rfl ?_
  refine jj_if C rfl (fun hc => ?_) (fun hc => absurd rfl hc)
  refine jj_go C 2 rfl ?_
  exact jj_iret C rfl rfl rfl (Nat.le_refl _) (Nat.le_refl _) ⟨rfl, rfl⟩
theorem kx_PR_checkIndex {i n : Nat} {v : Value} (hv : v = .null ∨ ∃ t, v = .ref t) (hi : i < n) (hn : n < 2 ^ 31) : jj_Ct l D aC base yn_PR_checkIndex yb_PR_checkIndex 3 (some .int) 0 0 0 [.int (nI i), .int (nI n), v] h (fun r h' => r = some (.int (nI i)) ∧ h' = h) := by
  have hz : (lg_sl [.int (nI i), .int (nI n), v]).length ≤ 3 := by
    rcases hv with rfl | ⟨t, rfl⟩ <;> exact Nat.le_of_ble_eq_true rfl
  refine jj_start (tb := tb_PR_checkIndex) (by decide) tg_PR_checkIndex hz ?_
  intro p e s m args below meth c C
  refine jj_go C 1 rfl ?_
  refine jj_if C rfl (fun hc => absurd hc (nI_pos (by omega))) (fun _ => ?_)
  refine jj_go C 2 rfl ?_
  refine jj_if C rfl (fun _ => ?_) (fun hc => absurd (nI_lt hi hn) hc)
  refine jj_go C 1 rfl ?_
  exact jj_iret C rfl rfl rfl (Nat.le_refl _) (Nat.le_refl _) ⟨rfl, rfl⟩
theorem kx_ST_checkIndex {i n : Nat} (hi : i < n) (hn : n < 2 ^ 31) : jj_Ct l D aC base yn_ST_checkIndex yb_ST_checkIndex 2 none 1 0 0 [.int (nI i), .int (nI n)] h (fun r h' => r = none ∧ h' = h) := by
  refine jj_start (tb := tb_ST_checkIndex) (by decide) tg_ST_checkIndex (Nat.le_of_ble_eq_true rfl) ?_
  intro p e s m args below meth c C
  refine jj_go C 2 rfl ?_
  refine jj_getq C rfl wd_213 (fun q => ?_)
  have hq : va_rf q = .null ∨ ∃ t, va_rf q = .ref t := by
    cases q with
    | none => exact Or.inl rfl
    | some t => exact Or.inr ⟨t, rfl⟩
  refine jj_callS C rfl ml_ST_1059 wd_237 (kx_PR_checkIndex (v := va_rf q) hq hi hn) (rest := []) rfl rfl ⟨Nat.le_refl _, Nat.le_of_ble_eq_true rfl⟩ (Nat.le_refl _) (Nat.le_refl _) (Nat.zero_le _) ?_
  rintro r h' ⟨rfl, rfl⟩
  refine jj_go C 1 rfl ?_
  exact jj_vret C rfl rfl (Nat.le_refl _) (Nat.le_refl _) ⟨rfl, rfl⟩
theorem kx_SL_charAt {b n i k : Nat} {f : Nat → Int32} (hv : h b = some (kx_ba aC n f)) (hi : i < n) (hn : n < 2 ^ 31) (hf : f i = nI k) (hk : k < 128) : jj_Ct l D aC base yn_SL_charAt yb_SL_charAt 2 (some .char) 2 0 0 [.ref b, .int (nI i)] h (fun r h' => r = some (.int (nI k)) ∧ h' = h) := by
  refine jj_start (tb := tb_SL_charAt) (by decide) tg_SL_charAt (Nat.le_of_ble_eq_true rfl) ?_
  intro p e s m args below meth c C
  refine jj_go C 2 rfl ?_
  refine jj_alen C 4 rfl hv rfl ?_
  refine jj_callS C rfl ml_SL_9 wd_234 (kx_ST_checkIndex hi hn) (rest := []) rfl rfl ⟨Nat.le_refl _, Nat.le_of_ble_eq_true rfl⟩ (Nat.le_refl _) (Nat.le_refl _) (Nat.zero_le _) ?_
  rintro r h' ⟨rfl, rfl⟩
  refine jj_go C 2 rfl ?_
  refine jj_bald C rfl hv rfl hi hn ?_
  refine jj_top hf ?_
  refine jj_go C 3 rfl ?_
  refine jj_top (ky_and k hk) ?_
  exact jj_iret C rfl rfl (pk_charN (q := k) (by omega)).1 (Nat.le_refl _) (Nat.le_refl _) ⟨rfl, rfl⟩
theorem kx_ST_charAt {a b n i k : Nat} {hs hz : Int32} {f : Nat → Int32} (ho : h a = some (kx_st b hs hz)) (hv : h b = some (kx_ba aC n f)) (hi : i < n) (hn : n < 2 ^ 31) (hf : f i = nI k) (hk : k < 128) : jj_Ct l D aC base yn_ST_charAt yb_ST_charAt 2 (some .char) 3 0 0 [.ref a, .int (nI i)] h (fun r h' => r = some (.int (nI k)) ∧ h' = h) := by
  refine jj_start (tb := tb_ST_charAt) (by decide) tg_ST_charAt (Nat.le_of_ble_eq_true rfl) ?_
  intro p e s m args below meth c C
  refine jj_go C 1 rfl ?_
  refine jj_callV C rfl ml_ST_492 wd_376 ho rfl se_ST_ST_isLatin1 (kx_ST_isLatin1 ho) (rest := []) rfl rfl ⟨Nat.le_of_ble_eq_true rfl, Nat.le_of_ble_eq_true rfl⟩ (Nat.le_refl _) (Nat.le_refl _) (Nat.zero_le _) ?_
  rintro r h' ⟨rfl, rfl⟩
  refine jj_if C rfl (fun hc => absurd hc (by decide)) (fun _ => ?_)
  refine jj_go C 1 rfl ?_
  refine jj_getf C rfl fl_ST_9 ho rfl ?_
  refine jj_go C 1 rfl ?_
  refine jj_callS C rfl ml_ST_495 wd_380 (kx_SL_charAt hv hi hn hf hk) (rest := []) rfl rfl ⟨Nat.le_refl _, Nat.le_of_ble_eq_true rfl⟩ (Nat.le_refl _) (Nat.le_refl _) (Nat.zero_le _) ?_
  rintro r h' ⟨rfl, rfl⟩
  exact jj_iret C rfl rfl (pk_charN (q := k) (by omega)).1 (Nat.le_refl _) (Nat.le_refl _) ⟨rfl, rfl⟩
theorem kx_SL_equals {b1 b2 n1 n2 : Nat} {f g : Nat → Int32} (hv1 : h b1 = some (kx_ba aC n1 f)) (hv2 : h b2 = some (kx_ba aC n2 g)) (hn1 : n1 < 2 ^ 31) (hn2 : n2 < 2 ^ 31) : jj_Ct l D aC base yn_SL_equals yb_SL_equals 3 (some .boolean) 0 0 0 [.ref b1, .ref b2] h (fun r h' => ∃ v : Int32, r = some (.int v) ∧ ((v = 1 ∧ n1 = n2 ∧ ∀ i, i < n1 → f i = g i) ∨ (v = 0 ∧ ¬ (n1 = n2 ∧ ∀ i, i < n1 → f i = g i))) ∧ h' = h) := by
  refine jj_start (tb := tb_SL_equals) (by decide) tg_SL_equals (Nat.le_of_ble_eq_true rfl) ?_
  intro p e s m args below meth c C
  refine jj_go C 1 rfl ?_
  refine jj_alen C 4 rfl hv1 rfl ?_
  refine jj_go C 1 rfl ?_
  refine jj_alen C 4 rfl hv2 rfl ?_
  refine jj_if C rfl (fun hc => ?_) (fun hc => ?_)
  · have hnn : n1 = n2 := (nI_eq hn1 hn2).mp hc
    subst hnn
    have loop : ∀ (k j : Nat) (v : Int32), v = nI j → j + k = n1 → (∀ i, i < j → f i = g i) → jj_J p l e (jj_rm 0 0 0) s m args below meth c D base 3 (MQ below (jj_Q D base (fun r h' => ∃ v : Int32, r = some (.int v) ∧ ((v = 1 ∧ n1 = n1 ∧ ∀ i, i < n1 → f i = g i) ∨ (v = 0 ∧ ¬ (n1 = n1 ∧ ∀ i, i < n1 → f i = g i))) ∧ h' = h)) args s 0 0 (jj_A base)) 9 [(0, .ref b1), (1, .ref b2), (2, .int v)] [] h 0 0 := by
      intro k
      induction k with
      | zero =>
        intro j v hj hk hi
        have hjn : j = n1 := by omega
        subst hjn
        refine jj_go C 2 rfl ?_
        refine jj_alen C 4 rfl hv1 rfl ?_
        refine jj_if C rfl (fun _ => ?_) (fun hc => absurd (by rw [hj]; exact nI_le (Nat.le_refl _) hn1) hc)
        refine jj_go C 1 rfl ?_
        exact jj_iret C rfl rfl rfl (Nat.le_refl _) (Nat.le_refl _) ⟨1, rfl, Or.inl ⟨rfl, rfl, hi⟩, rfl⟩
      | succ k ih =>
        intro j v hj hk hi
        have hlt : j < n1 := by omega
        refine jj_go C 2 rfl ?_
        refine jj_alen C 4 rfl hv1 rfl ?_
        refine jj_if C rfl (fun hc => absurd hc (by rw [hj]; exact nI_ge hlt hn1)) (fun _ => ?_)
        refine jj_go C 2 rfl ?_
        refine jj_bald C rfl hv1 hj hlt hn1 ?_
        refine jj_go C 2 rfl ?_
        refine jj_bald C rfl hv2 hj hlt hn1 ?_
        refine jj_if C rfl (fun hc => ?_) (fun hc => ?_)
        · refine jj_go C 2 rfl ?_
          exact ih (j + 1) (v + 1) (by rw [hj, nI_1]) (by omega) (lt_s hi hc)
        · refine jj_go C 1 rfl ?_
          exact jj_iret C rfl rfl rfl (Nat.le_refl _) (Nat.le_refl _) ⟨0, rfl, Or.inr ⟨rfl, fun z => hc (z.2 j hlt)⟩, rfl⟩
    refine jj_go C 2 rfl ?_
    exact loop n1 0 0 nI_0.symm (by omega) (fun i hi => absurd hi (Nat.not_lt_zero _))
  · refine jj_go C 1 rfl ?_
    exact jj_iret C rfl rfl rfl (Nat.le_refl _) (Nat.le_refl _) ⟨0, rfl, Or.inr ⟨rfl, fun z => hc (by rw [z.1])⟩, rfl⟩
theorem kx_ST_equals {a1 a2 b1 b2 n1 n2 : Nat} {s1 z1 s2 z2 : Int32} {f g : Nat → Int32} (ho1 : h a1 = some (kx_st b1 s1 z1)) (hv1 : h b1 = some (kx_ba aC n1 f)) (ho2 : h a2 = some (kx_st b2 s2 z2)) (hv2 : h b2 = some (kx_ba aC n2 g)) (hn1 : n1 < 2 ^ 31) (hn2 : n2 < 2 ^ 31) : jj_Ct l D aC base yn_ST_equals yb_ST_equals 3 (some .boolean) 1 0 0 [.ref a1, .ref a2] h (fun r h' => ∃ v : Int32, r = some (.int v) ∧ ((v = 1 ∧ n1 = n2 ∧ ∀ i, i < n1 → f i = g i) ∨ (v = 0 ∧ ¬ (n1 = n2 ∧ ∀ i, i < n1 → f i = g i))) ∧ h' = h) := by
  refine jj_start (tb := tb_ST_equals) (by decide) tg_ST_equals (Nat.le_of_ble_eq_true rfl) ?_
  intro p e s m args below meth c C
  refine jj_go C 2 rfl ?_
  refine jj_acmpne C rfl (fun _ => ?_) (fun he => ?_)
  · refine jj_go C 1 rfl ?_
    refine jj_instY C rfl ho2 rfl wd_480 ?_
    refine jj_if C rfl (fun hc => absurd hc (by decide)) (fun _ => ?_)
    refine jj_go C 1 rfl ?_
    refine jj_castY C rfl ho2 rfl wd_480 ?_
    refine jj_go C 1 rfl ?_
    refine jj_gets C rfl wd_280 ?_
    refine jj_if C rfl (fun hc => absurd hc (by decide)) (fun _ => ?_)
    refine jj_go C 1 rfl ?_
    refine jj_getf C rfl fl_ST_15 ho1 rfl ?_
    refine jj_go C 1 rfl ?_
    refine jj_getf C rfl fl_ST_15 ho2 rfl ?_
    refine jj_if C rfl (fun _ => ?_) (fun hc => absurd rfl hc)
    refine jj_go C 1 rfl ?_
    refine jj_getf C rfl fl_ST_9 ho1 rfl ?_
    refine jj_go C 1 rfl ?_
    refine jj_getf C rfl fl_ST_9 ho2 rfl ?_
    refine jj_callS C rfl ml_ST_541 wd_482 (kx_SL_equals hv1 hv2 hn1 hn2) (rest := []) rfl rfl ⟨Nat.le_refl _, Nat.le_of_ble_eq_true rfl⟩ (Nat.le_refl _) (Nat.le_refl _) (Nat.zero_le _) ?_
    rintro r h' ⟨v, rfl, hv, rfl⟩
    rcases hv with ⟨rfl, hv⟩ | ⟨rfl, hv⟩
    · refine jj_if C rfl (fun hc => absurd hc (by decide)) (fun _ => ?_)
      refine jj_go C 2 rfl ?_
      exact jj_iret C rfl rfl rfl (Nat.le_refl _) (Nat.le_refl _) ⟨1, rfl, Or.inl ⟨rfl, hv⟩, rfl⟩
    · refine jj_if C rfl (fun _ => ?_) (fun hc => absurd rfl hc)
      refine jj_go C 1 rfl ?_
      exact jj_iret C rfl rfl rfl (Nat.le_refl _) (Nat.le_refl _) ⟨0, rfl, Or.inr ⟨rfl, hv⟩, rfl⟩
  · subst he
    rw [ho1] at ho2
    cases ho2
    rw [hv1] at hv2
    cases hv2
    refine jj_go C 1 rfl ?_
    exact jj_iret C rfl rfl rfl (Nat.le_refl _) (Nat.le_refl _) ⟨1, rfl, Or.inl ⟨rfl, rfl, fun _ _ => rfl⟩, rfl⟩
end KS
end
section
/-! Arrays' clone, methods of a class some of whose methods are run by an entry; StringBuilder: growth, toString, setLength, charAt, deleteCharAt -/
theorem jj_metF {l : Launch} {y : MethodName} {ws ws' : List Cond} {rm : Room} {Pc : Array Value → State → Prop} {Qc : Array Value → State → Outcome → State → Prop} {mc ms : Nat} {free : Addr → Prop} {cc : ByteArray} {maxL : Nat} {ret : Option FieldType}
    (hy : plainFor y = true) (hw : ws = Cond.code y cc maxL ret :: ws')
    (body : ∀ p e s m args below meth c s₁, BodyLoose p l y (headSpec ws rm) cc maxL ret e s m args below meth c s₁ → c.maxLocals = maxL → Pc args s →
      W p l e (headSpec ws rm).room s m args below meth c s.heap [] 0 0 (MQ below Qc args s mc ms free) (entryFrame m args maxL)) : Met l y ws rm Pc Qc mc ms free := by
  refine MetFree.of_bodyRF (code := cc) (maxLocals := maxL) (ret := ret) hy ?_ ?_
  · intro args s m h hn
    obtain ⟨meth, c, h1, h2, h3, h4, h5, h6, -, -⟩ := Cond.code_spec hn (atoms_spec (ws := ws) h _ (by rw [hw]; exact List.mem_cons_self))
    exact ⟨meth, c, h1, h2, h3, h4, h5, h6⟩
  · intro p e s m args below meth c s₁ B hml hP _ hst
    have hh0 : s₁.heap = s.heap := by rw [B.state]; rfl
    obtain ⟨t, a1, o, b1, b2, b3⟩ := body p e s m args below meth c s₁ B hml hP s₁ hh0 (Stand.of_body B)
    exact ⟨t, o, hst.trans a1, b1, b2, ⟨b3.1, b3.2⟩⟩
theorem jj_startF {l : Launch} {y : MethodName} {nL d mc ms base : Nat} {ret : Option FieldType} {tb : jjTab} {D : va_G} {aC : Nat → ClassId} {h : jjHp} {b : ByteArray} {av : List Value} {Post : Option Value → jjHp → Prop} (hy : plainFor y = true) (hg : jj_good b nL tb) (hn : (lg_sl av).length ≤ nL)
    (body : ∀ (p : Program) (e : Env) (s : State) (m : MethodId) (args : Array Value) (below : List Frame) (meth : Method) (c : Code), jj_C p s m args meth c y b nL ret tb D aC base → jj_J p l e (jj_rm d mc ms) s m args below meth c D base nL (MQ below (jj_Q D base Post) args s mc ms (jj_A base)) 0 (lv_args 0 av) [] h 0 0) : jj_Ct l D aC base y b nL ret d mc ms av h Post := by
  refine jj_metF (cc := b) (maxL := nL) (ret := ret) hy rfl ?_
  intro p e s m args below meth c s₁ B hml hv
  obtain ⟨rfl, hE, hw⟩ := hv
  have hts := atoms_spec (ws := .code y b nL ret :: jj_gw) B.pre
  have C : jj_C p s m av.toArray meth c y b nL ret tb D aC base := ⟨B.exec, B.bytes, hml, findClass_of_methodNamed B.named, fun w h => hts w (List.mem_cons_of_mem _ h), hg, hE, B.notSynchronized, fun hi => (name_of_methodNamed B.named B.method).1.trans hi, B.returns⟩
  have hl := lv_entry av (n := nL) hn
  rw [lg_entry_eq]
  exact body p e s m _ below meth c C s.heap [] _ hw va_S.rf hl
section JJK
variable {p : Program} {l : Launch} {e : Env} {R : Room} {s : State} {m : MethodId} {args : Array Value} {below : List Frame} {meth : Method} {c : Code} {Q : State → Prop} {y : MethodName} {cc : ByteArray} {nL : Nat} {ret : Option FieldType} {tb : jjTab} {D : va_G} {aC : Nat → ClassId} {base : Nat}
variable {pc pc' nx tg idx kc ks mc ms d : Nat} {kv : Int32} {lc lc' : jjLoc} {st st' rest : List Value} {h : jjHp} {a : Nat}
theorem jj_byteName (hE : jj_E D aC base s) : s.vm.findClass "[B" = some (aC 4) := (hE.1.2 4 (aC 4, .byte) rfl).2
theorem jj_clone (C : jj_C p s m args meth c y cc nL ret tb D aC base) {n : Nat} {f : Nat → Int32} (hf : jj_look tb pc = some (.invokevirtual idx, nx, tg, kv)) (w1 : Cond.methodLink y.cls idx ⟨"[B", "clone", "()Ljava/lang/Object;"⟩ ∈ jj_gw) (ho : h a = some (kx_ba aC n f)) (hfit : ∀ i, i < n → fits .byte (.int (f i)) = true) (hR : 1 ≤ R.frames) (hlo : (st.map fun v => v.category).sum + 14 ≤ R.locals) (hc : kc + 1 ≤ R.cells) (hd : ks + n ≤ R.slots)
    (kk : ∀ q, h q = none → jj_J p l e R s m args below meth c D base nL Q nx lc (.ref q :: st) (jj_up h q (kx_ba aC n f)) (kc + 1) (ks + n)) : jj_J p l e R s m args below meth c D base nL Q pc lc (.ref a :: st) h kc ks := by
  obtain ⟨hx, hb, hml, hown, hts, hg, hE, -, -, -⟩ := C
  obtain ⟨a1, a2, -⟩ := jj_good_at hg hf
  subst a2
  intro H locs ls hw hS hl
  obtain ⟨ws, hP, hD, hi⟩ := hw
  obtain ⟨q0, hq0⟩ := hi a _ ho
  refine va_clone (ty := .byte) hx hb (hml.trans hl.1.symm) hown (hts _ w1) (hts _ wd_174) (hts _ wd_175) (hts _ wd_176) (hts _ wd_177) (hE.2.2.2.2.2.2.2.2.2.2.2 ("[B", "java/lang/Cloneable") List.mem_cons_self) hE.1 hP hD hS (fun q hq => Nat.le_trans hE.2.2.2.2.2.2.1 hq) q0 4 hq0 rfl (jj_byteName hE) (fun i v hv => ?_) hR hlo hc hd a1 (fun q H1 hK1 hP1 hD1 hS1 => kk q (jj_fresh hi hD1) H1 locs ls ⟨_, hP1, hD1, jj_push_in hi⟩ hS1 hl)
  by_cases hin : i < n
  · have h1 : (vp_cell (aC 4) (n, .inl f)).slots[i]? = some (.int (f i)) := arrV_read (aC 4) (fun k => .int (f k)) hin
    rw [h1] at hv
    cases hv
    exact hfit i hin
  · have h2 : (vp_cell (aC 4) (n, .inl f)).slots.size = n := arrV_size (aC 4) n (fun k => .int (f k))
    have h3 := (Array.getElem?_eq_some_iff.mp hv).1
    omega
theorem jj_castB (C : jj_C p s m args meth c y cc nL ret tb D aC base) {n : Nat} {f : Nat → Int32} (hf : jj_look tb pc = some (.checkcast idx, nx, tg, kv)) (w1 : Cond.classLink y.cls idx "[B" ∈ jj_gw) (ho : h a = some (kx_ba aC n f))
    (kk : jj_J p l e R s m args below meth c D base nL Q nx lc (.ref a :: st) h kc ks) : jj_J p l e R s m args below meth c D base nL Q pc lc (.ref a :: st) h kc ks := by
  obtain ⟨hx, hb, hml, hown, hts, hg, hE, -, -, -⟩ := C
  obtain ⟨a1, a2, -⟩ := jj_good_at hg hf
  subst a2
  intro H locs ls hw hS hl
  have hh := hw
  obtain ⟨ws, hP, hD, hi⟩ := hh
  obtain ⟨q0, hq0⟩ := hi a _ ho
  exact va_castA hx hb hown (hts _ w1) hP q0 hq0 (jj_byteName hE) a1 (kk H locs ls hw hS hl)
end JJK
end
section
/-! StringBuilder: growth, append of a letter to a text -/
def kx_tx (f : Nat → Int32) (t : List Nat) : Prop := ∀ i, i < t.length → f i = nI (t.getD i 0) ∧ t.getD i 0 < 128
/-- a StringBuilder that holds the text t, in b, of m bytes -/
def kx_SB (aC : Nat → ClassId) (h : jjHp) (a b m : Nat) (t : List Nat) : Prop := ∃ (ml : Int32) (f : Nat → Int32), h a = some (kx_sb b ml (nI t.length)) ∧ h b = some (kx_ba aC m f) ∧ kx_tx f t ∧ sb_Fit f ∧ t.length ≤ m ∧ m ≤ 142
/-- a String that holds the text t -/
def kx_ST (aC : Nat → ClassId) (h : jjHp) (a b : Nat) (t : List Nat) : Prop := ∃ (hs hz : Int32) (f : Nat → Int32), h a = some (kx_st b hs hz) ∧ h b = some (kx_ba aC t.length f) ∧ kx_tx f t
/-- all but these stay -/
def jj_fr (S : List Nat) (h h' : jjHp) : Prop := ∀ c e, c ∉ S → h c = some e → h' c = some e
theorem jj_fr.rf {S : List Nat} {h : jjHp} : jj_fr S h h := fun _ _ _ z => z
theorem jj_fr.tr {S : List Nat} {h h1 h2 : jjHp} (a : jj_fr S h h1) (b : jj_fr S h1 h2) : jj_fr S h h2 := fun c e hc z => b c e hc (a c e hc z)
theorem jj_fr.up {S : List Nat} {h h1 : jjHp} {a : Nat} {x : va_E} (hf : jj_fr S h h1) (ha : a ∈ S ∨ h a = none) : jj_fr S h (jj_up h1 a x) := fun c e hc z => by
  rw [jj_up_n (fun q => ?_)]
  · exact hf c e hc z
  · subst q
    rcases ha with ha | ha
    · exact hc ha
    · rw [ha] at z
      cases z
theorem jj_fr.mono {S T : List Nat} {h h1 : jjHp} (hf : jj_fr S h h1) (hs : ∀ a, a ∈ S → a ∈ T) : jj_fr T h h1 := fun c e hc z => hf c e (fun q => hc (hs c q)) z
theorem kx_tx_nil {f : Nat → Int32} : kx_tx f [] := fun i hi => absurd hi (Nat.not_lt_zero _)
theorem kx_tx_keep {f g : Nat → Int32} {t : List Nat} (h : kx_tx f t) (hk : ∀ j, j < t.length → g j = f j) : kx_tx g t := fun i hi => by rw [hk i hi]; exact h i hi
theorem kx_tx_add {f : Nat → Int32} {t : List Nat} {k : Nat} (h : kx_tx f t) (hk : k < 128) : kx_tx (upd f t.length (nI k)) (t ++ [k]) := by
  intro i hi
  simp only [List.length_append, List.length_cons, List.length_nil] at hi
  by_cases he : i = t.length
  · subst he
    simp [upd, List.getD_eq_getElem?_getD, hk]
  · have h1 : i < t.length := by omega
    have h2 := h i h1
    simp only [upd, if_neg he, List.getD_eq_getElem?_getD, List.getElem?_append_left h1] at h2 ⊢
    exact h2
theorem kx_fit_k {k : Nat} (hk : k < 128) : fits .byte (.int (nI k)) = true := ky_fit k hk
def kx_cap (q m : Nat) : Nat := m + (if q - m < m + 2 then m + 2 else q - m)
section KZ
variable {l : Launch} {D : va_G} {aC : Nat → ClassId} {base : Nat} {h : jjHp}
theorem kx_AP_newLength {m g pf : Nat} (hm : m < 65536) (hg : g < 65536) (hp : pf < 65536) (h0 : 0 < pf) : jj_Ct l D aC base yn_AP_newLength yb_AP_newLength 4 (some .int) 1 0 0 [.int (nI m), .int (nI g), .int (nI pf)] h (fun r h' => r = some (.int (nI (m + (if g < pf then pf else g)))) ∧ h' = h) := by
  refine jj_start (tb := tb_AP_newLength) (by decide) tg_AP_newLength (Nat.le_of_ble_eq_true rfl) ?_
  intro p e s m0 args below meth c C
  refine jj_go C 3 rfl ?_
  refine jj_mmax C rfl wd_162 wd_163 wd_9 wd_164 (Nat.le_refl _) (Nat.le_of_ble_eq_true rfl) (Nat.le_refl _) (Nat.le_refl _) ?_
  have e1 : (if nI g < nI pf then nI pf else nI g) = nI (if g < pf then pf else g) := by
    by_cases hc : g < pf
    · rw [if_pos hc, if_pos (nI_lt hc (by omega))]
    · rw [if_neg hc, if_neg (nI_nlt (by omega) (by omega))]
  have hX : (if g < pf then pf else g) < 65536 := by split <;> omega
  have hX0 : 0 < (if g < pf then pf else g) := by split <;> omega
  refine jj_top e1 ?_
  refine jj_go C 1 rfl ?_
  refine jj_top (nI_add m _) ?_
  refine jj_go C 3 rfl ?_
  refine jj_if C rfl (fun hc => absurd hc (nI_nle (by omega) (by omega))) (fun _ => ?_)
  refine jj_go C 1 rfl ?_
  refine jj_ldci C rfl wd_165 ?_
  refine jj_if C rfl (fun hc => absurd hc (show ¬ nI 2147483639 < nI _ from nI_nlt (by omega) (by decide))) (fun _ => ?_)
  refine jj_go C 1 rfl ?_
  exact jj_iret C rfl rfl rfl (Nat.le_refl _) (Nat.le_refl _) ⟨rfl, rfl⟩
theorem kx_AS_newCapacity {a b m q : Nat} {ml n : Int32} {f : Nat → Int32} (ho : h a = some (kx_sb b ml n)) (hv : h b = some (kx_ba aC m f)) (hq : m < q) (hq2 : q < 20000) : jj_Ct l D aC base yn_AS_newCapacity yb_AS_newCapacity 6 (some .int) 2 0 0 [.ref a, .int (nI q)] h (fun r h' => r = some (.int (nI (kx_cap q m))) ∧ h' = h) := by
  refine jj_start (tb := tb_AS_newCapacity) (by decide) tg_AS_newCapacity (Nat.le_of_ble_eq_true rfl) ?_
  intro p e s m0 args below meth c C
  refine jj_go C 1 rfl ?_
  refine jj_getf C rfl fl_AS_15 ho rfl ?_
  refine jj_alen C 4 rfl hv rfl ?_
  refine jj_go C 3 rfl ?_
  refine jj_getf C rfl fl_AS_22 ho rfl ?_
  refine jj_go C 1 rfl ?_
  refine jj_top (sb_shl0 _) ?_
  refine jj_go C 4 rfl ?_
  refine jj_top (pk_sub (a := q) (b := m) (by omega)) ?_
  refine jj_go C 6 rfl ?_
  refine jj_getf C rfl fl_AS_22 ho rfl ?_
  refine jj_go C 1 rfl ?_
  refine jj_top (sb_shl0 _) ?_
  refine jj_go C 1 rfl ?_
  refine jj_top (show nI m + 2 = nI (m + 2) from nI_add m 2) ?_
  refine jj_callS C rfl ml_AS_114 wd_160 (kx_AP_newLength (m := m) (g := q - m) (pf := m + 2) (by omega) (by omega) (by omega) (by omega)) (rest := []) rfl rfl ⟨Nat.le_refl _, Nat.le_of_ble_eq_true rfl⟩ (Nat.le_refl _) (Nat.le_refl _) (Nat.zero_le _) ?_
  rintro r h' ⟨rfl, rfl⟩
  have hX : m + (if q - m < m + 2 then m + 2 else q - m) < 65536 := by split <;> omega
  refine jj_go C 2 rfl ?_
  refine jj_ldci C rfl wd_169 ?_
  refine jj_if C rfl (fun hc => ?_) (fun _ => ?_)
  · have := (nI_eq (b := 2147483647) (by omega) (by decide)).mp hc
    omega
  refine jj_go C 2 rfl ?_
  refine jj_getf C rfl fl_AS_22 ho rfl ?_
  refine jj_go C 1 rfl ?_
  refine jj_top (sb_shr0 _) ?_
  exact jj_iret C rfl rfl rfl (Nat.le_refl _) (Nat.le_refl _) ⟨rfl, rfl⟩
theorem kx_AR_copyOf {b m n : Nat} {f : Nat → Int32} (hv : h b = some (kx_ba aC m f)) (hf : sb_Fit f) (hn : m < n) (hn2 : n ≤ 65536) : jj_Ct l D aC base yn_AR_copyOf yb_AR_copyOf 3 (some (.array .byte)) 1 1 n [.ref b, .int (nI n)] h (fun r h' => ∃ q, r = some (.ref q) ∧ h q = none ∧ h' = jj_up h q (kx_ba aC n (va_cpy f (fun _ => 0) 0 0 m))) := by
  refine jj_start (tb := tb_AR_copyOf) (by decide) tg_AR_copyOf (Nat.le_of_ble_eq_true rfl) ?_
  intro p e s m0 args below meth c C
  refine jj_go C 2 rfl ?_
  refine jj_alen C 4 rfl hv rfl ?_
  refine jj_if C rfl (fun hc => ?_) (fun _ => ?_)
  · have := (nI_eq (a := n) (b := m) (by omega) (by omega)).mp hc
    omega
  refine jj_go C 1 rfl ?_
  refine jj_newa C 4 (N := n) (a0 := (n, .inl (fun _ => 0))) rfl wd_63 rfl rfl (fun _ => rfl) rfl hn2 (Nat.le_refl _) (show 0 + n ≤ n by omega) (fun q hq => ?_)
  refine jj_go C 6 rfl ?_
  refine jj_alen C 4 rfl (jj_up_f hq hv) rfl ?_
  refine jj_go C 1 rfl ?_
  refine jj_mmin C rfl wd_180 wd_181 wd_9 wd_182 (Nat.le_refl _) (Nat.le_of_ble_eq_true rfl) (Nat.le_refl _) (show 0 + n ≤ n by omega) ?_
  refine jj_top (if_neg (nI_nlt (by omega) (by omega))) ?_
  refine jj_acopy C (j0 := 0) (j1 := 0) (n := m) rfl wd_183 wd_185 wd_184 wd_11 (jj_up_f hq hv) jj_up_s rfl rfl rfl (by omega) (by omega) (by omega) (by omega) (fun i _ => hf _) (Nat.le_refl _) (Nat.le_of_ble_eq_true rfl) ?_
  refine jj_go C 1 rfl ?_
  refine jj_aret C rfl rfl (Or.inr ⟨_, rfl⟩) (Or.inr ⟨_, rfl⟩) (Nat.le_refl _) (show 0 + n ≤ n by omega) ⟨q, rfl, hq, ?_⟩
  rw [jj_up_up]
theorem kx_AS_ensureG {a b m q : Nat} {ml n : Int32} {f : Nat → Int32} (ho : h a = some (kx_sb b ml n)) (hv : h b = some (kx_ba aC m f)) (hf : sb_Fit f) (hq : m < q) (hq2 : q < 20000) : jj_Ct l D aC base yn_AS_ensureCapacityInternal yb_AS_ensureCapacityInternal 3 none 3 1 (kx_cap q m) [.ref a, .int (nI q)] h (fun r h' => r = none ∧ ∃ b', h b' = none ∧ h' = jj_up (jj_up h b' (kx_ba aC (kx_cap q m) (va_cpy f (fun _ => 0) 0 0 m))) a (kx_sb b' ml n)) := by
  refine jj_start (tb := tb_AS_ensureCapacityInternal) (by decide) tg_AS_ensureCapacityInternal (Nat.le_of_ble_eq_true rfl) ?_
  intro p e s m0 args below meth c C
  have hX : m + (if q - m < m + 2 then m + 2 else q - m) < 65536 := by split <;> omega
  have hX2 : m < kx_cap q m := by unfold kx_cap; split <;> omega
  refine jj_go C 1 rfl ?_
  refine jj_getf C rfl fl_AS_15 ho rfl ?_
  refine jj_alen C 4 rfl hv rfl ?_
  refine jj_go C 1 rfl ?_
  refine jj_getf C rfl fl_AS_22 ho rfl ?_
  refine jj_go C 1 rfl ?_
  refine jj_top (sb_shr0 _) ?_
  refine jj_go C 4 rfl ?_
  refine jj_if C rfl (fun hc => absurd ((ky_sub (a := q) (b := m) (by omega) (by omega)).mp hc) (by omega)) (fun _ => ?_)
  refine jj_go C 2 rfl ?_
  refine jj_getf C rfl fl_AS_15 ho rfl ?_
  refine jj_go C 2 rfl ?_
  refine jj_callV C rfl ml_AS_104 wd_157 ho rfl se_SB_AS_newCapacity (kx_AS_newCapacity ho hv hq hq2) (rest := [.ref b, .ref a]) rfl rfl ⟨Nat.le_refl _, Nat.le_of_ble_eq_true rfl⟩ (Nat.zero_le _) (Nat.zero_le _) (Nat.le_of_ble_eq_true rfl) ?_
  rintro r h' ⟨rfl, rfl⟩
  refine jj_go C 1 rfl ?_
  refine jj_getf C rfl fl_AS_22 ho rfl ?_
  refine jj_go C 1 rfl ?_
  refine jj_top (sb_shl0 _) ?_
  refine jj_callS C rfl ml_AS_108 wd_171 (kx_AR_copyOf hv hf hX2 (by unfold kx_cap; omega)) (rest := [.ref a]) rfl rfl ⟨Nat.le_of_ble_eq_true rfl, Nat.le_of_ble_eq_true rfl⟩ (Nat.le_refl _) (show 0 + 0 + kx_cap q m ≤ kx_cap q m by omega) (Nat.le_of_ble_eq_true rfl) ?_
  rintro r h' ⟨b', rfl, hb', rfl⟩
  refine jj_putf C rfl fl_AS_15 (jj_up_f hb' ho) rfl rfl (Nat.le_of_ble_eq_true rfl) ?_
  exact jj_vret C rfl rfl (Nat.le_refl _) (show 0 + 0 + kx_cap q m ≤ kx_cap q m by omega) ⟨rfl, b', hb', rfl⟩
end KZ
end
section
/-! StringBuilder over texts: append, toString, setLength(0), charAt, deleteCharAt -/
section KT
variable {l : Launch} {D : va_G} {aC : Nat → ClassId} {base : Nat} {h : jjHp}
theorem kt_AS_append {a b m k : Nat} {t : List Nat} (hs : kx_SB aC h a b m t) (ht : t.length ≤ 70) (hk : k < 128) : jj_Ct l D aC base yn_AS_append yb_AS_append 2 (some (.object "java/lang/AbstractStringBuilder")) 4 1 142 [.ref a, .int (nI k)] h (fun r h' => r = some (.ref a) ∧ ∃ b' m', kx_SB aC h' a b' m' (t ++ [k]) ∧ (b' = b ∨ h b' = none) ∧ jj_fr [a, b] h h') := by
  obtain ⟨ml, f, ho, hv, htx, hfit, hle, hm⟩ := hs
  refine jj_start (tb := tb_AS_append) (by decide) tg_AS_append (Nat.le_of_ble_eq_true rfl) ?_
  intro p e s m0 args below meth c C
  have tail : ∀ (h1 : jjHp) (b1 m1 : Nat) (f1 : Nat → Int32) (kc ks : Nat), h1 a = some (kx_sb b1 ml (nI t.length)) → h1 b1 = some (kx_ba aC m1 f1) → kx_tx f1 t → sb_Fit f1 → t.length < m1 → m1 ≤ 142 → (b1 = b ∨ h b1 = none) → jj_fr [a, b] h h1 → kc ≤ 1 → ks ≤ 142 →
      jj_J p l e (jj_rm 4 1 142) s m0 args below meth c D base 2 (MQ below (jj_Q D base (fun r h' => r = some (.ref a) ∧ ∃ b' m', kx_SB aC h' a b' m' (t ++ [k]) ∧ (b' = b ∨ h b' = none) ∧ jj_fr [a, b] h h')) args s 1 142 (jj_A base)) 10 [(0, .ref a), (1, .int (nI k))] [] h1 kc ks := by
    intro h1 b1 m1 f1 kc ks ho1 hv1 htx1 hfit1 hlt1 hm1 hb1 hfr1 hkc hks
    have hne : b1 ≠ a := kx_ne (m := m) (aC := aC) ho1 hv1
    refine jj_go C 1 rfl ?_
    refine jj_callV C rfl ml_AS_83 wd_187 ho1 rfl se_SB_AS_isLatin1 (kx_AS_isLatin1 ho1) (rest := []) rfl rfl ⟨Nat.le_of_ble_eq_true rfl, Nat.le_of_ble_eq_true rfl⟩ (show kc + 0 ≤ 1 by omega) (show ks + 0 ≤ 142 by omega) (Nat.zero_le _) ?_
    rintro r h' ⟨rfl, rfl⟩
    refine jj_if C rfl (fun hc => absurd hc (by decide)) (fun _ => ?_)
    refine jj_go C 1 rfl ?_
    refine jj_callS C rfl ml_AS_191 wd_192 (kx_SL_canEncode (k := k) (by omega)) (rest := []) rfl rfl ⟨Nat.le_of_ble_eq_true rfl, Nat.le_of_ble_eq_true rfl⟩ (show kc + 0 + 0 ≤ 1 by omega) (show ks + 0 + 0 ≤ 142 by omega) (Nat.zero_le _) ?_
    rintro r h' ⟨rfl, rfl⟩
    refine jj_if C rfl (fun hc => absurd hc (by decide)) (fun _ => ?_)
    refine jj_go C 1 rfl ?_
    refine jj_getf C rfl fl_AS_15 ho1 rfl ?_
    refine jj_go C 2 rfl ?_
    refine jj_getf C rfl fl_AS_79 ho1 rfl ?_
    refine jj_go C 3 rfl ?_
    refine jj_top (nI_1 t.length) ?_
    refine jj_putf C rfl fl_AS_79 ho1 rfl rfl (Nat.le_of_ble_eq_true rfl) ?_
    refine jj_go C 2 rfl ?_
    refine jj_bast C rfl ((jj_up_n hne).trans hv1) rfl hlt1 (by omega) ?_
    refine jj_go C 2 rfl ?_
    refine jj_aret C rfl rfl (Or.inl ⟨_, rfl⟩) (Or.inr ⟨_, rfl⟩) (show kc + 0 + 0 ≤ 1 by omega) (show ks + 0 + 0 ≤ 142 by omega) ⟨rfl, b1, m1, ⟨ml, upd f1 t.length (nI k), ?_, ?_, kx_tx_add htx1 hk, sb_fitU hfit1 (kx_fit_k hk), ?_, hm1⟩, hb1, ?_⟩
    · rw [jj_up_n (Ne.symm hne), jj_up_s, List.length_append]
      rfl
    · rw [jj_up_s, ky_byte k hk]
    · rw [List.length_append]
      exact hlt1
    · exact (hfr1.up (Or.inl (List.mem_cons_self))).up (hb1.elim (fun q => Or.inl (by rw [q]; exact List.mem_cons_of_mem _ List.mem_cons_self)) Or.inr)
  refine jj_go C 2 rfl ?_
  refine jj_getf C rfl fl_AS_79 ho rfl ?_
  refine jj_go C 2 rfl ?_
  refine jj_top (nI_1 t.length) ?_
  by_cases hroom : t.length + 1 ≤ m
  · refine jj_callV C rfl ml_AS_100 wd_153 ho rfl se_SB_AS_ensureCapacityInternal (kx_AS_ensure ho hv hroom (by omega)) (rest := []) rfl rfl ⟨Nat.le_of_ble_eq_true rfl, Nat.le_of_ble_eq_true rfl⟩ (Nat.zero_le _) (Nat.zero_le _) (Nat.zero_le _) ?_
    rintro r h' ⟨rfl, rfl⟩
    exact tail _ b m f _ _ ho hv htx hfit hroom hm (Or.inl rfl) jj_fr.rf (Nat.zero_le _) (Nat.zero_le _)
  · have hml : m = t.length := by omega
    have hcap : kx_cap (t.length + 1) m = m + (m + 2) := by
      unfold kx_cap
      rw [if_pos (by omega)]
    refine jj_callV C rfl ml_AS_100 wd_153 ho rfl se_SB_AS_ensureCapacityInternal (kx_AS_ensureG ho hv hfit (q := t.length + 1) (by omega) (by omega)) (rest := []) rfl rfl ⟨Nat.le_refl _, Nat.le_of_ble_eq_true rfl⟩ (Nat.le_refl _) (show 0 + kx_cap (t.length + 1) m ≤ 142 by omega) (Nat.zero_le _) ?_
    rintro r h' ⟨rfl, b', hb', rfl⟩
    have hne : a ≠ b' := jj_ne hb' ho
    refine tail _ b' (kx_cap (t.length + 1) m) (va_cpy f (fun _ => 0) 0 0 m) _ _ jj_up_s ((jj_up_n (Ne.symm hne)).trans jj_up_s) (kx_tx_keep htx (fun j hj => sb_cpy0 (by omega))) (sb_fitC hfit sb_fit0) (by omega) (by omega) (Or.inr hb') ((jj_fr.rf.up (Or.inr hb')).up (Or.inl List.mem_cons_self)) (Nat.le_refl _) (show 0 + kx_cap (t.length + 1) m ≤ 142 by omega)
theorem kt_SB_append {a b m k : Nat} {t : List Nat} (hs : kx_SB aC h a b m t) (ht : t.length ≤ 70) (hk : k < 128) : jj_Ct l D aC base yn_SB_append yb_SB_append 2 (some (.object "java/lang/StringBuilder")) 5 1 142 [.ref a, .int (nI k)] h (fun r h' => r = some (.ref a) ∧ ∃ b' m', kx_SB aC h' a b' m' (t ++ [k]) ∧ (b' = b ∨ h b' = none) ∧ jj_fr [a, b] h h') := by
  have ho := hs
  obtain ⟨ml, f, ho, -⟩ := ho
  refine jj_start (tb := tb_SB_append) (by decide) tg_SB_append (Nat.le_of_ble_eq_true rfl) ?_
  intro p e s m0 args below meth c C
  refine jj_go C 2 rfl ?_
  refine jj_callP C rfl ho rfl ms_SB_50 (kt_AS_append hs ht hk) (rest := []) rfl rfl ⟨Nat.le_refl _, Nat.le_of_ble_eq_true rfl⟩ (Nat.le_refl _) (Nat.le_refl _) (Nat.zero_le _) ?_
  rintro r h' ⟨rfl, hp⟩
  refine jj_go C 2 rfl ?_
  exact jj_aret C rfl rfl (Or.inl ⟨_, rfl⟩) (Or.inr ⟨_, rfl⟩) (Nat.le_refl _) (Nat.le_refl _) ⟨rfl, hp⟩
theorem kx_AR_checkLength {n : Nat} (hn : n < 2 ^ 31) : jj_Ct l D aC base yn_AR_checkLength yb_AR_checkLength 2 none 0 0 0 [.int 0, .int (nI n)] h (fun r h' => r = none ∧ h' = h) := by
  refine jj_start (tb := tb_AR_checkLength) (by decide) tg_AR_checkLength (Nat.le_of_ble_eq_true rfl) ?_
  intro p e s m0 args below meth c C
  refine jj_go C 2 rfl ?_
  refine jj_if C rfl (fun _ => ?_) (fun hc => absurd (nI_pos' hn) hc)
  exact jj_vret C rfl rfl (Nat.le_refl _) (Nat.le_refl _) ⟨rfl, rfl⟩
theorem ky_sub0 (x : Int32) : x - 0 = x := by simp
theorem kx_AR_copyOfRangeByte {b m n : Nat} {f : Nat → Int32} (hv : h b = some (kx_ba aC m f)) (hf : sb_Fit f) (hn : n ≤ m) (hm : m ≤ 65536) : jj_Ct l D aC base yn_AR_copyOfRangeByte yb_AR_copyOfRangeByte 5 (some (.array .byte)) 1 1 n [.ref b, .int 0, .int (nI n)] h (fun r h' => ∃ q, r = some (.ref q) ∧ h q = none ∧ h' = jj_up h q (kx_ba aC n (va_cpy f (fun _ => 0) 0 0 n))) := by
  refine jj_start (tb := tb_AR_copyOfRangeByte) (by decide) tg_AR_copyOfRangeByte (Nat.le_of_ble_eq_true rfl) ?_
  intro p e s m0 args below meth c C
  refine jj_go C 2 rfl ?_
  refine jj_callS C rfl ml_AR_343 wd_278 (kx_AR_checkLength (n := n) (by omega)) (rest := []) rfl rfl ⟨Nat.le_refl _, Nat.le_of_ble_eq_true rfl⟩ (Nat.zero_le _) (Nat.zero_le _) (Nat.zero_le _) ?_
  rintro r h' ⟨rfl, rfl⟩
  refine jj_go C 3 rfl ?_
  refine jj_top (ky_sub0 _) ?_
  refine jj_go C 2 rfl ?_
  refine jj_newa C 4 (N := n) (a0 := (n, .inl (fun _ => 0))) rfl wd_63 rfl rfl (fun _ => rfl) rfl (by omega) (Nat.le_refl _) (show 0 + 0 + n ≤ n by omega) (fun q hq => ?_)
  refine jj_go C 6 rfl ?_
  refine jj_alen C 4 rfl (jj_up_f hq hv) rfl ?_
  refine jj_go C 2 rfl ?_
  refine jj_top (ky_sub0 _) ?_
  refine jj_go C 1 rfl ?_
  refine jj_mmin C rfl wd_180 wd_181 wd_9 wd_182 (Nat.le_refl _) (Nat.le_of_ble_eq_true rfl) (Nat.le_refl _) (show 0 + 0 + n ≤ n by omega) ?_
  have e1 : (if nI n < nI m then nI n else nI m) = nI n := by
    by_cases hc : n < m
    · rw [if_pos (nI_lt hc (by omega))]
    · have : n = m := by omega
      subst this
      rw [if_neg (nI_nlt (Nat.le_refl _) (by omega))]
  refine jj_top e1 ?_
  refine jj_acopy C (j0 := 0) (j1 := 0) (n := n) rfl wd_183 wd_185 wd_184 wd_11 (jj_up_f hq hv) jj_up_s rfl rfl rfl (by omega) (by omega) (by omega) (by omega) (fun i _ => hf _) (Nat.le_refl _) (Nat.le_of_ble_eq_true rfl) ?_
  refine jj_go C 1 rfl ?_
  refine jj_aret C rfl rfl (Or.inr ⟨_, rfl⟩) (Or.inr ⟨_, rfl⟩) (Nat.le_refl _) (show 0 + 0 + n ≤ n by omega) ⟨q, rfl, hq, ?_⟩
  rw [jj_up_up]
theorem kx_AR_copyOfRange {b m n : Nat} {f : Nat → Int32} (hv : h b = some (kx_ba aC m f)) (hf : sb_Fit f) (hn : n ≤ m) (hm : m ≤ 65536) : jj_Ct l D aC base yn_AR_copyOfRange yb_AR_copyOfRange 3 (some (.array .byte)) 2 1 n [.ref b, .int 0, .int (nI n)] h (fun r h' => ∃ q g, r = some (.ref q) ∧ h q = none ∧ h' = jj_up h q (kx_ba aC n g) ∧ ∀ j, j < n → g j = f j) := by
  refine jj_start (tb := tb_AR_copyOfRange) (by decide) tg_AR_copyOfRange (Nat.le_of_ble_eq_true rfl) ?_
  intro p e s m0 args below meth c C
  refine jj_go C 1 rfl ?_
  refine jj_if C rfl (fun _ => ?_) (fun hc => absurd rfl hc)
  refine jj_go C 2 rfl ?_
  refine jj_alen C 4 rfl hv rfl ?_
  refine jj_if C rfl (fun hc => ?_) (fun hc => ?_)
  · have hnm : n = m := (nI_eq (by omega) (by omega)).mp hc
    subst hnm
    refine jj_go C 1 rfl ?_
    refine jj_clone C rfl wd_173 hv (fun i _ => hf i) (Nat.le_of_ble_eq_true rfl) (Nat.le_of_ble_eq_true rfl) (Nat.le_refl _) (show 0 + n ≤ n by omega) (fun q hq => ?_)
    refine jj_castB C rfl wd_179 jj_up_s ?_
    exact jj_aret C rfl rfl (Or.inr ⟨_, rfl⟩) (Or.inr ⟨_, rfl⟩) (Nat.le_refl _) (show 0 + n ≤ n by omega) ⟨q, f, rfl, hq, rfl, fun _ _ => rfl⟩
  · refine jj_go C 3 rfl ?_
    refine jj_callS C rfl ml_AR_339 wd_275 (kx_AR_copyOfRangeByte hv hf hn hm) (rest := []) rfl rfl ⟨Nat.le_refl _, Nat.le_of_ble_eq_true rfl⟩ (Nat.le_refl _) (show 0 + n ≤ n by omega) (Nat.zero_le _) ?_
    rintro r h' ⟨q, rfl, hq, rfl⟩
    exact jj_aret C rfl rfl (Or.inr ⟨_, rfl⟩) (Or.inr ⟨_, rfl⟩) (Nat.le_refl _) (show 0 + n ≤ n by omega) ⟨q, _, rfl, hq, rfl, fun j hj => sb_cpy0 hj⟩
theorem mu_ST_549 : jj_MU "java/lang/String" 549 "java/lang/StringBuilder" "java/lang/AbstractStringBuilder" yn_AS_length yn_SB_length yb_SB_length 1 (some .int) 0 := ⟨wd_269, wd_1227, wd_1232, wd_138, wd_3, wd_140, Or.inl ⟨wd_142, _, _, _, wd_143⟩, by decide +kernel⟩
theorem kx_ST_init2 {z a b m n : Nat} {ml : Int32} {f : Nat → Int32} (hz : h z = some (.inr (10, [.null, .int 0, .int 0, .int 0]))) (ho : h a = some (kx_sb b ml (nI n))) (hv : h b = some (kx_ba aC m f)) (hf : sb_Fit f) (hn : n ≤ m) (hm : m ≤ 65536) : jj_Ct l D aC base yn_ST_init2 yb_ST_init2 5 none 3 1 n [.ref z, .ref a, .null] h (fun r h' => r = none ∧ ∃ q g, h q = none ∧ h' = jj_up (jj_up h q (kx_ba aC n g)) z (kx_st q 0 0) ∧ ∀ j, j < n → g j = f j) := by
  refine jj_start (tb := tb_ST_init2) (by decide) tg_ST_init2 (Nat.le_of_ble_eq_true rfl) ?_
  intro p e s m0 args below meth c C
  have hza : a ≠ z := fun q => by rw [q, hz] at ho; cases ho
  have hzb : b ≠ z := kx_ne (m := m) (aC := aC) hz hv
  refine jj_go C 1 rfl ?_
  refine jj_objI C rfl wd_263 wd_29 wd_30 ⟨Nat.le_of_ble_eq_true rfl, Nat.le_of_ble_eq_true rfl⟩ (Nat.zero_le _) ?_
  refine jj_go C 1 rfl ?_
  refine jj_callV C rfl ml_ST_552 wd_265 ho rfl se_SB_AS_getValue (kx_AS_getValue ho) (rest := []) rfl rfl ⟨Nat.le_of_ble_eq_true rfl, Nat.le_of_ble_eq_true rfl⟩ (Nat.zero_le _) (Nat.zero_le _) (Nat.zero_le _) ?_
  rintro r h' ⟨rfl, rfl⟩
  refine jj_go C 2 rfl ?_
  refine jj_callU C rfl ho rfl mu_ST_549 (kx_SB_length ho) (rest := []) rfl rfl ⟨Nat.le_of_ble_eq_true rfl, Nat.le_of_ble_eq_true rfl⟩ (Nat.zero_le _) (Nat.zero_le _) (Nat.zero_le _) ?_
  rintro r h' ⟨rfl, rfl⟩
  refine jj_go C 2 rfl ?_
  refine jj_callV C rfl ml_ST_1047 wd_187 ho rfl se_SB_AS_isLatin1 (kx_AS_isLatin1 ho) (rest := []) rfl rfl ⟨Nat.le_of_ble_eq_true rfl, Nat.le_of_ble_eq_true rfl⟩ (Nat.zero_le _) (Nat.zero_le _) (Nat.zero_le _) ?_
  rintro r h' ⟨rfl, rfl⟩
  refine jj_if C rfl (fun hc => absurd hc (by decide)) (fun _ => ?_)
  refine jj_go C 2 rfl ?_
  refine jj_putF C rfl fp_ST_15 rfl hz rfl rfl (Nat.le_of_ble_eq_true rfl) ?_
  refine jj_go C 4 rfl ?_
  refine jj_callS C rfl ml_ST_54 wd_272 (kx_AR_copyOfRange ((jj_up_n hzb).trans hv) hf hn hm) (rest := [.ref z]) rfl rfl ⟨Nat.le_refl _, Nat.le_of_ble_eq_true rfl⟩ (Nat.le_refl _) (show 0 + 0 + 0 + 0 + n ≤ n by omega) (Nat.le_of_ble_eq_true rfl) ?_
  rintro r h' ⟨q, g, rfl, hq, rfl, hg⟩
  have hzq : z ≠ q := jj_ne hq jj_up_s
  refine jj_putF C rfl fp_ST_9 rfl (jj_up_f hq jj_up_s) rfl rfl (Nat.le_of_ble_eq_true rfl) ?_
  refine jj_go C 1 rfl ?_
  refine jj_vret C rfl rfl (Nat.le_refl _) (show 0 + 0 + 0 + 0 + n ≤ n by omega) ⟨rfl, q, g, ?_, ?_, hg⟩
  · rw [jj_up_n (Ne.symm hzq)] at hq
    exact hq
  · rw [jj_up_comm hzq, jj_up_up]
    rfl
theorem kx_ST_init1 {z a b m n : Nat} {ml : Int32} {f : Nat → Int32} (hz : h z = some (.inr (10, [.null, .int 0, .int 0, .int 0]))) (ho : h a = some (kx_sb b ml (nI n))) (hv : h b = some (kx_ba aC m f)) (hf : sb_Fit f) (hn : n ≤ m) (hm : m ≤ 65536) : jj_Ct l D aC base yn_ST_init1 yb_ST_init1 2 none 4 1 n [.ref z, .ref a] h (fun r h' => r = none ∧ ∃ q g, h q = none ∧ h' = jj_up (jj_up h q (kx_ba aC n g)) z (kx_st q 0 0) ∧ ∀ j, j < n → g j = f j) := by
  refine jj_start (tb := tb_ST_init1) (by decide) tg_ST_init1 (Nat.le_of_ble_eq_true rfl) ?_
  intro p e s m0 args below meth c C
  refine jj_go C 3 rfl ?_
  refine jj_callI C rfl ml_ST_489 wd_261 rfl (kx_ST_init2 hz ho hv hf hn hm) (rest := []) rfl rfl ⟨Nat.le_refl _, Nat.le_of_ble_eq_true rfl⟩ (Nat.le_refl _) (show 0 + n ≤ n by omega) (Nat.zero_le _) ?_
  rintro r h' ⟨rfl, hp⟩
  exact jj_vret C rfl rfl (Nat.le_refl _) (show 0 + n ≤ n by omega) ⟨rfl, hp⟩
theorem kt_SB_toString {a b m : Nat} {t : List Nat} (hs : kx_SB aC h a b m t) : jj_Ct l D aC base yn_SB_toString yb_SB_toString 1 (some (.object "java/lang/String")) 5 2 146 [.ref a] h (fun r h' => ∃ z q, r = some (.ref z) ∧ h z = none ∧ h q = none ∧ kx_ST aC h' z q t ∧ jj_fr [] h h') := by
  obtain ⟨ml, f, ho, hv, htx, hfit, hle, hm⟩ := hs
  refine jj_start (tb := tb_SB_toString) (by decide) tg_SB_toString (Nat.le_of_ble_eq_true rfl) ?_
  intro p e s m0 args below meth c C
  refine jj_new C rfl nw_SB_18 (Nat.le_of_ble_eq_true rfl) (Nat.le_of_ble_eq_true rfl) (fun z hz => ?_)
  refine jj_go C 2 rfl ?_
  refine jj_callI C rfl ml_SB_137 wd_258 rfl (kx_ST_init1 (n := t.length) jj_up_s (jj_up_f hz ho) (jj_up_f hz hv) hfit hle (by omega)) (rest := [.ref z]) rfl rfl ⟨Nat.le_refl _, Nat.le_of_ble_eq_true rfl⟩ (Nat.le_refl _) (show 0 + 4 + t.length ≤ 146 by omega) (Nat.le_of_ble_eq_true rfl) ?_
  rintro r h' ⟨rfl, q, g, hq, rfl, hg⟩
  have hzq : z ≠ q := jj_ne hq jj_up_s
  have hq0 : h q = none := by
    rw [jj_up_n (Ne.symm hzq)] at hq
    exact hq
  refine jj_aret C rfl rfl (Or.inl ⟨_, rfl⟩) (Or.inr ⟨_, rfl⟩) (Nat.le_refl _) (show 0 + 4 + t.length ≤ 146 by omega) ⟨z, q, rfl, hz, hq0, ⟨0, 0, g, jj_up_s, ?_, kx_tx_keep htx hg⟩, ?_⟩
  · rw [jj_up_n (Ne.symm hzq), jj_up_s]
  · exact ((jj_fr.rf.up (Or.inr hz)).up (Or.inr hq0)).up (Or.inr hz)
theorem kt_AS_setLength0 {a b m : Nat} {t : List Nat} (hs : kx_SB aC h a b m t) : jj_Ct l D aC base yn_AS_setLength yb_AS_setLength 2 none 1 0 0 [.ref a, .int 0] h (fun r h' => r = none ∧ kx_SB aC h' a b m [] ∧ jj_fr [a] h h') := by
  obtain ⟨ml, f, ho, hv, htx, hfit, hle, hm⟩ := hs
  have hne : b ≠ a := kx_ne (m := m) (aC := aC) ho hv
  refine jj_start (tb := tb_AS_setLength) (by decide) tg_AS_setLength (Nat.le_of_ble_eq_true rfl) ?_
  intro p e s m0 args below meth c C
  refine jj_go C 1 rfl ?_
  refine jj_if C rfl (fun _ => ?_) (fun hc => absurd (by decide) hc)
  refine jj_go C 2 rfl ?_
  refine jj_callV C rfl ml_AS_100 wd_153 ho rfl se_SB_AS_ensureCapacityInternal (kx_AS_ensure (q := 0) ho hv (Nat.zero_le _) (by omega)) (rest := []) rfl rfl ⟨Nat.le_refl _, Nat.le_of_ble_eq_true rfl⟩ (Nat.le_refl _) (Nat.le_refl _) (Nat.zero_le _) ?_
  rintro r h' ⟨rfl, rfl⟩
  refine jj_go C 1 rfl ?_
  refine jj_getf C rfl fl_AS_79 ho rfl ?_
  refine jj_go C 1 rfl ?_
  refine jj_if C rfl (fun _ => ?_) (fun hc => absurd (nI_pos' (by omega)) hc)
  refine jj_go C 1 rfl ?_
  refine jj_getf C rfl fl_AS_79 ho rfl ?_
  refine jj_go C 1 rfl ?_
  refine jj_if C rfl (fun _ => ?_) (fun _ => ?_)
  · refine jj_go C 2 rfl ?_
    refine jj_putf C rfl fl_AS_79 ho rfl rfl (Nat.le_of_ble_eq_true rfl) ?_
    exact jj_vret C rfl rfl (Nat.le_refl _) (Nat.le_refl _) ⟨rfl, ⟨ml, f, jj_up_s, (jj_up_n hne).trans hv, kx_tx_nil, hfit, Nat.zero_le _, hm⟩, jj_fr.rf.up (Or.inl List.mem_cons_self)⟩
  · refine jj_go C 2 rfl ?_
    refine jj_putf C rfl fl_AS_73 ho rfl rfl (Nat.le_of_ble_eq_true rfl) ?_
    refine jj_go C 2 rfl ?_
    refine jj_putf C rfl fl_AS_79 jj_up_s rfl rfl (Nat.le_of_ble_eq_true rfl) ?_
    exact jj_vret C rfl rfl (Nat.le_refl _) (Nat.le_refl _) ⟨rfl, ⟨1, f, jj_up_s, (jj_up_n hne).trans ((jj_up_n hne).trans hv), kx_tx_nil, hfit, Nat.zero_le _, hm⟩, (jj_fr.rf.up (Or.inl List.mem_cons_self)).up (Or.inl List.mem_cons_self)⟩
theorem kt_SB_setLength0 {a b m : Nat} {t : List Nat} (hs : kx_SB aC h a b m t) : jj_Ct l D aC base yn_SB_setLength yb_SB_setLength 2 none 2 0 0 [.ref a, .int 0] h (fun r h' => r = none ∧ kx_SB aC h' a b m [] ∧ jj_fr [a] h h') := by
  have ho := hs
  obtain ⟨ml, f, ho, -⟩ := ho
  refine jj_start (tb := tb_SB_setLength) (by decide) tg_SB_setLength (Nat.le_of_ble_eq_true rfl) ?_
  intro p e s m0 args below meth c C
  refine jj_go C 2 rfl ?_
  refine jj_callP C rfl ho rfl ms_SB_333 (kt_AS_setLength0 hs) (rest := []) rfl rfl ⟨Nat.le_refl _, Nat.le_of_ble_eq_true rfl⟩ (Nat.le_refl _) (Nat.le_refl _) (Nat.zero_le _) ?_
  rintro r h' ⟨rfl, hp⟩
  exact jj_vret C rfl rfl (Nat.le_refl _) (Nat.le_refl _) ⟨rfl, hp⟩
end KT
end
section
/-! The reference: its rows of letters. Texts are lists of codes. -/
def jb_I (b : Bool) : Int32 := if b then 1 else 0
theorem jb_t : jb_I true = 1 := rfl
theorem jb_f : jb_I false = 0 := rfl
def pc_sm (c : Nat) : Bool := Nat.ble 97 c && Nat.ble c 122
def pc_dg (c : Nat) : Bool := Nat.ble 48 c && Nat.ble c 57
def pc_al (c : Nat) (w : Bool) : Bool := pc_sm c || (pc_dg c || (w && (c == 63 || c == 42)))
def pc_pt (c : Nat) : Bool := !(c == 0) && (!(c == 44) && !(c == 58))
def pc_op (c : Nat) : Bool := c == 43 || (c == 45 || (c == 42 || c == 47))
def pc_rl (c : Nat) : Bool := c == 61 || (c == 60 || (c == 62 || c == 35))
theorem pc_sm_i {c : Nat} : pc_sm c = true ↔ 97 ≤ c ∧ c ≤ 122 := by
  unfold pc_sm
  rw [Bool.and_eq_true, Nat.ble_eq, Nat.ble_eq]
theorem pc_dg_i {c : Nat} : pc_dg c = true ↔ 48 ≤ c ∧ c ≤ 57 := by
  unfold pc_dg
  rw [Bool.and_eq_true, Nat.ble_eq, Nat.ble_eq]
theorem pb_f {b : Bool} {P : Prop} (h : b = true ↔ P) (hn : ¬ P) : b = false := by
  cases b
  · rfl
  · exact absurd (h.mp rfl) hn
theorem ky_char : ∀ k, k < 128 → vp_nar .char (nI k) = nI k := by decide +kernel
/-- the letter of a text at a place; 0 where there is none -/
def jr_g (t : List Nat) (x : Int32) : Nat := if x < 0 then 0 else t.getD x.toNatClampNeg 0
theorem jr_g_n {t : List Nat} {j : Nat} (hj : j < 2 ^ 31) : jr_g t (nI j) = t.getD j 0 := by
  unfold jr_g
  rw [if_neg (nI_pos hj), nI_clamp hj]
theorem jr_g_neg {t : List Nat} {x : Int32} (hx : x < 0) : jr_g t x = 0 := if_pos hx
def jr_up (ρ : Nat → List Nat) (r : Nat) (t : List Nat) : Nat → List Nat := fun q => if q = r then t else ρ q
theorem jr_up_s {ρ : Nat → List Nat} {r : Nat} {t : List Nat} : jr_up ρ r t r = t := if_pos rfl
theorem jr_up_n {ρ : Nat → List Nat} {r q : Nat} {t : List Nat} (h : q ≠ r) : jr_up ρ r t q = ρ q := if_neg h
theorem jr_up_up {ρ : Nat → List Nat} {r : Nat} {t u : List Nat} : jr_up (jr_up ρ r t) r u = jr_up ρ r u := by
  funext q
  unfold jr_up
  split <;> rfl
/-- the rows hold the texts -/
def jr_R (L S : Nat → Int32) (ρ : Nat → List Nat) : Prop := ∀ r, r < 34 → S r = nI (ρ r).length ∧ (ρ r).length ≤ 60 ∧ ∀ i, i < (ρ r).length → L (60 * r + i) = nI ((ρ r).getD i 0) ∧ (ρ r).getD i 0 < 128
/-- the reference's rows -/
def jr_T (aC : Nat → ClassId) (h : jjHp) (y a0 a1 : Nat) (fs : List Value) (ρ : Nat → List Nat) : Prop := h y = some (.inr (9, fs)) ∧ fs[0]? = some (.ref a0) ∧ fs[1]? = some (.ref a1) ∧ a0 ≠ a1 ∧ ∃ L S, h a0 = some (.inl (aC 2, 2040, .inl L)) ∧ h a1 = some (.inl (aC 0, 34, .inl S)) ∧ jr_R L S ρ
theorem jr_lt {t : List Nat} (h : ∀ i, i < t.length → t.getD i 0 < 128) (j : Nat) : t.getD j 0 < 128 := by
  by_cases hj : j < t.length
  · exact h j hj
  · rw [List.getD_eq_getElem?_getD, List.getElem?_eq_none (by omega)]
    decide
section MR
variable {l : Launch} {D : va_G} {aC : Nat → ClassId} {base : Nat} {h : jjHp}
theorem mo_isSmall {c : Nat} (hc : c < 65536) : jj_Ct l D aC base yn_MO_isSmall yb_MO_isSmall 1 (some .boolean) 0 0 0 [.int (nI c)] h (fun r h' => r = some (.int (jb_I (pc_sm c))) ∧ h' = h) := by
  refine jj_start (tb := tb_MO_isSmall) (by decide) tg_MO_isSmall (Nat.le_of_ble_eq_true rfl) ?_
  intro p e s m args below meth cc C
  refine jj_go C 2 rfl ?_
  refine jj_if C rfl (fun h1 => ?_) (fun h1 => ?_)
  · have g1 := (nI_ltI (a := c) (b := 97) (by omega) (by decide)).mp h1
    refine jj_go C 1 rfl ?_
    exact jj_iret C rfl rfl rfl (Nat.le_refl _) (Nat.le_refl _) ⟨by rw [pb_f pc_sm_i (by omega)]; rfl, rfl⟩
  · have g1 : ¬ c < 97 := fun q => h1 ((nI_ltI (a := c) (b := 97) (by omega) (by decide)).mpr q)
    refine jj_go C 2 rfl ?_
    refine jj_if C rfl (fun h2 => ?_) (fun h2 => ?_)
    · have g2 := (nI_ltI (a := 122) (b := c) (by decide) (by omega)).mp h2
      refine jj_go C 1 rfl ?_
      exact jj_iret C rfl rfl rfl (Nat.le_refl _) (Nat.le_refl _) ⟨by rw [pb_f pc_sm_i (by omega)]; rfl, rfl⟩
    · have g2 : ¬ 122 < c := fun q => h2 ((nI_ltI (a := 122) (b := c) (by decide) (by omega)).mpr q)
      refine jj_go C 2 rfl ?_
      exact jj_iret C rfl rfl rfl (Nat.le_refl _) (Nat.le_refl _) ⟨by rw [pc_sm_i.mpr (by omega)]; rfl, rfl⟩
theorem mo_isDigit {c : Nat} (hc : c < 65536) : jj_Ct l D aC base yn_MO_isDigit yb_MO_isDigit 1 (some .boolean) 0 0 0 [.int (nI c)] h (fun r h' => r = some (.int (jb_I (pc_dg c))) ∧ h' = h) := by
  refine jj_start (tb := tb_MO_isDigit) (by decide) tg_MO_isDigit (Nat.le_of_ble_eq_true rfl) ?_
  intro p e s m args below meth cc C
  refine jj_go C 2 rfl ?_
  refine jj_if C rfl (fun h1 => ?_) (fun h1 => ?_)
  · have g1 := (nI_ltI (a := c) (b := 48) (by omega) (by decide)).mp h1
    refine jj_go C 1 rfl ?_
    exact jj_iret C rfl rfl rfl (Nat.le_refl _) (Nat.le_refl _) ⟨by rw [pb_f pc_dg_i (by omega)]; rfl, rfl⟩
  · have g1 : ¬ c < 48 := fun q => h1 ((nI_ltI (a := c) (b := 48) (by omega) (by decide)).mpr q)
    refine jj_go C 2 rfl ?_
    refine jj_if C rfl (fun h2 => ?_) (fun h2 => ?_)
    · have g2 := (nI_ltI (a := 57) (b := c) (by decide) (by omega)).mp h2
      refine jj_go C 1 rfl ?_
      exact jj_iret C rfl rfl rfl (Nat.le_refl _) (Nat.le_refl _) ⟨by rw [pb_f pc_dg_i (by omega)]; rfl, rfl⟩
    · have g2 : ¬ 57 < c := fun q => h2 ((nI_ltI (a := 57) (b := c) (by decide) (by omega)).mpr q)
      refine jj_go C 2 rfl ?_
      exact jj_iret C rfl rfl rfl (Nat.le_refl _) (Nat.le_refl _) ⟨by rw [pc_dg_i.mpr (by omega)]; rfl, rfl⟩
theorem mo_get1 {y a0 a1 r : Nat} {x : Int32} {fs : List Value} {ρ : Nat → List Nat} (hT : jr_T aC h y a0 a1 fs ρ) (hr : r < 34) : jj_Ct l D aC base yn_MO_get1 yb_MO_get1 3 (some .char) 0 0 0 [.ref y, .int (nI r), .int x] h (fun q h' => q = some (.int (nI (jr_g (ρ r) x))) ∧ h' = h) := by
  obtain ⟨hy, f0, f1, hne, L, S, h0, h1, hR⟩ := hT
  obtain ⟨r1, r2, r3⟩ := hR r hr
  refine jj_start (tb := tb_MO_get1) (by decide) tg_MO_get1 (Nat.le_of_ble_eq_true rfl) ?_
  intro p e s m args below meth cc C
  refine jj_go C 1 rfl ?_
  refine jj_if C rfl (fun hx => ?_) (fun hx => ?_)
  · refine jj_go C 2 rfl ?_
    exact jj_iret C rfl rfl rfl (Nat.le_refl _) (Nat.le_refl _) ⟨by rw [jr_g_neg hx]; rfl, rfl⟩
  · obtain ⟨j, hj, rfl⟩ := nI_of hx
    refine jj_go C 2 rfl ?_
    refine jj_getf C rfl fl_MO_13 hy f1 ?_
    refine jj_go C 1 rfl ?_
    refine jj_iald C rfl h1 rfl hr (by decide) ?_
    refine jj_top r1 ?_
    refine jj_if C rfl (fun hc => ?_) (fun hc => ?_)
    · have hlt : j < (ρ r).length := (nI_ltI hj (by omega)).mp hc
      obtain ⟨g1, g2⟩ := r3 j hlt
      refine jj_go C 1 rfl ?_
      refine jj_getf C rfl fl_MO_7 hy f0 ?_
      refine jj_go C 3 rfl ?_
      refine jj_top (show (60 : Int32) * nI r = nI (60 * r) from pk_mul 60 r) ?_
      refine jj_go C 2 rfl ?_
      refine jj_top (nI_add _ _) ?_
      refine jj_cald C rfl h0 rfl (by omega) (by decide) ?_
      refine jj_top g1 ?_
      exact jj_iret C rfl rfl (pk_charN (by omega)).1 (Nat.le_refl _) (Nat.le_refl _) ⟨by rw [jr_g_n hj], rfl⟩
    · have hge : ¬ j < (ρ r).length := fun q => hc ((nI_ltI hj (by omega)).mpr q)
      refine jj_go C 2 rfl ?_
      refine jj_iret C rfl rfl rfl (Nat.le_refl _) (Nat.le_refl _) ⟨?_, rfl⟩
      rw [jr_g_n hj, List.getD_eq_getElem?_getD, List.getElem?_eq_none (by omega)]
      rfl
theorem mo_put {y a0 a1 r k : Nat} {fs : List Value} {ρ : Nat → List Nat} (hT : jr_T aC h y a0 a1 fs ρ) (hr : r < 34) (hl : (ρ r).length < 60) (hk : k < 128) : jj_Ct l D aC base yn_MO_put yb_MO_put 3 none 0 0 0 [.ref y, .int (nI r), .int (nI k)] h (fun q h' => q = none ∧ jr_T aC h' y a0 a1 fs (jr_up ρ r (ρ r ++ [k])) ∧ jj_fr [a0, a1] h h') := by
  obtain ⟨hy, f0, f1, hne, L, S, h0, h1, hR⟩ := hT
  obtain ⟨r1, r2, r3⟩ := hR r hr
  have n0 : a0 ≠ y := kx_ne (m := 0) (aC := aC) hy h0
  have n1 : a1 ≠ y := kx_ne (m := 0) (aC := aC) hy h1
  refine jj_start (tb := tb_MO_put) (by decide) tg_MO_put (Nat.le_of_ble_eq_true rfl) ?_
  intro p e s m args below meth cc C
  refine jj_go C 1 rfl ?_
  refine jj_getf C rfl fl_MO_7 hy f0 ?_
  refine jj_go C 3 rfl ?_
  refine jj_top (show (60 : Int32) * nI r = nI (60 * r) from pk_mul 60 r) ?_
  refine jj_go C 1 rfl ?_
  refine jj_getf C rfl fl_MO_13 hy f1 ?_
  refine jj_go C 1 rfl ?_
  refine jj_iald C rfl h1 rfl hr (by decide) ?_
  refine jj_top r1 ?_
  refine jj_go C 1 rfl ?_
  refine jj_top (nI_add _ _) ?_
  refine jj_go C 1 rfl ?_
  refine jj_cast C rfl h0 rfl (by omega) (by decide) ?_
  refine jj_go C 1 rfl ?_
  refine jj_getf C rfl fl_MO_13 ((jj_up_n (Ne.symm n0)).trans hy) f1 ?_
  refine jj_go C 2 rfl ?_
  refine jj_iald C rfl ((jj_up_n (Ne.symm hne)).trans h1) rfl hr (by decide) ?_
  refine jj_top r1 ?_
  refine jj_go C 2 rfl ?_
  refine jj_top (nI_1 _) ?_
  refine jj_iast C rfl ((jj_up_n (Ne.symm hne)).trans h1) rfl hr (by decide) ?_
  refine jj_vret C rfl rfl (Nat.le_refl _) (Nat.le_refl _) ⟨rfl, ⟨?_, f0, f1, hne, upd L (60 * r + (ρ r).length) (nI k), upd S r (nI ((ρ r).length + 1)), ?_, ?_, ?_⟩, ?_⟩
  · rw [jj_up_n (Ne.symm n1), jj_up_n (Ne.symm n0)]
    exact hy
  · rw [jj_up_n hne, jj_up_s, ky_char k hk]
  · exact jj_up_s
  · intro q hq
    obtain ⟨q1, q2, q3⟩ := hR q hq
    by_cases hqr : q = r
    · subst hqr
      rw [jr_up_s]
      refine ⟨by simp [upd], by simp; omega, fun i hi => ?_⟩
      simp only [List.length_append, List.length_cons, List.length_nil] at hi
      by_cases hi2 : i = (ρ q).length
      · subst hi2
        simp [upd, List.getD_eq_getElem?_getD, hk]
      · have hi3 : i < (ρ q).length := by omega
        have g := r3 i hi3
        simp only [upd, if_neg (show ¬ 60 * q + i = 60 * q + (ρ q).length by omega), List.getD_eq_getElem?_getD, List.getElem?_append_left hi3] at g ⊢
        exact g
    · rw [jr_up_n hqr]
      refine ⟨by simp only [upd, if_neg hqr]; exact q1, q2, fun i hi => ?_⟩
      simp only [upd, if_neg (show ¬ 60 * q + i = 60 * r + (ρ r).length by omega)]
      exact q3 i hi
  · exact (jj_fr.rf.up (Or.inl List.mem_cons_self)).up (Or.inl (List.mem_cons_of_mem _ List.mem_cons_self))
end MR
end
section
/-! The reference: copy, same, take, write, colon -/
theorem jr_R_clear {L S : Nat → Int32} {ρ : Nat → List Nat} {t : Nat} (hR : jr_R L S ρ) : jr_R L (upd S t 0) (jr_up ρ t []) := by
  intro q hq
  by_cases hqt : q = t
  · subst hqt
    rw [jr_up_s]
    exact ⟨by simp only [upd, if_pos]; rfl, Nat.zero_le _, fun i hi => absurd hi (Nat.not_lt_zero _)⟩
  · rw [jr_up_n hqt]
    simp only [upd, if_neg hqt]
    exact hR q hq
theorem jr_T_len {aC : Nat → ClassId} {h : jjHp} {y a0 a1 : Nat} {fs : List Value} {ρ : Nat → List Nat} (hT : jr_T aC h y a0 a1 fs ρ) {r : Nat} (hr : r < 34) : (ρ r).length ≤ 60 ∧ ∀ i, (ρ r).getD i 0 < 128 := by
  obtain ⟨hy, f0, f1, hne, L, S, h0, h1, hR⟩ := hT
  obtain ⟨r1, r2, r3⟩ := hR r hr
  exact ⟨r2, jr_lt (fun i hi => (r3 i hi).2)⟩
theorem px_take_succ {t : List Nat} {j : Nat} (hj : j < t.length) : t.take j ++ [t.getD j 0] = t.take (j + 1) := by
  rw [List.take_succ_eq_append_getElem hj, List.getD_eq_getElem?_getD, List.getElem?_eq_getElem hj]
  rfl
theorem px_ext {t u : List Nat} (hl : t.length = u.length) (h : ∀ i, i < t.length → t.getD i 0 = u.getD i 0) : t = u := by
  refine List.ext_getElem hl (fun i h1 h2 => ?_)
  have := h i h1
  rw [List.getD_eq_getElem?_getD, List.getD_eq_getElem?_getD, List.getElem?_eq_getElem h1, List.getElem?_eq_getElem h2] at this
  exact this
/-- where the first ':' stands; the length if none does -/
def px_col : List Nat → Nat
  | [] => 0
  | c :: r => if c = 58 then 0 else px_col r + 1
theorem px_col_eq : ∀ (t : List Nat) (j : Nat), j ≤ t.length → (∀ i, i < j → ¬ t.getD i 0 = 58) → (j = t.length ∨ t.getD j 0 = 58) → px_col t = j
  | [], j, hj, _, _ => by
    have : j = 0 := by simpa using hj
    subst this
    rfl
  | c :: r, j, hj, hb, he => by
    unfold px_col
    cases j with
    | zero =>
      rcases he with he | he
      · simp at he
      · rw [if_pos (by simpa using he)]
    | succ j =>
      have h0 : ¬ c = 58 := by simpa using hb 0 (by omega)
      rw [if_neg h0, px_col_eq r j (by simpa using hj) (fun i hi => by simpa using hb (i + 1) (by omega)) (by simpa using he)]
theorem px_col_le : ∀ t : List Nat, px_col t ≤ t.length
  | [] => Nat.le_refl _
  | c :: r => by
    unfold px_col
    split
    · exact Nat.zero_le _
    · have := px_col_le r
      simp only [List.length_cons]
      omega
section MS
variable {l : Launch} {D : va_G} {aC : Nat → ClassId} {base : Nat} {h : jjHp}
theorem mo_copy {y a0 a1 f t : Nat} {fs : List Value} {ρ : Nat → List Nat} (hT : jr_T aC h y a0 a1 fs ρ) (hf : f < 34) (ht : t < 34) (hft : f ≠ t) : jj_Ct l D aC base yn_MO_copy yb_MO_copy 4 none 1 0 0 [.ref y, .int (nI f), .int (nI t)] h (fun q h' => q = none ∧ jr_T aC h' y a0 a1 fs (jr_up ρ t (ρ f)) ∧ jj_fr [a0, a1] h h') := by
  obtain ⟨hlen, hch⟩ := jr_T_len hT hf
  refine jj_start (tb := tb_MO_copy) (by decide) tg_MO_copy (Nat.le_of_ble_eq_true rfl) ?_
  intro p e s m args below meth cc C
  have loop : ∀ (k j : Nat) (v : Int32) (h1 : jjHp), v = nI j → j + k = (ρ f).length → jr_T aC h1 y a0 a1 fs (jr_up ρ t ((ρ f).take j)) → jj_fr [a0, a1] h h1 →
      jj_J p l e (jj_rm 1 0 0) s m args below meth cc D base 4 (MQ below (jj_Q D base (fun q h' => q = none ∧ jr_T aC h' y a0 a1 fs (jr_up ρ t (ρ f)) ∧ jj_fr [a0, a1] h h')) args s 0 0 (jj_A base)) 9 [(0, .ref y), (1, .int (nI f)), (2, .int (nI t)), (3, .int v)] [] h1 0 0 := by
    intro k
    induction k with
    | zero =>
      intro j v h1 hv hk hT1 hfr
      have hT1' := hT1
      obtain ⟨hy, f0, f1, hne, L, S, g0, g1, hR⟩ := hT1'
      have r1 := (hR f hf).1
      rw [jr_up_n hft] at r1
      refine jj_go C 2 rfl ?_
      refine jj_getf C rfl fl_MO_13 hy f1 ?_
      refine jj_go C 1 rfl ?_
      refine jj_iald C rfl g1 rfl hf (by decide) ?_
      refine jj_top r1 ?_
      refine jj_if C rfl (fun _ => ?_) (fun hc => absurd (by rw [hv]; exact nI_le (by omega) (by omega)) hc)
      refine jj_vret C rfl rfl (Nat.le_refl _) (Nat.le_refl _) ⟨rfl, ?_, hfr⟩
      rw [show (ρ f).take j = ρ f by rw [List.take_of_length_le (by omega)]] at hT1
      exact hT1
    | succ k ih =>
      intro j v h1 hv hk hT1 hfr
      have hT1' := hT1
      obtain ⟨hy, f0, f1, hne, L, S, g0, g1, hR⟩ := hT1'
      have r1 := (hR f hf).1
      rw [jr_up_n hft] at r1
      have hlt : j < (ρ f).length := by omega
      refine jj_go C 2 rfl ?_
      refine jj_getf C rfl fl_MO_13 hy f1 ?_
      refine jj_go C 1 rfl ?_
      refine jj_iald C rfl g1 rfl hf (by decide) ?_
      refine jj_top r1 ?_
      refine jj_if C rfl (fun hc => absurd hc (by rw [hv]; exact nI_ge hlt (by omega))) (fun _ => ?_)
      refine jj_go C 5 rfl ?_
      refine jj_callV C rfl ml_MO_83 wd_988 hy rfl se_MO_MO_get1 (mo_get1 (x := v) hT1 hf) (rest := [.int (nI t), .ref y]) rfl rfl ⟨Nat.le_refl _, Nat.le_of_ble_eq_true rfl⟩ (Nat.le_refl _) (Nat.le_refl _) (Nat.le_of_ble_eq_true rfl) ?_
      rintro r h' ⟨rfl, rfl⟩
      have hg : jr_g (jr_up ρ t ((ρ f).take j) f) v = (ρ f).getD j 0 := by rw [jr_up_n hft, hv, jr_g_n (by omega)]
      have hrow : jr_up ρ t ((ρ f).take j) t = (ρ f).take j := jr_up_s
      rw [hg]
      refine jj_callV C rfl ml_MO_87 wd_968 hy rfl se_MO_MO_put (mo_put hT1 ht (by rw [hrow, List.length_take]; omega) (hch j)) (rest := []) rfl rfl ⟨Nat.le_refl _, Nat.le_of_ble_eq_true rfl⟩ (Nat.le_refl _) (Nat.le_refl _) (Nat.zero_le _) ?_
      rintro r h2 ⟨rfl, hT2, hfr2⟩
      refine jj_go C 2 rfl ?_
      rw [hrow, px_take_succ hlt, jr_up_up] at hT2
      exact ih (j + 1) (v + 1) h2 (by rw [hv, nI_1]) (by omega) hT2 (hfr.tr hfr2)
  have hT' := hT
  obtain ⟨hy, f0, f1, hne, L, S, g0, g1, hR⟩ := hT'
  have n1 : a1 ≠ y := kx_ne (m := 0) (aC := aC) hy g1
  refine jj_go C 1 rfl ?_
  refine jj_getf C rfl fl_MO_13 hy f1 ?_
  refine jj_go C 2 rfl ?_
  refine jj_iast C rfl g1 rfl ht (by decide) ?_
  refine jj_go C 2 rfl ?_
  refine loop (ρ f).length 0 0 _ nI_0.symm (by omega) ⟨(jj_up_n (Ne.symm n1)).trans hy, f0, f1, hne, L, upd S t 0, (jj_up_n hne).trans g0, jj_up_s, jr_R_clear hR⟩ (jj_fr.rf.up (Or.inl (List.mem_cons_of_mem _ List.mem_cons_self)))
theorem mo_take {y a0 a1 : Nat} {fs : List Value} {ρ : Nat → List Nat} (hT : jr_T aC h y a0 a1 fs ρ) : jj_Ct l D aC base yn_MO_take yb_MO_take 1 none 2 0 0 [.ref y] h (fun q h' => q = none ∧ jr_T aC h' y a0 a1 fs (jr_up (jr_up ρ 31 (ρ 33)) 33 []) ∧ jj_fr [a0, a1] h h') := by
  refine jj_start (tb := tb_MO_take) (by decide) tg_MO_take (Nat.le_of_ble_eq_true rfl) ?_
  intro p e s m args below meth cc C
  refine jj_go C 3 rfl ?_
  refine jj_callV C rfl ml_MO_91 wd_984 hT.1 rfl se_MO_MO_copy (mo_copy (f := 33) (t := 31) hT (by decide) (by decide) (by decide)) (rest := []) rfl rfl ⟨Nat.le_refl _, Nat.le_of_ble_eq_true rfl⟩ (Nat.le_refl _) (Nat.le_refl _) (Nat.zero_le _) ?_
  rintro r h1 ⟨rfl, hT1, hfr⟩
  obtain ⟨hy, f0, f1, hne, L, S, g0, g1, hR⟩ := hT1
  have n1 : a1 ≠ y := kx_ne (m := 0) (aC := aC) hy g1
  refine jj_go C 1 rfl ?_
  refine jj_getf C rfl fl_MO_13 hy f1 ?_
  refine jj_go C 2 rfl ?_
  refine jj_iast C (j := 33) rfl g1 rfl (by decide) (by decide) ?_
  exact jj_vret C rfl rfl (Nat.le_refl _) (Nat.le_refl _) ⟨rfl, ⟨(jj_up_n (Ne.symm n1)).trans hy, f0, f1, hne, L, upd S 33 0, (jj_up_n hne).trans g0, jj_up_s, jr_R_clear hR⟩, hfr.up (Or.inl (List.mem_cons_of_mem _ List.mem_cons_self))⟩
theorem mo_colon {y a0 a1 r : Nat} {fs : List Value} {ρ : Nat → List Nat} (hT : jr_T aC h y a0 a1 fs ρ) (hr : r < 34) : jj_Ct l D aC base yn_MO_colon yb_MO_colon 3 (some .int) 1 0 0 [.ref y, .int (nI r)] h (fun q h' => q = some (.int (nI (px_col (ρ r)))) ∧ h' = h) := by
  obtain ⟨hlen, hch⟩ := jr_T_len hT hr
  refine jj_start (tb := tb_MO_colon) (by decide) tg_MO_colon (Nat.le_of_ble_eq_true rfl) ?_
  intro p e s m args below meth cc C
  have hT' := hT
  obtain ⟨hy, f0, f1, hne, L, S, g0, g1, hR⟩ := hT'
  have r1 := (hR r hr).1
  have loop : ∀ (k j : Nat) (v : Int32), v = nI j → j + k = (ρ r).length → (∀ i, i < j → ¬ (ρ r).getD i 0 = 58) →
      jj_J p l e (jj_rm 1 0 0) s m args below meth cc D base 3 (MQ below (jj_Q D base (fun q h' => q = some (.int (nI (px_col (ρ r)))) ∧ h' = h)) args s 0 0 (jj_A base)) 2 [(0, .ref y), (1, .int (nI r)), (2, .int v)] [] h 0 0 := by
    intro k
    induction k with
    | zero =>
      intro j v hv hk hb
      refine jj_go C 2 rfl ?_
      refine jj_getf C rfl fl_MO_13 hy f1 ?_
      refine jj_go C 1 rfl ?_
      refine jj_iald C rfl g1 rfl hr (by decide) ?_
      refine jj_top r1 ?_
      refine jj_if C rfl (fun _ => ?_) (fun hc => absurd (by rw [hv]; exact nI_le (by omega) (by omega)) hc)
      refine jj_go C 1 rfl ?_
      refine jj_iret C rfl rfl rfl (Nat.le_refl _) (Nat.le_refl _) ⟨?_, rfl⟩
      rw [px_col_eq (ρ r) j (by omega) hb (Or.inl (by omega)), hv]
    | succ k ih =>
      intro j v hv hk hb
      have hlt : j < (ρ r).length := by omega
      refine jj_go C 2 rfl ?_
      refine jj_getf C rfl fl_MO_13 hy f1 ?_
      refine jj_go C 1 rfl ?_
      refine jj_iald C rfl g1 rfl hr (by decide) ?_
      refine jj_top r1 ?_
      refine jj_if C rfl (fun hc => absurd hc (by rw [hv]; exact nI_ge hlt (by omega))) (fun _ => ?_)
      refine jj_go C 3 rfl ?_
      refine jj_callV C rfl ml_MO_83 wd_988 hy rfl se_MO_MO_get1 (mo_get1 (x := v) hT hr) (rest := []) rfl rfl ⟨Nat.le_refl _, Nat.le_of_ble_eq_true rfl⟩ (Nat.le_refl _) (Nat.le_refl _) (Nat.zero_le _) ?_
      rintro q h' ⟨rfl, rfl⟩
      have hg : jr_g (ρ r) v = (ρ r).getD j 0 := by rw [hv, jr_g_n (by omega)]
      rw [hg]
      have hcj := hch j
      refine jj_go C 1 rfl ?_
      refine jj_if C rfl (fun hc => ?_) (fun hc => ?_)
      · have h58 := (nI_eq (a := (ρ r).getD j 0) (b := 58) (by omega) (by decide)).mp hc
        refine jj_go C 1 rfl ?_
        refine jj_iret C rfl rfl rfl (Nat.le_refl _) (Nat.le_refl _) ⟨?_, rfl⟩
        rw [px_col_eq (ρ r) j (by omega) hb (Or.inr h58), hv]
      · refine jj_go C 2 rfl ?_
        exact ih (j + 1) (v + 1) (by rw [hv, nI_1]) (by omega) (lt_s hb (fun z => hc (by rw [z]; rfl)))
  refine jj_go C 2 rfl ?_
  exact loop (ρ r).length 0 0 nI_0.symm (by omega) (fun i hi => absurd hi (Nat.not_lt_zero _))
end MS
end
section
/-! The reference's whole state: texts rho, arrays sg, marks mu, numbers io -/
abbrev rr_fs (ad : Nat → Nat) (io : Nat → Int32) : List Value := [.ref (ad 0), .ref (ad 1), .ref (ad 2), .ref (ad 3), .ref (ad 4), .ref (ad 5), .ref (ad 6), .ref (ad 7), .ref (ad 8), .ref (ad 9), .ref (ad 10), .ref (ad 11), .ref (ad 12), .ref (ad 13), .ref (ad 14), .int (io 15), .int (io 16), .int (io 17), .ref (ad 18), .int (io 19), .ref (ad 20), .ref (ad 21), .int (io 22), .ref (ad 23), .ref (ad 24), .ref (ad 25), .ref (ad 26), .int (io 27), .int (io 28)]
abbrev rr_ks : List Nat := [0, 1, 2, 3, 4, 5, 6, 7, 8, 9, 11, 12, 13, 14, 18, 20, 21, 23, 24, 25, 26]
abbrev rr_all : List Nat := 10 :: rr_ks
def rr_len : Nat → Nat
  | 0 => 2040 | 1 => 34 | 2 => 12 | 3 => 60 | 4 => 60 | 18 => 64 | 20 => 12 | 21 => 26 | 23 => 12 | 24 => 12 | 25 => 12 | 26 => 12
  | _ => 6
/-- which array class: 0 int, 1 boolean, 2 char -/
def rr_ty : Nat → Nat
  | 0 => 2 | 2 => 1 | 4 => 1 | 5 => 1 | 11 => 1 | 12 => 1 | 14 => 1 | 23 => 1 | 24 => 1 | 25 => 1 | 26 => 1
  | _ => 0
def rr_ok (aC : Nat → ClassId) (h : jjHp) (y : Nat) (ad : Nat → Nat) (sg : Nat → Nat → Int32) (mu : Nat → Int64) (io : Nat → Int32) : Prop :=
  h y = some (.inr (9, rr_fs ad io)) ∧ (∀ k, k ∈ rr_ks → h (ad k) = some (.inl (aC (rr_ty k), rr_len k, .inl (sg k)))) ∧ h (ad 10) = some (.inl (aC 3, 6, .inr (.inl mu))) ∧ ∀ j k, j ∈ rr_all → k ∈ rr_all → ad j = ad k → j = k
/-- all its cells -/
def rr_S (y : Nat) (ad : Nat → Nat) : List Nat := y :: rr_all.map ad
theorem rr_S_y {y : Nat} {ad : Nat → Nat} : y ∈ rr_S y ad := List.mem_cons_self
theorem rr_S_k {y k : Nat} {ad : Nat → Nat} (hk : k ∈ rr_all) : ad k ∈ rr_S y ad := List.mem_cons_of_mem _ (List.mem_map_of_mem hk)
section RRO
variable {aC : Nat → ClassId} {h : jjHp} {y : Nat} {ad : Nat → Nat} {sg : Nat → Nat → Int32} {mu : Nat → Int64} {io : Nat → Int32}
theorem rr_ok.ne (hR : rr_ok aC h y ad sg mu io) {k : Nat} (hk : k ∈ rr_all) : ad k ≠ y := by
  obtain ⟨hy, hc, hm, -⟩ := hR
  rcases List.mem_cons.mp hk with rfl | hk
  · exact kx_ne (m := 0) (aC := aC) hy hm
  · exact kx_ne (m := 0) (aC := aC) hy (hc k hk)
/-- an array gets other contents -/
theorem rr_ok.set (hR : rr_ok aC h y ad sg mu io) {k : Nat} (hk : k ∈ rr_ks) (f : Nat → Int32) : rr_ok aC (jj_up h (ad k) (.inl (aC (rr_ty k), rr_len k, .inl f))) y ad (va_up sg k f) mu io := by
  have hka : k ∈ rr_all := List.mem_cons_of_mem _ hk
  have hny := hR.ne hka
  obtain ⟨hy, hc, hm, hi⟩ := hR
  refine ⟨(jj_up_n (Ne.symm hny)).trans hy, fun j hj => ?_, ?_, hi⟩
  · by_cases hjk : j = k
    · subst hjk
      rw [jj_up_s]
      simp [va_up]
    · rw [jj_up_n (fun q => hjk (hi j k (List.mem_cons_of_mem _ hj) hka q)), hc j hj]
      simp [va_up, hjk]
  · rw [jj_up_n (fun q => ?_)]
    · exact hm
    · have := hi 10 k List.mem_cons_self hka q
      subst this
      revert hk
      decide
theorem rr_ok.mark (hR : rr_ok aC h y ad sg mu io) (f : Nat → Int64) : rr_ok aC (jj_up h (ad 10) (.inl (aC 3, 6, .inr (.inl f)))) y ad sg f io := by
  have hny := hR.ne (k := 10) List.mem_cons_self
  obtain ⟨hy, hc, hm, hi⟩ := hR
  refine ⟨(jj_up_n (Ne.symm hny)).trans hy, fun j hj => ?_, jj_up_s, hi⟩
  rw [jj_up_n (fun q => ?_)]
  · exact hc j hj
  · have := hi j 10 (List.mem_cons_of_mem _ hj) List.mem_cons_self q
    subst this
    revert hj
    decide
/-- a number gets another value -/
theorem rr_ok.put (hR : rr_ok aC h y ad sg mu io) {io' : Nat → Int32} {fs : List Value} (hfs : fs = rr_fs ad io') : rr_ok aC (jj_up h y (.inr (9, fs))) y ad sg mu io' := by
  have hn : ∀ k, k ∈ rr_all → ad k ≠ y := fun k hk => hR.ne hk
  obtain ⟨hy, hc, hm, hi⟩ := hR
  subst hfs
  exact ⟨jj_up_s, fun j hj => (jj_up_n (hn j (List.mem_cons_of_mem _ hj))).trans (hc j hj), (jj_up_n (hn 10 List.mem_cons_self)).trans hm, hi⟩
end RRO
/-- the state with its texts -/
def RR (aC : Nat → ClassId) (h : jjHp) (y : Nat) (ad : Nat → Nat) (rh : Nat → List Nat) (sg : Nat → Nat → Int32) (mu : Nat → Int64) (io : Nat → Int32) : Prop := ∃ L S, rr_ok aC h y ad (va_up (va_up sg 0 L) 1 S) mu io ∧ jr_R L S rh
section RRT
variable {aC : Nat → ClassId} {h : jjHp} {y : Nat} {ad : Nat → Nat} {rh : Nat → List Nat} {sg : Nat → Nat → Int32} {mu : Nat → Int64} {io : Nat → Int32}
theorem RR.oy (hR : RR aC h y ad rh sg mu io) : h y = some (.inr (9, rr_fs ad io)) := by
  obtain ⟨L, S, h1, -⟩ := hR
  exact h1.1
/-- an array's cell -/
theorem RR.oc (hR : RR aC h y ad rh sg mu io) {k : Nat} (hk : k ∈ rr_ks) (h0 : k ≠ 0) (h1 : k ≠ 1) : h (ad k) = some (.inl (aC (rr_ty k), rr_len k, .inl (sg k))) := by
  obtain ⟨L, S, hr, -⟩ := hR
  have := hr.2.1 k hk
  simp only [va_up, if_neg h0, if_neg h1] at this
  exact this
theorem RR.om (hR : RR aC h y ad rh sg mu io) : h (ad 10) = some (.inl (aC 3, 6, .inr (.inl mu))) := by
  obtain ⟨L, S, hr, -⟩ := hR
  exact hr.2.2.1
theorem RR.oT (hR : RR aC h y ad rh sg mu io) : jr_T aC h y (ad 0) (ad 1) (rr_fs ad io) rh := by
  obtain ⟨L, S, hr, ht⟩ := hR
  refine ⟨hr.1, rfl, rfl, fun q => ?_, L, S, ?_, ?_, ht⟩
  · have := hr.2.2.2 0 1 (by decide) (by decide) q
    omega
  · have := hr.2.1 0 (by decide)
    simp [va_up] at this
    exact this
  · have := hr.2.1 1 (by decide)
    simp [va_up] at this
    exact this
theorem RR.len (hR : RR aC h y ad rh sg mu io) {r : Nat} (hr : r < 34) : (rh r).length ≤ 60 ∧ ∀ i, (rh r).getD i 0 < 128 := jr_T_len hR.oT hr
/-- behind a change of the texts alone -/
theorem RR.text (hR : RR aC h y ad rh sg mu io) {h' : jjHp} {rh' : Nat → List Nat} (hT : jr_T aC h' y (ad 0) (ad 1) (rr_fs ad io) rh') (hf : jj_fr [ad 0, ad 1] h h') : RR aC h' y ad rh' sg mu io := by
  obtain ⟨L, S, ⟨hy, hc, hm, hi⟩, -⟩ := hR
  obtain ⟨hy', f0, f1, hne, L', S', g0, g1, hR'⟩ := hT
  refine ⟨L', S', ⟨hy', fun k hk => ?_, ?_, hi⟩, hR'⟩
  · by_cases h0 : k = 0
    · subst h0
      rw [g0]
      simp [va_up, rr_ty, rr_len]
    · by_cases h1 : k = 1
      · subst h1
        rw [g1]
        simp [va_up, rr_ty, rr_len]
      · have hk' : k ∈ rr_all := List.mem_cons_of_mem _ hk
        have := hf (ad k) _ (fun q => ?_) (hc k hk)
        · rw [this]
          simp [va_up, h0, h1]
        · rcases List.mem_cons.mp q with q | q
          · exact h0 (hi k 0 hk' (by decide) q)
          · exact h1 (hi k 1 hk' (by decide) (List.mem_singleton.mp q))
  · refine hf (ad 10) _ (fun q => ?_) hm
    rcases List.mem_cons.mp q with q | q
    · have := hi 10 0 (by decide) (by decide) q
      omega
    · have := hi 10 1 (by decide) (by decide) (List.mem_singleton.mp q)
      omega
theorem RR.set (hR : RR aC h y ad rh sg mu io) {k : Nat} (hk : k ∈ rr_ks) (h0 : k ≠ 0) (h1 : k ≠ 1) (f : Nat → Int32) : RR aC (jj_up h (ad k) (.inl (aC (rr_ty k), rr_len k, .inl f))) y ad rh (va_up sg k f) mu io := by
  obtain ⟨L, S, hr, ht⟩ := hR
  refine ⟨L, S, ?_, ht⟩
  have := hr.set hk f
  have e1 : va_up (va_up (va_up sg 0 L) 1 S) k f = va_up (va_up (va_up sg k f) 0 L) 1 S := by
    funext j
    simp only [va_up]
    by_cases q1 : j = k
    · subst q1
      simp [h0, h1]
    · simp [q1]
  rw [e1] at this
  exact this
theorem RR.mark (hR : RR aC h y ad rh sg mu io) (f : Nat → Int64) : RR aC (jj_up h (ad 10) (.inl (aC 3, 6, .inr (.inl f)))) y ad rh sg f io := by
  obtain ⟨L, S, hr, ht⟩ := hR
  exact ⟨L, S, hr.mark f, ht⟩
theorem RR.put (hR : RR aC h y ad rh sg mu io) {io' : Nat → Int32} {fs : List Value} (hfs : fs = rr_fs ad io') : RR aC (jj_up h y (.inr (9, fs))) y ad rh sg mu io' := by
  obtain ⟨L, S, hr, ht⟩ := hR
  exact ⟨L, S, hr.put hfs, ht⟩
theorem rr_fr01 {h h' : jjHp} (hf : jj_fr [ad 0, ad 1] h h') : jj_fr (rr_S y ad) h h' := hf.mono (fun a ha => by
  rcases List.mem_cons.mp ha with rfl | ha
  · exact rr_S_k (by decide)
  · rw [List.mem_singleton.mp ha]
    exact rr_S_k (by decide))
theorem rr_up_same {k : Nat} : va_up sg k (sg k) = sg := by
  funext j
  unfold va_up
  split
  next q => rw [q]
  next => rfl
end RRT
section RRM
variable {l : Launch} {D : va_G} {aC : Nat → ClassId} {base : Nat} {h : jjHp} {y : Nat} {ad : Nat → Nat} {rh : Nat → List Nat} {sg : Nat → Nat → Int32} {mu : Nat → Int64} {io : Nat → Int32}
theorem rr_get1 {r : Nat} {x : Int32} (hR : RR aC h y ad rh sg mu io) (hr : r < 34) : jj_Ct l D aC base yn_MO_get1 yb_MO_get1 3 (some .char) 0 0 0 [.ref y, .int (nI r), .int x] h (fun q h' => q = some (.int (nI (jr_g (rh r) x))) ∧ h' = h) := mo_get1 hR.oT hr
end RRM
end
section
/-! The reference: kinds of letters, same, write -/
section MK
variable {l : Launch} {D : va_G} {aC : Nat → ClassId} {base : Nat} {h : jjHp}
theorem jb_cases (b : Bool) : (b = true ∧ jb_I b = 1) ∨ (b = false ∧ jb_I b = 0) := by
  cases b
  · exact Or.inr ⟨rfl, rfl⟩
  · exact Or.inl ⟨rfl, rfl⟩
theorem nI_lit {c k : Nat} (hc : c < 65536) (hk : k < 65536) : nI c = nI k ↔ c = k := nI_eq (by omega) (by omega)
theorem mo_allowed {c : Nat} {w : Bool} (hc : c < 65536) : jj_Ct l D aC base yn_MO_allowed yb_MO_allowed 2 (some .boolean) 1 0 0 [.int (nI c), .int (jb_I w)] h (fun r h' => r = some (.int (jb_I (pc_al c w))) ∧ h' = h) := by
  refine jj_start (tb := tb_MO_allowed) (by decide) tg_MO_allowed (Nat.le_of_ble_eq_true rfl) ?_
  intro p e s m args below meth cc C
  refine jj_go C 1 rfl ?_
  refine jj_callS C rfl ml_MO_95 wd_1002 (mo_isSmall hc) (rest := []) rfl rfl ⟨Nat.le_refl _, Nat.le_of_ble_eq_true rfl⟩ (Nat.le_refl _) (Nat.le_refl _) (Nat.zero_le _) ?_
  rintro r h' ⟨rfl, rfl⟩
  rcases jb_cases (pc_sm c) with ⟨e1, e2⟩ | ⟨e1, e2⟩
  · rw [e2]
    refine jj_if C rfl (fun z => absurd z (by decide)) (fun _ => ?_)
    refine jj_go C 2 rfl ?_
    exact jj_iret C rfl rfl rfl (Nat.le_refl _) (Nat.le_refl _) ⟨by simp [pc_al, e1, jb_I], rfl⟩
  rw [e2]
  refine jj_if C rfl (fun _ => ?_) (fun z => absurd rfl z)
  refine jj_go C 1 rfl ?_
  refine jj_callS C rfl ml_MO_99 wd_1005 (mo_isDigit hc) (rest := []) rfl rfl ⟨Nat.le_refl _, Nat.le_of_ble_eq_true rfl⟩ (Nat.le_refl _) (Nat.le_refl _) (Nat.zero_le _) ?_
  rintro r h' ⟨rfl, rfl⟩
  rcases jb_cases (pc_dg c) with ⟨d1, d2⟩ | ⟨d1, d2⟩
  · rw [d2]
    refine jj_if C rfl (fun z => absurd z (by decide)) (fun _ => ?_)
    refine jj_go C 2 rfl ?_
    exact jj_iret C rfl rfl rfl (Nat.le_refl _) (Nat.le_refl _) ⟨by simp [pc_al, d1, jb_I], rfl⟩
  rw [d2]
  refine jj_if C rfl (fun _ => ?_) (fun z => absurd rfl z)
  refine jj_go C 1 rfl ?_
  rcases jb_cases w with ⟨rfl, w2⟩ | ⟨rfl, w2⟩
  · refine jj_if C rfl (fun z => absurd (w2.symm.trans z) (by decide)) (fun _ => ?_)
    refine jj_go C 2 rfl ?_
    refine jj_if C rfl (fun z => ?_) (fun z => ?_)
    · have g := (nI_lit (k := 63) hc (by decide)).mp z
      refine jj_go C 2 rfl ?_
      exact jj_iret C rfl rfl rfl (Nat.le_refl _) (Nat.le_refl _) ⟨by simp [pc_al, g, jb_I], rfl⟩
    · have g : ¬ c = 63 := fun q => z ((nI_lit (k := 63) hc (by decide)).mpr q)
      refine jj_go C 2 rfl ?_
      refine jj_if C rfl (fun z2 => ?_) (fun z2 => ?_)
      · have g2 := (nI_lit (k := 42) hc (by decide)).mp z2
        refine jj_go C 2 rfl ?_
        exact jj_iret C rfl rfl rfl (Nat.le_refl _) (Nat.le_refl _) ⟨by simp [pc_al, g2, jb_I], rfl⟩
      · have g2 : ¬ c = 42 := fun q => z2 ((nI_lit (k := 42) hc (by decide)).mpr q)
        refine jj_go C 1 rfl ?_
        exact jj_iret C rfl rfl rfl (Nat.le_refl _) (Nat.le_refl _) ⟨by simp [pc_al, e1, d1, g, g2, jb_I], rfl⟩
  · refine jj_if C rfl (fun _ => ?_) (fun z => absurd w2 z)
    refine jj_go C 1 rfl ?_
    exact jj_iret C rfl rfl rfl (Nat.le_refl _) (Nat.le_refl _) ⟨by simp [pc_al, e1, d1, jb_I], rfl⟩
theorem mo_isPart {c : Nat} (hc : c < 65536) : jj_Ct l D aC base yn_MO_isPart yb_MO_isPart 1 (some .boolean) 0 0 0 [.int (nI c)] h (fun r h' => r = some (.int (jb_I (pc_pt c))) ∧ h' = h) := by
  refine jj_start (tb := tb_MO_isPart) (by decide) tg_MO_isPart (Nat.le_of_ble_eq_true rfl) ?_
  intro p e s m args below meth cc C
  refine jj_go C 1 rfl ?_
  refine jj_if C rfl (fun z => ?_) (fun z => ?_)
  · have g := (nI_lit (k := 0) hc (by decide)).mp z
    refine jj_go C 1 rfl ?_
    exact jj_iret C rfl rfl rfl (Nat.le_refl _) (Nat.le_refl _) ⟨by simp [pc_pt, g, jb_I], rfl⟩
  have g : ¬ c = 0 := fun q => z ((nI_lit (k := 0) hc (by decide)).mpr q)
  refine jj_go C 2 rfl ?_
  refine jj_if C rfl (fun z => ?_) (fun z => ?_)
  · have g := (nI_lit (k := 44) hc (by decide)).mp z
    refine jj_go C 1 rfl ?_
    exact jj_iret C rfl rfl rfl (Nat.le_refl _) (Nat.le_refl _) ⟨by simp [pc_pt, g, jb_I], rfl⟩
  have g2 : ¬ c = 44 := fun q => z ((nI_lit (k := 44) hc (by decide)).mpr q)
  refine jj_go C 2 rfl ?_
  refine jj_if C rfl (fun z => ?_) (fun z => ?_)
  · have g := (nI_lit (k := 58) hc (by decide)).mp z
    refine jj_go C 1 rfl ?_
    exact jj_iret C rfl rfl rfl (Nat.le_refl _) (Nat.le_refl _) ⟨by simp [pc_pt, g, jb_I], rfl⟩
  have g3 : ¬ c = 58 := fun q => z ((nI_lit (k := 58) hc (by decide)).mpr q)
  refine jj_go C 2 rfl ?_
  exact jj_iret C rfl rfl rfl (Nat.le_refl _) (Nat.le_refl _) ⟨by simp [pc_pt, g, g2, g3, jb_I], rfl⟩
theorem mo_same {y a0 a1 r1 r2 : Nat} {fs : List Value} {ρ : Nat → List Nat} (hT : jr_T aC h y a0 a1 fs ρ) (hr1 : r1 < 34) (hr2 : r2 < 34) : jj_Ct l D aC base yn_MO_same yb_MO_same 5 (some .boolean) 1 0 0 [.ref y, .int (nI r1), .int (nI r2)] h (fun q h' => q = some (.int (jb_I (decide (ρ r1 = ρ r2)))) ∧ h' = h) := by
  obtain ⟨hlen1, hch1⟩ := jr_T_len hT hr1
  obtain ⟨hlen2, hch2⟩ := jr_T_len hT hr2
  refine jj_start (tb := tb_MO_same) (by decide) tg_MO_same (Nat.le_of_ble_eq_true rfl) ?_
  intro p e s m args below meth cc C
  have hT' := hT
  obtain ⟨hy, f0, f1, hne, L, S, g0, g1, hR⟩ := hT'
  have s1 := (hR r1 hr1).1
  have s2 := (hR r2 hr2).1
  have loop : ∀ (k j : Nat) (v : Int32) (b : Bool), v = nI j → j + k = (ρ r1).length → (b = true ↔ (ρ r1).length = (ρ r2).length ∧ ∀ i, i < j → (ρ r1).getD i 0 = (ρ r2).getD i 0) →
      jj_J p l e (jj_rm 1 0 0) s m args below meth cc D base 5 (MQ below (jj_Q D base (fun q h' => q = some (.int (jb_I (decide (ρ r1 = ρ r2)))) ∧ h' = h)) args s 0 0 (jj_A base)) 24 [(0, .ref y), (1, .int (nI r1)), (2, .int (nI r2)), (3, .int (jb_I b)), (4, .int v)] [] h 0 0 := by
    intro k
    induction k with
    | zero =>
      intro j v b hv hk hb
      refine jj_go C 2 rfl ?_
      refine jj_getf C rfl fl_MO_13 hy f1 ?_
      refine jj_go C 1 rfl ?_
      refine jj_iald C rfl g1 rfl hr1 (by decide) ?_
      refine jj_top s1 ?_
      refine jj_if C rfl (fun _ => ?_) (fun hc => absurd (by rw [hv]; exact nI_le (by omega) (by omega)) hc)
      have hj : j = (ρ r1).length := by omega
      subst hj
      have hbe : b = decide (ρ r1 = ρ r2) := by
        rw [Bool.eq_iff_iff, hb, decide_eq_true_iff]
        exact ⟨fun z => px_ext z.1 z.2, fun z => ⟨by rw [z], fun i _ => by rw [z]⟩⟩
      refine jj_go C 1 rfl ?_
      rw [← hbe]
      rcases jb_cases b with ⟨rfl, _⟩ | ⟨rfl, _⟩
      · exact jj_iret C rfl rfl rfl (Nat.le_refl _) (Nat.le_refl _) ⟨rfl, rfl⟩
      · exact jj_iret C rfl rfl rfl (Nat.le_refl _) (Nat.le_refl _) ⟨rfl, rfl⟩
    | succ k ih =>
      intro j v b hv hk hb
      have hlt : j < (ρ r1).length := by omega
      refine jj_go C 2 rfl ?_
      refine jj_getf C rfl fl_MO_13 hy f1 ?_
      refine jj_go C 1 rfl ?_
      refine jj_iald C rfl g1 rfl hr1 (by decide) ?_
      refine jj_top s1 ?_
      refine jj_if C rfl (fun hc => absurd hc (by rw [hv]; exact nI_ge hlt (by omega))) (fun _ => ?_)
      refine jj_go C 1 rfl ?_
      rcases jb_cases b with ⟨rfl, hb1⟩ | ⟨rfl, hb1⟩
      · refine jj_if C rfl (fun z => absurd (hb1.symm.trans z) (by decide)) (fun _ => ?_)
        refine jj_go C 3 rfl ?_
        refine jj_callV C rfl ml_MO_83 wd_988 hy rfl se_MO_MO_get1 (mo_get1 (x := v) hT hr1) (rest := []) rfl rfl ⟨Nat.le_refl _, Nat.le_of_ble_eq_true rfl⟩ (Nat.le_refl _) (Nat.le_refl _) (Nat.zero_le _) ?_
        rintro q h' ⟨rfl, rfl⟩
        refine jj_go C 3 rfl ?_
        refine jj_callV C rfl ml_MO_83 wd_988 hy rfl se_MO_MO_get1 (mo_get1 (x := v) hT hr2) (rest := [.int (nI (jr_g (ρ r1) v))]) rfl rfl ⟨Nat.le_refl _, Nat.le_of_ble_eq_true rfl⟩ (Nat.le_refl _) (Nat.le_refl _) (Nat.le_of_ble_eq_true rfl) ?_
        rintro q h' ⟨rfl, rfl⟩
        have e1 : jr_g (ρ r1) v = (ρ r1).getD j 0 := by rw [hv, jr_g_n (by omega)]
        have e2 : jr_g (ρ r2) v = (ρ r2).getD j 0 := by rw [hv, jr_g_n (by omega)]
        rw [e1, e2]
        have c1 := hch1 j
        have c2 := hch2 j
        obtain ⟨hb2, hb3⟩ := hb.mp rfl
        refine jj_if C rfl (fun z => ?_) (fun z => ?_)
        · have g := (nI_eq (by omega) (by omega)).mp z
          refine jj_go C 5 rfl ?_
          exact ih (j + 1) (v + 1) true (by rw [hv, nI_1]) (by omega) ⟨fun _ => ⟨hb2, lt_s hb3 g⟩, fun _ => rfl⟩
        · have g : ¬ (ρ r1).getD j 0 = (ρ r2).getD j 0 := fun q => z (by rw [q])
          refine jj_go C 4 rfl ?_
          exact ih (j + 1) (v + 1) false (by rw [hv, nI_1]) (by omega) ⟨(fun q => by cases q), fun q => absurd (q.2 j (by omega)) g⟩
      · refine jj_if C rfl (fun _ => ?_) (fun z => absurd hb1 z)
        refine jj_go C 4 rfl ?_
        exact ih (j + 1) (v + 1) false (by rw [hv, nI_1]) (by omega) ⟨(fun q => by cases q), fun q => hb.mpr ⟨q.1, fun i hi => q.2 i (by omega)⟩⟩
  refine jj_go C 1 rfl ?_
  refine jj_getf C rfl fl_MO_13 hy f1 ?_
  refine jj_go C 1 rfl ?_
  refine jj_iald C rfl g1 rfl hr1 (by decide) ?_
  refine jj_top s1 ?_
  refine jj_go C 1 rfl ?_
  refine jj_getf C rfl fl_MO_13 hy f1 ?_
  refine jj_go C 1 rfl ?_
  refine jj_iald C rfl g1 rfl hr2 (by decide) ?_
  refine jj_top s2 ?_
  refine jj_if C rfl (fun z => ?_) (fun z => ?_)
  · have g := (nI_eq (by omega) (by omega)).mp z
    refine jj_go C 5 rfl ?_
    exact loop (ρ r1).length 0 0 true nI_0.symm (by omega) ⟨fun _ => ⟨g, fun i hi => absurd hi (Nat.not_lt_zero _)⟩, fun _ => rfl⟩
  · have g : ¬ (ρ r1).length = (ρ r2).length := fun q => z (by rw [q])
    refine jj_go C 4 rfl ?_
    exact loop (ρ r1).length 0 0 false nI_0.symm (by omega) ⟨(fun q => by cases q), fun q => absurd q.1 g⟩
/-- write: what it answers, and the text behind it -/
def px_write (t : List Nat) (c : Nat) : Bool := Nat.ble 32 c && (Nat.ble c 126 && !(t.length == 60))
theorem mo_write {y a0 a1 c : Nat} {fs : List Value} {ρ : Nat → List Nat} (hT : jr_T aC h y a0 a1 fs ρ) (hc : c < 65536) : jj_Ct l D aC base yn_MO_write yb_MO_write 2 (some .boolean) 1 0 0 [.ref y, .int (nI c)] h (fun q h' => q = some (.int (jb_I (px_write (ρ 33) c))) ∧ jr_T aC h' y a0 a1 fs (if px_write (ρ 33) c then jr_up ρ 33 (ρ 33 ++ [c]) else ρ) ∧ jj_fr [a0, a1] h h') := by
  obtain ⟨hlen, hch⟩ := jr_T_len hT (r := 33) (by decide)
  refine jj_start (tb := tb_MO_write) (by decide) tg_MO_write (Nat.le_of_ble_eq_true rfl) ?_
  intro p e s m args below meth cc C
  have hT' := hT
  obtain ⟨hy, f0, f1, hne, L, S, g0, g1, hR⟩ := hT'
  have s1 := (hR 33 (by decide)).1
  have no : px_write (ρ 33) c = false → jj_J p l e (jj_rm 1 0 0) s m args below meth cc D base 2 (MQ below (jj_Q D base (fun q h' => q = some (.int (jb_I (px_write (ρ 33) c))) ∧ jr_T aC h' y a0 a1 fs (if px_write (ρ 33) c then jr_up ρ 33 (ρ 33 ++ [c]) else ρ) ∧ jj_fr [a0, a1] h h')) args s 0 0 (jj_A base)) 24 [(0, .ref y), (1, .int (nI c))] [] h 0 0 := by
    intro hw
    refine jj_go C 1 rfl ?_
    exact jj_iret C rfl rfl rfl (Nat.le_refl _) (Nat.le_refl _) ⟨by rw [hw]; rfl, by rw [hw]; exact hT, jj_fr.rf⟩
  refine jj_go C 2 rfl ?_
  refine jj_if C rfl (fun z => ?_) (fun z => ?_)
  · have g := (nI_ltI (a := c) (b := 32) (by omega) (by decide)).mp z
    refine no ?_
    have : Nat.ble 32 c = false := by rw [Bool.eq_false_iff, Ne, Nat.ble_eq]; omega
    simp [px_write, this]
  have g : ¬ c < 32 := fun q => z ((nI_ltI (a := c) (b := 32) (by omega) (by decide)).mpr q)
  refine jj_go C 2 rfl ?_
  refine jj_if C rfl (fun z => ?_) (fun z => ?_)
  · have g2 := (nI_ltI (a := 126) (b := c) (by decide) (by omega)).mp z
    refine no ?_
    have : Nat.ble c 126 = false := by rw [Bool.eq_false_iff, Ne, Nat.ble_eq]; omega
    simp [px_write, this]
  have g2 : ¬ 126 < c := fun q => z ((nI_ltI (a := 126) (b := c) (by decide) (by omega)).mpr q)
  refine jj_go C 1 rfl ?_
  refine jj_getf C rfl fl_MO_13 hy f1 ?_
  refine jj_go C 1 rfl ?_
  refine jj_iald C (j := 33) rfl g1 rfl (by decide) (by decide) ?_
  refine jj_top s1 ?_
  refine jj_go C 1 rfl ?_
  refine jj_if C rfl (fun z => ?_) (fun z => ?_)
  · have g3 := (nI_eq (a := (ρ 33).length) (b := 60) (by omega) (by decide)).mp z
    refine no ?_
    simp [px_write, g3]
  have g3 : ¬ (ρ 33).length = 60 := fun q => z (by rw [q]; rfl)
  have hw : px_write (ρ 33) c = true := by
    have e1 : Nat.ble 32 c = true := Nat.ble_eq.mpr (by omega)
    have e2 : Nat.ble c 126 = true := Nat.ble_eq.mpr (by omega)
    simp [px_write, e1, e2, g3]
  refine jj_go C 3 rfl ?_
  refine jj_callV C rfl ml_MO_87 wd_968 hy rfl se_MO_MO_put (mo_put (r := 33) hT (by decide) (by omega) (by omega)) (rest := []) rfl rfl ⟨Nat.le_refl _, Nat.le_of_ble_eq_true rfl⟩ (Nat.le_refl _) (Nat.le_refl _) (Nat.zero_le _) ?_
  rintro q h1 ⟨rfl, hT1, hfr⟩
  refine jj_go C 1 rfl ?_
  exact jj_iret C rfl rfl rfl (Nat.le_refl _) (Nat.le_refl _) ⟨by rw [hw]; rfl, by rw [if_pos hw]; exact hT1, hfr⟩
end MK
end
section
/-! Pure: rows of letters, lists of properties -/
def px_end (t : List Nat) (w : Bool) : Nat → Nat → Nat
  | 0, q => q
  | n + 1, q => if q < t.length ∧ pc_al (t.getD q 0) w = true then px_end t w n (q + 1) else q
/-- where the row from q ends -/
def px_re (t : List Nat) (w : Bool) (q : Nat) : Nat := px_end t w t.length q
theorem px_end_le {t : List Nat} {w : Bool} : ∀ (n q : Nat), q ≤ px_end t w n q
  | 0, q => Nat.le_refl _
  | n + 1, q => by
    unfold px_end
    split
    · exact Nat.le_trans (Nat.le_succ q) (px_end_le n (q + 1))
    · exact Nat.le_refl _
theorem px_end_max {t : List Nat} {w : Bool} : ∀ (n q : Nat), px_end t w n q ≤ max q t.length
  | 0, q => Nat.le_max_left _ _
  | n + 1, q => by
    unfold px_end
    split
    next h => 
      have := px_end_max (t := t) (w := w) n (q + 1)
      omega
    next => exact Nat.le_max_left _ _
/-- with fuel enough the fuel doesn't count -/
theorem px_end_fuel {t : List Nat} {w : Bool} : ∀ (n m q : Nat), t.length ≤ q + n → t.length ≤ q + m → px_end t w n q = px_end t w m q
  | 0, 0, q, _, _ => rfl
  | 0, m + 1, q, h1, _ => by
    unfold px_end
    rw [if_neg (by omega)]
  | n + 1, 0, q, _, h2 => by
    unfold px_end
    rw [if_neg (by omega)]
  | n + 1, m + 1, q, h1, h2 => by
    unfold px_end
    split
    · exact px_end_fuel n m (q + 1) (by omega) (by omega)
    · rfl
/-- a list of properties, from p on, with those that were read: is it one, what it holds, does it end in * -/
def px_ls (t : List Nat) (w : Bool) : Nat → Nat → (Nat → Option Nat) → Bool × (Nat → Option Nat) × Bool
  | 0, _, P => (false, P, false)
  | n + 1, p, P =>
    if w = true ∧ p + 1 = t.length ∧ t.getD p 0 = 42 then (true, P, true)
    else if pc_sm (t.getD p 0) = true ∧ t.getD (p + 1) 0 = 61 then
      if (P (t.getD p 0 - 97)).isSome = true then (false, P, false)
      else if px_re t w (p + 2) < p + 3 ∨ p + 6 < px_re t w (p + 2) then (false, va_up P (t.getD p 0 - 97) (some p), false)
      else if px_re t w (p + 2) = t.length then (true, va_up P (t.getD p 0 - 97) (some p), false)
      else if t.getD (px_re t w (p + 2)) 0 = 44 then px_ls t w n (px_re t w (p + 2) + 1) (va_up P (t.getD p 0 - 97) (some p))
      else (false, va_up P (t.getD p 0 - 97) (some p), false)
    else (false, P, false)
/-- numbers for places: -1 where there is none -/
def px_w (W : Nat → Int32) (P : Nat → Option Nat) : Prop := ∀ k, k < 26 → (P k = none ∧ W k = -1) ∨ ∃ p, P k = some p ∧ p ≤ 60 ∧ W k = nI p
theorem px_w_up {W : Nat → Int32} {P : Nat → Option Nat} {c p : Nat} (h : px_w W P) (hp : p ≤ 60) : px_w (upd W c (nI p)) (va_up P c (some p)) := by
  intro k hk
  by_cases hkc : k = c
  · subst hkc
    exact Or.inr ⟨p, by simp [va_up], hp, by simp [upd]⟩
  · simp only [va_up, upd, if_neg hkc]
    exact h k hk
theorem px_getD_ge {t : List Nat} {i : Nat} (h : t.length ≤ i) : t.getD i 0 = 0 := by
  rw [List.getD_eq_getElem?_getD, List.getElem?_eq_none h]
  rfl
end
section
/-! The reference: list, reads -/
section ML
variable {l : Launch} {D : va_G} {aC : Nat → ClassId} {base : Nat} {h : jjHp} {y : Nat} {ad : Nat → Nat} {rh : Nat → List Nat} {sg : Nat → Nat → Int32} {mu : Nat → Int64} {io : Nat → Int32}
set_option maxHeartbeats 4000000 in
theorem rr_list {r p0 : Nat} {w : Bool} (hR : RR aC h y ad rh sg mu io) (hr : r < 34) (hp0 : p0 ≤ 61) : jj_Ct l D aC base yn_MO_list yb_MO_list 9 (some .boolean) 2 0 0 [.ref y, .int (nI r), .int (nI p0), .int (jb_I w)] h (fun q h' => ∃ W, q = some (.int (jb_I (px_ls (rh r) w 60 p0 (fun _ => none)).1)) ∧ px_w W (px_ls (rh r) w 60 p0 (fun _ => none)).2.1 ∧ RR aC h' y ad rh (va_up sg 21 W) mu (upd io 22 (jb_I (px_ls (rh r) w 60 p0 (fun _ => none)).2.2)) ∧ jj_fr (rr_S y ad) h h') := by
  obtain ⟨hlen, hch⟩ := hR.len hr
  generalize hG : px_ls (rh r) w 60 p0 (fun _ => none) = G
  refine jj_start (tb := tb_MO_list) (by decide) tg_MO_list (Nat.le_of_ble_eq_true rfl) ?_
  intro p e s m args below meth cc C
  -- the end, with the answer b
  have fin : ∀ (h1 : jjHp) (W : Nat → Int32) (pc : Nat) (lc : jjLoc) (b : Int32), jj_look tb_MO_list pc = some (.ireturn, pc + 1, 0, 0) → b = jb_I G.1 → px_w W G.2.1 → RR aC h1 y ad rh (va_up sg 21 W) mu (upd io 22 (jb_I G.2.2)) → jj_fr (rr_S y ad) h h1 →
      jj_J p l e (jj_rm 2 0 0) s m args below meth cc D base 9 (MQ below (jj_Q D base (fun q h' => ∃ W, q = some (.int (jb_I G.1)) ∧ px_w W G.2.1 ∧ RR aC h' y ad rh (va_up sg 21 W) mu (upd io 22 (jb_I G.2.2)) ∧ jj_fr (rr_S y ad) h h')) args s 0 0 (jj_A base)) pc lc [.int b] h1 0 0 := by
    intro h1 W pc lc b hl hb hw hR1 hf
    subst hb
    refine jj_iret C hl rfl ?_ (Nat.le_refl _) (Nat.le_refl _) ⟨W, rfl, hw, hR1, hf⟩
    cases G.1 <;> rfl
  -- the rounds
  have main : ∀ (n pp : Nat) (P : Nat → Option Nat) (W : Nat → Int32) (h1 : jjHp) (v5 v6 : Int32), v5 = nI pp → n ≤ 60 → v6 = nI (60 - n) → pp ≤ 61 → px_w W P → px_ls (rh r) w n pp P = G → RR aC h1 y ad rh (va_up sg 21 W) mu (upd io 22 0) → jj_fr (rr_S y ad) h h1 →
      jj_J p l e (jj_rm 2 0 0) s m args below meth cc D base 9 (MQ below (jj_Q D base (fun q h' => ∃ W, q = some (.int (jb_I G.1)) ∧ px_w W G.2.1 ∧ RR aC h' y ad rh (va_up sg 21 W) mu (upd io 22 (jb_I G.2.2)) ∧ jj_fr (rr_S y ad) h h')) args s 0 0 (jj_A base)) 43 [(0, .ref y), (1, .int (nI r)), (2, .int (nI p0)), (3, .int (jb_I w)), (4, .int (nI (rh r).length)), (5, .int v5), (6, .int v6)] [] h1 0 0 := by
    intro n
    induction n with
    | zero =>
      intro pp P W h1 v5 v6 hv5 hn hv6 hpp hw he hR1 hf
      have he : (false, P, false) = G := he
      subst he
      refine jj_go C 2 rfl ?_
      refine jj_if C rfl (fun _ => ?_) (fun z => absurd (by rw [hv6]; decide) z)
      refine jj_go C 1 rfl ?_
      exact fin h1 W _ _ _ rfl rfl hw hR1 hf
    | succ n ih =>
      intro pp P W h1 v5 v6 hv5 hn hv6 hpp hw he hR1 hf
      have hy1 := hR1.oy
      refine jj_go C 2 rfl ?_
      refine jj_if C rfl (fun z => absurd z (by rw [hv6]; exact nI_ge (b := 60) (by omega) (by decide))) (fun _ => ?_)
      -- from 82 on: a property
      have prop : ¬ (w = true ∧ pp + 1 = (rh r).length ∧ (rh r).getD pp 0 = 42) → jj_J p l e (jj_rm 2 0 0) s m args below meth cc D base 9 (MQ below (jj_Q D base (fun q h' => ∃ W, q = some (.int (jb_I G.1)) ∧ px_w W G.2.1 ∧ RR aC h' y ad rh (va_up sg 21 W) mu (upd io 22 (jb_I G.2.2)) ∧ jj_fr (rr_S y ad) h h')) args s 0 0 (jj_A base)) 82 [(0, .ref y), (1, .int (nI r)), (2, .int (nI p0)), (3, .int (jb_I w)), (4, .int (nI (rh r).length)), (5, .int v5), (6, .int v6)] [] h1 0 0 := by
        intro hstar
        unfold px_ls at he
        rw [if_neg hstar] at he
        have eg : jr_g (rh r) v5 = (rh r).getD pp 0 := by rw [hv5, jr_g_n (by omega)]
        have hcp := hch pp
        refine jj_go C 3 rfl ?_
        refine jj_callV C rfl ml_MO_83 wd_988 hy1 rfl se_MO_MO_get1 (rr_get1 (x := v5) hR1 hr) (rest := []) rfl rfl ⟨Nat.le_of_ble_eq_true rfl, Nat.le_of_ble_eq_true rfl⟩ (Nat.le_refl _) (Nat.le_refl _) (Nat.zero_le _) ?_
        rintro q h9 ⟨rfl, hh9⟩
        rw [hh9]
        rw [eg]
        refine jj_go C 2 rfl ?_
        refine jj_callS C rfl ml_MO_95 wd_1002 (mo_isSmall (c := (rh r).getD pp 0) (by omega)) (rest := []) rfl rfl ⟨Nat.le_of_ble_eq_true rfl, Nat.le_of_ble_eq_true rfl⟩ (Nat.le_refl _) (Nat.le_refl _) (Nat.zero_le _) ?_
        rintro q h9 ⟨rfl, hh9⟩
        rw [hh9]
        rcases jb_cases (pc_sm ((rh r).getD pp 0)) with ⟨e1, e2⟩ | ⟨e1, e2⟩
        · rw [e2]
          refine jj_if C rfl (fun z => absurd z (by decide)) (fun _ => ?_)
          have eg1 : jr_g (rh r) (v5 + 1) = (rh r).getD (pp + 1) 0 := by rw [hv5, nI_1, jr_g_n (by omega)]
          have hcp1 := hch (pp + 1)
          refine jj_go C 5 rfl ?_
          refine jj_callV C rfl ml_MO_83 wd_988 hy1 rfl se_MO_MO_get1 (rr_get1 (x := v5 + 1) hR1 hr) (rest := []) rfl rfl ⟨Nat.le_of_ble_eq_true rfl, Nat.le_of_ble_eq_true rfl⟩ (Nat.le_refl _) (Nat.le_refl _) (Nat.zero_le _) ?_
          rintro q h9 ⟨rfl, hh9⟩
          rw [hh9]
          rw [eg1]
          refine jj_go C 1 rfl ?_
          refine jj_if C rfl (fun z => ?_) (fun z => ?_)
          · have g61 := (nI_eq (b := 61) (by omega) (by decide)).mp z
            rw [if_pos ⟨e1, g61⟩] at he
            obtain ⟨k1, k2⟩ := pc_sm_i.mp e1
            have hplen : pp + 1 < (rh r).length := by
              by_cases hq : pp + 1 < (rh r).length
              · exact hq
              · rw [px_getD_ge (by omega)] at g61
                cases g61
            have hkey : nI ((rh r).getD pp 0) - 97 = nI ((rh r).getD pp 0 - 97) := pk_sub (b := 97) k1
            have hcell := hR1.oc (k := 21) (by decide) (by decide) (by decide)
            refine jj_go C 1 rfl ?_
            refine jj_getf C rfl fl_MO_68 hy1 rfl ?_
            refine jj_go C 3 rfl ?_
            refine jj_top hkey ?_
            refine jj_iald C (n := 26) (f := W) rfl hcell rfl (by omega) (by decide) ?_
            rcases hw ((rh r).getD pp 0 - 97) (by omega) with ⟨w1, w2⟩ | ⟨pq, w1, w3, w2⟩
            · rw [w2]
              rw [if_neg (by rw [w1]; decide)] at he
              refine jj_if C rfl (fun _ => ?_) (fun z => absurd (by decide) z)
              refine jj_go C 1 rfl ?_
              refine jj_getf C rfl fl_MO_68 hy1 rfl ?_
              refine jj_go C 3 rfl ?_
              refine jj_top hkey ?_
              refine jj_go C 1 rfl ?_
              refine jj_iast C (n := 26) (f := W) rfl hcell rfl (by omega) (by decide) ?_
              have hR2 := hR1.set (k := 21) (by decide) (by decide) (by decide) (upd W ((rh r).getD pp 0 - 97) v5)
              rw [bx_uu] at hR2
              have hf2 := hf.up (a := ad 21) (x := .inl (aC (rr_ty 21), rr_len 21, .inl (upd W ((rh r).getD pp 0 - 97) v5))) (Or.inl (rr_S_k (by decide)))
              have hw2 : px_w (upd W ((rh r).getD pp 0 - 97) v5) (va_up P ((rh r).getD pp 0 - 97) (some pp)) := by rw [hv5]; exact px_w_up hw (by omega)
              generalize hh2 : (jj_up h1 (ad 21) (.inl (aC (rr_ty 21), rr_len 21, .inl (upd W ((rh r).getD pp 0 - 97) v5)))) = h2 at hR2 hf2
              refine jj_eq (h' := h2) rfl rfl rfl hh2 ?_
              generalize upd W ((rh r).getD pp 0 - 97) v5 = W2 at hR2 hw2
              generalize va_up P ((rh r).getD pp 0 - 97) (some pp) = P2 at he hw2
              have hy2 := hR2.oy
              -- behind the row
              have tail : ∀ v8 : Int32, v8 = nI (px_re (rh r) w (pp + 2)) → jj_J p l e (jj_rm 2 0 0) s m args below meth cc D base 9 (MQ below (jj_Q D base (fun q h' => ∃ W, q = some (.int (jb_I G.1)) ∧ px_w W G.2.1 ∧ RR aC h' y ad rh (va_up sg 21 W) mu (upd io 22 (jb_I G.2.2)) ∧ jj_fr (rr_S y ad) h h')) args s 0 0 (jj_A base)) 175 [(0, .ref y), (1, .int (nI r)), (2, .int (nI p0)), (3, .int (jb_I w)), (4, .int (nI (rh r).length)), (5, .int v5), (6, .int v6), (7, .int (nI ((rh r).getD pp 0))), (8, .int v8)] [] h2 0 0 := by
                intro v8 hv8
                have hre : px_re (rh r) w (pp + 2) ≤ max (pp + 2) (rh r).length := px_end_max _ _
                generalize hE : px_re (rh r) w (pp + 2) = E at he hv8 hre
                subst hv8
                refine jj_go C 4 rfl ?_
                refine jj_top (show v5 + 3 = nI (pp + 3) by rw [hv5]; exact nI_add pp 3) ?_
                refine jj_if C rfl (fun z => ?_) (fun z => ?_)
                · have g := (nI_ltI (a := E) (b := pp + 3) (by omega) (by omega)).mp z
                  rw [if_pos (Or.inl g)] at he
                  subst he
                  refine jj_go C 1 rfl ?_
                  exact fin h2 W2 _ _ _ rfl rfl hw2 hR2 hf2
                · have g : ¬ E < pp + 3 := fun q => z ((nI_ltI (a := E) (b := pp + 3) (by omega) (by omega)).mpr q)
                  refine jj_go C 4 rfl ?_
                  refine jj_top (show v5 + 6 = nI (pp + 6) by rw [hv5]; exact nI_add pp 6) ?_
                  refine jj_if C rfl (fun z => ?_) (fun z => ?_)
                  · have g6 := (nI_leI (a := E) (b := pp + 6) (by omega) (by omega)).mp z
                    rw [if_neg (by omega)] at he
                    refine jj_go C 2 rfl ?_
                    refine jj_if C rfl (fun z => ?_) (fun z => ?_)
                    · have gl := (nI_eq (a := E) (b := (rh r).length) (by omega) (by omega)).mp z
                      rw [if_pos gl] at he
                      subst he
                      refine jj_go C 1 rfl ?_
                      exact fin h2 W2 _ _ _ rfl rfl hw2 hR2 hf2
                    · have gl : ¬ E = (rh r).length := fun q => z (by rw [q])
                      rw [if_neg gl] at he
                      have egE : jr_g (rh r) (nI E) = (rh r).getD E 0 := jr_g_n (by omega)
                      have hcE := hch E
                      refine jj_go C 3 rfl ?_
                      refine jj_callV C rfl ml_MO_83 wd_988 hy2 rfl se_MO_MO_get1 (rr_get1 (x := nI E) hR2 hr) (rest := []) rfl rfl ⟨Nat.le_of_ble_eq_true rfl, Nat.le_of_ble_eq_true rfl⟩ (Nat.le_refl _) (Nat.le_refl _) (Nat.zero_le _) ?_
                      rintro q h9 ⟨rfl, hh9⟩
                      rw [hh9]
                      rw [egE]
                      refine jj_go C 1 rfl ?_
                      refine jj_if C rfl (fun z => ?_) (fun z => ?_)
                      · have g44 := (nI_eq (b := 44) (by omega) (by decide)).mp z
                        rw [if_pos g44] at he
                        refine jj_go C 6 rfl ?_
                        refine jj_less (lc' := [(0, .ref y), (1, .int (nI r)), (2, .int (nI p0)), (3, .int (jb_I w)), (4, .int (nI (rh r).length)), (5, .int (nI E + 1)), (6, .int (v6 + 1))]) (fun q hq => List.mem_append_left [_, _] hq) (Nat.le_refl _) (Nat.le_refl _) ?_
                        exact ih (E + 1) P2 W2 h2 _ _ (nI_1 E) (by omega) (by rw [hv6, nI_1]; congr 1; omega) (by omega) hw2 he hR2 hf2
                      · have g44 : ¬ (rh r).getD E 0 = 44 := fun q => z (by rw [q]; rfl)
                        rw [if_neg g44] at he
                        subst he
                        refine jj_go C 1 rfl ?_
                        exact fin h2 W2 _ _ _ rfl rfl hw2 hR2 hf2
                  · have g6 : ¬ E ≤ pp + 6 := fun q => z ((nI_leI (a := E) (b := pp + 6) (by omega) (by omega)).mpr q)
                    rw [if_pos (Or.inr (by omega))] at he
                    subst he
                    refine jj_go C 1 rfl ?_
                    exact fin h2 W2 _ _ _ rfl rfl hw2 hR2 hf2
              -- the row
              have row : ∀ (k q : Nat) (v8 : Int32), v8 = nI q → (rh r).length ≤ q + k → q ≤ 63 → px_end (rh r) w k q = px_re (rh r) w (pp + 2) → jj_J p l e (jj_rm 2 0 0) s m args below meth cc D base 9 (MQ below (jj_Q D base (fun q h' => ∃ W, q = some (.int (jb_I G.1)) ∧ px_w W G.2.1 ∧ RR aC h' y ad rh (va_up sg 21 W) mu (upd io 22 (jb_I G.2.2)) ∧ jj_fr (rr_S y ad) h h')) args s 0 0 (jj_A base)) 148 [(0, .ref y), (1, .int (nI r)), (2, .int (nI p0)), (3, .int (jb_I w)), (4, .int (nI (rh r).length)), (5, .int v5), (6, .int v6), (7, .int (nI ((rh r).getD pp 0))), (8, .int v8)] [] h2 0 0 := by
                intro k
                induction k with
                | zero =>
                  intro q v8 hv8 hk hq hE
                  refine jj_go C 2 rfl ?_
                  refine jj_if C rfl (fun _ => tail v8 (by rw [hv8, ← hE]; rfl)) (fun z => absurd (by rw [hv8]; exact nI_le (by omega) (by omega)) z)
                | succ k ihk =>
                  intro q v8 hv8 hk hq hE
                  refine jj_go C 2 rfl ?_
                  refine jj_if C rfl (fun z => ?_) (fun z => ?_)
                  · rw [hv8] at z
                    have gq := (nI_leI (a := (rh r).length) (b := q) (by omega) (by omega)).mp z
                    refine tail v8 ?_
                    rw [hv8, ← hE]
                    unfold px_end
                    rw [if_neg (by omega)]
                  · rw [hv8] at z
                    have gq : q < (rh r).length := Nat.not_le.mp (fun q9 => z (nI_le q9 (by omega)))
                    have egq : jr_g (rh r) v8 = (rh r).getD q 0 := by rw [hv8, jr_g_n (by omega)]
                    have hcq := hch q
                    refine jj_go C 3 rfl ?_
                    refine jj_callV C rfl ml_MO_83 wd_988 hy2 rfl se_MO_MO_get1 (rr_get1 (x := v8) hR2 hr) (rest := []) rfl rfl ⟨Nat.le_of_ble_eq_true rfl, Nat.le_of_ble_eq_true rfl⟩ (Nat.le_refl _) (Nat.le_refl _) (Nat.zero_le _) ?_
                    rintro q9 h9 ⟨rfl, hh9⟩
                    rw [hh9]
                    rw [egq]
                    refine jj_go C 1 rfl ?_
                    refine jj_callS C rfl ml_MO_106 wd_999 (mo_allowed (c := (rh r).getD q 0) (w := w) (by omega)) (rest := []) rfl rfl ⟨Nat.le_refl _, Nat.le_of_ble_eq_true rfl⟩ (Nat.le_refl _) (Nat.le_refl _) (Nat.zero_le _) ?_
                    rintro q9 h9 ⟨rfl, hh9⟩
                    rw [hh9]
                    rcases jb_cases (pc_al ((rh r).getD q 0) w) with ⟨e3, e4⟩ | ⟨e3, e4⟩
                    · rw [e4]
                      refine jj_if C rfl (fun z => absurd z (by decide)) (fun _ => ?_)
                      refine jj_go C 2 rfl ?_
                      refine ihk (q + 1) (v8 + 1) (by rw [hv8, nI_1]) (by omega) (by omega) ?_
                      rw [← hE]
                      conv => rhs; unfold px_end
                      rw [if_pos ⟨gq, e3⟩]
                    · rw [e4]
                      refine jj_if C rfl (fun _ => ?_) (fun z => absurd rfl z)
                      refine tail v8 ?_
                      rw [hv8, ← hE]
                      unfold px_end
                      rw [if_neg (by rw [e3]; exact fun q9 => by cases q9.2)]
              refine jj_go C 4 rfl ?_
              exact row (rh r).length (pp + 2) (v5 + 2) (by rw [hv5]; exact nI_add pp 2) (by omega) (by omega) rfl
            · rw [w2]
              rw [if_pos (by rw [w1]; rfl)] at he
              subst he
              refine jj_if C rfl (fun z => absurd z (nI_pos (by omega))) (fun _ => ?_)
              refine jj_go C 1 rfl ?_
              exact fin h1 W _ _ _ rfl rfl hw hR1 hf
          · have g61 : ¬ (rh r).getD (pp + 1) 0 = 61 := fun q => z (by rw [q]; rfl)
            rw [if_neg (fun q => g61 q.2)] at he
            subst he
            refine jj_go C 1 rfl ?_
            exact fin h1 W _ _ _ rfl rfl hw hR1 hf
        · rw [e2]
          rw [if_neg (fun q => by rw [e1] at q; cases q.1)] at he
          subst he
          refine jj_if C rfl (fun _ => ?_) (fun z => absurd rfl z)
          refine jj_go C 1 rfl ?_
          exact fin h1 W _ _ _ rfl rfl hw hR1 hf
      refine jj_go C 1 rfl ?_
      rcases jb_cases w with ⟨rfl, w2⟩ | ⟨rfl, w2⟩
      · refine jj_if C rfl (fun z => absurd (w2.symm.trans z) (by decide)) (fun _ => ?_)
        refine jj_go C 4 rfl ?_
        by_cases hz : (rh r).length = 0
        · refine jj_if C rfl (fun z => ?_) (fun _ => prop (fun q => by omega))
          rw [hv5, hz] at z
          have := congrArg Int32.toInt z
          rw [nI_toInt (by omega)] at this
          have h9 : (nI 0 - 1 : Int32).toInt = -1 := by decide
          rw [h9] at this
          omega
        refine jj_top (show nI (rh r).length - 1 = nI ((rh r).length - 1) from pk_sub (b := 1) (by omega)) ?_
        refine jj_if C rfl (fun z => ?_) (fun z => prop (fun q => z (by rw [hv5]; congr 1; omega)))
        rw [hv5] at z
        have gp := (nI_eq (a := pp) (b := (rh r).length - 1) (by omega) (by omega)).mp z
        have eg : jr_g (rh r) v5 = (rh r).getD pp 0 := by rw [hv5, jr_g_n (by omega)]
        have hcp := hch pp
        refine jj_go C 3 rfl ?_
        refine jj_callV C rfl ml_MO_83 wd_988 hy1 rfl se_MO_MO_get1 (rr_get1 (x := v5) hR1 hr) (rest := []) rfl rfl ⟨Nat.le_of_ble_eq_true rfl, Nat.le_of_ble_eq_true rfl⟩ (Nat.le_refl _) (Nat.le_refl _) (Nat.zero_le _) ?_
        rintro q h9 ⟨rfl, hh9⟩
        rw [hh9]
        rw [eg]
        refine jj_go C 1 rfl ?_
        refine jj_if C rfl (fun z => ?_) (fun z => prop (fun q => z (by rw [q.2.2]; rfl)))
        have g42 := (nI_eq (b := 42) (by omega) (by decide)).mp z
        unfold px_ls at he
        rw [if_pos ⟨rfl, by omega, g42⟩] at he
        subst he
        refine jj_go C 2 rfl ?_
        refine jj_putf C rfl fl_MO_102 hy1 rfl rfl (Nat.le_of_ble_eq_true rfl) ?_
        refine jj_go C 1 rfl ?_
        refine fin _ W _ _ _ rfl rfl hw (hR1.put rfl) (hf.up (Or.inl rr_S_y))
      · exact jj_if C rfl (fun _ => prop (fun q => by cases q.1)) (fun z => absurd w2 z)
  -- the start: where is -1 all over
  have start : ∀ (k j : Nat) (v : Int32) (W : Nat → Int32) (h1 : jjHp), v = nI j → j + k = 26 → (∀ i, i < j → W i = -1) → RR aC h1 y ad rh (va_up sg 21 W) mu io → jj_fr (rr_S y ad) h h1 →
      jj_J p l e (jj_rm 2 0 0) s m args below meth cc D base 9 (MQ below (jj_Q D base (fun q h' => ∃ W, q = some (.int (jb_I G.1)) ∧ px_w W G.2.1 ∧ RR aC h' y ad rh (va_up sg 21 W) mu (upd io 22 (jb_I G.2.2)) ∧ jj_fr (rr_S y ad) h h')) args s 0 0 (jj_A base)) 3 [(0, .ref y), (1, .int (nI r)), (2, .int (nI p0)), (3, .int (jb_I w)), (4, .int v)] [] h1 0 0 := by
    intro k
    induction k with
    | zero =>
      intro j v W h1 hv hk hw hR1 hf
      have hj : j = 26 := by omega
      subst hj
      have hy1 := hR1.oy
      refine jj_go C 2 rfl ?_
      refine jj_if C rfl (fun _ => ?_) (fun z => absurd (by rw [hv]; decide) z)
      refine jj_go C 2 rfl ?_
      refine jj_putf C rfl fl_MO_102 hy1 rfl rfl (Nat.le_of_ble_eq_true rfl) ?_
      have hR2 : RR aC (jj_up h1 y (.inr (9, (rr_fs ad io).set 22 (.int 0)))) y ad rh (va_up sg 21 W) mu (upd io 22 0) := hR1.put rfl
      have hf2 := hf.up (a := y) (x := .inr (9, (rr_fs ad io).set 22 (.int 0))) (Or.inl rr_S_y)
      generalize (jj_up h1 y (.inr (9, (rr_fs ad io).set 22 (.int 0)))) = h2 at hR2 hf2 ⊢
      obtain ⟨hy2, f0, f1, hne, L, S, g0, g1, hRR⟩ := hR2.oT
      refine jj_go C 1 rfl ?_
      refine jj_getf C rfl fl_MO_13 hy2 f1 ?_
      refine jj_go C 1 rfl ?_
      refine jj_iald C rfl g1 rfl hr (by decide) ?_
      refine jj_top (hRR r hr).1 ?_
      refine jj_go C 5 rfl ?_
      exact main 60 p0 (fun _ => none) W h2 _ _ rfl (Nat.le_refl _) rfl hp0 (fun i hi => Or.inl ⟨rfl, hw i hi⟩) hG hR2 hf2
    | succ k ih =>
      intro j v W h1 hv hk hw hR1 hf
      have hy1 := hR1.oy
      have hcell := hR1.oc (k := 21) (by decide) (by decide) (by decide)
      refine jj_go C 2 rfl ?_
      refine jj_if C rfl (fun z => absurd z (by rw [hv]; exact nI_ge (b := 26) (by omega) (by decide))) (fun _ => ?_)
      refine jj_go C 1 rfl ?_
      refine jj_getf C rfl fl_MO_68 hy1 rfl ?_
      refine jj_go C 2 rfl ?_
      refine jj_iast C (n := 26) (f := W) (j := j) rfl hcell hv (by omega) (by decide) ?_
      refine jj_go C 2 rfl ?_
      have hR2 := hR1.set (k := 21) (by decide) (by decide) (by decide) (upd W j (-1))
      rw [bx_uu] at hR2
      exact ih (j + 1) (v + 1) (upd W j (-1)) _ (by rw [hv, nI_1]) (by omega) (fun i hi => by
        by_cases hij : i = j
        · simp [upd, hij]
        · simp only [upd, if_neg hij]
          exact hw i (by omega)) hR2 (hf.up (Or.inl (rr_S_k (by decide))))
  refine jj_go C 2 rfl ?_
  refine start 26 0 0 (sg 21) h nI_0.symm (by omega) (fun i hi => absurd hi (Nat.not_lt_zero _)) ?_ jj_fr.rf
  rw [rr_up_same]
  exact hR
end ML
end
section
/-! The class's Pattern: rows, properties, lists -/
section PT1
variable {l : Launch} {D : va_G} {aC : Nat → ClassId} {base : Nat} {h : jjHp}
theorem kt_ST_length {a b : Nat} {t : List Nat} (hs : kx_ST aC h a b t) : jj_Ct l D aC base yn_ST_length yb_ST_length 1 (some .int) 1 0 0 [.ref a] h (fun r h' => r = some (.int (nI t.length)) ∧ h' = h) := by
  obtain ⟨hs1, hz, f, ho, hv, -⟩ := hs
  exact kx_ST_length ho hv
theorem kt_ST_charAt {a b i : Nat} {t : List Nat} (hs : kx_ST aC h a b t) (hi : i < t.length) (hl : t.length < 65536) : jj_Ct l D aC base yn_ST_charAt yb_ST_charAt 2 (some .char) 3 0 0 [.ref a, .int (nI i)] h (fun r h' => r = some (.int (nI (t.getD i 0))) ∧ h' = h) := by
  obtain ⟨hs1, hz, f, ho, hv, htx⟩ := hs
  obtain ⟨g1, g2⟩ := htx i hi
  exact kx_ST_charAt ho hv hi (by omega) g1 g2
theorem kx_ST.lt {a b : Nat} {t : List Nat} (hs : kx_ST aC h a b t) (i : Nat) : t.getD i 0 < 128 := by
  obtain ⟨hs1, hz, f, ho, hv, htx⟩ := hs
  exact jr_lt (fun i hi => (htx i hi).2) i
theorem kx_ST.recv {a b : Nat} {t : List Nat} (hs : kx_ST aC h a b t) : ∃ fs, h a = some (.inr (10, fs)) := by
  obtain ⟨hs1, hz, f, ho, -⟩ := hs
  exact ⟨_, ho⟩
theorem kx_ST.keep {a b : Nat} {t : List Nat} {S : List Nat} {h' : jjHp} (hs : kx_ST aC h a b t) (hf : jj_fr S h h') (ha : a ∉ S) (hb : b ∉ S) : kx_ST aC h' a b t := by
  obtain ⟨hs1, hz, f, ho, hv, htx⟩ := hs
  exact ⟨hs1, hz, f, hf a _ ha ho, hf b _ hb hv, htx⟩
theorem pt_isRow {c : Nat} (hc : c < 65536) : jj_Ct l D aC base yn_PT_isRowCharacter yb_PT_isRowCharacter 1 (some .boolean) 0 0 0 [.int (nI c)] h (fun r h' => r = some (.int (jb_I (pc_al c true))) ∧ h' = h) := by
  refine jj_start (tb := tb_PT_isRowCharacter) (by decide) tg_PT_isRowCharacter (Nat.le_of_ble_eq_true rfl) ?_
  intro p e s m args below meth cc C
  have yes : pc_al c true = true → jj_J p l e (jj_rm 0 0 0) s m args below meth cc D base 1 (MQ below (jj_Q D base (fun r h' => r = some (.int (jb_I (pc_al c true))) ∧ h' = h)) args s 0 0 (jj_A base)) 36 [(0, .int (nI c))] [] h 0 0 := by
    intro hy
    refine jj_go C 2 rfl ?_
    exact jj_iret C rfl rfl rfl (Nat.le_refl _) (Nat.le_refl _) ⟨by rw [hy]; rfl, rfl⟩
  have third : ¬ pc_sm c = true → ¬ pc_dg c = true → jj_J p l e (jj_rm 0 0 0) s m args below meth cc D base 1 (MQ below (jj_Q D base (fun r h' => r = some (.int (jb_I (pc_al c true))) ∧ h' = h)) args s 0 0 (jj_A base)) 24 [(0, .int (nI c))] [] h 0 0 := by
    intro h1 h2
    refine jj_go C 2 rfl ?_
    refine jj_if C rfl (fun z => ?_) (fun z => ?_)
    · have g := (nI_lit (k := 63) hc (by decide)).mp z
      exact yes (by simp [pc_al, g])
    · have g : ¬ c = 63 := fun q => z ((nI_lit (k := 63) hc (by decide)).mpr q)
      refine jj_go C 2 rfl ?_
      refine jj_if C rfl (fun z => ?_) (fun z => ?_)
      · have g2 := (nI_lit (k := 42) hc (by decide)).mp z
        exact yes (by simp [pc_al, g2])
      · have g2 : ¬ c = 42 := fun q => z ((nI_lit (k := 42) hc (by decide)).mpr q)
        refine jj_go C 1 rfl ?_
        exact jj_iret C rfl rfl rfl (Nat.le_refl _) (Nat.le_refl _) ⟨by simp [pc_al, h1, h2, g, g2, jb_I], rfl⟩
  have second : ¬ pc_sm c = true → jj_J p l e (jj_rm 0 0 0) s m args below meth cc D base 1 (MQ below (jj_Q D base (fun r h' => r = some (.int (jb_I (pc_al c true))) ∧ h' = h)) args s 0 0 (jj_A base)) 12 [(0, .int (nI c))] [] h 0 0 := by
    intro h1
    refine jj_go C 2 rfl ?_
    refine jj_if C rfl (fun z => ?_) (fun z => ?_)
    · have g := (nI_ltI (a := c) (b := 48) (by omega) (by decide)).mp z
      exact third h1 (fun q => by have := pc_dg_i.mp q; omega)
    · have g : ¬ c < 48 := fun q => z ((nI_ltI (a := c) (b := 48) (by omega) (by decide)).mpr q)
      refine jj_go C 2 rfl ?_
      refine jj_if C rfl (fun z => ?_) (fun z => ?_)
      · have g2 := (nI_leI (a := c) (b := 57) (by omega) (by decide)).mp z
        exact yes (by simp [pc_al, pc_dg_i.mpr ⟨by omega, g2⟩])
      · have g2 : ¬ c ≤ 57 := fun q => z ((nI_leI (a := c) (b := 57) (by omega) (by decide)).mpr q)
        exact third h1 (fun q => by have := pc_dg_i.mp q; omega)
  refine jj_go C 2 rfl ?_
  refine jj_if C rfl (fun z => ?_) (fun z => ?_)
  · have g := (nI_ltI (a := c) (b := 97) (by omega) (by decide)).mp z
    exact second (fun q => by have := pc_sm_i.mp q; omega)
  · have g : ¬ c < 97 := fun q => z ((nI_ltI (a := c) (b := 97) (by omega) (by decide)).mpr q)
    refine jj_go C 2 rfl ?_
    refine jj_if C rfl (fun z => ?_) (fun z => ?_)
    · have g2 := (nI_leI (a := c) (b := 122) (by omega) (by decide)).mp z
      exact yes (by simp [pc_al, pc_sm_i.mpr ⟨by omega, g2⟩])
    · have g2 : ¬ c ≤ 122 := fun q => z ((nI_leI (a := c) (b := 122) (by omega) (by decide)).mpr q)
      exact second (fun q => by have := pc_sm_i.mp q; omega)
end PT1
/-- a Pattern in the reading: its text, where the values start and end -/
def pt_at (aC : Nat → ClassId) (h : jjHp) (pt tx txb st en : Nat) (t : List Nat) (Sf Ef : Nat → Int32) (dm op : Int32) (fm : Value) : Prop :=
  h pt = some (.inr (3, [.ref tx, .ref st, .ref en, .int dm, .int op, fm])) ∧ kx_ST aC h tx txb t ∧ h st = some (.inl (aC 0, 26, .inl Sf)) ∧ h en = some (.inl (aC 0, 26, .inl Ef)) ∧ st ≠ en ∧ st ≠ txb ∧ en ≠ txb ∧ t.length ≤ 60
def px_s (t : List Nat) (Sf Ef : Nat → Int32) (P : Nat → Option Nat) : Prop := ∀ k, k < 26 → (P k = none ∧ Sf k = 0) ∨ ∃ p, P k = some p ∧ p ≤ 60 ∧ Sf k = nI (p + 2) ∧ Ef k = nI (px_re t true (p + 2))
theorem px_s_up {t : List Nat} {Sf Ef : Nat → Int32} {P : Nat → Option Nat} {c p : Nat} (h : px_s t Sf Ef P) (hp : p ≤ 60) : px_s t (upd Sf c (nI (p + 2))) (upd Ef c (nI (px_re t true (p + 2)))) (va_up P c (some p)) := by
  intro k hk
  by_cases hkc : k = c
  · subst hkc
    exact Or.inr ⟨p, by simp [va_up], hp, by simp [upd], by simp [upd]⟩
  · simp only [va_up, upd, if_neg hkc]
    exact h k hk
/-- a property pattern at p: where it ends -/
def pk_pr (t : List Nat) (P : Nat → Option Nat) (p : Nat) : Option Nat :=
  if pc_sm (t.getD p 0) = true ∧ t.getD (p + 1) 0 = 61 then
    if (P (t.getD p 0 - 97)).isSome = true then none
    else if px_re t true (p + 2) < p + 3 ∨ p + 6 < px_re t true (p + 2) then none
    else some (px_re t true (p + 2))
  else none
section PT2
variable {l : Launch} {D : va_G} {aC : Nat → ClassId} {base : Nat} {h : jjHp} {pt tx txb st en : Nat} {t : List Nat} {Sf Ef : Nat → Int32} {dm op : Int32} {fm : Value}
theorem pt_rowEnd {q : Nat} (hp : pt_at aC h pt tx txb st en t Sf Ef dm op fm) (hq : q ≤ 70) : jj_Ct l D aC base yn_PT_rowEnd yb_PT_rowEnd 3 (some .int) 4 0 0 [.ref pt, .int (nI q)] h (fun r h' => r = some (.int (nI (px_re t true q))) ∧ h' = h) := by
  obtain ⟨ho, hs, hst, hen, n1, n2, n3, hlen⟩ := hp
  obtain ⟨fs, hrc⟩ := hs.recv
  refine jj_start (tb := tb_PT_rowEnd) (by decide) tg_PT_rowEnd (Nat.le_of_ble_eq_true rfl) ?_
  intro p e s m args below meth cc C
  have loop : ∀ (k i : Nat) (v : Int32), v = nI i → t.length ≤ i + k → i ≤ 131 → px_end t true k i = px_re t true q →
      jj_J p l e (jj_rm 4 0 0) s m args below meth cc D base 3 (MQ below (jj_Q D base (fun r h' => r = some (.int (nI (px_re t true q))) ∧ h' = h)) args s 0 0 (jj_A base)) 2 [(0, .ref pt), (1, .int (nI q)), (2, .int v)] [] h 0 0 := by
    intro k
    induction k with
    | zero =>
      intro i v hv hk hi hE
      refine jj_go C 2 rfl ?_
      refine jj_getf C rfl fl_PT_32 ho rfl ?_
      refine jj_callV C rfl ml_PT_39 wd_364 hrc rfl se_ST_ST_length (kt_ST_length hs) (rest := [.int v]) rfl rfl ⟨Nat.le_of_ble_eq_true rfl, Nat.le_of_ble_eq_true rfl⟩ (Nat.le_refl _) (Nat.le_refl _) (Nat.le_of_ble_eq_true rfl) ?_
      rintro q9 h9 ⟨rfl, hh9⟩
      rw [hh9]
      refine jj_if C rfl (fun _ => ?_) (fun z => absurd (by rw [hv]; exact nI_le (by omega) (by omega)) z)
      refine jj_go C 1 rfl ?_
      exact jj_iret C rfl rfl rfl (Nat.le_refl _) (Nat.le_refl _) ⟨by rw [hv, ← hE]; rfl, rfl⟩
    | succ k ih =>
      intro i v hv hk hi hE
      refine jj_go C 2 rfl ?_
      refine jj_getf C rfl fl_PT_32 ho rfl ?_
      refine jj_callV C rfl ml_PT_39 wd_364 hrc rfl se_ST_ST_length (kt_ST_length hs) (rest := [.int v]) rfl rfl ⟨Nat.le_of_ble_eq_true rfl, Nat.le_of_ble_eq_true rfl⟩ (Nat.le_refl _) (Nat.le_refl _) (Nat.le_of_ble_eq_true rfl) ?_
      rintro q9 h9 ⟨rfl, hh9⟩
      rw [hh9]
      refine jj_if C rfl (fun z => ?_) (fun z => ?_)
      · rw [hv] at z
        have g := (nI_leI (a := t.length) (b := i) (by omega) (by omega)).mp z
        refine jj_go C 1 rfl ?_
        refine jj_iret C rfl rfl rfl (Nat.le_refl _) (Nat.le_refl _) ⟨?_, rfl⟩
        rw [hv, ← hE]
        unfold px_end
        rw [if_neg (by omega)]
      · rw [hv] at z
        have g : i < t.length := Nat.not_le.mp (fun q9 => z (nI_le q9 (by omega)))
        have hci := hs.lt i
        refine jj_go C 1 rfl ?_
        refine jj_getf C rfl fl_PT_32 ho rfl ?_
        refine jj_go C 1 rfl ?_
        refine jj_callV C rfl ml_PT_45 wd_372 hrc rfl se_ST_ST_charAt (As := [.int v]) (by rw [hv]; exact kt_ST_charAt hs g (by omega)) (rest := []) rfl rfl ⟨Nat.le_of_ble_eq_true rfl, Nat.le_of_ble_eq_true rfl⟩ (Nat.le_refl _) (Nat.le_refl _) (Nat.zero_le _) ?_
        rintro q9 h9 ⟨rfl, hh9⟩
        rw [hh9]
        refine jj_callS C rfl ml_PT_64 wd_387 (pt_isRow (c := t.getD i 0) (by omega)) (rest := []) rfl rfl ⟨Nat.le_of_ble_eq_true rfl, Nat.le_of_ble_eq_true rfl⟩ (Nat.le_refl _) (Nat.le_refl _) (Nat.zero_le _) ?_
        rintro q9 h9 ⟨rfl, hh9⟩
        rw [hh9]
        rcases jb_cases (pc_al (t.getD i 0) true) with ⟨e3, e4⟩ | ⟨e3, e4⟩
        · rw [e4]
          refine jj_if C rfl (fun z => absurd z (by decide)) (fun _ => ?_)
          refine jj_go C 2 rfl ?_
          refine ih (i + 1) (v + 1) (by rw [hv, nI_1]) (by omega) (by omega) ?_
          rw [← hE]
          conv => rhs; unfold px_end
          rw [if_pos ⟨g, e3⟩]
        · rw [e4]
          refine jj_if C rfl (fun _ => ?_) (fun z => absurd rfl z)
          refine jj_go C 1 rfl ?_
          refine jj_iret C rfl rfl rfl (Nat.le_refl _) (Nat.le_refl _) ⟨?_, rfl⟩
          rw [hv, ← hE]
          unfold px_end
          rw [if_neg (by rw [e3]; exact fun q9 => by cases q9.2)]
  refine jj_go C 2 rfl ?_
  exact loop t.length q _ rfl (by omega) (by omega) rfl
theorem pt_parseProperty {q : Nat} {P : Nat → Option Nat} (hp : pt_at aC h pt tx txb st en t Sf Ef dm op fm) (hq : q < t.length) (hP : px_s t Sf Ef P) : jj_Ct l D aC base yn_PT_parseProperty yb_PT_parseProperty 5 (some .int) 5 0 0 [.ref pt, .int (nI q)] h (fun r h' => (∃ E, pk_pr t P q = some E ∧ r = some (.int (nI E)) ∧ ∃ Sf' Ef', pt_at aC h' pt tx txb st en t Sf' Ef' dm op fm ∧ px_s t Sf' Ef' (va_up P (t.getD q 0 - 97) (some q)) ∧ jj_fr [st, en] h h') ∨ (pk_pr t P q = none ∧ r = some (.int (-1)) ∧ h' = h)) := by
  have hp0 := hp
  obtain ⟨ho, hs, hst, hen, n1, n2, n3, hlen⟩ := hp
  obtain ⟨fs, hrc⟩ := hs.recv
  refine jj_start (tb := tb_PT_parseProperty) (by decide) tg_PT_parseProperty (Nat.le_of_ble_eq_true rfl) ?_
  intro p e s m args below meth cc C
  have hcq := hs.lt q
  have hcq1 := hs.lt (q + 1)
  have bad : ∀ (pc : Nat) (lc : jjLoc), jj_look tb_PT_parseProperty pc = some (.ireturn, pc + 1, 0, 0) → pk_pr t P q = none → jj_J p l e (jj_rm 5 0 0) s m args below meth cc D base 5 (MQ below (jj_Q D base (fun r h' => (∃ E, pk_pr t P q = some E ∧ r = some (.int (nI E)) ∧ ∃ Sf' Ef', pt_at aC h' pt tx txb st en t Sf' Ef' dm op fm ∧ px_s t Sf' Ef' (va_up P (t.getD q 0 - 97) (some q)) ∧ jj_fr [st, en] h h') ∨ (pk_pr t P q = none ∧ r = some (.int (-1)) ∧ h' = h))) args s 0 0 (jj_A base)) pc lc [.int (-1)] h 0 0 :=
    fun pc lc hl hn => jj_iret C hl rfl rfl (Nat.le_refl _) (Nat.le_refl _) (Or.inr ⟨hn, rfl, rfl⟩)
  refine jj_go C 3 rfl ?_
  refine jj_top (show nI q + 2 = nI (q + 2) from nI_add q 2) ?_
  refine jj_go C 3 rfl ?_
  refine jj_getf C rfl fl_PT_32 ho rfl ?_
  refine jj_callV C rfl ml_PT_39 wd_364 hrc rfl se_ST_ST_length (kt_ST_length hs) (rest := [.int (nI (q + 2))]) rfl rfl ⟨Nat.le_of_ble_eq_true rfl, Nat.le_of_ble_eq_true rfl⟩ (Nat.le_refl _) (Nat.le_refl _) (Nat.le_of_ble_eq_true rfl) ?_
  rintro q9 h9 ⟨rfl, hh9⟩
  rw [hh9]
  have hre1 : q + 2 ≤ px_re t true (q + 2) := px_end_le _ _
  have hre2 : px_re t true (q + 2) ≤ max (q + 2) t.length := px_end_max _ _
  refine jj_if C rfl (fun z => ?_) (fun z => ?_)
  · have g := (nI_leI (a := t.length) (b := q + 2) (by omega) (by omega)).mp z
    refine jj_go C 1 rfl ?_
    refine bad _ _ rfl ?_
    unfold pk_pr
    split
    · split
      · rfl
      · rw [if_pos (Or.inl (by omega))]
    · rfl
  have g : q + 2 < t.length := Nat.not_le.mp (fun q9 => z (nI_le q9 (by omega)))
  refine jj_go C 1 rfl ?_
  refine jj_getf C rfl fl_PT_32 ho rfl ?_
  refine jj_go C 3 rfl ?_
  refine jj_top (nI_1 q) ?_
  refine jj_callV C rfl ml_PT_45 wd_372 hrc rfl se_ST_ST_charAt (kt_ST_charAt hs (i := q + 1) (by omega) (by omega)) (rest := []) rfl rfl ⟨Nat.le_of_ble_eq_true rfl, Nat.le_of_ble_eq_true rfl⟩ (Nat.le_refl _) (Nat.le_refl _) (Nat.zero_le _) ?_
  rintro q9 h9 ⟨rfl, hh9⟩
  rw [hh9]
  refine jj_go C 1 rfl ?_
  refine jj_if C rfl (fun z => ?_) (fun z => ?_)
  rotate_left
  · have g61 : ¬ t.getD (q + 1) 0 = 61 := fun q9 => z (by rw [q9]; rfl)
    refine jj_go C 1 rfl ?_
    refine bad _ _ rfl ?_
    unfold pk_pr
    rw [if_neg (fun q9 => g61 q9.2)]
  have g61 := (nI_eq (b := 61) (by omega) (by decide)).mp z
  refine jj_go C 1 rfl ?_
  refine jj_getf C rfl fl_PT_32 ho rfl ?_
  refine jj_go C 1 rfl ?_
  refine jj_callV C rfl ml_PT_45 wd_372 hrc rfl se_ST_ST_charAt (kt_ST_charAt hs (i := q) (by omega) (by omega)) (rest := []) rfl rfl ⟨Nat.le_of_ble_eq_true rfl, Nat.le_of_ble_eq_true rfl⟩ (Nat.le_refl _) (Nat.le_refl _) (Nat.zero_le _) ?_
  rintro q9 h9 ⟨rfl, hh9⟩
  rw [hh9]
  refine jj_go C 4 rfl ?_
  by_cases hlo : t.getD q 0 < 97
  · refine jj_if C rfl (fun _ => ?_) (fun z => absurd (show nI (t.getD q 0) - nI 97 < 0 from pk_sneg (by decide) hlo) z)
    refine jj_go C 1 rfl ?_
    refine bad _ _ rfl ?_
    unfold pk_pr
    rw [if_neg (fun q9 => by have := pc_sm_i.mp q9.1; omega)]
  have hkey : nI (t.getD q 0) - 97 = nI (t.getD q 0 - 97) := pk_sub (b := 97) (by omega)
  rw [hkey]
  refine jj_if C rfl (fun z => absurd z (nI_pos (by omega))) (fun _ => ?_)
  refine jj_go C 2 rfl ?_
  refine jj_if C rfl (fun z => ?_) (fun z => ?_)
  · have g2 := (nI_leI (a := 26) (b := t.getD q 0 - 97) (by decide) (by omega)).mp z
    refine jj_go C 1 rfl ?_
    refine bad _ _ rfl ?_
    unfold pk_pr
    rw [if_neg (fun q9 => by have := pc_sm_i.mp q9.1; omega)]
  have hk26 : t.getD q 0 - 97 < 26 := Nat.not_le.mp (fun q9 => z (nI_le q9 (by omega)))
  have hsm : pc_sm (t.getD q 0) = true := pc_sm_i.mpr ⟨by omega, by omega⟩
  refine jj_go C 1 rfl ?_
  refine jj_getf C rfl fl_PT_9 ho rfl ?_
  refine jj_go C 1 rfl ?_
  refine jj_iald C rfl hst rfl hk26 (by decide) ?_
  rcases hP (t.getD q 0 - 97) hk26 with ⟨w1, w2⟩ | ⟨pq, w1, w3, w2, w4⟩
  rotate_left
  · rw [w2]
    refine jj_if C rfl (fun z => absurd z (nI_ne0 (by omega) (by omega))) (fun _ => ?_)
    refine jj_go C 1 rfl ?_
    refine bad _ _ rfl ?_
    unfold pk_pr
    rw [if_pos ⟨hsm, g61⟩, if_pos (by rw [w1]; rfl)]
  rw [w2]
  refine jj_if C rfl (fun _ => ?_) (fun z => absurd rfl z)
  refine jj_go C 2 rfl ?_
  refine jj_callV C rfl ml_PT_35 wd_361 ho rfl se_PT_PT_rowEnd (pt_rowEnd (q := q + 2) hp0 (by omega)) (rest := []) rfl rfl ⟨Nat.le_refl _, Nat.le_of_ble_eq_true rfl⟩ (Nat.le_refl _) (Nat.le_refl _) (Nat.zero_le _) ?_
  rintro q9 h9 ⟨rfl, hh9⟩
  rw [hh9]
  refine jj_go C 3 rfl ?_
  refine jj_if C rfl (fun z => ?_) (fun z => ?_)
  · have g2 := (nI_eq (a := px_re t true (q + 2)) (b := q + 2) (by omega) (by omega)).mp z
    refine jj_go C 1 rfl ?_
    refine bad _ _ rfl ?_
    unfold pk_pr
    rw [if_pos ⟨hsm, g61⟩, if_neg (by rw [w1]; decide), if_pos (Or.inl (by omega))]
  have g2 : ¬ px_re t true (q + 2) = q + 2 := fun q9 => z (by rw [q9])
  refine jj_go C 4 rfl ?_
  refine jj_top (show nI (q + 2) + 4 = nI (q + 6) from nI_add (q + 2) 4) ?_
  refine jj_if C rfl (fun z => ?_) (fun z => ?_)
  rotate_left
  · have g3 : ¬ px_re t true (q + 2) ≤ q + 6 := fun q9 => z (nI_le q9 (by omega))
    refine jj_go C 1 rfl ?_
    refine bad _ _ rfl ?_
    unfold pk_pr
    rw [if_pos ⟨hsm, g61⟩, if_neg (by rw [w1]; decide), if_pos (Or.inr (by omega))]
  have g3 := (nI_leI (a := px_re t true (q + 2)) (b := q + 6) (by omega) (by omega)).mp z
  have hsome : pk_pr t P q = some (px_re t true (q + 2)) := by
    unfold pk_pr
    rw [if_pos ⟨hsm, g61⟩, if_neg (by rw [w1]; decide), if_neg (by omega)]
  have np1 : pt ≠ st := Ne.symm (kx_ne (m := 0) (aC := aC) ho hst)
  have np2 : pt ≠ en := Ne.symm (kx_ne (m := 0) (aC := aC) ho hen)
  refine jj_go C 1 rfl ?_
  refine jj_getf C rfl fl_PT_9 ho rfl ?_
  refine jj_go C 2 rfl ?_
  refine jj_iast C rfl hst rfl hk26 (by decide) ?_
  refine jj_go C 1 rfl ?_
  refine jj_getf C rfl fl_PT_15 ((jj_up_n np1).trans ho) rfl ?_
  refine jj_go C 2 rfl ?_
  refine jj_iast C rfl ((jj_up_n (Ne.symm n1)).trans hen) rfl hk26 (by decide) ?_
  refine jj_go C 1 rfl ?_
  have hfr : jj_fr [st, en] h (jj_up (jj_up h st (.inl (aC 0, 26, .inl (upd Sf (t.getD q 0 - 97) (nI (q + 2)))))) en (.inl (aC 0, 26, .inl (upd Ef (t.getD q 0 - 97) (nI (px_re t true (q + 2))))))) := (jj_fr.rf.up (Or.inl List.mem_cons_self)).up (Or.inl (List.mem_cons_of_mem _ List.mem_cons_self))
  refine jj_iret C rfl rfl rfl (Nat.le_refl _) (Nat.le_refl _) (Or.inl ⟨_, hsome, rfl, _, _, ⟨?_, hs.keep hfr ?_ ?_, ?_, jj_up_s, n1, n2, n3, hlen⟩, px_s_up hP (by omega), hfr⟩)
  · rw [jj_up_n np2, jj_up_n np1]
    exact ho
  · intro q9
    rcases List.mem_cons.mp q9 with q9 | q9
    · rw [q9, hst] at hrc
      cases hrc
    · rw [List.mem_singleton.mp q9, hen] at hrc
      cases hrc
  · intro q9
    rcases List.mem_cons.mp q9 with q9 | q9
    · exact n2 q9.symm
    · exact n3 (List.mem_singleton.mp q9).symm
  · rw [jj_up_n n1]
    exact jj_up_s
end PT2
end
section
/-! The class's Pattern: parseList against the same px_ls -/
theorem px_ls_pr {t : List Nat} {n p : Nat} {P : Nat → Option Nat} (hs : ¬ (p + 1 = t.length ∧ t.getD p 0 = 42)) : px_ls t true (n + 1) p P = match pk_pr t P p with
    | none => (false, (px_ls t true (n + 1) p P).2.1, false)
    | some E => if E = t.length then (true, va_up P (t.getD p 0 - 97) (some p), false) else if t.getD E 0 = 44 then px_ls t true n (E + 1) (va_up P (t.getD p 0 - 97) (some p)) else (false, va_up P (t.getD p 0 - 97) (some p), false) := by
  conv => lhs; unfold px_ls
  rw [if_neg (fun q => hs q.2)]
  unfold pk_pr
  by_cases h1 : pc_sm (t.getD p 0) = true ∧ t.getD (p + 1) 0 = 61
  · rw [if_pos h1, if_pos h1]
    by_cases h2 : (P (t.getD p 0 - 97)).isSome = true
    · rw [if_pos h2, if_pos h2]
      unfold px_ls
      rw [if_neg (fun q => hs q.2), if_pos h1, if_pos h2]
    · rw [if_neg h2, if_neg h2]
      by_cases h3 : px_re t true (p + 2) < p + 3 ∨ p + 6 < px_re t true (p + 2)
      · rw [if_pos h3, if_pos h3]
        unfold px_ls
        rw [if_neg (fun q => hs q.2), if_pos h1, if_neg h2, if_pos h3]
      · rw [if_neg h3, if_neg h3]
  · rw [if_neg h1, if_neg h1]
    unfold px_ls
    rw [if_neg (fun q => hs q.2), if_neg h1]
theorem px_ls_far {t : List Nat} {n p : Nat} {P : Nat → Option Nat} (hp : t.length ≤ p) : (px_ls t true n p P).1 = false := by
  cases n with
  | zero => rfl
  | succ n =>
    unfold px_ls
    rw [if_neg (fun q => by omega), if_neg (fun q => by rw [px_getD_ge hp] at q; have := pc_sm_i.mp q.1; omega)]
section PT3
variable {l : Launch} {D : va_G} {aC : Nat → ClassId} {base : Nat} {h : jjHp} {pt tx txb st en : Nat} {t : List Nat} {Sf Ef : Nat → Int32} {dm op : Int32} {fm : Value}
set_option maxHeartbeats 4000000 in
theorem pt_parseList {q0 : Nat} (hp : pt_at aC h pt tx txb st en t Sf Ef dm 0 fm) (hfm : ∃ a, fm = .ref a) (hq0 : q0 ≤ 61) (hP0 : px_s t Sf Ef (fun _ => none)) : jj_Ct l D aC base yn_PT_parseList yb_PT_parseList 5 (some .boolean) 6 0 0 [.ref pt, .int (nI q0)] h (fun r h' => r = some (.int (jb_I (px_ls t true 60 q0 (fun _ => none)).1)) ∧ ∃ Sf' Ef' op', pt_at aC h' pt tx txb st en t Sf' Ef' dm op' fm ∧ jj_fr [pt, st, en] h h' ∧ ((px_ls t true 60 q0 (fun _ => none)).1 = true → px_s t Sf' Ef' (px_ls t true 60 q0 (fun _ => none)).2.1 ∧ op' = jb_I (px_ls t true 60 q0 (fun _ => none)).2.2)) := by
  obtain ⟨fa, rfl⟩ := hfm
  have hlen : t.length ≤ 60 := hp.2.2.2.2.2.2.2
  generalize hG : px_ls t true 60 q0 (fun _ => none) = G
  refine jj_start (tb := tb_PT_parseList) (by decide) tg_PT_parseList (Nat.le_of_ble_eq_true rfl) ?_
  intro p e s m args below meth cc C
  have fin : ∀ (h1 : jjHp) (S1 E1 : Nat → Int32) (o1 : Int32) (pc : Nat) (lc : jjLoc) (b : Int32), jj_look tb_PT_parseList pc = some (.ireturn, pc + 1, 0, 0) → b = jb_I G.1 → pt_at aC h1 pt tx txb st en t S1 E1 dm o1 (.ref fa) → jj_fr [pt, st, en] h h1 → (G.1 = true → px_s t S1 E1 G.2.1 ∧ o1 = jb_I G.2.2) →
      jj_J p l e (jj_rm 6 0 0) s m args below meth cc D base 5 (MQ below (jj_Q D base (fun r h' => r = some (.int (jb_I G.1)) ∧ ∃ Sf' Ef' op', pt_at aC h' pt tx txb st en t Sf' Ef' dm op' (.ref fa) ∧ jj_fr [pt, st, en] h h' ∧ (G.1 = true → px_s t Sf' Ef' G.2.1 ∧ op' = jb_I G.2.2))) args s 0 0 (jj_A base)) pc lc [.int b] h1 0 0 := by
    intro h1 S1 E1 o1 pc lc b hl hb hp1 hf hgg
    subst hb
    refine jj_iret C hl rfl ?_ (Nat.le_refl _) (Nat.le_refl _) ⟨rfl, S1, E1, o1, hp1, hf, hgg⟩
    cases G.1 <;> rfl
  have main : ∀ (k q : Nat) (P : Nat → Option Nat) (S1 E1 : Nat → Int32) (h1 : jjHp) (v2 v3 : Int32), v2 = nI q → k ≤ 27 → v3 = nI (27 - k) → q ≤ 61 → 4 * (27 - k) ≤ q → px_s t S1 E1 P → px_ls t true (33 + k) q P = G → pt_at aC h1 pt tx txb st en t S1 E1 dm 0 (.ref fa) → jj_fr [pt, st, en] h h1 →
      jj_J p l e (jj_rm 6 0 0) s m args below meth cc D base 5 (MQ below (jj_Q D base (fun r h' => r = some (.int (jb_I G.1)) ∧ ∃ Sf' Ef' op', pt_at aC h' pt tx txb st en t Sf' Ef' dm op' (.ref fa) ∧ jj_fr [pt, st, en] h h' ∧ (G.1 = true → px_s t Sf' Ef' G.2.1 ∧ op' = jb_I G.2.2))) args s 0 0 (jj_A base)) 4 [(0, .ref pt), (1, .int (nI q0)), (2, .int v2), (3, .int v3)] [] h1 0 0 := by
    intro k
    induction k with
    | zero =>
      intro q P S1 E1 h1 v2 v3 hv2 hk hv3 hq hq4 hP he hp1 hf
      omega
    | succ k ih =>
      intro q P S1 E1 h1 v2 v3 hv2 hk hv3 hq hq4 hP he hp1 hf
      have hp1' := hp1
      obtain ⟨ho, hs, hst, hen, n1, n2, n3, -⟩ := hp1'
      obtain ⟨fs, hrc⟩ := hs.recv
      have hcq := hs.lt q
      refine jj_go C 2 rfl ?_
      refine jj_if C rfl (fun z => absurd z (by rw [hv3]; exact nI_nlt (b := 27 - (k + 1)) (a := 26) (by omega) (by decide))) (fun _ => ?_)
      refine jj_go C 2 rfl ?_
      refine jj_getf C rfl fl_PT_32 ho rfl ?_
      refine jj_callV C rfl ml_PT_39 wd_364 hrc rfl se_ST_ST_length (kt_ST_length hs) (rest := [.int v2]) rfl rfl ⟨Nat.le_of_ble_eq_true rfl, Nat.le_of_ble_eq_true rfl⟩ (Nat.le_refl _) (Nat.le_refl _) (Nat.le_of_ble_eq_true rfl) ?_
      rintro q9 h9 ⟨rfl, hh9⟩
      rw [hh9]
      refine jj_if C rfl (fun z => ?_) (fun z => ?_)
      · rw [hv2] at z
        have g := (nI_leI (a := t.length) (b := q) (by omega) (by omega)).mp z
        have hG1 : G.1 = false := by rw [← he]; exact px_ls_far g
        refine jj_go C 1 rfl ?_
        exact fin h1 S1 E1 0 _ _ _ rfl (by rw [hG1]; rfl) hp1 hf (fun q9 => by rw [hG1] at q9; cases q9)
      rw [hv2] at z
      have g : q < t.length := Nat.not_le.mp (fun q9 => z (nI_le q9 (by omega)))
      refine jj_go C 1 rfl ?_
      refine jj_getf C rfl fl_PT_32 ho rfl ?_
      refine jj_go C 1 rfl ?_
      refine jj_callV C rfl ml_PT_45 wd_372 hrc rfl se_ST_ST_charAt (As := [.int v2]) (by rw [hv2]; exact kt_ST_charAt hs g (by omega)) (rest := []) rfl rfl ⟨Nat.le_of_ble_eq_true rfl, Nat.le_of_ble_eq_true rfl⟩ (Nat.le_refl _) (Nat.le_refl _) (Nat.zero_le _) ?_
      rintro q9 h9 ⟨rfl, hh9⟩
      rw [hh9]
      refine jj_go C 1 rfl ?_
      refine jj_if C rfl (fun z => ?_) (fun z => ?_)
      · -- a star
        have g42 := (nI_eq (b := 42) (by omega) (by decide)).mp z
        refine jj_go C 2 rfl ?_
        refine jj_putf C rfl fl_PT_22 ho rfl rfl (Nat.le_of_ble_eq_true rfl) ?_
        have np1 : st ≠ pt := kx_ne (m := 0) (aC := aC) ho hst
        have np2 : en ≠ pt := kx_ne (m := 0) (aC := aC) ho hen
        have npt : tx ≠ pt := fun q9 => by rw [q9, ho] at hrc; cases hrc
        have npb : txb ≠ pt := by
          obtain ⟨_, _, _, -, hvb, -⟩ := hs
          exact kx_ne (m := 0) (aC := aC) ho hvb
        have hf0 : jj_fr [pt] h1 (jj_up h1 pt (.inr (3, [Value.ref tx, .ref st, .ref en, .int dm, .int 0, .ref fa].set 4 (.int 1)))) := jj_fr.rf.up (Or.inl List.mem_cons_self)
        have hp2 : pt_at aC (jj_up h1 pt (.inr (3, [Value.ref tx, .ref st, .ref en, .int dm, .int 0, .ref fa].set 4 (.int 1)))) pt tx txb st en t S1 E1 dm 1 (.ref fa) := ⟨jj_up_s, hs.keep hf0 (fun q9 => npt (List.mem_singleton.mp q9)) (fun q9 => npb (List.mem_singleton.mp q9)), (jj_up_n np1).trans hst, (jj_up_n np2).trans hen, n1, n2, n3, hlen⟩
        have hf2 := hf.up (a := pt) (x := .inr (3, [Value.ref tx, .ref st, .ref en, .int dm, .int 0, .ref fa].set 4 (.int 1))) (Or.inl List.mem_cons_self)
        generalize (jj_up h1 pt (.inr (3, [Value.ref tx, .ref st, .ref en, .int dm, .int 0, .ref fa].set 4 (.int 1)))) = h2 at hp2 hf2 ⊢
        have hp2' := hp2
        obtain ⟨ho2, hs2, -⟩ := hp2'
        obtain ⟨fs2, hrc2⟩ := hs2.recv
        refine jj_go C 3 rfl ?_
        refine jj_top (show v2 + 1 = nI (q + 1) by rw [hv2, nI_1]) ?_
        refine jj_go C 1 rfl ?_
        refine jj_getf C rfl fl_PT_32 ho2 rfl ?_
        refine jj_callV C rfl ml_PT_39 wd_364 hrc2 rfl se_ST_ST_length (kt_ST_length hs2) (rest := [.int (nI (q + 1))]) rfl rfl ⟨Nat.le_of_ble_eq_true rfl, Nat.le_of_ble_eq_true rfl⟩ (Nat.le_refl _) (Nat.le_refl _) (Nat.le_of_ble_eq_true rfl) ?_
        rintro q9 h9 ⟨rfl, hh9⟩
        rw [hh9]
        rw [show 33 + (k + 1) = (33 + k) + 1 by omega] at he
        unfold px_ls at he
        refine jj_if C rfl (fun z => ?_) (fun z => ?_)
        · have g1 := (nI_eq (a := q + 1) (b := t.length) (by omega) (by omega)).mp z
          rw [if_pos ⟨rfl, g1, g42⟩] at he
          subst he
          refine jj_go C 2 rfl ?_
          exact fin h2 S1 E1 1 _ _ _ rfl rfl hp2 hf2 (fun _ => ⟨hP, rfl⟩)
        · have g1 : ¬ q + 1 = t.length := fun q9 => z (by rw [q9])
          rw [if_neg (fun q9 => g1 q9.2.1), if_neg (fun q9 => by rw [g42] at q9; have := pc_sm_i.mp q9.1; omega)] at he
          subst he
          refine jj_go C 1 rfl ?_
          exact fin h2 S1 E1 1 _ _ _ rfl rfl hp2 hf2 (fun q9 => by cases q9)
      · have g42 : ¬ t.getD q 0 = 42 := fun q9 => z (by rw [q9]; rfl)
        rw [show 33 + (k + 1) = (33 + k) + 1 by omega, px_ls_pr (fun q9 => g42 q9.2)] at he
        refine jj_go C 2 rfl ?_
        refine jj_callV C rfl ml_PT_68 wd_395 ho rfl se_PT_PT_parseProperty (As := [.int v2]) (by rw [hv2]; exact pt_parseProperty hp1 g hP) (rest := []) rfl rfl ⟨Nat.le_refl _, Nat.le_of_ble_eq_true rfl⟩ (Nat.le_refl _) (Nat.le_refl _) (Nat.zero_le _) ?_
        rintro r h2 hpost
        rcases hpost with ⟨E, hE, rfl, S2, E2, hp2, hP2, hf2⟩ | ⟨hE, rfl, hh2⟩
        · rw [hE] at he
          dsimp only at he
          have hEb : q + 3 ≤ E ∧ E ≤ q + 6 ∧ E ≤ 62 := by
            have hm : px_re t true (q + 2) ≤ max (q + 2) t.length := px_end_max _ _
            unfold pk_pr at hE
            split at hE
            · split at hE
              · cases hE
              · split at hE
                · cases hE
                · cases hE
                  omega
            · cases hE
          have hf3 := hf.tr (hf2.mono (T := [pt, st, en]) (fun a ha => List.mem_cons_of_mem _ ha))
          have hp2' := hp2
          obtain ⟨ho2, hs2, -⟩ := hp2'
          obtain ⟨fs2, hrc2⟩ := hs2.recv
          have hcE := hs2.lt E
          refine jj_go C 3 rfl ?_
          refine jj_getf C rfl fl_PT_32 ho2 rfl ?_
          refine jj_callV C rfl ml_PT_39 wd_364 hrc2 rfl se_ST_ST_length (kt_ST_length hs2) (rest := [.int (nI E)]) rfl rfl ⟨Nat.le_of_ble_eq_true rfl, Nat.le_of_ble_eq_true rfl⟩ (Nat.le_refl _) (Nat.le_refl _) (Nat.le_of_ble_eq_true rfl) ?_
          rintro q9 h9 ⟨rfl, hh9⟩
          rw [hh9]
          refine jj_if C rfl (fun z => ?_) (fun z => ?_)
          · have g1 := (nI_eq (a := E) (b := t.length) (by omega) (by omega)).mp z
            rw [if_pos g1] at he
            subst he
            refine jj_go C 1 rfl ?_
            exact fin h2 S2 E2 0 _ _ _ rfl rfl hp2 hf3 (fun _ => ⟨hP2, rfl⟩)
          have g1 : ¬ E = t.length := fun q9 => z (by rw [q9])
          rw [if_neg g1] at he
          have gE : E < t.length := by
            have hm : px_re t true (q + 2) ≤ max (q + 2) t.length := px_end_max _ _
            have hE2 : E = px_re t true (q + 2) := by
              unfold pk_pr at hE
              split at hE
              · split at hE
                · cases hE
                · split at hE
                  · cases hE
                  · exact (Option.some.inj hE).symm
              · cases hE
            omega
          refine jj_go C 1 rfl ?_
          refine jj_if C rfl (fun z => absurd z (nI_pos (by omega))) (fun _ => ?_)
          refine jj_go C 1 rfl ?_
          refine jj_getf C rfl fl_PT_32 ho2 rfl ?_
          refine jj_go C 1 rfl ?_
          refine jj_callV C rfl ml_PT_45 wd_372 hrc2 rfl se_ST_ST_charAt (kt_ST_charAt hs2 gE (by omega)) (rest := []) rfl rfl ⟨Nat.le_of_ble_eq_true rfl, Nat.le_of_ble_eq_true rfl⟩ (Nat.le_refl _) (Nat.le_refl _) (Nat.zero_le _) ?_
          rintro q9 h9 ⟨rfl, hh9⟩
          rw [hh9]
          refine jj_go C 1 rfl ?_
          refine jj_if C rfl (fun z => ?_) (fun z => ?_)
          · have g44 := (nI_eq (b := 44) (by omega) (by decide)).mp z
            rw [if_pos g44] at he
            refine jj_go C 6 rfl ?_
            refine jj_less (lc' := [(0, .ref pt), (1, .int (nI q0)), (2, .int (nI E + 1)), (3, .int (v3 + 1))]) (fun q hq => List.mem_append_left [_] hq) (Nat.le_refl _) (Nat.le_refl _) ?_
            exact ih (E + 1) _ S2 E2 h2 _ _ (nI_1 E) (by omega) (by rw [hv3, nI_1]; congr 1; omega) (by omega) (by omega) hP2 he hp2 hf3
          · have g44 : ¬ t.getD E 0 = 44 := fun q9 => z (by rw [q9]; rfl)
            rw [if_neg g44] at he
            subst he
            refine jj_go C 1 rfl ?_
            exact fin h2 S2 E2 0 _ _ _ rfl rfl hp2 hf3 (fun q9 => by cases q9)
        · rw [hE] at he
          dsimp only at he
          have hG1 : G.1 = false := by rw [← he]
          rw [hh2]
          refine jj_go C 3 rfl ?_
          refine jj_getf C rfl fl_PT_32 ho rfl ?_
          refine jj_callV C rfl ml_PT_39 wd_364 hrc rfl se_ST_ST_length (kt_ST_length hs) (rest := [.int (-1)]) rfl rfl ⟨Nat.le_of_ble_eq_true rfl, Nat.le_of_ble_eq_true rfl⟩ (Nat.le_refl _) (Nat.le_refl _) (Nat.le_of_ble_eq_true rfl) ?_
          rintro q9 h9 ⟨rfl, hh9⟩
          rw [hh9]
          refine jj_if C rfl (fun z => absurd (nI_pos (n := t.length) (by omega)) (by rw [← z]; decide)) (fun _ => ?_)
          refine jj_go C 1 rfl ?_
          refine jj_if C rfl (fun _ => ?_) (fun z => absurd (by decide) z)
          refine jj_go C 1 rfl ?_
          exact fin h1 S1 E1 0 _ _ _ rfl (by rw [hG1]; rfl) hp1 hf (fun q9 => by rw [hG1] at q9; cases q9)
  refine jj_go C 4 rfl ?_
  exact main 27 q0 (fun _ => none) Sf Ef h _ _ rfl (Nat.le_refl _) rfl hq0 (by omega) hP0 hG hp jj_fr.rf
end PT3
end
section
/-! Pure: the form of a name or pattern -/
def px_seg (t : List Nat) (p q : Nat) : List Nat := (t.drop p).take (q - p)
theorem px_seg_len {t : List Nat} {p q : Nat} (hq : q ≤ t.length) : (px_seg t p q).length = q - p := by
  unfold px_seg
  rw [List.length_take, List.length_drop]
  omega
theorem px_seg_nil {t : List Nat} {p : Nat} : px_seg t p p = [] := by
  unfold px_seg
  rw [Nat.sub_self, List.take_zero]
theorem px_seg_succ {t : List Nat} {p q : Nat} (hp : p ≤ q) (hq : q < t.length) : px_seg t p q ++ [t.getD q 0] = px_seg t p (q + 1) := by
  unfold px_seg
  have h1 : q - p < (t.drop p).length := by rw [List.length_drop]; omega
  have h2 : t.getD q 0 = (t.drop p).getD (q - p) 0 := by
    rw [List.getD_eq_getElem?_getD, List.getD_eq_getElem?_getD, List.getElem?_drop]
    congr 2
    omega
  rw [h2, px_take_succ h1, show q + 1 - p = q - p + 1 by omega]
/-- the properties in the order of their keys -/
def px_ord (t : List Nat) (P : Nat → Option Nat) : Nat → List Nat
  | 0 => []
  | j + 1 => match P j with
    | none => px_ord t P j
    | some p => px_ord t P j ++ ((if px_ord t P j = [] then [] else [44]) ++ px_seg t p (px_re t true (p + 2)))
def px_tail (u : List Nat) (op : Bool) : List Nat := if op then (if u = [] then [42] else [44, 42]) else []
def px_form (t : List Nat) (d : Nat) (P : Nat → Option Nat) (op : Bool) : List Nat := px_seg t 0 (d + 1) ++ (px_ord t P 26 ++ px_tail (px_ord t P 26) op)
theorem px_ord_none {t : List Nat} {P : Nat → Option Nat} {j : Nat} (h : P j = none) : px_ord t P (j + 1) = px_ord t P j := by
  show (match P j with | none => px_ord t P j | some p => px_ord t P j ++ ((if px_ord t P j = [] then [] else [44]) ++ px_seg t p (px_re t true (p + 2)))) = _
  rw [h]
theorem px_ord_some {t : List Nat} {P : Nat → Option Nat} {j p : Nat} (h : P j = some p) : px_ord t P (j + 1) = px_ord t P j ++ ((if px_ord t P j = [] then [] else [44]) ++ px_seg t p (px_re t true (p + 2))) := by
  show (match P j with | none => px_ord t P j | some p => px_ord t P j ++ ((if px_ord t P j = [] then [] else [44]) ++ px_seg t p (px_re t true (p + 2)))) = _
  rw [h]
theorem px_ord_mono {t : List Nat} {P : Nat → Option Nat} {j : Nat} : (px_ord t P j).length ≤ (px_ord t P (j + 1)).length := by
  cases h : P j with
  | none => rw [px_ord_none h]; exact Nat.le_refl _
  | some p => rw [px_ord_some h, List.length_append]; exact Nat.le_add_right _ _
theorem px_ord_le {t : List Nat} {P : Nat → Option Nat} {j : Nat} : ∀ k, (px_ord t P j).length ≤ (px_ord t P (j + k)).length
  | 0 => Nat.le_refl _
  | k + 1 => Nat.le_trans (px_ord_le k) px_ord_mono
theorem px_ord_26 {t : List Nat} {P : Nat → Option Nat} {j : Nat} (hj : j ≤ 26) : (px_ord t P j).length ≤ (px_ord t P 26).length := by
  have := px_ord_le (t := t) (P := P) (j := j) (26 - j)
  rw [show j + (26 - j) = 26 by omega] at this
  exact this
/-- what holds of the places that a list's reading gave -/
def px_V (t : List Nat) (P : Nat → Option Nat) : Prop := ∀ k p, k < 26 → P k = some p → p + 2 ≤ px_re t true (p + 2) ∧ px_re t true (p + 2) ≤ t.length
theorem jj_sb_tr {h h1 h2 : jjHp} {o b b1 b2 : Nat} {e1 : va_E} (hf : jj_fr [o, b] h h1) (ho1 : h1 o = some e1) (hb1 : b1 = b ∨ h b1 = none) (hf2 : jj_fr [o, b1] h1 h2) (hb2 : b2 = b1 ∨ h1 b2 = none) : jj_fr [o, b] h h2 ∧ (b2 = b ∨ h b2 = none) := by
  refine ⟨fun c e hc hh => hf2 c e (fun q => ?_) (hf c e hc hh), ?_⟩
  · rcases List.mem_cons.mp q with q | q
    · exact hc (by rw [q]; exact List.mem_cons_self)
    · have q := List.mem_singleton.mp q
      rcases hb1 with hb1 | hb1
      · exact hc (by rw [q, hb1]; exact List.mem_cons_of_mem _ List.mem_cons_self)
      · rw [q, hb1] at hh
        cases hh
  · rcases hb2 with hb2 | hb2
    · rw [hb2]
      exact hb1
    · by_cases hb : b2 = b
      · exact Or.inl hb
      · refine Or.inr ?_
        cases hv : h b2 with
        | none => rfl
        | some e =>
          have hbo : b2 ≠ o := fun q => by rw [q, ho1] at hb2; cases hb2
          have := hf b2 e (fun q => by
            rcases List.mem_cons.mp q with q | q
            · exact hbo q
            · exact hb (List.mem_singleton.mp q)) hv
          rw [hb2] at this
          cases this
end
section
/-! The class's Pattern: copy, separate, ordered -/
section PT4
variable {l : Launch} {D : va_G} {aC : Nat → ClassId} {base : Nat} {h : jjHp} {pt tx txb st en : Nat} {t : List Nat} {Sf Ef : Nat → Int32} {dm op : Int32} {fm : Value}
theorem kx_SB.recv {a b m : Nat} {u : List Nat} (hs : kx_SB aC h a b m u) : ∃ fs, h a = some (.inr (11, fs)) := by
  obtain ⟨ml, f, ho, -⟩ := hs
  exact ⟨_, ho⟩
theorem kt_SB_length {a b m : Nat} {u : List Nat} (hs : kx_SB aC h a b m u) : jj_Ct l D aC base yn_SB_length yb_SB_length 1 (some .int) 1 0 0 [.ref a] h (fun r h' => r = some (.int (nI u.length)) ∧ h' = h) := by
  obtain ⟨ml, f, ho, -⟩ := hs
  exact kx_SB_length ho
theorem pt_at.keep {S : List Nat} {h' : jjHp} (hp : pt_at aC h pt tx txb st en t Sf Ef dm op fm) (hf : jj_fr S h h') (h1 : pt ∉ S) (h2 : tx ∉ S) (h3 : txb ∉ S) (h4 : st ∉ S) (h5 : en ∉ S) : pt_at aC h' pt tx txb st en t Sf Ef dm op fm := by
  obtain ⟨ho, hs, hst, hen, n⟩ := hp
  exact ⟨hf _ _ h1 ho, hs.keep hf h2 h3, hf _ _ h4 hst, hf _ _ h5 hen, n⟩
/-- its cells are none of these -/
def pt_off (pt tx txb st en : Nat) (S : List Nat) : Prop := pt ∉ S ∧ tx ∉ S ∧ txb ∉ S ∧ st ∉ S ∧ en ∉ S
theorem pt_at.keep2 {S : List Nat} {h' : jjHp} (hp : pt_at aC h pt tx txb st en t Sf Ef dm op fm) (hf : jj_fr S h h') (ho : pt_off pt tx txb st en S) : pt_at aC h' pt tx txb st en t Sf Ef dm op fm := hp.keep hf ho.1 ho.2.1 ho.2.2.1 ho.2.2.2.1 ho.2.2.2.2
theorem pt_copy {o b m p n : Nat} {u : List Nat} (hp : pt_at aC h pt tx txb st en t Sf Ef dm op fm) (hs : kx_SB aC h o b m u) (hoff : pt_off pt tx txb st en [o, b]) (hpn : p + n ≤ t.length) (hu : u.length + n ≤ 70) : jj_Ct l D aC base yn_PT_copy yb_PT_copy 5 none 6 n (142 * n) [.ref pt, .int (nI p), .int (nI (p + n)), .ref o] h (fun r h' => r = none ∧ ∃ b' m', kx_SB aC h' o b' m' (u ++ px_seg t p (p + n)) ∧ (b' = b ∨ h b' = none) ∧ jj_fr [o, b] h h') := by
  have hlen : t.length ≤ 60 := hp.2.2.2.2.2.2.2
  refine jj_start (tb := tb_PT_copy) (by decide) tg_PT_copy (Nat.le_of_ble_eq_true rfl) ?_
  intro p0 e s m0 args below meth cc C
  have loop : ∀ (k j : Nat) (v : Int32) (h1 : jjHp) (b1 m1 : Nat), v = nI (p + j) → j + k = n → kx_SB aC h1 o b1 m1 (u ++ px_seg t p (p + j)) → (b1 = b ∨ h b1 = none) → jj_fr [o, b] h h1 →
      jj_J p0 l e (jj_rm 6 n (142 * n)) s m0 args below meth cc D base 5 (MQ below (jj_Q D base (fun r h' => r = none ∧ ∃ b' m', kx_SB aC h' o b' m' (u ++ px_seg t p (p + n)) ∧ (b' = b ∨ h b' = none) ∧ jj_fr [o, b] h h')) args s n (142 * n) (jj_A base)) 3 [(0, .ref pt), (1, .int (nI p)), (2, .int (nI (p + n))), (3, .ref o), (4, .int v)] [] h1 j (142 * j) := by
    intro k
    induction k with
    | zero =>
      intro j v h1 b1 m1 hv hk hs1 hb1 hf1
      have hj : j = n := by omega
      subst hj
      refine jj_go C 2 rfl ?_
      refine jj_if C rfl (fun _ => ?_) (fun z => absurd (by rw [hv]; exact nI_le (Nat.le_refl _) (by omega)) z)
      exact jj_vret C rfl rfl (Nat.le_refl _) (Nat.le_refl _) ⟨rfl, b1, m1, hs1, hb1, hf1⟩
    | succ k ih =>
      intro j v h1 b1 m1 hv hk hs1 hb1 hf1
      have hp1 := hp.keep2 hf1 hoff
      have hp1' := hp1
      obtain ⟨ho, hst, -⟩ := hp1'
      obtain ⟨fs, hrc⟩ := hst.recv
      obtain ⟨fo, hro⟩ := hs1.recv
      have hlt : p + j < t.length := by omega
      refine jj_go C 2 rfl ?_
      refine jj_if C rfl (fun z => absurd z (by rw [hv]; exact nI_ge (by omega) (by omega))) (fun _ => ?_)
      refine jj_go C 2 rfl ?_
      refine jj_getf C rfl fl_PT_32 ho rfl ?_
      refine jj_go C 1 rfl ?_
      refine jj_callV C rfl ml_PT_45 wd_372 hrc rfl se_ST_ST_charAt (As := [.int v]) (by rw [hv]; exact kt_ST_charAt hst hlt (by omega)) (rest := [.ref o]) rfl rfl ⟨Nat.le_of_ble_eq_true rfl, Nat.le_of_ble_eq_true rfl⟩ (show j + 0 ≤ n by omega) (show 142 * j + 0 ≤ 142 * n by omega) (Nat.le_of_ble_eq_true rfl) ?_
      rintro q9 h9 ⟨rfl, hh9⟩
      rw [hh9]
      have hul : (u ++ px_seg t p (p + j)).length ≤ 70 := by
        rw [List.length_append, px_seg_len (by omega)]
        omega
      refine jj_callV C rfl ml_PT_83 wd_145 hro rfl se_SB_SB_append (kt_SB_append hs1 hul (hst.lt (p + j))) (rest := []) rfl rfl ⟨Nat.le_refl _, Nat.le_of_ble_eq_true rfl⟩ (show j + 0 + 1 ≤ n by omega) (show 142 * j + 0 + 142 ≤ 142 * n by omega) (Nat.zero_le _) ?_
      rintro q9 h2 ⟨rfl, b2, m2, hs2, hb2, hf2⟩
      obtain ⟨g1, g2⟩ := jj_sb_tr hf1 hro hb1 hf2 hb2
      rw [List.append_assoc, px_seg_succ (by omega) hlt] at hs2
      refine jj_go C 3 rfl ?_
      have := ih (j + 1) (v + 1) h2 b2 m2 (by rw [hv, nI_1]; rfl) (by omega) hs2 g2 g1
      rw [show 142 * (j + 1) = 142 * j + 0 + 142 by omega] at this
      exact this
  refine jj_go C 2 rfl ?_
  refine loop n 0 _ h b m rfl (by omega) ?_ (Or.inl rfl) jj_fr.rf
  rw [Nat.add_zero, px_seg_nil, List.append_nil]
  exact hs
theorem pt_separate {o b m ls : Nat} {u : List Nat} (hs : kx_SB aC h o b m u) (hu : u.length ≤ 70) (hls : ls ≤ 70) : jj_Ct l D aC base yn_PT_separate yb_PT_separate 2 none 6 1 142 [.int (nI ls), .ref o] h (fun r h' => r = none ∧ ∃ b' m', kx_SB aC h' o b' m' (u ++ (if ls < u.length then [44] else [])) ∧ (b' = b ∨ h b' = none) ∧ jj_fr [o, b] h h') := by
  obtain ⟨fo, hro⟩ := hs.recv
  refine jj_start (tb := tb_PT_separate) (by decide) tg_PT_separate (Nat.le_of_ble_eq_true rfl) ?_
  intro p0 e s m0 args below meth cc C
  refine jj_go C 1 rfl ?_
  refine jj_callV C rfl ml_PT_78 wd_138 hro rfl se_SB_SB_length (kt_SB_length hs) (rest := []) rfl rfl ⟨Nat.le_of_ble_eq_true rfl, Nat.le_of_ble_eq_true rfl⟩ (Nat.zero_le _) (Nat.zero_le _) (Nat.zero_le _) ?_
  rintro q9 h9 ⟨rfl, hh9⟩
  rw [hh9]
  refine jj_go C 1 rfl ?_
  refine jj_if C rfl (fun z => ?_) (fun z => ?_)
  · have g := (nI_leI (a := u.length) (b := ls) (by omega) (by omega)).mp z
    refine jj_vret C rfl rfl (Nat.zero_le _) (Nat.zero_le _) ⟨rfl, b, m, ?_, Or.inl rfl, jj_fr.rf⟩
    rw [if_neg (by omega), List.append_nil]
    exact hs
  · have g : ¬ u.length ≤ ls := fun q9 => z (nI_le q9 (by omega))
    refine jj_go C 2 rfl ?_
    refine jj_callV C rfl ml_PT_83 wd_145 hro rfl se_SB_SB_append (As := [.int 44]) (kt_SB_append (k := 44) hs hu (by decide)) (rest := []) rfl rfl ⟨Nat.le_refl _, Nat.le_of_ble_eq_true rfl⟩ (Nat.le_refl _) (Nat.le_refl _) (Nat.zero_le _) ?_
    rintro q9 h2 ⟨rfl, b2, m2, hs2, hb2, hf2⟩
    refine jj_go C 1 rfl ?_
    refine jj_vret C rfl rfl (Nat.le_refl _) (Nat.le_refl _) ⟨rfl, b2, m2, ?_, hb2, hf2⟩
    rw [if_pos (by omega)]
    exact hs2
end PT4
end
section
/-! The class's Pattern: ordered -/
section PT5
variable {l : Launch} {D : va_G} {aC : Nat → ClassId} {base : Nat} {h : jjHp} {pt tx txb st en : Nat} {t : List Nat} {Sf Ef : Nat → Int32} {dm op : Int32} {fm : Value}
theorem pt_at.off {z b : Nat} (hp : pt_at aC h pt tx txb st en t Sf Ef dm op fm) (hz : h z = none) (hb : h b = none) : pt_off pt tx txb st en [z, b] := by
  obtain ⟨ho, ⟨_, _, _, h1, h2, -⟩, hst, hen, -⟩ := hp
  have key : ∀ (c : Nat) (e : va_E), h c = some e → c ∉ [z, b] := fun c e hc q => by
    rcases List.mem_cons.mp q with q | q
    · rw [q, hz] at hc
      cases hc
    · rw [List.mem_singleton.mp q, hb] at hc
      cases hc
  exact ⟨key _ _ ho, key _ _ h1, key _ _ h2, key _ _ hst, key _ _ hen⟩
theorem jj_fr_new {h1 h2 : jjHp} {z b : Nat} (hf : jj_fr [] h h1) (hz : h z = none) (hb : h b = none) (hf2 : jj_fr [z, b] h1 h2) : jj_fr [] h h2 := fun c e _ hc => hf2 c e (fun q => by
  rcases List.mem_cons.mp q with q | q
  · rw [q, hz] at hc
    cases hc
  · rw [List.mem_singleton.mp q, hb] at hc
    cases hc) (hf c e List.not_mem_nil hc)
theorem jj_new_none {h1 : jjHp} {b b1 : Nat} (hf : jj_fr [] h h1) (hb : h b = none) (hb1 : b1 = b ∨ h1 b1 = none) : h b1 = none := by
  rcases hb1 with rfl | hb1
  · exact hb
  · cases hv : h b1 with
    | none => rfl
    | some e =>
      have := hf b1 e List.not_mem_nil hv
      rw [hb1] at this
      cases this
set_option maxHeartbeats 4000000 in
theorem pt_ordered {d : Nat} {P : Nat → Option Nat} {ob : Bool} (hp : pt_at aC h pt tx txb st en t Sf Ef (nI d) (jb_I ob) fm) (hP : px_s t Sf Ef P) (hV : px_V t P) (hd : d < t.length) (hB : (px_form t d P ob).length ≤ 60) : jj_Ct l D aC base yn_PT_ordered yb_PT_ordered 4 (some (.object "java/lang/String")) 7 66 9300 [.ref pt] h (fun r h' => ∃ z q, r = some (.ref z) ∧ h z = none ∧ h q = none ∧ kx_ST aC h' z q (px_form t d P ob) ∧ jj_fr [] h h') := by
  have hlen : t.length ≤ 60 := hp.2.2.2.2.2.2.2
  have hB1 : (d + 1) + (px_ord t P 26).length + (px_tail (px_ord t P 26) ob).length ≤ 60 := by
    have := hB
    unfold px_form at this
    rw [List.length_append, List.length_append, px_seg_len (by omega)] at this
    omega
  refine jj_start (tb := tb_PT_ordered) (by decide) tg_PT_ordered (Nat.le_of_ble_eq_true rfl) ?_
  intro p0 e s m0 args below meth cc C
  refine jj_new C rfl nw_PT_71 (Nat.le_of_ble_eq_true rfl) (Nat.le_of_ble_eq_true rfl) (fun z hz => ?_)
  refine jj_go C 1 rfl ?_
  refine jj_callI C rfl ml_PT_73 wd_34 rfl (kx_SB_init jj_up_s) (rest := [.ref z]) rfl rfl ⟨Nat.le_of_ble_eq_true rfl, Nat.le_of_ble_eq_true rfl⟩ (Nat.le_of_ble_eq_true rfl) (Nat.le_of_ble_eq_true rfl) (Nat.le_of_ble_eq_true rfl) ?_
  rintro r h1 ⟨rfl, b, hb, rfl⟩
  have hzb : z ≠ b := jj_ne hb jj_up_s
  have hb0 : h b = none := by
    rw [jj_up_n (Ne.symm hzb)] at hb
    exact hb
  have hs1 : kx_SB aC (jj_up (jj_up (jj_up h z (.inr (11, [.null, .int 0, .int 0, .int 0]))) b (kx_ba aC 16 (fun _ => 0))) z (kx_sb b 0 0)) z b 16 [] := ⟨0, fun _ => 0, jj_up_s, (jj_up_n (Ne.symm hzb)).trans jj_up_s, kx_tx_nil, sb_fit0, Nat.zero_le _, by decide⟩
  have hf1 : jj_fr [] h (jj_up (jj_up (jj_up h z (.inr (11, [.null, .int 0, .int 0, .int 0]))) b (kx_ba aC 16 (fun _ => 0))) z (kx_sb b 0 0)) := ((jj_fr.rf.up (Or.inr hz)).up (Or.inr hb0)).up (Or.inr hz)
  generalize (jj_up (jj_up (jj_up h z (.inr (11, [.null, .int 0, .int 0, .int 0]))) b (kx_ba aC 16 (fun _ => 0))) z (kx_sb b 0 0)) = h1 at hs1 hf1 ⊢
  have hp1 : pt_at aC h1 pt tx txb st en t Sf Ef (nI d) (jb_I ob) fm := hp.keep2 hf1 ⟨List.not_mem_nil, List.not_mem_nil, List.not_mem_nil, List.not_mem_nil, List.not_mem_nil⟩
  have ho1 := hp1.1
  refine jj_go C 4 rfl ?_
  refine jj_getf C rfl fl_PT_18 ho1 rfl ?_
  refine jj_go C 2 rfl ?_
  refine jj_top (nI_1 d) ?_
  refine jj_go C 1 rfl ?_
  have hcp := pt_copy (l := l) (D := D) (base := base) (p := 0) (n := d + 1) hp1 hs1 (hp.off hz hb0) (by omega) (by simp; omega)
  rw [Nat.zero_add, List.nil_append] at hcp
  refine jj_callV C rfl ml_PT_74 wd_405 ho1 rfl se_PT_PT_copy (As := [.int 0, .int (nI (d + 1)), .ref z]) hcp (rest := []) rfl rfl ⟨Nat.le_refl _, Nat.le_of_ble_eq_true rfl⟩ (show 0 + 1 + 1 + (d + 1) ≤ 66 by omega) (show 0 + 4 + 16 + 142 * (d + 1) ≤ 9300 by omega) (Nat.zero_le _) ?_
  rintro r h2 ⟨rfl, b2, m2, hs2, hb2, hf2⟩
  have hf2' := jj_fr_new hf1 hz hb0 hf2
  have hb2' := jj_new_none hf1 hb0 hb2
  obtain ⟨fo2, hro2⟩ := hs2.recv
  refine jj_go C 1 rfl ?_
  refine jj_callV C rfl ml_PT_78 wd_138 hro2 rfl se_SB_SB_length (kt_SB_length hs2) (rest := []) rfl rfl ⟨Nat.le_of_ble_eq_true rfl, Nat.le_of_ble_eq_true rfl⟩ (show 0 + 1 + 1 + (d + 1) + 0 ≤ 66 by omega) (show 0 + 4 + 16 + 142 * (d + 1) + 0 ≤ 9300 by omega) (Nat.zero_le _) ?_
  rintro q9 h9 ⟨rfl, hh9⟩
  rw [hh9]
  rw [px_seg_len (by omega), Nat.sub_zero]
  -- the end
  have fin : ∀ (h3 : jjHp) (b3 m3 kc ks : Nat) (lc : jjLoc), jj_get lc 1 = some (.ref z) → kx_SB aC h3 z b3 m3 (px_form t d P ob) → jj_fr [] h h3 → kc + 2 ≤ 66 → ks + 146 ≤ 9300 →
      jj_J p0 l e (jj_rm 7 66 9300) s m0 args below meth cc D base 4 (MQ below (jj_Q D base (fun r h' => ∃ z q, r = some (.ref z) ∧ h z = none ∧ h q = none ∧ kx_ST aC h' z q (px_form t d P ob) ∧ jj_fr [] h h')) args s 66 9300 (jj_A base)) 91 lc [] h3 kc ks := by
    intro h3 b3 m3 kc ks lc hlc hs3 hf3 hkc hks
    obtain ⟨fo3, hro3⟩ := hs3.recv
    refine jj_go C (pc' := 92) (lc' := lc) (st' := [.ref z]) 1 ?_ ?_
    · show (match (match jj_get lc 1 with | some (.ref x) => some (92, lc, Value.ref x :: []) | some .null => some (92, lc, Value.null :: []) | _ => none) with | some q' => jj_run tb_PT_ordered 0 q' | none => none) = _
      rw [hlc]
      rfl
    refine jj_callV C rfl ml_PT_87 wd_252 hro3 rfl se_SB_SB_toString (kt_SB_toString hs3) (rest := []) rfl rfl ⟨Nat.le_of_ble_eq_true rfl, Nat.le_of_ble_eq_true rfl⟩ hkc hks (Nat.zero_le _) ?_
    rintro r h4 ⟨z4, q4, rfl, hz4, hq4, hst4, hf4⟩
    refine jj_aret C rfl rfl (Or.inl ⟨_, rfl⟩) (Or.inr ⟨_, rfl⟩) hkc hks ⟨z4, q4, rfl, jj_new_none (b := z) hf3 hz (Or.inr hz4), jj_new_none (b := z) hf3 hz (Or.inr hq4), hst4, hf3.tr hf4⟩
  have loop : ∀ (k j : Nat) (v : Int32) (h3 : jjHp) (b3 m3 kc ks : Nat), v = nI j → j + k = 26 → kx_SB aC h3 z b3 m3 (px_seg t 0 (d + 1) ++ px_ord t P j) → h b3 = none → jj_fr [] h h3 → kc + (if px_ord t P j = [] then 1 else 0) ≤ 4 + (d + 1) + (px_ord t P j).length → ks ≤ 20 + 142 * kc →
      jj_J p0 l e (jj_rm 7 66 9300) s m0 args below meth cc D base 4 (MQ below (jj_Q D base (fun r h' => ∃ z q, r = some (.ref z) ∧ h z = none ∧ h q = none ∧ kx_ST aC h' z q (px_form t d P ob) ∧ jj_fr [] h h')) args s 66 9300 (jj_A base)) 27 [(0, .ref pt), (1, .ref z), (2, .int (nI (d + 1))), (3, .int v)] [] h3 kc ks := by
    intro k
    induction k with
    | zero =>
      intro j v h3 b3 m3 kc ks hv hk hs3 hb3 hf3 hkc hks
      have hj : j = 26 := by omega
      subst hj
      have hp3 : pt_at aC h3 pt tx txb st en t Sf Ef (nI d) (jb_I ob) fm := hp.keep2 hf3 ⟨List.not_mem_nil, List.not_mem_nil, List.not_mem_nil, List.not_mem_nil, List.not_mem_nil⟩
      refine jj_go C 2 rfl ?_
      refine jj_if C rfl (fun _ => ?_) (fun z9 => absurd (by rw [hv]; decide) z9)
      refine jj_go C 1 rfl ?_
      refine jj_getf C rfl fl_PT_22 hp3.1 rfl ?_
      rcases jb_cases ob with ⟨rfl, o2⟩ | ⟨rfl, o2⟩
      · refine jj_if C rfl (fun z9 => absurd (o2.symm.trans z9) (by decide)) (fun _ => ?_)
        have hul : (px_seg t 0 (d + 1) ++ px_ord t P 26).length = (d + 1) + (px_ord t P 26).length := by
          rw [List.length_append, px_seg_len (by omega)]
          omega
        refine jj_go C 2 rfl ?_
        have hB2 : 1 ≤ (px_tail (px_ord t P 26) true).length ∧ (px_ord t P 26 ≠ [] → (px_tail (px_ord t P 26) true).length = 2) := by
          unfold px_tail
          by_cases hq : px_ord t P 26 = []
          · rw [if_pos rfl, if_pos hq]
            exact ⟨by decide, fun q9 => absurd hq q9⟩
          · rw [if_pos rfl, if_neg hq]
            exact ⟨by decide, fun _ => rfl⟩
        have hkc2 : kc + 4 ≤ 66 := by
          by_cases hq : px_ord t P 26 = []
          · rw [if_pos hq] at hkc
            rw [hq] at hkc hB1 hB2
            simp only [List.length_nil] at hkc hB1
            omega
          · rw [if_neg hq] at hkc
            have := hB2.2 hq
            omega
        refine jj_callS C rfl ml_PT_79 wd_410 (pt_separate (ls := d + 1) hs3 (by omega) (by omega)) (rest := []) rfl rfl ⟨Nat.le_of_ble_eq_true rfl, Nat.le_of_ble_eq_true rfl⟩ (show kc + 1 ≤ 66 by omega) (show ks + 142 ≤ 9300 by omega) (Nat.zero_le _) ?_
        rintro r h4 ⟨rfl, b4, m4, hs4, hb4, hf4⟩
        have hf4' := jj_fr_new hf3 hz hb3 hf4
        have hb4' := jj_new_none hf3 hb3 hb4
        obtain ⟨fo4, hro4⟩ := hs4.recv
        refine jj_go C 2 rfl ?_
        refine jj_callV C rfl ml_PT_83 wd_145 hro4 rfl se_SB_SB_append (As := [.int 42]) (kt_SB_append (k := 42) hs4 (by rw [List.length_append, hul]; split <;> simp <;> omega) (by decide)) (rest := []) rfl rfl ⟨Nat.le_of_ble_eq_true rfl, Nat.le_of_ble_eq_true rfl⟩ (show kc + 1 + 1 ≤ 66 by omega) (show ks + 142 + 142 ≤ 9300 by omega) (Nat.zero_le _) ?_
        rintro r h5 ⟨rfl, b5, m5, hs5, hb5, hf5⟩
        have hf5' := jj_fr_new hf4' hz hb4' hf5
        refine jj_go C 1 rfl ?_
        refine fin h5 b5 m5 _ _ _ rfl ?_ hf5' (show kc + 1 + 1 + 2 ≤ 66 by omega) (show ks + 142 + 142 + 146 ≤ 9300 by omega)
        have e1 : (if d + 1 < (px_seg t 0 (d + 1) ++ px_ord t P 26).length then [44] else []) ++ [42] = px_tail (px_ord t P 26) true := by
          unfold px_tail
          rw [hul, if_pos rfl]
          by_cases hq : px_ord t P 26 = []
          · rw [if_pos hq, hq, if_neg (by simp)]
            rfl
          · have : 0 < (px_ord t P 26).length := List.length_pos_iff.mpr hq
            rw [if_neg hq, if_pos (by omega)]
            rfl
        rw [List.append_assoc, e1, List.append_assoc] at hs5
        exact hs5
      · refine jj_if C rfl (fun _ => ?_) (fun z9 => absurd o2 z9)
        refine fin h3 b3 m3 _ _ _ rfl ?_ hf3 (by omega) (by omega)
        have : px_tail (px_ord t P 26) false = [] := rfl
        unfold px_form
        rw [this, List.append_nil]
        exact hs3
    | succ k ih =>
      intro j v h3 b3 m3 kc ks hv hk hs3 hb3 hf3 hkc hks
      have hp3 : pt_at aC h3 pt tx txb st en t Sf Ef (nI d) (jb_I ob) fm := hp.keep2 hf3 ⟨List.not_mem_nil, List.not_mem_nil, List.not_mem_nil, List.not_mem_nil, List.not_mem_nil⟩
      have hp3' := hp3
      obtain ⟨ho3, hst3, hsf3, hef3, -⟩ := hp3'
      have hle : (px_ord t P (j + 1)).length ≤ (px_ord t P 26).length := px_ord_26 (by omega)
      have hle0 : (px_ord t P j).length ≤ (px_ord t P 26).length := px_ord_26 (by omega)
      have hul : (px_seg t 0 (d + 1) ++ px_ord t P j).length = (d + 1) + (px_ord t P j).length := by
        rw [List.length_append, px_seg_len (by omega)]
        omega
      refine jj_go C 2 rfl ?_
      refine jj_if C rfl (fun z9 => absurd z9 (by rw [hv]; exact nI_ge (b := 26) (by omega) (by decide))) (fun _ => ?_)
      refine jj_go C 1 rfl ?_
      refine jj_getf C rfl fl_PT_9 ho3 rfl ?_
      refine jj_go C 1 rfl ?_
      refine jj_iald C (j := j) rfl hsf3 hv (by omega) (by decide) ?_
      rcases hP j (by omega) with ⟨w1, w2⟩ | ⟨p, w1, w3, w2, w4⟩
      · rw [w2]
        refine jj_if C rfl (fun _ => ?_) (fun z9 => absurd rfl z9)
        refine jj_go C 2 rfl ?_
        have e1 := px_ord_none (t := t) w1
        exact ih (j + 1) (v + 1) h3 b3 m3 kc ks (by rw [hv, nI_1]) (by omega) (by rw [e1]; exact hs3) hb3 hf3 (by rw [e1]; exact hkc) hks
      · obtain ⟨v1, v2⟩ := hV j p (by omega) w1
        have e1 := px_ord_some (t := t) w1
        generalize hE : px_re t true (p + 2) = E at v1 v2 w4 e1
        rw [w2]
        refine jj_if C rfl (fun z9 => absurd z9 (nI_ne0 (by omega) (by omega))) (fun _ => ?_)
        have hlen1 : (px_ord t P (j + 1)).length = (px_ord t P j).length + ((if px_ord t P j = [] then 0 else 1) + (E - p)) := by
          rw [e1, List.length_append, List.length_append, px_seg_len v2]
          congr 2
          split <;> rfl
        have hne1 : px_ord t P (j + 1) ≠ [] := fun q9 => by
          rw [q9] at hlen1
          simp only [List.length_nil] at hlen1
          omega
        have hkb : kc + 1 + (E - p) ≤ 4 + (d + 1) + (px_ord t P (j + 1)).length := by
          rw [hlen1]
          by_cases hq : px_ord t P j = []
          · rw [if_pos hq] at hkc ⊢
            omega
          · rw [if_neg hq] at hkc ⊢
            omega
        refine jj_go C 2 rfl ?_
        refine jj_callS C rfl ml_PT_79 wd_410 (pt_separate (ls := d + 1) hs3 (by omega) (by omega)) (rest := []) rfl rfl ⟨Nat.le_of_ble_eq_true rfl, Nat.le_of_ble_eq_true rfl⟩ (show kc + 1 ≤ 66 by omega) (show ks + 142 ≤ 9300 by omega) (Nat.zero_le _) ?_
        rintro r h4 ⟨rfl, b4, m4, hs4, hb4, hf4⟩
        have hf4' := jj_fr_new hf3 hz hb3 hf4
        have hb4' := jj_new_none hf3 hb3 hb4
        have hp4 : pt_at aC h4 pt tx txb st en t Sf Ef (nI d) (jb_I ob) fm := hp.keep2 hf4' ⟨List.not_mem_nil, List.not_mem_nil, List.not_mem_nil, List.not_mem_nil, List.not_mem_nil⟩
        have hp4' := hp4
        obtain ⟨ho4, hst4, hsf4, hef4, -⟩ := hp4'
        have e2 : (px_seg t 0 (d + 1) ++ px_ord t P j) ++ (if d + 1 < (px_seg t 0 (d + 1) ++ px_ord t P j).length then [44] else []) = px_seg t 0 (d + 1) ++ (px_ord t P j ++ (if px_ord t P j = [] then [] else [44])) := by
          rw [List.append_assoc]
          congr 2
          rw [hul]
          by_cases hq : px_ord t P j = []
          · rw [if_pos hq, hq, if_neg (by simp)]
          · have : 0 < (px_ord t P j).length := List.length_pos_iff.mpr hq
            rw [if_neg hq, if_pos (by omega)]
        rw [e2] at hs4
        refine jj_go C 2 rfl ?_
        refine jj_getf C rfl fl_PT_9 ho4 rfl ?_
        refine jj_go C 1 rfl ?_
        refine jj_iald C (j := j) rfl hsf4 hv (by omega) (by decide) ?_
        refine jj_top w2 ?_
        refine jj_go C 2 rfl ?_
        refine jj_top (show nI (p + 2) - 2 = nI p from pk_sub (a := p + 2) (b := 2) (by omega)) ?_
        refine jj_go C 1 rfl ?_
        refine jj_getf C rfl fl_PT_15 ho4 rfl ?_
        refine jj_go C 1 rfl ?_
        refine jj_iald C (j := j) rfl hef4 hv (by omega) (by decide) ?_
        refine jj_top w4 ?_
        refine jj_go C 1 rfl ?_
        have hcp := pt_copy (l := l) (D := D) (base := base) (p := p) (n := E - p) hp4 hs4 (hp.off hz hb4') (by omega) (by
          rw [List.length_append, List.length_append, px_seg_len (by omega)]
          split <;> simp <;> omega)
        rw [show p + (E - p) = E by omega] at hcp
        refine jj_callV C rfl ml_PT_74 wd_405 ho4 rfl se_PT_PT_copy (As := [.int (nI p), .int (nI E), .ref z]) hcp (rest := []) rfl rfl ⟨Nat.le_refl _, Nat.le_of_ble_eq_true rfl⟩ (show kc + 1 + (E - p) ≤ 66 by omega) (show ks + 142 + 142 * (E - p) ≤ 9300 by omega) (Nat.zero_le _) ?_
        rintro r h5 ⟨rfl, b5, m5, hs5, hb5, hf5⟩
        have hf5' := jj_fr_new hf4' hz hb4' hf5
        have hb5' := jj_new_none hf4' hb4' hb5
        refine jj_go C 2 rfl ?_
        rw [List.append_assoc, List.append_assoc, ← e1] at hs5
        refine ih (j + 1) (v + 1) h5 b5 m5 _ _ (by rw [hv, nI_1]) (by omega) hs5 hb5' hf5' ?_ (show ks + 142 + 142 * (E - p) ≤ 20 + 142 * (kc + 1 + (E - p)) by omega)
        rw [if_neg hne1]
        exact hkb
  refine jj_go C 3 rfl ?_
  refine loop 26 0 _ h2 b2 m2 _ _ nI_0.symm (by omega) ?_ hb2' hf2' ?_ (show 0 + 4 + 16 + 142 * (d + 1) + 0 ≤ 20 + 142 * (0 + 1 + 1 + (d + 1) + 0) by omega)
  · show kx_SB aC h2 z b2 m2 (px_seg t 0 (d + 1) ++ [])
    rw [List.append_nil]
    exact hs2
  · show 0 + 1 + 1 + (d + 1) + 0 + 1 ≤ 4 + (d + 1) + 0
    omega
end PT5
end
section
/-! Pure: what a list's reading says of its places; the form is as long as the text; names are patterns without ? and * -/
theorem px_end_al {t : List Nat} {w : Bool} : ∀ (n q i : Nat), q ≤ i → i < px_end t w n q → i < t.length ∧ pc_al (t.getD i 0) w = true
  | 0, q, i, h1, h2 => by
    have h2 : i < q := h2
    omega
  | n + 1, q, i, h1, h2 => by
    unfold px_end at h2
    split at h2
    next hc =>
      by_cases hi : i = q
      · subst hi
        exact hc
      · exact px_end_al n (q + 1) i (by omega) h2
    next => omega
/-- it stops at the end or at a letter that isn't allowed -/
theorem px_end_stop {t : List Nat} {w : Bool} : ∀ (n q : Nat), t.length ≤ q + n → px_end t w n q < t.length → pc_al (t.getD (px_end t w n q) 0) w = false
  | 0, q, h1, h2 => by
    have h2 : q < t.length := h2
    omega
  | n + 1, q, h1, h2 => by
    unfold px_end at h2 ⊢
    split
    next hc =>
      rw [if_pos hc] at h2
      exact px_end_stop n (q + 1) (by omega) h2
    next hc =>
      rw [if_neg hc] at h2
      cases hb : pc_al (t.getD q 0) w with
      | false => rfl
      | true => exact absurd ⟨h2, hb⟩ hc
theorem px_re_al {t : List Nat} {w : Bool} {q i : Nat} (h1 : q ≤ i) (h2 : i < px_re t w q) : i < t.length ∧ pc_al (t.getD i 0) w = true := px_end_al _ _ _ h1 h2
theorem px_re_stop {t : List Nat} {w : Bool} {q : Nat} (h : px_re t w q < t.length) : pc_al (t.getD (px_re t w q) 0) w = false := px_end_stop _ _ (by omega) h
theorem px_re_ge {t : List Nat} {w : Bool} {q : Nat} : q ≤ px_re t w q := px_end_le _ _
theorem px_re_max {t : List Nat} {w : Bool} {q : Nat} : px_re t w q ≤ max q t.length := px_end_max _ _
/-- the row ends where all before is allowed and this isn't -/
theorem px_re_eq {t : List Nat} {w : Bool} {q c : Nat} (h0 : q ≤ c) (h1 : ∀ i, q ≤ i → i < c → i < t.length ∧ pc_al (t.getD i 0) w = true) (h2 : c ≤ t.length) (h3 : c = t.length ∨ pc_al (t.getD c 0) w = false) : px_re t w q = c := by
  have a1 := px_re_ge (t := t) (w := w) (q := q)
  have a2 := px_re_max (t := t) (w := w) (q := q)
  by_cases hlt : px_re t w q < c
  · have b1 := (h1 _ a1 hlt)
    have b2 := px_re_stop (t := t) (w := w) (q := q) b1.1
    rw [b2] at b1
    cases b1.2
  · by_cases hgt : c < px_re t w q
    · have b1 := px_re_al (t := t) (w := w) h0 hgt
      rcases h3 with h3 | h3
      · omega
      · rw [h3] at b1
        cases b1.2
    · omega
/-- a place of a key, as a list's reading gives it -/
def px_gd (t : List Nat) (w : Bool) (k p : Nat) : Prop := pc_sm (t.getD p 0) = true ∧ t.getD p 0 = 97 + k ∧ t.getD (p + 1) 0 = 61 ∧ p + 3 ≤ px_re t w (p + 2) ∧ px_re t w (p + 2) ≤ p + 6 ∧ px_re t w (p + 2) ≤ t.length ∧ (px_re t w (p + 2) = t.length ∨ t.getD (px_re t w (p + 2)) 0 = 44)
theorem px_ls_gd {t : List Nat} {w : Bool} : ∀ (n p : Nat) (P : Nat → Option Nat), (px_ls t w n p P).1 = true → (∀ k q, P k = some q → px_gd t w k q) → ∀ k q, (px_ls t w n p P).2.1 k = some q → px_gd t w k q
  | 0, p, P, h, hP => by cases h
  | n + 1, p, P, h, hP => by
    unfold px_ls at h ⊢
    by_cases h0 : w = true ∧ p + 1 = t.length ∧ t.getD p 0 = 42
    · rw [if_pos h0] at h ⊢
      exact hP
    rw [if_neg h0] at h ⊢
    by_cases h1 : pc_sm (t.getD p 0) = true ∧ t.getD (p + 1) 0 = 61
    rotate_left
    · rw [if_neg h1] at h
      cases h
    rw [if_pos h1] at h ⊢
    by_cases h2 : (P (t.getD p 0 - 97)).isSome = true
    · rw [if_pos h2] at h
      cases h
    rw [if_neg h2] at h ⊢
    by_cases h3 : px_re t w (p + 2) < p + 3 ∨ p + 6 < px_re t w (p + 2)
    · rw [if_pos h3] at h
      cases h
    rw [if_neg h3] at h ⊢
    have hm := px_re_max (t := t) (w := w) (q := p + 2)
    have hk := pc_sm_i.mp h1.1
    have good : (px_re t w (p + 2) = t.length ∨ t.getD (px_re t w (p + 2)) 0 = 44) → ∀ k q, va_up P (t.getD p 0 - 97) (some p) k = some q → px_gd t w k q := by
      intro he k q hq
      by_cases hkc : k = t.getD p 0 - 97
      · subst hkc
        simp only [va_up, if_true] at hq
        cases hq
        exact ⟨h1.1, by omega, h1.2, by omega, by omega, by omega, he⟩
      · simp only [va_up, if_neg hkc] at hq
        exact hP k q hq
    by_cases h4 : px_re t w (p + 2) = t.length
    · rw [if_pos h4]
      exact good (Or.inl h4)
    rw [if_neg h4] at h ⊢
    by_cases h5 : t.getD (px_re t w (p + 2)) 0 = 44
    · rw [if_pos h5] at h ⊢
      exact px_ls_gd n _ _ h (good (Or.inr h5))
    · rw [if_neg h5] at h
      cases h
/-- the places' lengths, with a comma each -/
def px_sm (t : List Nat) (w : Bool) (P : Nat → Option Nat) : Nat → Nat
  | 0 => 0
  | j + 1 => px_sm t w P j + (match P j with
    | none => 0
    | some p => px_re t w (p + 2) - p + 1)
theorem px_sm_up {t : List Nat} {w : Bool} {P : Nat → Option Nat} {c p : Nat} (hc : P c = none) : ∀ j, px_sm t w (va_up P c (some p)) j = px_sm t w P j + (if c < j then px_re t w (p + 2) - p + 1 else 0)
  | 0 => by simp [px_sm]
  | j + 1 => by
    unfold px_sm
    rw [px_sm_up hc j]
    by_cases hj : j = c
    · subst hj
      simp [va_up, hc]
    · simp only [va_up, if_neg hj]
      by_cases h1 : c < j
      · rw [if_pos h1, if_pos (by omega)]
        omega
      · rw [if_neg h1, if_neg (by omega)]
        omega
theorem px_ls_sm {t : List Nat} {w : Bool} : ∀ (n p : Nat) (P : Nat → Option Nat), (px_ls t w n p P).1 = true → px_sm t w (px_ls t w n p P).2.1 26 + p = px_sm t w P 26 + (if (px_ls t w n p P).2.2 = true then t.length - 1 else t.length + 1)
  | 0, p, P, h => by cases h
  | n + 1, p, P, h => by
    unfold px_ls at h ⊢
    by_cases h0 : w = true ∧ p + 1 = t.length ∧ t.getD p 0 = 42
    · rw [if_pos h0] at h ⊢
      simp
      omega
    rw [if_neg h0] at h ⊢
    by_cases h1 : pc_sm (t.getD p 0) = true ∧ t.getD (p + 1) 0 = 61
    rotate_left
    · rw [if_neg h1] at h
      cases h
    rw [if_pos h1] at h ⊢
    by_cases h2 : (P (t.getD p 0 - 97)).isSome = true
    · rw [if_pos h2] at h
      cases h
    rw [if_neg h2] at h ⊢
    by_cases h3 : px_re t w (p + 2) < p + 3 ∨ p + 6 < px_re t w (p + 2)
    · rw [if_pos h3] at h
      cases h
    rw [if_neg h3] at h ⊢
    have hn : P (t.getD p 0 - 97) = none := by
      cases hv : P (t.getD p 0 - 97) with
      | none => rfl
      | some x => rw [hv] at h2; exact absurd rfl h2
    have hk := pc_sm_i.mp h1.1
    have hup := px_sm_up (t := t) (w := w) (p := p) hn 26
    rw [if_pos (by omega)] at hup
    by_cases h4 : px_re t w (p + 2) = t.length
    · rw [if_pos h4]
      simp only [hup]
      rw [if_neg (by decide)]
      omega
    rw [if_neg h4] at h ⊢
    by_cases h5 : t.getD (px_re t w (p + 2)) 0 = 44
    · rw [if_pos h5] at h ⊢
      have := px_ls_sm n _ _ h
      omega
    · rw [if_neg h5] at h
      cases h
theorem px_sm_none {t : List Nat} {w : Bool} : ∀ j, px_sm t w (fun _ => none) j = 0
  | 0 => rfl
  | j + 1 => by
    unfold px_sm
    rw [px_sm_none j]
    rfl
theorem px_ord_sm {t : List Nat} {P : Nat → Option Nat} (hV : ∀ k q, P k = some q → q + 3 ≤ px_re t true (q + 2) ∧ px_re t true (q + 2) ≤ t.length) : ∀ j, (px_ord t P j).length + (if px_ord t P j = [] then 0 else 1) = px_sm t true P j
  | 0 => rfl
  | j + 1 => by
    have ih := px_ord_sm hV j
    cases h : P j with
    | none =>
      rw [px_ord_none h]
      unfold px_sm
      rw [h]
      exact ih
    | some p =>
      obtain ⟨v1, v2⟩ := hV j p h
      rw [px_ord_some h]
      unfold px_sm
      rw [h]
      have hne : ¬ px_ord t P j ++ ((if px_ord t P j = [] then [] else [44]) ++ px_seg t p (px_re t true (p + 2))) = [] := fun q => by
        have := congrArg List.length q
        rw [List.length_append, List.length_append, px_seg_len v2] at this
        simp only [List.length_nil] at this
        omega
      rw [if_neg hne, List.length_append, List.length_append, px_seg_len v2]
      show _ = px_sm t true P j + (px_re t true (p + 2) - p + 1)
      rw [← ih]
      by_cases hq : px_ord t P j = []
      · rw [if_pos hq, if_pos hq]
        simp only [List.length_nil]
        omega
      · rw [if_neg hq, if_neg hq]
        simp only [List.length_cons, List.length_nil]
        omega
/-- the form is as long as the text -/
theorem px_form_len {t : List Nat} {d : Nat} (hd : d < t.length) (h : (px_ls t true 60 (d + 1) (fun _ => none)).1 = true) : (px_form t d (px_ls t true 60 (d + 1) (fun _ => none)).2.1 (px_ls t true 60 (d + 1) (fun _ => none)).2.2).length = t.length := by
  have h1 := px_ls_sm 60 (d + 1) (fun _ => none) h
  have h2 := px_ls_gd 60 (d + 1) (fun _ => none) h (fun k q hq => by cases hq)
  rw [px_sm_none] at h1
  generalize px_ls t true 60 (d + 1) (fun _ => none) = G at h h1 h2 ⊢
  obtain ⟨ok, P, ob⟩ := G
  dsimp only at h h1 h2 ⊢
  have h3 := px_ord_sm (t := t) (P := P) (fun k q hq => ⟨(h2 k q hq).2.2.2.1, (h2 k q hq).2.2.2.2.2.1⟩) 26
  unfold px_form px_tail
  rw [List.length_append, List.length_append, px_seg_len (by omega)]
  cases ob with
  | true =>
    rw [if_pos rfl] at h1 ⊢
    by_cases hq : px_ord t P 26 = []
    · rw [if_pos hq] at h3 ⊢
      simp only [List.length_cons, List.length_nil]
      omega
    · rw [if_neg hq] at h3 ⊢
      simp only [List.length_cons, List.length_nil]
      omega
  | false =>
    rw [if_neg (by decide)] at h1 ⊢
    by_cases hq : px_ord t P 26 = []
    · rw [if_pos hq] at h3
      rw [hq] at h3 ⊢
      simp only [List.length_nil] at h3 ⊢
      omega
    · rw [if_neg hq] at h3
      simp only [List.length_nil]
      omega
end
section
/-! The class's Pattern: new, parse; String.indexOf; isName -/
/-- is a text a pattern? -/
def px_pa (t : List Nat) : Bool := Nat.ble (px_re t true 0) 6 && (Nat.blt (px_re t true 0) t.length && (t.getD (px_re t true 0) 0 == 58 && (px_ls t true 60 (px_re t true 0 + 1) (fun _ => none)).1))
/-- its places, and whether it ends in * -/
abbrev px_pl (t : List Nat) : Bool × (Nat → Option Nat) × Bool := px_ls t true 60 (px_re t true 0 + 1) (fun _ => none)
/-- its form -/
def px_fo (t : List Nat) : List Nat := px_form t (px_re t true 0) (px_pl t).2.1 (px_pl t).2.2
theorem px_pa_i {t : List Nat} : px_pa t = true ↔ px_re t true 0 ≤ 6 ∧ px_re t true 0 < t.length ∧ t.getD (px_re t true 0) 0 = 58 ∧ (px_pl t).1 = true := by
  unfold px_pa
  simp only [Bool.and_eq_true, Nat.ble_eq, beq_iff_eq, Nat.blt, Nat.succ_le]
theorem px_fo_len {t : List Nat} (h : px_pa t = true) : (px_fo t).length = t.length := by
  obtain ⟨h1, h2, h3, h4⟩ := px_pa_i.mp h
  exact px_form_len h2 h4
theorem px_pl_V {t : List Nat} (h : (px_pl t).1 = true) : px_V t (px_pl t).2.1 := fun k p _ hk => by
  have := px_ls_gd 60 _ _ h (fun k q hq => by cases hq) k p hk
  exact ⟨by have := this.2.2.2.1; omega, this.2.2.2.2.2.1⟩
section PT6
variable {l : Launch} {D : va_G} {aC : Nat → ClassId} {base : Nat} {h : jjHp}
theorem pt_init {x tx : Nat} (ho : h x = some (.inr (3, [.null, .null, .null, .int 0, .int 0, .null]))) : jj_Ct l D aC base yn_PT_init yb_PT_init 2 none 1 2 52 [.ref x, .ref tx] h (fun r h' => r = none ∧ ∃ st en, jj_OI h h' x 3 [.ref tx, .ref st, .ref en, .int 0, .int 0, .ref (aC 100)] [(2, en, .inl (aC 0, 26, .inl (fun _ => 0))), (1, st, .inl (aC 0, 26, .inl (fun _ => 0)))]) := by
  refine jj_start (tb := tb_PT_init) (by decide) tg_PT_init (Nat.le_of_ble_eq_true rfl) ?_
  intro p e s m args below meth c C
  refine jj_go C 1 rfl ?_
  refine jj_objI C rfl wd_333 wd_29 wd_30 ⟨Nat.le_of_ble_eq_true rfl, Nat.le_of_ble_eq_true rfl⟩ (Nat.zero_le _) ?_
  have hI := jj_OI.start ho
  refine jj_go C 2 rfl ?_
  refine jj_arrF C hI 0 (N := 26) (a0 := (26, .inl (fun _ => 0))) rfl wd_103 rfl rfl (fun _ => rfl) rfl (by decide) (Nat.le_of_ble_eq_true rfl) (Nat.le_of_ble_eq_true rfl) rfl fp_PT_9 rfl (Nat.le_of_ble_eq_true rfl) (fun st h1 hI => ?_)
  refine jj_go C 2 rfl ?_
  refine jj_arrF C hI 0 (N := 26) (a0 := (26, .inl (fun _ => 0))) rfl wd_103 rfl rfl (fun _ => rfl) rfl (by decide) (Nat.le_of_ble_eq_true rfl) (Nat.le_of_ble_eq_true rfl) rfl fp_PT_15 rfl (Nat.le_of_ble_eq_true rfl) (fun en h2 hI => ?_)
  refine jj_go C 2 rfl ?_
  refine jj_numF C hI rfl fl_PT_18 rfl rfl (Nat.le_of_ble_eq_true rfl) (fun h3 hI => ?_)
  refine jj_go C 2 rfl ?_
  refine jj_numF C hI rfl fl_PT_22 rfl rfl (Nat.le_of_ble_eq_true rfl) (fun h4 hI => ?_)
  refine jj_go C 1 rfl ?_
  refine jj_ldcs C rfl (Or.inr ⟨rfl, rfl⟩) ?_
  refine jj_numF C hI rfl fl_PT_28 rfl rfl (Nat.le_of_ble_eq_true rfl) (fun h5 hI => ?_)
  refine jj_go C 2 rfl ?_
  refine jj_putF C rfl fp_PT_32 rfl hI.1 rfl rfl (Nat.le_of_ble_eq_true rfl) ?_
  exact jj_vret C rfl rfl (Nat.le_of_ble_eq_true rfl) (Nat.le_of_ble_eq_true rfl) ⟨rfl, st, en, hI.put⟩
variable {pt tx txb st en : Nat} {t : List Nat} {Sf Ef : Nat → Int32} {dm op : Int32} {fm : Value}
/-- a field of the Pattern itself is put -/
theorem pt_at.put {dm' op' : Int32} {fm' : Value} {fs : List Value} (hp : pt_at aC h pt tx txb st en t Sf Ef dm op fm) (hfs : fs = [.ref tx, .ref st, .ref en, .int dm', .int op', fm']) : pt_at aC (jj_up h pt (.inr (3, fs))) pt tx txb st en t Sf Ef dm' op' fm' := by
  subst hfs
  obtain ⟨ho, hs, hst, hen, n⟩ := hp
  have np1 : st ≠ pt := kx_ne (m := 0) (aC := aC) ho hst
  have np2 : en ≠ pt := kx_ne (m := 0) (aC := aC) ho hen
  obtain ⟨fs0, hrc⟩ := hs.recv
  have npt : tx ≠ pt := fun q9 => by rw [q9, ho] at hrc; cases hrc
  have npb : txb ≠ pt := by
    obtain ⟨_, _, _, -, hvb, -⟩ := hs
    exact kx_ne (m := 0) (aC := aC) ho hvb
  have hf0 : jj_fr [pt] h (jj_up h pt (.inr (3, [.ref tx, .ref st, .ref en, .int dm', .int op', fm']))) := jj_fr.rf.up (Or.inl List.mem_cons_self)
  exact ⟨jj_up_s, hs.keep hf0 (fun q9 => npt (List.mem_singleton.mp q9)) (fun q9 => npb (List.mem_singleton.mp q9)), (jj_up_n np1).trans hst, (jj_up_n np2).trans hen, n⟩
theorem pt_parse (hp : pt_at aC h pt tx txb st en t (fun _ => 0) (fun _ => 0) 0 0 (.ref (aC 100))) : jj_Ct l D aC base yn_PT_parse yb_PT_parse 1 (some .boolean) 8 66 9300 [.ref pt] h (fun r h' => r = some (.int (jb_I (px_pa t))) ∧ jj_fr [pt, st, en] h h' ∧ (∃ Sf Ef dm op fm, pt_at aC h' pt tx txb st en t Sf Ef dm op (.ref fm)) ∧ (px_pa t = true → ∃ Sf Ef fm fmb, pt_at aC h' pt tx txb st en t Sf Ef (nI (px_re t true 0)) (jb_I (px_pl t).2.2) (.ref fm) ∧ px_s t Sf Ef (px_pl t).2.1 ∧ kx_ST aC h' fm fmb (px_fo t) ∧ h fm = none ∧ h fmb = none)) := by
  have hlen : t.length ≤ 60 := hp.2.2.2.2.2.2.2
  have hre : px_re t true 0 ≤ t.length := by have := px_re_max (t := t) (w := true) (q := 0); omega
  refine jj_start (tb := tb_PT_parse) (by decide) tg_PT_parse (Nat.le_of_ble_eq_true rfl) ?_
  intro p e s m args below meth c C
  have ho := hp.1
  refine jj_go C 3 rfl ?_
  refine jj_callV C rfl ml_PT_35 wd_361 ho rfl se_PT_PT_rowEnd (As := [.int 0]) (pt_rowEnd (q := 0) hp (by decide)) (rest := [.ref pt]) rfl rfl ⟨Nat.le_of_ble_eq_true rfl, Nat.le_of_ble_eq_true rfl⟩ (Nat.zero_le _) (Nat.zero_le _) (Nat.le_of_ble_eq_true rfl) ?_
  rintro q9 h9 ⟨rfl, hh9⟩
  rw [hh9]
  refine jj_putf C rfl fl_PT_18 ho rfl rfl (Nat.le_of_ble_eq_true rfl) ?_
  have hp1 := hp.put (dm' := nI (px_re t true 0)) (op' := 0) (fm' := .ref (aC 100)) rfl
  have hf1 : jj_fr [pt, st, en] h (jj_up h pt (.inr (3, [.ref tx, .ref st, .ref en, .int (nI (px_re t true 0)), .int 0, .ref (aC 100)]))) := jj_fr.rf.up (Or.inl List.mem_cons_self)
  refine jj_eq (h' := jj_up h pt (.inr (3, [.ref tx, .ref st, .ref en, .int (nI (px_re t true 0)), .int 0, .ref (aC 100)]))) rfl rfl rfl rfl ?_
  generalize (jj_up h pt (.inr (3, [.ref tx, .ref st, .ref en, .int (nI (px_re t true 0)), .int 0, .ref (aC 100)]))) = h1 at hp1 hf1 ⊢
  have ho1 := hp1.1
  have hs1 := hp1.2.1
  obtain ⟨fs1, hrc1⟩ := hs1.recv
  have no : ∀ (h2 : jjHp) (Sf Ef : Nat → Int32) (dm op : Int32) (fm : Nat) (pc : Nat) (lc : jjLoc), jj_look tb_PT_parse pc = some (.ireturn, pc + 1, 0, 0) → px_pa t = false → jj_fr [pt, st, en] h h2 → pt_at aC h2 pt tx txb st en t Sf Ef dm op (.ref fm) → jj_J p l e (jj_rm 8 66 9300) s m args below meth c D base 1 (MQ below (jj_Q D base (fun r h' => r = some (.int (jb_I (px_pa t))) ∧ jj_fr [pt, st, en] h h' ∧ (∃ Sf Ef dm op fm, pt_at aC h' pt tx txb st en t Sf Ef dm op (.ref fm)) ∧ (px_pa t = true → ∃ Sf Ef fm fmb, pt_at aC h' pt tx txb st en t Sf Ef (nI (px_re t true 0)) (jb_I (px_pl t).2.2) (.ref fm) ∧ px_s t Sf Ef (px_pl t).2.1 ∧ kx_ST aC h' fm fmb (px_fo t) ∧ h fm = none ∧ h fmb = none))) args s 66 9300 (jj_A base)) pc lc [.int 0] h2 0 0 :=
    fun h2 Sf Ef dm op fm pc lc hl hn hf hp => jj_iret C hl rfl rfl (Nat.zero_le _) (Nat.zero_le _) ⟨by rw [hn]; rfl, hf, ⟨Sf, Ef, dm, op, fm, hp⟩, fun q => by rw [hn] at q; cases q⟩
  refine jj_go C 1 rfl ?_
  refine jj_getf C rfl fl_PT_18 ho1 rfl ?_
  refine jj_go C 1 rfl ?_
  refine jj_if C rfl (fun z => ?_) (fun z => ?_)
  · have g := (nI_ltI (a := 6) (b := px_re t true 0) (by decide) (by omega)).mp z
    refine jj_go C 1 rfl ?_
    exact no h1 _ _ _ _ _ _ _ rfl (pb_f px_pa_i (by omega)) hf1 hp1
  have g6 : ¬ 6 < px_re t true 0 := fun q => z ((nI_ltI (a := 6) (b := px_re t true 0) (by decide) (by omega)).mpr q)
  refine jj_go C 1 rfl ?_
  refine jj_getf C rfl fl_PT_18 ho1 rfl ?_
  refine jj_go C 1 rfl ?_
  refine jj_getf C rfl fl_PT_32 ho1 rfl ?_
  refine jj_callV C rfl ml_PT_39 wd_364 hrc1 rfl se_ST_ST_length (kt_ST_length hs1) (rest := [.int (nI (px_re t true 0))]) rfl rfl ⟨Nat.le_of_ble_eq_true rfl, Nat.le_of_ble_eq_true rfl⟩ (Nat.zero_le _) (Nat.zero_le _) (Nat.le_of_ble_eq_true rfl) ?_
  rintro q9 h9 ⟨rfl, hh9⟩
  rw [hh9]
  refine jj_if C rfl (fun z => ?_) (fun z => ?_)
  · have g := (nI_leI (a := t.length) (b := px_re t true 0) (by omega) (by omega)).mp z
    refine jj_go C 1 rfl ?_
    exact no h1 _ _ _ _ _ _ _ rfl (pb_f px_pa_i (by omega)) hf1 hp1
  have gl : px_re t true 0 < t.length := Nat.not_le.mp (fun q => z (nI_le q (by omega)))
  have hcd := hs1.lt (px_re t true 0)
  refine jj_go C 1 rfl ?_
  refine jj_getf C rfl fl_PT_32 ho1 rfl ?_
  refine jj_go C 1 rfl ?_
  refine jj_getf C rfl fl_PT_18 ho1 rfl ?_
  refine jj_callV C rfl ml_PT_45 wd_372 hrc1 rfl se_ST_ST_charAt (kt_ST_charAt hs1 gl (by omega)) (rest := []) rfl rfl ⟨Nat.le_of_ble_eq_true rfl, Nat.le_of_ble_eq_true rfl⟩ (Nat.zero_le _) (Nat.zero_le _) (Nat.zero_le _) ?_
  rintro q9 h9 ⟨rfl, hh9⟩
  rw [hh9]
  refine jj_go C 1 rfl ?_
  refine jj_if C rfl (fun z => ?_) (fun z => ?_)
  rotate_left
  · have g : ¬ t.getD (px_re t true 0) 0 = 58 := fun q => z (by rw [q]; rfl)
    refine jj_go C 1 rfl ?_
    exact no h1 _ _ _ _ _ _ _ rfl (pb_f px_pa_i (fun q => g q.2.2.1)) hf1 hp1
  have g58 := (nI_eq (b := 58) (by omega) (by decide)).mp z
  refine jj_go C 2 rfl ?_
  refine jj_getf C rfl fl_PT_18 ho1 rfl ?_
  refine jj_go C 2 rfl ?_
  refine jj_top (nI_1 _) ?_
  refine jj_callV C rfl ml_PT_49 wd_391 ho1 rfl se_PT_PT_parseList (pt_parseList (q0 := px_re t true 0 + 1) hp1 ⟨_, rfl⟩ (by omega) (fun k hk => Or.inl ⟨rfl, rfl⟩)) (rest := []) rfl rfl ⟨Nat.le_of_ble_eq_true rfl, Nat.le_of_ble_eq_true rfl⟩ (Nat.zero_le _) (Nat.zero_le _) (Nat.zero_le _) ?_
  rintro r h2 ⟨rfl, S2, E2, o2, hp2, hf2, hg2⟩
  have hf2' := hf1.tr hf2
  show jj_J p l e (jj_rm 8 66 9300) s m args below meth c D base 1 _ _ _ (Value.int (jb_I (px_pl t).1) :: []) h2 _ _
  rcases jb_cases (px_pl t).1 with ⟨b1, b2⟩ | ⟨b1, b2⟩
  · rw [b2]
    obtain ⟨hP2, rfl⟩ := hg2 b1
    have hpa : px_pa t = true := px_pa_i.mpr ⟨by omega, gl, g58, b1⟩
    have ho2 := hp2.1
    refine jj_if C rfl (fun z => absurd z (by decide)) (fun _ => ?_)
    refine jj_go C 2 rfl ?_
    refine jj_callV C rfl ml_PT_53 wd_399 ho2 rfl se_PT_PT_ordered (pt_ordered hp2 hP2 (px_pl_V b1) gl (by have := px_fo_len hpa; unfold px_fo at this; rw [this]; exact hlen)) (rest := [.ref pt]) rfl rfl ⟨Nat.le_refl _, Nat.le_of_ble_eq_true rfl⟩ (Nat.le_refl _) (Nat.le_refl _) (Nat.le_of_ble_eq_true rfl) ?_
    rintro r h3 ⟨zz, qq, rfl, hzz, hqq, hst3, hf3⟩
    have hp3 : pt_at aC h3 pt tx txb st en t S2 E2 (nI (px_re t true 0)) (jb_I (px_pl t).2.2) (.ref (aC 100)) := hp2.keep2 hf3 ⟨List.not_mem_nil, List.not_mem_nil, List.not_mem_nil, List.not_mem_nil, List.not_mem_nil⟩
    have hf3' := hf2'.tr (hf3.mono (T := [pt, st, en]) (fun a ha => absurd ha List.not_mem_nil))
    refine jj_putf C rfl fl_PT_28 hp3.1 rfl rfl (Nat.le_of_ble_eq_true rfl) ?_
    refine jj_go C 1 rfl ?_
    have hp4 := hp3.put (dm' := nI (px_re t true 0)) (op' := jb_I (px_pl t).2.2) (fm' := .ref zz) rfl
    have hnz : zz ≠ pt := fun q => by rw [q, ho2] at hzz; cases hzz
    have hnq : qq ≠ pt := fun q => by rw [q, ho2] at hqq; cases hqq
    have fresh : ∀ c, h2 c = none → c ≠ pt → h c = none := by
      intro c hc hcp
      cases hv : h c with
      | none => rfl
      | some e =>
        have n1 : c ∉ [pt, st, en] := fun q => by
          rcases List.mem_cons.mp q with q | q
          · exact hcp q
          · rcases List.mem_cons.mp q with q | q
            · rw [q, hp2.2.2.1] at hc
              cases hc
            · rw [List.mem_singleton.mp q, hp2.2.2.2.1] at hc
              cases hc
        have := hf2' c e n1 hv
        rw [hc] at this
        cases this
    have hfx : jj_fr [pt] h3 (jj_up h3 pt (.inr (3, [.ref tx, .ref st, .ref en, .int (nI (px_re t true 0)), .int (jb_I (px_pl t).2.2), .ref zz]))) := jj_fr.rf.up (Or.inl List.mem_cons_self)
    refine jj_iret C rfl rfl rfl (Nat.le_refl _) (Nat.le_refl _) ⟨by rw [hpa]; rfl, hf3'.up (Or.inl List.mem_cons_self), ⟨_, _, _, _, zz, hp4⟩, fun _ => ⟨_, _, zz, qq, hp4, hP2, hst3.keep hfx (fun q => hnz (List.mem_singleton.mp q)) (fun q => hnq (List.mem_singleton.mp q)), fresh zz hzz hnz, fresh qq hqq hnq⟩⟩
  · rw [b2]
    refine jj_if C rfl (fun _ => ?_) (fun z => absurd rfl z)
    refine jj_go C 1 rfl ?_
    exact no h2 S2 E2 _ o2 _ _ _ rfl (pb_f px_pa_i (fun q => by rw [b1] at q; cases q.2.2.2)) hf2' hp2
end PT6
end
section
/-! String.indexOf; isName, patternIn, taken, takenName -/
def px_no (t : List Nat) (k : Nat) : Bool := t.all (fun c => !(c == k))
theorem px_no_i {t : List Nat} {k : Nat} : px_no t k = true ↔ ∀ i, i < t.length → ¬ t.getD i 0 = k := by
  unfold px_no
  rw [List.all_eq_true]
  constructor
  · intro h i hi
    have := h t[i] (List.getElem_mem hi)
    rw [List.getD_eq_getElem?_getD, List.getElem?_eq_getElem hi]
    simpa using this
  · intro h c hc
    obtain ⟨i, hi, rfl⟩ := List.getElem_of_mem hc
    have := h i hi
    rw [List.getD_eq_getElem?_getD, List.getElem?_eq_getElem hi] at this
    simpa using this
theorem ky_i2b : ∀ k, k < 128 → (nI k).toInt8.toInt32 = nI k := by decide +kernel
theorem jj_SEL.mk {C : String} {y : MethodName} (w : Cond.selects C y y ∈ jj_gw) : jj_SEL C y := fun _ _ h => h _ w
section NM
variable {l : Launch} {D : va_G} {aC : Nat → ClassId} {base : Nat} {h : jjHp}
theorem kx_SL_canEncode2 {k : Nat} (hk : k < 256) : jj_Ct l D aC base yn_SL_canEncode2 yb_SL_canEncode2 1 (some .boolean) 0 0 0 [.int (nI k)] h (fun r h' => r = some (.int 1) ∧ h' = h) := by
  refine jj_start (tb := tb_SL_canEncode2) (by decide) tg_SL_canEncode2 (Nat.le_of_ble_eq_true rfl) ?_
  intro p e s m args below meth c C
  refine jj_go C 1 rfl ?_
  refine jj_if C rfl (fun hc => absurd hc (nI_pos (by omega))) (fun _ => ?_)
  refine jj_go C 2 rfl ?_
  refine jj_if C rfl (fun hc => absurd hc (show ¬ nI 255 < nI k from nI_nlt (by omega) (by decide))) (fun _ => ?_)
  refine jj_go C 2 rfl ?_
  exact jj_iret C rfl rfl rfl (Nat.le_refl _) (Nat.le_refl _) ⟨rfl, rfl⟩
theorem kx_SL_indexOfChar {b n k : Nat} {f : Nat → Int32} (hv : h b = some (kx_ba aC n f)) (hn : n < 65536) (hk : k < 128) : jj_Ct l D aC base yn_SL_indexOfChar yb_SL_indexOfChar 6 (some .int) 0 0 0 [.ref b, .int (nI k), .int 0, .int (nI n)] h (fun r h' => ∃ v : Int32, r = some (.int v) ∧ (0 ≤ v ↔ ∃ i, i < n ∧ f i = nI k) ∧ h' = h) := by
  refine jj_start (tb := tb_SL_indexOfChar) (by decide) tg_SL_indexOfChar (Nat.le_of_ble_eq_true rfl) ?_
  intro p e s m args below meth c C
  have loop : ∀ (q j : Nat) (v : Int32), v = nI j → j + q = n → (∀ i, i < j → ¬ f i = nI k) → jj_J p l e (jj_rm 0 0 0) s m args below meth c D base 6 (MQ below (jj_Q D base (fun r h' => ∃ v : Int32, r = some (.int v) ∧ (0 ≤ v ↔ ∃ i, i < n ∧ f i = nI k) ∧ h' = h)) args s 0 0 (jj_A base)) 7 [(0, .ref b), (1, .int (nI k)), (2, .int 0), (3, .int (nI n)), (4, .int (nI k)), (5, .int v)] [] h 0 0 := by
    intro q
    induction q with
    | zero =>
      intro j v hj hq hi
      refine jj_go C 2 rfl ?_
      refine jj_if C rfl (fun _ => ?_) (fun z => absurd (by rw [hj]; exact nI_le (by omega) (by omega)) z)
      refine jj_go C 1 rfl ?_
      refine jj_iret C rfl rfl rfl (Nat.le_refl _) (Nat.le_refl _) ⟨-1, rfl, ⟨fun z => absurd z (by decide), fun ⟨i, g1, g2⟩ => absurd g2 (hi i (by omega))⟩, rfl⟩
    | succ q ih =>
      intro j v hj hq hi
      have hlt : j < n := by omega
      refine jj_go C 2 rfl ?_
      refine jj_if C rfl (fun z => absurd z (by rw [hj]; exact nI_ge hlt (by omega))) (fun _ => ?_)
      refine jj_go C 2 rfl ?_
      refine jj_bald C rfl hv hj hlt (by omega) ?_
      refine jj_go C 1 rfl ?_
      refine jj_if C rfl (fun z => ?_) (fun z => ?_)
      · refine jj_go C 1 rfl ?_
        exact jj_iret C rfl rfl rfl (Nat.le_refl _) (Nat.le_refl _) ⟨v, rfl, ⟨fun _ => ⟨j, hlt, z⟩, fun _ => by rw [hj]; exact nI_pos' (by omega)⟩, rfl⟩
      · refine jj_go C 2 rfl ?_
        exact ih (j + 1) (v + 1) (by rw [hj, nI_1]) (by omega) (lt_s hi z)
  refine jj_go C 2 rfl ?_
  refine jj_top (ky_i2b k hk) ?_
  refine jj_go C 3 rfl ?_
  exact loop n 0 0 nI_0.symm (by omega) (fun i hi => absurd hi (Nat.not_lt_zero _))
theorem kx_SL_indexOf {b n k : Nat} {f : Nat → Int32} (hv : h b = some (kx_ba aC n f)) (hn : n < 65536) (hk : k < 128) : jj_Ct l D aC base yn_SL_indexOf yb_SL_indexOf 4 (some .int) 1 0 0 [.ref b, .int (nI k), .int 0, .int (nI n)] h (fun r h' => ∃ v : Int32, r = some (.int v) ∧ (0 ≤ v ↔ ∃ i, i < n ∧ f i = nI k) ∧ h' = h) := by
  refine jj_start (tb := tb_SL_indexOf) (by decide) tg_SL_indexOf (Nat.le_of_ble_eq_true rfl) ?_
  intro p e s m args below meth c C
  refine jj_go C 1 rfl ?_
  refine jj_callS C rfl ml_SL_88 wd_430 (kx_SL_canEncode2 (k := k) (by omega)) (rest := []) rfl rfl ⟨Nat.le_refl _, Nat.le_of_ble_eq_true rfl⟩ (Nat.le_refl _) (Nat.le_refl _) (Nat.zero_le _) ?_
  rintro q9 h9 ⟨rfl, hh9⟩
  rw [hh9]
  refine jj_if C rfl (fun z => absurd z (by decide)) (fun _ => ?_)
  refine jj_go C 2 rfl ?_
  refine jj_mmax C rfl wd_432 wd_163 wd_9 wd_164 (Nat.le_refl _) (Nat.le_of_ble_eq_true rfl) (Nat.le_refl _) (Nat.le_refl _) ?_
  refine jj_top (if_neg (by decide)) ?_
  refine jj_go C 3 rfl ?_
  refine jj_alen C 4 rfl hv rfl ?_
  refine jj_mmin C rfl wd_433 wd_181 wd_9 wd_182 (Nat.le_refl _) (Nat.le_of_ble_eq_true rfl) (Nat.le_refl _) (Nat.le_refl _) ?_
  refine jj_top (if_neg (nI_nlt (a := n) (b := n) (Nat.le_refl _) (by omega))) ?_
  refine jj_go C 3 rfl ?_
  refine jj_if C rfl (fun z => ?_) (fun z => ?_)
  · refine jj_go C 4 rfl ?_
    refine jj_callS C rfl ml_SL_95 wd_435 (kx_SL_indexOfChar hv hn hk) (rest := []) rfl rfl ⟨Nat.le_refl _, Nat.le_of_ble_eq_true rfl⟩ (Nat.le_refl _) (Nat.le_refl _) (Nat.zero_le _) ?_
    rintro q9 h9 ⟨v, rfl, hv9, hh9⟩
    exact jj_iret C rfl rfl rfl (Nat.le_refl _) (Nat.le_refl _) ⟨v, rfl, hv9, hh9⟩
  · have hn0 : ¬ 0 < n := fun q => z (nI_lt (a := 0) q (by omega))
    refine jj_go C 1 rfl ?_
    exact jj_iret C rfl rfl rfl (Nat.le_refl _) (Nat.le_refl _) ⟨-1, rfl, ⟨fun z => absurd z (by decide), fun ⟨i, g1, g2⟩ => absurd g1 (by omega)⟩, rfl⟩
theorem kt_ST_indexOf {a b k : Nat} {t : List Nat} (hs : kx_ST aC h a b t) (hl : t.length < 65536) (hk : k < 128) : jj_Ct l D aC base yn_ST_indexOf1 yb_ST_indexOf1 2 (some .int) 3 0 0 [.ref a, .int (nI k)] h (fun r h' => ∃ v : Int32, r = some (.int v) ∧ (0 ≤ v ↔ px_no t k = false) ∧ h' = h) := by
  have hs' := hs
  obtain ⟨hs1, hz, f, ho, hv, htx⟩ := hs'
  have key : (∃ i, i < t.length ∧ f i = nI k) ↔ px_no t k = false := by
    constructor
    · rintro ⟨i, g1, g2⟩
      refine pb_f px_no_i (fun q => q i g1 ?_)
      obtain ⟨x1, x2⟩ := htx i g1
      rw [x1] at g2
      exact (nI_eq (by omega) (by omega)).mp g2
    · intro hno
      refine Classical.byContradiction (fun hc => ?_)
      have : px_no t k = true := px_no_i.mpr (fun i hi q => hc ⟨i, hi, by rw [(htx i hi).1, q]⟩)
      rw [hno] at this
      cases this
  have h2 : jj_Ct l D aC base yn_ST_indexOf2 yb_ST_indexOf2 3 (some .int) 2 0 0 [.ref a, .int (nI k), .int 0] h (fun r h' => ∃ v : Int32, r = some (.int v) ∧ (0 ≤ v ↔ px_no t k = false) ∧ h' = h) := by
    refine jj_start (tb := tb_ST_indexOf2) (by decide) tg_ST_indexOf2 (Nat.le_of_ble_eq_true rfl) ?_
    intro p e s m args below meth c C
    refine jj_go C 1 rfl ?_
    refine jj_callV C rfl ml_ST_492 wd_376 ho rfl se_ST_ST_isLatin1 (kx_ST_isLatin1 ho) (rest := []) rfl rfl ⟨Nat.le_of_ble_eq_true rfl, Nat.le_of_ble_eq_true rfl⟩ (Nat.le_refl _) (Nat.le_refl _) (Nat.zero_le _) ?_
    rintro q9 h9 ⟨rfl, hh9⟩
    rw [hh9]
    refine jj_if C rfl (fun hc => absurd hc (by decide)) (fun _ => ?_)
    refine jj_go C 1 rfl ?_
    refine jj_getf C rfl fl_ST_9 ho rfl ?_
    refine jj_go C 3 rfl ?_
    refine jj_callV C rfl ml_ST_505 wd_364 ho rfl se_ST_ST_length (kx_ST_length ho hv) (rest := [.int 0, .int (nI k), .ref b]) rfl rfl ⟨Nat.le_refl _, Nat.le_of_ble_eq_true rfl⟩ (Nat.le_refl _) (Nat.le_refl _) (Nat.le_of_ble_eq_true rfl) ?_
    rintro q9 h9 ⟨rfl, hh9⟩
    rw [hh9]
    refine jj_callS C rfl ml_ST_637 wd_427 (kx_SL_indexOf hv hl hk) (rest := []) rfl rfl ⟨Nat.le_refl _, Nat.le_of_ble_eq_true rfl⟩ (Nat.le_refl _) (Nat.le_refl _) (Nat.zero_le _) ?_
    rintro q9 h9 ⟨v, rfl, hv9, hh9⟩
    refine jj_go C 1 rfl ?_
    exact jj_iret C rfl rfl rfl (Nat.le_refl _) (Nat.le_refl _) ⟨v, rfl, hv9.trans key, hh9⟩
  refine jj_start (tb := tb_ST_indexOf1) (by decide) tg_ST_indexOf1 (Nat.le_of_ble_eq_true rfl) ?_
  intro p e s m args below meth c C
  refine jj_go C 3 rfl ?_
  refine jj_callV C rfl ml_ST_633 wd_422 ho rfl se_ST_ST_indexOf2 h2 (rest := []) rfl rfl ⟨Nat.le_refl _, Nat.le_of_ble_eq_true rfl⟩ (Nat.le_refl _) (Nat.le_refl _) (Nat.zero_le _) ?_
  rintro q9 h9 ⟨v, rfl, hv9, hh9⟩
  exact jj_iret C rfl rfl rfl (Nat.le_refl _) (Nat.le_refl _) ⟨v, rfl, hv9, hh9⟩
/-- a name: a pattern with a domain, without * and ? -/
def px_nm (t : List Nat) : Bool := Nat.blt 0 (px_re t true 0) && (px_no t 42 && px_no t 63)
variable {pt tx txb st en : Nat} {t : List Nat} {Sf Ef : Nat → Int32} {dm op : Int32} {fm : Value}
theorem pt_isName (hp : pt_at aC h pt tx txb st en t Sf Ef (nI (px_re t true 0)) op fm) : jj_Ct l D aC base yn_PT_isName yb_PT_isName 1 (some .boolean) 4 0 0 [.ref pt] h (fun r h' => r = some (.int (jb_I (px_nm t))) ∧ h' = h) := by
  have hlen : t.length ≤ 60 := hp.2.2.2.2.2.2.2
  have hre : px_re t true 0 ≤ t.length := by have := px_re_max (t := t) (w := true) (q := 0); omega
  have ho := hp.1
  have hs := hp.2.1
  obtain ⟨fs, hrc⟩ := hs.recv
  refine jj_start (tb := tb_PT_isName) (by decide) tg_PT_isName (Nat.le_of_ble_eq_true rfl) ?_
  intro p e s m args below meth c C
  have no : px_nm t = false → jj_J p l e (jj_rm 4 0 0) s m args below meth c D base 1 (MQ below (jj_Q D base (fun r h' => r = some (.int (jb_I (px_nm t))) ∧ h' = h)) args s 0 0 (jj_A base)) 35 [(0, .ref pt)] [] h 0 0 := by
    intro hn
    refine jj_go C 1 rfl ?_
    exact jj_iret C rfl rfl rfl (Nat.le_refl _) (Nat.le_refl _) ⟨by rw [hn]; rfl, rfl⟩
  refine jj_go C 1 rfl ?_
  refine jj_getf C rfl fl_PT_18 ho rfl ?_
  refine jj_if C rfl (fun z => ?_) (fun z => ?_)
  · have g := (nI_leI (a := px_re t true 0) (b := 0) (by omega) (by decide)).mp z
    refine no ?_
    have : px_re t true 0 = 0 := by omega
    unfold px_nm
    rw [this]
    rfl
  have g0 : 0 < px_re t true 0 := Nat.not_le.mp (fun q => z (nI_le (b := 0) q (by decide)))
  have gb : Nat.blt 0 (px_re t true 0) = true := Nat.ble_eq.mpr g0
  refine jj_go C 1 rfl ?_
  refine jj_getf C rfl fl_PT_32 ho rfl ?_
  refine jj_go C 1 rfl ?_
  refine jj_callV C rfl ml_PT_57 wd_418 hrc rfl se_ST_ST_indexOf1 (As := [.int 42]) (kt_ST_indexOf (k := 42) hs (by omega) (by decide)) (rest := []) rfl rfl ⟨Nat.le_refl _, Nat.le_of_ble_eq_true rfl⟩ (Nat.le_refl _) (Nat.le_refl _) (Nat.zero_le _) ?_
  rintro q9 h9 ⟨v, rfl, hv9, hh9⟩
  rw [hh9]
  refine jj_if C rfl (fun z => no (by unfold px_nm; rw [hv9.mp z]; simp)) (fun z => ?_)
  have g42 : px_no t 42 = true := by
    cases hb : px_no t 42 with
    | true => rfl
    | false => exact absurd (hv9.mpr hb) z
  refine jj_go C 1 rfl ?_
  refine jj_getf C rfl fl_PT_32 ho rfl ?_
  refine jj_go C 1 rfl ?_
  refine jj_callV C rfl ml_PT_57 wd_418 hrc rfl se_ST_ST_indexOf1 (As := [.int 63]) (kt_ST_indexOf (k := 63) hs (by omega) (by decide)) (rest := []) rfl rfl ⟨Nat.le_refl _, Nat.le_of_ble_eq_true rfl⟩ (Nat.le_refl _) (Nat.le_refl _) (Nat.zero_le _) ?_
  rintro q9 h9 ⟨v2, rfl, hv9, hh9⟩
  rw [hh9]
  refine jj_if C rfl (fun z => no (by unfold px_nm; rw [hv9.mp z]; simp)) (fun z => ?_)
  have g63 : px_no t 63 = true := by
    cases hb : px_no t 63 with
    | true => rfl
    | false => exact absurd (hv9.mpr hb) z
  refine jj_go C 2 rfl ?_
  exact jj_iret C rfl rfl rfl (Nat.le_refl _) (Nat.le_refl _) ⟨by unfold px_nm; rw [gb, g42, g63]; rfl, rfl⟩
/-- a Pattern that was read: its text, its form -/
def pt_ok (aC : Nat → ClassId) (h : jjHp) (pt : Nat) (t : List Nat) : Prop := ∃ tx txb st en Sf Ef fm fmb, pt_at aC h pt tx txb st en t Sf Ef (nI (px_re t true 0)) (jb_I (px_pl t).2.2) (.ref fm) ∧ px_s t Sf Ef (px_pl t).2.1 ∧ kx_ST aC h fm fmb (px_fo t)
theorem bs_patternIn (hs : kx_ST aC h tx txb t) (hlen : t.length ≤ 60) : jj_Ct l D aC base yn_BS_patternIn yb_BS_patternIn 2 (some (.object "BeanServer$Pattern")) 9 69 9358 [.ref tx] h (fun r h' => jj_fr [] h h' ∧ ((px_pa t = true ∧ ∃ pt, r = some (.ref pt) ∧ h pt = none ∧ pt_ok aC h' pt t) ∨ (px_pa t = false ∧ r = some .null))) := by
  refine jj_start (tb := tb_BS_patternIn) (by decide) tg_BS_patternIn (Nat.le_of_ble_eq_true rfl) ?_
  intro p e s m args below meth c C
  refine jj_new C rfl nw_BS_71 (Nat.le_of_ble_eq_true rfl) (Nat.le_of_ble_eq_true rfl) (fun x hx => ?_)
  refine jj_go C 2 rfl ?_
  refine jj_callI C rfl ml_BS_211 wd_331 rfl (pt_init (tx := tx) jj_up_s) (rest := [.ref x]) rfl rfl ⟨Nat.le_of_ble_eq_true rfl, Nat.le_of_ble_eq_true rfl⟩ (Nat.le_of_ble_eq_true rfl) (Nat.le_of_ble_eq_true rfl) (Nat.le_of_ble_eq_true rfl) ?_
  rintro r h1 ⟨rfl, st1, en1, i1, i2, i3, i4, i5⟩
  obtain ⟨hs1, hz, f, ho, hv, htx⟩ := hs
  have ntx : tx ≠ x := jj_ne hx ho
  have ntb : txb ≠ x := jj_ne hx hv
  obtain ⟨e1, e2⟩ := i2 (2, en1, .inl (aC 0, 26, .inl (fun _ => 0))) List.mem_cons_self
  obtain ⟨s1, s2⟩ := i2 (1, st1, .inl (aC 0, 26, .inl (fun _ => 0))) (List.mem_cons_of_mem _ List.mem_cons_self)
  dsimp only at e1 e2 s1 s2
  have hfr : jj_fr [] h h1 := fun c e _ hc => i4 c e (jj_ne hx hc) (jj_up_f hx hc)
  have hne : st1 ≠ en1 := fun q => by
    have := (List.nodup_cons.mp i3).1
    exact this (by rw [← q]; exact List.mem_cons_self)
  have hp : pt_at aC h1 x tx txb st1 en1 t (fun _ => 0) (fun _ => 0) 0 0 (.ref (aC 100)) := ⟨i1, ⟨hs1, hz, f, hfr _ _ List.not_mem_nil ho, hfr _ _ List.not_mem_nil hv, htx⟩, s1, e1, hne, (fun q => by rw [q, jj_up_f hx hv] at s2; cases s2), (fun q => by rw [q, jj_up_f hx hv] at e2; cases e2), hlen⟩
  have hst0 : h st1 = none := by
    cases hq : h st1 with
    | none => rfl
    | some e => rw [jj_up_f hx hq] at s2; cases s2
  have hen0 : h en1 = none := by
    cases hq : h en1 with
    | none => rfl
    | some e => rw [jj_up_f hx hq] at e2; cases e2
  refine jj_go C 2 rfl ?_
  refine jj_callV C rfl ml_BS_212 wd_356 i1 rfl (jj_SEL.mk wd_357) (pt_parse hp) (rest := []) rfl rfl ⟨Nat.le_refl _, Nat.le_of_ble_eq_true rfl⟩ (Nat.le_refl _) (Nat.le_refl _) (Nat.zero_le _) ?_
  rintro r h2 ⟨rfl, hf2, -, hok⟩
  have hfr2 : jj_fr [] h h2 := fun c e _ hc => hf2 c e (fun q => by
    rcases List.mem_cons.mp q with q | q
    · rw [q, hx] at hc
      cases hc
    · rcases List.mem_cons.mp q with q | q
      · rw [q, hst0] at hc
        cases hc
      · rw [List.mem_singleton.mp q, hen0] at hc
        cases hc) (hfr c e List.not_mem_nil hc)
  rcases jb_cases (px_pa t) with ⟨b1, b2⟩ | ⟨b1, b2⟩
  · rw [b2]
    obtain ⟨Sf, Ef, fm, fmb, g1, g2, g3, -, -⟩ := hok b1
    refine jj_if C rfl (fun z => absurd z (by decide)) (fun _ => ?_)
    refine jj_go C 2 rfl ?_
    exact jj_aret C rfl rfl (Or.inl ⟨_, rfl⟩) (Or.inr ⟨_, rfl⟩) (Nat.le_refl _) (Nat.le_refl _) ⟨hfr2, Or.inl ⟨b1, x, rfl, hx, tx, txb, st1, en1, Sf, Ef, fm, fmb, g1, g2, g3⟩⟩
  · rw [b2]
    refine jj_if C rfl (fun _ => ?_) (fun z => absurd rfl z)
    refine jj_go C 1 rfl ?_
    exact jj_aret C rfl rfl (Or.inl ⟨_, rfl⟩) (Or.inl rfl) (Nat.le_refl _) (Nat.le_refl _) ⟨hfr2, Or.inr ⟨b1, rfl⟩⟩
end NM
end
section
/-! The reference: reads -/
theorem px_col_58 : ∀ t : List Nat, px_col t < t.length → t.getD (px_col t) 0 = 58
  | [], h => absurd h (Nat.not_lt_zero _)
  | c :: r, h => by
    unfold px_col at h ⊢
    by_cases hc : c = 58
    · rw [if_pos hc]
      simpa using hc
    · rw [if_neg hc] at h ⊢
      simpa using px_col_58 r (by simpa using h)
theorem px_col_no : ∀ (t : List Nat) (i : Nat), i < px_col t → ¬ t.getD i 0 = 58
  | [], i, h => absurd h (Nat.not_lt_zero _)
  | c :: r, i, h => by
    unfold px_col at h
    by_cases hc : c = 58
    · rw [if_pos hc] at h
      exact absurd h (Nat.not_lt_zero _)
    · rw [if_neg hc] at h
      cases i with
      | zero => simpa using hc
      | succ i => simpa using px_col_no r i (by omega)
/-- is a text a pattern (w), a name (not w)? -/
def px_rd (t : List Nat) (w : Bool) : Bool := Nat.blt (px_col t) t.length && (Nat.ble (px_col t) 6 && ((w || Nat.ble 1 (px_col t)) && (px_re t w 0 == px_col t && (px_ls t w 60 (px_col t + 1) (fun _ => none)).1)))
theorem px_rd_i {t : List Nat} {w : Bool} : px_rd t w = true ↔ px_col t < t.length ∧ px_col t ≤ 6 ∧ (w = true ∨ 1 ≤ px_col t) ∧ px_re t w 0 = px_col t ∧ (px_ls t w 60 (px_col t + 1) (fun _ => none)).1 = true := by
  unfold px_rd
  simp only [Bool.and_eq_true, Bool.or_eq_true, Nat.ble_eq, beq_iff_eq, Nat.blt, Nat.succ_le]
theorem upd_same {f : Nat → Int32} {k : Nat} : upd f k (f k) = f := by
  funext j
  unfold upd
  split
  next q => rw [q]
  next => rfl
theorem jb_nar {b : Bool} : narrow .boolean (.int (jb_I b)) = .int (jb_I b) := by cases b <;> rfl
section MR
variable {l : Launch} {D : va_G} {aC : Nat → ClassId} {base : Nat} {h : jjHp} {y : Nat} {ad : Nat → Nat} {rh : Nat → List Nat} {sg : Nat → Nat → Int32} {mu : Nat → Int64} {io : Nat → Int32}
theorem rr_reads {r : Nat} {w : Bool} (hR : RR aC h y ad rh sg mu io) (hr : r < 34) : jj_Ct l D aC base yn_MO_reads yb_MO_reads 5 (some .boolean) 3 0 0 [.ref y, .int (nI r), .int (jb_I w)] h (fun q h' => q = some (.int (jb_I (px_rd (rh r) w))) ∧ ∃ W o, RR aC h' y ad rh (va_up sg 21 W) mu (upd io 22 o) ∧ jj_fr (rr_S y ad) h h' ∧ (px_rd (rh r) w = true → px_w W (px_ls (rh r) w 60 (px_col (rh r) + 1) (fun _ => none)).2.1 ∧ o = jb_I (px_ls (rh r) w 60 (px_col (rh r) + 1) (fun _ => none)).2.2)) := by
  obtain ⟨hlen, hch⟩ := hR.len hr
  have hcl := px_col_le (rh r)
  refine jj_start (tb := tb_MO_reads) (by decide) tg_MO_reads (Nat.le_of_ble_eq_true rfl) ?_
  intro p e s m args below meth cc C
  obtain ⟨hy, f0, f1, hne, L, S, g0, g1, hRR⟩ := hR.oT
  have r1 := (hRR r hr).1
  have nof : px_rd (rh r) w = false → ∃ W o, RR aC h y ad rh (va_up sg 21 W) mu (upd io 22 o) ∧ jj_fr (rr_S y ad) h h ∧ (px_rd (rh r) w = true → px_w W (px_ls (rh r) w 60 (px_col (rh r) + 1) (fun _ => none)).2.1 ∧ o = jb_I (px_ls (rh r) w 60 (px_col (rh r) + 1) (fun _ => none)).2.2) := fun hq => ⟨sg 21, io 22, by rw [rr_up_same, upd_same]; exact hR, jj_fr.rf, fun q => by rw [hq] at q; cases q⟩
  have no : px_rd (rh r) w = false → jj_J p l e (jj_rm 3 0 0) s m args below meth cc D base 5 (MQ below (jj_Q D base (fun q h' => q = some (.int (jb_I (px_rd (rh r) w))) ∧ ∃ W o, RR aC h' y ad rh (va_up sg 21 W) mu (upd io 22 o) ∧ jj_fr (rr_S y ad) h h' ∧ (px_rd (rh r) w = true → px_w W (px_ls (rh r) w 60 (px_col (rh r) + 1) (fun _ => none)).2.1 ∧ o = jb_I (px_ls (rh r) w 60 (px_col (rh r) + 1) (fun _ => none)).2.2))) args s 0 0 (jj_A base)) 35 [(0, .ref y), (1, .int (nI r)), (2, .int (jb_I w)), (3, .int (nI (px_col (rh r))))] [] h 0 0 := by
    intro hq
    refine jj_go C 1 rfl ?_
    exact jj_iret C rfl rfl rfl (Nat.le_of_ble_eq_true rfl) (Nat.le_of_ble_eq_true rfl) ⟨by rw [hq]; rfl, nof hq⟩
  have loop : (px_col (rh r) < (rh r).length ∧ px_col (rh r) ≤ 6 ∧ (w = true ∨ 1 ≤ px_col (rh r))) → ∀ (k j : Nat) (v : Int32), v = nI j → j + k = px_col (rh r) → (∀ i, i < j → pc_al ((rh r).getD i 0) w = true) → jj_J p l e (jj_rm 3 0 0) s m args below meth cc D base 5 (MQ below (jj_Q D base (fun q h' => q = some (.int (jb_I (px_rd (rh r) w))) ∧ ∃ W o, RR aC h' y ad rh (va_up sg 21 W) mu (upd io 22 o) ∧ jj_fr (rr_S y ad) h h' ∧ (px_rd (rh r) w = true → px_w W (px_ls (rh r) w 60 (px_col (rh r) + 1) (fun _ => none)).2.1 ∧ o = jb_I (px_ls (rh r) w 60 (px_col (rh r) + 1) (fun _ => none)).2.2))) args s 0 0 (jj_A base)) 40 [(0, .ref y), (1, .int (nI r)), (2, .int (jb_I w)), (3, .int (nI (px_col (rh r)))), (4, .int v)] [] h 0 0 := by
    intro hc k
    induction k with
    | zero =>
      intro j v hv hk hal
      have hj : j = px_col (rh r) := by omega
      subst hj
      refine jj_go C 2 rfl ?_
      refine jj_if C rfl (fun _ => ?_) (fun z => absurd (by rw [hv]; exact nI_le (Nat.le_refl _) (by omega)) z)
      refine jj_go C 6 rfl ?_
      have hre : px_re (rh r) w 0 = px_col (rh r) := px_re_eq (Nat.zero_le _) (fun i _ hi => ⟨by omega, hal i hi⟩) hcl (Or.inr (by rw [px_col_58 _ hc.1]; cases w <;> rfl))
      have hrd : px_rd (rh r) w = (px_ls (rh r) w 60 (px_col (rh r) + 1) (fun _ => none)).1 := by
        rw [Bool.eq_iff_iff, px_rd_i]
        exact ⟨fun q => q.2.2.2.2, fun q => ⟨hc.1, hc.2.1, hc.2.2, hre, q⟩⟩
      refine jj_callV C rfl ml_MO_114 wd_1009 hy rfl se_MO_MO_list (As := [.int (nI r), .int (nI (px_col (rh r) + 1)), .int (jb_I w)]) (rr_list (p0 := px_col (rh r) + 1) (w := w) hR hr (by omega)) (rest := []) (by rw [← nI_1]; rfl) rfl ⟨(Nat.le_of_ble_eq_true rfl), (Nat.le_of_ble_eq_true rfl)⟩ (Nat.le_of_ble_eq_true rfl) (Nat.le_of_ble_eq_true rfl) (Nat.le_of_ble_eq_true rfl) ?_
      rintro q9 h9 ⟨W, rfl, hw, hR9, hf9⟩
      exact jj_iret C rfl rfl jb_nar (Nat.le_refl _) (Nat.le_refl _) ⟨by rw [hrd], W, _, hR9, hf9, fun _ => ⟨hw, rfl⟩⟩
    | succ k ih =>
      intro j v hv hk hal
      have hlt : j < px_col (rh r) := by omega
      refine jj_go C 2 rfl ?_
      refine jj_if C rfl (fun z => absurd z (by rw [hv]; exact nI_ge hlt (by omega))) (fun _ => ?_)
      refine jj_go C 3 rfl ?_
      refine jj_callV C rfl ml_MO_83 wd_988 hy rfl se_MO_MO_get1 (rr_get1 (x := v) hR hr) (rest := []) rfl rfl ⟨Nat.le_of_ble_eq_true rfl, Nat.le_of_ble_eq_true rfl⟩ (Nat.le_of_ble_eq_true rfl) (Nat.le_of_ble_eq_true rfl) (Nat.le_of_ble_eq_true rfl) ?_
      rintro q9 h9 ⟨rfl, hh9⟩
      rw [hh9]
      have eg : jr_g (rh r) v = (rh r).getD j 0 := by rw [hv, jr_g_n (by omega)]
      rw [eg]
      have hcj := hch j
      refine jj_go C 1 rfl ?_
      refine jj_callS C rfl ml_MO_106 wd_999 (mo_allowed (c := (rh r).getD j 0) (w := w) (by omega)) (rest := []) rfl rfl ⟨Nat.le_of_ble_eq_true rfl, Nat.le_of_ble_eq_true rfl⟩ (Nat.le_of_ble_eq_true rfl) (Nat.le_of_ble_eq_true rfl) (Nat.le_of_ble_eq_true rfl) ?_
      rintro q9 h9 ⟨rfl, hh9⟩
      rw [hh9]
      rcases jb_cases (pc_al ((rh r).getD j 0) w) with ⟨e1, e2⟩ | ⟨e1, e2⟩
      · rw [e2]
        refine jj_if C rfl (fun z => absurd z (by decide)) (fun _ => ?_)
        refine jj_go C 2 rfl ?_
        exact ih (j + 1) (v + 1) (by rw [hv, nI_1]) (by omega) (lt_s hal e1)
      · rw [e2]
        refine jj_if C rfl (fun _ => ?_) (fun z => absurd rfl z)
        have hq : px_rd (rh r) w = false := by
          rw [Bool.eq_false_iff]
          intro q
          have q := (px_rd_i.mp q).2.2.2.1
          have := (px_re_al (t := rh r) (w := w) (q := 0) (Nat.zero_le j) (by rw [q]; exact hlt)).2
          rw [e1] at this
          cases this
        refine jj_go C 1 rfl ?_
        exact jj_iret C rfl rfl rfl (Nat.le_of_ble_eq_true rfl) (Nat.le_of_ble_eq_true rfl) ⟨by rw [hq]; rfl, nof hq⟩
  refine jj_go C 2 rfl ?_
  refine jj_callV C rfl ml_MO_110 wd_996 hy rfl se_MO_MO_colon (mo_colon hR.oT hr) (rest := []) rfl rfl ⟨Nat.le_of_ble_eq_true rfl, Nat.le_of_ble_eq_true rfl⟩ (Nat.le_of_ble_eq_true rfl) (Nat.le_of_ble_eq_true rfl) (Nat.le_of_ble_eq_true rfl) ?_
  rintro q9 h9 ⟨rfl, hh9⟩
  rw [hh9]
  refine jj_go C 3 rfl ?_
  refine jj_getf C rfl fl_MO_13 hy f1 ?_
  refine jj_go C 1 rfl ?_
  refine jj_iald C rfl g1 rfl hr (by decide) ?_
  refine jj_top r1 ?_
  refine jj_if C rfl (fun z => ?_) (fun z => ?_)
  · have g := (nI_eq (a := px_col (rh r)) (b := (rh r).length) (by omega) (by omega)).mp z
    exact no (by rw [Bool.eq_false_iff]; intro q; have := (px_rd_i.mp q).1; omega)
  have g : ¬ px_col (rh r) = (rh r).length := fun q => z (by rw [q])
  refine jj_go C 2 rfl ?_
  refine jj_if C rfl (fun z => ?_) (fun z => ?_)
  · have g6 := (nI_ltI (a := 6) (b := px_col (rh r)) (by decide) (by omega)).mp z
    exact no (by rw [Bool.eq_false_iff]; intro q; have := (px_rd_i.mp q).2.1; omega)
  have g6 : ¬ 6 < px_col (rh r) := fun q => z ((nI_ltI (a := 6) (b := px_col (rh r)) (by decide) (by omega)).mpr q)
  refine jj_go C 2 rfl ?_
  rcases jb_cases w with ⟨w1, w2⟩ | ⟨w1, w2⟩
  · refine jj_if C rfl (fun z => absurd (w2.symm.trans z) (by decide)) (fun _ => ?_)
    refine jj_go C 2 rfl ?_
    refine jj_if C rfl (fun _ => ?_) (fun z => absurd (nI_pos' (by omega)) z)
    refine jj_go C 2 rfl ?_
    exact loop ⟨by omega, by omega, Or.inl w1⟩ (px_col (rh r)) 0 0 nI_0.symm (by omega) (fun i hi => absurd hi (Nat.not_lt_zero _))
  · refine jj_if C rfl (fun _ => ?_) (fun z => absurd w2 z)
    refine jj_go C 1 rfl ?_
    refine jj_if C rfl (fun z => ?_) (fun z => ?_)
    · have g1 := (nI_leI (a := 1) (b := px_col (rh r)) (by decide) (by omega)).mp z
      refine jj_go C 2 rfl ?_
      exact loop ⟨by omega, by omega, Or.inr g1⟩ (px_col (rh r)) 0 0 nI_0.symm (by omega) (fun i hi => absurd hi (Nat.not_lt_zero _))
    · have g1 : ¬ 1 ≤ px_col (rh r) := fun q => z ((nI_leI (a := 1) (b := px_col (rh r)) (by decide) (by omega)).mpr q)
      refine no (by rw [Bool.eq_false_iff]; intro q; have := (px_rd_i.mp q).2.2.1; rw [w1] at this; rcases this with q | q; cases q; omega)
end MR
end
section
/-! The reference: beanWith, isBean, isSlot, set, unset, get, isAsked, isMonitor, cancel, mark, listen, notice, selected -/
def px_at (n : Nat) (g : Nat → Bool) (x : Int32) : Bool := if x < 0 then false else if nI n ≤ x then false else g x.toNatClampNeg
theorem px_at_n {n j : Nat} {g : Nat → Bool} (hj : j < n) (hn : n < 2 ^ 31) : px_at n g (nI j) = g j := by
  unfold px_at
  rw [if_neg (nI_pos (by omega)), if_neg (nI_ge hj hn), nI_clamp (by omega)]
theorem px_at_neg {n : Nat} {g : Nat → Bool} {x : Int32} (h : x < 0) : px_at n g x = false := if_pos h
theorem px_at_ge {n : Nat} {g : Nat → Bool} {x : Int32} (h : nI n ≤ x) : px_at n g x = false := by
  unfold px_at
  by_cases h0 : x < 0
  · rw [if_pos h0]
  · rw [if_neg h0, if_pos h]
theorem px_at_t {n : Nat} {g : Nat → Bool} {x : Int32} (hn : n < 2 ^ 31) (h : px_at n g x = true) : ∃ j, j < n ∧ x = nI j ∧ g j = true := by
  unfold px_at at h
  by_cases h0 : x < 0
  · rw [if_pos h0] at h
    cases h
  · rw [if_neg h0] at h
    obtain ⟨j, hj, rfl⟩ := nI_of h0
    by_cases h1 : nI n ≤ nI j
    · rw [if_pos h1] at h
      cases h
    · rw [if_neg h1, nI_clamp hj] at h
      exact ⟨j, Nat.not_le.mp (fun q => h1 (nI_le q hj)), rfl, h⟩
def px_b (f : Nat → Int32) : Nat → Bool := fun j => !(f j == 0)
theorem px_b_t {f : Nat → Int32} {j : Nat} : px_b f j = true ↔ ¬ f j = 0 := by simp [px_b]
theorem px_b_f {f : Nat → Int32} {j : Nat} : px_b f j = false ↔ f j = 0 := by simp [px_b]
theorem nI_5 {b a : Nat} : (5 : Int32) * nI b + nI a = nI (5 * b + a) := by
  rw [show (5 : Int32) * nI b = nI (5 * b) from pk_mul 5 b, nI_add]
theorem nI_4 {b a : Nat} : (4 : Int32) * nI b + nI a = nI (4 * b + a) := by
  rw [show (4 : Int32) * nI b = nI (4 * b) from pk_mul 4 b, nI_add]
def px_slot (f : Nat → Int32) (x a : Int32) : Bool := px_at 12 (px_b f) x && px_at 5 (fun _ => true) a
theorem px_slot_t {f : Nat → Int32} {x a : Int32} (h : px_slot f x a = true) : ∃ b i, b < 12 ∧ i < 5 ∧ x = nI b ∧ a = nI i ∧ ¬ f b = 0 := by
  unfold px_slot at h
  obtain ⟨h1, h2⟩ := Bool.and_eq_true_iff.mp h
  obtain ⟨b, hb, e1, g⟩ := px_at_t (by decide) h1
  obtain ⟨i, hi, e2, -⟩ := px_at_t (by decide) h2
  exact ⟨b, i, hb, hi, e1, e2, px_b_t.mp g⟩
/-- the first bean of this form -/
def px_bw (th : Nat → Int32) (rh : Nat → List Nat) (t : List Nat) : Nat → Nat → Option Nat
  | 0, _ => none
  | k + 1, j => if ¬ th j = 0 ∧ rh j = t then some j else px_bw th rh t k (j + 1)
def px_oi (o : Option Nat) : Int32 := match o with
  | none => -1
  | some b => nI b
section MB
variable {l : Launch} {D : va_G} {aC : Nat → ClassId} {base : Nat} {h : jjHp} {y : Nat} {ad : Nat → Nat} {rh : Nat → List Nat} {sg : Nat → Nat → Int32} {mu : Nat → Int64} {io : Nat → Int32}
theorem rr_isBean {x : Int32} (hR : RR aC h y ad rh sg mu io) : jj_Ct l D aC base yn_MO_isBean yb_MO_isBean 2 (some .boolean) 0 0 0 [.ref y, .int x] h (fun q h' => q = some (.int (jb_I (px_at 12 (px_b (sg 2)) x))) ∧ h' = h) := by
  refine jj_start (tb := tb_MO_isBean) (by decide) tg_MO_isBean (Nat.le_of_ble_eq_true rfl) ?_
  intro p e s m args below meth cc C
  have hy := hR.oy
  have hcell := hR.oc (k := 2) (by decide) (by decide) (by decide)
  refine jj_go C 1 rfl ?_
  refine jj_if C rfl (fun z => ?_) (fun z => ?_)
  · refine jj_go C 1 rfl ?_
    exact jj_iret C rfl rfl rfl (Nat.le_of_ble_eq_true rfl) (Nat.le_of_ble_eq_true rfl) ⟨by rw [px_at_neg z]; rfl, rfl⟩
  obtain ⟨j, hj, rfl⟩ := nI_of z
  refine jj_go C 2 rfl ?_
  refine jj_if C rfl (fun z => ?_) (fun z => ?_)
  · refine jj_go C 1 rfl ?_
    exact jj_iret C rfl rfl rfl (Nat.le_of_ble_eq_true rfl) (Nat.le_of_ble_eq_true rfl) ⟨by rw [px_at_ge (show nI 12 ≤ nI j from z)]; rfl, rfl⟩
  have hlt : j < 12 := Nat.not_le.mp (fun q => z (nI_le q hj))
  rw [px_at_n hlt (by decide)]
  refine jj_go C 1 rfl ?_
  refine jj_getf C rfl fl_MO_17 hy rfl ?_
  refine jj_go C 1 rfl ?_
  refine jj_zald C (n := 12) rfl hcell rfl hlt (by decide) ?_
  refine jj_if C rfl (fun z => ?_) (fun z => ?_)
  · refine jj_go C 1 rfl ?_
    exact jj_iret C rfl rfl rfl (Nat.le_of_ble_eq_true rfl) (Nat.le_of_ble_eq_true rfl) ⟨by rw [px_b_f.mpr z]; rfl, rfl⟩
  · refine jj_go C 2 rfl ?_
    exact jj_iret C rfl rfl rfl (Nat.le_of_ble_eq_true rfl) (Nat.le_of_ble_eq_true rfl) ⟨by rw [px_b_t.mpr z]; rfl, rfl⟩
theorem rr_isAsked {x : Int32} (hR : RR aC h y ad rh sg mu io) : jj_Ct l D aC base yn_MO_isAsked yb_MO_isAsked 2 (some .boolean) 0 0 0 [.ref y, .int x] h (fun q h' => q = some (.int (jb_I (px_at 6 (px_b (sg 5)) x))) ∧ h' = h) := by
  refine jj_start (tb := tb_MO_isAsked) (by decide) tg_MO_isAsked (Nat.le_of_ble_eq_true rfl) ?_
  intro p e s m args below meth cc C
  have hy := hR.oy
  have hcell := hR.oc (k := 5) (by decide) (by decide) (by decide)
  refine jj_go C 1 rfl ?_
  refine jj_if C rfl (fun z => ?_) (fun z => ?_)
  · refine jj_go C 1 rfl ?_
    exact jj_iret C rfl rfl rfl (Nat.le_of_ble_eq_true rfl) (Nat.le_of_ble_eq_true rfl) ⟨by rw [px_at_neg z]; rfl, rfl⟩
  obtain ⟨j, hj, rfl⟩ := nI_of z
  refine jj_go C 2 rfl ?_
  refine jj_if C rfl (fun z => ?_) (fun z => ?_)
  · refine jj_go C 1 rfl ?_
    exact jj_iret C rfl rfl rfl (Nat.le_of_ble_eq_true rfl) (Nat.le_of_ble_eq_true rfl) ⟨by rw [px_at_ge (show nI 6 ≤ nI j from z)]; rfl, rfl⟩
  have hlt : j < 6 := Nat.not_le.mp (fun q => z (nI_le q hj))
  rw [px_at_n hlt (by decide)]
  refine jj_go C 1 rfl ?_
  refine jj_getf C rfl fl_MO_27 hy rfl ?_
  refine jj_go C 1 rfl ?_
  refine jj_zald C (n := 6) rfl hcell rfl hlt (by decide) ?_
  refine jj_if C rfl (fun z => ?_) (fun z => ?_)
  · refine jj_go C 1 rfl ?_
    exact jj_iret C rfl rfl rfl (Nat.le_of_ble_eq_true rfl) (Nat.le_of_ble_eq_true rfl) ⟨by rw [px_b_f.mpr z]; rfl, rfl⟩
  · refine jj_go C 2 rfl ?_
    exact jj_iret C rfl rfl rfl (Nat.le_of_ble_eq_true rfl) (Nat.le_of_ble_eq_true rfl) ⟨by rw [px_b_t.mpr z]; rfl, rfl⟩
theorem rr_isMonitor {x : Int32} (hR : RR aC h y ad rh sg mu io) : jj_Ct l D aC base yn_MO_isMonitor yb_MO_isMonitor 2 (some .boolean) 0 0 0 [.ref y, .int x] h (fun q h' => q = some (.int (jb_I (px_at 6 (fun j => !(decide (sg 6 j ≤ 0))) x))) ∧ h' = h) := by
  refine jj_start (tb := tb_MO_isMonitor) (by decide) tg_MO_isMonitor (Nat.le_of_ble_eq_true rfl) ?_
  intro p e s m args below meth cc C
  have hy := hR.oy
  have hcell := hR.oc (k := 6) (by decide) (by decide) (by decide)
  refine jj_go C 1 rfl ?_
  refine jj_if C rfl (fun z => ?_) (fun z => ?_)
  · refine jj_go C 1 rfl ?_
    exact jj_iret C rfl rfl rfl (Nat.le_of_ble_eq_true rfl) (Nat.le_of_ble_eq_true rfl) ⟨by rw [px_at_neg z]; rfl, rfl⟩
  obtain ⟨j, hj, rfl⟩ := nI_of z
  refine jj_go C 2 rfl ?_
  refine jj_if C rfl (fun z => ?_) (fun z => ?_)
  · refine jj_go C 1 rfl ?_
    exact jj_iret C rfl rfl rfl (Nat.le_of_ble_eq_true rfl) (Nat.le_of_ble_eq_true rfl) ⟨by rw [px_at_ge (show nI 6 ≤ nI j from z)]; rfl, rfl⟩
  have hlt : j < 6 := Nat.not_le.mp (fun q => z (nI_le q hj))
  rw [px_at_n hlt (by decide)]
  refine jj_go C 1 rfl ?_
  refine jj_getf C rfl fl_MO_30 hy rfl ?_
  refine jj_go C 1 rfl ?_
  refine jj_iald C (n := 6) rfl hcell rfl hlt (by decide) ?_
  refine jj_if C rfl (fun z => ?_) (fun z => ?_)
  · refine jj_go C 1 rfl ?_
    exact jj_iret C rfl rfl rfl (Nat.le_of_ble_eq_true rfl) (Nat.le_of_ble_eq_true rfl) ⟨by rw [decide_eq_true z]; rfl, rfl⟩
  · refine jj_go C 2 rfl ?_
    exact jj_iret C rfl rfl rfl (Nat.le_of_ble_eq_true rfl) (Nat.le_of_ble_eq_true rfl) ⟨by rw [decide_eq_false z]; rfl, rfl⟩
theorem rr_isSlot {x a : Int32} (hR : RR aC h y ad rh sg mu io) : jj_Ct l D aC base yn_MO_isSlot yb_MO_isSlot 3 (some .boolean) 1 0 0 [.ref y, .int x, .int a] h (fun q h' => q = some (.int (jb_I (px_slot (sg 2) x a))) ∧ h' = h) := by
  refine jj_start (tb := tb_MO_isSlot) (by decide) tg_MO_isSlot (Nat.le_of_ble_eq_true rfl) ?_
  intro p e s m args below meth cc C
  have hy := hR.oy
  refine jj_go C 2 rfl ?_
  refine jj_callV C rfl ml_MO_171 wd_1050 hy rfl se_MO_MO_isBean (rr_isBean (x := x) hR) (rest := []) rfl rfl ⟨Nat.le_of_ble_eq_true rfl, Nat.le_of_ble_eq_true rfl⟩ (Nat.le_of_ble_eq_true rfl) (Nat.le_of_ble_eq_true rfl) (Nat.le_of_ble_eq_true rfl) ?_
  rintro q9 h9 ⟨rfl, hh9⟩
  rw [hh9]
  unfold px_slot
  rcases jb_cases (px_at 12 (px_b (sg 2)) x) with ⟨e1, e2⟩ | ⟨e1, e2⟩
  · rw [e1]
    refine jj_if C rfl (fun z => absurd z (by decide)) (fun _ => ?_)
    refine jj_go C 1 rfl ?_
    refine jj_if C rfl (fun z => ?_) (fun z => ?_)
    · refine jj_go C 1 rfl ?_
      exact jj_iret C rfl rfl rfl (Nat.le_of_ble_eq_true rfl) (Nat.le_of_ble_eq_true rfl) ⟨by rw [px_at_neg z]; rfl, rfl⟩
    obtain ⟨j, hj, rfl⟩ := nI_of z
    refine jj_go C 2 rfl ?_
    refine jj_if C rfl (fun z => ?_) (fun z => ?_)
    · refine jj_go C 1 rfl ?_
      exact jj_iret C rfl rfl rfl (Nat.le_of_ble_eq_true rfl) (Nat.le_of_ble_eq_true rfl) ⟨by rw [px_at_ge (show nI 5 ≤ nI j from z)]; rfl, rfl⟩
    have hlt : j < 5 := Nat.not_le.mp (fun q => z (nI_le q hj))
    rw [px_at_n hlt (by decide)]
    refine jj_go C 2 rfl ?_
    exact jj_iret C rfl rfl rfl (Nat.le_of_ble_eq_true rfl) (Nat.le_of_ble_eq_true rfl) ⟨rfl, rfl⟩
  · rw [e1]
    refine jj_if C rfl (fun _ => ?_) (fun z => absurd rfl z)
    refine jj_go C 1 rfl ?_
    exact jj_iret C rfl rfl rfl (Nat.le_of_ble_eq_true rfl) (Nat.le_of_ble_eq_true rfl) ⟨rfl, rfl⟩
theorem rr_set_f {x a v : Int32} (hR : RR aC h y ad rh sg mu io) (hs : px_slot (sg 2) x a = false) : jj_Ct l D aC base yn_MO_set yb_MO_set 4 (some .boolean) 2 0 0 [.ref y, .int x, .int a, .int v] h (fun q h' => q = some (.int 0) ∧ h' = h) := by
  refine jj_start (tb := tb_MO_set) (by decide) tg_MO_set (Nat.le_of_ble_eq_true rfl) ?_
  intro p e s m args below meth cc C
  have hy := hR.oy
  refine jj_go C 3 rfl ?_
  refine jj_callV C rfl ml_MO_175 wd_1046 hy rfl se_MO_MO_isSlot (rr_isSlot (x := x) (a := a) hR) (rest := []) rfl rfl ⟨Nat.le_of_ble_eq_true rfl, Nat.le_of_ble_eq_true rfl⟩ (Nat.le_of_ble_eq_true rfl) (Nat.le_of_ble_eq_true rfl) (Nat.le_of_ble_eq_true rfl) ?_
  rintro q9 h9 ⟨rfl, hh9⟩
  rw [hh9]
  rw [hs]
  refine jj_if C rfl (fun _ => ?_) (fun z => absurd rfl z)
  refine jj_go C 1 rfl ?_
  exact jj_iret C rfl rfl rfl (Nat.le_of_ble_eq_true rfl) (Nat.le_of_ble_eq_true rfl) ⟨rfl, rfl⟩
theorem rr_set_t {b i : Nat} {v : Int32} (hR : RR aC h y ad rh sg mu io) (hb : b < 12) (hi : i < 5) (hs : px_slot (sg 2) (nI b) (nI i) = true) : jj_Ct l D aC base yn_MO_set yb_MO_set 4 (some .boolean) 2 0 0 [.ref y, .int (nI b), .int (nI i), .int v] h (fun q h' => q = some (.int 1) ∧ RR aC h' y ad rh (va_up (va_up sg 4 (upd (sg 4) (5 * b + i) 1)) 3 (upd (sg 3) (5 * b + i) v)) mu io ∧ jj_fr (rr_S y ad) h h') := by
  refine jj_start (tb := tb_MO_set) (by decide) tg_MO_set (Nat.le_of_ble_eq_true rfl) ?_
  intro p e s m args below meth cc C
  have hy := hR.oy
  refine jj_go C 3 rfl ?_
  refine jj_callV C rfl ml_MO_175 wd_1046 hy rfl se_MO_MO_isSlot (rr_isSlot (x := nI b) (a := nI i) hR) (rest := []) rfl rfl ⟨Nat.le_of_ble_eq_true rfl, Nat.le_of_ble_eq_true rfl⟩ (Nat.le_of_ble_eq_true rfl) (Nat.le_of_ble_eq_true rfl) (Nat.le_of_ble_eq_true rfl) ?_
  rintro q9 h9 ⟨rfl, hh9⟩
  rw [hh9]
  rw [hs]
  refine jj_if C rfl (fun z => absurd z (by decide)) (fun _ => ?_)
  refine jj_go C 1 rfl ?_
  refine jj_getf C rfl fl_MO_24 hy rfl ?_
  refine jj_go C 6 rfl ?_
  refine jj_zast C (n := 60) (f := sg 4) rfl (hR.oc (k := 4) (by decide) (by decide) (by decide)) nI_5 (by omega) (by decide) ?_
  have hR1 := hR.set (k := 4) (by decide) (by decide) (by decide) (upd (sg 4) (5 * b + i) 1)
  have hf1 := (jj_fr.rf (h := h) (S := rr_S y ad)).up (a := ad 4) (x := .inl (aC (rr_ty 4), rr_len 4, .inl (upd (sg 4) (5 * b + i) 1))) (Or.inl (rr_S_k (by decide)))
  generalize hh1 : (jj_up h (ad 4) (.inl (aC (rr_ty 4), rr_len 4, .inl (upd (sg 4) (5 * b + i) 1)))) = h1 at hR1 hf1
  refine jj_eq (h' := h1) rfl rfl rfl hh1 ?_
  have hy1 := hR1.oy
  refine jj_go C 1 rfl ?_
  refine jj_getf C rfl fl_MO_21 hy1 rfl ?_
  refine jj_go C 6 rfl ?_
  refine jj_iast C (n := 60) (f := sg 3) rfl (hR1.oc (k := 3) (by decide) (by decide) (by decide)) nI_5 (by omega) (by decide) ?_
  refine jj_go C 1 rfl ?_
  exact jj_iret C rfl rfl rfl (Nat.le_of_ble_eq_true rfl) (Nat.le_of_ble_eq_true rfl) ⟨rfl, hR1.set (k := 3) (by decide) (by decide) (by decide) _, hf1.up (Or.inl (rr_S_k (by decide)))⟩
theorem rr_unset_f {x a : Int32} (hR : RR aC h y ad rh sg mu io) (hs : px_slot (sg 2) x a = false) : jj_Ct l D aC base yn_MO_unset yb_MO_unset 4 (some .boolean) 2 0 0 [.ref y, .int x, .int a] h (fun q h' => q = some (.int 0) ∧ h' = h) := by
  refine jj_start (tb := tb_MO_unset) (by decide) tg_MO_unset (Nat.le_of_ble_eq_true rfl) ?_
  intro p e s m args below meth cc C
  have hy := hR.oy
  refine jj_go C 3 rfl ?_
  refine jj_callV C rfl ml_MO_175 wd_1046 hy rfl se_MO_MO_isSlot (rr_isSlot (x := x) (a := a) hR) (rest := []) rfl rfl ⟨Nat.le_of_ble_eq_true rfl, Nat.le_of_ble_eq_true rfl⟩ (Nat.le_of_ble_eq_true rfl) (Nat.le_of_ble_eq_true rfl) (Nat.le_of_ble_eq_true rfl) ?_
  rintro q9 h9 ⟨rfl, hh9⟩
  rw [hh9]
  rw [hs]
  refine jj_if C rfl (fun _ => ?_) (fun z => absurd rfl z)
  refine jj_go C 1 rfl ?_
  exact jj_iret C rfl rfl rfl (Nat.le_of_ble_eq_true rfl) (Nat.le_of_ble_eq_true rfl) ⟨rfl, rfl⟩
theorem rr_unset_t {b i : Nat} (hR : RR aC h y ad rh sg mu io) (hb : b < 12) (hi : i < 5) (hs : px_slot (sg 2) (nI b) (nI i) = true) (hv : sg 4 (5 * b + i) = 0 ∨ sg 4 (5 * b + i) = 1) : jj_Ct l D aC base yn_MO_unset yb_MO_unset 4 (some .boolean) 2 0 0 [.ref y, .int (nI b), .int (nI i)] h (fun q h' => q = some (.int (sg 4 (5 * b + i))) ∧ RR aC h' y ad rh (va_up sg 4 (upd (sg 4) (5 * b + i) 0)) mu io ∧ jj_fr (rr_S y ad) h h') := by
  refine jj_start (tb := tb_MO_unset) (by decide) tg_MO_unset (Nat.le_of_ble_eq_true rfl) ?_
  intro p e s m args below meth cc C
  have hy := hR.oy
  refine jj_go C 3 rfl ?_
  refine jj_callV C rfl ml_MO_175 wd_1046 hy rfl se_MO_MO_isSlot (rr_isSlot (x := nI b) (a := nI i) hR) (rest := []) rfl rfl ⟨Nat.le_of_ble_eq_true rfl, Nat.le_of_ble_eq_true rfl⟩ (Nat.le_of_ble_eq_true rfl) (Nat.le_of_ble_eq_true rfl) (Nat.le_of_ble_eq_true rfl) ?_
  rintro q9 h9 ⟨rfl, hh9⟩
  rw [hh9]
  rw [hs]
  refine jj_if C rfl (fun z => absurd z (by decide)) (fun _ => ?_)
  refine jj_go C 1 rfl ?_
  refine jj_getf C rfl fl_MO_24 hy rfl ?_
  refine jj_go C 5 rfl ?_
  refine jj_zald C (n := 60) (f := sg 4) rfl (hR.oc (k := 4) (by decide) (by decide) (by decide)) nI_5 (by omega) (by decide) ?_
  refine jj_go C 2 rfl ?_
  refine jj_getf C rfl fl_MO_24 hy rfl ?_
  refine jj_go C 6 rfl ?_
  refine jj_zast C (n := 60) (f := sg 4) rfl (hR.oc (k := 4) (by decide) (by decide) (by decide)) nI_5 (by omega) (by decide) ?_
  refine jj_go C 1 rfl ?_
  exact jj_iret C rfl rfl (by rcases hv with q | q <;> rw [q] <;> rfl) (Nat.le_refl _) (Nat.le_refl _) ⟨rfl, hR.set (k := 4) (by decide) (by decide) (by decide) _, jj_fr.rf.up (Or.inl (rr_S_k (by decide)))⟩
theorem rr_get_f {x a : Int32} (hR : RR aC h y ad rh sg mu io) (hs : px_slot (sg 2) x a = false) : jj_Ct l D aC base yn_MO_get yb_MO_get 3 (some .int) 2 0 0 [.ref y, .int x, .int a] h (fun q h' => q = some (.int 0) ∧ h' = h) := by
  refine jj_start (tb := tb_MO_get) (by decide) tg_MO_get (Nat.le_of_ble_eq_true rfl) ?_
  intro p e s m args below meth cc C
  have hy := hR.oy
  refine jj_go C 3 rfl ?_
  refine jj_callV C rfl ml_MO_175 wd_1046 hy rfl se_MO_MO_isSlot (rr_isSlot (x := x) (a := a) hR) (rest := []) rfl rfl ⟨Nat.le_of_ble_eq_true rfl, Nat.le_of_ble_eq_true rfl⟩ (Nat.le_of_ble_eq_true rfl) (Nat.le_of_ble_eq_true rfl) (Nat.le_of_ble_eq_true rfl) ?_
  rintro q9 h9 ⟨rfl, hh9⟩
  rw [hh9]
  rw [hs]
  refine jj_if C rfl (fun _ => ?_) (fun z => absurd rfl z)
  refine jj_go C 1 rfl ?_
  exact jj_iret C rfl rfl rfl (Nat.le_of_ble_eq_true rfl) (Nat.le_of_ble_eq_true rfl) ⟨rfl, rfl⟩
theorem rr_get_t {b i : Nat} (hR : RR aC h y ad rh sg mu io) (hb : b < 12) (hi : i < 5) (hs : px_slot (sg 2) (nI b) (nI i) = true) : jj_Ct l D aC base yn_MO_get yb_MO_get 3 (some .int) 2 0 0 [.ref y, .int (nI b), .int (nI i)] h (fun q h' => q = some (.int (if sg 4 (5 * b + i) = 0 then 0 else sg 3 (5 * b + i))) ∧ h' = h) := by
  refine jj_start (tb := tb_MO_get) (by decide) tg_MO_get (Nat.le_of_ble_eq_true rfl) ?_
  intro p e s m args below meth cc C
  have hy := hR.oy
  refine jj_go C 3 rfl ?_
  refine jj_callV C rfl ml_MO_175 wd_1046 hy rfl se_MO_MO_isSlot (rr_isSlot (x := nI b) (a := nI i) hR) (rest := []) rfl rfl ⟨Nat.le_of_ble_eq_true rfl, Nat.le_of_ble_eq_true rfl⟩ (Nat.le_of_ble_eq_true rfl) (Nat.le_of_ble_eq_true rfl) (Nat.le_of_ble_eq_true rfl) ?_
  rintro q9 h9 ⟨rfl, hh9⟩
  rw [hh9]
  rw [hs]
  refine jj_if C rfl (fun z => absurd z (by decide)) (fun _ => ?_)
  refine jj_go C 1 rfl ?_
  refine jj_getf C rfl fl_MO_24 hy rfl ?_
  refine jj_go C 5 rfl ?_
  refine jj_zald C (n := 60) (f := sg 4) rfl (hR.oc (k := 4) (by decide) (by decide) (by decide)) nI_5 (by omega) (by decide) ?_
  refine jj_if C rfl (fun z => ?_) (fun z => ?_)
  · refine jj_go C 1 rfl ?_
    exact jj_iret C rfl rfl rfl (Nat.le_of_ble_eq_true rfl) (Nat.le_of_ble_eq_true rfl) ⟨by rw [if_pos z], rfl⟩
  · refine jj_go C 1 rfl ?_
    refine jj_getf C rfl fl_MO_21 hy rfl ?_
    refine jj_go C 5 rfl ?_
    refine jj_iald C (n := 60) (f := sg 3) rfl (hR.oc (k := 3) (by decide) (by decide) (by decide)) nI_5 (by omega) (by decide) ?_
    refine jj_go C 1 rfl ?_
    exact jj_iret C rfl rfl rfl (Nat.le_of_ble_eq_true rfl) (Nat.le_of_ble_eq_true rfl) ⟨by rw [if_neg z], rfl⟩
theorem rr_beanWith {r : Nat} (hR : RR aC h y ad rh sg mu io) (hr : r < 34) : jj_Ct l D aC base yn_MO_beanWith yb_MO_beanWith 3 (some .int) 2 0 0 [.ref y, .int (nI r)] h (fun q h' => q = some (.int (px_oi (px_bw (sg 2) rh (rh r) 12 0))) ∧ h' = h) := by
  refine jj_start (tb := tb_MO_beanWith) (by decide) tg_MO_beanWith (Nat.le_of_ble_eq_true rfl) ?_
  intro p e s m args below meth cc C
  have hy := hR.oy
  have hcell := hR.oc (k := 2) (by decide) (by decide) (by decide)
  have loop : ∀ (k j : Nat) (v : Int32), v = nI j → j + k = 12 → px_bw (sg 2) rh (rh r) k j = px_bw (sg 2) rh (rh r) 12 0 → jj_J p l e (jj_rm 2 0 0) s m args below meth cc D base 3 (MQ below (jj_Q D base (fun q h' => q = some (.int (px_oi (px_bw (sg 2) rh (rh r) 12 0))) ∧ h' = h)) args s 0 0 (jj_A base)) 2 [(0, .ref y), (1, .int (nI r)), (2, .int v)] [] h 0 0 := by
    intro k
    induction k with
    | zero =>
      intro j v hv hk hg
      refine jj_go C 2 rfl ?_
      refine jj_if C rfl (fun _ => ?_) (fun z => absurd (by rw [hv]; exact nI_le (a := 12) (by omega) (by omega)) z)
      refine jj_go C 1 rfl ?_
      exact jj_iret C rfl rfl rfl (Nat.le_of_ble_eq_true rfl) (Nat.le_of_ble_eq_true rfl) ⟨by rw [← hg]; rfl, rfl⟩
    | succ k ih =>
      intro j v hv hk hg
      have hlt : j < 12 := by omega
      have hg : (if ¬ sg 2 j = 0 ∧ rh j = rh r then some j else px_bw (sg 2) rh (rh r) k (j + 1)) = px_bw (sg 2) rh (rh r) 12 0 := hg
      have next : ¬ (¬ sg 2 j = 0 ∧ rh j = rh r) → jj_J p l e (jj_rm 2 0 0) s m args below meth cc D base 3 (MQ below (jj_Q D base (fun q h' => q = some (.int (px_oi (px_bw (sg 2) rh (rh r) 12 0))) ∧ h' = h)) args s 0 0 (jj_A base)) 28 [(0, .ref y), (1, .int (nI r)), (2, .int v)] [] h 0 0 := by
        intro hno
        rw [if_neg hno] at hg
        refine jj_go C 2 rfl ?_
        exact ih (j + 1) (v + 1) (by rw [hv, nI_1]) (by omega) hg
      refine jj_go C 2 rfl ?_
      refine jj_if C rfl (fun z => absurd z (by rw [hv]; exact nI_ge (b := 12) hlt (by decide))) (fun _ => ?_)
      refine jj_go C 1 rfl ?_
      refine jj_getf C rfl fl_MO_17 hy rfl ?_
      refine jj_go C 1 rfl ?_
      refine jj_zald C (n := 12) rfl hcell hv hlt (by decide) ?_
      refine jj_if C rfl (fun z => next (fun q => q.1 z)) (fun z => ?_)
      refine jj_go C 3 rfl ?_
      subst hv
      refine jj_callV C rfl ml_MO_132 wd_1025 hy rfl se_MO_MO_same (mo_same (r1 := j) (r2 := r) hR.oT (by omega) hr) (rest := []) rfl rfl ⟨Nat.le_of_ble_eq_true rfl, Nat.le_of_ble_eq_true rfl⟩ (Nat.le_of_ble_eq_true rfl) (Nat.le_of_ble_eq_true rfl) (Nat.le_of_ble_eq_true rfl) ?_
      rintro q9 h9 ⟨rfl, hh9⟩
      rw [hh9]
      by_cases he : rh j = rh r
      · rw [decide_eq_true he]
        rw [if_pos ⟨z, he⟩] at hg
        refine jj_if C rfl (fun z => absurd z (by decide)) (fun _ => ?_)
        refine jj_go C 1 rfl ?_
        exact jj_iret C rfl rfl rfl (Nat.le_of_ble_eq_true rfl) (Nat.le_of_ble_eq_true rfl) ⟨by rw [← hg]; rfl, rfl⟩
      · rw [decide_eq_false he]
        exact jj_if C rfl (fun _ => next (fun q => he q.2)) (fun z => absurd rfl z)
  refine jj_go C 2 rfl ?_
  exact loop 12 0 0 nI_0.symm (by omega) rfl
theorem rr_cancel_f {x : Int32} (hR : RR aC h y ad rh sg mu io) (hs : px_at 6 (fun j => !(decide (sg 6 j ≤ 0))) x = false) : jj_Ct l D aC base yn_MO_cancel yb_MO_cancel 2 (some .boolean) 1 0 0 [.ref y, .int x] h (fun q h' => q = some (.int 0) ∧ h' = h) := by
  refine jj_start (tb := tb_MO_cancel) (by decide) tg_MO_cancel (Nat.le_of_ble_eq_true rfl) ?_
  intro p e s m args below meth cc C
  have hy := hR.oy
  refine jj_go C 2 rfl ?_
  refine jj_callV C rfl ml_MO_260 wd_1196 hy rfl se_MO_MO_isMonitor (rr_isMonitor (x := x) hR) (rest := []) rfl rfl ⟨Nat.le_of_ble_eq_true rfl, Nat.le_of_ble_eq_true rfl⟩ (Nat.le_of_ble_eq_true rfl) (Nat.le_of_ble_eq_true rfl) (Nat.le_of_ble_eq_true rfl) ?_
  rintro q9 h9 ⟨rfl, hh9⟩
  rw [hh9]
  rw [hs]
  refine jj_if C rfl (fun _ => ?_) (fun z => absurd rfl z)
  refine jj_go C 1 rfl ?_
  exact jj_iret C rfl rfl rfl (Nat.le_of_ble_eq_true rfl) (Nat.le_of_ble_eq_true rfl) ⟨rfl, rfl⟩
theorem rr_cancel_t {j : Nat} (hR : RR aC h y ad rh sg mu io) (hj : j < 6) (hs : ¬ sg 6 j ≤ 0) : jj_Ct l D aC base yn_MO_cancel yb_MO_cancel 2 (some .boolean) 1 0 0 [.ref y, .int (nI j)] h (fun q h' => q = some (.int 1) ∧ RR aC h' y ad rh (va_up sg 6 (upd (sg 6) j 0)) mu io ∧ jj_fr (rr_S y ad) h h') := by
  refine jj_start (tb := tb_MO_cancel) (by decide) tg_MO_cancel (Nat.le_of_ble_eq_true rfl) ?_
  intro p e s m args below meth cc C
  have hy := hR.oy
  refine jj_go C 2 rfl ?_
  refine jj_callV C rfl ml_MO_260 wd_1196 hy rfl se_MO_MO_isMonitor (rr_isMonitor (x := nI j) hR) (rest := []) rfl rfl ⟨Nat.le_of_ble_eq_true rfl, Nat.le_of_ble_eq_true rfl⟩ (Nat.le_of_ble_eq_true rfl) (Nat.le_of_ble_eq_true rfl) (Nat.le_of_ble_eq_true rfl) ?_
  rintro q9 h9 ⟨rfl, hh9⟩
  rw [hh9]
  rw [px_at_n hj (by decide), decide_eq_false hs]
  refine jj_if C rfl (fun z => absurd z (by decide)) (fun _ => ?_)
  refine jj_go C 1 rfl ?_
  refine jj_getf C rfl fl_MO_30 hy rfl ?_
  refine jj_go C 2 rfl ?_
  refine jj_iast C (n := 6) (f := sg 6) rfl (hR.oc (k := 6) (by decide) (by decide) (by decide)) rfl hj (by decide) ?_
  refine jj_go C 1 rfl ?_
  exact jj_iret C rfl rfl rfl (Nat.le_of_ble_eq_true rfl) (Nat.le_of_ble_eq_true rfl) ⟨rfl, hR.set (k := 6) (by decide) (by decide) (by decide) _, jj_fr.rf.up (Or.inl (rr_S_k (by decide)))⟩
theorem rr_mark_f {x : Int32} (hR : RR aC h y ad rh sg mu io) (hs : px_at 6 (fun j => !(decide (sg 6 j ≤ 0))) x = false) : jj_Ct l D aC base yn_MO_mark yb_MO_mark 2 (some .long) 1 0 0 [.ref y, .int x] h (fun q h' => q = some (.long 0) ∧ h' = h) := by
  refine jj_start (tb := tb_MO_mark) (by decide) tg_MO_mark (Nat.le_of_ble_eq_true rfl) ?_
  intro p e s m args below meth cc C
  have hy := hR.oy
  refine jj_go C 2 rfl ?_
  refine jj_callV C rfl ml_MO_260 wd_1196 hy rfl se_MO_MO_isMonitor (rr_isMonitor (x := x) hR) (rest := []) rfl rfl ⟨Nat.le_of_ble_eq_true rfl, Nat.le_of_ble_eq_true rfl⟩ (Nat.le_of_ble_eq_true rfl) (Nat.le_of_ble_eq_true rfl) (Nat.le_of_ble_eq_true rfl) ?_
  rintro q9 h9 ⟨rfl, hh9⟩
  rw [hh9]
  rw [hs]
  refine jj_if C rfl (fun _ => ?_) (fun z => absurd rfl z)
  refine jj_go C 1 rfl ?_
  exact jj_lret C rfl rfl (Nat.le_refl _) (Nat.le_refl _) ⟨rfl, rfl⟩
theorem rr_mark_t {j : Nat} (hR : RR aC h y ad rh sg mu io) (hj : j < 6) (hs : ¬ sg 6 j ≤ 0) : jj_Ct l D aC base yn_MO_mark yb_MO_mark 2 (some .long) 1 0 0 [.ref y, .int (nI j)] h (fun q h' => q = some (.long (mu j)) ∧ h' = h) := by
  refine jj_start (tb := tb_MO_mark) (by decide) tg_MO_mark (Nat.le_of_ble_eq_true rfl) ?_
  intro p e s m args below meth cc C
  have hy := hR.oy
  refine jj_go C 2 rfl ?_
  refine jj_callV C rfl ml_MO_260 wd_1196 hy rfl se_MO_MO_isMonitor (rr_isMonitor (x := nI j) hR) (rest := []) rfl rfl ⟨Nat.le_of_ble_eq_true rfl, Nat.le_of_ble_eq_true rfl⟩ (Nat.le_of_ble_eq_true rfl) (Nat.le_of_ble_eq_true rfl) (Nat.le_of_ble_eq_true rfl) ?_
  rintro q9 h9 ⟨rfl, hh9⟩
  rw [hh9]
  rw [px_at_n hj (by decide), decide_eq_false hs]
  refine jj_if C rfl (fun z => absurd z (by decide)) (fun _ => ?_)
  refine jj_go C 1 rfl ?_
  refine jj_getf C rfl fl_MO_42 hy rfl ?_
  refine jj_go C 1 rfl ?_
  refine jj_lald C (n := 6) (f := mu) rfl hR.om rfl hj (by decide) ?_
  refine jj_go C 1 rfl ?_
  exact jj_lret C rfl rfl (Nat.le_refl _) (Nat.le_refl _) ⟨rfl, rfl⟩
theorem rr_listen {x : Int32} (hR : RR aC h y ad rh sg mu io) : jj_Ct l D aC base yn_MO_listen yb_MO_listen 2 (some .int) 0 0 0 [.ref y, .int x] h (fun q h' => q = some (.int (io 15)) ∧ RR aC h' y ad rh sg mu (upd io 16 x) ∧ jj_fr (rr_S y ad) h h') := by
  refine jj_start (tb := tb_MO_listen) (by decide) tg_MO_listen (Nat.le_of_ble_eq_true rfl) ?_
  intro p e s m args below meth cc C
  have hy := hR.oy
  refine jj_go C 2 rfl ?_
  refine jj_putf C rfl fl_MO_58 hy rfl rfl (Nat.le_of_ble_eq_true rfl) ?_
  have hR1 : RR aC (jj_up h y (.inr (9, (rr_fs ad io).set 16 (.int x)))) y ad rh sg mu (upd io 16 x) := hR.put rfl
  have hy1 := hR1.oy
  refine jj_go C 1 rfl ?_
  refine jj_getf C rfl fl_MO_151 hy1 rfl ?_
  exact jj_iret C rfl rfl rfl (Nat.le_of_ble_eq_true rfl) (Nat.le_of_ble_eq_true rfl) ⟨rfl, hR1, jj_fr.rf.up (Or.inl rr_S_y)⟩
theorem rr_selected {x : Int32} (hR : RR aC h y ad rh sg mu io) {n : Nat} (hn : io 19 = nI n) (hn2 : n ≤ 12) : jj_Ct l D aC base yn_MO_selected yb_MO_selected 2 (some .int) 0 0 0 [.ref y, .int x] h (fun q h' => q = some (.int (if px_at n (fun _ => true) x = true then sg 20 x.toNatClampNeg else -2)) ∧ h' = h) := by
  refine jj_start (tb := tb_MO_selected) (by decide) tg_MO_selected (Nat.le_of_ble_eq_true rfl) ?_
  intro p e s m args below meth cc C
  have hy := hR.oy
  refine jj_go C 1 rfl ?_
  refine jj_if C rfl (fun z => ?_) (fun z => ?_)
  · refine jj_go C 2 rfl ?_
    exact jj_iret C rfl rfl rfl (Nat.le_of_ble_eq_true rfl) (Nat.le_of_ble_eq_true rfl) ⟨by rw [px_at_neg z]; rfl, rfl⟩
  obtain ⟨j, hj, rfl⟩ := nI_of z
  refine jj_go C 2 rfl ?_
  refine jj_getf C rfl fl_MO_250 hy rfl ?_
  refine jj_top hn ?_
  refine jj_if C rfl (fun z => ?_) (fun z => ?_)
  · have hlt := (nI_ltI hj (by omega)).mp z
    rw [px_at_n hlt (by omega), nI_clamp hj]
    refine jj_go C 1 rfl ?_
    refine jj_getf C rfl fl_MO_65 hy rfl ?_
    refine jj_go C 1 rfl ?_
    refine jj_iald C (n := 12) (f := sg 20) rfl (hR.oc (k := 20) (by decide) (by decide) (by decide)) rfl (by omega) (by decide) ?_
    exact jj_iret C rfl rfl rfl (Nat.le_of_ble_eq_true rfl) (Nat.le_of_ble_eq_true rfl) ⟨rfl, rfl⟩
  · have hge : n ≤ j := Nat.not_lt.mp (fun q => z ((nI_ltI hj (by omega)).mpr q))
    refine jj_go C 2 rfl ?_
    exact jj_iret C rfl rfl rfl (Nat.le_of_ble_eq_true rfl) (Nat.le_of_ble_eq_true rfl) ⟨by rw [px_at_ge (nI_le hge hj)]; rfl, rfl⟩
theorem rr_notice {x w : Int32} (hR : RR aC h y ad rh sg mu io) {n : Nat} (hn : io 17 = nI n) (hn2 : n ≤ 16) : jj_Ct l D aC base yn_MO_notice yb_MO_notice 3 (some .int) 0 0 0 [.ref y, .int x, .int w] h (fun q h' => q = some (.int (if px_at n (fun _ => true) x = true ∧ px_at 4 (fun _ => true) w = true then sg 18 (4 * x.toNatClampNeg + w.toNatClampNeg) else -2)) ∧ h' = h) := by
  refine jj_start (tb := tb_MO_notice) (by decide) tg_MO_notice (Nat.le_of_ble_eq_true rfl) ?_
  intro p e s m args below meth cc C
  have hy := hR.oy
  have no : ¬ (px_at n (fun _ => true) x = true ∧ px_at 4 (fun _ => true) w = true) → jj_J p l e (jj_rm 0 0 0) s m args below meth cc D base 3 (MQ below (jj_Q D base (fun q h' => q = some (.int (if px_at n (fun _ => true) x = true ∧ px_at 4 (fun _ => true) w = true then sg 18 (4 * x.toNatClampNeg + w.toNatClampNeg) else -2)) ∧ h' = h)) args s 0 0 (jj_A base)) 21 [(0, .ref y), (1, .int x), (2, .int w)] [] h 0 0 := by
    intro hno
    refine jj_go C 2 rfl ?_
    exact jj_iret C rfl rfl rfl (Nat.le_of_ble_eq_true rfl) (Nat.le_of_ble_eq_true rfl) ⟨by rw [if_neg hno], rfl⟩
  refine jj_go C 1 rfl ?_
  refine jj_if C rfl (fun z => no (fun q => by rw [px_at_neg z] at q; cases q.1)) (fun z => ?_)
  obtain ⟨j, hj, rfl⟩ := nI_of z
  refine jj_go C 2 rfl ?_
  refine jj_getf C rfl fl_MO_154 hy rfl ?_
  refine jj_top hn ?_
  refine jj_if C rfl (fun z => no (fun q => by rw [px_at_ge z] at q; cases q.1)) (fun z => ?_)
  have hlt : j < n := Nat.not_le.mp (fun q => z (nI_le q hj))
  refine jj_go C 1 rfl ?_
  refine jj_if C rfl (fun z => no (fun q => by rw [px_at_neg z] at q; cases q.2)) (fun z => ?_)
  obtain ⟨i, hi, rfl⟩ := nI_of z
  refine jj_go C 2 rfl ?_
  refine jj_if C rfl (fun z => ?_) (fun z => ?_)
  · have hi4 : i ≤ 3 := (nI_leI (a := i) (b := 3) hi (by decide)).mp z
    rw [if_pos ⟨px_at_n hlt (by omega), px_at_n (by omega) (by decide)⟩, nI_clamp hj, nI_clamp hi]
    refine jj_go C 1 rfl ?_
    refine jj_getf C rfl fl_MO_62 hy rfl ?_
    refine jj_go C 5 rfl ?_
    refine jj_iald C (n := 64) (f := sg 18) rfl (hR.oc (k := 18) (by decide) (by decide) (by decide)) nI_4 (by omega) (by decide) ?_
    exact jj_iret C rfl rfl rfl (Nat.le_of_ble_eq_true rfl) (Nat.le_of_ble_eq_true rfl) ⟨rfl, rfl⟩
  · have hi4 : ¬ i ≤ 3 := fun q => z ((nI_leI (a := i) (b := 3) hi (by decide)).mpr q)
    exact no (fun q => by rw [px_at_ge (show nI 4 ≤ nI i from nI_le (by omega) hi)] at q; cases q.2)
end MB
end
section
/-! The reference: give, copyProperty, order, takeName -/
def gv_on (io : Nat → Int32) (k : Int32) : Prop := ¬ (io 16 >>> (k &&& 31)) &&& 1 = 0
theorem nI_m1 {j : Nat} : nI (j + 1) + (-1) = nI j := by
  rw [← nI_1, Int32.add_assoc, show (1 : Int32) + (-1) = 0 by decide, Int32.add_zero]
def gv_log (f : Nat → Int32) (g k s v : Int32) : Nat → Int32 := fun i => if i = 0 then g else if i = 1 then k else if i = 2 then s else if i = 3 then v else if i < 64 then f (i - 4) else f i
section MG
variable {l : Launch} {D : va_G} {aC : Nat → ClassId} {base : Nat} {h : jjHp} {y : Nat} {ad : Nat → Nat} {rh : Nat → List Nat} {sg : Nat → Nat → Int32} {mu : Nat → Int64} {io : Nat → Int32}
theorem rr_give_f {k s0 v0 : Int32} (hR : RR aC h y ad rh sg mu io) (hg : ¬ gv_on io k) : jj_Ct l D aC base yn_MO_give yb_MO_give 5 none 0 0 0 [.ref y, .int k, .int s0, .int v0] h (fun q h' => q = none ∧ RR aC h' y ad rh sg mu (upd io 15 (io 15 + 1)) ∧ jj_fr (rr_S y ad) h h') := by
  refine jj_start (tb := tb_MO_give) (by decide) tg_MO_give (Nat.le_of_ble_eq_true rfl) ?_
  intro p e s m args below meth cc C
  have hy := hR.oy
  refine jj_go C 2 rfl ?_
  refine jj_getf C rfl fl_MO_151 hy rfl ?_
  refine jj_go C 2 rfl ?_
  refine jj_putf C rfl fl_MO_151 hy rfl rfl (Nat.le_of_ble_eq_true rfl) ?_
  have hR1 : RR aC (jj_up h y (.inr (9, (rr_fs ad io).set 15 (.int (io 15 + 1))))) y ad rh sg mu (upd io 15 (io 15 + 1)) := hR.put rfl
  have hf1 : jj_fr (rr_S y ad) h (jj_up h y (.inr (9, (rr_fs ad io).set 15 (.int (io 15 + 1))))) := jj_fr.rf.up (Or.inl rr_S_y)
  generalize (jj_up h y (.inr (9, (rr_fs ad io).set 15 (.int (io 15 + 1))))) = h1 at hR1 hf1 ⊢
  refine jj_go C 1 rfl ?_
  refine jj_getf C rfl fl_MO_58 hR1.oy rfl ?_
  refine jj_go C 4 rfl ?_
  refine jj_if C rfl (fun z => ?_) (fun z => absurd z hg)
  exact jj_vret C rfl rfl (Nat.le_of_ble_eq_true rfl) (Nat.le_of_ble_eq_true rfl) ⟨rfl, hR1, hf1⟩
theorem rr_give_t {k s0 v0 : Int32} (hR : RR aC h y ad rh sg mu io) (hg : gv_on io k) : jj_Ct l D aC base yn_MO_give yb_MO_give 5 none 0 0 0 [.ref y, .int k, .int s0, .int v0] h (fun q h' => q = none ∧ RR aC h' y ad rh (va_up sg 18 (gv_log (sg 18) (io 15 + 1) k s0 v0)) mu (upd (upd io 15 (io 15 + 1)) 17 (if io 17 < 16 then io 17 + 1 else 16)) ∧ jj_fr (rr_S y ad) h h') := by
  refine jj_start (tb := tb_MO_give) (by decide) tg_MO_give (Nat.le_of_ble_eq_true rfl) ?_
  intro p e s m args below meth cc C
  have hy := hR.oy
  -- the shift
  have loop : ∀ (j : Nat) (v : Int32) (F : Nat → Int32) (h1 : jjHp), v = nI (j + 3) → j ≤ 60 → (∀ i, F i = if j + 3 < i ∧ i < 64 then sg 18 (i - 4) else sg 18 i) → RR aC h1 y ad rh (va_up sg 18 F) mu (upd io 15 (io 15 + 1)) → jj_fr (rr_S y ad) h h1 → jj_J p l e (jj_rm 0 0 0) s m args below meth cc D base 5 (MQ below (jj_Q D base (fun q h' => q = none ∧ RR aC h' y ad rh (va_up sg 18 (gv_log (sg 18) (io 15 + 1) k s0 v0)) mu (upd (upd io 15 (io 15 + 1)) 17 (if io 17 < 16 then io 17 + 1 else 16)) ∧ jj_fr (rr_S y ad) h h')) args s 0 0 (jj_A base)) 26 [(0, .ref y), (1, .int k), (2, .int s0), (3, .int v0), (4, .int v)] [] h1 0 0 := by
    intro j
    induction j with
    | zero =>
      intro v F h1 hv hj hF hR1 hf1
      refine jj_go C 2 rfl ?_
      refine jj_if C rfl (fun _ => ?_) (fun z => absurd (by rw [hv]; decide) z)
      have hs : va_up (va_up (va_up (va_up (va_up sg 18 F) 18 (upd F 0 (io 15 + 1))) 18 (upd (upd F 0 (io 15 + 1)) 1 k)) 18 (upd (upd (upd F 0 (io 15 + 1)) 1 k) 2 s0)) 18 (upd (upd (upd (upd F 0 (io 15 + 1)) 1 k) 2 s0) 3 v0) = va_up sg 18 (gv_log (sg 18) (io 15 + 1) k s0 v0) := by
        simp only [bx_uu]
        congr 1
        funext i
        unfold gv_log
        by_cases i0 : i = 0
        · subst i0; rfl
        by_cases i1 : i = 1
        · subst i1; rfl
        by_cases i2 : i = 2
        · subst i2; rfl
        by_cases i3 : i = 3
        · subst i3; rfl
        simp only [upd, if_neg i0, if_neg i1, if_neg i2, if_neg i3]
        rw [hF i]
        by_cases hi : i < 64
        · rw [if_pos ⟨by omega, hi⟩, if_pos hi]
        · rw [if_neg (fun q => hi q.2), if_neg hi]
      rw [← hs]
      refine jj_go C 1 rfl ?_
      refine jj_getf C rfl fl_MO_62 hR1.oy rfl ?_
      refine jj_go C 2 rfl ?_
      refine jj_getf C rfl fl_MO_151 hR1.oy rfl ?_
      refine jj_iast C (n := 64) (f := F) (j := 0) rfl (hR1.oc (k := 18) (by decide) (by decide) (by decide)) rfl (by decide) (by decide) ?_
      have hR2 := hR1.set (k := 18) (by decide) (by decide) (by decide) (upd F 0 (io 15 + 1))
      have hf2 := hf1.up (a := ad 18) (x := .inl (aC (rr_ty 18), rr_len 18, .inl (upd F 0 (io 15 + 1)))) (Or.inl (rr_S_k (by decide)))
      generalize hh2 : (jj_up h1 (ad 18) (.inl (aC (rr_ty 18), rr_len 18, .inl (upd F 0 (io 15 + 1))))) = h2 at hR2 hf2
      refine jj_eq (h' := h2) rfl rfl rfl hh2 ?_
      refine jj_go C 1 rfl ?_
      refine jj_getf C rfl fl_MO_62 hR2.oy rfl ?_
      refine jj_go C 2 rfl ?_
      refine jj_iast C (n := 64) (f := upd F 0 (io 15 + 1)) (j := 1) rfl (hR2.oc (k := 18) (by decide) (by decide) (by decide)) rfl (by decide) (by decide) ?_
      have hR3 := hR2.set (k := 18) (by decide) (by decide) (by decide) (upd (upd F 0 (io 15 + 1)) 1 k)
      have hf3 := hf2.up (a := ad 18) (x := .inl (aC (rr_ty 18), rr_len 18, .inl (upd (upd F 0 (io 15 + 1)) 1 k))) (Or.inl (rr_S_k (by decide)))
      generalize hh3 : (jj_up h2 (ad 18) (.inl (aC (rr_ty 18), rr_len 18, .inl (upd (upd F 0 (io 15 + 1)) 1 k)))) = h3 at hR3 hf3
      refine jj_eq (h' := h3) rfl rfl rfl hh3 ?_
      refine jj_go C 1 rfl ?_
      refine jj_getf C rfl fl_MO_62 hR3.oy rfl ?_
      refine jj_go C 2 rfl ?_
      refine jj_iast C (n := 64) (f := upd (upd F 0 (io 15 + 1)) 1 k) (j := 2) rfl (hR3.oc (k := 18) (by decide) (by decide) (by decide)) rfl (by decide) (by decide) ?_
      have hR4 := hR3.set (k := 18) (by decide) (by decide) (by decide) (upd (upd (upd F 0 (io 15 + 1)) 1 k) 2 s0)
      have hf4 := hf3.up (a := ad 18) (x := .inl (aC (rr_ty 18), rr_len 18, .inl (upd (upd (upd F 0 (io 15 + 1)) 1 k) 2 s0))) (Or.inl (rr_S_k (by decide)))
      generalize hh4 : (jj_up h3 (ad 18) (.inl (aC (rr_ty 18), rr_len 18, .inl (upd (upd (upd F 0 (io 15 + 1)) 1 k) 2 s0)))) = h4 at hR4 hf4
      refine jj_eq (h' := h4) rfl rfl rfl hh4 ?_
      refine jj_go C 1 rfl ?_
      refine jj_getf C rfl fl_MO_62 hR4.oy rfl ?_
      refine jj_go C 2 rfl ?_
      refine jj_iast C (n := 64) (f := upd (upd (upd F 0 (io 15 + 1)) 1 k) 2 s0) (j := 3) rfl (hR4.oc (k := 18) (by decide) (by decide) (by decide)) rfl (by decide) (by decide) ?_
      have hR5 := hR4.set (k := 18) (by decide) (by decide) (by decide) (upd (upd (upd (upd F 0 (io 15 + 1)) 1 k) 2 s0) 3 v0)
      have hf5 := hf4.up (a := ad 18) (x := .inl (aC (rr_ty 18), rr_len 18, .inl (upd (upd (upd (upd F 0 (io 15 + 1)) 1 k) 2 s0) 3 v0))) (Or.inl (rr_S_k (by decide)))
      generalize hh5 : (jj_up h4 (ad 18) (.inl (aC (rr_ty 18), rr_len 18, .inl (upd (upd (upd (upd F 0 (io 15 + 1)) 1 k) 2 s0) 3 v0)))) = h5 at hR5 hf5
      refine jj_eq (h' := h5) rfl rfl rfl hh5 ?_
      rw [hs] at hR5 ⊢
      refine jj_go C 2 rfl ?_
      refine jj_getf C rfl fl_MO_154 hR5.oy rfl ?_
      refine jj_go C 1 rfl ?_
      have hio : (upd io 15 (io 15 + 1)) 17 = io 17 := rfl
      refine jj_if C rfl (fun z => ?_) (fun z => ?_)
      · refine jj_go C 1 rfl ?_
        refine jj_putf C rfl fl_MO_154 hR5.oy rfl rfl (Nat.le_of_ble_eq_true rfl) ?_
        exact jj_vret C rfl rfl (Nat.le_of_ble_eq_true rfl) (Nat.le_of_ble_eq_true rfl) ⟨rfl, hR5.put (by rw [if_neg (show ¬ io 17 < 16 from Int32.not_lt.mpr z)]; rfl), hf5.up (Or.inl rr_S_y)⟩
      · refine jj_go C 1 rfl ?_
        refine jj_getf C rfl fl_MO_154 hR5.oy rfl ?_
        refine jj_go C 3 rfl ?_
        refine jj_putf C rfl fl_MO_154 hR5.oy rfl rfl (Nat.le_of_ble_eq_true rfl) ?_
        exact jj_vret C rfl rfl (Nat.le_of_ble_eq_true rfl) (Nat.le_of_ble_eq_true rfl) ⟨rfl, hR5.put (by rw [if_pos (show io 17 < 16 from Int32.not_le.mp z)]; rfl), hf5.up (Or.inl rr_S_y)⟩
    | succ j ih =>
      intro v F h1 hv hj hF hR1 hf1
      have hcell := hR1.oc (k := 18) (by decide) (by decide) (by decide)
      refine jj_go C 2 rfl ?_
      refine jj_if C rfl (fun z => ?_) (fun _ => ?_)
      · rw [hv] at z
        have := (nI_leI (a := j + 1 + 3) (b := 3) (by omega) (by decide)).mp z
        omega
      refine jj_go C 1 rfl ?_
      refine jj_getf C rfl fl_MO_62 hR1.oy rfl ?_
      refine jj_go C 2 rfl ?_
      refine jj_getf C rfl fl_MO_62 hR1.oy rfl ?_
      refine jj_go C 3 rfl ?_
      refine jj_iald C (n := 64) (f := F) (j := j) rfl hcell (by rw [hv]; exact (pk_sub (a := j + 1 + 3) (b := 4) (by omega)).trans (by congr 1)) (by omega) (by decide) ?_
      refine jj_iast C (n := 64) (f := F) (j := j + 1 + 3) rfl hcell hv (by omega) (by decide) ?_
      have hR2 := hR1.set (k := 18) (by decide) (by decide) (by decide) (upd F (j + 1 + 3) (F j))
      have hf2 := hf1.up (a := ad 18) (x := .inl (aC (rr_ty 18), rr_len 18, .inl (upd F (j + 1 + 3) (F j)))) (Or.inl (rr_S_k (by decide)))
      rw [bx_uu] at hR2
      refine jj_go C 2 rfl ?_
      refine ih _ _ _ ?_ (by omega) ?_ hR2 hf2
      · rw [hv]
        exact nI_m1 (j := j + 3)
      · intro i
        simp only [upd]
        by_cases hi : i = j + 1 + 3
        · rw [if_pos hi, if_pos ⟨by omega, by omega⟩, hF j, if_neg (by omega)]
          congr 1
          omega
        · rw [if_neg hi, hF i]
          by_cases hi2 : j + 1 + 3 < i ∧ i < 64
          · rw [if_pos hi2, if_pos ⟨by omega, hi2.2⟩]
          · rw [if_neg hi2, if_neg (by omega)]
  refine jj_go C 2 rfl ?_
  refine jj_getf C rfl fl_MO_151 hy rfl ?_
  refine jj_go C 2 rfl ?_
  refine jj_putf C rfl fl_MO_151 hy rfl rfl (Nat.le_of_ble_eq_true rfl) ?_
  have hR1 : RR aC (jj_up h y (.inr (9, (rr_fs ad io).set 15 (.int (io 15 + 1))))) y ad rh sg mu (upd io 15 (io 15 + 1)) := hR.put rfl
  have hf1 : jj_fr (rr_S y ad) h (jj_up h y (.inr (9, (rr_fs ad io).set 15 (.int (io 15 + 1))))) := jj_fr.rf.up (Or.inl rr_S_y)
  generalize (jj_up h y (.inr (9, (rr_fs ad io).set 15 (.int (io 15 + 1))))) = h1 at hR1 hf1 ⊢
  refine jj_go C 1 rfl ?_
  refine jj_getf C rfl fl_MO_58 hR1.oy rfl ?_
  refine jj_go C 4 rfl ?_
  refine jj_if C rfl (fun z => absurd z hg) (fun z => ?_)
  refine jj_go C 2 rfl ?_
  refine loop 60 _ (sg 18) h1 rfl (Nat.le_refl _) (fun i => ?_) (by rw [rr_up_same]; exact hR1) hf1
  rw [if_neg (by omega)]
end MG
end
