-- ===== PART A: goes FIRST, ahead of the names: the tables' words, and 'selects' of the private methods out of them =====
/-- a private method of a class that the tables say can be made, by its rows of tables_1 -/
def lw_okq (q : MethodName × Nat) : Prop := (q.1.cls ≠ "java/lang/invoke/MethodHandle" ∧ q.1.cls ≠ "java/lang/invoke/VarHandle") ∧ Cond.instantiable q.1.cls q.2 ∈ tables_1 ∧ Cond.privateMethod q.1 ∈ tables_1 ∧ Cond.instanceMethod q.1 ∈ tables_1
theorem lw_p0 : lw_okq (⟨"BeanServer", "takenName", "()LBeanServer$Pattern;"⟩, 9) := ⟨⟨by decide +kernel, by decide +kernel⟩, List.mem_of_getElem? (i := 24) (by decide +kernel), List.mem_of_getElem? (i := 244) (by decide +kernel), List.mem_of_getElem? (i := 245) (by decide +kernel)⟩
theorem lw_p1 : lw_okq (⟨"BeanServer", "taken", "()Ljava/lang/String;"⟩, 9) := ⟨⟨by decide +kernel, by decide +kernel⟩, List.mem_of_getElem? (i := 24) (by decide +kernel), List.mem_of_getElem? (i := 248) (by decide +kernel), List.mem_of_getElem? (i := 249) (by decide +kernel)⟩
theorem lw_p2 : lw_okq (⟨"BeanServer$Pattern", "rowEnd", "(I)I"⟩, 6) := ⟨⟨by decide +kernel, by decide +kernel⟩, List.mem_of_getElem? (i := 329) (by decide +kernel), List.mem_of_getElem? (i := 360) (by decide +kernel), List.mem_of_getElem? (i := 361) (by decide +kernel)⟩
theorem lw_p3 : lw_okq (⟨"BeanServer$Pattern", "parseList", "(I)Z"⟩, 6) := ⟨⟨by decide +kernel, by decide +kernel⟩, List.mem_of_getElem? (i := 329) (by decide +kernel), List.mem_of_getElem? (i := 390) (by decide +kernel), List.mem_of_getElem? (i := 391) (by decide +kernel)⟩
theorem lw_p4 : lw_okq (⟨"BeanServer$Pattern", "parseProperty", "(I)I"⟩, 6) := ⟨⟨by decide +kernel, by decide +kernel⟩, List.mem_of_getElem? (i := 329) (by decide +kernel), List.mem_of_getElem? (i := 394) (by decide +kernel), List.mem_of_getElem? (i := 395) (by decide +kernel)⟩
theorem lw_p5 : lw_okq (⟨"BeanServer$Pattern", "ordered", "()Ljava/lang/String;"⟩, 6) := ⟨⟨by decide +kernel, by decide +kernel⟩, List.mem_of_getElem? (i := 329) (by decide +kernel), List.mem_of_getElem? (i := 398) (by decide +kernel), List.mem_of_getElem? (i := 399) (by decide +kernel)⟩
theorem lw_p6 : lw_okq (⟨"BeanServer$Pattern", "copy", "(IILjava/lang/StringBuilder;)V"⟩, 6) := ⟨⟨by decide +kernel, by decide +kernel⟩, List.mem_of_getElem? (i := 329) (by decide +kernel), List.mem_of_getElem? (i := 404) (by decide +kernel), List.mem_of_getElem? (i := 405) (by decide +kernel)⟩
theorem lw_p7 : lw_okq (⟨"BeanServer", "beanNamed", "(Ljava/lang/String;)I"⟩, 9) := ⟨⟨by decide +kernel, by decide +kernel⟩, List.mem_of_getElem? (i := 24) (by decide +kernel), List.mem_of_getElem? (i := 473) (by decide +kernel), List.mem_of_getElem? (i := 474) (by decide +kernel)⟩
theorem lw_p8 : lw_okq (⟨"BeanServer", "freeBean", "()I"⟩, 9) := ⟨⟨by decide +kernel, by decide +kernel⟩, List.mem_of_getElem? (i := 24) (by decide +kernel), List.mem_of_getElem? (i := 485) (by decide +kernel), List.mem_of_getElem? (i := 486) (by decide +kernel)⟩
theorem lw_p9 : lw_okq (⟨"BeanServer", "beanAt", "(I)LBeanServer$Bean;"⟩, 9) := ⟨⟨by decide +kernel, by decide +kernel⟩, List.mem_of_getElem? (i := 24) (by decide +kernel), List.mem_of_getElem? (i := 527) (by decide +kernel), List.mem_of_getElem? (i := 528) (by decide +kernel)⟩
theorem lw_p10 : lw_okq (⟨"BeanServer$QueryReader", "all", "()I"⟩, 6) := ⟨⟨by decide +kernel, by decide +kernel⟩, List.mem_of_getElem? (i := 551) (by decide +kernel), List.mem_of_getElem? (i := 587) (by decide +kernel), List.mem_of_getElem? (i := 588) (by decide +kernel)⟩
theorem lw_p11 : lw_okq (⟨"BeanServer$QueryReader", "one", "()I"⟩, 6) := ⟨⟨by decide +kernel, by decide +kernel⟩, List.mem_of_getElem? (i := 551) (by decide +kernel), List.mem_of_getElem? (i := 591) (by decide +kernel), List.mem_of_getElem? (i := 592) (by decide +kernel)⟩
theorem lw_p12 : lw_okq (⟨"BeanServer$QueryReader", "step", "()V"⟩, 6) := ⟨⟨by decide +kernel, by decide +kernel⟩, List.mem_of_getElem? (i := 551) (by decide +kernel), List.mem_of_getElem? (i := 595) (by decide +kernel), List.mem_of_getElem? (i := 596) (by decide +kernel)⟩
theorem lw_p13 : lw_okq (⟨"BeanServer$QueryReader", "sum", "()I"⟩, 6) := ⟨⟨by decide +kernel, by decide +kernel⟩, List.mem_of_getElem? (i := 551) (by decide +kernel), List.mem_of_getElem? (i := 601) (by decide +kernel), List.mem_of_getElem? (i := 602) (by decide +kernel)⟩
theorem lw_p14 : lw_okq (⟨"BeanServer$QueryReader", "product", "()I"⟩, 6) := ⟨⟨by decide +kernel, by decide +kernel⟩, List.mem_of_getElem? (i := 551) (by decide +kernel), List.mem_of_getElem? (i := 605) (by decide +kernel), List.mem_of_getElem? (i := 606) (by decide +kernel)⟩
theorem lw_p15 : lw_okq (⟨"BeanServer$QueryReader", "unit", "()I"⟩, 6) := ⟨⟨by decide +kernel, by decide +kernel⟩, List.mem_of_getElem? (i := 551) (by decide +kernel), List.mem_of_getElem? (i := 609) (by decide +kernel), List.mem_of_getElem? (i := 610) (by decide +kernel)⟩
def lw_privs_1 : List (MethodName × Nat) := [(⟨"BeanServer", "takenName", "()LBeanServer$Pattern;"⟩, 9), (⟨"BeanServer", "taken", "()Ljava/lang/String;"⟩, 9), (⟨"BeanServer$Pattern", "rowEnd", "(I)I"⟩, 6), (⟨"BeanServer$Pattern", "parseList", "(I)Z"⟩, 6), (⟨"BeanServer$Pattern", "parseProperty", "(I)I"⟩, 6), (⟨"BeanServer$Pattern", "ordered", "()Ljava/lang/String;"⟩, 6), (⟨"BeanServer$Pattern", "copy", "(IILjava/lang/StringBuilder;)V"⟩, 6), (⟨"BeanServer", "beanNamed", "(Ljava/lang/String;)I"⟩, 9), (⟨"BeanServer", "freeBean", "()I"⟩, 9), (⟨"BeanServer", "beanAt", "(I)LBeanServer$Bean;"⟩, 9), (⟨"BeanServer$QueryReader", "all", "()I"⟩, 6), (⟨"BeanServer$QueryReader", "one", "()I"⟩, 6), (⟨"BeanServer$QueryReader", "step", "()V"⟩, 6), (⟨"BeanServer$QueryReader", "sum", "()I"⟩, 6), (⟨"BeanServer$QueryReader", "product", "()I"⟩, 6), (⟨"BeanServer$QueryReader", "unit", "()I"⟩, 6)]
theorem lw_r1 : ∀ q ∈ lw_privs_1, lw_okq q := List.forall_mem_cons.mpr ⟨lw_p0, List.forall_mem_cons.mpr ⟨lw_p1, List.forall_mem_cons.mpr ⟨lw_p2, List.forall_mem_cons.mpr ⟨lw_p3, List.forall_mem_cons.mpr ⟨lw_p4, List.forall_mem_cons.mpr ⟨lw_p5, List.forall_mem_cons.mpr ⟨lw_p6, List.forall_mem_cons.mpr ⟨lw_p7, List.forall_mem_cons.mpr ⟨lw_p8, List.forall_mem_cons.mpr ⟨lw_p9, List.forall_mem_cons.mpr ⟨lw_p10, List.forall_mem_cons.mpr ⟨lw_p11, List.forall_mem_cons.mpr ⟨lw_p12, List.forall_mem_cons.mpr ⟨lw_p13, List.forall_mem_cons.mpr ⟨lw_p14, List.forall_mem_cons.mpr ⟨lw_p15, fun _ h => absurd h List.not_mem_nil⟩⟩⟩⟩⟩⟩⟩⟩⟩⟩⟩⟩⟩⟩⟩⟩
theorem lw_p16 : lw_okq (⟨"BeanServer$QueryForm", "openParenthesis", "()V"⟩, 4) := ⟨⟨by decide +kernel, by decide +kernel⟩, List.mem_of_getElem? (i := 620) (by decide +kernel), List.mem_of_getElem? (i := 647) (by decide +kernel), List.mem_of_getElem? (i := 648) (by decide +kernel)⟩
theorem lw_p17 : lw_okq (⟨"BeanServer$QueryForm", "closeParenthesis", "(C)V"⟩, 4) := ⟨⟨by decide +kernel, by decide +kernel⟩, List.mem_of_getElem? (i := 620) (by decide +kernel), List.mem_of_getElem? (i := 653) (by decide +kernel), List.mem_of_getElem? (i := 654) (by decide +kernel)⟩
theorem lw_p18 : lw_okq (⟨"BeanServer$QueryForm", "lastBefore", "(I)C"⟩, 4) := ⟨⟨by decide +kernel, by decide +kernel⟩, List.mem_of_getElem? (i := 620) (by decide +kernel), List.mem_of_getElem? (i := 657) (by decide +kernel), List.mem_of_getElem? (i := 658) (by decide +kernel)⟩
theorem lw_p19 : lw_okq (⟨"BeanServer$QueryForm", "jointFrom", "(I)C"⟩, 4) := ⟨⟨by decide +kernel, by decide +kernel⟩, List.mem_of_getElem? (i := 620) (by decide +kernel), List.mem_of_getElem? (i := 671) (by decide +kernel), List.mem_of_getElem? (i := 672) (by decide +kernel)⟩
theorem lw_p20 : lw_okq (⟨"BeanServer", "queryAt", "(I)LBeanServer$Query;"⟩, 9) := ⟨⟨by decide +kernel, by decide +kernel⟩, List.mem_of_getElem? (i := 24) (by decide +kernel), List.mem_of_getElem? (i := 707) (by decide +kernel), List.mem_of_getElem? (i := 708) (by decide +kernel)⟩
theorem lw_p21 : lw_okq (⟨"BeanServer$Pattern", "standsFor", "(IILjava/lang/String;II)Z"⟩, 6) := ⟨⟨by decide +kernel, by decide +kernel⟩, List.mem_of_getElem? (i := 329) (by decide +kernel), List.mem_of_getElem? (i := 719) (by decide +kernel), List.mem_of_getElem? (i := 720) (by decide +kernel)⟩
theorem lw_p22 : lw_okq (⟨"BeanServer", "shownForm", "(II)Ljava/lang/String;"⟩, 9) := ⟨⟨by decide +kernel, by decide +kernel⟩, List.mem_of_getElem? (i := 24) (by decide +kernel), List.mem_of_getElem? (i := 734) (by decide +kernel), List.mem_of_getElem? (i := 735) (by decide +kernel)⟩
theorem lw_p23 : lw_okq (⟨"BeanServer", "numberForMonitorOf", "(I)I"⟩, 9) := ⟨⟨by decide +kernel, by decide +kernel⟩, List.mem_of_getElem? (i := 24) (by decide +kernel), List.mem_of_getElem? (i := 743) (by decide +kernel), List.mem_of_getElem? (i := 744) (by decide +kernel)⟩
theorem lw_p24 : lw_okq (⟨"BeanServer", "monitorAt", "(I)LBeanServer$Monitor;"⟩, 9) := ⟨⟨by decide +kernel, by decide +kernel⟩, List.mem_of_getElem? (i := 24) (by decide +kernel), List.mem_of_getElem? (i := 814) (by decide +kernel), List.mem_of_getElem? (i := 815) (by decide +kernel)⟩
theorem lw_p25 : lw_okq (⟨"BeanServer", "letLook", "(LBeanServer$Monitor;I)V"⟩, 9) := ⟨⟨by decide +kernel, by decide +kernel⟩, List.mem_of_getElem? (i := 24) (by decide +kernel), List.mem_of_getElem? (i := 822) (by decide +kernel), List.mem_of_getElem? (i := 823) (by decide +kernel)⟩
theorem lw_p26 : lw_okq (⟨"BeanServer$Counter", "firstMarkAbove", "(I)J"⟩, 9) := ⟨⟨by decide +kernel, by decide +kernel⟩, List.mem_of_getElem? (i := 747) (by decide +kernel), List.mem_of_getElem? (i := 832) (by decide +kernel), List.mem_of_getElem? (i := 833) (by decide +kernel)⟩
theorem lw_p27 : lw_okq (⟨"BeanServerModel", "put", "(IC)V"⟩, 29) := ⟨⟨by decide +kernel, by decide +kernel⟩, List.mem_of_getElem? (i := 867) (by decide +kernel), List.mem_of_getElem? (i := 967) (by decide +kernel), List.mem_of_getElem? (i := 968) (by decide +kernel)⟩
theorem lw_p28 : lw_okq (⟨"BeanServerModel", "takeName", "()Z"⟩, 29) := ⟨⟨by decide +kernel, by decide +kernel⟩, List.mem_of_getElem? (i := 867) (by decide +kernel), List.mem_of_getElem? (i := 975) (by decide +kernel), List.mem_of_getElem? (i := 976) (by decide +kernel)⟩
theorem lw_p29 : lw_okq (⟨"BeanServerModel", "take", "()V"⟩, 29) := ⟨⟨by decide +kernel, by decide +kernel⟩, List.mem_of_getElem? (i := 867) (by decide +kernel), List.mem_of_getElem? (i := 979) (by decide +kernel), List.mem_of_getElem? (i := 980) (by decide +kernel)⟩
theorem lw_p30 : lw_okq (⟨"BeanServerModel", "copy", "(II)V"⟩, 29) := ⟨⟨by decide +kernel, by decide +kernel⟩, List.mem_of_getElem? (i := 867) (by decide +kernel), List.mem_of_getElem? (i := 983) (by decide +kernel), List.mem_of_getElem? (i := 984) (by decide +kernel)⟩
theorem lw_p31 : lw_okq (⟨"BeanServerModel", "get1", "(II)C"⟩, 29) := ⟨⟨by decide +kernel, by decide +kernel⟩, List.mem_of_getElem? (i := 867) (by decide +kernel), List.mem_of_getElem? (i := 987) (by decide +kernel), List.mem_of_getElem? (i := 988) (by decide +kernel)⟩
def lw_privs_2 : List (MethodName × Nat) := [(⟨"BeanServer$QueryForm", "openParenthesis", "()V"⟩, 4), (⟨"BeanServer$QueryForm", "closeParenthesis", "(C)V"⟩, 4), (⟨"BeanServer$QueryForm", "lastBefore", "(I)C"⟩, 4), (⟨"BeanServer$QueryForm", "jointFrom", "(I)C"⟩, 4), (⟨"BeanServer", "queryAt", "(I)LBeanServer$Query;"⟩, 9), (⟨"BeanServer$Pattern", "standsFor", "(IILjava/lang/String;II)Z"⟩, 6), (⟨"BeanServer", "shownForm", "(II)Ljava/lang/String;"⟩, 9), (⟨"BeanServer", "numberForMonitorOf", "(I)I"⟩, 9), (⟨"BeanServer", "monitorAt", "(I)LBeanServer$Monitor;"⟩, 9), (⟨"BeanServer", "letLook", "(LBeanServer$Monitor;I)V"⟩, 9), (⟨"BeanServer$Counter", "firstMarkAbove", "(I)J"⟩, 9), (⟨"BeanServerModel", "put", "(IC)V"⟩, 29), (⟨"BeanServerModel", "takeName", "()Z"⟩, 29), (⟨"BeanServerModel", "take", "()V"⟩, 29), (⟨"BeanServerModel", "copy", "(II)V"⟩, 29), (⟨"BeanServerModel", "get1", "(II)C"⟩, 29)]
theorem lw_r2 : ∀ q ∈ lw_privs_2, lw_okq q := List.forall_mem_cons.mpr ⟨lw_p16, List.forall_mem_cons.mpr ⟨lw_p17, List.forall_mem_cons.mpr ⟨lw_p18, List.forall_mem_cons.mpr ⟨lw_p19, List.forall_mem_cons.mpr ⟨lw_p20, List.forall_mem_cons.mpr ⟨lw_p21, List.forall_mem_cons.mpr ⟨lw_p22, List.forall_mem_cons.mpr ⟨lw_p23, List.forall_mem_cons.mpr ⟨lw_p24, List.forall_mem_cons.mpr ⟨lw_p25, List.forall_mem_cons.mpr ⟨lw_p26, List.forall_mem_cons.mpr ⟨lw_p27, List.forall_mem_cons.mpr ⟨lw_p28, List.forall_mem_cons.mpr ⟨lw_p29, List.forall_mem_cons.mpr ⟨lw_p30, List.forall_mem_cons.mpr ⟨lw_p31, fun _ h => absurd h List.not_mem_nil⟩⟩⟩⟩⟩⟩⟩⟩⟩⟩⟩⟩⟩⟩⟩⟩
theorem lw_p32 : lw_okq (⟨"BeanServerModel", "reads", "(IZ)Z"⟩, 29) := ⟨⟨by decide +kernel, by decide +kernel⟩, List.mem_of_getElem? (i := 867) (by decide +kernel), List.mem_of_getElem? (i := 991) (by decide +kernel), List.mem_of_getElem? (i := 992) (by decide +kernel)⟩
theorem lw_p33 : lw_okq (⟨"BeanServerModel", "colon", "(I)I"⟩, 29) := ⟨⟨by decide +kernel, by decide +kernel⟩, List.mem_of_getElem? (i := 867) (by decide +kernel), List.mem_of_getElem? (i := 995) (by decide +kernel), List.mem_of_getElem? (i := 996) (by decide +kernel)⟩
theorem lw_p34 : lw_okq (⟨"BeanServerModel", "list", "(IIZ)Z"⟩, 29) := ⟨⟨by decide +kernel, by decide +kernel⟩, List.mem_of_getElem? (i := 867) (by decide +kernel), List.mem_of_getElem? (i := 1008) (by decide +kernel), List.mem_of_getElem? (i := 1009) (by decide +kernel)⟩
theorem lw_p35 : lw_okq (⟨"BeanServerModel", "order", "()V"⟩, 29) := ⟨⟨by decide +kernel, by decide +kernel⟩, List.mem_of_getElem? (i := 867) (by decide +kernel), List.mem_of_getElem? (i := 1012) (by decide +kernel), List.mem_of_getElem? (i := 1013) (by decide +kernel)⟩
theorem lw_p36 : lw_okq (⟨"BeanServerModel", "copyProperty", "(III)V"⟩, 29) := ⟨⟨by decide +kernel, by decide +kernel⟩, List.mem_of_getElem? (i := 867) (by decide +kernel), List.mem_of_getElem? (i := 1016) (by decide +kernel), List.mem_of_getElem? (i := 1017) (by decide +kernel)⟩
theorem lw_p37 : lw_okq (⟨"BeanServerModel", "beanWith", "(I)I"⟩, 29) := ⟨⟨by decide +kernel, by decide +kernel⟩, List.mem_of_getElem? (i := 867) (by decide +kernel), List.mem_of_getElem? (i := 1020) (by decide +kernel), List.mem_of_getElem? (i := 1021) (by decide +kernel)⟩
theorem lw_p38 : lw_okq (⟨"BeanServerModel", "same", "(II)Z"⟩, 29) := ⟨⟨by decide +kernel, by decide +kernel⟩, List.mem_of_getElem? (i := 867) (by decide +kernel), List.mem_of_getElem? (i := 1024) (by decide +kernel), List.mem_of_getElem? (i := 1025) (by decide +kernel)⟩
theorem lw_p39 : lw_okq (⟨"BeanServerModel", "give", "(III)V"⟩, 29) := ⟨⟨by decide +kernel, by decide +kernel⟩, List.mem_of_getElem? (i := 867) (by decide +kernel), List.mem_of_getElem? (i := 1028) (by decide +kernel), List.mem_of_getElem? (i := 1029) (by decide +kernel)⟩
theorem lw_p40 : lw_okq (⟨"BeanServerModel", "isSlot", "(II)Z"⟩, 29) := ⟨⟨by decide +kernel, by decide +kernel⟩, List.mem_of_getElem? (i := 867) (by decide +kernel), List.mem_of_getElem? (i := 1045) (by decide +kernel), List.mem_of_getElem? (i := 1046) (by decide +kernel)⟩
theorem lw_p41 : lw_okq (⟨"BeanServerModel", "isBean", "(I)Z"⟩, 29) := ⟨⟨by decide +kernel, by decide +kernel⟩, List.mem_of_getElem? (i := 867) (by decide +kernel), List.mem_of_getElem? (i := 1049) (by decide +kernel), List.mem_of_getElem? (i := 1050) (by decide +kernel)⟩
theorem lw_p42 : lw_okq (⟨"BeanServerModel", "isQuery", "()Z"⟩, 29) := ⟨⟨by decide +kernel, by decide +kernel⟩, List.mem_of_getElem? (i := 867) (by decide +kernel), List.mem_of_getElem? (i := 1065) (by decide +kernel), List.mem_of_getElem? (i := 1066) (by decide +kernel)⟩
theorem lw_p43 : lw_okq (⟨"BeanServerModel", "comparisonEnd", "(I)I"⟩, 29) := ⟨⟨by decide +kernel, by decide +kernel⟩, List.mem_of_getElem? (i := 867) (by decide +kernel), List.mem_of_getElem? (i := 1069) (by decide +kernel), List.mem_of_getElem? (i := 1070) (by decide +kernel)⟩
theorem lw_p44 : lw_okq (⟨"BeanServerModel", "valueEnd", "(I)I"⟩, 29) := ⟨⟨by decide +kernel, by decide +kernel⟩, List.mem_of_getElem? (i := 867) (by decide +kernel), List.mem_of_getElem? (i := 1073) (by decide +kernel), List.mem_of_getElem? (i := 1074) (by decide +kernel)⟩
theorem lw_p45 : lw_okq (⟨"BeanServerModel", "unit", "(I)I"⟩, 29) := ⟨⟨by decide +kernel, by decide +kernel⟩, List.mem_of_getElem? (i := 867) (by decide +kernel), List.mem_of_getElem? (i := 1077) (by decide +kernel), List.mem_of_getElem? (i := 1078) (by decide +kernel)⟩
theorem lw_p46 : lw_okq (⟨"BeanServerModel", "shorten", "()V"⟩, 29) := ⟨⟨by decide +kernel, by decide +kernel⟩, List.mem_of_getElem? (i := 867) (by decide +kernel), List.mem_of_getElem? (i := 1087) (by decide +kernel), List.mem_of_getElem? (i := 1088) (by decide +kernel)⟩
theorem lw_p47 : lw_okq (⟨"BeanServerModel", "last", "()C"⟩, 29) := ⟨⟨by decide +kernel, by decide +kernel⟩, List.mem_of_getElem? (i := 867) (by decide +kernel), List.mem_of_getElem? (i := 1091) (by decide +kernel), List.mem_of_getElem? (i := 1092) (by decide +kernel)⟩
def lw_privs_3 : List (MethodName × Nat) := [(⟨"BeanServerModel", "reads", "(IZ)Z"⟩, 29), (⟨"BeanServerModel", "colon", "(I)I"⟩, 29), (⟨"BeanServerModel", "list", "(IIZ)Z"⟩, 29), (⟨"BeanServerModel", "order", "()V"⟩, 29), (⟨"BeanServerModel", "copyProperty", "(III)V"⟩, 29), (⟨"BeanServerModel", "beanWith", "(I)I"⟩, 29), (⟨"BeanServerModel", "same", "(II)Z"⟩, 29), (⟨"BeanServerModel", "give", "(III)V"⟩, 29), (⟨"BeanServerModel", "isSlot", "(II)Z"⟩, 29), (⟨"BeanServerModel", "isBean", "(I)Z"⟩, 29), (⟨"BeanServerModel", "isQuery", "()Z"⟩, 29), (⟨"BeanServerModel", "comparisonEnd", "(I)I"⟩, 29), (⟨"BeanServerModel", "valueEnd", "(I)I"⟩, 29), (⟨"BeanServerModel", "unit", "(I)I"⟩, 29), (⟨"BeanServerModel", "shorten", "()V"⟩, 29), (⟨"BeanServerModel", "last", "()C"⟩, 29)]
theorem lw_r3 : ∀ q ∈ lw_privs_3, lw_okq q := List.forall_mem_cons.mpr ⟨lw_p32, List.forall_mem_cons.mpr ⟨lw_p33, List.forall_mem_cons.mpr ⟨lw_p34, List.forall_mem_cons.mpr ⟨lw_p35, List.forall_mem_cons.mpr ⟨lw_p36, List.forall_mem_cons.mpr ⟨lw_p37, List.forall_mem_cons.mpr ⟨lw_p38, List.forall_mem_cons.mpr ⟨lw_p39, List.forall_mem_cons.mpr ⟨lw_p40, List.forall_mem_cons.mpr ⟨lw_p41, List.forall_mem_cons.mpr ⟨lw_p42, List.forall_mem_cons.mpr ⟨lw_p43, List.forall_mem_cons.mpr ⟨lw_p44, List.forall_mem_cons.mpr ⟨lw_p45, List.forall_mem_cons.mpr ⟨lw_p46, List.forall_mem_cons.mpr ⟨lw_p47, fun _ h => absurd h List.not_mem_nil⟩⟩⟩⟩⟩⟩⟩⟩⟩⟩⟩⟩⟩⟩⟩⟩
theorem lw_p48 : lw_okq (⟨"BeanServerModel", "needed", "(I)Z"⟩, 29) := ⟨⟨by decide +kernel, by decide +kernel⟩, List.mem_of_getElem? (i := 867) (by decide +kernel), List.mem_of_getElem? (i := 1095) (by decide +kernel), List.mem_of_getElem? (i := 1096) (by decide +kernel)⟩
theorem lw_p49 : lw_okq (⟨"BeanServerModel", "partner", "(I)I"⟩, 29) := ⟨⟨by decide +kernel, by decide +kernel⟩, List.mem_of_getElem? (i := 867) (by decide +kernel), List.mem_of_getElem? (i := 1099) (by decide +kernel), List.mem_of_getElem? (i := 1100) (by decide +kernel)⟩
theorem lw_p50 : lw_okq (⟨"BeanServerModel", "contains", "(IIC)Z"⟩, 29) := ⟨⟨by decide +kernel, by decide +kernel⟩, List.mem_of_getElem? (i := 867) (by decide +kernel), List.mem_of_getElem? (i := 1103) (by decide +kernel), List.mem_of_getElem? (i := 1104) (by decide +kernel)⟩
theorem lw_p51 : lw_okq (⟨"BeanServerModel", "amongSeveral", "(II)Z"⟩, 29) := ⟨⟨by decide +kernel, by decide +kernel⟩, List.mem_of_getElem? (i := 867) (by decide +kernel), List.mem_of_getElem? (i := 1107) (by decide +kernel), List.mem_of_getElem? (i := 1108) (by decide +kernel)⟩
theorem lw_p52 : lw_okq (⟨"BeanServerModel", "isAsked", "(I)Z"⟩, 29) := ⟨⟨by decide +kernel, by decide +kernel⟩, List.mem_of_getElem? (i := 867) (by decide +kernel), List.mem_of_getElem? (i := 1115) (by decide +kernel), List.mem_of_getElem? (i := 1116) (by decide +kernel)⟩
theorem lw_p53 : lw_okq (⟨"BeanServerModel", "truth", "(II)I"⟩, 29) := ⟨⟨by decide +kernel, by decide +kernel⟩, List.mem_of_getElem? (i := 867) (by decide +kernel), List.mem_of_getElem? (i := 1119) (by decide +kernel), List.mem_of_getElem? (i := 1120) (by decide +kernel)⟩
theorem lw_p54 : lw_okq (⟨"BeanServerModel", "enter", "(IZ)V"⟩, 29) := ⟨⟨by decide +kernel, by decide +kernel⟩, List.mem_of_getElem? (i := 867) (by decide +kernel), List.mem_of_getElem? (i := 1123) (by decide +kernel), List.mem_of_getElem? (i := 1124) (by decide +kernel)⟩
theorem lw_p55 : lw_okq (⟨"BeanServerModel", "looked", "(I)Z"⟩, 29) := ⟨⟨by decide +kernel, by decide +kernel⟩, List.mem_of_getElem? (i := 867) (by decide +kernel), List.mem_of_getElem? (i := 1127) (by decide +kernel), List.mem_of_getElem? (i := 1128) (by decide +kernel)⟩
theorem lw_p56 : lw_okq (⟨"BeanServerModel", "settle", "(IZ)V"⟩, 29) := ⟨⟨by decide +kernel, by decide +kernel⟩, List.mem_of_getElem? (i := 867) (by decide +kernel), List.mem_of_getElem? (i := 1131) (by decide +kernel), List.mem_of_getElem? (i := 1132) (by decide +kernel)⟩
theorem lw_p57 : lw_okq (⟨"BeanServerModel", "comparison", "(II)Z"⟩, 29) := ⟨⟨by decide +kernel, by decide +kernel⟩, List.mem_of_getElem? (i := 867) (by decide +kernel), List.mem_of_getElem? (i := 1135) (by decide +kernel), List.mem_of_getElem? (i := 1136) (by decide +kernel)⟩
theorem lw_p58 : lw_okq (⟨"BeanServerModel", "value", "(II)I"⟩, 29) := ⟨⟨by decide +kernel, by decide +kernel⟩, List.mem_of_getElem? (i := 867) (by decide +kernel), List.mem_of_getElem? (i := 1139) (by decide +kernel), List.mem_of_getElem? (i := 1140) (by decide +kernel)⟩
theorem lw_p59 : lw_okq (⟨"BeanServerModel", "unitValue", "(II)I"⟩, 29) := ⟨⟨by decide +kernel, by decide +kernel⟩, List.mem_of_getElem? (i := 867) (by decide +kernel), List.mem_of_getElem? (i := 1143) (by decide +kernel), List.mem_of_getElem? (i := 1144) (by decide +kernel)⟩
theorem lw_p60 : lw_okq (⟨"BeanServerModel", "fits", "(I)Z"⟩, 29) := ⟨⟨by decide +kernel, by decide +kernel⟩, List.mem_of_getElem? (i := 867) (by decide +kernel), List.mem_of_getElem? (i := 1152) (by decide +kernel), List.mem_of_getElem? (i := 1153) (by decide +kernel)⟩
theorem lw_p61 : lw_okq (⟨"BeanServerModel", "matches", "(IIII)Z"⟩, 29) := ⟨⟨by decide +kernel, by decide +kernel⟩, List.mem_of_getElem? (i := 867) (by decide +kernel), List.mem_of_getElem? (i := 1156) (by decide +kernel), List.mem_of_getElem? (i := 1157) (by decide +kernel)⟩
theorem lw_p62 : lw_okq (⟨"BeanServerModel", "spread", "(IIII)I"⟩, 29) := ⟨⟨by decide +kernel, by decide +kernel⟩, List.mem_of_getElem? (i := 867) (by decide +kernel), List.mem_of_getElem? (i := 1163) (by decide +kernel), List.mem_of_getElem? (i := 1164) (by decide +kernel)⟩
theorem lw_p63 : lw_okq (⟨"BeanServerModel", "property", "(II)I"⟩, 29) := ⟨⟨by decide +kernel, by decide +kernel⟩, List.mem_of_getElem? (i := 867) (by decide +kernel), List.mem_of_getElem? (i := 1167) (by decide +kernel), List.mem_of_getElem? (i := 1168) (by decide +kernel)⟩
def lw_privs_4 : List (MethodName × Nat) := [(⟨"BeanServerModel", "needed", "(I)Z"⟩, 29), (⟨"BeanServerModel", "partner", "(I)I"⟩, 29), (⟨"BeanServerModel", "contains", "(IIC)Z"⟩, 29), (⟨"BeanServerModel", "amongSeveral", "(II)Z"⟩, 29), (⟨"BeanServerModel", "isAsked", "(I)Z"⟩, 29), (⟨"BeanServerModel", "truth", "(II)I"⟩, 29), (⟨"BeanServerModel", "enter", "(IZ)V"⟩, 29), (⟨"BeanServerModel", "looked", "(I)Z"⟩, 29), (⟨"BeanServerModel", "settle", "(IZ)V"⟩, 29), (⟨"BeanServerModel", "comparison", "(II)Z"⟩, 29), (⟨"BeanServerModel", "value", "(II)I"⟩, 29), (⟨"BeanServerModel", "unitValue", "(II)I"⟩, 29), (⟨"BeanServerModel", "fits", "(I)Z"⟩, 29), (⟨"BeanServerModel", "matches", "(IIII)Z"⟩, 29), (⟨"BeanServerModel", "spread", "(IIII)I"⟩, 29), (⟨"BeanServerModel", "property", "(II)I"⟩, 29)]
theorem lw_r4 : ∀ q ∈ lw_privs_4, lw_okq q := List.forall_mem_cons.mpr ⟨lw_p48, List.forall_mem_cons.mpr ⟨lw_p49, List.forall_mem_cons.mpr ⟨lw_p50, List.forall_mem_cons.mpr ⟨lw_p51, List.forall_mem_cons.mpr ⟨lw_p52, List.forall_mem_cons.mpr ⟨lw_p53, List.forall_mem_cons.mpr ⟨lw_p54, List.forall_mem_cons.mpr ⟨lw_p55, List.forall_mem_cons.mpr ⟨lw_p56, List.forall_mem_cons.mpr ⟨lw_p57, List.forall_mem_cons.mpr ⟨lw_p58, List.forall_mem_cons.mpr ⟨lw_p59, List.forall_mem_cons.mpr ⟨lw_p60, List.forall_mem_cons.mpr ⟨lw_p61, List.forall_mem_cons.mpr ⟨lw_p62, List.forall_mem_cons.mpr ⟨lw_p63, fun _ h => absurd h List.not_mem_nil⟩⟩⟩⟩⟩⟩⟩⟩⟩⟩⟩⟩⟩⟩⟩⟩
theorem lw_p64 : lw_okq (⟨"BeanServerModel", "watch", "(IIIII)I"⟩, 29) := ⟨⟨by decide +kernel, by decide +kernel⟩, List.mem_of_getElem? (i := 867) (by decide +kernel), List.mem_of_getElem? (i := 1183) (by decide +kernel), List.mem_of_getElem? (i := 1184) (by decide +kernel)⟩
theorem lw_p65 : lw_okq (⟨"BeanServerModel", "isMonitor", "(I)Z"⟩, 29) := ⟨⟨by decide +kernel, by decide +kernel⟩, List.mem_of_getElem? (i := 867) (by decide +kernel), List.mem_of_getElem? (i := 1195) (by decide +kernel), List.mem_of_getElem? (i := 1196) (by decide +kernel)⟩
theorem lw_p66 : lw_okq (⟨"BeanServerModel", "observe1", "(I)V"⟩, 29) := ⟨⟨by decide +kernel, by decide +kernel⟩, List.mem_of_getElem? (i := 867) (by decide +kernel), List.mem_of_getElem? (i := 1203) (by decide +kernel), List.mem_of_getElem? (i := 1204) (by decide +kernel)⟩
theorem lw_p67 : lw_okq (⟨"BeanServerModel", "count", "(II)V"⟩, 29) := ⟨⟨by decide +kernel, by decide +kernel⟩, List.mem_of_getElem? (i := 867) (by decide +kernel), List.mem_of_getElem? (i := 1207) (by decide +kernel), List.mem_of_getElem? (i := 1208) (by decide +kernel)⟩
theorem lw_p68 : lw_okq (⟨"BeanServerModel", "gaugeOf", "(II)V"⟩, 29) := ⟨⟨by decide +kernel, by decide +kernel⟩, List.mem_of_getElem? (i := 867) (by decide +kernel), List.mem_of_getElem? (i := 1211) (by decide +kernel), List.mem_of_getElem? (i := 1212) (by decide +kernel)⟩
def lw_privs_5 : List (MethodName × Nat) := [(⟨"BeanServerModel", "watch", "(IIIII)I"⟩, 29), (⟨"BeanServerModel", "isMonitor", "(I)Z"⟩, 29), (⟨"BeanServerModel", "observe1", "(I)V"⟩, 29), (⟨"BeanServerModel", "count", "(II)V"⟩, 29), (⟨"BeanServerModel", "gaugeOf", "(II)V"⟩, 29)]
theorem lw_r5 : ∀ q ∈ lw_privs_5, lw_okq q := List.forall_mem_cons.mpr ⟨lw_p64, List.forall_mem_cons.mpr ⟨lw_p65, List.forall_mem_cons.mpr ⟨lw_p66, List.forall_mem_cons.mpr ⟨lw_p67, List.forall_mem_cons.mpr ⟨lw_p68, fun _ h => absurd h List.not_mem_nil⟩⟩⟩⟩⟩
def lw_privs : List (MethodName × Nat) := lw_privs_1 ++ (lw_privs_2 ++ (lw_privs_3 ++ (lw_privs_4 ++ (lw_privs_5))))
def lw_tbl : List Cond := k2_sels lw_privs ++ tables_1
theorem lw_privs_ok : ∀ q ∈ lw_privs, lw_okq q := by
  show ∀ q ∈ lw_privs_1 ++ (lw_privs_2 ++ (lw_privs_3 ++ (lw_privs_4 ++ (lw_privs_5)))), lw_okq q
  exact List.forall_mem_append.mpr ⟨lw_r1, List.forall_mem_append.mpr ⟨lw_r2, List.forall_mem_append.mpr ⟨lw_r3, List.forall_mem_append.mpr ⟨lw_r4, lw_r5⟩⟩⟩⟩
/-- AbstractStringBuilder's private methods on a StringBuilder -/
def jj_xs : List Cond := [.selects "java/lang/StringBuilder" ⟨"java/lang/AbstractStringBuilder", "ensureCapacityInternal", "(I)V"⟩ ⟨"java/lang/AbstractStringBuilder", "ensureCapacityInternal", "(I)V"⟩, .selects "java/lang/StringBuilder" ⟨"java/lang/AbstractStringBuilder", "newCapacity", "(I)I"⟩ ⟨"java/lang/AbstractStringBuilder", "newCapacity", "(I)I"⟩, .selects "java/lang/StringBuilder" ⟨"java/lang/AbstractStringBuilder", "inflate", "()V"⟩ ⟨"java/lang/AbstractStringBuilder", "inflate", "()V"⟩, .selects "java/lang/StringBuilder" ⟨"java/lang/AbstractStringBuilder", "shift", "(II)V"⟩ ⟨"java/lang/AbstractStringBuilder", "shift", "(II)V"⟩]
/-- the words that a callee may have too -/
def jj_gw : List Cond := (jj_xs ++ lw_tbl).filter goodWord
theorem jj_mem {w : Cond} (h : w ∈ tables_1) (hg : goodWord w = true) : w ∈ jj_gw := List.mem_filter.mpr ⟨List.mem_append_right _ (List.mem_append_right _ h), hg⟩
theorem jj_memX {w : Cond} (h : w ∈ jj_xs) (hg : goodWord w = true) : w ∈ jj_gw := List.mem_filter.mpr ⟨List.mem_append_left _ h, hg⟩
theorem jj_memP {w : Cond} (h : w ∈ k2_sels lw_privs) (hg : goodWord w = true) : w ∈ jj_gw := List.mem_filter.mpr ⟨List.mem_append_right _ (List.mem_append_left _ h), hg⟩
def cn_BS : String := "BeanServer"
def cf_BS : u_T := fun k => match k with
  | 0 => ("BeanServer", "buffer", "Ljava/lang/StringBuilder;", true)
  | 1 => ("BeanServer", "beans", "[LBeanServer$Bean;", true)
  | 2 => ("BeanServer", "queries", "[LBeanServer$Query;", true)
  | 3 => ("BeanServer", "queryCount", "I", false)
  | 4 => ("BeanServer", "monitors", "[LBeanServer$Monitor;", true)
  | 5 => ("BeanServer", "log", "LBeanServer$Log;", true)
  | 6 => ("BeanServer", "selection", "[I", true)
  | 7 => ("BeanServer", "selectionSize", "I", false)
  | _ => ("BeanServer", "latestPattern", "Ljava/lang/String;", false)
def ct_BS : Nat → FieldType := fun k => match k with
  | 0 => (.object "java/lang/StringBuilder")
  | 1 => (.array (.object "BeanServer$Bean"))
  | 2 => (.array (.object "BeanServer$Query"))
  | 3 => .int
  | 4 => (.array (.object "BeanServer$Monitor"))
  | 5 => (.object "BeanServer$Log")
  | 6 => (.array .int)
  | 7 => .int
  | _ => (.object "java/lang/String")
def cn_BE : String := "BeanServer$Bean"
def cf_BE : u_T := fun k => match k with
  | 0 => ("BeanServer$Bean", "name", "LBeanServer$Pattern;", true)
  | 1 => ("BeanServer$Bean", "values", "[I", true)
  | _ => ("BeanServer$Bean", "present", "[Z", true)
def ct_BE : Nat → FieldType := fun k => match k with
  | 0 => (.object "BeanServer$Pattern")
  | 1 => (.array .int)
  | _ => (.array .boolean)
def cn_LG : String := "BeanServer$Log"
def cf_LG : u_T := fun k => match k with
  | 0 => ("BeanServer$Log", "numbers", "[I", true)
  | 1 => ("BeanServer$Log", "kinds", "[I", true)
  | 2 => ("BeanServer$Log", "sources", "[I", true)
  | 3 => ("BeanServer$Log", "values", "[I", true)
  | 4 => ("BeanServer$Log", "size", "I", false)
  | 5 => ("BeanServer$Log", "next", "I", false)
  | 6 => ("BeanServer$Log", "given", "I", false)
  | _ => ("BeanServer$Log", "listened", "I", false)
def ct_LG : Nat → FieldType := fun k => match k with
  | 0 => (.array .int)
  | 1 => (.array .int)
  | 2 => (.array .int)
  | 3 => (.array .int)
  | 4 => .int
  | 5 => .int
  | 6 => .int
  | _ => .int
def cn_PT : String := "BeanServer$Pattern"
def cf_PT : u_T := fun k => match k with
  | 0 => ("BeanServer$Pattern", "text", "Ljava/lang/String;", true)
  | 1 => ("BeanServer$Pattern", "starts", "[I", true)
  | 2 => ("BeanServer$Pattern", "ends", "[I", true)
  | 3 => ("BeanServer$Pattern", "domainEnd", "I", false)
  | 4 => ("BeanServer$Pattern", "open", "Z", false)
  | _ => ("BeanServer$Pattern", "form", "Ljava/lang/String;", false)
def ct_PT : Nat → FieldType := fun k => match k with
  | 0 => (.object "java/lang/String")
  | 1 => (.array .int)
  | 2 => (.array .int)
  | 3 => .int
  | 4 => .boolean
  | _ => (.object "java/lang/String")
def cn_QU : String := "BeanServer$Query"
def cf_QU : u_T := fun k => match k with
  | _ => ("BeanServer$Query", "form", "Ljava/lang/String;", true)
def ct_QU : Nat → FieldType := fun k => match k with
  | _ => (.object "java/lang/String")
def cn_QR : String := "BeanServer$QueryReader"
def cf_QR : u_T := fun k => match k with
  | 0 => ("BeanServer$QueryReader", "text", "Ljava/lang/String;", true)
  | 1 => ("BeanServer$QueryReader", "bean", "LBeanServer$Bean;", true)
  | 2 => ("BeanServer$QueryReader", "at", "I", false)
  | 3 => ("BeanServer$QueryReader", "wrong", "Z", false)
  | 4 => ("BeanServer$QueryReader", "here", "C", false)
  | _ => ("BeanServer$QueryReader", "failed", "Z", false)
def ct_QR : Nat → FieldType := fun k => match k with
  | 0 => (.object "java/lang/String")
  | 1 => (.object "BeanServer$Bean")
  | 2 => .int
  | 3 => .boolean
  | 4 => .char
  | _ => .boolean
def cn_QF : String := "BeanServer$QueryForm"
def cf_QF : u_T := fun k => match k with
  | 0 => ("BeanServer$QueryForm", "text", "Ljava/lang/String;", true)
  | 1 => ("BeanServer$QueryForm", "out", "Ljava/lang/StringBuilder;", true)
  | 2 => ("BeanServer$QueryForm", "opens", "[I", true)
  | _ => ("BeanServer$QueryForm", "depth", "I", false)
def ct_QF : Nat → FieldType := fun k => match k with
  | 0 => (.object "java/lang/String")
  | 1 => (.object "java/lang/StringBuilder")
  | 2 => (.array .int)
  | _ => .int
def cn_CT : String := "BeanServer$Counter"
def cf_CT : u_T := fun k => match k with
  | 0 => ("BeanServer$Counter", "start", "I", true)
  | 1 => ("BeanServer$Counter", "step", "I", true)
  | 2 => ("BeanServer$Counter", "mark", "J", false)
  | 3 => ("BeanServer$Counter", "ready", "Z", false)
  | 4 => ("BeanServer$Counter", "hasLatest", "Z", false)
  | 5 => ("BeanServer$Counter", "latest", "I", false)
  | 6 => ("BeanServer$Monitor", "name", "Ljava/lang/String;", true)
  | 7 => ("BeanServer$Monitor", "attribute", "I", true)
  | _ => ("BeanServer$Monitor", "erred", "Z", false)
def ct_CT : Nat → FieldType := fun k => match k with
  | 0 => .int
  | 1 => .int
  | 2 => .long
  | 3 => .boolean
  | 4 => .boolean
  | 5 => .int
  | 6 => (.object "java/lang/String")
  | 7 => .int
  | _ => .boolean
def cn_GA : String := "BeanServer$Gauge"
def cf_GA : u_T := fun k => match k with
  | 0 => ("BeanServer$Gauge", "low", "I", true)
  | 1 => ("BeanServer$Gauge", "high", "I", true)
  | 2 => ("BeanServer$Gauge", "side", "I", false)
  | 3 => ("BeanServer$Monitor", "name", "Ljava/lang/String;", true)
  | 4 => ("BeanServer$Monitor", "attribute", "I", true)
  | _ => ("BeanServer$Monitor", "erred", "Z", false)
def ct_GA : Nat → FieldType := fun k => match k with
  | 0 => .int
  | 1 => .int
  | 2 => .int
  | 3 => (.object "java/lang/String")
  | 4 => .int
  | _ => .boolean
def cn_MO : String := "BeanServerModel"
def cf_MO : u_T := fun k => match k with
  | 0 => ("BeanServerModel", "letters", "[C", true)
  | 1 => ("BeanServerModel", "sizes", "[I", true)
  | 2 => ("BeanServerModel", "there", "[Z", true)
  | 3 => ("BeanServerModel", "values", "[I", true)
  | 4 => ("BeanServerModel", "has", "[Z", true)
  | 5 => ("BeanServerModel", "asked", "[Z", true)
  | 6 => ("BeanServerModel", "monitor", "[I", true)
  | 7 => ("BeanServerModel", "watched", "[I", true)
  | 8 => ("BeanServerModel", "low", "[I", true)
  | 9 => ("BeanServerModel", "high", "[I", true)
  | 10 => ("BeanServerModel", "marks", "[J", true)
  | 11 => ("BeanServerModel", "ready", "[Z", true)
  | 12 => ("BeanServerModel", "seen", "[Z", true)
  | 13 => ("BeanServerModel", "latest", "[I", true)
  | 14 => ("BeanServerModel", "erred", "[Z", true)
  | 15 => ("BeanServerModel", "given", "I", false)
  | 16 => ("BeanServerModel", "listened", "I", false)
  | 17 => ("BeanServerModel", "logged", "I", false)
  | 18 => ("BeanServerModel", "log", "[I", true)
  | 19 => ("BeanServerModel", "chosen", "I", false)
  | 20 => ("BeanServerModel", "choice", "[I", true)
  | 21 => ("BeanServerModel", "where", "[I", true)
  | 22 => ("BeanServerModel", "open", "Z", false)
  | 23 => ("BeanServerModel", "live", "[Z", true)
  | 24 => ("BeanServerModel", "any", "[Z", true)
  | 25 => ("BeanServerModel", "all", "[Z", true)
  | 26 => ("BeanServerModel", "turned", "[Z", true)
  | 27 => ("BeanServerModel", "failed", "Z", false)
  | _ => ("BeanServerModel", "at", "I", false)
def ct_MO : Nat → FieldType := fun k => match k with
  | 0 => (.array .char)
  | 1 => (.array .int)
  | 2 => (.array .boolean)
  | 3 => (.array .int)
  | 4 => (.array .boolean)
  | 5 => (.array .boolean)
  | 6 => (.array .int)
  | 7 => (.array .int)
  | 8 => (.array .int)
  | 9 => (.array .int)
  | 10 => (.array .long)
  | 11 => (.array .boolean)
  | 12 => (.array .boolean)
  | 13 => (.array .int)
  | 14 => (.array .boolean)
  | 15 => .int
  | 16 => .int
  | 17 => .int
  | 18 => (.array .int)
  | 19 => .int
  | 20 => (.array .int)
  | 21 => (.array .int)
  | 22 => .boolean
  | 23 => (.array .boolean)
  | 24 => (.array .boolean)
  | 25 => (.array .boolean)
  | 26 => (.array .boolean)
  | 27 => .boolean
  | _ => .int
def cn_ST : String := "java/lang/String"
def cf_ST : u_T := fun k => match k with
  | 0 => ("java/lang/String", "value", "[B", true)
  | 1 => ("java/lang/String", "coder", "B", true)
  | 2 => ("java/lang/String", "hash", "I", false)
  | _ => ("java/lang/String", "hashIsZero", "Z", false)
def ct_ST : Nat → FieldType := fun k => match k with
  | 0 => (.array .byte)
  | 1 => .byte
  | 2 => .int
  | _ => .boolean
def cn_SB : String := "java/lang/StringBuilder"
def cf_SB : u_T := fun k => match k with
  | 0 => ("java/lang/AbstractStringBuilder", "value", "[B", false)
  | 1 => ("java/lang/AbstractStringBuilder", "coder", "B", false)
  | 2 => ("java/lang/AbstractStringBuilder", "maybeLatin1", "Z", false)
  | _ => ("java/lang/AbstractStringBuilder", "count", "I", false)
def ct_SB : Nat → FieldType := fun k => match k with
  | 0 => (.array .byte)
  | 1 => .byte
  | 2 => .boolean
  | _ => .int
abbrev jj_cl : List vw_C := [(cn_BS, cf_BS, 9), (cn_BE, cf_BE, 3), (cn_LG, cf_LG, 8), (cn_PT, cf_PT, 6), (cn_QU, cf_QU, 1), (cn_QR, cf_QR, 6), (cn_QF, cf_QF, 4), (cn_CT, cf_CT, 9), (cn_GA, cf_GA, 6), (cn_MO, cf_MO, 29), (cn_ST, cf_ST, 4), (cn_SB, cf_SB, 4)]
abbrev jj_tys (aC : Nat → ClassId) : List (ClassId × FieldType) := [(aC 0, .int), (aC 1, .boolean), (aC 2, .char), (aC 3, .long), (aC 4, .byte), (aC 5, .object "BeanServer$Bean"), (aC 6, .object "BeanServer$Query"), (aC 7, .object "BeanServer$Monitor")]
abbrev jj_nF : List (String × Nat × String × String × String × String) := []
abbrev jj_nM : List (String × Nat × MethodName × String) := [("BeanServer", 40, ⟨"BeanServer$Log", "<init>", "()V"⟩, "BeanServer")]
abbrev jj_dc : List MethodName := [⟨"BeanServer$Monitor", "kindFor", "(I)I"⟩, ⟨"BeanServer$Monitor", "level", "()J"⟩]
abbrev jj_ca : List (String × String) := [("[B", "java/lang/Cloneable"), ("BeanServer$Counter", "BeanServer$Monitor"), ("BeanServer$Gauge", "BeanServer$Monitor")]
abbrev jj_ao : List String := ["BeanServer$Bean", "BeanServer$Query", "BeanServer$Monitor"]
