/-! THE CLAIM OUT OF ONE WALK OF THE LAW'S BODY. Your part is whole_start (and what it stands on); all else here is the same for every law, but numbers. -/
def R_law : String := "BeanServerLaw"
def lw_P (b : Addr) (xs : List Int32) (args : Array Value) (s : State) : Prop := args = #[.ref b] ∧ s.IntsAt b xs ∧ xs.length ≤ 2560 ∧ (Jvm.Cond.and given_1 narrow_1).before args s = true
def lw_Q (_ : Array Value) (s : State) (o : Outcome) (t : State) : Prop := o = .returned (some (.int 1)) ∧ Framed s o t [] 600000 7302250
def lw_Z (below : List Frame) (a : Array Value) (s : State) : State → Prop := fun t => ∃ o, t.status = .running ∧ Ended t below o ∧ lw_Q a s o t
/-- the law's own end, with 1 on the stack, nothing written that was there before, its room as the claim has it -/
theorem lw_ret {p : Program} {l : Launch} {e : Env} {s : State} {m : MethodId} {below : List Frame} {meth : Method} {c : Code} {b : Nat} (hx : p.tables.exec = Jvm.exec) (hb : c.code = code) (hr : meth.sig.returnType = ret) (hlocks : meth.locks = false) {pc : Nat} {H : Heap} {ls : Array Slot} (hdg : decode code pc = .ok (.ireturn, 1)) : W p l e room_1 s m #[Value.ref b] below meth c H [] 600000 7302250 (lw_Z below #[Value.ref b] s) (F0 m pc ls [.int 1]) := by
  intro T hT X
  obtain ⟨fs, hret, hrun, hended, hW, hframe⟩ := X.leave (v := some (.int 1)) (hlocks := hlocks) (fun h => by rw [hr] at h; cases h)
  have hmeth' : T.vm.method? m = some meth := X.method'
  refine ⟨T.setFrames fs, ?_, .returned (some (.int 1)), hrun, hended, rfl, ⟨_, rfl⟩, hW, hframe⟩
  jvm_step X.here [X.here.top, hx, hb, hdg, hmeth', hr, ret, narrow_b1]
  (try refine ⟨rfl, ?_⟩); (try refine ⟨rfl, ?_⟩)
  first | (intro acts; rw [hret _ acts rfl rfl rfl]) | rw [hret _ _ rfl rfl rfl]
  exact Steps.refl _
/-- what holds at the law's entry: the machine, the code, the tables' words (any of lw_tbl by 'hts w (by decide +kernel)'), the script of L ints xs at the cell b, what the Statement gives of the start (any of its parts by flat_of_before) -/
def lw_At (p : Program) (s : State) (m : MethodId) (meth : Method) (c : Code) (b L : Nat) (xs : Nat → Int32) : Prop :=
  p.tables.exec = Jvm.exec ∧ c.code = code ∧ meth.sig.returnType = ret ∧ c.maxLocals = 4 ∧ s.vm.findClass R_law = some m.cls ∧ (∀ w ∈ lw_tbl, w.before #[Value.ref b] s = true) ∧ va_X b L xs s s.heap ∧ b < s.heap.size ∧ meth.locks = false ∧ (Jvm.Cond.and given_1 narrow_1).before #[Value.ref b] s = true
def tb_LW_m : jjTab := [(0, .new 7, 3, 0, 0),
  (3, .dup, 4, 0, 0),
  (4, .invokespecial 9, 7, 0, 0),
  (7, .astore_n 1, 8, 0, 0),
  (8, .new 10, 11, 0, 0),
  (11, .dup, 12, 0, 0),
  (12, .invokespecial 12, 15, 0, 0),
  (15, .astore_n 2, 16, 0, 0),
  (16, .iconst 0, 17, 0, 0),
  (17, .istore_n 3, 18, 0, 0),
  (18, .iload_n 3, 19, 0, 0),
  (19, .aload_n 0, 20, 0, 0),
  (20, .arraylength, 21, 0, 0),
  (21, .iconst 5, 22, 0, 5),
  (22, .isub, 23, 0, 0),
  (23, .if_icmp .gt 637, 26, 660, 0),
  (26, .aload_n 0, 27, 0, 0),
  (27, .iload_n 3, 28, 0, 0),
  (28, .iaload, 29, 0, 0),
  (29, .bipush 31, 31, 0, 31),
  (31, .iand, 32, 0, 0)]
theorem tg_LW_m : jj_good code 4 tb_LW_m := by unfold jj_good; decide +kernel
def tb_LW_z : jjTab := [(654, .iinc 3 5, 657, 0, 5),
  (657, .goto (-639), 660, 18, 0),
  (660, .iconst 1, 661, 0, 1),
  (661, .ireturn, 662, 0, 0)]
theorem tg_LW_z : jj_good code 4 tb_LW_z := by unfold jj_good; decide +kernel
def tb_LW_write : jjTab := [(124, .aload_n 1, 125, 0, 0),
  (125, .aload_n 0, 126, 0, 0),
  (126, .iload_n 3, 127, 0, 0),
  (127, .iconst 1, 128, 0, 1),
  (128, .iadd, 129, 0, 0),
  (129, .iaload, 130, 0, 0),
  (130, .i2c, 131, 0, 0),
  (131, .invokevirtual 13, 134, 0, 0),
  (134, .aload_n 2, 135, 0, 0),
  (135, .aload_n 0, 136, 0, 0),
  (136, .iload_n 3, 137, 0, 0),
  (137, .iconst 1, 138, 0, 1),
  (138, .iadd, 139, 0, 0),
  (139, .iaload, 140, 0, 0),
  (140, .i2c, 141, 0, 0),
  (141, .invokevirtual 17, 144, 0, 0),
  (144, .if_icmp .eq 510, 147, 654, 0),
  (147, .iconst 0, 148, 0, 0),
  (148, .ireturn, 149, 0, 0)]
theorem tg_LW_write : jj_good code 4 tb_LW_write := by unfold jj_good; decide +kernel
def tb_LW_register : jjTab := [(149, .aload_n 1, 150, 0, 0),
  (150, .invokevirtual 18, 153, 0, 0),
  (153, .aload_n 2, 154, 0, 0),
  (154, .invokevirtual 22, 157, 0, 0),
  (157, .if_icmp .eq 497, 160, 654, 0),
  (160, .iconst 0, 161, 0, 0),
  (161, .ireturn, 162, 0, 0)]
theorem tg_LW_register : jj_good code 4 tb_LW_register := by unfold jj_good; decide +kernel
def tb_LW_unregister : jjTab := [(162, .aload_n 1, 163, 0, 0),
  (163, .invokevirtual 23, 166, 0, 0),
  (166, .aload_n 2, 167, 0, 0),
  (167, .invokevirtual 26, 170, 0, 0),
  (170, .if_icmp .eq 484, 173, 654, 0),
  (173, .iconst 0, 174, 0, 0),
  (174, .ireturn, 175, 0, 0)]
theorem tg_LW_unregister : jj_good code 4 tb_LW_unregister := by unfold jj_good; decide +kernel
def tb_LW_find : jjTab := [(175, .aload_n 1, 176, 0, 0),
  (176, .invokevirtual 27, 179, 0, 0),
  (179, .aload_n 2, 180, 0, 0),
  (180, .invokevirtual 30, 183, 0, 0),
  (183, .if_icmp .eq 471, 186, 654, 0),
  (186, .iconst 0, 187, 0, 0),
  (187, .ireturn, 188, 0, 0)]
theorem tg_LW_find : jj_good code 4 tb_LW_find := by unfold jj_good; decide +kernel
def tb_LW_set : jjTab := [(188, .aload_n 1, 189, 0, 0),
  (189, .aload_n 0, 190, 0, 0),
  (190, .iload_n 3, 191, 0, 0),
  (191, .iconst 1, 192, 0, 1),
  (192, .iadd, 193, 0, 0),
  (193, .iaload, 194, 0, 0),
  (194, .aload_n 0, 195, 0, 0),
  (195, .iload_n 3, 196, 0, 0),
  (196, .iconst 2, 197, 0, 2),
  (197, .iadd, 198, 0, 0),
  (198, .iaload, 199, 0, 0),
  (199, .aload_n 0, 200, 0, 0),
  (200, .iload_n 3, 201, 0, 0),
  (201, .iconst 3, 202, 0, 3),
  (202, .iadd, 203, 0, 0),
  (203, .iaload, 204, 0, 0),
  (204, .invokevirtual 31, 207, 0, 0),
  (207, .aload_n 2, 208, 0, 0),
  (208, .aload_n 0, 209, 0, 0),
  (209, .iload_n 3, 210, 0, 0),
  (210, .iconst 1, 211, 0, 1),
  (211, .iadd, 212, 0, 0),
  (212, .iaload, 213, 0, 0),
  (213, .aload_n 0, 214, 0, 0),
  (214, .iload_n 3, 215, 0, 0),
  (215, .iconst 2, 216, 0, 2),
  (216, .iadd, 217, 0, 0),
  (217, .iaload, 218, 0, 0),
  (218, .aload_n 0, 219, 0, 0),
  (219, .iload_n 3, 220, 0, 0),
  (220, .iconst 3, 221, 0, 3),
  (221, .iadd, 222, 0, 0),
  (222, .iaload, 223, 0, 0),
  (223, .invokevirtual 35, 226, 0, 0),
  (226, .if_icmp .eq 428, 229, 654, 0),
  (229, .iconst 0, 230, 0, 0),
  (230, .ireturn, 231, 0, 0)]
theorem tg_LW_set : jj_good code 4 tb_LW_set := by unfold jj_good; decide +kernel
def tb_LW_unset : jjTab := [(231, .aload_n 1, 232, 0, 0),
  (232, .aload_n 0, 233, 0, 0),
  (233, .iload_n 3, 234, 0, 0),
  (234, .iconst 1, 235, 0, 1),
  (235, .iadd, 236, 0, 0),
  (236, .iaload, 237, 0, 0),
  (237, .aload_n 0, 238, 0, 0),
  (238, .iload_n 3, 239, 0, 0),
  (239, .iconst 2, 240, 0, 2),
  (240, .iadd, 241, 0, 0),
  (241, .iaload, 242, 0, 0),
  (242, .invokevirtual 36, 245, 0, 0),
  (245, .aload_n 2, 246, 0, 0),
  (246, .aload_n 0, 247, 0, 0),
  (247, .iload_n 3, 248, 0, 0),
  (248, .iconst 1, 249, 0, 1),
  (249, .iadd, 250, 0, 0),
  (250, .iaload, 251, 0, 0),
  (251, .aload_n 0, 252, 0, 0),
  (252, .iload_n 3, 253, 0, 0),
  (253, .iconst 2, 254, 0, 2),
  (254, .iadd, 255, 0, 0),
  (255, .iaload, 256, 0, 0),
  (256, .invokevirtual 40, 259, 0, 0),
  (259, .if_icmp .eq 395, 262, 654, 0),
  (262, .iconst 0, 263, 0, 0),
  (263, .ireturn, 264, 0, 0)]
theorem tg_LW_unset : jj_good code 4 tb_LW_unset := by unfold jj_good; decide +kernel
def tb_LW_get : jjTab := [(264, .aload_n 1, 265, 0, 0),
  (265, .aload_n 0, 266, 0, 0),
  (266, .iload_n 3, 267, 0, 0),
  (267, .iconst 1, 268, 0, 1),
  (268, .iadd, 269, 0, 0),
  (269, .iaload, 270, 0, 0),
  (270, .aload_n 0, 271, 0, 0),
  (271, .iload_n 3, 272, 0, 0),
  (272, .iconst 2, 273, 0, 2),
  (273, .iadd, 274, 0, 0),
  (274, .iaload, 275, 0, 0),
  (275, .invokevirtual 41, 278, 0, 0),
  (278, .aload_n 2, 279, 0, 0),
  (279, .aload_n 0, 280, 0, 0),
  (280, .iload_n 3, 281, 0, 0),
  (281, .iconst 1, 282, 0, 1),
  (282, .iadd, 283, 0, 0),
  (283, .iaload, 284, 0, 0),
  (284, .aload_n 0, 285, 0, 0),
  (285, .iload_n 3, 286, 0, 0),
  (286, .iconst 2, 287, 0, 2),
  (287, .iadd, 288, 0, 0),
  (288, .iaload, 289, 0, 0),
  (289, .invokevirtual 45, 292, 0, 0),
  (292, .if_icmp .eq 362, 295, 654, 0),
  (295, .iconst 0, 296, 0, 0),
  (296, .ireturn, 297, 0, 0)]
theorem tg_LW_get : jj_good code 4 tb_LW_get := by unfold jj_good; decide +kernel
def tb_LW_define : jjTab := [(297, .aload_n 1, 298, 0, 0),
  (298, .invokevirtual 46, 301, 0, 0),
  (301, .aload_n 2, 302, 0, 0),
  (302, .invokevirtual 49, 305, 0, 0),
  (305, .if_icmp .eq 349, 308, 654, 0),
  (308, .iconst 0, 309, 0, 0),
  (309, .ireturn, 310, 0, 0)]
theorem tg_LW_define : jj_good code 4 tb_LW_define := by unfold jj_good; decide +kernel
def tb_LW_check : jjTab := [(310, .aload_n 1, 311, 0, 0),
  (311, .aload_n 0, 312, 0, 0),
  (312, .iload_n 3, 313, 0, 0),
  (313, .iconst 1, 314, 0, 1),
  (314, .iadd, 315, 0, 0),
  (315, .iaload, 316, 0, 0),
  (316, .aload_n 0, 317, 0, 0),
  (317, .iload_n 3, 318, 0, 0),
  (318, .iconst 2, 319, 0, 2),
  (319, .iadd, 320, 0, 0),
  (320, .iaload, 321, 0, 0),
  (321, .invokevirtual 50, 324, 0, 0),
  (324, .aload_n 2, 325, 0, 0),
  (325, .aload_n 0, 326, 0, 0),
  (326, .iload_n 3, 327, 0, 0),
  (327, .iconst 1, 328, 0, 1),
  (328, .iadd, 329, 0, 0),
  (329, .iaload, 330, 0, 0),
  (330, .aload_n 0, 331, 0, 0),
  (331, .iload_n 3, 332, 0, 0),
  (332, .iconst 2, 333, 0, 2),
  (333, .iadd, 334, 0, 0),
  (334, .iaload, 335, 0, 0),
  (335, .invokevirtual 53, 338, 0, 0),
  (338, .if_icmp .eq 316, 341, 654, 0),
  (341, .iconst 0, 342, 0, 0),
  (342, .ireturn, 343, 0, 0)]
theorem tg_LW_check : jj_good code 4 tb_LW_check := by unfold jj_good; decide +kernel
def tb_LW_select : jjTab := [(343, .aload_n 1, 344, 0, 0),
  (344, .aload_n 0, 345, 0, 0),
  (345, .iload_n 3, 346, 0, 0),
  (346, .iconst 1, 347, 0, 1),
  (347, .iadd, 348, 0, 0),
  (348, .iaload, 349, 0, 0),
  (349, .invokevirtual 54, 352, 0, 0),
  (352, .aload_n 2, 353, 0, 0),
  (353, .aload_n 0, 354, 0, 0),
  (354, .iload_n 3, 355, 0, 0),
  (355, .iconst 1, 356, 0, 1),
  (356, .iadd, 357, 0, 0),
  (357, .iaload, 358, 0, 0),
  (358, .invokevirtual 58, 361, 0, 0),
  (361, .if_icmp .eq 293, 364, 654, 0),
  (364, .iconst 0, 365, 0, 0),
  (365, .ireturn, 366, 0, 0)]
theorem tg_LW_select : jj_good code 4 tb_LW_select := by unfold jj_good; decide +kernel
def tb_LW_selected : jjTab := [(366, .aload_n 1, 367, 0, 0),
  (367, .aload_n 0, 368, 0, 0),
  (368, .iload_n 3, 369, 0, 0),
  (369, .iconst 1, 370, 0, 1),
  (370, .iadd, 371, 0, 0),
  (371, .iaload, 372, 0, 0),
  (372, .invokevirtual 59, 375, 0, 0),
  (375, .aload_n 2, 376, 0, 0),
  (376, .aload_n 0, 377, 0, 0),
  (377, .iload_n 3, 378, 0, 0),
  (378, .iconst 1, 379, 0, 1),
  (379, .iadd, 380, 0, 0),
  (380, .iaload, 381, 0, 0),
  (381, .invokevirtual 62, 384, 0, 0),
  (384, .if_icmp .eq 270, 387, 654, 0),
  (387, .iconst 0, 388, 0, 0),
  (388, .ireturn, 389, 0, 0)]
theorem tg_LW_selected : jj_good code 4 tb_LW_selected := by unfold jj_good; decide +kernel
def tb_LW_form : jjTab := [(389, .aload_n 1, 390, 0, 0),
  (390, .aload_n 0, 391, 0, 0),
  (391, .iload_n 3, 392, 0, 0),
  (392, .iconst 1, 393, 0, 1),
  (393, .iadd, 394, 0, 0),
  (394, .iaload, 395, 0, 0),
  (395, .aload_n 0, 396, 0, 0),
  (396, .iload_n 3, 397, 0, 0),
  (397, .iconst 2, 398, 0, 2),
  (398, .iadd, 399, 0, 0),
  (399, .iaload, 400, 0, 0),
  (400, .aload_n 0, 401, 0, 0),
  (401, .iload_n 3, 402, 0, 0),
  (402, .iconst 3, 403, 0, 3),
  (403, .iadd, 404, 0, 0),
  (404, .iaload, 405, 0, 0),
  (405, .invokevirtual 63, 408, 0, 0),
  (408, .aload_n 2, 409, 0, 0),
  (409, .aload_n 0, 410, 0, 0),
  (410, .iload_n 3, 411, 0, 0),
  (411, .iconst 1, 412, 0, 1),
  (412, .iadd, 413, 0, 0),
  (413, .iaload, 414, 0, 0),
  (414, .aload_n 0, 415, 0, 0),
  (415, .iload_n 3, 416, 0, 0),
  (416, .iconst 2, 417, 0, 2),
  (417, .iadd, 418, 0, 0),
  (418, .iaload, 419, 0, 0),
  (419, .aload_n 0, 420, 0, 0),
  (420, .iload_n 3, 421, 0, 0),
  (421, .iconst 3, 422, 0, 3),
  (422, .iadd, 423, 0, 0),
  (423, .iaload, 424, 0, 0),
  (424, .invokevirtual 67, 427, 0, 0),
  (427, .if_icmp .eq 227, 430, 654, 0),
  (430, .iconst 0, 431, 0, 0),
  (431, .ireturn, 432, 0, 0)]
theorem tg_LW_form : jj_good code 4 tb_LW_form := by unfold jj_good; decide +kernel
def tb_LW_counter : jjTab := [(432, .aload_n 1, 433, 0, 0),
  (433, .aload_n 0, 434, 0, 0),
  (434, .iload_n 3, 435, 0, 0),
  (435, .iconst 1, 436, 0, 1),
  (436, .iadd, 437, 0, 0),
  (437, .iaload, 438, 0, 0),
  (438, .aload_n 0, 439, 0, 0),
  (439, .iload_n 3, 440, 0, 0),
  (440, .iconst 2, 441, 0, 2),
  (441, .iadd, 442, 0, 0),
  (442, .iaload, 443, 0, 0),
  (443, .aload_n 0, 444, 0, 0),
  (444, .iload_n 3, 445, 0, 0),
  (445, .iconst 3, 446, 0, 3),
  (446, .iadd, 447, 0, 0),
  (447, .iaload, 448, 0, 0),
  (448, .aload_n 0, 449, 0, 0),
  (449, .iload_n 3, 450, 0, 0),
  (450, .iconst 4, 451, 0, 4),
  (451, .iadd, 452, 0, 0),
  (452, .iaload, 453, 0, 0),
  (453, .invokevirtual 68, 456, 0, 0),
  (456, .aload_n 2, 457, 0, 0),
  (457, .aload_n 0, 458, 0, 0),
  (458, .iload_n 3, 459, 0, 0),
  (459, .iconst 1, 460, 0, 1),
  (460, .iadd, 461, 0, 0),
  (461, .iaload, 462, 0, 0),
  (462, .aload_n 0, 463, 0, 0),
  (463, .iload_n 3, 464, 0, 0),
  (464, .iconst 2, 465, 0, 2),
  (465, .iadd, 466, 0, 0),
  (466, .iaload, 467, 0, 0),
  (467, .aload_n 0, 468, 0, 0),
  (468, .iload_n 3, 469, 0, 0),
  (469, .iconst 3, 470, 0, 3),
  (470, .iadd, 471, 0, 0),
  (471, .iaload, 472, 0, 0),
  (472, .aload_n 0, 473, 0, 0),
  (473, .iload_n 3, 474, 0, 0),
  (474, .iconst 4, 475, 0, 4),
  (475, .iadd, 476, 0, 0),
  (476, .iaload, 477, 0, 0),
  (477, .invokevirtual 72, 480, 0, 0),
  (480, .if_icmp .eq 174, 483, 654, 0),
  (483, .iconst 0, 484, 0, 0),
  (484, .ireturn, 485, 0, 0)]
theorem tg_LW_counter : jj_good code 4 tb_LW_counter := by unfold jj_good; decide +kernel
def tb_LW_gauge : jjTab := [(485, .aload_n 1, 486, 0, 0),
  (486, .aload_n 0, 487, 0, 0),
  (487, .iload_n 3, 488, 0, 0),
  (488, .iconst 1, 489, 0, 1),
  (489, .iadd, 490, 0, 0),
  (490, .iaload, 491, 0, 0),
  (491, .aload_n 0, 492, 0, 0),
  (492, .iload_n 3, 493, 0, 0),
  (493, .iconst 2, 494, 0, 2),
  (494, .iadd, 495, 0, 0),
  (495, .iaload, 496, 0, 0),
  (496, .aload_n 0, 497, 0, 0),
  (497, .iload_n 3, 498, 0, 0),
  (498, .iconst 3, 499, 0, 3),
  (499, .iadd, 500, 0, 0),
  (500, .iaload, 501, 0, 0),
  (501, .aload_n 0, 502, 0, 0),
  (502, .iload_n 3, 503, 0, 0),
  (503, .iconst 4, 504, 0, 4),
  (504, .iadd, 505, 0, 0),
  (505, .iaload, 506, 0, 0),
  (506, .invokevirtual 73, 509, 0, 0),
  (509, .aload_n 2, 510, 0, 0),
  (510, .aload_n 0, 511, 0, 0),
  (511, .iload_n 3, 512, 0, 0),
  (512, .iconst 1, 513, 0, 1),
  (513, .iadd, 514, 0, 0),
  (514, .iaload, 515, 0, 0),
  (515, .aload_n 0, 516, 0, 0),
  (516, .iload_n 3, 517, 0, 0),
  (517, .iconst 2, 518, 0, 2),
  (518, .iadd, 519, 0, 0),
  (519, .iaload, 520, 0, 0),
  (520, .aload_n 0, 521, 0, 0),
  (521, .iload_n 3, 522, 0, 0),
  (522, .iconst 3, 523, 0, 3),
  (523, .iadd, 524, 0, 0),
  (524, .iaload, 525, 0, 0),
  (525, .aload_n 0, 526, 0, 0),
  (526, .iload_n 3, 527, 0, 0),
  (527, .iconst 4, 528, 0, 4),
  (528, .iadd, 529, 0, 0),
  (529, .iaload, 530, 0, 0),
  (530, .invokevirtual 76, 533, 0, 0),
  (533, .if_icmp .eq 121, 536, 654, 0),
  (536, .iconst 0, 537, 0, 0),
  (537, .ireturn, 538, 0, 0)]
theorem tg_LW_gauge : jj_good code 4 tb_LW_gauge := by unfold jj_good; decide +kernel
def tb_LW_cancel : jjTab := [(538, .aload_n 1, 539, 0, 0),
  (539, .aload_n 0, 540, 0, 0),
  (540, .iload_n 3, 541, 0, 0),
  (541, .iconst 1, 542, 0, 1),
  (542, .iadd, 543, 0, 0),
  (543, .iaload, 544, 0, 0),
  (544, .invokevirtual 77, 547, 0, 0),
  (547, .aload_n 2, 548, 0, 0),
  (548, .aload_n 0, 549, 0, 0),
  (549, .iload_n 3, 550, 0, 0),
  (550, .iconst 1, 551, 0, 1),
  (551, .iadd, 552, 0, 0),
  (552, .iaload, 553, 0, 0),
  (553, .invokevirtual 81, 556, 0, 0),
  (556, .if_icmp .eq 98, 559, 654, 0),
  (559, .iconst 0, 560, 0, 0),
  (560, .ireturn, 561, 0, 0)]
theorem tg_LW_cancel : jj_good code 4 tb_LW_cancel := by unfold jj_good; decide +kernel
def tb_LW_observe : jjTab := [(561, .aload_n 1, 562, 0, 0),
  (562, .invokevirtual 82, 565, 0, 0),
  (565, .aload_n 2, 566, 0, 0),
  (566, .invokevirtual 85, 569, 0, 0),
  (569, .if_icmp .eq 85, 572, 654, 0),
  (572, .iconst 0, 573, 0, 0),
  (573, .ireturn, 574, 0, 0)]
theorem tg_LW_observe : jj_good code 4 tb_LW_observe := by unfold jj_good; decide +kernel
def tb_LW_mark : jjTab := [(574, .aload_n 1, 575, 0, 0),
  (575, .aload_n 0, 576, 0, 0),
  (576, .iload_n 3, 577, 0, 0),
  (577, .iconst 1, 578, 0, 1),
  (578, .iadd, 579, 0, 0),
  (579, .iaload, 580, 0, 0),
  (580, .invokevirtual 86, 583, 0, 0),
  (583, .aload_n 2, 584, 0, 0),
  (584, .aload_n 0, 585, 0, 0),
  (585, .iload_n 3, 586, 0, 0),
  (586, .iconst 1, 587, 0, 1),
  (587, .iadd, 588, 0, 0),
  (588, .iaload, 589, 0, 0),
  (589, .invokevirtual 90, 592, 0, 0),
  (592, .lcmp, 593, 0, 0),
  (593, .ifCond .eq 61, 596, 654, 0),
  (596, .iconst 0, 597, 0, 0),
  (597, .ireturn, 598, 0, 0)]
theorem tg_LW_mark : jj_good code 4 tb_LW_mark := by unfold jj_good; decide +kernel
def tb_LW_listen : jjTab := [(598, .aload_n 1, 599, 0, 0),
  (599, .aload_n 0, 600, 0, 0),
  (600, .iload_n 3, 601, 0, 0),
  (601, .iconst 1, 602, 0, 1),
  (602, .iadd, 603, 0, 0),
  (603, .iaload, 604, 0, 0),
  (604, .invokevirtual 91, 607, 0, 0),
  (607, .aload_n 2, 608, 0, 0),
  (608, .aload_n 0, 609, 0, 0),
  (609, .iload_n 3, 610, 0, 0),
  (610, .iconst 1, 611, 0, 1),
  (611, .iadd, 612, 0, 0),
  (612, .iaload, 613, 0, 0),
  (613, .invokevirtual 94, 616, 0, 0),
  (616, .if_icmp .eq 38, 619, 654, 0),
  (619, .iconst 0, 620, 0, 0),
  (620, .ireturn, 621, 0, 0)]
theorem tg_LW_listen : jj_good code 4 tb_LW_listen := by unfold jj_good; decide +kernel
def tb_LW_notice : jjTab := [(621, .aload_n 1, 622, 0, 0),
  (622, .aload_n 0, 623, 0, 0),
  (623, .iload_n 3, 624, 0, 0),
  (624, .iconst 1, 625, 0, 1),
  (625, .iadd, 626, 0, 0),
  (626, .iaload, 627, 0, 0),
  (627, .aload_n 0, 628, 0, 0),
  (628, .iload_n 3, 629, 0, 0),
  (629, .iconst 2, 630, 0, 2),
  (630, .iadd, 631, 0, 0),
  (631, .iaload, 632, 0, 0),
  (632, .invokevirtual 95, 635, 0, 0),
  (635, .aload_n 2, 636, 0, 0),
  (636, .aload_n 0, 637, 0, 0),
  (637, .iload_n 3, 638, 0, 0),
  (638, .iconst 1, 639, 0, 1),
  (639, .iadd, 640, 0, 0),
  (640, .iaload, 641, 0, 0),
  (641, .aload_n 0, 642, 0, 0),
  (642, .iload_n 3, 643, 0, 0),
  (643, .iconst 2, 644, 0, 2),
  (644, .iadd, 645, 0, 0),
  (645, .iaload, 646, 0, 0),
  (646, .invokevirtual 98, 649, 0, 0),
  (649, .if_icmp .eq 5, 652, 654, 0),
  (652, .iconst 0, 653, 0, 0),
  (653, .ireturn, 654, 0, 0)]
theorem tg_LW_notice : jj_good code 4 tb_LW_notice := by unfold jj_good; decide +kernel
theorem lw_sw : decode code 32 = .ok (.tableswitch 622 0 18 #[92, 117, 130, 143, 156, 199, 232, 265, 278, 311, 334, 357, 400, 453, 506, 529, 542, 566, 589], 92) := by decide +kernel
theorem jj_C.tab {p : Program} {s : State} {m : MethodId} {args : Array Value} {meth : Method} {c : Code} {y : MethodName} {cc : ByteArray} {nL : Nat} {rt : Option FieldType} {tb tb' : jjTab} {D : va_G} {aC : Nat → ClassId} {base : Nat} (C : jj_C p s m args meth c y cc nL rt tb D aC base) (hg : jj_good cc nL tb') : jj_C p s m args meth c y cc nL rt tb' D aC base := by
  obtain ⟨a1, a2, a3, a4, a5, -, a7⟩ := C
  exact ⟨a1, a2, a3, a4, a5, hg, a7⟩
theorem IV.ox {aC : Nat → ClassId} {h : jjHp} {ca : Nat → Nat} {yy : Nat} {ad : Nat → Nat} (hI : IV aC h ca yy ad) : ∃ fs, h (ca 0) = some (.inr (0, fs)) := by
  obtain ⟨b0, cv, cp, cm, nn, rh, sg, mu, io, bm, nq, nl, lp, fb, fq, fm, hC, -⟩ := hI
  exact ⟨_, hC.1⟩
theorem lg_cmp_s (v : Int64) : lg_cmp v v = 0 := by
  unfold lg_cmp
  simp
abbrev lw_J (p : Program) (l : Launch) (e : Env) (s : State) (m : MethodId) (below : List Frame) (meth : Method) (c : Code) (D : va_G) (b : Nat) (pc : Nat) (lc : jjLoc) (st : List Value) (h : jjHp) (kc ks : Nat) : Prop := jj_J p l e room_1 s m #[Value.ref b] below meth c D s.heap.size 4 (lw_Z below #[Value.ref b] s) pc lc st h kc ks
section LCS
variable {p : Program} {l : Launch} {e : Env} {s : State} {m : MethodId} {below : List Frame} {meth : Method} {c : Code} {D : va_G} {aC : Nat → ClassId} {b L i yy kc ks : Nat} {xs : Nat → Int32} {ca ad : Nat → Nat} {h : jjHp}
theorem lc_write (C : jj_C p s m #[Value.ref b] meth c x code 4 ret tb_LW_write D aC s.heap.size) (hA : jA aC) (h11 : ca 11 ≠ ad 20) (hI : IV aC h ca yy ad) (hX : va_X b L xs s s.heap) (hbl : b < s.heap.size) (hi : i + 4 < L) (hL : L ≤ 2560) (hkc : kc + 83 ≤ 600000) (hks : ks + 9576 ≤ 7302250) (K : ∀ h' kc' ks', IV aC h' ca yy ad → kc' ≤ kc + 83 → ks' ≤ ks + 9576 → lw_J p l e s m below meth c D b 654 [(0, .ref b), (1, .ref (ca 0)), (2, .ref yy), (3, .int (nI i))] [] h' kc' ks') : lw_J p l e s m below meth c D b 124 [(0, .ref b), (1, .ref (ca 0)), (2, .ref yy), (3, .int (nI i))] [] h kc ks := by
  obtain ⟨fs0, ho0⟩ := hI.ox
  obtain ⟨cc, hcc, ec⟩ : ∃ cc, cc < 65536 ∧ ((xs (i + 1)).toUInt32 % 65536).toInt32 = nI cc := by
    rw [lg_i2c_nf, lg_i2c_mask]
    exact pk_andE _ 16 (by decide)
  refine jj_go C 5 rfl ?_
  refine jj_sld C hX hbl rfl (j := i + 1) (show nI i + 1 = nI (i + 1) from nI_add i 1) (by omega) (by omega) ?_
  refine jj_go C 1 rfl ?_
  refine jj_top ec ?_
  refine jj_callV C rfl ml_LW_13 wd_134 ho0 rfl se_BS_BS_write (st_write hA h11 hI hcc) (rest := []) rfl rfl ⟨Nat.le_of_ble_eq_true rfl, Nat.le_of_ble_eq_true rfl⟩ (by show kc + 1 ≤ 600000; omega) (by show ks + 142 ≤ 7302250; omega) (Nat.le_of_ble_eq_true rfl) ?_
  rintro q9 h1 ⟨v, fs, rfl, hy, hM⟩
  refine jj_go C 5 rfl ?_
  refine jj_sld C hX hbl rfl (j := i + 1) (show nI i + 1 = nI (i + 1) from nI_add i 1) (by omega) (by omega) ?_
  refine jj_go C 1 rfl ?_
  refine jj_top ec ?_
  refine jj_callV C rfl ml_LW_17 wd_963 hy rfl se_MO_MO_write hM (rest := [.int v]) rfl rfl ⟨Nat.le_of_ble_eq_true rfl, Nat.le_of_ble_eq_true rfl⟩ (by show kc + 1 + 0 ≤ 600000; omega) (by show ks + 142 + 0 ≤ 7302250; omega) (Nat.le_of_ble_eq_true rfl) ?_
  rintro q9 h2 ⟨rfl, hI2⟩
  refine jj_if C rfl (fun _ => ?_) (fun z => absurd rfl z)
  exact K h2 _ _ hI2 (by omega) (by omega)
theorem lc_register (C : jj_C p s m #[Value.ref b] meth c x code 4 ret tb_LW_register D aC s.heap.size) (hA : jA aC) (h11 : ca 11 ≠ ad 20) (hI : IV aC h ca yy ad) (hX : va_X b L xs s s.heap) (hbl : b < s.heap.size) (hi : i + 4 < L) (hL : L ≤ 2560) (hkc : kc + 83 ≤ 600000) (hks : ks + 9576 ≤ 7302250) (K : ∀ h' kc' ks', IV aC h' ca yy ad → kc' ≤ kc + 83 → ks' ≤ ks + 9576 → lw_J p l e s m below meth c D b 654 [(0, .ref b), (1, .ref (ca 0)), (2, .ref yy), (3, .int (nI i))] [] h' kc' ks') : lw_J p l e s m below meth c D b 149 [(0, .ref b), (1, .ref (ca 0)), (2, .ref yy), (3, .int (nI i))] [] h kc ks := by
  obtain ⟨fs0, ho0⟩ := hI.ox
  refine jj_go C 1 rfl ?_
  refine jj_callV C rfl ml_LW_18 wd_240 ho0 rfl se_BS_BS_register (st_register hA h11 hI) (rest := []) rfl rfl ⟨Nat.le_of_ble_eq_true rfl, Nat.le_of_ble_eq_true rfl⟩ (by show kc + 74 ≤ 600000; omega) (by show ks + 9517 ≤ 7302250; omega) (Nat.le_of_ble_eq_true rfl) ?_
  rintro q9 h1 ⟨v, fs, rfl, hy, hM⟩
  refine jj_go C 1 rfl ?_
  refine jj_callV C rfl ml_LW_22 wd_971 hy rfl se_MO_MO_register hM (rest := [.int v]) rfl rfl ⟨Nat.le_of_ble_eq_true rfl, Nat.le_of_ble_eq_true rfl⟩ (by show kc + 74 + 0 ≤ 600000; omega) (by show ks + 9517 + 0 ≤ 7302250; omega) (Nat.le_of_ble_eq_true rfl) ?_
  rintro q9 h2 ⟨rfl, hI2⟩
  refine jj_if C rfl (fun _ => ?_) (fun z => absurd rfl z)
  exact K h2 _ _ hI2 (by omega) (by omega)
theorem lc_unregister (C : jj_C p s m #[Value.ref b] meth c x code 4 ret tb_LW_unregister D aC s.heap.size) (hA : jA aC) (h11 : ca 11 ≠ ad 20) (hI : IV aC h ca yy ad) (hX : va_X b L xs s s.heap) (hbl : b < s.heap.size) (hi : i + 4 < L) (hL : L ≤ 2560) (hkc : kc + 83 ≤ 600000) (hks : ks + 9576 ≤ 7302250) (K : ∀ h' kc' ks', IV aC h' ca yy ad → kc' ≤ kc + 83 → ks' ≤ ks + 9576 → lw_J p l e s m below meth c D b 654 [(0, .ref b), (1, .ref (ca 0)), (2, .ref yy), (3, .int (nI i))] [] h' kc' ks') : lw_J p l e s m below meth c D b 162 [(0, .ref b), (1, .ref (ca 0)), (2, .ref yy), (3, .int (nI i))] [] h kc ks := by
  obtain ⟨fs0, ho0⟩ := hI.ox
  refine jj_go C 1 rfl ?_
  refine jj_callV C rfl ml_LW_23 wd_515 ho0 rfl se_BS_BS_unregister (st_unregister hA h11 hI) (rest := []) rfl rfl ⟨Nat.le_of_ble_eq_true rfl, Nat.le_of_ble_eq_true rfl⟩ (by show kc + 71 ≤ 600000; omega) (by show ks + 9504 ≤ 7302250; omega) (Nat.le_of_ble_eq_true rfl) ?_
  rintro q9 h1 ⟨v, fs, rfl, hy, hM⟩
  refine jj_go C 1 rfl ?_
  refine jj_callV C rfl ml_LW_26 wd_1032 hy rfl se_MO_MO_unregister hM (rest := [.int v]) rfl rfl ⟨Nat.le_of_ble_eq_true rfl, Nat.le_of_ble_eq_true rfl⟩ (by show kc + 71 + 0 ≤ 600000; omega) (by show ks + 9504 + 0 ≤ 7302250; omega) (Nat.le_of_ble_eq_true rfl) ?_
  rintro q9 h2 ⟨rfl, hI2⟩
  refine jj_if C rfl (fun _ => ?_) (fun z => absurd rfl z)
  exact K h2 _ _ hI2 (by omega) (by omega)
theorem lc_find (C : jj_C p s m #[Value.ref b] meth c x code 4 ret tb_LW_find D aC s.heap.size) (hA : jA aC) (h11 : ca 11 ≠ ad 20) (hI : IV aC h ca yy ad) (hX : va_X b L xs s s.heap) (hbl : b < s.heap.size) (hi : i + 4 < L) (hL : L ≤ 2560) (hkc : kc + 83 ≤ 600000) (hks : ks + 9576 ≤ 7302250) (K : ∀ h' kc' ks', IV aC h' ca yy ad → kc' ≤ kc + 83 → ks' ≤ ks + 9576 → lw_J p l e s m below meth c D b 654 [(0, .ref b), (1, .ref (ca 0)), (2, .ref yy), (3, .int (nI i))] [] h' kc' ks') : lw_J p l e s m below meth c D b 175 [(0, .ref b), (1, .ref (ca 0)), (2, .ref yy), (3, .int (nI i))] [] h kc ks := by
  obtain ⟨fs0, ho0⟩ := hI.ox
  refine jj_go C 1 rfl ?_
  refine jj_callV C rfl ml_LW_27 wd_519 ho0 rfl se_BS_BS_find (st_find hA h11 hI) (rest := []) rfl rfl ⟨Nat.le_of_ble_eq_true rfl, Nat.le_of_ble_eq_true rfl⟩ (by show kc + 71 ≤ 600000; omega) (by show ks + 9504 ≤ 7302250; omega) (Nat.le_of_ble_eq_true rfl) ?_
  rintro q9 h1 ⟨v, fs, rfl, hy, hM⟩
  refine jj_go C 1 rfl ?_
  refine jj_callV C rfl ml_LW_30 wd_1036 hy rfl se_MO_MO_find hM (rest := [.int v]) rfl rfl ⟨Nat.le_of_ble_eq_true rfl, Nat.le_of_ble_eq_true rfl⟩ (by show kc + 71 + 0 ≤ 600000; omega) (by show ks + 9504 + 0 ≤ 7302250; omega) (Nat.le_of_ble_eq_true rfl) ?_
  rintro q9 h2 ⟨rfl, hI2⟩
  refine jj_if C rfl (fun _ => ?_) (fun z => absurd rfl z)
  exact K h2 _ _ hI2 (by omega) (by omega)
theorem lc_set (C : jj_C p s m #[Value.ref b] meth c x code 4 ret tb_LW_set D aC s.heap.size) (hA : jA aC) (h11 : ca 11 ≠ ad 20) (hI : IV aC h ca yy ad) (hX : va_X b L xs s s.heap) (hbl : b < s.heap.size) (hi : i + 4 < L) (hL : L ≤ 2560) (hkc : kc + 83 ≤ 600000) (hks : ks + 9576 ≤ 7302250) (K : ∀ h' kc' ks', IV aC h' ca yy ad → kc' ≤ kc + 83 → ks' ≤ ks + 9576 → lw_J p l e s m below meth c D b 654 [(0, .ref b), (1, .ref (ca 0)), (2, .ref yy), (3, .int (nI i))] [] h' kc' ks') : lw_J p l e s m below meth c D b 188 [(0, .ref b), (1, .ref (ca 0)), (2, .ref yy), (3, .int (nI i))] [] h kc ks := by
  obtain ⟨fs0, ho0⟩ := hI.ox
  refine jj_go C 5 rfl ?_
  refine jj_sld C hX hbl rfl (j := i + 1) (show nI i + 1 = nI (i + 1) from nI_add i 1) (by omega) (by omega) ?_
  refine jj_go C 4 rfl ?_
  refine jj_sld C hX hbl rfl (j := i + 2) (show nI i + 2 = nI (i + 2) from nI_add i 2) (by omega) (by omega) ?_
  refine jj_go C 4 rfl ?_
  refine jj_sld C hX hbl rfl (j := i + 3) (show nI i + 3 = nI (i + 3) from nI_add i 3) (by omega) (by omega) ?_
  refine jj_callV C rfl ml_LW_31 wd_523 ho0 rfl se_BS_BS_set (st_set hA h11 hI) (rest := []) rfl rfl ⟨Nat.le_of_ble_eq_true rfl, Nat.le_of_ble_eq_true rfl⟩ (by show kc + 0 ≤ 600000; omega) (by show ks + 0 ≤ 7302250; omega) (Nat.le_of_ble_eq_true rfl) ?_
  rintro q9 h1 ⟨v, fs, rfl, hy, hM⟩
  refine jj_go C 5 rfl ?_
  refine jj_sld C hX hbl rfl (j := i + 1) (show nI i + 1 = nI (i + 1) from nI_add i 1) (by omega) (by omega) ?_
  refine jj_go C 4 rfl ?_
  refine jj_sld C hX hbl rfl (j := i + 2) (show nI i + 2 = nI (i + 2) from nI_add i 2) (by omega) (by omega) ?_
  refine jj_go C 4 rfl ?_
  refine jj_sld C hX hbl rfl (j := i + 3) (show nI i + 3 = nI (i + 3) from nI_add i 3) (by omega) (by omega) ?_
  refine jj_callV C rfl ml_LW_35 wd_1041 hy rfl se_MO_MO_set hM (rest := [.int v]) rfl rfl ⟨Nat.le_of_ble_eq_true rfl, Nat.le_of_ble_eq_true rfl⟩ (by show kc + 0 + 0 ≤ 600000; omega) (by show ks + 0 + 0 ≤ 7302250; omega) (Nat.le_of_ble_eq_true rfl) ?_
  rintro q9 h2 ⟨rfl, hI2⟩
  refine jj_if C rfl (fun _ => ?_) (fun z => absurd rfl z)
  exact K h2 _ _ hI2 (by omega) (by omega)
theorem lc_unset (C : jj_C p s m #[Value.ref b] meth c x code 4 ret tb_LW_unset D aC s.heap.size) (hA : jA aC) (h11 : ca 11 ≠ ad 20) (hI : IV aC h ca yy ad) (hX : va_X b L xs s s.heap) (hbl : b < s.heap.size) (hi : i + 4 < L) (hL : L ≤ 2560) (hkc : kc + 83 ≤ 600000) (hks : ks + 9576 ≤ 7302250) (K : ∀ h' kc' ks', IV aC h' ca yy ad → kc' ≤ kc + 83 → ks' ≤ ks + 9576 → lw_J p l e s m below meth c D b 654 [(0, .ref b), (1, .ref (ca 0)), (2, .ref yy), (3, .int (nI i))] [] h' kc' ks') : lw_J p l e s m below meth c D b 231 [(0, .ref b), (1, .ref (ca 0)), (2, .ref yy), (3, .int (nI i))] [] h kc ks := by
  obtain ⟨fs0, ho0⟩ := hI.ox
  refine jj_go C 5 rfl ?_
  refine jj_sld C hX hbl rfl (j := i + 1) (show nI i + 1 = nI (i + 1) from nI_add i 1) (by omega) (by omega) ?_
  refine jj_go C 4 rfl ?_
  refine jj_sld C hX hbl rfl (j := i + 2) (show nI i + 2 = nI (i + 2) from nI_add i 2) (by omega) (by omega) ?_
  refine jj_callV C rfl ml_LW_36 wd_534 ho0 rfl se_BS_BS_unset (st_unset hA h11 hI) (rest := []) rfl rfl ⟨Nat.le_of_ble_eq_true rfl, Nat.le_of_ble_eq_true rfl⟩ (by show kc + 0 ≤ 600000; omega) (by show ks + 0 ≤ 7302250; omega) (Nat.le_of_ble_eq_true rfl) ?_
  rintro q9 h1 ⟨v, fs, rfl, hy, hM⟩
  refine jj_go C 5 rfl ?_
  refine jj_sld C hX hbl rfl (j := i + 1) (show nI i + 1 = nI (i + 1) from nI_add i 1) (by omega) (by omega) ?_
  refine jj_go C 4 rfl ?_
  refine jj_sld C hX hbl rfl (j := i + 2) (show nI i + 2 = nI (i + 2) from nI_add i 2) (by omega) (by omega) ?_
  refine jj_callV C rfl ml_LW_40 wd_1053 hy rfl se_MO_MO_unset hM (rest := [.int v]) rfl rfl ⟨Nat.le_of_ble_eq_true rfl, Nat.le_of_ble_eq_true rfl⟩ (by show kc + 0 + 0 ≤ 600000; omega) (by show ks + 0 + 0 ≤ 7302250; omega) (Nat.le_of_ble_eq_true rfl) ?_
  rintro q9 h2 ⟨rfl, hI2⟩
  refine jj_if C rfl (fun _ => ?_) (fun z => absurd rfl z)
  exact K h2 _ _ hI2 (by omega) (by omega)
theorem lc_get (C : jj_C p s m #[Value.ref b] meth c x code 4 ret tb_LW_get D aC s.heap.size) (hA : jA aC) (h11 : ca 11 ≠ ad 20) (hI : IV aC h ca yy ad) (hX : va_X b L xs s s.heap) (hbl : b < s.heap.size) (hi : i + 4 < L) (hL : L ≤ 2560) (hkc : kc + 83 ≤ 600000) (hks : ks + 9576 ≤ 7302250) (K : ∀ h' kc' ks', IV aC h' ca yy ad → kc' ≤ kc + 83 → ks' ≤ ks + 9576 → lw_J p l e s m below meth c D b 654 [(0, .ref b), (1, .ref (ca 0)), (2, .ref yy), (3, .int (nI i))] [] h' kc' ks') : lw_J p l e s m below meth c D b 264 [(0, .ref b), (1, .ref (ca 0)), (2, .ref yy), (3, .int (nI i))] [] h kc ks := by
  obtain ⟨fs0, ho0⟩ := hI.ox
  refine jj_go C 5 rfl ?_
  refine jj_sld C hX hbl rfl (j := i + 1) (show nI i + 1 = nI (i + 1) from nI_add i 1) (by omega) (by omega) ?_
  refine jj_go C 4 rfl ?_
  refine jj_sld C hX hbl rfl (j := i + 2) (show nI i + 2 = nI (i + 2) from nI_add i 2) (by omega) (by omega) ?_
  refine jj_callV C rfl ml_LW_41 wd_538 ho0 rfl se_BS_BS_get (st_get hI) (rest := []) rfl rfl ⟨Nat.le_of_ble_eq_true rfl, Nat.le_of_ble_eq_true rfl⟩ (by show kc + 0 ≤ 600000; omega) (by show ks + 0 ≤ 7302250; omega) (Nat.le_of_ble_eq_true rfl) ?_
  rintro q9 h1 ⟨v, fs, rfl, hy, hM⟩
  refine jj_go C 5 rfl ?_
  refine jj_sld C hX hbl rfl (j := i + 1) (show nI i + 1 = nI (i + 1) from nI_add i 1) (by omega) (by omega) ?_
  refine jj_go C 4 rfl ?_
  refine jj_sld C hX hbl rfl (j := i + 2) (show nI i + 2 = nI (i + 2) from nI_add i 2) (by omega) (by omega) ?_
  refine jj_callV C rfl ml_LW_45 wd_1057 hy rfl se_MO_MO_get hM (rest := [.int v]) rfl rfl ⟨Nat.le_of_ble_eq_true rfl, Nat.le_of_ble_eq_true rfl⟩ (by show kc + 0 + 0 ≤ 600000; omega) (by show ks + 0 + 0 ≤ 7302250; omega) (Nat.le_of_ble_eq_true rfl) ?_
  rintro q9 h2 ⟨rfl, hI2⟩
  refine jj_if C rfl (fun _ => ?_) (fun z => absurd rfl z)
  exact K h2 _ _ hI2 (by omega) (by omega)
theorem lc_define (C : jj_C p s m #[Value.ref b] meth c x code 4 ret tb_LW_define D aC s.heap.size) (hA : jA aC) (h11 : ca 11 ≠ ad 20) (hI : IV aC h ca yy ad) (hX : va_X b L xs s s.heap) (hbl : b < s.heap.size) (hi : i + 4 < L) (hL : L ≤ 2560) (hkc : kc + 83 ≤ 600000) (hks : ks + 9576 ≤ 7302250) (K : ∀ h' kc' ks', IV aC h' ca yy ad → kc' ≤ kc + 83 → ks' ≤ ks + 9576 → lw_J p l e s m below meth c D b 654 [(0, .ref b), (1, .ref (ca 0)), (2, .ref yy), (3, .int (nI i))] [] h' kc' ks') : lw_J p l e s m below meth c D b 297 [(0, .ref b), (1, .ref (ca 0)), (2, .ref yy), (3, .int (nI i))] [] h kc ks := by
  obtain ⟨fs0, ho0⟩ := hI.ox
  refine jj_go C 1 rfl ?_
  refine jj_callV C rfl ml_LW_46 wd_542 ho0 rfl se_BS_BS_define (st_define hA h11 hI) (rest := []) rfl rfl ⟨Nat.le_of_ble_eq_true rfl, Nat.le_of_ble_eq_true rfl⟩ (by show kc + 70 ≤ 600000; omega) (by show ks + 8851 ≤ 7302250; omega) (Nat.le_of_ble_eq_true rfl) ?_
  rintro q9 h1 ⟨v, fs, rfl, hy, hM⟩
  refine jj_go C 1 rfl ?_
  refine jj_callV C rfl ml_LW_49 wd_1061 hy rfl se_MO_MO_define hM (rest := [.int v]) rfl rfl ⟨Nat.le_of_ble_eq_true rfl, Nat.le_of_ble_eq_true rfl⟩ (by show kc + 70 + 0 ≤ 600000; omega) (by show ks + 8851 + 0 ≤ 7302250; omega) (Nat.le_of_ble_eq_true rfl) ?_
  rintro q9 h2 ⟨rfl, hI2⟩
  refine jj_if C rfl (fun _ => ?_) (fun z => absurd rfl z)
  exact K h2 _ _ hI2 (by omega) (by omega)
theorem lc_check (C : jj_C p s m #[Value.ref b] meth c x code 4 ret tb_LW_check D aC s.heap.size) (hA : jA aC) (h11 : ca 11 ≠ ad 20) (hI : IV aC h ca yy ad) (hX : va_X b L xs s s.heap) (hbl : b < s.heap.size) (hi : i + 4 < L) (hL : L ≤ 2560) (hkc : kc + 83 ≤ 600000) (hks : ks + 9576 ≤ 7302250) (K : ∀ h' kc' ks', IV aC h' ca yy ad → kc' ≤ kc + 83 → ks' ≤ ks + 9576 → lw_J p l e s m below meth c D b 654 [(0, .ref b), (1, .ref (ca 0)), (2, .ref yy), (3, .int (nI i))] [] h' kc' ks') : lw_J p l e s m below meth c D b 310 [(0, .ref b), (1, .ref (ca 0)), (2, .ref yy), (3, .int (nI i))] [] h kc ks := by
  obtain ⟨fs0, ho0⟩ := hI.ox
  refine jj_go C 5 rfl ?_
  refine jj_sld C hX hbl rfl (j := i + 1) (show nI i + 1 = nI (i + 1) from nI_add i 1) (by omega) (by omega) ?_
  refine jj_go C 4 rfl ?_
  refine jj_sld C hX hbl rfl (j := i + 2) (show nI i + 2 = nI (i + 2) from nI_add i 2) (by omega) (by omega) ?_
  refine jj_callV C rfl ml_LW_50 wd_703 ho0 rfl se_BS_BS_check (st_check hA h11 hI) (rest := []) rfl rfl ⟨Nat.le_of_ble_eq_true rfl, Nat.le_of_ble_eq_true rfl⟩ (by show kc + 1 ≤ 600000; omega) (by show ks + 6 ≤ 7302250; omega) (Nat.le_of_ble_eq_true rfl) ?_
  rintro q9 h1 ⟨v, fs, rfl, hy, hM⟩
  refine jj_go C 5 rfl ?_
  refine jj_sld C hX hbl rfl (j := i + 1) (show nI i + 1 = nI (i + 1) from nI_add i 1) (by omega) (by omega) ?_
  refine jj_go C 4 rfl ?_
  refine jj_sld C hX hbl rfl (j := i + 2) (show nI i + 2 = nI (i + 2) from nI_add i 2) (by omega) (by omega) ?_
  refine jj_callV C rfl ml_LW_53 wd_1111 hy rfl se_MO_MO_check hM (rest := [.int v]) rfl rfl ⟨Nat.le_of_ble_eq_true rfl, Nat.le_of_ble_eq_true rfl⟩ (by show kc + 1 + 0 ≤ 600000; omega) (by show ks + 6 + 0 ≤ 7302250; omega) (Nat.le_of_ble_eq_true rfl) ?_
  rintro q9 h2 ⟨rfl, hI2⟩
  refine jj_if C rfl (fun _ => ?_) (fun z => absurd rfl z)
  exact K h2 _ _ hI2 (by omega) (by omega)
theorem lc_select (C : jj_C p s m #[Value.ref b] meth c x code 4 ret tb_LW_select D aC s.heap.size) (hA : jA aC) (h11 : ca 11 ≠ ad 20) (hI : IV aC h ca yy ad) (hX : va_X b L xs s s.heap) (hbl : b < s.heap.size) (hi : i + 4 < L) (hL : L ≤ 2560) (hkc : kc + 83 ≤ 600000) (hks : ks + 9576 ≤ 7302250) (K : ∀ h' kc' ks', IV aC h' ca yy ad → kc' ≤ kc + 83 → ks' ≤ ks + 9576 → lw_J p l e s m below meth c D b 654 [(0, .ref b), (1, .ref (ca 0)), (2, .ref yy), (3, .int (nI i))] [] h' kc' ks') : lw_J p l e s m below meth c D b 343 [(0, .ref b), (1, .ref (ca 0)), (2, .ref yy), (3, .int (nI i))] [] h kc ks := by
  obtain ⟨fs0, ho0⟩ := hI.ox
  refine jj_go C 5 rfl ?_
  refine jj_sld C hX hbl rfl (j := i + 1) (show nI i + 1 = nI (i + 1) from nI_add i 1) (by omega) (by omega) ?_
  refine jj_callV C rfl ml_LW_54 wd_711 ho0 rfl se_BS_BS_select (st_select hA h11 hI) (rest := []) rfl rfl ⟨Nat.le_of_ble_eq_true rfl, Nat.le_of_ble_eq_true rfl⟩ (by show kc + 83 ≤ 600000; omega) (by show ks + 9576 ≤ 7302250; omega) (Nat.le_of_ble_eq_true rfl) ?_
  rintro q9 h1 ⟨v, fs, rfl, hy, hM⟩
  refine jj_go C 5 rfl ?_
  refine jj_sld C hX hbl rfl (j := i + 1) (show nI i + 1 = nI (i + 1) from nI_add i 1) (by omega) (by omega) ?_
  refine jj_callV C rfl ml_LW_58 wd_1148 hy rfl se_MO_MO_select hM (rest := [.int v]) rfl rfl ⟨Nat.le_of_ble_eq_true rfl, Nat.le_of_ble_eq_true rfl⟩ (by show kc + 83 + 0 ≤ 600000; omega) (by show ks + 9576 + 0 ≤ 7302250; omega) (Nat.le_of_ble_eq_true rfl) ?_
  rintro q9 h2 ⟨rfl, hI2⟩
  refine jj_if C rfl (fun _ => ?_) (fun z => absurd rfl z)
  exact K h2 _ _ hI2 (by omega) (by omega)
theorem lc_selected (C : jj_C p s m #[Value.ref b] meth c x code 4 ret tb_LW_selected D aC s.heap.size) (hA : jA aC) (h11 : ca 11 ≠ ad 20) (hI : IV aC h ca yy ad) (hX : va_X b L xs s s.heap) (hbl : b < s.heap.size) (hi : i + 4 < L) (hL : L ≤ 2560) (hkc : kc + 83 ≤ 600000) (hks : ks + 9576 ≤ 7302250) (K : ∀ h' kc' ks', IV aC h' ca yy ad → kc' ≤ kc + 83 → ks' ≤ ks + 9576 → lw_J p l e s m below meth c D b 654 [(0, .ref b), (1, .ref (ca 0)), (2, .ref yy), (3, .int (nI i))] [] h' kc' ks') : lw_J p l e s m below meth c D b 366 [(0, .ref b), (1, .ref (ca 0)), (2, .ref yy), (3, .int (nI i))] [] h kc ks := by
  obtain ⟨fs0, ho0⟩ := hI.ox
  refine jj_go C 5 rfl ?_
  refine jj_sld C hX hbl rfl (j := i + 1) (show nI i + 1 = nI (i + 1) from nI_add i 1) (by omega) (by omega) ?_
  refine jj_callV C rfl ml_LW_59 wd_726 ho0 rfl se_BS_BS_selected (st_selected hI) (rest := []) rfl rfl ⟨Nat.le_of_ble_eq_true rfl, Nat.le_of_ble_eq_true rfl⟩ (by show kc + 0 ≤ 600000; omega) (by show ks + 0 ≤ 7302250; omega) (Nat.le_of_ble_eq_true rfl) ?_
  rintro q9 h1 ⟨v, fs, rfl, hy, hM⟩
  refine jj_go C 5 rfl ?_
  refine jj_sld C hX hbl rfl (j := i + 1) (show nI i + 1 = nI (i + 1) from nI_add i 1) (by omega) (by omega) ?_
  refine jj_callV C rfl ml_LW_62 wd_1171 hy rfl se_MO_MO_selected hM (rest := [.int v]) rfl rfl ⟨Nat.le_of_ble_eq_true rfl, Nat.le_of_ble_eq_true rfl⟩ (by show kc + 0 + 0 ≤ 600000; omega) (by show ks + 0 + 0 ≤ 7302250; omega) (Nat.le_of_ble_eq_true rfl) ?_
  rintro q9 h2 ⟨rfl, hI2⟩
  refine jj_if C rfl (fun _ => ?_) (fun z => absurd rfl z)
  exact K h2 _ _ hI2 (by omega) (by omega)
theorem lc_form (C : jj_C p s m #[Value.ref b] meth c x code 4 ret tb_LW_form D aC s.heap.size) (hA : jA aC) (h11 : ca 11 ≠ ad 20) (hI : IV aC h ca yy ad) (hX : va_X b L xs s s.heap) (hbl : b < s.heap.size) (hi : i + 4 < L) (hL : L ≤ 2560) (hkc : kc + 83 ≤ 600000) (hks : ks + 9576 ≤ 7302250) (K : ∀ h' kc' ks', IV aC h' ca yy ad → kc' ≤ kc + 83 → ks' ≤ ks + 9576 → lw_J p l e s m below meth c D b 654 [(0, .ref b), (1, .ref (ca 0)), (2, .ref yy), (3, .int (nI i))] [] h' kc' ks') : lw_J p l e s m below meth c D b 389 [(0, .ref b), (1, .ref (ca 0)), (2, .ref yy), (3, .int (nI i))] [] h kc ks := by
  obtain ⟨fs0, ho0⟩ := hI.ox
  refine jj_go C 5 rfl ?_
  refine jj_sld C hX hbl rfl (j := i + 1) (show nI i + 1 = nI (i + 1) from nI_add i 1) (by omega) (by omega) ?_
  refine jj_go C 4 rfl ?_
  refine jj_sld C hX hbl rfl (j := i + 2) (show nI i + 2 = nI (i + 2) from nI_add i 2) (by omega) (by omega) ?_
  refine jj_go C 4 rfl ?_
  refine jj_sld C hX hbl rfl (j := i + 3) (show nI i + 3 = nI (i + 3) from nI_add i 3) (by omega) (by omega) ?_
  refine jj_callV C rfl ml_LW_63 wd_730 ho0 rfl se_BS_BS_form (st_form hI) (rest := []) rfl rfl ⟨Nat.le_of_ble_eq_true rfl, Nat.le_of_ble_eq_true rfl⟩ (by show kc + 0 ≤ 600000; omega) (by show ks + 0 ≤ 7302250; omega) (Nat.le_of_ble_eq_true rfl) ?_
  rintro q9 h1 ⟨v, fs, rfl, hy, hM⟩
  refine jj_go C 5 rfl ?_
  refine jj_sld C hX hbl rfl (j := i + 1) (show nI i + 1 = nI (i + 1) from nI_add i 1) (by omega) (by omega) ?_
  refine jj_go C 4 rfl ?_
  refine jj_sld C hX hbl rfl (j := i + 2) (show nI i + 2 = nI (i + 2) from nI_add i 2) (by omega) (by omega) ?_
  refine jj_go C 4 rfl ?_
  refine jj_sld C hX hbl rfl (j := i + 3) (show nI i + 3 = nI (i + 3) from nI_add i 3) (by omega) (by omega) ?_
  refine jj_callV C rfl ml_LW_67 wd_1175 hy rfl se_MO_MO_form hM (rest := [.int v]) rfl rfl ⟨Nat.le_of_ble_eq_true rfl, Nat.le_of_ble_eq_true rfl⟩ (by show kc + 0 + 0 ≤ 600000; omega) (by show ks + 0 + 0 ≤ 7302250; omega) (Nat.le_of_ble_eq_true rfl) ?_
  rintro q9 h2 ⟨rfl, hI2⟩
  refine jj_if C rfl (fun _ => ?_) (fun z => absurd rfl z)
  exact K h2 _ _ hI2 (by omega) (by omega)
theorem lc_counter (C : jj_C p s m #[Value.ref b] meth c x code 4 ret tb_LW_counter D aC s.heap.size) (hA : jA aC) (h11 : ca 11 ≠ ad 20) (hI : IV aC h ca yy ad) (hX : va_X b L xs s s.heap) (hbl : b < s.heap.size) (hi : i + 4 < L) (hL : L ≤ 2560) (hkc : kc + 83 ≤ 600000) (hks : ks + 9576 ≤ 7302250) (K : ∀ h' kc' ks', IV aC h' ca yy ad → kc' ≤ kc + 83 → ks' ≤ ks + 9576 → lw_J p l e s m below meth c D b 654 [(0, .ref b), (1, .ref (ca 0)), (2, .ref yy), (3, .int (nI i))] [] h' kc' ks') : lw_J p l e s m below meth c D b 432 [(0, .ref b), (1, .ref (ca 0)), (2, .ref yy), (3, .int (nI i))] [] h kc ks := by
  obtain ⟨fs0, ho0⟩ := hI.ox
  refine jj_go C 5 rfl ?_
  refine jj_sld C hX hbl rfl (j := i + 1) (show nI i + 1 = nI (i + 1) from nI_add i 1) (by omega) (by omega) ?_
  refine jj_go C 4 rfl ?_
  refine jj_sld C hX hbl rfl (j := i + 2) (show nI i + 2 = nI (i + 2) from nI_add i 2) (by omega) (by omega) ?_
  refine jj_go C 4 rfl ?_
  refine jj_sld C hX hbl rfl (j := i + 3) (show nI i + 3 = nI (i + 3) from nI_add i 3) (by omega) (by omega) ?_
  refine jj_go C 4 rfl ?_
  refine jj_sld C hX hbl rfl (j := i + 4) (show nI i + 4 = nI (i + 4) from nI_add i 4) (by omega) (by omega) ?_
  refine jj_callV C rfl ml_LW_68 wd_739 ho0 rfl se_BS_BS_counter (st_counter hA h11 hI) (rest := []) rfl rfl ⟨Nat.le_of_ble_eq_true rfl, Nat.le_of_ble_eq_true rfl⟩ (by show kc + 1 ≤ 600000; omega) (by show ks + 9 ≤ 7302250; omega) (Nat.le_of_ble_eq_true rfl) ?_
  rintro q9 h1 ⟨v, fs, rfl, hy, hM⟩
  refine jj_go C 5 rfl ?_
  refine jj_sld C hX hbl rfl (j := i + 1) (show nI i + 1 = nI (i + 1) from nI_add i 1) (by omega) (by omega) ?_
  refine jj_go C 4 rfl ?_
  refine jj_sld C hX hbl rfl (j := i + 2) (show nI i + 2 = nI (i + 2) from nI_add i 2) (by omega) (by omega) ?_
  refine jj_go C 4 rfl ?_
  refine jj_sld C hX hbl rfl (j := i + 3) (show nI i + 3 = nI (i + 3) from nI_add i 3) (by omega) (by omega) ?_
  refine jj_go C 4 rfl ?_
  refine jj_sld C hX hbl rfl (j := i + 4) (show nI i + 4 = nI (i + 4) from nI_add i 4) (by omega) (by omega) ?_
  refine jj_callV C rfl ml_LW_72 wd_1179 hy rfl se_MO_MO_counter hM (rest := [.int v]) rfl rfl ⟨Nat.le_of_ble_eq_true rfl, Nat.le_of_ble_eq_true rfl⟩ (by show kc + 1 + 0 ≤ 600000; omega) (by show ks + 9 + 0 ≤ 7302250; omega) (Nat.le_of_ble_eq_true rfl) ?_
  rintro q9 h2 ⟨rfl, hI2⟩
  refine jj_if C rfl (fun _ => ?_) (fun z => absurd rfl z)
  exact K h2 _ _ hI2 (by omega) (by omega)
theorem lc_gauge (C : jj_C p s m #[Value.ref b] meth c x code 4 ret tb_LW_gauge D aC s.heap.size) (hA : jA aC) (h11 : ca 11 ≠ ad 20) (hI : IV aC h ca yy ad) (hX : va_X b L xs s s.heap) (hbl : b < s.heap.size) (hi : i + 4 < L) (hL : L ≤ 2560) (hkc : kc + 83 ≤ 600000) (hks : ks + 9576 ≤ 7302250) (K : ∀ h' kc' ks', IV aC h' ca yy ad → kc' ≤ kc + 83 → ks' ≤ ks + 9576 → lw_J p l e s m below meth c D b 654 [(0, .ref b), (1, .ref (ca 0)), (2, .ref yy), (3, .int (nI i))] [] h' kc' ks') : lw_J p l e s m below meth c D b 485 [(0, .ref b), (1, .ref (ca 0)), (2, .ref yy), (3, .int (nI i))] [] h kc ks := by
  obtain ⟨fs0, ho0⟩ := hI.ox
  refine jj_go C 5 rfl ?_
  refine jj_sld C hX hbl rfl (j := i + 1) (show nI i + 1 = nI (i + 1) from nI_add i 1) (by omega) (by omega) ?_
  refine jj_go C 4 rfl ?_
  refine jj_sld C hX hbl rfl (j := i + 2) (show nI i + 2 = nI (i + 2) from nI_add i 2) (by omega) (by omega) ?_
  refine jj_go C 4 rfl ?_
  refine jj_sld C hX hbl rfl (j := i + 3) (show nI i + 3 = nI (i + 3) from nI_add i 3) (by omega) (by omega) ?_
  refine jj_go C 4 rfl ?_
  refine jj_sld C hX hbl rfl (j := i + 4) (show nI i + 4 = nI (i + 4) from nI_add i 4) (by omega) (by omega) ?_
  refine jj_callV C rfl ml_LW_73 wd_787 ho0 rfl se_BS_BS_gauge (st_gauge hA h11 hI) (rest := []) rfl rfl ⟨Nat.le_of_ble_eq_true rfl, Nat.le_of_ble_eq_true rfl⟩ (by show kc + 1 ≤ 600000; omega) (by show ks + 6 ≤ 7302250; omega) (Nat.le_of_ble_eq_true rfl) ?_
  rintro q9 h1 ⟨v, fs, rfl, hy, hM⟩
  refine jj_go C 5 rfl ?_
  refine jj_sld C hX hbl rfl (j := i + 1) (show nI i + 1 = nI (i + 1) from nI_add i 1) (by omega) (by omega) ?_
  refine jj_go C 4 rfl ?_
  refine jj_sld C hX hbl rfl (j := i + 2) (show nI i + 2 = nI (i + 2) from nI_add i 2) (by omega) (by omega) ?_
  refine jj_go C 4 rfl ?_
  refine jj_sld C hX hbl rfl (j := i + 3) (show nI i + 3 = nI (i + 3) from nI_add i 3) (by omega) (by omega) ?_
  refine jj_go C 4 rfl ?_
  refine jj_sld C hX hbl rfl (j := i + 4) (show nI i + 4 = nI (i + 4) from nI_add i 4) (by omega) (by omega) ?_
  refine jj_callV C rfl ml_LW_76 wd_1187 hy rfl se_MO_MO_gauge hM (rest := [.int v]) rfl rfl ⟨Nat.le_of_ble_eq_true rfl, Nat.le_of_ble_eq_true rfl⟩ (by show kc + 1 + 0 ≤ 600000; omega) (by show ks + 6 + 0 ≤ 7302250; omega) (Nat.le_of_ble_eq_true rfl) ?_
  rintro q9 h2 ⟨rfl, hI2⟩
  refine jj_if C rfl (fun _ => ?_) (fun z => absurd rfl z)
  exact K h2 _ _ hI2 (by omega) (by omega)
theorem lc_cancel (C : jj_C p s m #[Value.ref b] meth c x code 4 ret tb_LW_cancel D aC s.heap.size) (hA : jA aC) (h11 : ca 11 ≠ ad 20) (hI : IV aC h ca yy ad) (hX : va_X b L xs s s.heap) (hbl : b < s.heap.size) (hi : i + 4 < L) (hL : L ≤ 2560) (hkc : kc + 83 ≤ 600000) (hks : ks + 9576 ≤ 7302250) (K : ∀ h' kc' ks', IV aC h' ca yy ad → kc' ≤ kc + 83 → ks' ≤ ks + 9576 → lw_J p l e s m below meth c D b 654 [(0, .ref b), (1, .ref (ca 0)), (2, .ref yy), (3, .int (nI i))] [] h' kc' ks') : lw_J p l e s m below meth c D b 538 [(0, .ref b), (1, .ref (ca 0)), (2, .ref yy), (3, .int (nI i))] [] h kc ks := by
  obtain ⟨fs0, ho0⟩ := hI.ox
  refine jj_go C 5 rfl ?_
  refine jj_sld C hX hbl rfl (j := i + 1) (show nI i + 1 = nI (i + 1) from nI_add i 1) (by omega) (by omega) ?_
  refine jj_callV C rfl ml_LW_77 wd_810 ho0 rfl se_BS_BS_cancel (st_cancel hA h11 hI) (rest := []) rfl rfl ⟨Nat.le_of_ble_eq_true rfl, Nat.le_of_ble_eq_true rfl⟩ (by show kc + 0 ≤ 600000; omega) (by show ks + 0 ≤ 7302250; omega) (Nat.le_of_ble_eq_true rfl) ?_
  rintro q9 h1 ⟨v, fs, rfl, hy, hM⟩
  refine jj_go C 5 rfl ?_
  refine jj_sld C hX hbl rfl (j := i + 1) (show nI i + 1 = nI (i + 1) from nI_add i 1) (by omega) (by omega) ?_
  refine jj_callV C rfl ml_LW_81 wd_1191 hy rfl se_MO_MO_cancel hM (rest := [.int v]) rfl rfl ⟨Nat.le_of_ble_eq_true rfl, Nat.le_of_ble_eq_true rfl⟩ (by show kc + 0 + 0 ≤ 600000; omega) (by show ks + 0 + 0 ≤ 7302250; omega) (Nat.le_of_ble_eq_true rfl) ?_
  rintro q9 h2 ⟨rfl, hI2⟩
  refine jj_if C rfl (fun _ => ?_) (fun z => absurd rfl z)
  exact K h2 _ _ hI2 (by omega) (by omega)
theorem lc_observe (C : jj_C p s m #[Value.ref b] meth c x code 4 ret tb_LW_observe D aC s.heap.size) (hA : jA aC) (h11 : ca 11 ≠ ad 20) (hI : IV aC h ca yy ad) (hX : va_X b L xs s s.heap) (hbl : b < s.heap.size) (hi : i + 4 < L) (hL : L ≤ 2560) (hkc : kc + 83 ≤ 600000) (hks : ks + 9576 ≤ 7302250) (K : ∀ h' kc' ks', IV aC h' ca yy ad → kc' ≤ kc + 83 → ks' ≤ ks + 9576 → lw_J p l e s m below meth c D b 654 [(0, .ref b), (1, .ref (ca 0)), (2, .ref yy), (3, .int (nI i))] [] h' kc' ks') : lw_J p l e s m below meth c D b 561 [(0, .ref b), (1, .ref (ca 0)), (2, .ref yy), (3, .int (nI i))] [] h kc ks := by
  obtain ⟨fs0, ho0⟩ := hI.ox
  refine jj_go C 1 rfl ?_
  refine jj_callV C rfl ml_LW_82 wd_818 ho0 rfl se_BS_BS_observe (st_observe hA h11 hI) (rest := []) rfl rfl ⟨Nat.le_of_ble_eq_true rfl, Nat.le_of_ble_eq_true rfl⟩ (by show kc + 0 ≤ 600000; omega) (by show ks + 0 ≤ 7302250; omega) (Nat.le_of_ble_eq_true rfl) ?_
  rintro q9 h1 ⟨v, fs, rfl, hy, hM⟩
  refine jj_go C 1 rfl ?_
  refine jj_callV C rfl ml_LW_85 wd_1199 hy rfl se_MO_MO_observe hM (rest := [.int v]) rfl rfl ⟨Nat.le_of_ble_eq_true rfl, Nat.le_of_ble_eq_true rfl⟩ (by show kc + 0 + 0 ≤ 600000; omega) (by show ks + 0 + 0 ≤ 7302250; omega) (Nat.le_of_ble_eq_true rfl) ?_
  rintro q9 h2 ⟨rfl, hI2⟩
  refine jj_if C rfl (fun _ => ?_) (fun z => absurd rfl z)
  exact K h2 _ _ hI2 (by omega) (by omega)
theorem lc_mark (C : jj_C p s m #[Value.ref b] meth c x code 4 ret tb_LW_mark D aC s.heap.size) (hA : jA aC) (h11 : ca 11 ≠ ad 20) (hI : IV aC h ca yy ad) (hX : va_X b L xs s s.heap) (hbl : b < s.heap.size) (hi : i + 4 < L) (hL : L ≤ 2560) (hkc : kc + 83 ≤ 600000) (hks : ks + 9576 ≤ 7302250) (K : ∀ h' kc' ks', IV aC h' ca yy ad → kc' ≤ kc + 83 → ks' ≤ ks + 9576 → lw_J p l e s m below meth c D b 654 [(0, .ref b), (1, .ref (ca 0)), (2, .ref yy), (3, .int (nI i))] [] h' kc' ks') : lw_J p l e s m below meth c D b 574 [(0, .ref b), (1, .ref (ca 0)), (2, .ref yy), (3, .int (nI i))] [] h kc ks := by
  obtain ⟨fs0, ho0⟩ := hI.ox
  refine jj_go C 5 rfl ?_
  refine jj_sld C hX hbl rfl (j := i + 1) (show nI i + 1 = nI (i + 1) from nI_add i 1) (by omega) (by omega) ?_
  refine jj_callV C rfl ml_LW_86 wd_839 ho0 rfl se_BS_BS_mark (st_mark hI) (rest := []) rfl rfl ⟨Nat.le_of_ble_eq_true rfl, Nat.le_of_ble_eq_true rfl⟩ (by show kc + 0 ≤ 600000; omega) (by show ks + 0 ≤ 7302250; omega) (Nat.le_of_ble_eq_true rfl) ?_
  rintro q9 h1 ⟨v, fs, rfl, hy, hM⟩
  refine jj_go C 5 rfl ?_
  refine jj_sld C hX hbl rfl (j := i + 1) (show nI i + 1 = nI (i + 1) from nI_add i 1) (by omega) (by omega) ?_
  refine jj_callV C rfl ml_LW_90 wd_1216 hy rfl se_MO_MO_mark hM (rest := [.long v]) rfl rfl ⟨Nat.le_of_ble_eq_true rfl, Nat.le_of_ble_eq_true rfl⟩ (by show kc + 0 + 0 ≤ 600000; omega) (by show ks + 0 + 0 ≤ 7302250; omega) (Nat.le_of_ble_eq_true rfl) ?_
  rintro q9 h2 ⟨rfl, hI2⟩
  refine jj_go C 1 rfl ?_
  refine jj_if C rfl (fun _ => ?_) (fun z => absurd (lg_cmp_s v) z)
  exact K h2 _ _ hI2 (by omega) (by omega)
theorem lc_listen (C : jj_C p s m #[Value.ref b] meth c x code 4 ret tb_LW_listen D aC s.heap.size) (hA : jA aC) (h11 : ca 11 ≠ ad 20) (hI : IV aC h ca yy ad) (hX : va_X b L xs s s.heap) (hbl : b < s.heap.size) (hi : i + 4 < L) (hL : L ≤ 2560) (hkc : kc + 83 ≤ 600000) (hks : ks + 9576 ≤ 7302250) (K : ∀ h' kc' ks', IV aC h' ca yy ad → kc' ≤ kc + 83 → ks' ≤ ks + 9576 → lw_J p l e s m below meth c D b 654 [(0, .ref b), (1, .ref (ca 0)), (2, .ref yy), (3, .int (nI i))] [] h' kc' ks') : lw_J p l e s m below meth c D b 598 [(0, .ref b), (1, .ref (ca 0)), (2, .ref yy), (3, .int (nI i))] [] h kc ks := by
  obtain ⟨fs0, ho0⟩ := hI.ox
  refine jj_go C 5 rfl ?_
  refine jj_sld C hX hbl rfl (j := i + 1) (show nI i + 1 = nI (i + 1) from nI_add i 1) (by omega) (by omega) ?_
  refine jj_callV C rfl ml_LW_91 wd_852 ho0 rfl se_BS_BS_listen (st_listen hA h11 hI) (rest := []) rfl rfl ⟨Nat.le_of_ble_eq_true rfl, Nat.le_of_ble_eq_true rfl⟩ (by show kc + 0 ≤ 600000; omega) (by show ks + 0 ≤ 7302250; omega) (Nat.le_of_ble_eq_true rfl) ?_
  rintro q9 h1 ⟨v, fs, rfl, hy, hM⟩
  refine jj_go C 5 rfl ?_
  refine jj_sld C hX hbl rfl (j := i + 1) (show nI i + 1 = nI (i + 1) from nI_add i 1) (by omega) (by omega) ?_
  refine jj_callV C rfl ml_LW_94 wd_1220 hy rfl se_MO_MO_listen hM (rest := [.int v]) rfl rfl ⟨Nat.le_of_ble_eq_true rfl, Nat.le_of_ble_eq_true rfl⟩ (by show kc + 0 + 0 ≤ 600000; omega) (by show ks + 0 + 0 ≤ 7302250; omega) (Nat.le_of_ble_eq_true rfl) ?_
  rintro q9 h2 ⟨rfl, hI2⟩
  refine jj_if C rfl (fun _ => ?_) (fun z => absurd rfl z)
  exact K h2 _ _ hI2 (by omega) (by omega)
theorem lc_notice (C : jj_C p s m #[Value.ref b] meth c x code 4 ret tb_LW_notice D aC s.heap.size) (hA : jA aC) (h11 : ca 11 ≠ ad 20) (hI : IV aC h ca yy ad) (hX : va_X b L xs s s.heap) (hbl : b < s.heap.size) (hi : i + 4 < L) (hL : L ≤ 2560) (hkc : kc + 83 ≤ 600000) (hks : ks + 9576 ≤ 7302250) (K : ∀ h' kc' ks', IV aC h' ca yy ad → kc' ≤ kc + 83 → ks' ≤ ks + 9576 → lw_J p l e s m below meth c D b 654 [(0, .ref b), (1, .ref (ca 0)), (2, .ref yy), (3, .int (nI i))] [] h' kc' ks') : lw_J p l e s m below meth c D b 621 [(0, .ref b), (1, .ref (ca 0)), (2, .ref yy), (3, .int (nI i))] [] h kc ks := by
  obtain ⟨fs0, ho0⟩ := hI.ox
  refine jj_go C 5 rfl ?_
  refine jj_sld C hX hbl rfl (j := i + 1) (show nI i + 1 = nI (i + 1) from nI_add i 1) (by omega) (by omega) ?_
  refine jj_go C 4 rfl ?_
  refine jj_sld C hX hbl rfl (j := i + 2) (show nI i + 2 = nI (i + 2) from nI_add i 2) (by omega) (by omega) ?_
  refine jj_callV C rfl ml_LW_95 wd_856 ho0 rfl se_BS_BS_notice (st_notice hI) (rest := []) rfl rfl ⟨Nat.le_of_ble_eq_true rfl, Nat.le_of_ble_eq_true rfl⟩ (by show kc + 0 ≤ 600000; omega) (by show ks + 0 ≤ 7302250; omega) (Nat.le_of_ble_eq_true rfl) ?_
  rintro q9 h1 ⟨v, fs, rfl, hy, hM⟩
  refine jj_go C 5 rfl ?_
  refine jj_sld C hX hbl rfl (j := i + 1) (show nI i + 1 = nI (i + 1) from nI_add i 1) (by omega) (by omega) ?_
  refine jj_go C 4 rfl ?_
  refine jj_sld C hX hbl rfl (j := i + 2) (show nI i + 2 = nI (i + 2) from nI_add i 2) (by omega) (by omega) ?_
  refine jj_callV C rfl ml_LW_98 wd_1224 hy rfl se_MO_MO_notice hM (rest := [.int v]) rfl rfl ⟨Nat.le_of_ble_eq_true rfl, Nat.le_of_ble_eq_true rfl⟩ (by show kc + 0 + 0 ≤ 600000; omega) (by show ks + 0 + 0 ≤ 7302250; omega) (Nat.le_of_ble_eq_true rfl) ?_
  rintro q9 h2 ⟨rfl, hI2⟩
  refine jj_if C rfl (fun _ => ?_) (fun z => absurd rfl z)
  exact K h2 _ _ hI2 (by omega) (by omega)
end LCS
