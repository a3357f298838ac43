theorem cl_BS : jj_CL 0 cn_BS cf_BS 9 ct_BS := by
  refine ⟨rfl, fun w hw => ?_, by decide +kernel, by decide +kernel⟩
  obtain ⟨k, hk, rfl⟩ := List.mem_map.mp hw
  have hk := List.mem_range.mp hk
  match k, hk with
  | 0, _ => exact wd_114
  | 1, _ => exact wd_116
  | 2, _ => exact wd_118
  | 3, _ => exact wd_120
  | 4, _ => exact wd_122
  | 5, _ => exact wd_124
  | 6, _ => exact wd_126
  | 7, _ => exact wd_128
  | 8, _ => exact wd_130
  | n + 9, h => exact absurd h (by omega)
theorem cl_BE : jj_CL 1 cn_BE cf_BE 3 ct_BE := by
  refine ⟨rfl, fun w hw => ?_, by decide +kernel, by decide +kernel⟩
  obtain ⟨k, hk, rfl⟩ := List.mem_map.mp hw
  have hk := List.mem_range.mp hk
  match k, hk with
  | 0, _ => exact wd_501
  | 1, _ => exact wd_503
  | 2, _ => exact wd_505
  | n + 3, h => exact absurd h (by omega)
theorem cl_LG : jj_CL 2 cn_LG cf_LG 8 ct_LG := by
  refine ⟨rfl, fun w hw => ?_, by decide +kernel, by decide +kernel⟩
  obtain ⟨k, hk, rfl⟩ := List.mem_map.mp hw
  have hk := List.mem_range.mp hk
  match k, hk with
  | 0, _ => exact wd_86
  | 1, _ => exact wd_88
  | 2, _ => exact wd_90
  | 3, _ => exact wd_92
  | 4, _ => exact wd_94
  | 5, _ => exact wd_96
  | 6, _ => exact wd_98
  | 7, _ => exact wd_100
  | n + 8, h => exact absurd h (by omega)
theorem cl_PT : jj_CL 3 cn_PT cf_PT 6 ct_PT := by
  refine ⟨rfl, fun w hw => ?_, by decide +kernel, by decide +kernel⟩
  obtain ⟨k, hk, rfl⟩ := List.mem_map.mp hw
  have hk := List.mem_range.mp hk
  match k, hk with
  | 0, _ => exact wd_342
  | 1, _ => exact wd_344
  | 2, _ => exact wd_346
  | 3, _ => exact wd_348
  | 4, _ => exact wd_350
  | 5, _ => exact wd_352
  | n + 6, h => exact absurd h (by omega)
theorem cl_QU : jj_CL 4 cn_QU cf_QU 1 ct_QU := by
  refine ⟨rfl, fun w hw => ?_, by decide +kernel, by decide +kernel⟩
  obtain ⟨k, hk, rfl⟩ := List.mem_map.mp hw
  have hk := List.mem_range.mp hk
  match k, hk with
  | 0, _ => exact wd_699
  | n + 1, h => exact absurd h (by omega)
theorem cl_QR : jj_CL 5 cn_QR cf_QR 6 ct_QR := by
  refine ⟨rfl, fun w hw => ?_, by decide +kernel, by decide +kernel⟩
  obtain ⟨k, hk, rfl⟩ := List.mem_map.mp hw
  have hk := List.mem_range.mp hk
  match k, hk with
  | 0, _ => exact wd_569
  | 1, _ => exact wd_571
  | 2, _ => exact wd_573
  | 3, _ => exact wd_575
  | 4, _ => exact wd_577
  | 5, _ => exact wd_579
  | n + 6, h => exact absurd h (by omega)
theorem cl_QF : jj_CL 6 cn_QF cf_QF 4 ct_QF := by
  refine ⟨rfl, fun w hw => ?_, by decide +kernel, by decide +kernel⟩
  obtain ⟨k, hk, rfl⟩ := List.mem_map.mp hw
  have hk := List.mem_range.mp hk
  match k, hk with
  | 0, _ => exact wd_631
  | 1, _ => exact wd_633
  | 2, _ => exact wd_635
  | 3, _ => exact wd_637
  | n + 4, h => exact absurd h (by omega)
theorem cl_CT : jj_CL 7 cn_CT cf_CT 9 ct_CT := by
  refine ⟨rfl, fun w hw => ?_, by decide +kernel, by decide +kernel⟩
  obtain ⟨k, hk, rfl⟩ := List.mem_map.mp hw
  have hk := List.mem_range.mp hk
  match k, hk with
  | 0, _ => exact wd_767
  | 1, _ => exact wd_769
  | 2, _ => exact wd_771
  | 3, _ => exact wd_773
  | 4, _ => exact wd_775
  | 5, _ => exact wd_777
  | 6, _ => exact wd_779
  | 7, _ => exact wd_781
  | 8, _ => exact wd_783
  | n + 9, h => exact absurd h (by omega)
theorem cl_GA : jj_CL 8 cn_GA cf_GA 6 ct_GA := by
  refine ⟨rfl, fun w hw => ?_, by decide +kernel, by decide +kernel⟩
  obtain ⟨k, hk, rfl⟩ := List.mem_map.mp hw
  have hk := List.mem_range.mp hk
  match k, hk with
  | 0, _ => exact wd_799
  | 1, _ => exact wd_801
  | 2, _ => exact wd_803
  | 3, _ => exact wd_805
  | 4, _ => exact wd_806
  | 5, _ => exact wd_807
  | n + 6, h => exact absurd h (by omega)
theorem cl_MO : jj_CL 9 cn_MO cf_MO 29 ct_MO := by
  refine ⟨rfl, fun w hw => ?_, by decide +kernel, by decide +kernel⟩
  obtain ⟨k, hk, rfl⟩ := List.mem_map.mp hw
  have hk := List.mem_range.mp hk
  match k, hk with
  | 0, _ => exact wd_901
  | 1, _ => exact wd_903
  | 2, _ => exact wd_905
  | 3, _ => exact wd_907
  | 4, _ => exact wd_909
  | 5, _ => exact wd_911
  | 6, _ => exact wd_913
  | 7, _ => exact wd_915
  | 8, _ => exact wd_917
  | 9, _ => exact wd_919
  | 10, _ => exact wd_921
  | 11, _ => exact wd_923
  | 12, _ => exact wd_925
  | 13, _ => exact wd_927
  | 14, _ => exact wd_929
  | 15, _ => exact wd_931
  | 16, _ => exact wd_933
  | 17, _ => exact wd_935
  | 18, _ => exact wd_937
  | 19, _ => exact wd_939
  | 20, _ => exact wd_941
  | 21, _ => exact wd_943
  | 22, _ => exact wd_945
  | 23, _ => exact wd_947
  | 24, _ => exact wd_949
  | 25, _ => exact wd_951
  | 26, _ => exact wd_953
  | 27, _ => exact wd_955
  | 28, _ => exact wd_957
  | n + 29, h => exact absurd h (by omega)
theorem cl_ST : jj_CL 10 cn_ST cf_ST 4 ct_ST := by
  refine ⟨rfl, fun w hw => ?_, by decide +kernel, by decide +kernel⟩
  obtain ⟨k, hk, rfl⟩ := List.mem_map.mp hw
  have hk := List.mem_range.mp hk
  match k, hk with
  | 0, _ => exact wd_296
  | 1, _ => exact wd_298
  | 2, _ => exact wd_300
  | 3, _ => exact wd_302
  | n + 4, h => exact absurd h (by omega)
theorem cl_SB : jj_CL 11 cn_SB cf_SB 4 ct_SB := by
  refine ⟨rfl, fun w hw => ?_, by decide +kernel, by decide +kernel⟩
  obtain ⟨k, hk, rfl⟩ := List.mem_map.mp hw
  have hk := List.mem_range.mp hk
  match k, hk with
  | 0, _ => exact wd_54
  | 1, _ => exact wd_56
  | 2, _ => exact wd_58
  | 3, _ => exact wd_60
  | n + 4, h => exact absurd h (by omega)
/-- java/lang/AbstractStringBuilder #15: java/lang/AbstractStringBuilder.value [B -/
theorem fl_AS_15 : jj_FL "java/lang/AbstractStringBuilder" 15 11 0 (.array .byte) false := ⟨_, _, _, _, "java/lang/AbstractStringBuilder", cl_SB, by decide, rfl, rfl, Or.inl wd_49, Or.inl rfl⟩
/-- java/lang/AbstractStringBuilder #22: java/lang/AbstractStringBuilder.coder B -/
theorem fl_AS_22 : jj_FL "java/lang/AbstractStringBuilder" 22 11 1 .byte false := ⟨_, _, _, _, "java/lang/AbstractStringBuilder", cl_SB, by decide, rfl, rfl, Or.inl wd_50, Or.inl rfl⟩
/-- java/lang/AbstractStringBuilder #73: java/lang/AbstractStringBuilder.maybeLatin1 Z -/
theorem fl_AS_73 : jj_FL "java/lang/AbstractStringBuilder" 73 11 2 .boolean false := ⟨_, _, _, _, "java/lang/AbstractStringBuilder", cl_SB, by decide, rfl, rfl, Or.inl wd_51, Or.inl rfl⟩
/-- java/lang/String #1048: java/lang/AbstractStringBuilder.maybeLatin1 Z -/
theorem fl_ST_1048 : jj_FL "java/lang/String" 1048 11 2 .boolean false := ⟨_, _, _, _, "java/lang/AbstractStringBuilder", cl_SB, by decide, rfl, rfl, Or.inl wd_52, Or.inl rfl⟩
/-- java/lang/AbstractStringBuilder #79: java/lang/AbstractStringBuilder.count I -/
theorem fl_AS_79 : jj_FL "java/lang/AbstractStringBuilder" 79 11 3 .int false := ⟨_, _, _, _, "java/lang/AbstractStringBuilder", cl_SB, by decide, rfl, rfl, Or.inl wd_53, Or.inl rfl⟩
/-- BeanServer$Log #9: BeanServer$Log.numbers [I -/
theorem fp_LG_9 : jj_FP "BeanServer$Log" 9 2 0 (.array .int) true := ⟨_, _, _, _, "BeanServer$Log", cl_LG, by decide, rfl, rfl, fun _ => rfl, wd_76, Or.inl rfl⟩
theorem fl_LG_9 : jj_FL "BeanServer$Log" 9 2 0 (.array .int) true := fp_LG_9.fl
/-- BeanServer$Log #15: BeanServer$Log.kinds [I -/
theorem fp_LG_15 : jj_FP "BeanServer$Log" 15 2 1 (.array .int) true := ⟨_, _, _, _, "BeanServer$Log", cl_LG, by decide, rfl, rfl, fun _ => rfl, wd_77, Or.inl rfl⟩
theorem fl_LG_15 : jj_FL "BeanServer$Log" 15 2 1 (.array .int) true := fp_LG_15.fl
/-- BeanServer$Log #18: BeanServer$Log.sources [I -/
theorem fp_LG_18 : jj_FP "BeanServer$Log" 18 2 2 (.array .int) true := ⟨_, _, _, _, "BeanServer$Log", cl_LG, by decide, rfl, rfl, fun _ => rfl, wd_78, Or.inl rfl⟩
theorem fl_LG_18 : jj_FL "BeanServer$Log" 18 2 2 (.array .int) true := fp_LG_18.fl
/-- BeanServer$Log #21: BeanServer$Log.values [I -/
theorem fp_LG_21 : jj_FP "BeanServer$Log" 21 2 3 (.array .int) true := ⟨_, _, _, _, "BeanServer$Log", cl_LG, by decide, rfl, rfl, fun _ => rfl, wd_79, Or.inl rfl⟩
theorem fl_LG_21 : jj_FL "BeanServer$Log" 21 2 3 (.array .int) true := fp_LG_21.fl
/-- BeanServer$Log #24: BeanServer$Log.size I -/
theorem fl_LG_24 : jj_FL "BeanServer$Log" 24 2 4 .int false := ⟨_, _, _, _, "BeanServer$Log", cl_LG, by decide, rfl, rfl, Or.inl wd_80, Or.inl rfl⟩
/-- BeanServer$Log #28: BeanServer$Log.next I -/
theorem fl_LG_28 : jj_FL "BeanServer$Log" 28 2 5 .int false := ⟨_, _, _, _, "BeanServer$Log", cl_LG, by decide, rfl, rfl, Or.inl wd_81, Or.inl rfl⟩
/-- BeanServer$Log #31: BeanServer$Log.given I -/
theorem fl_LG_31 : jj_FL "BeanServer$Log" 31 2 6 .int false := ⟨_, _, _, _, "BeanServer$Log", cl_LG, by decide, rfl, rfl, Or.inl wd_82, Or.inl rfl⟩
/-- BeanServer #183: BeanServer$Log.given I -/
theorem fl_BS_183 : jj_FL "BeanServer" 183 2 6 .int false := ⟨_, _, _, _, "BeanServer$Log", cl_LG, by decide, rfl, rfl, Or.inl wd_83, Or.inl rfl⟩
/-- BeanServer$Log #34: BeanServer$Log.listened I -/
theorem fl_LG_34 : jj_FL "BeanServer$Log" 34 2 7 .int false := ⟨_, _, _, _, "BeanServer$Log", cl_LG, by decide, rfl, rfl, Or.inl wd_84, Or.inl rfl⟩
/-- BeanServer #194: BeanServer$Log.listened I -/
theorem fl_BS_194 : jj_FL "BeanServer" 194 2 7 .int false := ⟨_, _, _, _, "BeanServer$Log", cl_LG, by decide, rfl, rfl, Or.inl wd_85, Or.inl rfl⟩
/-- BeanServer #10: BeanServer.buffer Ljava/lang/StringBuilder; -/
theorem fp_BS_10 : jj_FP "BeanServer" 10 0 0 (.object "java/lang/StringBuilder") true := ⟨_, _, _, _, "BeanServer", cl_BS, by decide, rfl, rfl, fun _ => rfl, wd_105, Or.inl rfl⟩
theorem fl_BS_10 : jj_FL "BeanServer" 10 0 0 (.object "java/lang/StringBuilder") true := fp_BS_10.fl
/-- BeanServer #18: BeanServer.beans [LBeanServer$Bean; -/
theorem fp_BS_18 : jj_FP "BeanServer" 18 0 1 (.array (.object "BeanServer$Bean")) true := ⟨_, _, _, _, "BeanServer", cl_BS, by decide, rfl, rfl, fun _ => rfl, wd_106, Or.inl rfl⟩
theorem fl_BS_18 : jj_FL "BeanServer" 18 0 1 (.array (.object "BeanServer$Bean")) true := fp_BS_18.fl
/-- BeanServer #24: BeanServer.queries [LBeanServer$Query; -/
theorem fp_BS_24 : jj_FP "BeanServer" 24 0 2 (.array (.object "BeanServer$Query")) true := ⟨_, _, _, _, "BeanServer", cl_BS, by decide, rfl, rfl, fun _ => rfl, wd_107, Or.inl rfl⟩
theorem fl_BS_24 : jj_FL "BeanServer" 24 0 2 (.array (.object "BeanServer$Query")) true := fp_BS_24.fl
/-- BeanServer #28: BeanServer.queryCount I -/
theorem fl_BS_28 : jj_FL "BeanServer" 28 0 3 .int false := ⟨_, _, _, _, "BeanServer", cl_BS, by decide, rfl, rfl, Or.inl wd_108, Or.inl rfl⟩
/-- BeanServer #34: BeanServer.monitors [LBeanServer$Monitor; -/
theorem fp_BS_34 : jj_FP "BeanServer" 34 0 4 (.array (.object "BeanServer$Monitor")) true := ⟨_, _, _, _, "BeanServer", cl_BS, by decide, rfl, rfl, fun _ => rfl, wd_109, Or.inl rfl⟩
theorem fl_BS_34 : jj_FL "BeanServer" 34 0 4 (.array (.object "BeanServer$Monitor")) true := fp_BS_34.fl
/-- BeanServer #41: BeanServer.log LBeanServer$Log; -/
theorem fp_BS_41 : jj_FP "BeanServer" 41 0 5 (.object "BeanServer$Log") true := ⟨_, _, _, _, "BeanServer", cl_BS, by decide, rfl, rfl, fun _ => rfl, wd_110, Or.inl rfl⟩
theorem fl_BS_41 : jj_FL "BeanServer" 41 0 5 (.object "BeanServer$Log") true := fp_BS_41.fl
/-- BeanServer #45: BeanServer.selection [I -/
theorem fp_BS_45 : jj_FP "BeanServer" 45 0 6 (.array .int) true := ⟨_, _, _, _, "BeanServer", cl_BS, by decide, rfl, rfl, fun _ => rfl, wd_111, Or.inl rfl⟩
theorem fl_BS_45 : jj_FL "BeanServer" 45 0 6 (.array .int) true := fp_BS_45.fl
/-- BeanServer #49: BeanServer.selectionSize I -/
theorem fl_BS_49 : jj_FL "BeanServer" 49 0 7 .int false := ⟨_, _, _, _, "BeanServer", cl_BS, by decide, rfl, rfl, Or.inl wd_112, Or.inl rfl⟩
/-- BeanServer #54: BeanServer.latestPattern Ljava/lang/String; -/
theorem fl_BS_54 : jj_FL "BeanServer" 54 0 8 (.object "java/lang/String") false := ⟨_, _, _, _, "BeanServer", cl_BS, by decide, rfl, rfl, Or.inl wd_113, Or.inl rfl⟩
/-- java/lang/String #9: java/lang/String.value [B -/
theorem fp_ST_9 : jj_FP "java/lang/String" 9 10 0 (.array .byte) true := ⟨_, _, _, _, "java/lang/String", cl_ST, by decide, rfl, rfl, fun _ => rfl, wd_294, Or.inl rfl⟩
theorem fl_ST_9 : jj_FL "java/lang/String" 9 10 0 (.array .byte) true := fp_ST_9.fl
/-- java/lang/String #15: java/lang/String.coder B -/
theorem fp_ST_15 : jj_FP "java/lang/String" 15 10 1 .byte true := ⟨_, _, _, _, "java/lang/String", cl_ST, by decide, rfl, rfl, fun _ => rfl, wd_295, Or.inl rfl⟩
theorem fl_ST_15 : jj_FL "java/lang/String" 15 10 1 .byte true := fp_ST_15.fl
/-- BeanServer$Pattern #32: BeanServer$Pattern.text Ljava/lang/String; -/
theorem fp_PT_32 : jj_FP "BeanServer$Pattern" 32 3 0 (.object "java/lang/String") true := ⟨_, _, _, _, "BeanServer$Pattern", cl_PT, by decide, rfl, rfl, fun _ => rfl, wd_335, Or.inl rfl⟩
theorem fl_PT_32 : jj_FL "BeanServer$Pattern" 32 3 0 (.object "java/lang/String") true := fp_PT_32.fl
/-- BeanServer$Pattern #9: BeanServer$Pattern.starts [I -/
theorem fp_PT_9 : jj_FP "BeanServer$Pattern" 9 3 1 (.array .int) true := ⟨_, _, _, _, "BeanServer$Pattern", cl_PT, by decide, rfl, rfl, fun _ => rfl, wd_336, Or.inl rfl⟩
theorem fl_PT_9 : jj_FL "BeanServer$Pattern" 9 3 1 (.array .int) true := fp_PT_9.fl
/-- BeanServer$Pattern #15: BeanServer$Pattern.ends [I -/
theorem fp_PT_15 : jj_FP "BeanServer$Pattern" 15 3 2 (.array .int) true := ⟨_, _, _, _, "BeanServer$Pattern", cl_PT, by decide, rfl, rfl, fun _ => rfl, wd_337, Or.inl rfl⟩
theorem fl_PT_15 : jj_FL "BeanServer$Pattern" 15 3 2 (.array .int) true := fp_PT_15.fl
/-- BeanServer$Pattern #18: BeanServer$Pattern.domainEnd I -/
theorem fl_PT_18 : jj_FL "BeanServer$Pattern" 18 3 3 .int false := ⟨_, _, _, _, "BeanServer$Pattern", cl_PT, by decide, rfl, rfl, Or.inl wd_338, Or.inl rfl⟩
/-- BeanServer$Pattern #22: BeanServer$Pattern.open Z -/
theorem fl_PT_22 : jj_FL "BeanServer$Pattern" 22 3 4 .boolean false := ⟨_, _, _, _, "BeanServer$Pattern", cl_PT, by decide, rfl, rfl, Or.inl wd_339, Or.inl rfl⟩
/-- BeanServer$Pattern #28: BeanServer$Pattern.form Ljava/lang/String; -/
theorem fl_PT_28 : jj_FL "BeanServer$Pattern" 28 3 5 (.object "java/lang/String") false := ⟨_, _, _, _, "BeanServer$Pattern", cl_PT, by decide, rfl, rfl, Or.inl wd_340, Or.inl rfl⟩
/-- BeanServer #70: BeanServer$Pattern.form Ljava/lang/String; -/
theorem fl_BS_70 : jj_FL "BeanServer" 70 3 5 (.object "java/lang/String") false := ⟨_, _, _, _, "BeanServer$Pattern", cl_PT, by decide, rfl, rfl, Or.inl wd_341, Or.inl rfl⟩
/-- BeanServer$Bean #19: BeanServer$Bean.name LBeanServer$Pattern; -/
theorem fp_BE_19 : jj_FP "BeanServer$Bean" 19 1 0 (.object "BeanServer$Pattern") true := ⟨_, _, _, _, "BeanServer$Bean", cl_BE, by decide, rfl, rfl, fun _ => rfl, wd_493, Or.inl rfl⟩
theorem fl_BE_19 : jj_FL "BeanServer$Bean" 19 1 0 (.object "BeanServer$Pattern") true := fp_BE_19.fl
/-- BeanServer #147: BeanServer$Bean.name LBeanServer$Pattern; -/
theorem fl_BS_147 : jj_FL "BeanServer" 147 1 0 (.object "BeanServer$Pattern") true := ⟨_, _, _, _, "BeanServer$Bean", cl_BE, by decide, rfl, rfl, Or.inl wd_494, Or.inl rfl⟩
/-- BeanServer$Bean #9: BeanServer$Bean.values [I -/
theorem fp_BE_9 : jj_FP "BeanServer$Bean" 9 1 1 (.array .int) true := ⟨_, _, _, _, "BeanServer$Bean", cl_BE, by decide, rfl, rfl, fun _ => rfl, wd_495, Or.inl rfl⟩
theorem fl_BE_9 : jj_FL "BeanServer$Bean" 9 1 1 (.array .int) true := fp_BE_9.fl
/-- BeanServer #97: BeanServer$Bean.values [I -/
theorem fl_BS_97 : jj_FL "BeanServer" 97 1 1 (.array .int) true := ⟨_, _, _, _, "BeanServer$Bean", cl_BE, by decide, rfl, rfl, Or.inl wd_496, Or.inl rfl⟩
/-- BeanServer$QueryReader #83: BeanServer$Bean.values [I -/
theorem fl_QR_83 : jj_FL "BeanServer$QueryReader" 83 1 1 (.array .int) true := ⟨_, _, _, _, "BeanServer$Bean", cl_BE, by decide, rfl, rfl, Or.inl wd_497, Or.inl rfl⟩
/-- BeanServer$Bean #15: BeanServer$Bean.present [Z -/
theorem fp_BE_15 : jj_FP "BeanServer$Bean" 15 1 2 (.array .boolean) true := ⟨_, _, _, _, "BeanServer$Bean", cl_BE, by decide, rfl, rfl, fun _ => rfl, wd_498, Or.inl rfl⟩
theorem fl_BE_15 : jj_FL "BeanServer$Bean" 15 1 2 (.array .boolean) true := fp_BE_15.fl
/-- BeanServer #100: BeanServer$Bean.present [Z -/
theorem fl_BS_100 : jj_FL "BeanServer" 100 1 2 (.array .boolean) true := ⟨_, _, _, _, "BeanServer$Bean", cl_BE, by decide, rfl, rfl, Or.inl wd_499, Or.inl rfl⟩
/-- BeanServer$QueryReader #77: BeanServer$Bean.present [Z -/
theorem fl_QR_77 : jj_FL "BeanServer$QueryReader" 77 1 2 (.array .boolean) true := ⟨_, _, _, _, "BeanServer$Bean", cl_BE, by decide, rfl, rfl, Or.inl wd_500, Or.inl rfl⟩
/-- BeanServer$QueryReader #22: BeanServer$QueryReader.text Ljava/lang/String; -/
theorem fp_QR_22 : jj_FP "BeanServer$QueryReader" 22 5 0 (.object "java/lang/String") true := ⟨_, _, _, _, "BeanServer$QueryReader", cl_QR, by decide, rfl, rfl, fun _ => rfl, wd_561, Or.inl rfl⟩
theorem fl_QR_22 : jj_FL "BeanServer$QueryReader" 22 5 0 (.object "java/lang/String") true := fp_QR_22.fl
/-- BeanServer$QueryReader #26: BeanServer$QueryReader.bean LBeanServer$Bean; -/
theorem fp_QR_26 : jj_FP "BeanServer$QueryReader" 26 5 1 (.object "BeanServer$Bean") true := ⟨_, _, _, _, "BeanServer$QueryReader", cl_QR, by decide, rfl, rfl, fun _ => rfl, wd_562, Or.inl rfl⟩
theorem fl_QR_26 : jj_FL "BeanServer$QueryReader" 26 5 1 (.object "BeanServer$Bean") true := fp_QR_26.fl
/-- BeanServer$QueryReader #9: BeanServer$QueryReader.at I -/
theorem fl_QR_9 : jj_FL "BeanServer$QueryReader" 9 5 2 .int false := ⟨_, _, _, _, "BeanServer$QueryReader", cl_QR, by decide, rfl, rfl, Or.inl wd_563, Or.inl rfl⟩
/-- BeanServer #123: BeanServer$QueryReader.at I -/
theorem fl_BS_123 : jj_FL "BeanServer" 123 5 2 .int false := ⟨_, _, _, _, "BeanServer$QueryReader", cl_QR, by decide, rfl, rfl, Or.inl wd_564, Or.inl rfl⟩
/-- BeanServer$QueryReader #15: BeanServer$QueryReader.wrong Z -/
theorem fl_QR_15 : jj_FL "BeanServer$QueryReader" 15 5 3 .boolean false := ⟨_, _, _, _, "BeanServer$QueryReader", cl_QR, by decide, rfl, rfl, Or.inl wd_565, Or.inl rfl⟩
/-- BeanServer #119: BeanServer$QueryReader.wrong Z -/
theorem fl_BS_119 : jj_FL "BeanServer" 119 5 3 .boolean false := ⟨_, _, _, _, "BeanServer$QueryReader", cl_QR, by decide, rfl, rfl, Or.inl wd_566, Or.inl rfl⟩
/-- BeanServer$QueryReader #40: BeanServer$QueryReader.here C -/
theorem fl_QR_40 : jj_FL "BeanServer$QueryReader" 40 5 4 .char false := ⟨_, _, _, _, "BeanServer$QueryReader", cl_QR, by decide, rfl, rfl, Or.inl wd_567, Or.inl rfl⟩
/-- BeanServer$QueryReader #19: BeanServer$QueryReader.failed Z -/
theorem fl_QR_19 : jj_FL "BeanServer$QueryReader" 19 5 5 .boolean false := ⟨_, _, _, _, "BeanServer$QueryReader", cl_QR, by decide, rfl, rfl, Or.inl wd_568, Or.inl rfl⟩
/-- BeanServer$QueryForm #26: BeanServer$QueryForm.text Ljava/lang/String; -/
theorem fp_QF_26 : jj_FP "BeanServer$QueryForm" 26 6 0 (.object "java/lang/String") true := ⟨_, _, _, _, "BeanServer$QueryForm", cl_QF, by decide, rfl, rfl, fun _ => rfl, wd_627, Or.inl rfl⟩
theorem fl_QF_26 : jj_FL "BeanServer$QueryForm" 26 6 0 (.object "java/lang/String") true := fp_QF_26.fl
/-- BeanServer$QueryForm #12: BeanServer$QueryForm.out Ljava/lang/StringBuilder; -/
theorem fp_QF_12 : jj_FP "BeanServer$QueryForm" 12 6 1 (.object "java/lang/StringBuilder") true := ⟨_, _, _, _, "BeanServer$QueryForm", cl_QF, by decide, rfl, rfl, fun _ => rfl, wd_628, Or.inl rfl⟩
theorem fl_QF_12 : jj_FL "BeanServer$QueryForm" 12 6 1 (.object "java/lang/StringBuilder") true := fp_QF_12.fl
/-- BeanServer$QueryForm #18: BeanServer$QueryForm.opens [I -/
theorem fp_QF_18 : jj_FP "BeanServer$QueryForm" 18 6 2 (.array .int) true := ⟨_, _, _, _, "BeanServer$QueryForm", cl_QF, by decide, rfl, rfl, fun _ => rfl, wd_629, Or.inl rfl⟩
theorem fl_QF_18 : jj_FL "BeanServer$QueryForm" 18 6 2 (.array .int) true := fp_QF_18.fl
/-- BeanServer$QueryForm #22: BeanServer$QueryForm.depth I -/
theorem fl_QF_22 : jj_FL "BeanServer$QueryForm" 22 6 3 .int false := ⟨_, _, _, _, "BeanServer$QueryForm", cl_QF, by decide, rfl, rfl, Or.inl wd_630, Or.inl rfl⟩
/-- BeanServer$Query #7: BeanServer$Query.form Ljava/lang/String; -/
theorem fp_QU_7 : jj_FP "BeanServer$Query" 7 4 0 (.object "java/lang/String") true := ⟨_, _, _, _, "BeanServer$Query", cl_QU, by decide, rfl, rfl, fun _ => rfl, wd_697, Or.inl rfl⟩
theorem fl_QU_7 : jj_FL "BeanServer$Query" 7 4 0 (.object "java/lang/String") true := fp_QU_7.fl
/-- BeanServer #142: BeanServer$Query.form Ljava/lang/String; -/
theorem fl_BS_142 : jj_FL "BeanServer" 142 4 0 (.object "java/lang/String") true := ⟨_, _, _, _, "BeanServer$Query", cl_QU, by decide, rfl, rfl, Or.inl wd_698, Or.inl rfl⟩
/-- BeanServer$Counter #22: BeanServer$Counter.start I -/
theorem fp_CT_22 : jj_FP "BeanServer$Counter" 22 7 0 .int true := ⟨_, _, _, _, "BeanServer$Counter", cl_CT, by decide, rfl, rfl, fun _ => rfl, wd_755, Or.inl rfl⟩
theorem fl_CT_22 : jj_FL "BeanServer$Counter" 22 7 0 .int true := fp_CT_22.fl
/-- BeanServer$Counter #25: BeanServer$Counter.step I -/
theorem fp_CT_25 : jj_FP "BeanServer$Counter" 25 7 1 .int true := ⟨_, _, _, _, "BeanServer$Counter", cl_CT, by decide, rfl, rfl, fun _ => rfl, wd_756, Or.inl rfl⟩
theorem fl_CT_25 : jj_FL "BeanServer$Counter" 25 7 1 .int true := fp_CT_25.fl
/-- BeanServer$Counter #28: BeanServer$Counter.mark J -/
theorem fl_CT_28 : jj_FL "BeanServer$Counter" 28 7 2 .long false := ⟨_, _, _, _, "BeanServer$Counter", cl_CT, by decide, rfl, rfl, Or.inl wd_757, Or.inl rfl⟩
/-- BeanServer$Counter #9: BeanServer$Counter.ready Z -/
theorem fl_CT_9 : jj_FL "BeanServer$Counter" 9 7 3 .boolean false := ⟨_, _, _, _, "BeanServer$Counter", cl_CT, by decide, rfl, rfl, Or.inl wd_758, Or.inl rfl⟩
/-- BeanServer$Counter #15: BeanServer$Counter.hasLatest Z -/
theorem fl_CT_15 : jj_FL "BeanServer$Counter" 15 7 4 .boolean false := ⟨_, _, _, _, "BeanServer$Counter", cl_CT, by decide, rfl, rfl, Or.inl wd_759, Or.inl rfl⟩
/-- BeanServer$Counter #18: BeanServer$Counter.latest I -/
theorem fl_CT_18 : jj_FL "BeanServer$Counter" 18 7 5 .int false := ⟨_, _, _, _, "BeanServer$Counter", cl_CT, by decide, rfl, rfl, Or.inl wd_760, Or.inl rfl⟩
/-- BeanServer$Monitor #13: BeanServer$Monitor.name Ljava/lang/String; -/
theorem fp_MN_13_CT : jj_FP "BeanServer$Monitor" 13 7 6 (.object "java/lang/String") true := ⟨_, _, _, _, "BeanServer$Monitor", cl_CT, by decide, rfl, rfl, fun _ => rfl, wd_761, Or.inl rfl⟩
theorem fl_MN_13_CT : jj_FL "BeanServer$Monitor" 13 7 6 (.object "java/lang/String") true := fp_MN_13_CT.fl
/-- BeanServer$Monitor #13: BeanServer$Monitor.name Ljava/lang/String; -/
theorem fp_MN_13_GA : jj_FP "BeanServer$Monitor" 13 8 3 (.object "java/lang/String") true := ⟨_, _, _, _, "BeanServer$Monitor", cl_GA, by decide, rfl, rfl, fun _ => rfl, wd_761, Or.inl rfl⟩
theorem fl_MN_13_GA : jj_FL "BeanServer$Monitor" 13 8 3 (.object "java/lang/String") true := fp_MN_13_GA.fl
/-- BeanServer #219: BeanServer$Monitor.name Ljava/lang/String; -/
theorem fl_BS_219_CT : jj_FL "BeanServer" 219 7 6 (.object "java/lang/String") true := ⟨_, _, _, _, "BeanServer$Monitor", cl_CT, by decide, rfl, rfl, Or.inl wd_762, Or.inl rfl⟩
/-- BeanServer #219: BeanServer$Monitor.name Ljava/lang/String; -/
theorem fl_BS_219_GA : jj_FL "BeanServer" 219 8 3 (.object "java/lang/String") true := ⟨_, _, _, _, "BeanServer$Monitor", cl_GA, by decide, rfl, rfl, Or.inl wd_762, Or.inl rfl⟩
/-- BeanServer$Monitor #17: BeanServer$Monitor.attribute I -/
theorem fp_MN_17_CT : jj_FP "BeanServer$Monitor" 17 7 7 .int true := ⟨_, _, _, _, "BeanServer$Monitor", cl_CT, by decide, rfl, rfl, fun _ => rfl, wd_763, Or.inl rfl⟩
theorem fl_MN_17_CT : jj_FL "BeanServer$Monitor" 17 7 7 .int true := fp_MN_17_CT.fl
/-- BeanServer$Monitor #17: BeanServer$Monitor.attribute I -/
theorem fp_MN_17_GA : jj_FP "BeanServer$Monitor" 17 8 4 .int true := ⟨_, _, _, _, "BeanServer$Monitor", cl_GA, by decide, rfl, rfl, fun _ => rfl, wd_763, Or.inl rfl⟩
theorem fl_MN_17_GA : jj_FL "BeanServer$Monitor" 17 8 4 .int true := fp_MN_17_GA.fl
/-- BeanServer #221: BeanServer$Monitor.attribute I -/
theorem fl_BS_221_CT : jj_FL "BeanServer" 221 7 7 .int true := ⟨_, _, _, _, "BeanServer$Monitor", cl_CT, by decide, rfl, rfl, Or.inl wd_764, Or.inl rfl⟩
/-- BeanServer #221: BeanServer$Monitor.attribute I -/
theorem fl_BS_221_GA : jj_FL "BeanServer" 221 8 4 .int true := ⟨_, _, _, _, "BeanServer$Monitor", cl_GA, by decide, rfl, rfl, Or.inl wd_764, Or.inl rfl⟩
/-- BeanServer$Monitor #7: BeanServer$Monitor.erred Z -/
theorem fl_MN_7_CT : jj_FL "BeanServer$Monitor" 7 7 8 .boolean false := ⟨_, _, _, _, "BeanServer$Monitor", cl_CT, by decide, rfl, rfl, Or.inl wd_765, Or.inl rfl⟩
/-- BeanServer$Monitor #7: BeanServer$Monitor.erred Z -/
theorem fl_MN_7_GA : jj_FL "BeanServer$Monitor" 7 8 5 .boolean false := ⟨_, _, _, _, "BeanServer$Monitor", cl_GA, by decide, rfl, rfl, Or.inl wd_765, Or.inl rfl⟩
/-- BeanServer #224: BeanServer$Monitor.erred Z -/
theorem fl_BS_224_CT : jj_FL "BeanServer" 224 7 8 .boolean false := ⟨_, _, _, _, "BeanServer$Monitor", cl_CT, by decide, rfl, rfl, Or.inl wd_766, Or.inl rfl⟩
/-- BeanServer #224: BeanServer$Monitor.erred Z -/
theorem fl_BS_224_GA : jj_FL "BeanServer" 224 8 5 .boolean false := ⟨_, _, _, _, "BeanServer$Monitor", cl_GA, by decide, rfl, rfl, Or.inl wd_766, Or.inl rfl⟩
/-- BeanServer$Gauge #15: BeanServer$Gauge.low I -/
theorem fp_GA_15 : jj_FP "BeanServer$Gauge" 15 8 0 .int true := ⟨_, _, _, _, "BeanServer$Gauge", cl_GA, by decide, rfl, rfl, fun _ => rfl, wd_796, Or.inl rfl⟩
theorem fl_GA_15 : jj_FL "BeanServer$Gauge" 15 8 0 .int true := fp_GA_15.fl
/-- BeanServer$Gauge #18: BeanServer$Gauge.high I -/
theorem fp_GA_18 : jj_FP "BeanServer$Gauge" 18 8 1 .int true := ⟨_, _, _, _, "BeanServer$Gauge", cl_GA, by decide, rfl, rfl, fun _ => rfl, wd_797, Or.inl rfl⟩
theorem fl_GA_18 : jj_FL "BeanServer$Gauge" 18 8 1 .int true := fp_GA_18.fl
/-- BeanServer$Gauge #9: BeanServer$Gauge.side I -/
theorem fl_GA_9 : jj_FL "BeanServer$Gauge" 9 8 2 .int false := ⟨_, _, _, _, "BeanServer$Gauge", cl_GA, by decide, rfl, rfl, Or.inl wd_798, Or.inl rfl⟩
/-- BeanServerModel #7: BeanServerModel.letters [C -/
theorem fp_MO_7 : jj_FP "BeanServerModel" 7 9 0 (.array .char) true := ⟨_, _, _, _, "BeanServerModel", cl_MO, by decide, rfl, rfl, fun _ => rfl, wd_872, Or.inl rfl⟩
theorem fl_MO_7 : jj_FL "BeanServerModel" 7 9 0 (.array .char) true := fp_MO_7.fl
/-- BeanServerModel #13: BeanServerModel.sizes [I -/
theorem fp_MO_13 : jj_FP "BeanServerModel" 13 9 1 (.array .int) true := ⟨_, _, _, _, "BeanServerModel", cl_MO, by decide, rfl, rfl, fun _ => rfl, wd_873, Or.inl rfl⟩
theorem fl_MO_13 : jj_FL "BeanServerModel" 13 9 1 (.array .int) true := fp_MO_13.fl
/-- BeanServerModel #17: BeanServerModel.there [Z -/
theorem fp_MO_17 : jj_FP "BeanServerModel" 17 9 2 (.array .boolean) true := ⟨_, _, _, _, "BeanServerModel", cl_MO, by decide, rfl, rfl, fun _ => rfl, wd_874, Or.inl rfl⟩
theorem fl_MO_17 : jj_FL "BeanServerModel" 17 9 2 (.array .boolean) true := fp_MO_17.fl
/-- BeanServerModel #21: BeanServerModel.values [I -/
theorem fp_MO_21 : jj_FP "BeanServerModel" 21 9 3 (.array .int) true := ⟨_, _, _, _, "BeanServerModel", cl_MO, by decide, rfl, rfl, fun _ => rfl, wd_875, Or.inl rfl⟩
theorem fl_MO_21 : jj_FL "BeanServerModel" 21 9 3 (.array .int) true := fp_MO_21.fl
/-- BeanServerModel #24: BeanServerModel.has [Z -/
theorem fp_MO_24 : jj_FP "BeanServerModel" 24 9 4 (.array .boolean) true := ⟨_, _, _, _, "BeanServerModel", cl_MO, by decide, rfl, rfl, fun _ => rfl, wd_876, Or.inl rfl⟩
theorem fl_MO_24 : jj_FL "BeanServerModel" 24 9 4 (.array .boolean) true := fp_MO_24.fl
/-- BeanServerModel #27: BeanServerModel.asked [Z -/
theorem fp_MO_27 : jj_FP "BeanServerModel" 27 9 5 (.array .boolean) true := ⟨_, _, _, _, "BeanServerModel", cl_MO, by decide, rfl, rfl, fun _ => rfl, wd_877, Or.inl rfl⟩
theorem fl_MO_27 : jj_FL "BeanServerModel" 27 9 5 (.array .boolean) true := fp_MO_27.fl
/-- BeanServerModel #30: BeanServerModel.monitor [I -/
theorem fp_MO_30 : jj_FP "BeanServerModel" 30 9 6 (.array .int) true := ⟨_, _, _, _, "BeanServerModel", cl_MO, by decide, rfl, rfl, fun _ => rfl, wd_878, Or.inl rfl⟩
theorem fl_MO_30 : jj_FL "BeanServerModel" 30 9 6 (.array .int) true := fp_MO_30.fl
/-- BeanServerModel #33: BeanServerModel.watched [I -/
theorem fp_MO_33 : jj_FP "BeanServerModel" 33 9 7 (.array .int) true := ⟨_, _, _, _, "BeanServerModel", cl_MO, by decide, rfl, rfl, fun _ => rfl, wd_879, Or.inl rfl⟩
theorem fl_MO_33 : jj_FL "BeanServerModel" 33 9 7 (.array .int) true := fp_MO_33.fl
/-- BeanServerModel #36: BeanServerModel.low [I -/
theorem fp_MO_36 : jj_FP "BeanServerModel" 36 9 8 (.array .int) true := ⟨_, _, _, _, "BeanServerModel", cl_MO, by decide, rfl, rfl, fun _ => rfl, wd_880, Or.inl rfl⟩
theorem fl_MO_36 : jj_FL "BeanServerModel" 36 9 8 (.array .int) true := fp_MO_36.fl
/-- BeanServerModel #39: BeanServerModel.high [I -/
theorem fp_MO_39 : jj_FP "BeanServerModel" 39 9 9 (.array .int) true := ⟨_, _, _, _, "BeanServerModel", cl_MO, by decide, rfl, rfl, fun _ => rfl, wd_881, Or.inl rfl⟩
theorem fl_MO_39 : jj_FL "BeanServerModel" 39 9 9 (.array .int) true := fp_MO_39.fl
/-- BeanServerModel #42: BeanServerModel.marks [J -/
theorem fp_MO_42 : jj_FP "BeanServerModel" 42 9 10 (.array .long) true := ⟨_, _, _, _, "BeanServerModel", cl_MO, by decide, rfl, rfl, fun _ => rfl, wd_882, Or.inl rfl⟩
theorem fl_MO_42 : jj_FL "BeanServerModel" 42 9 10 (.array .long) true := fp_MO_42.fl
/-- BeanServerModel #46: BeanServerModel.ready [Z -/
theorem fp_MO_46 : jj_FP "BeanServerModel" 46 9 11 (.array .boolean) true := ⟨_, _, _, _, "BeanServerModel", cl_MO, by decide, rfl, rfl, fun _ => rfl, wd_883, Or.inl rfl⟩
theorem fl_MO_46 : jj_FL "BeanServerModel" 46 9 11 (.array .boolean) true := fp_MO_46.fl
/-- BeanServerModel #49: BeanServerModel.seen [Z -/
theorem fp_MO_49 : jj_FP "BeanServerModel" 49 9 12 (.array .boolean) true := ⟨_, _, _, _, "BeanServerModel", cl_MO, by decide, rfl, rfl, fun _ => rfl, wd_884, Or.inl rfl⟩
theorem fl_MO_49 : jj_FL "BeanServerModel" 49 9 12 (.array .boolean) true := fp_MO_49.fl
/-- BeanServerModel #52: BeanServerModel.latest [I -/
theorem fp_MO_52 : jj_FP "BeanServerModel" 52 9 13 (.array .int) true := ⟨_, _, _, _, "BeanServerModel", cl_MO, by decide, rfl, rfl, fun _ => rfl, wd_885, Or.inl rfl⟩
theorem fl_MO_52 : jj_FL "BeanServerModel" 52 9 13 (.array .int) true := fp_MO_52.fl
/-- BeanServerModel #55: BeanServerModel.erred [Z -/
theorem fp_MO_55 : jj_FP "BeanServerModel" 55 9 14 (.array .boolean) true := ⟨_, _, _, _, "BeanServerModel", cl_MO, by decide, rfl, rfl, fun _ => rfl, wd_886, Or.inl rfl⟩
theorem fl_MO_55 : jj_FL "BeanServerModel" 55 9 14 (.array .boolean) true := fp_MO_55.fl
/-- BeanServerModel #151: BeanServerModel.given I -/
theorem fl_MO_151 : jj_FL "BeanServerModel" 151 9 15 .int false := ⟨_, _, _, _, "BeanServerModel", cl_MO, by decide, rfl, rfl, Or.inl wd_887, Or.inl rfl⟩
/-- BeanServerModel #58: BeanServerModel.listened I -/
theorem fl_MO_58 : jj_FL "BeanServerModel" 58 9 16 .int false := ⟨_, _, _, _, "BeanServerModel", cl_MO, by decide, rfl, rfl, Or.inl wd_888, Or.inl rfl⟩
/-- BeanServerModel #154: BeanServerModel.logged I -/
theorem fl_MO_154 : jj_FL "BeanServerModel" 154 9 17 .int false := ⟨_, _, _, _, "BeanServerModel", cl_MO, by decide, rfl, rfl, Or.inl wd_889, Or.inl rfl⟩
/-- BeanServerModel #62: BeanServerModel.log [I -/
theorem fp_MO_62 : jj_FP "BeanServerModel" 62 9 18 (.array .int) true := ⟨_, _, _, _, "BeanServerModel", cl_MO, by decide, rfl, rfl, fun _ => rfl, wd_890, Or.inl rfl⟩
theorem fl_MO_62 : jj_FL "BeanServerModel" 62 9 18 (.array .int) true := fp_MO_62.fl
/-- BeanServerModel #250: BeanServerModel.chosen I -/
theorem fl_MO_250 : jj_FL "BeanServerModel" 250 9 19 .int false := ⟨_, _, _, _, "BeanServerModel", cl_MO, by decide, rfl, rfl, Or.inl wd_891, Or.inl rfl⟩
/-- BeanServerModel #65: BeanServerModel.choice [I -/
theorem fp_MO_65 : jj_FP "BeanServerModel" 65 9 20 (.array .int) true := ⟨_, _, _, _, "BeanServerModel", cl_MO, by decide, rfl, rfl, fun _ => rfl, wd_892, Or.inl rfl⟩
theorem fl_MO_65 : jj_FL "BeanServerModel" 65 9 20 (.array .int) true := fp_MO_65.fl
/-- BeanServerModel #68: BeanServerModel.where [I -/
theorem fp_MO_68 : jj_FP "BeanServerModel" 68 9 21 (.array .int) true := ⟨_, _, _, _, "BeanServerModel", cl_MO, by decide, rfl, rfl, fun _ => rfl, wd_893, Or.inl rfl⟩
theorem fl_MO_68 : jj_FL "BeanServerModel" 68 9 21 (.array .int) true := fp_MO_68.fl
/-- BeanServerModel #102: BeanServerModel.open Z -/
theorem fl_MO_102 : jj_FL "BeanServerModel" 102 9 22 .boolean false := ⟨_, _, _, _, "BeanServerModel", cl_MO, by decide, rfl, rfl, Or.inl wd_894, Or.inl rfl⟩
/-- BeanServerModel #71: BeanServerModel.live [Z -/
theorem fp_MO_71 : jj_FP "BeanServerModel" 71 9 23 (.array .boolean) true := ⟨_, _, _, _, "BeanServerModel", cl_MO, by decide, rfl, rfl, fun _ => rfl, wd_895, Or.inl rfl⟩
theorem fl_MO_71 : jj_FL "BeanServerModel" 71 9 23 (.array .boolean) true := fp_MO_71.fl
/-- BeanServerModel #74: BeanServerModel.any [Z -/
theorem fp_MO_74 : jj_FP "BeanServerModel" 74 9 24 (.array .boolean) true := ⟨_, _, _, _, "BeanServerModel", cl_MO, by decide, rfl, rfl, fun _ => rfl, wd_896, Or.inl rfl⟩
theorem fl_MO_74 : jj_FL "BeanServerModel" 74 9 24 (.array .boolean) true := fp_MO_74.fl
/-- BeanServerModel #77: BeanServerModel.all [Z -/
theorem fp_MO_77 : jj_FP "BeanServerModel" 77 9 25 (.array .boolean) true := ⟨_, _, _, _, "BeanServerModel", cl_MO, by decide, rfl, rfl, fun _ => rfl, wd_897, Or.inl rfl⟩
theorem fl_MO_77 : jj_FL "BeanServerModel" 77 9 25 (.array .boolean) true := fp_MO_77.fl
/-- BeanServerModel #80: BeanServerModel.turned [Z -/
theorem fp_MO_80 : jj_FP "BeanServerModel" 80 9 26 (.array .boolean) true := ⟨_, _, _, _, "BeanServerModel", cl_MO, by decide, rfl, rfl, fun _ => rfl, wd_898, Or.inl rfl⟩
theorem fl_MO_80 : jj_FL "BeanServerModel" 80 9 26 (.array .boolean) true := fp_MO_80.fl
/-- BeanServerModel #219: BeanServerModel.failed Z -/
theorem fl_MO_219 : jj_FL "BeanServerModel" 219 9 27 .boolean false := ⟨_, _, _, _, "BeanServerModel", cl_MO, by decide, rfl, rfl, Or.inl wd_899, Or.inl rfl⟩
/-- BeanServerModel #216: BeanServerModel.at I -/
theorem fl_MO_216 : jj_FL "BeanServerModel" 216 9 28 .int false := ⟨_, _, _, _, "BeanServerModel", cl_MO, by decide, rfl, rfl, Or.inl wd_900, Or.inl rfl⟩
/-- BeanServerLaw #9: BeanServer.<init>()V -/
theorem ml_LW_9 : jj_ML "BeanServerLaw" 9 yn_BS_init yb_BS_init 1 none 0 := ⟨Or.inl wd_25, wd_27, wd_1, by decide +kernel⟩
/-- BeanServer #9: java/lang/StringBuilder.<init>()V -/
theorem ml_BS_9 : jj_ML "BeanServer" 9 yn_SB_init yb_SB_init 1 none 0 := ⟨Or.inl wd_33, wd_35, wd_3, by decide +kernel⟩
/-- java/lang/StringBuilder #1: java/lang/AbstractStringBuilder.<init>(I)V -/
theorem ml_SB_1 : jj_ML "java/lang/StringBuilder" 1 yn_AS_init yb_AS_init 2 none 1 := ⟨Or.inl wd_36, wd_38, wd_2, by decide +kernel⟩
/-- java/lang/AbstractStringBuilder #26: java/lang/StringUTF16.newBytesFor(I)[B -/
theorem ml_AS_26 : jj_ML "java/lang/AbstractStringBuilder" 26 yn_SU_newBytesFor yb_SU_newBytesFor 1 (some (.array .byte)) 1 := ⟨Or.inl wd_42, wd_44, wd_5, by decide +kernel⟩
/-- java/lang/StringUTF16 #11: java/lang/StringUTF16.newBytesLength(I)I -/
theorem ml_SU_11 : jj_ML "java/lang/StringUTF16" 11 yn_SU_newBytesLength yb_SU_newBytesLength 1 (some .int) 1 := ⟨Or.inl wd_45, wd_47, wd_5, by decide +kernel⟩
/-- BeanServer #40: BeanServer$Log.<init>()V -/
theorem ml_BS_40 : jj_ML "BeanServer" 40 yn_LG_init yb_LG_init 1 none 0 := ⟨Or.inr ⟨"BeanServer", by decide⟩, wd_74, wd_6, by decide +kernel⟩
/-- BeanServerLaw #13: BeanServer.write(C)Z -/
theorem ml_LW_13 : jj_ML "BeanServerLaw" 13 yn_BS_write yb_BS_write 2 (some .boolean) 1 := ⟨Or.inl wd_133, wd_136, wd_1, by decide +kernel⟩
/-- BeanServer #58: java/lang/StringBuilder.length()I -/
theorem ml_BS_58 : jj_ML "BeanServer" 58 yn_SB_length yb_SB_length 1 (some .int) 0 := ⟨Or.inl wd_137, wd_140, wd_3, by decide +kernel⟩
/-- java/lang/StringBuilder #343: java/lang/AbstractStringBuilder.length()I -/
theorem ml_SB_343 : jj_ML "java/lang/StringBuilder" 343 yn_AS_length yb_AS_length 1 (some .int) 0 := ⟨Or.inl wd_141, wd_143, wd_2, by decide +kernel⟩
/-- BeanServer #62: java/lang/StringBuilder.append(C)Ljava/lang/StringBuilder; -/
theorem ml_BS_62 : jj_ML "BeanServer" 62 yn_SB_append yb_SB_append 2 (some (.object "java/lang/StringBuilder")) 1 := ⟨Or.inl wd_144, wd_147, wd_3, by decide +kernel⟩
/-- java/lang/StringBuilder #50: java/lang/AbstractStringBuilder.append(C)Ljava/lang/AbstractStringBuilder; -/
theorem ml_SB_50 : jj_ML "java/lang/StringBuilder" 50 yn_AS_append yb_AS_append 2 (some (.object "java/lang/AbstractStringBuilder")) 1 := ⟨Or.inl wd_148, wd_150, wd_2, by decide +kernel⟩
/-- java/lang/AbstractStringBuilder #100: java/lang/AbstractStringBuilder.ensureCapacityInternal(I)V -/
theorem ml_AS_100 : jj_ML "java/lang/AbstractStringBuilder" 100 yn_AS_ensureCapacityInternal yb_AS_ensureCapacityInternal 3 none 1 := ⟨Or.inl wd_151, wd_154, wd_2, by decide +kernel⟩
/-- java/lang/AbstractStringBuilder #104: java/lang/AbstractStringBuilder.newCapacity(I)I -/
theorem ml_AS_104 : jj_ML "java/lang/AbstractStringBuilder" 104 yn_AS_newCapacity yb_AS_newCapacity 6 (some .int) 1 := ⟨Or.inl wd_155, wd_158, wd_2, by decide +kernel⟩
/-- java/lang/AbstractStringBuilder #114: jdk/internal/util/ArraysSupport.newLength(III)I -/
theorem ml_AS_114 : jj_ML "java/lang/AbstractStringBuilder" 114 yn_AP_newLength yb_AP_newLength 4 (some .int) 3 := ⟨Or.inl wd_159, wd_161, wd_8, by decide +kernel⟩
/-- jdk/internal/util/ArraysSupport #194: java/lang/Math.max(II)I -/
theorem ml_AP_194 : jj_ML "jdk/internal/util/ArraysSupport" 194 yn_MA_max yb_MA_max 2 (some .int) 2 := ⟨Or.inl wd_162, wd_164, wd_9, by decide +kernel⟩
/-- jdk/internal/util/ArraysSupport #201: jdk/internal/util/ArraysSupport.hugeLength(II)I -/
theorem ml_AP_201 : jj_ML "jdk/internal/util/ArraysSupport" 201 yn_AP_hugeLength yb_AP_hugeLength 3 (some .int) 2 := ⟨Or.inl wd_166, wd_168, wd_8, by decide +kernel⟩
/-- java/lang/AbstractStringBuilder #108: java/util/Arrays.copyOf([BI)[B -/
theorem ml_AS_108 : jj_ML "java/lang/AbstractStringBuilder" 108 yn_AR_copyOf yb_AR_copyOf 3 (some (.array .byte)) 2 := ⟨Or.inl wd_170, wd_172, wd_10, by decide +kernel⟩
/-- java/util/Arrays #304: java/lang/Math.min(II)I -/
theorem ml_AR_304 : jj_ML "java/util/Arrays" 304 yn_MA_min yb_MA_min 2 (some .int) 2 := ⟨Or.inl wd_180, wd_182, wd_9, by decide +kernel⟩
/-- java/lang/AbstractStringBuilder #83: java/lang/AbstractStringBuilder.isLatin1()Z -/
theorem ml_AS_83 : jj_ML "java/lang/AbstractStringBuilder" 83 yn_AS_isLatin1 yb_AS_isLatin1 1 (some .boolean) 0 := ⟨Or.inl wd_186, wd_190, wd_2, by decide +kernel⟩
/-- java/lang/AbstractStringBuilder #191: java/lang/StringLatin1.canEncode(C)Z -/
theorem ml_AS_191 : jj_ML "java/lang/AbstractStringBuilder" 191 yn_SL_canEncode1 yb_SL_canEncode1 1 (some .boolean) 1 := ⟨Or.inl wd_191, wd_193, wd_12, by decide +kernel⟩
/-- java/lang/AbstractStringBuilder #195: java/lang/AbstractStringBuilder.inflate()V -/
theorem ml_AS_195 : jj_ML "java/lang/AbstractStringBuilder" 195 yn_AS_inflate yb_AS_inflate 2 none 0 := ⟨Or.inl wd_194, wd_197, wd_2, by decide +kernel⟩
/-- java/lang/AbstractStringBuilder #125: java/lang/StringLatin1.inflate([BI[BII)V -/
theorem ml_AS_125 : jj_ML "java/lang/AbstractStringBuilder" 125 yn_SL_inflate yb_SL_inflate 5 none 5 := ⟨Or.inl wd_198, wd_200, wd_12, by decide +kernel⟩
/-- java/lang/StringLatin1 #240: java/lang/StringUTF16.inflate([BI[BII)V -/
theorem ml_SL_240 : jj_ML "java/lang/StringLatin1" 240 yn_SU_inflate yb_SU_inflate 6 none 5 := ⟨Or.inl wd_201, wd_203, wd_5, by decide +kernel⟩
/-- java/lang/StringUTF16 #173: java/lang/StringUTF16.checkBoundsOffCount(II[B)V -/
theorem ml_SU_173 : jj_ML "java/lang/StringUTF16" 173 yn_SU_checkBoundsOffCount yb_SU_checkBoundsOffCount 3 none 3 := ⟨Or.inl wd_204, wd_206, wd_5, by decide +kernel⟩
/-- java/lang/StringUTF16 #48: java/lang/StringUTF16.length([B)I -/
theorem ml_SU_48 : jj_ML "java/lang/StringUTF16" 48 yn_SU_length yb_SU_length 1 (some .int) 1 := ⟨Or.inl wd_207, wd_209, wd_5, by decide +kernel⟩
/-- java/lang/StringUTF16 #419: java/lang/String.checkBoundsOffCount(III)I -/
theorem ml_SU_419 : jj_ML "java/lang/StringUTF16" 419 yn_ST_checkBoundsOffCount yb_ST_checkBoundsOffCount 3 (some .int) 3 := ⟨Or.inl wd_210, wd_212, wd_4, by decide +kernel⟩
/-- java/lang/String #1065: jdk/internal/util/Preconditions.checkFromIndexSize(IIILjava/util/function/BiFunction;)I -/
theorem ml_ST_1065 : jj_ML "java/lang/String" 1065 yn_PR_checkFromIndexSize yb_PR_checkFromIndexSize 4 (some .int) 4 := ⟨Or.inl wd_215, wd_217, wd_13, by decide +kernel⟩
/-- java/lang/StringUTF16 #111: java/lang/StringUTF16.putChar([BII)V -/
theorem ml_SU_111 : jj_ML "java/lang/StringUTF16" 111 yn_SU_putChar yb_SU_putChar 3 none 3 := ⟨Or.inl wd_218, wd_220, wd_5, by decide +kernel⟩
/-- java/lang/AbstractStringBuilder #197: java/lang/StringUTF16.putCharSB([BII)V -/
theorem ml_AS_197 : jj_ML "java/lang/AbstractStringBuilder" 197 yn_SU_putCharSB yb_SU_putCharSB 3 none 3 := ⟨Or.inl wd_227, wd_229, wd_5, by decide +kernel⟩
/-- java/lang/StringUTF16 #67: java/lang/StringUTF16.checkIndex(I[B)V -/
theorem ml_SU_67 : jj_ML "java/lang/StringUTF16" 67 yn_SU_checkIndex yb_SU_checkIndex 2 none 2 := ⟨Or.inl wd_230, wd_232, wd_5, by decide +kernel⟩
/-- java/lang/StringUTF16 #414: java/lang/String.checkIndex(II)V -/
theorem ml_SU_414 : jj_ML "java/lang/StringUTF16" 414 yn_ST_checkIndex yb_ST_checkIndex 2 none 2 := ⟨Or.inl wd_233, wd_235, wd_4, by decide +kernel⟩
/-- java/lang/String #1059: jdk/internal/util/Preconditions.checkIndex(IILjava/util/function/BiFunction;)I -/
theorem ml_ST_1059 : jj_ML "java/lang/String" 1059 yn_PR_checkIndex yb_PR_checkIndex 3 (some .int) 3 := ⟨Or.inl wd_236, wd_238, wd_13, by decide +kernel⟩
/-- BeanServerLaw #18: BeanServer.register()I -/
theorem ml_LW_18 : jj_ML "BeanServerLaw" 18 yn_BS_register yb_BS_register 3 (some .int) 0 := ⟨Or.inl wd_239, wd_242, wd_1, by decide +kernel⟩
/-- BeanServer #66: BeanServer.takenName()LBeanServer$Pattern; -/
theorem ml_BS_66 : jj_ML "BeanServer" 66 yn_BS_takenName yb_BS_takenName 2 (some (.object "BeanServer$Pattern")) 0 := ⟨Or.inl wd_243, wd_246, wd_1, by decide +kernel⟩
/-- BeanServer #104: BeanServer.taken()Ljava/lang/String; -/
theorem ml_BS_104 : jj_ML "BeanServer" 104 yn_BS_taken yb_BS_taken 2 (some (.object "java/lang/String")) 0 := ⟨Or.inl wd_247, wd_250, wd_1, by decide +kernel⟩
/-- BeanServer #201: java/lang/StringBuilder.toString()Ljava/lang/String; -/
theorem ml_BS_201 : jj_ML "BeanServer" 201 yn_SB_toString yb_SB_toString 1 (some (.object "java/lang/String")) 0 := ⟨Or.inl wd_251, wd_254, wd_3, by decide +kernel⟩
/-- java/lang/StringBuilder #137: java/lang/String.<init>(Ljava/lang/StringBuilder;)V -/
theorem ml_SB_137 : jj_ML "java/lang/StringBuilder" 137 yn_ST_init1 yb_ST_init1 2 none 1 := ⟨Or.inl wd_257, wd_259, wd_4, by decide +kernel⟩
/-- java/lang/String #489: java/lang/String.<init>(Ljava/lang/AbstractStringBuilder;Ljava/lang/Void;)V -/
theorem ml_ST_489 : jj_ML "java/lang/String" 489 yn_ST_init2 yb_ST_init2 5 none 2 := ⟨Or.inl wd_260, wd_262, wd_4, by decide +kernel⟩
/-- java/lang/String #552: java/lang/AbstractStringBuilder.getValue()[B -/
theorem ml_ST_552 : jj_ML "java/lang/String" 552 yn_AS_getValue yb_AS_getValue 1 (some (.array .byte)) 0 := ⟨Or.inl wd_264, wd_268, wd_2, by decide +kernel⟩
/-- java/lang/String #549: java/lang/AbstractStringBuilder.length()I -/
theorem ml_ST_549 : jj_ML "java/lang/String" 549 yn_AS_length yb_AS_length 1 (some .int) 0 := ⟨Or.inl wd_269, wd_143, wd_2, by decide +kernel⟩
/-- java/lang/String #1047: java/lang/AbstractStringBuilder.isLatin1()Z -/
theorem ml_ST_1047 : jj_ML "java/lang/String" 1047 yn_AS_isLatin1 yb_AS_isLatin1 1 (some .boolean) 0 := ⟨Or.inl wd_270, wd_190, wd_2, by decide +kernel⟩
/-- java/lang/String #54: java/util/Arrays.copyOfRange([BII)[B -/
theorem ml_ST_54 : jj_ML "java/lang/String" 54 yn_AR_copyOfRange yb_AR_copyOfRange 3 (some (.array .byte)) 3 := ⟨Or.inl wd_271, wd_273, wd_10, by decide +kernel⟩
/-- java/util/Arrays #339: java/util/Arrays.copyOfRangeByte([BII)[B -/
theorem ml_AR_339 : jj_ML "java/util/Arrays" 339 yn_AR_copyOfRangeByte yb_AR_copyOfRangeByte 5 (some (.array .byte)) 3 := ⟨Or.inl wd_274, wd_276, wd_10, by decide +kernel⟩
/-- java/util/Arrays #343: java/util/Arrays.checkLength(II)V -/
theorem ml_AR_343 : jj_ML "java/util/Arrays" 343 yn_AR_checkLength yb_AR_checkLength 2 none 2 := ⟨Or.inl wd_277, wd_279, wd_10, by decide +kernel⟩
/-- java/lang/String #1051: java/lang/StringUTF16.compress([BII)[B -/
theorem ml_ST_1051 : jj_ML "java/lang/String" 1051 yn_SU_compress1 yb_SU_compress1 6 (some (.array .byte)) 3 := ⟨Or.inl wd_281, wd_283, wd_5, by decide +kernel⟩
/-- java/lang/StringUTF16 #123: java/lang/StringUTF16.compress([BI[BII)I -/
theorem ml_SU_123 : jj_ML "java/lang/StringUTF16" 123 yn_SU_compress2 yb_SU_compress2 7 (some .int) 5 := ⟨Or.inl wd_284, wd_286, wd_5, by decide +kernel⟩
/-- java/lang/StringUTF16 #71: java/lang/StringUTF16.getChar([BI)C -/
theorem ml_SU_71 : jj_ML "java/lang/StringUTF16" 71 yn_SU_getChar yb_SU_getChar 2 (some .char) 2 := ⟨Or.inl wd_287, wd_289, wd_5, by decide +kernel⟩
/-- java/lang/StringUTF16 #126: java/util/Arrays.copyOfRange([BII)[B -/
theorem ml_SU_126 : jj_ML "java/lang/StringUTF16" 126 yn_AR_copyOfRange yb_AR_copyOfRange 3 (some (.array .byte)) 3 := ⟨Or.inl wd_290, wd_273, wd_10, by decide +kernel⟩
/-- java/lang/String #47: java/lang/StringUTF16.coderFromArrayLen([BI)B -/
theorem ml_ST_47 : jj_ML "java/lang/String" 47 yn_SU_coderFromArrayLen yb_SU_coderFromArrayLen 2 (some .byte) 2 := ⟨Or.inl wd_291, wd_293, wd_5, by decide +kernel⟩
/-- BeanServer #204: java/lang/StringBuilder.setLength(I)V -/
theorem ml_BS_204 : jj_ML "BeanServer" 204 yn_SB_setLength yb_SB_setLength 2 none 1 := ⟨Or.inl wd_305, wd_308, wd_3, by decide +kernel⟩
/-- java/lang/StringBuilder #333: java/lang/AbstractStringBuilder.setLength(I)V -/
theorem ml_SB_333 : jj_ML "java/lang/StringBuilder" 333 yn_AS_setLength yb_AS_setLength 2 none 1 := ⟨Or.inl wd_309, wd_311, wd_2, by decide +kernel⟩
/-- java/lang/AbstractStringBuilder #133: java/lang/StringLatin1.fillNull([BII)V -/
theorem ml_AS_133 : jj_ML "java/lang/AbstractStringBuilder" 133 yn_SL_fillNull yb_SL_fillNull 3 none 3 := ⟨Or.inl wd_312, wd_314, wd_12, by decide +kernel⟩
/-- java/lang/StringLatin1 #236: java/util/Arrays.fill([BIIB)V -/
theorem ml_SL_236 : jj_ML "java/lang/StringLatin1" 236 yn_AR_fill yb_AR_fill 5 none 4 := ⟨Or.inl wd_315, wd_317, wd_10, by decide +kernel⟩
/-- java/util/Arrays #13: java/util/Arrays.rangeCheck(III)V -/
theorem ml_AR_13 : jj_ML "java/util/Arrays" 13 yn_AR_rangeCheck yb_AR_rangeCheck 3 none 3 := ⟨Or.inl wd_318, wd_320, wd_10, by decide +kernel⟩
/-- java/lang/AbstractStringBuilder #137: java/lang/StringUTF16.fillNull([BII)V -/
theorem ml_AS_137 : jj_ML "java/lang/AbstractStringBuilder" 137 yn_SU_fillNull yb_SU_fillNull 3 none 3 := ⟨Or.inl wd_321, wd_323, wd_5, by decide +kernel⟩
/-- java/lang/StringUTF16 #380: java/util/Arrays.fill([BIIB)V -/
theorem ml_SU_380 : jj_ML "java/lang/StringUTF16" 380 yn_AR_fill yb_AR_fill 5 none 4 := ⟨Or.inl wd_324, wd_317, wd_10, by decide +kernel⟩
/-- BeanServer #143: BeanServer.patternIn(Ljava/lang/String;)LBeanServer$Pattern; -/
theorem ml_BS_143 : jj_ML "BeanServer" 143 yn_BS_patternIn yb_BS_patternIn 2 (some (.object "BeanServer$Pattern")) 1 := ⟨Or.inl wd_325, wd_327, wd_1, by decide +kernel⟩
/-- BeanServer #211: BeanServer$Pattern.<init>(Ljava/lang/String;)V -/
theorem ml_BS_211 : jj_ML "BeanServer" 211 yn_PT_init yb_PT_init 2 none 1 := ⟨Or.inl wd_330, wd_332, wd_14, by decide +kernel⟩
/-- BeanServer #212: BeanServer$Pattern.parse()Z -/
theorem ml_BS_212 : jj_ML "BeanServer" 212 yn_PT_parse yb_PT_parse 1 (some .boolean) 0 := ⟨Or.inl wd_355, wd_358, wd_14, by decide +kernel⟩
/-- BeanServer$Pattern #35: BeanServer$Pattern.rowEnd(I)I -/
theorem ml_PT_35 : jj_ML "BeanServer$Pattern" 35 yn_PT_rowEnd yb_PT_rowEnd 3 (some .int) 1 := ⟨Or.inl wd_359, wd_362, wd_14, by decide +kernel⟩
/-- BeanServer$Pattern #39: java/lang/String.length()I -/
theorem ml_PT_39 : jj_ML "BeanServer$Pattern" 39 yn_ST_length yb_ST_length 1 (some .int) 0 := ⟨Or.inl wd_363, wd_366, wd_4, by decide +kernel⟩
/-- java/lang/String #335: java/lang/String.coder()B -/
theorem ml_ST_335 : jj_ML "java/lang/String" 335 yn_ST_coder yb_ST_coder 1 (some .byte) 0 := ⟨Or.inl wd_367, wd_370, wd_4, by decide +kernel⟩
/-- BeanServer$Pattern #45: java/lang/String.charAt(I)C -/
theorem ml_PT_45 : jj_ML "BeanServer$Pattern" 45 yn_ST_charAt yb_ST_charAt 2 (some .char) 1 := ⟨Or.inl wd_371, wd_374, wd_4, by decide +kernel⟩
/-- java/lang/String #492: java/lang/String.isLatin1()Z -/
theorem ml_ST_492 : jj_ML "java/lang/String" 492 yn_ST_isLatin1 yb_ST_isLatin1 1 (some .boolean) 0 := ⟨Or.inl wd_375, wd_378, wd_4, by decide +kernel⟩
/-- java/lang/String #495: java/lang/StringLatin1.charAt([BI)C -/
theorem ml_ST_495 : jj_ML "java/lang/String" 495 yn_SL_charAt yb_SL_charAt 2 (some .char) 2 := ⟨Or.inl wd_379, wd_381, wd_12, by decide +kernel⟩
/-- java/lang/StringLatin1 #9: java/lang/String.checkIndex(II)V -/
theorem ml_SL_9 : jj_ML "java/lang/StringLatin1" 9 yn_ST_checkIndex yb_ST_checkIndex 2 none 2 := ⟨Or.inl wd_382, wd_235, wd_4, by decide +kernel⟩
/-- java/lang/String #498: java/lang/StringUTF16.charAt([BI)C -/
theorem ml_ST_498 : jj_ML "java/lang/String" 498 yn_SU_charAt yb_SU_charAt 2 (some .char) 2 := ⟨Or.inl wd_383, wd_385, wd_5, by decide +kernel⟩
/-- BeanServer$Pattern #64: BeanServer$Pattern.isRowCharacter(C)Z -/
theorem ml_PT_64 : jj_ML "BeanServer$Pattern" 64 yn_PT_isRowCharacter yb_PT_isRowCharacter 1 (some .boolean) 1 := ⟨Or.inl wd_386, wd_388, wd_14, by decide +kernel⟩
/-- BeanServer$Pattern #49: BeanServer$Pattern.parseList(I)Z -/
theorem ml_PT_49 : jj_ML "BeanServer$Pattern" 49 yn_PT_parseList yb_PT_parseList 5 (some .boolean) 1 := ⟨Or.inl wd_389, wd_392, wd_14, by decide +kernel⟩
/-- BeanServer$Pattern #68: BeanServer$Pattern.parseProperty(I)I -/
theorem ml_PT_68 : jj_ML "BeanServer$Pattern" 68 yn_PT_parseProperty yb_PT_parseProperty 5 (some .int) 1 := ⟨Or.inl wd_393, wd_396, wd_14, by decide +kernel⟩
/-- BeanServer$Pattern #53: BeanServer$Pattern.ordered()Ljava/lang/String; -/
theorem ml_PT_53 : jj_ML "BeanServer$Pattern" 53 yn_PT_ordered yb_PT_ordered 4 (some (.object "java/lang/String")) 0 := ⟨Or.inl wd_397, wd_400, wd_14, by decide +kernel⟩
/-- BeanServer$Pattern #73: java/lang/StringBuilder.<init>()V -/
theorem ml_PT_73 : jj_ML "BeanServer$Pattern" 73 yn_SB_init yb_SB_init 1 none 0 := ⟨Or.inl wd_402, wd_35, wd_3, by decide +kernel⟩
/-- BeanServer$Pattern #74: BeanServer$Pattern.copy(IILjava/lang/StringBuilder;)V -/
theorem ml_PT_74 : jj_ML "BeanServer$Pattern" 74 yn_PT_copy yb_PT_copy 5 none 3 := ⟨Or.inl wd_403, wd_406, wd_14, by decide +kernel⟩
/-- BeanServer$Pattern #83: java/lang/StringBuilder.append(C)Ljava/lang/StringBuilder; -/
theorem ml_PT_83 : jj_ML "BeanServer$Pattern" 83 yn_SB_append yb_SB_append 2 (some (.object "java/lang/StringBuilder")) 1 := ⟨Or.inl wd_407, wd_147, wd_3, by decide +kernel⟩
/-- BeanServer$Pattern #78: java/lang/StringBuilder.length()I -/
theorem ml_PT_78 : jj_ML "BeanServer$Pattern" 78 yn_SB_length yb_SB_length 1 (some .int) 0 := ⟨Or.inl wd_408, wd_140, wd_3, by decide +kernel⟩
/-- BeanServer$Pattern #79: BeanServer$Pattern.separate(ILjava/lang/StringBuilder;)V -/
theorem ml_PT_79 : jj_ML "BeanServer$Pattern" 79 yn_PT_separate yb_PT_separate 2 none 2 := ⟨Or.inl wd_409, wd_411, wd_14, by decide +kernel⟩
/-- BeanServer$Pattern #87: java/lang/StringBuilder.toString()Ljava/lang/String; -/
theorem ml_PT_87 : jj_ML "BeanServer$Pattern" 87 yn_SB_toString yb_SB_toString 1 (some (.object "java/lang/String")) 0 := ⟨Or.inl wd_412, wd_254, wd_3, by decide +kernel⟩
/-- BeanServer #208: BeanServer$Pattern.isName()Z -/
theorem ml_BS_208 : jj_ML "BeanServer" 208 yn_PT_isName yb_PT_isName 1 (some .boolean) 0 := ⟨Or.inl wd_413, wd_416, wd_14, by decide +kernel⟩
/-- BeanServer$Pattern #57: java/lang/String.indexOf(I)I -/
theorem ml_PT_57 : jj_ML "BeanServer$Pattern" 57 yn_ST_indexOf1 yb_ST_indexOf1 2 (some .int) 1 := ⟨Or.inl wd_417, wd_420, wd_4, by decide +kernel⟩
/-- java/lang/String #633: java/lang/String.indexOf(II)I -/
theorem ml_ST_633 : jj_ML "java/lang/String" 633 yn_ST_indexOf2 yb_ST_indexOf2 3 (some .int) 2 := ⟨Or.inl wd_421, wd_424, wd_4, by decide +kernel⟩
/-- java/lang/String #505: java/lang/String.length()I -/
theorem ml_ST_505 : jj_ML "java/lang/String" 505 yn_ST_length yb_ST_length 1 (some .int) 0 := ⟨Or.inl wd_425, wd_366, wd_4, by decide +kernel⟩
/-- java/lang/String #637: java/lang/StringLatin1.indexOf([BIII)I -/
theorem ml_ST_637 : jj_ML "java/lang/String" 637 yn_SL_indexOf yb_SL_indexOf 4 (some .int) 4 := ⟨Or.inl wd_426, wd_428, wd_12, by decide +kernel⟩
/-- java/lang/StringLatin1 #88: java/lang/StringLatin1.canEncode(I)Z -/
theorem ml_SL_88 : jj_ML "java/lang/StringLatin1" 88 yn_SL_canEncode2 yb_SL_canEncode2 1 (some .boolean) 1 := ⟨Or.inl wd_429, wd_431, wd_12, by decide +kernel⟩
/-- java/lang/StringLatin1 #92: java/lang/Math.max(II)I -/
theorem ml_SL_92 : jj_ML "java/lang/StringLatin1" 92 yn_MA_max yb_MA_max 2 (some .int) 2 := ⟨Or.inl wd_432, wd_164, wd_9, by decide +kernel⟩
/-- java/lang/StringLatin1 #38: java/lang/Math.min(II)I -/
theorem ml_SL_38 : jj_ML "java/lang/StringLatin1" 38 yn_MA_min yb_MA_min 2 (some .int) 2 := ⟨Or.inl wd_433, wd_182, wd_9, by decide +kernel⟩
/-- java/lang/StringLatin1 #95: java/lang/StringLatin1.indexOfChar([BIII)I -/
theorem ml_SL_95 : jj_ML "java/lang/StringLatin1" 95 yn_SL_indexOfChar yb_SL_indexOfChar 6 (some .int) 4 := ⟨Or.inl wd_434, wd_436, wd_12, by decide +kernel⟩
/-- java/lang/String #640: java/lang/StringUTF16.indexOf([BIII)I -/
theorem ml_ST_640 : jj_ML "java/lang/String" 640 yn_SU_indexOf yb_SU_indexOf 4 (some .int) 4 := ⟨Or.inl wd_437, wd_439, wd_5, by decide +kernel⟩
/-- java/lang/StringUTF16 #224: java/lang/Math.max(II)I -/
theorem ml_SU_224 : jj_ML "java/lang/StringUTF16" 224 yn_MA_max yb_MA_max 2 (some .int) 2 := ⟨Or.inl wd_440, wd_164, wd_9, by decide +kernel⟩
/-- java/lang/StringUTF16 #183: java/lang/Math.min(II)I -/
theorem ml_SU_183 : jj_ML "java/lang/StringUTF16" 183 yn_MA_min yb_MA_min 2 (some .int) 2 := ⟨Or.inl wd_441, wd_182, wd_9, by decide +kernel⟩
/-- java/lang/StringUTF16 #228: java/lang/StringUTF16.indexOfChar([BIII)I -/
theorem ml_SU_228 : jj_ML "java/lang/StringUTF16" 228 yn_SU_indexOfChar yb_SU_indexOfChar 4 (some .int) 4 := ⟨Or.inl wd_443, wd_445, wd_5, by decide +kernel⟩
/-- java/lang/StringUTF16 #96: java/lang/StringUTF16.checkBoundsBeginEnd(II[B)V -/
theorem ml_SU_96 : jj_ML "java/lang/StringUTF16" 96 yn_SU_checkBoundsBeginEnd yb_SU_checkBoundsBeginEnd 3 none 3 := ⟨Or.inl wd_446, wd_448, wd_5, by decide +kernel⟩
/-- java/lang/StringUTF16 #241: java/lang/String.checkBoundsBeginEnd(III)V -/
theorem ml_SU_241 : jj_ML "java/lang/StringUTF16" 241 yn_ST_checkBoundsBeginEnd yb_ST_checkBoundsBeginEnd 3 none 3 := ⟨Or.inl wd_449, wd_451, wd_4, by decide +kernel⟩
/-- java/lang/String #1062: jdk/internal/util/Preconditions.checkFromToIndex(IIILjava/util/function/BiFunction;)I -/
theorem ml_ST_1062 : jj_ML "java/lang/String" 1062 yn_PR_checkFromToIndex yb_PR_checkFromToIndex 4 (some .int) 4 := ⟨Or.inl wd_452, wd_454, wd_13, by decide +kernel⟩
/-- java/lang/StringUTF16 #244: java/lang/StringUTF16.indexOfCharUnsafe([BIII)I -/
theorem ml_SU_244 : jj_ML "java/lang/StringUTF16" 244 yn_SU_indexOfCharUnsafe yb_SU_indexOfCharUnsafe 5 (some .int) 4 := ⟨Or.inl wd_455, wd_457, wd_5, by decide +kernel⟩
/-- java/lang/StringUTF16 #232: java/lang/StringUTF16.indexOfSupplementary([BIII)I -/
theorem ml_SU_232 : jj_ML "java/lang/StringUTF16" 232 yn_SU_indexOfSupplementary yb_SU_indexOfSupplementary 7 (some .int) 4 := ⟨Or.inl wd_458, wd_460, wd_5, by decide +kernel⟩
/-- java/lang/StringUTF16 #164: java/lang/Character.isValidCodePoint(I)Z -/
theorem ml_SU_164 : jj_ML "java/lang/StringUTF16" 164 yn_CH_isValidCodePoint yb_CH_isValidCodePoint 2 (some .boolean) 1 := ⟨Or.inl wd_461, wd_463, wd_15, by decide +kernel⟩
/-- java/lang/StringUTF16 #157: java/lang/Character.highSurrogate(I)C -/
theorem ml_SU_157 : jj_ML "java/lang/StringUTF16" 157 yn_CH_highSurrogate yb_CH_highSurrogate 1 (some .char) 1 := ⟨Or.inl wd_464, wd_466, wd_15, by decide +kernel⟩
/-- java/lang/StringUTF16 #161: java/lang/Character.lowSurrogate(I)C -/
theorem ml_SU_161 : jj_ML "java/lang/StringUTF16" 161 yn_CH_lowSurrogate yb_CH_lowSurrogate 1 (some .char) 1 := ⟨Or.inl wd_468, wd_470, wd_15, by decide +kernel⟩
/-- BeanServer #75: BeanServer.beanNamed(Ljava/lang/String;)I -/
theorem ml_BS_75 : jj_ML "BeanServer" 75 yn_BS_beanNamed yb_BS_beanNamed 3 (some .int) 1 := ⟨Or.inl wd_472, wd_475, wd_1, by decide +kernel⟩
/-- BeanServer #215: java/lang/String.equals(Ljava/lang/Object;)Z -/
theorem ml_BS_215 : jj_ML "BeanServer" 215 yn_ST_equals yb_ST_equals 3 (some .boolean) 1 := ⟨Or.inl wd_476, wd_479, wd_4, by decide +kernel⟩
/-- java/lang/String #541: java/lang/StringLatin1.equals([B[B)Z -/
theorem ml_ST_541 : jj_ML "java/lang/String" 541 yn_SL_equals yb_SL_equals 3 (some .boolean) 2 := ⟨Or.inl wd_481, wd_483, wd_12, by decide +kernel⟩
/-- BeanServer #79: BeanServer.freeBean()I -/
theorem ml_BS_79 : jj_ML "BeanServer" 79 yn_BS_freeBean yb_BS_freeBean 2 (some .int) 0 := ⟨Or.inl wd_484, wd_487, wd_1, by decide +kernel⟩
/-- BeanServer #82: BeanServer$Bean.<init>(LBeanServer$Pattern;)V -/
theorem ml_BS_82 : jj_ML "BeanServer" 82 yn_BE_init yb_BE_init 2 none 1 := ⟨Or.inl wd_489, wd_491, wd_16, by decide +kernel⟩
/-- BeanServer #85: BeanServer$Log.give(III)V -/
theorem ml_BS_85 : jj_ML "BeanServer" 85 yn_LG_give yb_LG_give 4 none 3 := ⟨Or.inl wd_509, wd_512, wd_6, by decide +kernel⟩
/-- BeanServer$Log #37: java/lang/Math.min(II)I -/
theorem ml_LG_37 : jj_ML "BeanServer$Log" 37 yn_MA_min yb_MA_min 2 (some .int) 2 := ⟨Or.inl wd_513, wd_182, wd_9, by decide +kernel⟩
/-- BeanServerLaw #23: BeanServer.unregister()I -/
theorem ml_LW_23 : jj_ML "BeanServerLaw" 23 yn_BS_unregister yb_BS_unregister 3 (some .int) 0 := ⟨Or.inl wd_514, wd_517, wd_1, by decide +kernel⟩
/-- BeanServerLaw #27: BeanServer.find()I -/
theorem ml_LW_27 : jj_ML "BeanServerLaw" 27 yn_BS_find yb_BS_find 2 (some .int) 0 := ⟨Or.inl wd_518, wd_521, wd_1, by decide +kernel⟩
/-- BeanServerLaw #31: BeanServer.set(III)Z -/
theorem ml_LW_31 : jj_ML "BeanServerLaw" 31 yn_BS_set yb_BS_set 5 (some .boolean) 3 := ⟨Or.inl wd_522, wd_525, wd_1, by decide +kernel⟩
/-- BeanServer #89: BeanServer.beanAt(I)LBeanServer$Bean; -/
theorem ml_BS_89 : jj_ML "BeanServer" 89 yn_BS_beanAt yb_BS_beanAt 2 (some (.object "BeanServer$Bean")) 1 := ⟨Or.inl wd_526, wd_529, wd_1, by decide +kernel⟩
/-- BeanServer #93: BeanServer.isAttribute(I)Z -/
theorem ml_BS_93 : jj_ML "BeanServer" 93 yn_BS_isAttribute yb_BS_isAttribute 1 (some .boolean) 1 := ⟨Or.inl wd_530, wd_532, wd_1, by decide +kernel⟩
/-- BeanServerLaw #36: BeanServer.unset(II)Z -/
theorem ml_LW_36 : jj_ML "BeanServerLaw" 36 yn_BS_unset yb_BS_unset 4 (some .boolean) 2 := ⟨Or.inl wd_533, wd_536, wd_1, by decide +kernel⟩
/-- BeanServerLaw #41: BeanServer.get(II)I -/
theorem ml_LW_41 : jj_ML "BeanServerLaw" 41 yn_BS_get yb_BS_get 4 (some .int) 2 := ⟨Or.inl wd_537, wd_540, wd_1, by decide +kernel⟩
/-- BeanServerLaw #46: BeanServer.define()I -/
theorem ml_LW_46 : jj_ML "BeanServerLaw" 46 yn_BS_define yb_BS_define 3 (some .int) 0 := ⟨Or.inl wd_541, wd_544, wd_1, by decide +kernel⟩
/-- BeanServer #108: BeanServer.nestings(Ljava/lang/String;)I -/
theorem ml_BS_108 : jj_ML "BeanServer" 108 yn_BS_nestings yb_BS_nestings 3 (some .int) 1 := ⟨Or.inl wd_545, wd_547, wd_1, by decide +kernel⟩
/-- BeanServer #126: java/lang/String.length()I -/
theorem ml_BS_126 : jj_ML "BeanServer" 126 yn_ST_length yb_ST_length 1 (some .int) 0 := ⟨Or.inl wd_548, wd_366, wd_4, by decide +kernel⟩
/-- BeanServer #163: java/lang/String.charAt(I)C -/
theorem ml_BS_163 : jj_ML "BeanServer" 163 yn_ST_charAt yb_ST_charAt 2 (some .char) 1 := ⟨Or.inl wd_549, wd_374, wd_4, by decide +kernel⟩
/-- BeanServer #113: BeanServer$QueryReader.<init>(Ljava/lang/String;LBeanServer$Bean;)V -/
theorem ml_BS_113 : jj_ML "BeanServer" 113 yn_QR_init yb_QR_init 3 none 2 := ⟨Or.inl wd_552, wd_554, wd_17, by decide +kernel⟩
/-- BeanServer$QueryReader #30: java/lang/String.isEmpty()Z -/
theorem ml_QR_30 : jj_ML "BeanServer$QueryReader" 30 yn_ST_isEmpty yb_ST_isEmpty 1 (some .boolean) 0 := ⟨Or.inl wd_556, wd_559, wd_4, by decide +kernel⟩
/-- BeanServer$QueryReader #36: java/lang/String.charAt(I)C -/
theorem ml_QR_36 : jj_ML "BeanServer$QueryReader" 36 yn_ST_charAt yb_ST_charAt 2 (some .char) 1 := ⟨Or.inl wd_560, wd_374, wd_4, by decide +kernel⟩
/-- BeanServer #116: BeanServer$QueryReader.any()I -/
theorem ml_BS_116 : jj_ML "BeanServer" 116 yn_QR_any yb_QR_any 4 (some .int) 0 := ⟨Or.inl wd_582, wd_585, wd_17, by decide +kernel⟩
/-- BeanServer$QueryReader #44: BeanServer$QueryReader.all()I -/
theorem ml_QR_44 : jj_ML "BeanServer$QueryReader" 44 yn_QR_all yb_QR_all 4 (some .int) 0 := ⟨Or.inl wd_586, wd_589, wd_17, by decide +kernel⟩
/-- BeanServer$QueryReader #54: BeanServer$QueryReader.one()I -/
theorem ml_QR_54 : jj_ML "BeanServer$QueryReader" 54 yn_QR_one yb_QR_one 4 (some .int) 0 := ⟨Or.inl wd_590, wd_593, wd_17, by decide +kernel⟩
/-- BeanServer$QueryReader #51: BeanServer$QueryReader.step()V -/
theorem ml_QR_51 : jj_ML "BeanServer$QueryReader" 51 yn_QR_step yb_QR_step 1 none 0 := ⟨Or.inl wd_594, wd_597, wd_17, by decide +kernel⟩
/-- BeanServer$QueryReader #48: java/lang/String.length()I -/
theorem ml_QR_48 : jj_ML "BeanServer$QueryReader" 48 yn_ST_length yb_ST_length 1 (some .int) 0 := ⟨Or.inl wd_598, wd_366, wd_4, by decide +kernel⟩
/-- BeanServer$QueryReader #57: BeanServer$QueryReader.any()I -/
theorem ml_QR_57 : jj_ML "BeanServer$QueryReader" 57 yn_QR_any yb_QR_any 4 (some .int) 0 := ⟨Or.inl wd_599, wd_585, wd_17, by decide +kernel⟩
/-- BeanServer$QueryReader #60: BeanServer$QueryReader.sum()I -/
theorem ml_QR_60 : jj_ML "BeanServer$QueryReader" 60 yn_QR_sum yb_QR_sum 5 (some .int) 0 := ⟨Or.inl wd_600, wd_603, wd_17, by decide +kernel⟩
/-- BeanServer$QueryReader #71: BeanServer$QueryReader.product()I -/
theorem ml_QR_71 : jj_ML "BeanServer$QueryReader" 71 yn_QR_product yb_QR_product 5 (some .int) 0 := ⟨Or.inl wd_604, wd_607, wd_17, by decide +kernel⟩
/-- BeanServer$QueryReader #74: BeanServer$QueryReader.unit()I -/
theorem ml_QR_74 : jj_ML "BeanServer$QueryReader" 74 yn_QR_unit yb_QR_unit 3 (some .int) 0 := ⟨Or.inl wd_608, wd_611, wd_17, by decide +kernel⟩
/-- BeanServer$QueryReader #63: BeanServer$QueryReader.isRelation(C)Z -/
theorem ml_QR_63 : jj_ML "BeanServer$QueryReader" 63 yn_QR_isRelation yb_QR_isRelation 1 (some .boolean) 1 := ⟨Or.inl wd_612, wd_614, wd_17, by decide +kernel⟩
/-- BeanServer$QueryReader #67: BeanServer$QueryReader.compared(ICI)I -/
theorem ml_QR_67 : jj_ML "BeanServer$QueryReader" 67 yn_QR_compared yb_QR_compared 4 (some .int) 3 := ⟨Or.inl wd_615, wd_617, wd_17, by decide +kernel⟩
/-- BeanServer #131: BeanServer$QueryForm.<init>(Ljava/lang/String;)V -/
theorem ml_BS_131 : jj_ML "BeanServer" 131 yn_QF_init yb_QF_init 2 none 1 := ⟨Or.inl wd_621, wd_623, wd_19, by decide +kernel⟩
/-- BeanServer$QueryForm #11: java/lang/StringBuilder.<init>()V -/
theorem ml_QF_11 : jj_ML "BeanServer$QueryForm" 11 yn_SB_init yb_SB_init 1 none 0 := ⟨Or.inl wd_626, wd_35, wd_3, by decide +kernel⟩
/-- BeanServer #134: BeanServer$QueryForm.written()Ljava/lang/String; -/
theorem ml_BS_134 : jj_ML "BeanServer" 134 yn_QF_written yb_QF_written 4 (some (.object "java/lang/String")) 0 := ⟨Or.inl wd_640, wd_643, wd_19, by decide +kernel⟩
/-- BeanServer$QueryForm #30: java/lang/String.length()I -/
theorem ml_QF_30 : jj_ML "BeanServer$QueryForm" 30 yn_ST_length yb_ST_length 1 (some .int) 0 := ⟨Or.inl wd_644, wd_366, wd_4, by decide +kernel⟩
/-- BeanServer$QueryForm #36: java/lang/String.charAt(I)C -/
theorem ml_QF_36 : jj_ML "BeanServer$QueryForm" 36 yn_ST_charAt yb_ST_charAt 2 (some .char) 1 := ⟨Or.inl wd_645, wd_374, wd_4, by decide +kernel⟩
/-- BeanServer$QueryForm #40: BeanServer$QueryForm.openParenthesis()V -/
theorem ml_QF_40 : jj_ML "BeanServer$QueryForm" 40 yn_QF_openParenthesis yb_QF_openParenthesis 1 none 0 := ⟨Or.inl wd_646, wd_649, wd_19, by decide +kernel⟩
/-- BeanServer$QueryForm #51: java/lang/StringBuilder.length()I -/
theorem ml_QF_51 : jj_ML "BeanServer$QueryForm" 51 yn_SB_length yb_SB_length 1 (some .int) 0 := ⟨Or.inl wd_650, wd_140, wd_3, by decide +kernel⟩
/-- BeanServer$QueryForm #55: java/lang/StringBuilder.append(C)Ljava/lang/StringBuilder; -/
theorem ml_QF_55 : jj_ML "BeanServer$QueryForm" 55 yn_SB_append yb_SB_append 2 (some (.object "java/lang/StringBuilder")) 1 := ⟨Or.inl wd_651, wd_147, wd_3, by decide +kernel⟩
/-- BeanServer$QueryForm #43: BeanServer$QueryForm.closeParenthesis(C)V -/
theorem ml_QF_43 : jj_ML "BeanServer$QueryForm" 43 yn_QF_closeParenthesis yb_QF_closeParenthesis 3 none 1 := ⟨Or.inl wd_652, wd_655, wd_19, by decide +kernel⟩
/-- BeanServer$QueryForm #52: BeanServer$QueryForm.lastBefore(I)C -/
theorem ml_QF_52 : jj_ML "BeanServer$QueryForm" 52 yn_QF_lastBefore yb_QF_lastBefore 2 (some .char) 1 := ⟨Or.inl wd_656, wd_659, wd_19, by decide +kernel⟩
/-- BeanServer$QueryForm #74: java/lang/StringBuilder.charAt(I)C -/
theorem ml_QF_74 : jj_ML "BeanServer$QueryForm" 74 yn_SB_charAt yb_SB_charAt 2 (some .char) 1 := ⟨Or.inl wd_660, wd_663, wd_3, by decide +kernel⟩
/-- java/lang/StringBuilder #329: java/lang/AbstractStringBuilder.charAt(I)C -/
theorem ml_SB_329 : jj_ML "java/lang/StringBuilder" 329 yn_AS_charAt yb_AS_charAt 5 (some .char) 1 := ⟨Or.inl wd_664, wd_666, wd_2, by decide +kernel⟩
/-- java/lang/AbstractStringBuilder #138: java/lang/Math.min(II)I -/
theorem ml_AS_138 : jj_ML "java/lang/AbstractStringBuilder" 138 yn_MA_min yb_MA_min 2 (some .int) 2 := ⟨Or.inl wd_667, wd_182, wd_9, by decide +kernel⟩
/-- java/lang/AbstractStringBuilder #144: java/lang/String.checkIndex(II)V -/
theorem ml_AS_144 : jj_ML "java/lang/AbstractStringBuilder" 144 yn_ST_checkIndex yb_ST_checkIndex 2 none 2 := ⟨Or.inl wd_668, wd_235, wd_4, by decide +kernel⟩
/-- java/lang/AbstractStringBuilder #148: java/lang/StringUTF16.getChar([BI)C -/
theorem ml_AS_148 : jj_ML "java/lang/AbstractStringBuilder" 148 yn_SU_getChar yb_SU_getChar 2 (some .char) 2 := ⟨Or.inl wd_669, wd_289, wd_5, by decide +kernel⟩
/-- BeanServer$QueryForm #63: BeanServer$QueryForm.jointFrom(I)C -/
theorem ml_QF_63 : jj_ML "BeanServer$QueryForm" 63 yn_QF_jointFrom yb_QF_jointFrom 6 (some .char) 1 := ⟨Or.inl wd_670, wd_673, wd_19, by decide +kernel⟩
/-- BeanServer$QueryForm #66: BeanServer$QueryForm.isNeeded(CCC)Z -/
theorem ml_QF_66 : jj_ML "BeanServer$QueryForm" 66 yn_QF_isNeeded yb_QF_isNeeded 3 (some .boolean) 3 := ⟨Or.inl wd_674, wd_676, wd_19, by decide +kernel⟩
/-- BeanServer$QueryForm #70: java/lang/StringBuilder.deleteCharAt(I)Ljava/lang/StringBuilder; -/
theorem ml_QF_70 : jj_ML "BeanServer$QueryForm" 70 yn_SB_deleteCharAt yb_SB_deleteCharAt 2 (some (.object "java/lang/StringBuilder")) 1 := ⟨Or.inl wd_677, wd_680, wd_3, by decide +kernel⟩
/-- java/lang/StringBuilder #72: java/lang/AbstractStringBuilder.deleteCharAt(I)Ljava/lang/AbstractStringBuilder; -/
theorem ml_SB_72 : jj_ML "java/lang/StringBuilder" 72 yn_AS_deleteCharAt yb_AS_deleteCharAt 2 (some (.object "java/lang/AbstractStringBuilder")) 1 := ⟨Or.inl wd_681, wd_683, wd_2, by decide +kernel⟩
/-- java/lang/AbstractStringBuilder #283: java/lang/AbstractStringBuilder.shift(II)V -/
theorem ml_AS_283 : jj_ML "java/lang/AbstractStringBuilder" 283 yn_AS_shift yb_AS_shift 3 none 2 := ⟨Or.inl wd_684, wd_687, wd_2, by decide +kernel⟩
/-- BeanServer$QueryForm #47: BeanServer$QueryForm.isDigit(C)Z -/
theorem ml_QF_47 : jj_ML "BeanServer$QueryForm" 47 yn_QF_isDigit yb_QF_isDigit 1 (some .boolean) 1 := ⟨Or.inl wd_689, wd_691, wd_19, by decide +kernel⟩
/-- BeanServer$QueryForm #59: java/lang/StringBuilder.toString()Ljava/lang/String; -/
theorem ml_QF_59 : jj_ML "BeanServer$QueryForm" 59 yn_SB_toString yb_SB_toString 1 (some (.object "java/lang/String")) 0 := ⟨Or.inl wd_692, wd_254, wd_3, by decide +kernel⟩
/-- BeanServer #137: BeanServer$Query.<init>(Ljava/lang/String;)V -/
theorem ml_BS_137 : jj_ML "BeanServer" 137 yn_QU_init yb_QU_init 2 none 1 := ⟨Or.inl wd_693, wd_695, wd_18, by decide +kernel⟩
/-- BeanServerLaw #50: BeanServer.check(II)I -/
theorem ml_LW_50 : jj_ML "BeanServerLaw" 50 yn_BS_check yb_BS_check 5 (some .int) 2 := ⟨Or.inl wd_702, wd_705, wd_1, by decide +kernel⟩
/-- BeanServer #138: BeanServer.queryAt(I)LBeanServer$Query; -/
theorem ml_BS_138 : jj_ML "BeanServer" 138 yn_BS_queryAt yb_BS_queryAt 2 (some (.object "BeanServer$Query")) 1 := ⟨Or.inl wd_706, wd_709, wd_1, by decide +kernel⟩
/-- BeanServerLaw #54: BeanServer.select(I)I -/
theorem ml_LW_54 : jj_ML "BeanServerLaw" 54 yn_BS_select yb_BS_select 7 (some .int) 1 := ⟨Or.inl wd_710, wd_713, wd_1, by decide +kernel⟩
/-- BeanServer #151: BeanServer$Pattern.fits(LBeanServer$Pattern;)Z -/
theorem ml_BS_151 : jj_ML "BeanServer" 151 yn_PT_fits yb_PT_fits 4 (some .boolean) 1 := ⟨Or.inl wd_714, wd_717, wd_14, by decide +kernel⟩
/-- BeanServer$Pattern #60: BeanServer$Pattern.standsFor(IILjava/lang/String;II)Z -/
theorem ml_PT_60 : jj_ML "BeanServer$Pattern" 60 yn_PT_standsFor yb_PT_standsFor 9 (some .boolean) 5 := ⟨Or.inl wd_718, wd_721, wd_14, by decide +kernel⟩
/-- BeanServer$Pattern #90: BeanServer$Pattern.reachedBehind(CILjava/lang/String;II)I -/
theorem ml_PT_90 : jj_ML "BeanServer$Pattern" 90 yn_PT_reachedBehind yb_PT_reachedBehind 8 (some .int) 5 := ⟨Or.inl wd_722, wd_724, wd_14, by decide +kernel⟩
/-- BeanServerLaw #59: BeanServer.selected(I)I -/
theorem ml_LW_59 : jj_ML "BeanServerLaw" 59 yn_BS_selected yb_BS_selected 2 (some .int) 1 := ⟨Or.inl wd_725, wd_728, wd_1, by decide +kernel⟩
/-- BeanServerLaw #63: BeanServer.form(III)I -/
theorem ml_LW_63 : jj_ML "BeanServerLaw" 63 yn_BS_form yb_BS_form 5 (some .int) 3 := ⟨Or.inl wd_729, wd_732, wd_1, by decide +kernel⟩
/-- BeanServer #155: BeanServer.shownForm(II)Ljava/lang/String; -/
theorem ml_BS_155 : jj_ML "BeanServer" 155 yn_BS_shownForm yb_BS_shownForm 3 (some (.object "java/lang/String")) 2 := ⟨Or.inl wd_733, wd_736, wd_1, by decide +kernel⟩
/-- BeanServer #159: java/lang/String.isEmpty()Z -/
theorem ml_BS_159 : jj_ML "BeanServer" 159 yn_ST_isEmpty yb_ST_isEmpty 1 (some .boolean) 0 := ⟨Or.inl wd_737, wd_559, wd_4, by decide +kernel⟩
/-- BeanServerLaw #68: BeanServer.counter(IIII)I -/
theorem ml_LW_68 : jj_ML "BeanServerLaw" 68 yn_BS_counter yb_BS_counter 6 (some .int) 4 := ⟨Or.inl wd_738, wd_741, wd_1, by decide +kernel⟩
/-- BeanServer #167: BeanServer.numberForMonitorOf(I)I -/
theorem ml_BS_167 : jj_ML "BeanServer" 167 yn_BS_numberForMonitorOf yb_BS_numberForMonitorOf 3 (some .int) 1 := ⟨Or.inl wd_742, wd_745, wd_1, by decide +kernel⟩
/-- BeanServer #173: BeanServer$Counter.<init>(Ljava/lang/String;III)V -/
theorem ml_BS_173 : jj_ML "BeanServer" 173 yn_CT_init yb_CT_init 5 none 4 := ⟨Or.inl wd_748, wd_750, wd_21, by decide +kernel⟩
/-- BeanServer$Counter #3: BeanServer$Monitor.<init>(Ljava/lang/String;I)V -/
theorem ml_CT_3 : jj_ML "BeanServer$Counter" 3 yn_MN_init yb_MN_init 3 none 2 := ⟨Or.inl wd_751, wd_753, wd_20, by decide +kernel⟩
/-- BeanServerLaw #73: BeanServer.gauge(IIII)I -/
theorem ml_LW_73 : jj_ML "BeanServerLaw" 73 yn_BS_gauge yb_BS_gauge 6 (some .int) 4 := ⟨Or.inl wd_786, wd_789, wd_1, by decide +kernel⟩
/-- BeanServer #178: BeanServer$Gauge.<init>(Ljava/lang/String;III)V -/
theorem ml_BS_178 : jj_ML "BeanServer" 178 yn_GA_init yb_GA_init 5 none 4 := ⟨Or.inl wd_792, wd_794, wd_22, by decide +kernel⟩
/-- BeanServer$Gauge #3: BeanServer$Monitor.<init>(Ljava/lang/String;I)V -/
theorem ml_GA_3 : jj_ML "BeanServer$Gauge" 3 yn_MN_init yb_MN_init 3 none 2 := ⟨Or.inl wd_795, wd_753, wd_20, by decide +kernel⟩
/-- BeanServerLaw #77: BeanServer.cancel(I)Z -/
theorem ml_LW_77 : jj_ML "BeanServerLaw" 77 yn_BS_cancel yb_BS_cancel 2 (some .boolean) 1 := ⟨Or.inl wd_809, wd_812, wd_1, by decide +kernel⟩
/-- BeanServer #179: BeanServer.monitorAt(I)LBeanServer$Monitor; -/
theorem ml_BS_179 : jj_ML "BeanServer" 179 yn_BS_monitorAt yb_BS_monitorAt 2 (some (.object "BeanServer$Monitor")) 1 := ⟨Or.inl wd_813, wd_816, wd_1, by decide +kernel⟩
/-- BeanServerLaw #82: BeanServer.observe()I -/
theorem ml_LW_82 : jj_ML "BeanServerLaw" 82 yn_BS_observe yb_BS_observe 3 (some .int) 0 := ⟨Or.inl wd_817, wd_820, wd_1, by decide +kernel⟩
/-- BeanServer #186: BeanServer.letLook(LBeanServer$Monitor;I)V -/
theorem ml_BS_186 : jj_ML "BeanServer" 186 yn_BS_letLook yb_BS_letLook 6 none 2 := ⟨Or.inl wd_821, wd_824, wd_1, by decide +kernel⟩
/-- BeanServer$Counter #32: BeanServer$Counter.firstMarkAbove(I)J -/
theorem ml_CT_32 : jj_ML "BeanServer$Counter" 32 yn_CT_firstMarkAbove yb_CT_firstMarkAbove 4 (some .long) 1 := ⟨Or.inl wd_831, wd_834, wd_21, by decide +kernel⟩
/-- BeanServerLaw #86: BeanServer.mark(I)J -/
theorem ml_LW_86 : jj_ML "BeanServerLaw" 86 yn_BS_mark yb_BS_mark 3 (some .long) 1 := ⟨Or.inl wd_838, wd_841, wd_1, by decide +kernel⟩
/-- BeanServerLaw #91: BeanServer.listen(I)I -/
theorem ml_LW_91 : jj_ML "BeanServerLaw" 91 yn_BS_listen yb_BS_listen 2 (some .int) 1 := ⟨Or.inl wd_851, wd_854, wd_1, by decide +kernel⟩
/-- BeanServerLaw #95: BeanServer.notice(II)I -/
theorem ml_LW_95 : jj_ML "BeanServerLaw" 95 yn_BS_notice yb_BS_notice 3 (some .int) 2 := ⟨Or.inl wd_855, wd_858, wd_1, by decide +kernel⟩
/-- BeanServer #197: BeanServer$Log.told(II)I -/
theorem ml_BS_197 : jj_ML "BeanServer" 197 yn_LG_told yb_LG_told 4 (some .int) 2 := ⟨Or.inl wd_859, wd_862, wd_6, by decide +kernel⟩
/-- BeanServer$Log #43: java/lang/Math.floorMod(II)I -/
theorem ml_LG_43 : jj_ML "BeanServer$Log" 43 yn_MA_floorMod yb_MA_floorMod 3 (some .int) 2 := ⟨Or.inl wd_863, wd_865, wd_9, by decide +kernel⟩
/-- BeanServerLaw #12: BeanServerModel.<init>()V -/
theorem ml_LW_12 : jj_ML "BeanServerLaw" 12 yn_MO_init yb_MO_init 1 none 0 := ⟨Or.inl wd_868, wd_870, wd_7, by decide +kernel⟩
/-- BeanServerLaw #17: BeanServerModel.write(C)Z -/
theorem ml_LW_17 : jj_ML "BeanServerLaw" 17 yn_MO_write yb_MO_write 2 (some .boolean) 1 := ⟨Or.inl wd_962, wd_965, wd_7, by decide +kernel⟩
/-- BeanServerModel #87: BeanServerModel.put(IC)V -/
theorem ml_MO_87 : jj_ML "BeanServerModel" 87 yn_MO_put yb_MO_put 3 none 2 := ⟨Or.inl wd_966, wd_969, wd_7, by decide +kernel⟩
/-- BeanServerLaw #22: BeanServerModel.register()I -/
theorem ml_LW_22 : jj_ML "BeanServerLaw" 22 yn_MO_register yb_MO_register 3 (some .int) 0 := ⟨Or.inl wd_970, wd_973, wd_7, by decide +kernel⟩
/-- BeanServerModel #157: BeanServerModel.takeName()Z -/
theorem ml_MO_157 : jj_ML "BeanServerModel" 157 yn_MO_takeName yb_MO_takeName 1 (some .boolean) 0 := ⟨Or.inl wd_974, wd_977, wd_7, by decide +kernel⟩
/-- BeanServerModel #122: BeanServerModel.take()V -/
theorem ml_MO_122 : jj_ML "BeanServerModel" 122 yn_MO_take yb_MO_take 1 none 0 := ⟨Or.inl wd_978, wd_981, wd_7, by decide +kernel⟩
/-- BeanServerModel #91: BeanServerModel.copy(II)V -/
theorem ml_MO_91 : jj_ML "BeanServerModel" 91 yn_MO_copy yb_MO_copy 4 none 2 := ⟨Or.inl wd_982, wd_985, wd_7, by decide +kernel⟩
/-- BeanServerModel #83: BeanServerModel.get1(II)C -/
theorem ml_MO_83 : jj_ML "BeanServerModel" 83 yn_MO_get1 yb_MO_get1 3 (some .char) 2 := ⟨Or.inl wd_986, wd_989, wd_7, by decide +kernel⟩
/-- BeanServerModel #125: BeanServerModel.reads(IZ)Z -/
theorem ml_MO_125 : jj_ML "BeanServerModel" 125 yn_MO_reads yb_MO_reads 5 (some .boolean) 2 := ⟨Or.inl wd_990, wd_993, wd_7, by decide +kernel⟩
/-- BeanServerModel #110: BeanServerModel.colon(I)I -/
theorem ml_MO_110 : jj_ML "BeanServerModel" 110 yn_MO_colon yb_MO_colon 3 (some .int) 1 := ⟨Or.inl wd_994, wd_997, wd_7, by decide +kernel⟩
/-- BeanServerModel #106: BeanServerModel.allowed(CZ)Z -/
theorem ml_MO_106 : jj_ML "BeanServerModel" 106 yn_MO_allowed yb_MO_allowed 2 (some .boolean) 2 := ⟨Or.inl wd_998, wd_1000, wd_7, by decide +kernel⟩
/-- BeanServerModel #95: BeanServerModel.isSmall(C)Z -/
theorem ml_MO_95 : jj_ML "BeanServerModel" 95 yn_MO_isSmall yb_MO_isSmall 1 (some .boolean) 1 := ⟨Or.inl wd_1001, wd_1003, wd_7, by decide +kernel⟩
/-- BeanServerModel #99: BeanServerModel.isDigit(C)Z -/
theorem ml_MO_99 : jj_ML "BeanServerModel" 99 yn_MO_isDigit yb_MO_isDigit 1 (some .boolean) 1 := ⟨Or.inl wd_1004, wd_1006, wd_7, by decide +kernel⟩
/-- BeanServerModel #114: BeanServerModel.list(IIZ)Z -/
theorem ml_MO_114 : jj_ML "BeanServerModel" 114 yn_MO_list yb_MO_list 9 (some .boolean) 3 := ⟨Or.inl wd_1007, wd_1010, wd_7, by decide +kernel⟩
/-- BeanServerModel #129: BeanServerModel.order()V -/
theorem ml_MO_129 : jj_ML "BeanServerModel" 129 yn_MO_order yb_MO_order 4 none 0 := ⟨Or.inl wd_1011, wd_1014, wd_7, by decide +kernel⟩
/-- BeanServerModel #118: BeanServerModel.copyProperty(III)V -/
theorem ml_MO_118 : jj_ML "BeanServerModel" 118 yn_MO_copyProperty yb_MO_copyProperty 5 none 3 := ⟨Or.inl wd_1015, wd_1018, wd_7, by decide +kernel⟩
/-- BeanServerModel #161: BeanServerModel.beanWith(I)I -/
theorem ml_MO_161 : jj_ML "BeanServerModel" 161 yn_MO_beanWith yb_MO_beanWith 3 (some .int) 1 := ⟨Or.inl wd_1019, wd_1022, wd_7, by decide +kernel⟩
/-- BeanServerModel #132: BeanServerModel.same(II)Z -/
theorem ml_MO_132 : jj_ML "BeanServerModel" 132 yn_MO_same yb_MO_same 5 (some .boolean) 2 := ⟨Or.inl wd_1023, wd_1026, wd_7, by decide +kernel⟩
/-- BeanServerModel #164: BeanServerModel.give(III)V -/
theorem ml_MO_164 : jj_ML "BeanServerModel" 164 yn_MO_give yb_MO_give 5 none 3 := ⟨Or.inl wd_1027, wd_1030, wd_7, by decide +kernel⟩
/-- BeanServerLaw #26: BeanServerModel.unregister()I -/
theorem ml_LW_26 : jj_ML "BeanServerLaw" 26 yn_MO_unregister yb_MO_unregister 2 (some .int) 0 := ⟨Or.inl wd_1031, wd_1034, wd_7, by decide +kernel⟩
/-- BeanServerModel #167: BeanServerModel.find()I -/
theorem ml_MO_167 : jj_ML "BeanServerModel" 167 yn_MO_find yb_MO_find 2 (some .int) 0 := ⟨Or.inl wd_1035, wd_1038, wd_7, by decide +kernel⟩
/-- BeanServerLaw #30: BeanServerModel.find()I -/
theorem ml_LW_30 : jj_ML "BeanServerLaw" 30 yn_MO_find yb_MO_find 2 (some .int) 0 := ⟨Or.inl wd_1039, wd_1038, wd_7, by decide +kernel⟩
/-- BeanServerLaw #35: BeanServerModel.set(III)Z -/
theorem ml_LW_35 : jj_ML "BeanServerLaw" 35 yn_MO_set yb_MO_set 4 (some .boolean) 3 := ⟨Or.inl wd_1040, wd_1043, wd_7, by decide +kernel⟩
/-- BeanServerModel #175: BeanServerModel.isSlot(II)Z -/
theorem ml_MO_175 : jj_ML "BeanServerModel" 175 yn_MO_isSlot yb_MO_isSlot 3 (some .boolean) 2 := ⟨Or.inl wd_1044, wd_1047, wd_7, by decide +kernel⟩
/-- BeanServerModel #171: BeanServerModel.isBean(I)Z -/
theorem ml_MO_171 : jj_ML "BeanServerModel" 171 yn_MO_isBean yb_MO_isBean 2 (some .boolean) 1 := ⟨Or.inl wd_1048, wd_1051, wd_7, by decide +kernel⟩
/-- BeanServerLaw #40: BeanServerModel.unset(II)Z -/
theorem ml_LW_40 : jj_ML "BeanServerLaw" 40 yn_MO_unset yb_MO_unset 4 (some .boolean) 2 := ⟨Or.inl wd_1052, wd_1055, wd_7, by decide +kernel⟩
/-- BeanServerLaw #45: BeanServerModel.get(II)I -/
theorem ml_LW_45 : jj_ML "BeanServerLaw" 45 yn_MO_get yb_MO_get 3 (some .int) 2 := ⟨Or.inl wd_1056, wd_1059, wd_7, by decide +kernel⟩
/-- BeanServerLaw #49: BeanServerModel.define()I -/
theorem ml_LW_49 : jj_ML "BeanServerLaw" 49 yn_MO_define yb_MO_define 3 (some .int) 0 := ⟨Or.inl wd_1060, wd_1063, wd_7, by decide +kernel⟩
/-- BeanServerModel #210: BeanServerModel.isQuery()Z -/
theorem ml_MO_210 : jj_ML "BeanServerModel" 210 yn_MO_isQuery yb_MO_isQuery 5 (some .boolean) 0 := ⟨Or.inl wd_1064, wd_1067, wd_7, by decide +kernel⟩
/-- BeanServerModel #190: BeanServerModel.comparisonEnd(I)I -/
theorem ml_MO_190 : jj_ML "BeanServerModel" 190 yn_MO_comparisonEnd yb_MO_comparisonEnd 3 (some .int) 1 := ⟨Or.inl wd_1068, wd_1071, wd_7, by decide +kernel⟩
/-- BeanServerModel #184: BeanServerModel.valueEnd(I)I -/
theorem ml_MO_184 : jj_ML "BeanServerModel" 184 yn_MO_valueEnd yb_MO_valueEnd 3 (some .int) 1 := ⟨Or.inl wd_1072, wd_1075, wd_7, by decide +kernel⟩
/-- BeanServerModel #178: BeanServerModel.unit(I)I -/
theorem ml_MO_178 : jj_ML "BeanServerModel" 178 yn_MO_unit yb_MO_unit 4 (some .int) 1 := ⟨Or.inl wd_1076, wd_1079, wd_7, by decide +kernel⟩
/-- BeanServerModel #181: BeanServerModel.isOperator(C)Z -/
theorem ml_MO_181 : jj_ML "BeanServerModel" 181 yn_MO_isOperator yb_MO_isOperator 1 (some .boolean) 1 := ⟨Or.inl wd_1080, wd_1082, wd_7, by decide +kernel⟩
/-- BeanServerModel #187: BeanServerModel.isRelation(C)Z -/
theorem ml_MO_187 : jj_ML "BeanServerModel" 187 yn_MO_isRelation yb_MO_isRelation 1 (some .boolean) 1 := ⟨Or.inl wd_1083, wd_1085, wd_7, by decide +kernel⟩
/-- BeanServerModel #213: BeanServerModel.shorten()V -/
theorem ml_MO_213 : jj_ML "BeanServerModel" 213 yn_MO_shorten yb_MO_shorten 5 none 0 := ⟨Or.inl wd_1086, wd_1089, wd_7, by decide +kernel⟩
/-- BeanServerModel #203: BeanServerModel.last()C -/
theorem ml_MO_203 : jj_ML "BeanServerModel" 203 yn_MO_last yb_MO_last 1 (some .char) 0 := ⟨Or.inl wd_1090, wd_1093, wd_7, by decide +kernel⟩
/-- BeanServerModel #207: BeanServerModel.needed(I)Z -/
theorem ml_MO_207 : jj_ML "BeanServerModel" 207 yn_MO_needed yb_MO_needed 7 (some .boolean) 1 := ⟨Or.inl wd_1094, wd_1097, wd_7, by decide +kernel⟩
/-- BeanServerModel #193: BeanServerModel.partner(I)I -/
theorem ml_MO_193 : jj_ML "BeanServerModel" 193 yn_MO_partner yb_MO_partner 7 (some .int) 1 := ⟨Or.inl wd_1098, wd_1101, wd_7, by decide +kernel⟩
/-- BeanServerModel #196: BeanServerModel.contains(IIC)Z -/
theorem ml_MO_196 : jj_ML "BeanServerModel" 196 yn_MO_contains yb_MO_contains 8 (some .boolean) 3 := ⟨Or.inl wd_1102, wd_1105, wd_7, by decide +kernel⟩
/-- BeanServerModel #200: BeanServerModel.amongSeveral(II)Z -/
theorem ml_MO_200 : jj_ML "BeanServerModel" 200 yn_MO_amongSeveral yb_MO_amongSeveral 4 (some .boolean) 2 := ⟨Or.inl wd_1106, wd_1109, wd_7, by decide +kernel⟩
/-- BeanServerLaw #53: BeanServerModel.check(II)I -/
theorem ml_LW_53 : jj_ML "BeanServerLaw" 53 yn_MO_check yb_MO_check 3 (some .int) 2 := ⟨Or.inl wd_1110, wd_1113, wd_7, by decide +kernel⟩
/-- BeanServerModel #244: BeanServerModel.isAsked(I)Z -/
theorem ml_MO_244 : jj_ML "BeanServerModel" 244 yn_MO_isAsked yb_MO_isAsked 2 (some .boolean) 1 := ⟨Or.inl wd_1114, wd_1117, wd_7, by decide +kernel⟩
/-- BeanServerModel #247: BeanServerModel.truth(II)I -/
theorem ml_MO_247 : jj_ML "BeanServerModel" 247 yn_MO_truth yb_MO_truth 8 (some .int) 2 := ⟨Or.inl wd_1118, wd_1121, wd_7, by decide +kernel⟩
/-- BeanServerModel #231: BeanServerModel.enter(IZ)V -/
theorem ml_MO_231 : jj_ML "BeanServerModel" 231 yn_MO_enter yb_MO_enter 3 none 2 := ⟨Or.inl wd_1122, wd_1125, wd_7, by decide +kernel⟩
/-- BeanServerModel #235: BeanServerModel.looked(I)Z -/
theorem ml_MO_235 : jj_ML "BeanServerModel" 235 yn_MO_looked yb_MO_looked 2 (some .boolean) 1 := ⟨Or.inl wd_1126, wd_1129, wd_7, by decide +kernel⟩
/-- BeanServerModel #238: BeanServerModel.settle(IZ)V -/
theorem ml_MO_238 : jj_ML "BeanServerModel" 238 yn_MO_settle yb_MO_settle 3 none 2 := ⟨Or.inl wd_1130, wd_1133, wd_7, by decide +kernel⟩
/-- BeanServerModel #241: BeanServerModel.comparison(II)Z -/
theorem ml_MO_241 : jj_ML "BeanServerModel" 241 yn_MO_comparison yb_MO_comparison 6 (some .boolean) 2 := ⟨Or.inl wd_1134, wd_1137, wd_7, by decide +kernel⟩
/-- BeanServerModel #228: BeanServerModel.value(II)I -/
theorem ml_MO_228 : jj_ML "BeanServerModel" 228 yn_MO_value yb_MO_value 8 (some .int) 2 := ⟨Or.inl wd_1138, wd_1141, wd_7, by decide +kernel⟩
/-- BeanServerModel #225: BeanServerModel.unitValue(II)I -/
theorem ml_MO_225 : jj_ML "BeanServerModel" 225 yn_MO_unitValue yb_MO_unitValue 5 (some .int) 2 := ⟨Or.inl wd_1142, wd_1145, wd_7, by decide +kernel⟩
/-- BeanServerModel #222: BeanServerModel.get(II)I -/
theorem ml_MO_222 : jj_ML "BeanServerModel" 222 yn_MO_get yb_MO_get 3 (some .int) 2 := ⟨Or.inl wd_1146, wd_1059, wd_7, by decide +kernel⟩
/-- BeanServerLaw #58: BeanServerModel.select(I)I -/
theorem ml_LW_58 : jj_ML "BeanServerLaw" 58 yn_MO_select yb_MO_select 3 (some .int) 1 := ⟨Or.inl wd_1147, wd_1150, wd_7, by decide +kernel⟩
/-- BeanServerModel #253: BeanServerModel.fits(I)Z -/
theorem ml_MO_253 : jj_ML "BeanServerModel" 253 yn_MO_fits yb_MO_fits 5 (some .boolean) 1 := ⟨Or.inl wd_1151, wd_1154, wd_7, by decide +kernel⟩
/-- BeanServerModel #143: BeanServerModel.matches(IIII)Z -/
theorem ml_MO_143 : jj_ML "BeanServerModel" 143 yn_MO_matches yb_MO_matches 11 (some .boolean) 4 := ⟨Or.inl wd_1155, wd_1158, wd_7, by decide +kernel⟩
/-- BeanServerModel #136: BeanServerModel.isPart(C)Z -/
theorem ml_MO_136 : jj_ML "BeanServerModel" 136 yn_MO_isPart yb_MO_isPart 1 (some .boolean) 1 := ⟨Or.inl wd_1159, wd_1161, wd_7, by decide +kernel⟩
/-- BeanServerModel #139: BeanServerModel.spread(IIII)I -/
theorem ml_MO_139 : jj_ML "BeanServerModel" 139 yn_MO_spread yb_MO_spread 7 (some .int) 4 := ⟨Or.inl wd_1162, wd_1165, wd_7, by decide +kernel⟩
/-- BeanServerModel #147: BeanServerModel.property(II)I -/
theorem ml_MO_147 : jj_ML "BeanServerModel" 147 yn_MO_property yb_MO_property 6 (some .int) 2 := ⟨Or.inl wd_1166, wd_1169, wd_7, by decide +kernel⟩
/-- BeanServerLaw #62: BeanServerModel.selected(I)I -/
theorem ml_LW_62 : jj_ML "BeanServerLaw" 62 yn_MO_selected yb_MO_selected 2 (some .int) 1 := ⟨Or.inl wd_1170, wd_1173, wd_7, by decide +kernel⟩
/-- BeanServerLaw #67: BeanServerModel.form(III)I -/
theorem ml_LW_67 : jj_ML "BeanServerLaw" 67 yn_MO_form yb_MO_form 5 (some .int) 3 := ⟨Or.inl wd_1174, wd_1177, wd_7, by decide +kernel⟩
/-- BeanServerLaw #72: BeanServerModel.counter(IIII)I -/
theorem ml_LW_72 : jj_ML "BeanServerLaw" 72 yn_MO_counter yb_MO_counter 5 (some .int) 4 := ⟨Or.inl wd_1178, wd_1181, wd_7, by decide +kernel⟩
/-- BeanServerModel #256: BeanServerModel.watch(IIIII)I -/
theorem ml_MO_256 : jj_ML "BeanServerModel" 256 yn_MO_watch yb_MO_watch 7 (some .int) 5 := ⟨Or.inl wd_1182, wd_1185, wd_7, by decide +kernel⟩
/-- BeanServerLaw #76: BeanServerModel.gauge(IIII)I -/
theorem ml_LW_76 : jj_ML "BeanServerLaw" 76 yn_MO_gauge yb_MO_gauge 5 (some .int) 4 := ⟨Or.inl wd_1186, wd_1189, wd_7, by decide +kernel⟩
/-- BeanServerLaw #81: BeanServerModel.cancel(I)Z -/
theorem ml_LW_81 : jj_ML "BeanServerLaw" 81 yn_MO_cancel yb_MO_cancel 2 (some .boolean) 1 := ⟨Or.inl wd_1190, wd_1193, wd_7, by decide +kernel⟩
/-- BeanServerModel #260: BeanServerModel.isMonitor(I)Z -/
theorem ml_MO_260 : jj_ML "BeanServerModel" 260 yn_MO_isMonitor yb_MO_isMonitor 2 (some .boolean) 1 := ⟨Or.inl wd_1194, wd_1197, wd_7, by decide +kernel⟩
/-- BeanServerLaw #85: BeanServerModel.observe()I -/
theorem ml_LW_85 : jj_ML "BeanServerLaw" 85 yn_MO_observe yb_MO_observe 3 (some .int) 0 := ⟨Or.inl wd_1198, wd_1201, wd_7, by decide +kernel⟩
/-- BeanServerModel #271: BeanServerModel.observe1(I)V -/
theorem ml_MO_271 : jj_ML "BeanServerModel" 271 yn_MO_observe1 yb_MO_observe1 5 none 1 := ⟨Or.inl wd_1202, wd_1205, wd_7, by decide +kernel⟩
/-- BeanServerModel #265: BeanServerModel.count(II)V -/
theorem ml_MO_265 : jj_ML "BeanServerModel" 265 yn_MO_count yb_MO_count 5 none 2 := ⟨Or.inl wd_1206, wd_1209, wd_7, by decide +kernel⟩
/-- BeanServerModel #268: BeanServerModel.gaugeOf(II)V -/
theorem ml_MO_268 : jj_ML "BeanServerModel" 268 yn_MO_gaugeOf yb_MO_gaugeOf 3 none 2 := ⟨Or.inl wd_1210, wd_1213, wd_7, by decide +kernel⟩
/-- BeanServerLaw #90: BeanServerModel.mark(I)J -/
theorem ml_LW_90 : jj_ML "BeanServerLaw" 90 yn_MO_mark yb_MO_mark 2 (some .long) 1 := ⟨Or.inl wd_1215, wd_1218, wd_7, by decide +kernel⟩
/-- BeanServerLaw #94: BeanServerModel.listen(I)I -/
theorem ml_LW_94 : jj_ML "BeanServerLaw" 94 yn_MO_listen yb_MO_listen 2 (some .int) 1 := ⟨Or.inl wd_1219, wd_1222, wd_7, by decide +kernel⟩
/-- BeanServerLaw #98: BeanServerModel.notice(II)I -/
theorem ml_LW_98 : jj_ML "BeanServerLaw" 98 yn_MO_notice yb_MO_notice 3 (some .int) 2 := ⟨Or.inl wd_1223, wd_1226, wd_7, by decide +kernel⟩
theorem ms_SB_343 : jj_MS "java/lang/StringBuilder" 343 yn_AS_length yb_AS_length 1 (some .int) 0 := ⟨wd_141, wd_1227, wd_62, wd_142, wd_2, wd_143, by decide +kernel⟩
theorem ms_SB_50 : jj_MS "java/lang/StringBuilder" 50 yn_AS_append yb_AS_append 2 (some (.object "java/lang/AbstractStringBuilder")) 1 := ⟨wd_148, wd_1228, wd_62, wd_149, wd_2, wd_150, by decide +kernel⟩
theorem ms_SB_333 : jj_MS "java/lang/StringBuilder" 333 yn_AS_setLength yb_AS_setLength 2 none 1 := ⟨wd_309, wd_1233, wd_62, wd_310, wd_2, wd_311, by decide +kernel⟩
theorem ms_SB_329 : jj_MS "java/lang/StringBuilder" 329 yn_AS_charAt yb_AS_charAt 5 (some .char) 1 := ⟨wd_664, wd_1234, wd_62, wd_665, wd_2, wd_666, by decide +kernel⟩
theorem ms_SB_72 : jj_MS "java/lang/StringBuilder" 72 yn_AS_deleteCharAt yb_AS_deleteCharAt 2 (some (.object "java/lang/AbstractStringBuilder")) 1 := ⟨wd_681, wd_1235, wd_62, wd_682, wd_2, wd_683, by decide +kernel⟩
theorem nw_LW_7 : jj_NW "BeanServerLaw" 7 0 9 [.null, .null, .null, .int 0, .null, .null, .null, .int 0, .null] := ⟨_, _, _, cl_BS, wd_23, wd_24, wd_1, by decide +kernel⟩
theorem nw_BS_7 : jj_NW "BeanServer" 7 11 4 [.null, .int 0, .int 0, .int 0] := ⟨_, _, _, cl_SB, wd_31, wd_32, wd_3, by decide +kernel⟩
theorem nw_BS_16 : jj_NW "BeanServer" 16 1 3 [.null, .null, .null] := ⟨_, _, _, cl_BE, wd_64, wd_488, wd_16, by decide +kernel⟩
theorem nw_BS_22 : jj_NW "BeanServer" 22 4 1 [.null] := ⟨_, _, _, cl_QU, wd_66, wd_618, wd_18, by decide +kernel⟩
theorem nw_BS_38 : jj_NW "BeanServer" 38 2 8 [.null, .null, .null, .null, .int 0, .int 0, .int 0, .int 0] := ⟨_, _, _, cl_LG, wd_70, wd_71, wd_6, by decide +kernel⟩
theorem nw_SB_18 : jj_NW "java/lang/StringBuilder" 18 10 4 [.null, .int 0, .int 0, .int 0] := ⟨_, _, _, cl_ST, wd_255, wd_256, wd_4, by decide +kernel⟩
theorem nw_BS_71 : jj_NW "BeanServer" 71 3 6 [.null, .null, .null, .int 0, .int 0, .null] := ⟨_, _, _, cl_PT, wd_328, wd_329, wd_14, by decide +kernel⟩
theorem nw_PT_71 : jj_NW "BeanServer$Pattern" 71 11 4 [.null, .int 0, .int 0, .int 0] := ⟨_, _, _, cl_SB, wd_401, wd_32, wd_3, by decide +kernel⟩
theorem nw_ST_10 : jj_NW "java/lang/String" 10 10 4 [.null, .int 0, .int 0, .int 0] := ⟨_, _, _, cl_ST, wd_480, wd_256, wd_4, by decide +kernel⟩
theorem nw_BS_111 : jj_NW "BeanServer" 111 5 6 [.null, .null, .int 0, .int 0, .int 0, .int 0] := ⟨_, _, _, cl_QR, wd_550, wd_551, wd_17, by decide +kernel⟩
theorem nw_BS_129 : jj_NW "BeanServer" 129 6 4 [.null, .null, .null, .int 0] := ⟨_, _, _, cl_QF, wd_619, wd_620, wd_19, by decide +kernel⟩
theorem nw_QF_9 : jj_NW "BeanServer$QueryForm" 9 11 4 [.null, .int 0, .int 0, .int 0] := ⟨_, _, _, cl_SB, wd_625, wd_32, wd_3, by decide +kernel⟩
theorem nw_BS_171 : jj_NW "BeanServer" 171 7 9 [.int 0, .int 0, .long 0, .int 0, .int 0, .int 0, .null, .int 0, .int 0] := ⟨_, _, _, cl_CT, wd_746, wd_747, wd_21, by decide +kernel⟩
theorem nw_BS_176 : jj_NW "BeanServer" 176 8 6 [.int 0, .int 0, .int 0, .null, .int 0, .int 0] := ⟨_, _, _, cl_GA, wd_790, wd_791, wd_22, by decide +kernel⟩
theorem nw_LW_10 : jj_NW "BeanServerLaw" 10 9 29 [.null, .null, .null, .null, .null, .null, .null, .null, .null, .null, .null, .null, .null, .null, .null, .int 0, .int 0, .int 0, .null, .int 0, .null, .null, .int 0, .null, .null, .null, .null, .int 0, .int 0] := ⟨_, _, _, cl_MO, wd_866, wd_867, wd_7, by decide +kernel⟩
theorem se_BS_BS_write : jj_SEL "BeanServer" yn_BS_write := fun _ _ h => h _ wd_135
theorem se_SB_SB_length : jj_SEL "java/lang/StringBuilder" yn_SB_length := fun _ _ h => h _ wd_139
theorem se_SB_SB_append : jj_SEL "java/lang/StringBuilder" yn_SB_append := fun _ _ h => h _ wd_146
theorem se_SB_AS_isLatin1 : jj_SEL "java/lang/StringBuilder" yn_AS_isLatin1 := fun _ _ h => h _ wd_189
theorem se_BS_BS_register : jj_SEL "BeanServer" yn_BS_register := fun _ _ h => h _ wd_241
theorem se_SB_SB_toString : jj_SEL "java/lang/StringBuilder" yn_SB_toString := fun _ _ h => h _ wd_253
theorem se_SB_AS_getValue : jj_SEL "java/lang/StringBuilder" yn_AS_getValue := fun _ _ h => h _ wd_267
theorem se_SB_SB_setLength : jj_SEL "java/lang/StringBuilder" yn_SB_setLength := fun _ _ h => h _ wd_307
theorem se_PT_PT_parse : jj_SEL "BeanServer$Pattern" yn_PT_parse := fun _ _ h => h _ wd_357
theorem se_ST_ST_length : jj_SEL "java/lang/String" yn_ST_length := fun _ _ h => h _ wd_365
theorem se_ST_ST_coder : jj_SEL "java/lang/String" yn_ST_coder := fun _ _ h => h _ wd_369
theorem se_ST_ST_charAt : jj_SEL "java/lang/String" yn_ST_charAt := fun _ _ h => h _ wd_373
theorem se_ST_ST_isLatin1 : jj_SEL "java/lang/String" yn_ST_isLatin1 := fun _ _ h => h _ wd_377
theorem se_PT_PT_isName : jj_SEL "BeanServer$Pattern" yn_PT_isName := fun _ _ h => h _ wd_415
theorem se_ST_ST_indexOf1 : jj_SEL "java/lang/String" yn_ST_indexOf1 := fun _ _ h => h _ wd_419
theorem se_ST_ST_indexOf2 : jj_SEL "java/lang/String" yn_ST_indexOf2 := fun _ _ h => h _ wd_423
theorem se_ST_ST_equals : jj_SEL "java/lang/String" yn_ST_equals := fun _ _ h => h _ wd_478
theorem se_LG_LG_give : jj_SEL "BeanServer$Log" yn_LG_give := fun _ _ h => h _ wd_511
theorem se_BS_BS_unregister : jj_SEL "BeanServer" yn_BS_unregister := fun _ _ h => h _ wd_516
theorem se_BS_BS_find : jj_SEL "BeanServer" yn_BS_find := fun _ _ h => h _ wd_520
theorem se_BS_BS_set : jj_SEL "BeanServer" yn_BS_set := fun _ _ h => h _ wd_524
theorem se_BS_BS_unset : jj_SEL "BeanServer" yn_BS_unset := fun _ _ h => h _ wd_535
theorem se_BS_BS_get : jj_SEL "BeanServer" yn_BS_get := fun _ _ h => h _ wd_539
theorem se_BS_BS_define : jj_SEL "BeanServer" yn_BS_define := fun _ _ h => h _ wd_543
theorem se_ST_ST_isEmpty : jj_SEL "java/lang/String" yn_ST_isEmpty := fun _ _ h => h _ wd_558
theorem se_QR_QR_any : jj_SEL "BeanServer$QueryReader" yn_QR_any := fun _ _ h => h _ wd_584
theorem se_QF_QF_written : jj_SEL "BeanServer$QueryForm" yn_QF_written := fun _ _ h => h _ wd_642
theorem se_SB_SB_charAt : jj_SEL "java/lang/StringBuilder" yn_SB_charAt := fun _ _ h => h _ wd_662
theorem se_SB_SB_deleteCharAt : jj_SEL "java/lang/StringBuilder" yn_SB_deleteCharAt := fun _ _ h => h _ wd_679
theorem se_BS_BS_check : jj_SEL "BeanServer" yn_BS_check := fun _ _ h => h _ wd_704
theorem se_BS_BS_select : jj_SEL "BeanServer" yn_BS_select := fun _ _ h => h _ wd_712
theorem se_PT_PT_fits : jj_SEL "BeanServer$Pattern" yn_PT_fits := fun _ _ h => h _ wd_716
theorem se_BS_BS_selected : jj_SEL "BeanServer" yn_BS_selected := fun _ _ h => h _ wd_727
theorem se_BS_BS_form : jj_SEL "BeanServer" yn_BS_form := fun _ _ h => h _ wd_731
theorem se_BS_BS_counter : jj_SEL "BeanServer" yn_BS_counter := fun _ _ h => h _ wd_740
theorem se_BS_BS_gauge : jj_SEL "BeanServer" yn_BS_gauge := fun _ _ h => h _ wd_788
theorem se_BS_BS_cancel : jj_SEL "BeanServer" yn_BS_cancel := fun _ _ h => h _ wd_811
theorem se_BS_BS_observe : jj_SEL "BeanServer" yn_BS_observe := fun _ _ h => h _ wd_819
theorem se_BS_BS_mark : jj_SEL "BeanServer" yn_BS_mark := fun _ _ h => h _ wd_840
theorem se_BS_BS_listen : jj_SEL "BeanServer" yn_BS_listen := fun _ _ h => h _ wd_853
theorem se_BS_BS_notice : jj_SEL "BeanServer" yn_BS_notice := fun _ _ h => h _ wd_857
theorem se_LG_LG_told : jj_SEL "BeanServer$Log" yn_LG_told := fun _ _ h => h _ wd_861
theorem se_MO_MO_write : jj_SEL "BeanServerModel" yn_MO_write := fun _ _ h => h _ wd_964
theorem se_MO_MO_register : jj_SEL "BeanServerModel" yn_MO_register := fun _ _ h => h _ wd_972
theorem se_MO_MO_unregister : jj_SEL "BeanServerModel" yn_MO_unregister := fun _ _ h => h _ wd_1033
theorem se_MO_MO_find : jj_SEL "BeanServerModel" yn_MO_find := fun _ _ h => h _ wd_1037
theorem se_MO_MO_set : jj_SEL "BeanServerModel" yn_MO_set := fun _ _ h => h _ wd_1042
theorem se_MO_MO_unset : jj_SEL "BeanServerModel" yn_MO_unset := fun _ _ h => h _ wd_1054
theorem se_MO_MO_get : jj_SEL "BeanServerModel" yn_MO_get := fun _ _ h => h _ wd_1058
theorem se_MO_MO_define : jj_SEL "BeanServerModel" yn_MO_define := fun _ _ h => h _ wd_1062
theorem se_MO_MO_check : jj_SEL "BeanServerModel" yn_MO_check := fun _ _ h => h _ wd_1112
theorem se_MO_MO_select : jj_SEL "BeanServerModel" yn_MO_select := fun _ _ h => h _ wd_1149
theorem se_MO_MO_selected : jj_SEL "BeanServerModel" yn_MO_selected := fun _ _ h => h _ wd_1172
theorem se_MO_MO_form : jj_SEL "BeanServerModel" yn_MO_form := fun _ _ h => h _ wd_1176
theorem se_MO_MO_counter : jj_SEL "BeanServerModel" yn_MO_counter := fun _ _ h => h _ wd_1180
theorem se_MO_MO_gauge : jj_SEL "BeanServerModel" yn_MO_gauge := fun _ _ h => h _ wd_1188
theorem se_MO_MO_cancel : jj_SEL "BeanServerModel" yn_MO_cancel := fun _ _ h => h _ wd_1192
theorem se_MO_MO_observe : jj_SEL "BeanServerModel" yn_MO_observe := fun _ _ h => h _ wd_1200
theorem se_MO_MO_mark : jj_SEL "BeanServerModel" yn_MO_mark := fun _ _ h => h _ wd_1217
theorem se_MO_MO_listen : jj_SEL "BeanServerModel" yn_MO_listen := fun _ _ h => h _ wd_1221
theorem se_MO_MO_notice : jj_SEL "BeanServerModel" yn_MO_notice := fun _ _ h => h _ wd_1225
theorem se_BS_BS_takenName : jj_SEL "BeanServer" yn_BS_takenName := fun _ _ h => h _ wp_0
theorem se_BS_BS_taken : jj_SEL "BeanServer" yn_BS_taken := fun _ _ h => h _ wp_1
theorem se_PT_PT_rowEnd : jj_SEL "BeanServer$Pattern" yn_PT_rowEnd := fun _ _ h => h _ wp_2
theorem se_PT_PT_parseList : jj_SEL "BeanServer$Pattern" yn_PT_parseList := fun _ _ h => h _ wp_3
theorem se_PT_PT_parseProperty : jj_SEL "BeanServer$Pattern" yn_PT_parseProperty := fun _ _ h => h _ wp_4
theorem se_PT_PT_ordered : jj_SEL "BeanServer$Pattern" yn_PT_ordered := fun _ _ h => h _ wp_5
theorem se_PT_PT_copy : jj_SEL "BeanServer$Pattern" yn_PT_copy := fun _ _ h => h _ wp_6
theorem se_BS_BS_beanNamed : jj_SEL "BeanServer" yn_BS_beanNamed := fun _ _ h => h _ wp_7
theorem se_BS_BS_freeBean : jj_SEL "BeanServer" yn_BS_freeBean := fun _ _ h => h _ wp_8
theorem se_BS_BS_beanAt : jj_SEL "BeanServer" yn_BS_beanAt := fun _ _ h => h _ wp_9
theorem se_QR_QR_all : jj_SEL "BeanServer$QueryReader" yn_QR_all := fun _ _ h => h _ wp_10
theorem se_QR_QR_one : jj_SEL "BeanServer$QueryReader" yn_QR_one := fun _ _ h => h _ wp_11
theorem se_QR_QR_step : jj_SEL "BeanServer$QueryReader" yn_QR_step := fun _ _ h => h _ wp_12
theorem se_QR_QR_sum : jj_SEL "BeanServer$QueryReader" yn_QR_sum := fun _ _ h => h _ wp_13
theorem se_QR_QR_product : jj_SEL "BeanServer$QueryReader" yn_QR_product := fun _ _ h => h _ wp_14
theorem se_QR_QR_unit : jj_SEL "BeanServer$QueryReader" yn_QR_unit := fun _ _ h => h _ wp_15
theorem se_QF_QF_openParenthesis : jj_SEL "BeanServer$QueryForm" yn_QF_openParenthesis := fun _ _ h => h _ wp_16
theorem se_QF_QF_closeParenthesis : jj_SEL "BeanServer$QueryForm" yn_QF_closeParenthesis := fun _ _ h => h _ wp_17
theorem se_QF_QF_lastBefore : jj_SEL "BeanServer$QueryForm" yn_QF_lastBefore := fun _ _ h => h _ wp_18
theorem se_QF_QF_jointFrom : jj_SEL "BeanServer$QueryForm" yn_QF_jointFrom := fun _ _ h => h _ wp_19
theorem se_BS_BS_queryAt : jj_SEL "BeanServer" yn_BS_queryAt := fun _ _ h => h _ wp_20
theorem se_PT_PT_standsFor : jj_SEL "BeanServer$Pattern" yn_PT_standsFor := fun _ _ h => h _ wp_21
theorem se_BS_BS_shownForm : jj_SEL "BeanServer" yn_BS_shownForm := fun _ _ h => h _ wp_22
theorem se_BS_BS_numberForMonitorOf : jj_SEL "BeanServer" yn_BS_numberForMonitorOf := fun _ _ h => h _ wp_23
theorem se_BS_BS_monitorAt : jj_SEL "BeanServer" yn_BS_monitorAt := fun _ _ h => h _ wp_24
theorem se_BS_BS_letLook : jj_SEL "BeanServer" yn_BS_letLook := fun _ _ h => h _ wp_25
theorem se_CT_CT_firstMarkAbove : jj_SEL "BeanServer$Counter" yn_CT_firstMarkAbove := fun _ _ h => h _ wp_26
theorem se_MO_MO_put : jj_SEL "BeanServerModel" yn_MO_put := fun _ _ h => h _ wp_27
theorem se_MO_MO_takeName : jj_SEL "BeanServerModel" yn_MO_takeName := fun _ _ h => h _ wp_28
theorem se_MO_MO_take : jj_SEL "BeanServerModel" yn_MO_take := fun _ _ h => h _ wp_29
theorem se_MO_MO_copy : jj_SEL "BeanServerModel" yn_MO_copy := fun _ _ h => h _ wp_30
theorem se_MO_MO_get1 : jj_SEL "BeanServerModel" yn_MO_get1 := fun _ _ h => h _ wp_31
theorem se_MO_MO_reads : jj_SEL "BeanServerModel" yn_MO_reads := fun _ _ h => h _ wp_32
theorem se_MO_MO_colon : jj_SEL "BeanServerModel" yn_MO_colon := fun _ _ h => h _ wp_33
theorem se_MO_MO_list : jj_SEL "BeanServerModel" yn_MO_list := fun _ _ h => h _ wp_34
theorem se_MO_MO_order : jj_SEL "BeanServerModel" yn_MO_order := fun _ _ h => h _ wp_35
theorem se_MO_MO_copyProperty : jj_SEL "BeanServerModel" yn_MO_copyProperty := fun _ _ h => h _ wp_36
theorem se_MO_MO_beanWith : jj_SEL "BeanServerModel" yn_MO_beanWith := fun _ _ h => h _ wp_37
theorem se_MO_MO_same : jj_SEL "BeanServerModel" yn_MO_same := fun _ _ h => h _ wp_38
theorem se_MO_MO_give : jj_SEL "BeanServerModel" yn_MO_give := fun _ _ h => h _ wp_39
theorem se_MO_MO_isSlot : jj_SEL "BeanServerModel" yn_MO_isSlot := fun _ _ h => h _ wp_40
theorem se_MO_MO_isBean : jj_SEL "BeanServerModel" yn_MO_isBean := fun _ _ h => h _ wp_41
theorem se_MO_MO_isQuery : jj_SEL "BeanServerModel" yn_MO_isQuery := fun _ _ h => h _ wp_42
theorem se_MO_MO_comparisonEnd : jj_SEL "BeanServerModel" yn_MO_comparisonEnd := fun _ _ h => h _ wp_43
theorem se_MO_MO_valueEnd : jj_SEL "BeanServerModel" yn_MO_valueEnd := fun _ _ h => h _ wp_44
theorem se_MO_MO_unit : jj_SEL "BeanServerModel" yn_MO_unit := fun _ _ h => h _ wp_45
theorem se_MO_MO_shorten : jj_SEL "BeanServerModel" yn_MO_shorten := fun _ _ h => h _ wp_46
theorem se_MO_MO_last : jj_SEL "BeanServerModel" yn_MO_last := fun _ _ h => h _ wp_47
theorem se_MO_MO_needed : jj_SEL "BeanServerModel" yn_MO_needed := fun _ _ h => h _ wp_48
theorem se_MO_MO_partner : jj_SEL "BeanServerModel" yn_MO_partner := fun _ _ h => h _ wp_49
theorem se_MO_MO_contains : jj_SEL "BeanServerModel" yn_MO_contains := fun _ _ h => h _ wp_50
theorem se_MO_MO_amongSeveral : jj_SEL "BeanServerModel" yn_MO_amongSeveral := fun _ _ h => h _ wp_51
theorem se_MO_MO_isAsked : jj_SEL "BeanServerModel" yn_MO_isAsked := fun _ _ h => h _ wp_52
theorem se_MO_MO_truth : jj_SEL "BeanServerModel" yn_MO_truth := fun _ _ h => h _ wp_53
theorem se_MO_MO_enter : jj_SEL "BeanServerModel" yn_MO_enter := fun _ _ h => h _ wp_54
theorem se_MO_MO_looked : jj_SEL "BeanServerModel" yn_MO_looked := fun _ _ h => h _ wp_55
theorem se_MO_MO_settle : jj_SEL "BeanServerModel" yn_MO_settle := fun _ _ h => h _ wp_56
theorem se_MO_MO_comparison : jj_SEL "BeanServerModel" yn_MO_comparison := fun _ _ h => h _ wp_57
theorem se_MO_MO_value : jj_SEL "BeanServerModel" yn_MO_value := fun _ _ h => h _ wp_58
theorem se_MO_MO_unitValue : jj_SEL "BeanServerModel" yn_MO_unitValue := fun _ _ h => h _ wp_59
theorem se_MO_MO_fits : jj_SEL "BeanServerModel" yn_MO_fits := fun _ _ h => h _ wp_60
theorem se_MO_MO_matches : jj_SEL "BeanServerModel" yn_MO_matches := fun _ _ h => h _ wp_61
theorem se_MO_MO_spread : jj_SEL "BeanServerModel" yn_MO_spread := fun _ _ h => h _ wp_62
theorem se_MO_MO_property : jj_SEL "BeanServerModel" yn_MO_property := fun _ _ h => h _ wp_63
theorem se_MO_MO_watch : jj_SEL "BeanServerModel" yn_MO_watch := fun _ _ h => h _ wp_64
theorem se_MO_MO_isMonitor : jj_SEL "BeanServerModel" yn_MO_isMonitor := fun _ _ h => h _ wp_65
theorem se_MO_MO_observe1 : jj_SEL "BeanServerModel" yn_MO_observe1 := fun _ _ h => h _ wp_66
theorem se_MO_MO_count : jj_SEL "BeanServerModel" yn_MO_count := fun _ _ h => h _ wp_67
theorem se_MO_MO_gaugeOf : jj_SEL "BeanServerModel" yn_MO_gaugeOf := fun _ _ h => h _ wp_68
theorem se_SB_AS_ensureCapacityInternal : jj_SEL "java/lang/StringBuilder" yn_AS_ensureCapacityInternal := fun _ _ h => h _ wx_0
theorem se_SB_AS_newCapacity : jj_SEL "java/lang/StringBuilder" yn_AS_newCapacity := fun _ _ h => h _ wx_1
theorem se_SB_AS_inflate : jj_SEL "java/lang/StringBuilder" yn_AS_inflate := fun _ _ h => h _ wx_2
theorem se_SB_AS_shift : jj_SEL "java/lang/StringBuilder" yn_AS_shift := fun _ _ h => h _ wx_3
