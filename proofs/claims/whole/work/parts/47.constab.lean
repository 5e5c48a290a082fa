/-! ===== the constructors: tables and straight walks (by program) ===== -/
abbrev y_Ta_new : mj_Y := ("ChartForest$Tape", ⟨"ChartForest$Tape", "<init>", "()V"⟩, prog_6_method_1_code, 1, none)
theorem k_Ta_new : mj_dec y_Ta_new.2.2.1 [(0, .aload_n 0, 1), (1, .invokespecial 3, 3), (4, .aload_n 0, 1), (5, .bipush 12, 2), (7, .newarray .int, 2), (9, .putfield 9, 3), (12, .return_, 1)] = true := by decide +kernel
theorem h_Ta_new : mj_yk y_Ta_new 0 := ⟨mw_107, mw_55, ⟨rfl, by decide +kernel, by decide +kernel, by decide +kernel⟩, by decide, by decide +kernel⟩
theorem d_Ta_new_0 : decode y_Ta_new.2.2.1 0 = .ok (.aload_n 0, 1) := mj_d (q := (0, .aload_n 0, 1)) k_Ta_new 0 rfl
theorem d_Ta_new_1 : decode y_Ta_new.2.2.1 1 = .ok (.invokespecial 3, 3) := mj_d (q := (1, .invokespecial 3, 3)) k_Ta_new 1 rfl
theorem d_Ta_new_4 : decode y_Ta_new.2.2.1 4 = .ok (.aload_n 0, 1) := mj_d (q := (4, .aload_n 0, 1)) k_Ta_new 2 rfl
theorem d_Ta_new_5 : decode y_Ta_new.2.2.1 5 = .ok (.bipush 12, 2) := mj_d (q := (5, .bipush 12, 2)) k_Ta_new 3 rfl
theorem d_Ta_new_7 : decode y_Ta_new.2.2.1 7 = .ok (.newarray .int, 2) := mj_d (q := (7, .newarray .int, 2)) k_Ta_new 4 rfl
theorem d_Ta_new_9 : decode y_Ta_new.2.2.1 9 = .ok (.putfield 9, 3) := mj_d (q := (9, .putfield 9, 3)) k_Ta_new 5 rfl
theorem d_Ta_new_12 : decode y_Ta_new.2.2.1 12 = .ok (.return_, 1) := mj_d (q := (12, .return_, 1)) k_Ta_new 6 rfl
abbrev y_Gr_new : mj_Y := ("ChartForest$Grammar", ⟨"ChartForest$Grammar", "<init>", "()V"⟩, prog_5_method_1_code, 2, none)
theorem k_Gr_new : mj_dec y_Gr_new.2.2.1 [(0, .aload_n 0, 1), (1, .invokespecial 3, 3), (4, .aload_n 0, 1), (5, .bipush 10, 2), (7, .newarray .int, 2), (9, .putfield 9, 3), (12, .aload_n 0, 1), (13, .bipush 44, 2), (15, .newarray .int, 2), (17, .putfield 15, 3), (20, .iconst 0, 1), (21, .istore_n 1, 1), (22, .iload_n 1, 1), (23, .bipush 44, 2), (25, .if_icmp .ge 16, 3), (28, .aload_n 0, 1), (29, .getfield 15, 3), (32, .iload_n 1, 1), (33, .iconst (-1), 1), (34, .iastore, 1), (35, .iinc 1 1, 3), (38, .goto (-16), 3), (41, .aload_n 0, 1), (42, .getfield 15, 3), (45, .iconst (-1), 1), (46, .iconst 0, 1), (47, .invokestatic 18, 3), (50, .iconst 0, 1), (51, .iastore, 1), (52, .return_, 1)] = true := by decide +kernel
theorem h_Gr_new : mj_yk y_Gr_new 0 := ⟨mw_82, mw_54, ⟨rfl, by decide +kernel, by decide +kernel, by decide +kernel⟩, by decide, by decide +kernel⟩
theorem d_Gr_new_0 : decode y_Gr_new.2.2.1 0 = .ok (.aload_n 0, 1) := mj_d (q := (0, .aload_n 0, 1)) k_Gr_new 0 rfl
theorem d_Gr_new_1 : decode y_Gr_new.2.2.1 1 = .ok (.invokespecial 3, 3) := mj_d (q := (1, .invokespecial 3, 3)) k_Gr_new 1 rfl
theorem d_Gr_new_4 : decode y_Gr_new.2.2.1 4 = .ok (.aload_n 0, 1) := mj_d (q := (4, .aload_n 0, 1)) k_Gr_new 2 rfl
theorem d_Gr_new_5 : decode y_Gr_new.2.2.1 5 = .ok (.bipush 10, 2) := mj_d (q := (5, .bipush 10, 2)) k_Gr_new 3 rfl
theorem d_Gr_new_7 : decode y_Gr_new.2.2.1 7 = .ok (.newarray .int, 2) := mj_d (q := (7, .newarray .int, 2)) k_Gr_new 4 rfl
theorem d_Gr_new_9 : decode y_Gr_new.2.2.1 9 = .ok (.putfield 9, 3) := mj_d (q := (9, .putfield 9, 3)) k_Gr_new 5 rfl
theorem d_Gr_new_12 : decode y_Gr_new.2.2.1 12 = .ok (.aload_n 0, 1) := mj_d (q := (12, .aload_n 0, 1)) k_Gr_new 6 rfl
theorem d_Gr_new_13 : decode y_Gr_new.2.2.1 13 = .ok (.bipush 44, 2) := mj_d (q := (13, .bipush 44, 2)) k_Gr_new 7 rfl
theorem d_Gr_new_15 : decode y_Gr_new.2.2.1 15 = .ok (.newarray .int, 2) := mj_d (q := (15, .newarray .int, 2)) k_Gr_new 8 rfl
theorem d_Gr_new_17 : decode y_Gr_new.2.2.1 17 = .ok (.putfield 15, 3) := mj_d (q := (17, .putfield 15, 3)) k_Gr_new 9 rfl
theorem d_Gr_new_20 : decode y_Gr_new.2.2.1 20 = .ok (.iconst 0, 1) := mj_d (q := (20, .iconst 0, 1)) k_Gr_new 10 rfl
theorem d_Gr_new_21 : decode y_Gr_new.2.2.1 21 = .ok (.istore_n 1, 1) := mj_d (q := (21, .istore_n 1, 1)) k_Gr_new 11 rfl
theorem d_Gr_new_22 : decode y_Gr_new.2.2.1 22 = .ok (.iload_n 1, 1) := mj_d (q := (22, .iload_n 1, 1)) k_Gr_new 12 rfl
theorem d_Gr_new_23 : decode y_Gr_new.2.2.1 23 = .ok (.bipush 44, 2) := mj_d (q := (23, .bipush 44, 2)) k_Gr_new 13 rfl
theorem d_Gr_new_25 : decode y_Gr_new.2.2.1 25 = .ok (.if_icmp .ge 16, 3) := mj_d (q := (25, .if_icmp .ge 16, 3)) k_Gr_new 14 rfl
theorem d_Gr_new_28 : decode y_Gr_new.2.2.1 28 = .ok (.aload_n 0, 1) := mj_d (q := (28, .aload_n 0, 1)) k_Gr_new 15 rfl
theorem d_Gr_new_29 : decode y_Gr_new.2.2.1 29 = .ok (.getfield 15, 3) := mj_d (q := (29, .getfield 15, 3)) k_Gr_new 16 rfl
theorem d_Gr_new_32 : decode y_Gr_new.2.2.1 32 = .ok (.iload_n 1, 1) := mj_d (q := (32, .iload_n 1, 1)) k_Gr_new 17 rfl
theorem d_Gr_new_33 : decode y_Gr_new.2.2.1 33 = .ok (.iconst (-1), 1) := mj_d (q := (33, .iconst (-1), 1)) k_Gr_new 18 rfl
theorem d_Gr_new_34 : decode y_Gr_new.2.2.1 34 = .ok (.iastore, 1) := mj_d (q := (34, .iastore, 1)) k_Gr_new 19 rfl
theorem d_Gr_new_35 : decode y_Gr_new.2.2.1 35 = .ok (.iinc 1 1, 3) := mj_d (q := (35, .iinc 1 1, 3)) k_Gr_new 20 rfl
theorem d_Gr_new_38 : decode y_Gr_new.2.2.1 38 = .ok (.goto (-16), 3) := mj_d (q := (38, .goto (-16), 3)) k_Gr_new 21 rfl
theorem d_Gr_new_41 : decode y_Gr_new.2.2.1 41 = .ok (.aload_n 0, 1) := mj_d (q := (41, .aload_n 0, 1)) k_Gr_new 22 rfl
theorem d_Gr_new_42 : decode y_Gr_new.2.2.1 42 = .ok (.getfield 15, 3) := mj_d (q := (42, .getfield 15, 3)) k_Gr_new 23 rfl
theorem d_Gr_new_45 : decode y_Gr_new.2.2.1 45 = .ok (.iconst (-1), 1) := mj_d (q := (45, .iconst (-1), 1)) k_Gr_new 24 rfl
theorem d_Gr_new_46 : decode y_Gr_new.2.2.1 46 = .ok (.iconst 0, 1) := mj_d (q := (46, .iconst 0, 1)) k_Gr_new 25 rfl
theorem d_Gr_new_47 : decode y_Gr_new.2.2.1 47 = .ok (.invokestatic 18, 3) := mj_d (q := (47, .invokestatic 18, 3)) k_Gr_new 26 rfl
theorem d_Gr_new_50 : decode y_Gr_new.2.2.1 50 = .ok (.iconst 0, 1) := mj_d (q := (50, .iconst 0, 1)) k_Gr_new 27 rfl
theorem d_Gr_new_51 : decode y_Gr_new.2.2.1 51 = .ok (.iastore, 1) := mj_d (q := (51, .iastore, 1)) k_Gr_new 28 rfl
theorem d_Gr_new_52 : decode y_Gr_new.2.2.1 52 = .ok (.return_, 1) := mj_d (q := (52, .return_, 1)) k_Gr_new 29 rfl
abbrev y_Co_new : mj_Y := ("ChartForest$Counts", ⟨"ChartForest$Counts", "<init>", "(LChartForest$Tape;)V"⟩, prog_3_method_1_code, 2, none)
theorem k_Co_new : mj_dec y_Co_new.2.2.1 [(0, .aload_n 0, 1), (1, .invokespecial 3, 3), (4, .aload_n 0, 1), (5, .sipush 845, 3), (8, .newarray .long, 2), (10, .putfield 9, 3), (13, .aload_n 0, 1), (14, .aload_n 1, 1), (15, .putfield 15, 3), (18, .return_, 1)] = true := by decide +kernel
theorem h_Co_new : mj_yk y_Co_new 1 := ⟨mw_162, mw_58, ⟨rfl, by decide +kernel, by decide +kernel, by decide +kernel⟩, by decide, by decide +kernel⟩
theorem d_Co_new_0 : decode y_Co_new.2.2.1 0 = .ok (.aload_n 0, 1) := mj_d (q := (0, .aload_n 0, 1)) k_Co_new 0 rfl
theorem d_Co_new_1 : decode y_Co_new.2.2.1 1 = .ok (.invokespecial 3, 3) := mj_d (q := (1, .invokespecial 3, 3)) k_Co_new 1 rfl
theorem d_Co_new_4 : decode y_Co_new.2.2.1 4 = .ok (.aload_n 0, 1) := mj_d (q := (4, .aload_n 0, 1)) k_Co_new 2 rfl
theorem d_Co_new_5 : decode y_Co_new.2.2.1 5 = .ok (.sipush 845, 3) := mj_d (q := (5, .sipush 845, 3)) k_Co_new 3 rfl
theorem d_Co_new_8 : decode y_Co_new.2.2.1 8 = .ok (.newarray .long, 2) := mj_d (q := (8, .newarray .long, 2)) k_Co_new 4 rfl
theorem d_Co_new_10 : decode y_Co_new.2.2.1 10 = .ok (.putfield 9, 3) := mj_d (q := (10, .putfield 9, 3)) k_Co_new 5 rfl
theorem d_Co_new_13 : decode y_Co_new.2.2.1 13 = .ok (.aload_n 0, 1) := mj_d (q := (13, .aload_n 0, 1)) k_Co_new 6 rfl
theorem d_Co_new_14 : decode y_Co_new.2.2.1 14 = .ok (.aload_n 1, 1) := mj_d (q := (14, .aload_n 1, 1)) k_Co_new 7 rfl
theorem d_Co_new_15 : decode y_Co_new.2.2.1 15 = .ok (.putfield 15, 3) := mj_d (q := (15, .putfield 15, 3)) k_Co_new 8 rfl
theorem d_Co_new_18 : decode y_Co_new.2.2.1 18 = .ok (.return_, 1) := mj_d (q := (18, .return_, 1)) k_Co_new 9 rfl
abbrev y_Wa_new : mj_Y := ("ChartForest$Ways", ⟨"ChartForest$Ways", "<init>", "(LChartForest$Grammar;LChartForest$Counts;)V"⟩, prog_7_method_1_code, 3, none)
theorem k_Wa_new : mj_dec y_Wa_new.2.2.1 [(0, .aload_n 0, 1), (1, .invokespecial 3, 3), (4, .aload_n 0, 1), (5, .sipush 910, 3), (8, .newarray .int, 2), (10, .putfield 9, 3), (13, .aload_n 0, 1), (14, .sipush 910, 3), (17, .newarray .int, 2), (19, .putfield 15, 3), (22, .aload_n 0, 1), (23, .sipush 910, 3), (26, .newarray .long, 2), (28, .putfield 18, 3), (31, .aload_n 0, 1), (32, .aload_n 1, 1), (33, .putfield 22, 3), (36, .aload_n 0, 1), (37, .aload_n 2, 1), (38, .putfield 26, 3), (41, .return_, 1)] = true := by decide +kernel
theorem h_Wa_new : mj_yk y_Wa_new 2 := ⟨mw_178, mw_59, ⟨rfl, by decide +kernel, by decide +kernel, by decide +kernel⟩, by decide, by decide +kernel⟩
theorem d_Wa_new_0 : decode y_Wa_new.2.2.1 0 = .ok (.aload_n 0, 1) := mj_d (q := (0, .aload_n 0, 1)) k_Wa_new 0 rfl
theorem d_Wa_new_1 : decode y_Wa_new.2.2.1 1 = .ok (.invokespecial 3, 3) := mj_d (q := (1, .invokespecial 3, 3)) k_Wa_new 1 rfl
theorem d_Wa_new_4 : decode y_Wa_new.2.2.1 4 = .ok (.aload_n 0, 1) := mj_d (q := (4, .aload_n 0, 1)) k_Wa_new 2 rfl
theorem d_Wa_new_5 : decode y_Wa_new.2.2.1 5 = .ok (.sipush 910, 3) := mj_d (q := (5, .sipush 910, 3)) k_Wa_new 3 rfl
theorem d_Wa_new_8 : decode y_Wa_new.2.2.1 8 = .ok (.newarray .int, 2) := mj_d (q := (8, .newarray .int, 2)) k_Wa_new 4 rfl
theorem d_Wa_new_10 : decode y_Wa_new.2.2.1 10 = .ok (.putfield 9, 3) := mj_d (q := (10, .putfield 9, 3)) k_Wa_new 5 rfl
theorem d_Wa_new_13 : decode y_Wa_new.2.2.1 13 = .ok (.aload_n 0, 1) := mj_d (q := (13, .aload_n 0, 1)) k_Wa_new 6 rfl
theorem d_Wa_new_14 : decode y_Wa_new.2.2.1 14 = .ok (.sipush 910, 3) := mj_d (q := (14, .sipush 910, 3)) k_Wa_new 7 rfl
theorem d_Wa_new_17 : decode y_Wa_new.2.2.1 17 = .ok (.newarray .int, 2) := mj_d (q := (17, .newarray .int, 2)) k_Wa_new 8 rfl
theorem d_Wa_new_19 : decode y_Wa_new.2.2.1 19 = .ok (.putfield 15, 3) := mj_d (q := (19, .putfield 15, 3)) k_Wa_new 9 rfl
theorem d_Wa_new_22 : decode y_Wa_new.2.2.1 22 = .ok (.aload_n 0, 1) := mj_d (q := (22, .aload_n 0, 1)) k_Wa_new 10 rfl
theorem d_Wa_new_23 : decode y_Wa_new.2.2.1 23 = .ok (.sipush 910, 3) := mj_d (q := (23, .sipush 910, 3)) k_Wa_new 11 rfl
theorem d_Wa_new_26 : decode y_Wa_new.2.2.1 26 = .ok (.newarray .long, 2) := mj_d (q := (26, .newarray .long, 2)) k_Wa_new 12 rfl
theorem d_Wa_new_28 : decode y_Wa_new.2.2.1 28 = .ok (.putfield 18, 3) := mj_d (q := (28, .putfield 18, 3)) k_Wa_new 13 rfl
theorem d_Wa_new_31 : decode y_Wa_new.2.2.1 31 = .ok (.aload_n 0, 1) := mj_d (q := (31, .aload_n 0, 1)) k_Wa_new 14 rfl
theorem d_Wa_new_32 : decode y_Wa_new.2.2.1 32 = .ok (.aload_n 1, 1) := mj_d (q := (32, .aload_n 1, 1)) k_Wa_new 15 rfl
theorem d_Wa_new_33 : decode y_Wa_new.2.2.1 33 = .ok (.putfield 22, 3) := mj_d (q := (33, .putfield 22, 3)) k_Wa_new 16 rfl
theorem d_Wa_new_36 : decode y_Wa_new.2.2.1 36 = .ok (.aload_n 0, 1) := mj_d (q := (36, .aload_n 0, 1)) k_Wa_new 17 rfl
theorem d_Wa_new_37 : decode y_Wa_new.2.2.1 37 = .ok (.aload_n 2, 1) := mj_d (q := (37, .aload_n 2, 1)) k_Wa_new 18 rfl
theorem d_Wa_new_38 : decode y_Wa_new.2.2.1 38 = .ok (.putfield 26, 3) := mj_d (q := (38, .putfield 26, 3)) k_Wa_new 19 rfl
theorem d_Wa_new_41 : decode y_Wa_new.2.2.1 41 = .ok (.return_, 1) := mj_d (q := (41, .return_, 1)) k_Wa_new 20 rfl
abbrev y_Ch_new : mj_Y := ("ChartForest$Chart", ⟨"ChartForest$Chart", "<init>", "(LChartForest$Grammar;Z)V"⟩, prog_2_method_1_code, 3, none)
theorem k_Ch_new : mj_dec y_Ch_new.2.2.1 [(0, .aload_n 0, 1), (1, .invokespecial 3, 3), (4, .aload_n 0, 1), (5, .bipush 13, 2), (7, .bipush 44, 2), (9, .multianewarray 9 2, 4), (13, .putfield 11, 3), (16, .aload_n 0, 1), (17, .bipush 13, 2), (19, .newarray .int, 2), (21, .putfield 16, 3), (24, .aload_n 0, 1), (25, .bipush 13, 2), (27, .iconst 5, 1), (28, .multianewarray 9 2, 4), (32, .putfield 20, 3), (35, .aload_n 0, 1), (36, .sipush 572, 3), (39, .newarray .int, 2), (41, .putfield 23, 3), (44, .aload_n 0, 1), (45, .aload_n 1, 1), (46, .putfield 26, 3), (49, .aload_n 0, 1), (50, .iload_n 2, 1), (51, .putfield 30, 3), (54, .return_, 1)] = true := by decide +kernel
theorem h_Ch_new : mj_yk y_Ch_new 2 := ⟨mw_122, mw_56, ⟨rfl, by decide +kernel, by decide +kernel, by decide +kernel⟩, by decide, by decide +kernel⟩
theorem d_Ch_new_0 : decode y_Ch_new.2.2.1 0 = .ok (.aload_n 0, 1) := mj_d (q := (0, .aload_n 0, 1)) k_Ch_new 0 rfl
theorem d_Ch_new_1 : decode y_Ch_new.2.2.1 1 = .ok (.invokespecial 3, 3) := mj_d (q := (1, .invokespecial 3, 3)) k_Ch_new 1 rfl
theorem d_Ch_new_4 : decode y_Ch_new.2.2.1 4 = .ok (.aload_n 0, 1) := mj_d (q := (4, .aload_n 0, 1)) k_Ch_new 2 rfl
theorem d_Ch_new_5 : decode y_Ch_new.2.2.1 5 = .ok (.bipush 13, 2) := mj_d (q := (5, .bipush 13, 2)) k_Ch_new 3 rfl
theorem d_Ch_new_7 : decode y_Ch_new.2.2.1 7 = .ok (.bipush 44, 2) := mj_d (q := (7, .bipush 44, 2)) k_Ch_new 4 rfl
theorem d_Ch_new_9 : decode y_Ch_new.2.2.1 9 = .ok (.multianewarray 9 2, 4) := mj_d (q := (9, .multianewarray 9 2, 4)) k_Ch_new 5 rfl
theorem d_Ch_new_13 : decode y_Ch_new.2.2.1 13 = .ok (.putfield 11, 3) := mj_d (q := (13, .putfield 11, 3)) k_Ch_new 6 rfl
theorem d_Ch_new_16 : decode y_Ch_new.2.2.1 16 = .ok (.aload_n 0, 1) := mj_d (q := (16, .aload_n 0, 1)) k_Ch_new 7 rfl
theorem d_Ch_new_17 : decode y_Ch_new.2.2.1 17 = .ok (.bipush 13, 2) := mj_d (q := (17, .bipush 13, 2)) k_Ch_new 8 rfl
theorem d_Ch_new_19 : decode y_Ch_new.2.2.1 19 = .ok (.newarray .int, 2) := mj_d (q := (19, .newarray .int, 2)) k_Ch_new 9 rfl
theorem d_Ch_new_21 : decode y_Ch_new.2.2.1 21 = .ok (.putfield 16, 3) := mj_d (q := (21, .putfield 16, 3)) k_Ch_new 10 rfl
theorem d_Ch_new_24 : decode y_Ch_new.2.2.1 24 = .ok (.aload_n 0, 1) := mj_d (q := (24, .aload_n 0, 1)) k_Ch_new 11 rfl
theorem d_Ch_new_25 : decode y_Ch_new.2.2.1 25 = .ok (.bipush 13, 2) := mj_d (q := (25, .bipush 13, 2)) k_Ch_new 12 rfl
theorem d_Ch_new_27 : decode y_Ch_new.2.2.1 27 = .ok (.iconst 5, 1) := mj_d (q := (27, .iconst 5, 1)) k_Ch_new 13 rfl
theorem d_Ch_new_28 : decode y_Ch_new.2.2.1 28 = .ok (.multianewarray 9 2, 4) := mj_d (q := (28, .multianewarray 9 2, 4)) k_Ch_new 14 rfl
theorem d_Ch_new_32 : decode y_Ch_new.2.2.1 32 = .ok (.putfield 20, 3) := mj_d (q := (32, .putfield 20, 3)) k_Ch_new 15 rfl
theorem d_Ch_new_35 : decode y_Ch_new.2.2.1 35 = .ok (.aload_n 0, 1) := mj_d (q := (35, .aload_n 0, 1)) k_Ch_new 16 rfl
theorem d_Ch_new_36 : decode y_Ch_new.2.2.1 36 = .ok (.sipush 572, 3) := mj_d (q := (36, .sipush 572, 3)) k_Ch_new 17 rfl
theorem d_Ch_new_39 : decode y_Ch_new.2.2.1 39 = .ok (.newarray .int, 2) := mj_d (q := (39, .newarray .int, 2)) k_Ch_new 18 rfl
theorem d_Ch_new_41 : decode y_Ch_new.2.2.1 41 = .ok (.putfield 23, 3) := mj_d (q := (41, .putfield 23, 3)) k_Ch_new 19 rfl
theorem d_Ch_new_44 : decode y_Ch_new.2.2.1 44 = .ok (.aload_n 0, 1) := mj_d (q := (44, .aload_n 0, 1)) k_Ch_new 20 rfl
theorem d_Ch_new_45 : decode y_Ch_new.2.2.1 45 = .ok (.aload_n 1, 1) := mj_d (q := (45, .aload_n 1, 1)) k_Ch_new 21 rfl
theorem d_Ch_new_46 : decode y_Ch_new.2.2.1 46 = .ok (.putfield 26, 3) := mj_d (q := (46, .putfield 26, 3)) k_Ch_new 22 rfl
theorem d_Ch_new_49 : decode y_Ch_new.2.2.1 49 = .ok (.aload_n 0, 1) := mj_d (q := (49, .aload_n 0, 1)) k_Ch_new 23 rfl
theorem d_Ch_new_50 : decode y_Ch_new.2.2.1 50 = .ok (.iload_n 2, 1) := mj_d (q := (50, .iload_n 2, 1)) k_Ch_new 24 rfl
theorem d_Ch_new_51 : decode y_Ch_new.2.2.1 51 = .ok (.putfield 30, 3) := mj_d (q := (51, .putfield 30, 3)) k_Ch_new 25 rfl
theorem d_Ch_new_54 : decode y_Ch_new.2.2.1 54 = .ok (.return_, 1) := mj_d (q := (54, .return_, 1)) k_Ch_new 26 rfl
abbrev y_Fo_new : mj_Y := ("ChartForest$Forest", ⟨"ChartForest$Forest", "<init>", "(LChartForest$Grammar;LChartForest$Tape;)V"⟩, prog_4_method_1_code, 3, none)
theorem k_Fo_new : mj_dec y_Fo_new.2.2.1 [(0, .aload_n 0, 1), (1, .invokespecial 3, 3), (4, .aload_n 0, 1), (5, .sipush 845, 3), (8, .newarray .int, 2), (10, .putfield 9, 3), (13, .aload_n 0, 1), (14, .sipush 845, 3), (17, .newarray .boolean, 2), (19, .putfield 15, 3), (22, .aload_n 0, 1), (23, .sipush 845, 3), (26, .newarray .long, 2), (28, .putfield 19, 3), (31, .aload_n 0, 1), (32, .aload_n 2, 1), (33, .putfield 23, 3), (36, .aload_n 0, 1), (37, .new 27, 3), (40, .dup, 1), (41, .aload_n 2, 1), (42, .invokespecial 29, 3), (45, .putfield 32, 3), (48, .aload_n 0, 1), (49, .new 36, 3), (52, .dup, 1), (53, .aload_n 1, 1), (54, .aload_n 0, 1), (55, .getfield 32, 3), (58, .invokespecial 38, 3), (61, .putfield 41, 3), (64, .return_, 1)] = true := by decide +kernel
theorem h_Fo_new : mj_yk y_Fo_new 2 := ⟨mw_156, mw_57, ⟨rfl, by decide +kernel, by decide +kernel, by decide +kernel⟩, by decide, by decide +kernel⟩
theorem d_Fo_new_0 : decode y_Fo_new.2.2.1 0 = .ok (.aload_n 0, 1) := mj_d (q := (0, .aload_n 0, 1)) k_Fo_new 0 rfl
theorem d_Fo_new_1 : decode y_Fo_new.2.2.1 1 = .ok (.invokespecial 3, 3) := mj_d (q := (1, .invokespecial 3, 3)) k_Fo_new 1 rfl
theorem d_Fo_new_4 : decode y_Fo_new.2.2.1 4 = .ok (.aload_n 0, 1) := mj_d (q := (4, .aload_n 0, 1)) k_Fo_new 2 rfl
theorem d_Fo_new_5 : decode y_Fo_new.2.2.1 5 = .ok (.sipush 845, 3) := mj_d (q := (5, .sipush 845, 3)) k_Fo_new 3 rfl
theorem d_Fo_new_8 : decode y_Fo_new.2.2.1 8 = .ok (.newarray .int, 2) := mj_d (q := (8, .newarray .int, 2)) k_Fo_new 4 rfl
theorem d_Fo_new_10 : decode y_Fo_new.2.2.1 10 = .ok (.putfield 9, 3) := mj_d (q := (10, .putfield 9, 3)) k_Fo_new 5 rfl
theorem d_Fo_new_13 : decode y_Fo_new.2.2.1 13 = .ok (.aload_n 0, 1) := mj_d (q := (13, .aload_n 0, 1)) k_Fo_new 6 rfl
theorem d_Fo_new_14 : decode y_Fo_new.2.2.1 14 = .ok (.sipush 845, 3) := mj_d (q := (14, .sipush 845, 3)) k_Fo_new 7 rfl
theorem d_Fo_new_17 : decode y_Fo_new.2.2.1 17 = .ok (.newarray .boolean, 2) := mj_d (q := (17, .newarray .boolean, 2)) k_Fo_new 8 rfl
theorem d_Fo_new_19 : decode y_Fo_new.2.2.1 19 = .ok (.putfield 15, 3) := mj_d (q := (19, .putfield 15, 3)) k_Fo_new 9 rfl
theorem d_Fo_new_22 : decode y_Fo_new.2.2.1 22 = .ok (.aload_n 0, 1) := mj_d (q := (22, .aload_n 0, 1)) k_Fo_new 10 rfl
theorem d_Fo_new_23 : decode y_Fo_new.2.2.1 23 = .ok (.sipush 845, 3) := mj_d (q := (23, .sipush 845, 3)) k_Fo_new 11 rfl
theorem d_Fo_new_26 : decode y_Fo_new.2.2.1 26 = .ok (.newarray .long, 2) := mj_d (q := (26, .newarray .long, 2)) k_Fo_new 12 rfl
theorem d_Fo_new_28 : decode y_Fo_new.2.2.1 28 = .ok (.putfield 19, 3) := mj_d (q := (28, .putfield 19, 3)) k_Fo_new 13 rfl
theorem d_Fo_new_31 : decode y_Fo_new.2.2.1 31 = .ok (.aload_n 0, 1) := mj_d (q := (31, .aload_n 0, 1)) k_Fo_new 14 rfl
theorem d_Fo_new_32 : decode y_Fo_new.2.2.1 32 = .ok (.aload_n 2, 1) := mj_d (q := (32, .aload_n 2, 1)) k_Fo_new 15 rfl
theorem d_Fo_new_33 : decode y_Fo_new.2.2.1 33 = .ok (.putfield 23, 3) := mj_d (q := (33, .putfield 23, 3)) k_Fo_new 16 rfl
theorem d_Fo_new_36 : decode y_Fo_new.2.2.1 36 = .ok (.aload_n 0, 1) := mj_d (q := (36, .aload_n 0, 1)) k_Fo_new 17 rfl
theorem d_Fo_new_37 : decode y_Fo_new.2.2.1 37 = .ok (.new 27, 3) := mj_d (q := (37, .new 27, 3)) k_Fo_new 18 rfl
theorem d_Fo_new_40 : decode y_Fo_new.2.2.1 40 = .ok (.dup, 1) := mj_d (q := (40, .dup, 1)) k_Fo_new 19 rfl
theorem d_Fo_new_41 : decode y_Fo_new.2.2.1 41 = .ok (.aload_n 2, 1) := mj_d (q := (41, .aload_n 2, 1)) k_Fo_new 20 rfl
theorem d_Fo_new_42 : decode y_Fo_new.2.2.1 42 = .ok (.invokespecial 29, 3) := mj_d (q := (42, .invokespecial 29, 3)) k_Fo_new 21 rfl
theorem d_Fo_new_45 : decode y_Fo_new.2.2.1 45 = .ok (.putfield 32, 3) := mj_d (q := (45, .putfield 32, 3)) k_Fo_new 22 rfl
theorem d_Fo_new_48 : decode y_Fo_new.2.2.1 48 = .ok (.aload_n 0, 1) := mj_d (q := (48, .aload_n 0, 1)) k_Fo_new 23 rfl
theorem d_Fo_new_49 : decode y_Fo_new.2.2.1 49 = .ok (.new 36, 3) := mj_d (q := (49, .new 36, 3)) k_Fo_new 24 rfl
theorem d_Fo_new_52 : decode y_Fo_new.2.2.1 52 = .ok (.dup, 1) := mj_d (q := (52, .dup, 1)) k_Fo_new 25 rfl
theorem d_Fo_new_53 : decode y_Fo_new.2.2.1 53 = .ok (.aload_n 1, 1) := mj_d (q := (53, .aload_n 1, 1)) k_Fo_new 26 rfl
theorem d_Fo_new_54 : decode y_Fo_new.2.2.1 54 = .ok (.aload_n 0, 1) := mj_d (q := (54, .aload_n 0, 1)) k_Fo_new 27 rfl
theorem d_Fo_new_55 : decode y_Fo_new.2.2.1 55 = .ok (.getfield 32, 3) := mj_d (q := (55, .getfield 32, 3)) k_Fo_new 28 rfl
theorem d_Fo_new_58 : decode y_Fo_new.2.2.1 58 = .ok (.invokespecial 38, 3) := mj_d (q := (58, .invokespecial 38, 3)) k_Fo_new 29 rfl
theorem d_Fo_new_61 : decode y_Fo_new.2.2.1 61 = .ok (.putfield 41, 3) := mj_d (q := (61, .putfield 41, 3)) k_Fo_new 30 rfl
theorem d_Fo_new_64 : decode y_Fo_new.2.2.1 64 = .ok (.return_, 1) := mj_d (q := (64, .return_, 1)) k_Fo_new 31 rfl
abbrev y_CF_new : mj_Y := ("ChartForest", ⟨"ChartForest", "<init>", "(I)V"⟩, prog_1_method_1_code, 2, none)
theorem k_CF_new : mj_dec y_CF_new.2.2.1 [(0, .aload_n 0, 1), (1, .invokespecial 3, 3), (4, .aload_n 0, 1), (5, .new 9, 3), (8, .dup, 1), (9, .invokespecial 11, 3), (12, .putfield 12, 3), (15, .aload_n 0, 1), (16, .new 16, 3), (19, .dup, 1), (20, .invokespecial 18, 3), (23, .putfield 19, 3), (26, .aload_n 0, 1), (27, .new 23, 3), (30, .dup, 1), (31, .aload_n 0, 1), (32, .getfield 12, 3), (35, .iload_n 1, 1), (36, .ifCond .eq 7, 3), (39, .iconst 1, 1), (40, .goto 4, 3), (43, .iconst 0, 1), (44, .invokespecial 25, 3), (47, .putfield 28, 3), (50, .aload_n 0, 1), (51, .new 32, 3), (54, .dup, 1), (55, .aload_n 0, 1), (56, .getfield 12, 3), (59, .aload_n 0, 1), (60, .getfield 19, 3), (63, .invokespecial 34, 3), (66, .putfield 37, 3), (69, .aload_n 0, 1), (70, .getfield 28, 3), (73, .invokevirtual 41, 3), (76, .return_, 1)] = true := by decide +kernel
theorem h_CF_new : mj_yk y_CF_new 1 := ⟨mw_74, mw_53, ⟨rfl, by decide +kernel, by decide +kernel, by decide +kernel⟩, by decide, by decide +kernel⟩
theorem d_CF_new_0 : decode y_CF_new.2.2.1 0 = .ok (.aload_n 0, 1) := mj_d (q := (0, .aload_n 0, 1)) k_CF_new 0 rfl
theorem d_CF_new_1 : decode y_CF_new.2.2.1 1 = .ok (.invokespecial 3, 3) := mj_d (q := (1, .invokespecial 3, 3)) k_CF_new 1 rfl
theorem d_CF_new_4 : decode y_CF_new.2.2.1 4 = .ok (.aload_n 0, 1) := mj_d (q := (4, .aload_n 0, 1)) k_CF_new 2 rfl
theorem d_CF_new_5 : decode y_CF_new.2.2.1 5 = .ok (.new 9, 3) := mj_d (q := (5, .new 9, 3)) k_CF_new 3 rfl
theorem d_CF_new_8 : decode y_CF_new.2.2.1 8 = .ok (.dup, 1) := mj_d (q := (8, .dup, 1)) k_CF_new 4 rfl
theorem d_CF_new_9 : decode y_CF_new.2.2.1 9 = .ok (.invokespecial 11, 3) := mj_d (q := (9, .invokespecial 11, 3)) k_CF_new 5 rfl
theorem d_CF_new_12 : decode y_CF_new.2.2.1 12 = .ok (.putfield 12, 3) := mj_d (q := (12, .putfield 12, 3)) k_CF_new 6 rfl
theorem d_CF_new_15 : decode y_CF_new.2.2.1 15 = .ok (.aload_n 0, 1) := mj_d (q := (15, .aload_n 0, 1)) k_CF_new 7 rfl
theorem d_CF_new_16 : decode y_CF_new.2.2.1 16 = .ok (.new 16, 3) := mj_d (q := (16, .new 16, 3)) k_CF_new 8 rfl
theorem d_CF_new_19 : decode y_CF_new.2.2.1 19 = .ok (.dup, 1) := mj_d (q := (19, .dup, 1)) k_CF_new 9 rfl
theorem d_CF_new_20 : decode y_CF_new.2.2.1 20 = .ok (.invokespecial 18, 3) := mj_d (q := (20, .invokespecial 18, 3)) k_CF_new 10 rfl
theorem d_CF_new_23 : decode y_CF_new.2.2.1 23 = .ok (.putfield 19, 3) := mj_d (q := (23, .putfield 19, 3)) k_CF_new 11 rfl
theorem d_CF_new_26 : decode y_CF_new.2.2.1 26 = .ok (.aload_n 0, 1) := mj_d (q := (26, .aload_n 0, 1)) k_CF_new 12 rfl
theorem d_CF_new_27 : decode y_CF_new.2.2.1 27 = .ok (.new 23, 3) := mj_d (q := (27, .new 23, 3)) k_CF_new 13 rfl
theorem d_CF_new_30 : decode y_CF_new.2.2.1 30 = .ok (.dup, 1) := mj_d (q := (30, .dup, 1)) k_CF_new 14 rfl
theorem d_CF_new_31 : decode y_CF_new.2.2.1 31 = .ok (.aload_n 0, 1) := mj_d (q := (31, .aload_n 0, 1)) k_CF_new 15 rfl
theorem d_CF_new_32 : decode y_CF_new.2.2.1 32 = .ok (.getfield 12, 3) := mj_d (q := (32, .getfield 12, 3)) k_CF_new 16 rfl
theorem d_CF_new_35 : decode y_CF_new.2.2.1 35 = .ok (.iload_n 1, 1) := mj_d (q := (35, .iload_n 1, 1)) k_CF_new 17 rfl
theorem d_CF_new_36 : decode y_CF_new.2.2.1 36 = .ok (.ifCond .eq 7, 3) := mj_d (q := (36, .ifCond .eq 7, 3)) k_CF_new 18 rfl
theorem d_CF_new_39 : decode y_CF_new.2.2.1 39 = .ok (.iconst 1, 1) := mj_d (q := (39, .iconst 1, 1)) k_CF_new 19 rfl
theorem d_CF_new_40 : decode y_CF_new.2.2.1 40 = .ok (.goto 4, 3) := mj_d (q := (40, .goto 4, 3)) k_CF_new 20 rfl
theorem d_CF_new_43 : decode y_CF_new.2.2.1 43 = .ok (.iconst 0, 1) := mj_d (q := (43, .iconst 0, 1)) k_CF_new 21 rfl
theorem d_CF_new_44 : decode y_CF_new.2.2.1 44 = .ok (.invokespecial 25, 3) := mj_d (q := (44, .invokespecial 25, 3)) k_CF_new 22 rfl
theorem d_CF_new_47 : decode y_CF_new.2.2.1 47 = .ok (.putfield 28, 3) := mj_d (q := (47, .putfield 28, 3)) k_CF_new 23 rfl
theorem d_CF_new_50 : decode y_CF_new.2.2.1 50 = .ok (.aload_n 0, 1) := mj_d (q := (50, .aload_n 0, 1)) k_CF_new 24 rfl
theorem d_CF_new_51 : decode y_CF_new.2.2.1 51 = .ok (.new 32, 3) := mj_d (q := (51, .new 32, 3)) k_CF_new 25 rfl
theorem d_CF_new_54 : decode y_CF_new.2.2.1 54 = .ok (.dup, 1) := mj_d (q := (54, .dup, 1)) k_CF_new 26 rfl
theorem d_CF_new_55 : decode y_CF_new.2.2.1 55 = .ok (.aload_n 0, 1) := mj_d (q := (55, .aload_n 0, 1)) k_CF_new 27 rfl
theorem d_CF_new_56 : decode y_CF_new.2.2.1 56 = .ok (.getfield 12, 3) := mj_d (q := (56, .getfield 12, 3)) k_CF_new 28 rfl
theorem d_CF_new_59 : decode y_CF_new.2.2.1 59 = .ok (.aload_n 0, 1) := mj_d (q := (59, .aload_n 0, 1)) k_CF_new 29 rfl
theorem d_CF_new_60 : decode y_CF_new.2.2.1 60 = .ok (.getfield 19, 3) := mj_d (q := (60, .getfield 19, 3)) k_CF_new 30 rfl
theorem d_CF_new_63 : decode y_CF_new.2.2.1 63 = .ok (.invokespecial 34, 3) := mj_d (q := (63, .invokespecial 34, 3)) k_CF_new 31 rfl
theorem d_CF_new_66 : decode y_CF_new.2.2.1 66 = .ok (.putfield 37, 3) := mj_d (q := (66, .putfield 37, 3)) k_CF_new 32 rfl
theorem d_CF_new_69 : decode y_CF_new.2.2.1 69 = .ok (.aload_n 0, 1) := mj_d (q := (69, .aload_n 0, 1)) k_CF_new 33 rfl
theorem d_CF_new_70 : decode y_CF_new.2.2.1 70 = .ok (.getfield 28, 3) := mj_d (q := (70, .getfield 28, 3)) k_CF_new 34 rfl
theorem d_CF_new_73 : decode y_CF_new.2.2.1 73 = .ok (.invokevirtual 41, 3) := mj_d (q := (73, .invokevirtual 41, 3)) k_CF_new 35 rfl
theorem d_CF_new_76 : decode y_CF_new.2.2.1 76 = .ok (.return_, 1) := mj_d (q := (76, .return_, 1)) k_CF_new 36 rfl
abbrev y_Mo_new : mj_Y := ("ChartForestModel", ⟨"ChartForestModel", "<init>", "(I)V"⟩, prog_9_method_1_code, 2, none)
theorem k_Mo_new : mj_dec y_Mo_new.2.2.1 [(0, .aload_n 0, 1), (1, .invokespecial 1, 3), (4, .aload_n 0, 1), (5, .bipush 10, 2), (7, .newarray .int, 2), (9, .putfield 7, 3), (12, .aload_n 0, 1), (13, .bipush 10, 2), (15, .newarray .int, 2), (17, .putfield 13, 3), (20, .aload_n 0, 1), (21, .bipush 30, 2), (23, .newarray .int, 2), (25, .putfield 16, 3), (28, .aload_n 0, 1), (29, .bipush 12, 2), (31, .newarray .int, 2), (33, .putfield 19, 3), (36, .aload_n 0, 1), (37, .sipush 7436, 3), (40, .newarray .boolean, 2), (42, .putfield 22, 3), (45, .aload_n 0, 1), (46, .sipush 845, 3), (49, .newarray .boolean, 2), (51, .putfield 26, 3), (54, .aload_n 0, 1), (55, .sipush 845, 3), (58, .newarray .boolean, 2), (60, .putfield 29, 3), (63, .aload_n 0, 1), (64, .sipush 845, 3), (67, .newarray .long, 2), (69, .putfield 32, 3), (72, .aload_n 0, 1), (73, .sipush 845, 3), (76, .newarray .boolean, 2), (78, .putfield 36, 3), (81, .aload_n 0, 1), (82, .sipush 900, 3), (85, .newarray .int, 2), (87, .putfield 39, 3), (90, .aload_n 0, 1), (91, .sipush 900, 3), (94, .newarray .long, 2), (96, .putfield 42, 3), (99, .aload_n 0, 1), (100, .iload_n 1, 1), (101, .ifCond .eq 7, 3), (104, .iconst 1, 1), (105, .goto 4, 3), (108, .iconst 0, 1), (109, .putfield 45, 3), (112, .aload_n 0, 1), (113, .iconst 0, 1), (114, .invokevirtual 49, 3), (117, .return_, 1)] = true := by decide +kernel
theorem h_Mo_new : mj_yk y_Mo_new 1 := ⟨mw_672, mw_60, ⟨rfl, by decide +kernel, by decide +kernel, by decide +kernel⟩, by decide, by decide +kernel⟩
theorem d_Mo_new_0 : decode y_Mo_new.2.2.1 0 = .ok (.aload_n 0, 1) := mj_d (q := (0, .aload_n 0, 1)) k_Mo_new 0 rfl
theorem d_Mo_new_1 : decode y_Mo_new.2.2.1 1 = .ok (.invokespecial 1, 3) := mj_d (q := (1, .invokespecial 1, 3)) k_Mo_new 1 rfl
theorem d_Mo_new_4 : decode y_Mo_new.2.2.1 4 = .ok (.aload_n 0, 1) := mj_d (q := (4, .aload_n 0, 1)) k_Mo_new 2 rfl
theorem d_Mo_new_5 : decode y_Mo_new.2.2.1 5 = .ok (.bipush 10, 2) := mj_d (q := (5, .bipush 10, 2)) k_Mo_new 3 rfl
theorem d_Mo_new_7 : decode y_Mo_new.2.2.1 7 = .ok (.newarray .int, 2) := mj_d (q := (7, .newarray .int, 2)) k_Mo_new 4 rfl
theorem d_Mo_new_9 : decode y_Mo_new.2.2.1 9 = .ok (.putfield 7, 3) := mj_d (q := (9, .putfield 7, 3)) k_Mo_new 5 rfl
theorem d_Mo_new_12 : decode y_Mo_new.2.2.1 12 = .ok (.aload_n 0, 1) := mj_d (q := (12, .aload_n 0, 1)) k_Mo_new 6 rfl
theorem d_Mo_new_13 : decode y_Mo_new.2.2.1 13 = .ok (.bipush 10, 2) := mj_d (q := (13, .bipush 10, 2)) k_Mo_new 7 rfl
theorem d_Mo_new_15 : decode y_Mo_new.2.2.1 15 = .ok (.newarray .int, 2) := mj_d (q := (15, .newarray .int, 2)) k_Mo_new 8 rfl
theorem d_Mo_new_17 : decode y_Mo_new.2.2.1 17 = .ok (.putfield 13, 3) := mj_d (q := (17, .putfield 13, 3)) k_Mo_new 9 rfl
theorem d_Mo_new_20 : decode y_Mo_new.2.2.1 20 = .ok (.aload_n 0, 1) := mj_d (q := (20, .aload_n 0, 1)) k_Mo_new 10 rfl
theorem d_Mo_new_21 : decode y_Mo_new.2.2.1 21 = .ok (.bipush 30, 2) := mj_d (q := (21, .bipush 30, 2)) k_Mo_new 11 rfl
theorem d_Mo_new_23 : decode y_Mo_new.2.2.1 23 = .ok (.newarray .int, 2) := mj_d (q := (23, .newarray .int, 2)) k_Mo_new 12 rfl
theorem d_Mo_new_25 : decode y_Mo_new.2.2.1 25 = .ok (.putfield 16, 3) := mj_d (q := (25, .putfield 16, 3)) k_Mo_new 13 rfl
theorem d_Mo_new_28 : decode y_Mo_new.2.2.1 28 = .ok (.aload_n 0, 1) := mj_d (q := (28, .aload_n 0, 1)) k_Mo_new 14 rfl
theorem d_Mo_new_29 : decode y_Mo_new.2.2.1 29 = .ok (.bipush 12, 2) := mj_d (q := (29, .bipush 12, 2)) k_Mo_new 15 rfl
theorem d_Mo_new_31 : decode y_Mo_new.2.2.1 31 = .ok (.newarray .int, 2) := mj_d (q := (31, .newarray .int, 2)) k_Mo_new 16 rfl
theorem d_Mo_new_33 : decode y_Mo_new.2.2.1 33 = .ok (.putfield 19, 3) := mj_d (q := (33, .putfield 19, 3)) k_Mo_new 17 rfl
theorem d_Mo_new_36 : decode y_Mo_new.2.2.1 36 = .ok (.aload_n 0, 1) := mj_d (q := (36, .aload_n 0, 1)) k_Mo_new 18 rfl
theorem d_Mo_new_37 : decode y_Mo_new.2.2.1 37 = .ok (.sipush 7436, 3) := mj_d (q := (37, .sipush 7436, 3)) k_Mo_new 19 rfl
theorem d_Mo_new_40 : decode y_Mo_new.2.2.1 40 = .ok (.newarray .boolean, 2) := mj_d (q := (40, .newarray .boolean, 2)) k_Mo_new 20 rfl
theorem d_Mo_new_42 : decode y_Mo_new.2.2.1 42 = .ok (.putfield 22, 3) := mj_d (q := (42, .putfield 22, 3)) k_Mo_new 21 rfl
theorem d_Mo_new_45 : decode y_Mo_new.2.2.1 45 = .ok (.aload_n 0, 1) := mj_d (q := (45, .aload_n 0, 1)) k_Mo_new 22 rfl
theorem d_Mo_new_46 : decode y_Mo_new.2.2.1 46 = .ok (.sipush 845, 3) := mj_d (q := (46, .sipush 845, 3)) k_Mo_new 23 rfl
theorem d_Mo_new_49 : decode y_Mo_new.2.2.1 49 = .ok (.newarray .boolean, 2) := mj_d (q := (49, .newarray .boolean, 2)) k_Mo_new 24 rfl
theorem d_Mo_new_51 : decode y_Mo_new.2.2.1 51 = .ok (.putfield 26, 3) := mj_d (q := (51, .putfield 26, 3)) k_Mo_new 25 rfl
theorem d_Mo_new_54 : decode y_Mo_new.2.2.1 54 = .ok (.aload_n 0, 1) := mj_d (q := (54, .aload_n 0, 1)) k_Mo_new 26 rfl
theorem d_Mo_new_55 : decode y_Mo_new.2.2.1 55 = .ok (.sipush 845, 3) := mj_d (q := (55, .sipush 845, 3)) k_Mo_new 27 rfl
theorem d_Mo_new_58 : decode y_Mo_new.2.2.1 58 = .ok (.newarray .boolean, 2) := mj_d (q := (58, .newarray .boolean, 2)) k_Mo_new 28 rfl
theorem d_Mo_new_60 : decode y_Mo_new.2.2.1 60 = .ok (.putfield 29, 3) := mj_d (q := (60, .putfield 29, 3)) k_Mo_new 29 rfl
theorem d_Mo_new_63 : decode y_Mo_new.2.2.1 63 = .ok (.aload_n 0, 1) := mj_d (q := (63, .aload_n 0, 1)) k_Mo_new 30 rfl
theorem d_Mo_new_64 : decode y_Mo_new.2.2.1 64 = .ok (.sipush 845, 3) := mj_d (q := (64, .sipush 845, 3)) k_Mo_new 31 rfl
theorem d_Mo_new_67 : decode y_Mo_new.2.2.1 67 = .ok (.newarray .long, 2) := mj_d (q := (67, .newarray .long, 2)) k_Mo_new 32 rfl
theorem d_Mo_new_69 : decode y_Mo_new.2.2.1 69 = .ok (.putfield 32, 3) := mj_d (q := (69, .putfield 32, 3)) k_Mo_new 33 rfl
theorem d_Mo_new_72 : decode y_Mo_new.2.2.1 72 = .ok (.aload_n 0, 1) := mj_d (q := (72, .aload_n 0, 1)) k_Mo_new 34 rfl
theorem d_Mo_new_73 : decode y_Mo_new.2.2.1 73 = .ok (.sipush 845, 3) := mj_d (q := (73, .sipush 845, 3)) k_Mo_new 35 rfl
theorem d_Mo_new_76 : decode y_Mo_new.2.2.1 76 = .ok (.newarray .boolean, 2) := mj_d (q := (76, .newarray .boolean, 2)) k_Mo_new 36 rfl
theorem d_Mo_new_78 : decode y_Mo_new.2.2.1 78 = .ok (.putfield 36, 3) := mj_d (q := (78, .putfield 36, 3)) k_Mo_new 37 rfl
theorem d_Mo_new_81 : decode y_Mo_new.2.2.1 81 = .ok (.aload_n 0, 1) := mj_d (q := (81, .aload_n 0, 1)) k_Mo_new 38 rfl
theorem d_Mo_new_82 : decode y_Mo_new.2.2.1 82 = .ok (.sipush 900, 3) := mj_d (q := (82, .sipush 900, 3)) k_Mo_new 39 rfl
theorem d_Mo_new_85 : decode y_Mo_new.2.2.1 85 = .ok (.newarray .int, 2) := mj_d (q := (85, .newarray .int, 2)) k_Mo_new 40 rfl
theorem d_Mo_new_87 : decode y_Mo_new.2.2.1 87 = .ok (.putfield 39, 3) := mj_d (q := (87, .putfield 39, 3)) k_Mo_new 41 rfl
theorem d_Mo_new_90 : decode y_Mo_new.2.2.1 90 = .ok (.aload_n 0, 1) := mj_d (q := (90, .aload_n 0, 1)) k_Mo_new 42 rfl
theorem d_Mo_new_91 : decode y_Mo_new.2.2.1 91 = .ok (.sipush 900, 3) := mj_d (q := (91, .sipush 900, 3)) k_Mo_new 43 rfl
theorem d_Mo_new_94 : decode y_Mo_new.2.2.1 94 = .ok (.newarray .long, 2) := mj_d (q := (94, .newarray .long, 2)) k_Mo_new 44 rfl
theorem d_Mo_new_96 : decode y_Mo_new.2.2.1 96 = .ok (.putfield 42, 3) := mj_d (q := (96, .putfield 42, 3)) k_Mo_new 45 rfl
theorem d_Mo_new_99 : decode y_Mo_new.2.2.1 99 = .ok (.aload_n 0, 1) := mj_d (q := (99, .aload_n 0, 1)) k_Mo_new 46 rfl
theorem d_Mo_new_100 : decode y_Mo_new.2.2.1 100 = .ok (.iload_n 1, 1) := mj_d (q := (100, .iload_n 1, 1)) k_Mo_new 47 rfl
theorem d_Mo_new_101 : decode y_Mo_new.2.2.1 101 = .ok (.ifCond .eq 7, 3) := mj_d (q := (101, .ifCond .eq 7, 3)) k_Mo_new 48 rfl
theorem d_Mo_new_104 : decode y_Mo_new.2.2.1 104 = .ok (.iconst 1, 1) := mj_d (q := (104, .iconst 1, 1)) k_Mo_new 49 rfl
theorem d_Mo_new_105 : decode y_Mo_new.2.2.1 105 = .ok (.goto 4, 3) := mj_d (q := (105, .goto 4, 3)) k_Mo_new 50 rfl
theorem d_Mo_new_108 : decode y_Mo_new.2.2.1 108 = .ok (.iconst 0, 1) := mj_d (q := (108, .iconst 0, 1)) k_Mo_new 51 rfl
theorem d_Mo_new_109 : decode y_Mo_new.2.2.1 109 = .ok (.putfield 45, 3) := mj_d (q := (109, .putfield 45, 3)) k_Mo_new 52 rfl
theorem d_Mo_new_112 : decode y_Mo_new.2.2.1 112 = .ok (.aload_n 0, 1) := mj_d (q := (112, .aload_n 0, 1)) k_Mo_new 53 rfl
theorem d_Mo_new_113 : decode y_Mo_new.2.2.1 113 = .ok (.iconst 0, 1) := mj_d (q := (113, .iconst 0, 1)) k_Mo_new 54 rfl
theorem d_Mo_new_114 : decode y_Mo_new.2.2.1 114 = .ok (.invokevirtual 49, 3) := mj_d (q := (114, .invokevirtual 49, 3)) k_Mo_new 55 rfl
theorem d_Mo_new_117 : decode y_Mo_new.2.2.1 117 = .ok (.return_, 1) := mj_d (q := (117, .return_, 1)) k_Mo_new 56 rfl
