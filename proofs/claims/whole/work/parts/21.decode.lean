/-! ===== decode rows (by program) ===== -/
theorem d_CF_slotOf_0 : decode y_CF_slotOf.2.2.1 0 = .ok (.iload_n 0, 1) := mj_d (q := (0, .iload_n 0, 1)) k_CF_slotOf 0 rfl
theorem d_CF_slotOf_1 : decode y_CF_slotOf.2.2.1 1 = .ok (.iconst 1, 1) := mj_d (q := (1, .iconst 1, 1)) k_CF_slotOf 1 rfl
theorem d_CF_slotOf_2 : decode y_CF_slotOf.2.2.1 2 = .ok (.iadd, 1) := mj_d (q := (2, .iadd, 1)) k_CF_slotOf 2 rfl
theorem d_CF_slotOf_3 : decode y_CF_slotOf.2.2.1 3 = .ok (.iconst 4, 1) := mj_d (q := (3, .iconst 4, 1)) k_CF_slotOf 3 rfl
theorem d_CF_slotOf_4 : decode y_CF_slotOf.2.2.1 4 = .ok (.imul, 1) := mj_d (q := (4, .imul, 1)) k_CF_slotOf 4 rfl
theorem d_CF_slotOf_5 : decode y_CF_slotOf.2.2.1 5 = .ok (.iload_n 1, 1) := mj_d (q := (5, .iload_n 1, 1)) k_CF_slotOf 5 rfl
theorem d_CF_slotOf_6 : decode y_CF_slotOf.2.2.1 6 = .ok (.iadd, 1) := mj_d (q := (6, .iadd, 1)) k_CF_slotOf 6 rfl
theorem d_CF_slotOf_7 : decode y_CF_slotOf.2.2.1 7 = .ok (.ireturn, 1) := mj_d (q := (7, .ireturn, 1)) k_CF_slotOf 7 rfl
theorem d_Ch_openFirst_0 : decode y_Ch_openFirst.2.2.1 0 = .ok (.aload_n 0, 1) := mj_d (q := (0, .aload_n 0, 1)) k_Ch_openFirst 0 rfl
theorem d_Ch_openFirst_1 : decode y_Ch_openFirst.2.2.1 1 = .ok (.iconst 0, 1) := mj_d (q := (1, .iconst 0, 1)) k_Ch_openFirst 1 rfl
theorem d_Ch_openFirst_2 : decode y_Ch_openFirst.2.2.1 2 = .ok (.invokevirtual 34, 3) := mj_d (q := (2, .invokevirtual 34, 3)) k_Ch_openFirst 2 rfl
theorem d_Ch_openFirst_5 : decode y_Ch_openFirst.2.2.1 5 = .ok (.aload_n 0, 1) := mj_d (q := (5, .aload_n 0, 1)) k_Ch_openFirst 3 rfl
theorem d_Ch_openFirst_6 : decode y_Ch_openFirst.2.2.1 6 = .ok (.iconst 0, 1) := mj_d (q := (6, .iconst 0, 1)) k_Ch_openFirst 4 rfl
theorem d_Ch_openFirst_7 : decode y_Ch_openFirst.2.2.1 7 = .ok (.iconst (-1), 1) := mj_d (q := (7, .iconst (-1), 1)) k_Ch_openFirst 5 rfl
theorem d_Ch_openFirst_8 : decode y_Ch_openFirst.2.2.1 8 = .ok (.iconst 0, 1) := mj_d (q := (8, .iconst 0, 1)) k_Ch_openFirst 6 rfl
theorem d_Ch_openFirst_9 : decode y_Ch_openFirst.2.2.1 9 = .ok (.invokestatic 38, 3) := mj_d (q := (9, .invokestatic 38, 3)) k_Ch_openFirst 7 rfl
theorem d_Ch_openFirst_12 : decode y_Ch_openFirst.2.2.1 12 = .ok (.iconst 0, 1) := mj_d (q := (12, .iconst 0, 1)) k_Ch_openFirst 8 rfl
theorem d_Ch_openFirst_13 : decode y_Ch_openFirst.2.2.1 13 = .ok (.invokevirtual 42, 3) := mj_d (q := (13, .invokevirtual 42, 3)) k_Ch_openFirst 9 rfl
theorem d_Ch_openFirst_16 : decode y_Ch_openFirst.2.2.1 16 = .ok (.aload_n 0, 1) := mj_d (q := (16, .aload_n 0, 1)) k_Ch_openFirst 10 rfl
theorem d_Ch_openFirst_17 : decode y_Ch_openFirst.2.2.1 17 = .ok (.iconst 0, 1) := mj_d (q := (17, .iconst 0, 1)) k_Ch_openFirst 11 rfl
theorem d_Ch_openFirst_18 : decode y_Ch_openFirst.2.2.1 18 = .ok (.invokevirtual 46, 3) := mj_d (q := (18, .invokevirtual 46, 3)) k_Ch_openFirst 12 rfl
theorem d_Ch_openFirst_21 : decode y_Ch_openFirst.2.2.1 21 = .ok (.return_, 1) := mj_d (q := (21, .return_, 1)) k_Ch_openFirst 13 rfl
theorem d_Ch_empty_0 : decode y_Ch_empty.2.2.1 0 = .ok (.iconst 0, 1) := mj_d (q := (0, .iconst 0, 1)) k_Ch_empty 0 rfl
theorem d_Ch_empty_1 : decode y_Ch_empty.2.2.1 1 = .ok (.istore_n 2, 1) := mj_d (q := (1, .istore_n 2, 1)) k_Ch_empty 1 rfl
theorem d_Ch_empty_2 : decode y_Ch_empty.2.2.1 2 = .ok (.iload_n 2, 1) := mj_d (q := (2, .iload_n 2, 1)) k_Ch_empty 2 rfl
theorem d_Ch_empty_3 : decode y_Ch_empty.2.2.1 3 = .ok (.bipush 44, 2) := mj_d (q := (3, .bipush 44, 2)) k_Ch_empty 3 rfl
theorem d_Ch_empty_5 : decode y_Ch_empty.2.2.1 5 = .ok (.if_icmp .ge 18, 3) := mj_d (q := (5, .if_icmp .ge 18, 3)) k_Ch_empty 4 rfl
theorem d_Ch_empty_8 : decode y_Ch_empty.2.2.1 8 = .ok (.aload_n 0, 1) := mj_d (q := (8, .aload_n 0, 1)) k_Ch_empty 5 rfl
theorem d_Ch_empty_9 : decode y_Ch_empty.2.2.1 9 = .ok (.getfield 11, 3) := mj_d (q := (9, .getfield 11, 3)) k_Ch_empty 6 rfl
theorem d_Ch_empty_12 : decode y_Ch_empty.2.2.1 12 = .ok (.iload_n 1, 1) := mj_d (q := (12, .iload_n 1, 1)) k_Ch_empty 7 rfl
theorem d_Ch_empty_13 : decode y_Ch_empty.2.2.1 13 = .ok (.aaload, 1) := mj_d (q := (13, .aaload, 1)) k_Ch_empty 8 rfl
theorem d_Ch_empty_14 : decode y_Ch_empty.2.2.1 14 = .ok (.iload_n 2, 1) := mj_d (q := (14, .iload_n 2, 1)) k_Ch_empty 9 rfl
theorem d_Ch_empty_15 : decode y_Ch_empty.2.2.1 15 = .ok (.iconst 0, 1) := mj_d (q := (15, .iconst 0, 1)) k_Ch_empty 10 rfl
theorem d_Ch_empty_16 : decode y_Ch_empty.2.2.1 16 = .ok (.iastore, 1) := mj_d (q := (16, .iastore, 1)) k_Ch_empty 11 rfl
theorem d_Ch_empty_17 : decode y_Ch_empty.2.2.1 17 = .ok (.iinc 2 1, 3) := mj_d (q := (17, .iinc 2 1, 3)) k_Ch_empty 12 rfl
theorem d_Ch_empty_20 : decode y_Ch_empty.2.2.1 20 = .ok (.goto (-18), 3) := mj_d (q := (20, .goto (-18), 3)) k_Ch_empty 13 rfl
theorem d_Ch_empty_23 : decode y_Ch_empty.2.2.1 23 = .ok (.aload_n 0, 1) := mj_d (q := (23, .aload_n 0, 1)) k_Ch_empty 14 rfl
theorem d_Ch_empty_24 : decode y_Ch_empty.2.2.1 24 = .ok (.getfield 16, 3) := mj_d (q := (24, .getfield 16, 3)) k_Ch_empty 15 rfl
theorem d_Ch_empty_27 : decode y_Ch_empty.2.2.1 27 = .ok (.iload_n 1, 1) := mj_d (q := (27, .iload_n 1, 1)) k_Ch_empty 16 rfl
theorem d_Ch_empty_28 : decode y_Ch_empty.2.2.1 28 = .ok (.iconst 0, 1) := mj_d (q := (28, .iconst 0, 1)) k_Ch_empty 17 rfl
theorem d_Ch_empty_29 : decode y_Ch_empty.2.2.1 29 = .ok (.iastore, 1) := mj_d (q := (29, .iastore, 1)) k_Ch_empty 18 rfl
theorem d_Ch_empty_30 : decode y_Ch_empty.2.2.1 30 = .ok (.aload_n 0, 1) := mj_d (q := (30, .aload_n 0, 1)) k_Ch_empty 19 rfl
theorem d_Ch_empty_31 : decode y_Ch_empty.2.2.1 31 = .ok (.iconst 0, 1) := mj_d (q := (31, .iconst 0, 1)) k_Ch_empty 20 rfl
theorem d_Ch_empty_32 : decode y_Ch_empty.2.2.1 32 = .ok (.putfield 71, 3) := mj_d (q := (32, .putfield 71, 3)) k_Ch_empty 21 rfl
theorem d_Ch_empty_35 : decode y_Ch_empty.2.2.1 35 = .ok (.aload_n 0, 1) := mj_d (q := (35, .aload_n 0, 1)) k_Ch_empty 22 rfl
theorem d_Ch_empty_36 : decode y_Ch_empty.2.2.1 36 = .ok (.iconst 0, 1) := mj_d (q := (36, .iconst 0, 1)) k_Ch_empty 23 rfl
theorem d_Ch_empty_37 : decode y_Ch_empty.2.2.1 37 = .ok (.putfield 75, 3) := mj_d (q := (37, .putfield 75, 3)) k_Ch_empty 24 rfl
theorem d_Ch_empty_40 : decode y_Ch_empty.2.2.1 40 = .ok (.return_, 1) := mj_d (q := (40, .return_, 1)) k_Ch_empty 25 rfl
theorem d_Ch_put_0 : decode y_Ch_put.2.2.1 0 = .ok (.aload_n 0, 1) := mj_d (q := (0, .aload_n 0, 1)) k_Ch_put 0 rfl
theorem d_Ch_put_1 : decode y_Ch_put.2.2.1 1 = .ok (.iload_n 1, 1) := mj_d (q := (1, .iload_n 1, 1)) k_Ch_put 1 rfl
theorem d_Ch_put_2 : decode y_Ch_put.2.2.1 2 = .ok (.iload_n 2, 1) := mj_d (q := (2, .iload_n 2, 1)) k_Ch_put 2 rfl
theorem d_Ch_put_3 : decode y_Ch_put.2.2.1 3 = .ok (.iload_n 3, 1) := mj_d (q := (3, .iload_n 3, 1)) k_Ch_put 3 rfl
theorem d_Ch_put_4 : decode y_Ch_put.2.2.1 4 = .ok (.invokevirtual 78, 3) := mj_d (q := (4, .invokevirtual 78, 3)) k_Ch_put 4 rfl
theorem d_Ch_put_7 : decode y_Ch_put.2.2.1 7 = .ok (.ifCond .ne 64, 3) := mj_d (q := (7, .ifCond .ne 64, 3)) k_Ch_put 5 rfl
theorem d_Ch_put_10 : decode y_Ch_put.2.2.1 10 = .ok (.aload_n 0, 1) := mj_d (q := (10, .aload_n 0, 1)) k_Ch_put 6 rfl
theorem d_Ch_put_11 : decode y_Ch_put.2.2.1 11 = .ok (.getfield 71, 3) := mj_d (q := (11, .getfield 71, 3)) k_Ch_put 7 rfl
theorem d_Ch_put_14 : decode y_Ch_put.2.2.1 14 = .ok (.aload_n 0, 1) := mj_d (q := (14, .aload_n 0, 1)) k_Ch_put 8 rfl
theorem d_Ch_put_15 : decode y_Ch_put.2.2.1 15 = .ok (.getfield 23, 3) := mj_d (q := (15, .getfield 23, 3)) k_Ch_put 9 rfl
theorem d_Ch_put_18 : decode y_Ch_put.2.2.1 18 = .ok (.arraylength, 1) := mj_d (q := (18, .arraylength, 1)) k_Ch_put 10 rfl
theorem d_Ch_put_19 : decode y_Ch_put.2.2.1 19 = .ok (.if_icmp .ge 52, 3) := mj_d (q := (19, .if_icmp .ge 52, 3)) k_Ch_put 11 rfl
theorem d_Ch_put_22 : decode y_Ch_put.2.2.1 22 = .ok (.aload_n 0, 1) := mj_d (q := (22, .aload_n 0, 1)) k_Ch_put 12 rfl
theorem d_Ch_put_23 : decode y_Ch_put.2.2.1 23 = .ok (.getfield 11, 3) := mj_d (q := (23, .getfield 11, 3)) k_Ch_put 13 rfl
theorem d_Ch_put_26 : decode y_Ch_put.2.2.1 26 = .ok (.iload_n 1, 1) := mj_d (q := (26, .iload_n 1, 1)) k_Ch_put 14 rfl
theorem d_Ch_put_27 : decode y_Ch_put.2.2.1 27 = .ok (.aaload, 1) := mj_d (q := (27, .aaload, 1)) k_Ch_put 15 rfl
theorem d_Ch_put_28 : decode y_Ch_put.2.2.1 28 = .ok (.iload_n 2, 1) := mj_d (q := (28, .iload_n 2, 1)) k_Ch_put 16 rfl
theorem d_Ch_put_29 : decode y_Ch_put.2.2.1 29 = .ok (.dup2, 1) := mj_d (q := (29, .dup2, 1)) k_Ch_put 17 rfl
theorem d_Ch_put_30 : decode y_Ch_put.2.2.1 30 = .ok (.iaload, 1) := mj_d (q := (30, .iaload, 1)) k_Ch_put 18 rfl
theorem d_Ch_put_31 : decode y_Ch_put.2.2.1 31 = .ok (.iconst 1, 1) := mj_d (q := (31, .iconst 1, 1)) k_Ch_put 19 rfl
theorem d_Ch_put_32 : decode y_Ch_put.2.2.1 32 = .ok (.iload_n 3, 1) := mj_d (q := (32, .iload_n 3, 1)) k_Ch_put 20 rfl
theorem d_Ch_put_33 : decode y_Ch_put.2.2.1 33 = .ok (.ishl, 1) := mj_d (q := (33, .ishl, 1)) k_Ch_put 21 rfl
theorem d_Ch_put_34 : decode y_Ch_put.2.2.1 34 = .ok (.ior, 1) := mj_d (q := (34, .ior, 1)) k_Ch_put 22 rfl
theorem d_Ch_put_35 : decode y_Ch_put.2.2.1 35 = .ok (.iastore, 1) := mj_d (q := (35, .iastore, 1)) k_Ch_put 23 rfl
theorem d_Ch_put_36 : decode y_Ch_put.2.2.1 36 = .ok (.aload_n 0, 1) := mj_d (q := (36, .aload_n 0, 1)) k_Ch_put 24 rfl
theorem d_Ch_put_37 : decode y_Ch_put.2.2.1 37 = .ok (.getfield 16, 3) := mj_d (q := (37, .getfield 16, 3)) k_Ch_put 25 rfl
theorem d_Ch_put_40 : decode y_Ch_put.2.2.1 40 = .ok (.iload_n 1, 1) := mj_d (q := (40, .iload_n 1, 1)) k_Ch_put 26 rfl
theorem d_Ch_put_41 : decode y_Ch_put.2.2.1 41 = .ok (.dup2, 1) := mj_d (q := (41, .dup2, 1)) k_Ch_put 27 rfl
theorem d_Ch_put_42 : decode y_Ch_put.2.2.1 42 = .ok (.iaload, 1) := mj_d (q := (42, .iaload, 1)) k_Ch_put 28 rfl
theorem d_Ch_put_43 : decode y_Ch_put.2.2.1 43 = .ok (.iconst 1, 1) := mj_d (q := (43, .iconst 1, 1)) k_Ch_put 29 rfl
theorem d_Ch_put_44 : decode y_Ch_put.2.2.1 44 = .ok (.iadd, 1) := mj_d (q := (44, .iadd, 1)) k_Ch_put 30 rfl
theorem d_Ch_put_45 : decode y_Ch_put.2.2.1 45 = .ok (.iastore, 1) := mj_d (q := (45, .iastore, 1)) k_Ch_put 31 rfl
theorem d_Ch_put_46 : decode y_Ch_put.2.2.1 46 = .ok (.aload_n 0, 1) := mj_d (q := (46, .aload_n 0, 1)) k_Ch_put 32 rfl
theorem d_Ch_put_47 : decode y_Ch_put.2.2.1 47 = .ok (.getfield 23, 3) := mj_d (q := (47, .getfield 23, 3)) k_Ch_put 33 rfl
theorem d_Ch_put_50 : decode y_Ch_put.2.2.1 50 = .ok (.aload_n 0, 1) := mj_d (q := (50, .aload_n 0, 1)) k_Ch_put 34 rfl
theorem d_Ch_put_51 : decode y_Ch_put.2.2.1 51 = .ok (.getfield 71, 3) := mj_d (q := (51, .getfield 71, 3)) k_Ch_put 35 rfl
theorem d_Ch_put_54 : decode y_Ch_put.2.2.1 54 = .ok (.iload_n 2, 1) := mj_d (q := (54, .iload_n 2, 1)) k_Ch_put 36 rfl
theorem d_Ch_put_55 : decode y_Ch_put.2.2.1 55 = .ok (.bipush 13, 2) := mj_d (q := (55, .bipush 13, 2)) k_Ch_put 37 rfl
theorem d_Ch_put_57 : decode y_Ch_put.2.2.1 57 = .ok (.imul, 1) := mj_d (q := (57, .imul, 1)) k_Ch_put 38 rfl
theorem d_Ch_put_58 : decode y_Ch_put.2.2.1 58 = .ok (.iload_n 3, 1) := mj_d (q := (58, .iload_n 3, 1)) k_Ch_put 39 rfl
theorem d_Ch_put_59 : decode y_Ch_put.2.2.1 59 = .ok (.iadd, 1) := mj_d (q := (59, .iadd, 1)) k_Ch_put 40 rfl
theorem d_Ch_put_60 : decode y_Ch_put.2.2.1 60 = .ok (.iastore, 1) := mj_d (q := (60, .iastore, 1)) k_Ch_put 41 rfl
theorem d_Ch_put_61 : decode y_Ch_put.2.2.1 61 = .ok (.aload_n 0, 1) := mj_d (q := (61, .aload_n 0, 1)) k_Ch_put 42 rfl
theorem d_Ch_put_62 : decode y_Ch_put.2.2.1 62 = .ok (.dup, 1) := mj_d (q := (62, .dup, 1)) k_Ch_put 43 rfl
theorem d_Ch_put_63 : decode y_Ch_put.2.2.1 63 = .ok (.getfield 71, 3) := mj_d (q := (63, .getfield 71, 3)) k_Ch_put 44 rfl
theorem d_Ch_put_66 : decode y_Ch_put.2.2.1 66 = .ok (.iconst 1, 1) := mj_d (q := (66, .iconst 1, 1)) k_Ch_put 45 rfl
theorem d_Ch_put_67 : decode y_Ch_put.2.2.1 67 = .ok (.iadd, 1) := mj_d (q := (67, .iadd, 1)) k_Ch_put 46 rfl
theorem d_Ch_put_68 : decode y_Ch_put.2.2.1 68 = .ok (.putfield 71, 3) := mj_d (q := (68, .putfield 71, 3)) k_Ch_put 47 rfl
theorem d_Ch_put_71 : decode y_Ch_put.2.2.1 71 = .ok (.return_, 1) := mj_d (q := (71, .return_, 1)) k_Ch_put 48 rfl
theorem d_Ch_holds_0 : decode y_Ch_holds.2.2.1 0 = .ok (.aload_n 0, 1) := mj_d (q := (0, .aload_n 0, 1)) k_Ch_holds 0 rfl
theorem d_Ch_holds_1 : decode y_Ch_holds.2.2.1 1 = .ok (.getfield 11, 3) := mj_d (q := (1, .getfield 11, 3)) k_Ch_holds 1 rfl
theorem d_Ch_holds_4 : decode y_Ch_holds.2.2.1 4 = .ok (.iload_n 1, 1) := mj_d (q := (4, .iload_n 1, 1)) k_Ch_holds 2 rfl
theorem d_Ch_holds_5 : decode y_Ch_holds.2.2.1 5 = .ok (.aaload, 1) := mj_d (q := (5, .aaload, 1)) k_Ch_holds 3 rfl
theorem d_Ch_holds_6 : decode y_Ch_holds.2.2.1 6 = .ok (.iload_n 2, 1) := mj_d (q := (6, .iload_n 2, 1)) k_Ch_holds 4 rfl
theorem d_Ch_holds_7 : decode y_Ch_holds.2.2.1 7 = .ok (.iaload, 1) := mj_d (q := (7, .iaload, 1)) k_Ch_holds 5 rfl
theorem d_Ch_holds_8 : decode y_Ch_holds.2.2.1 8 = .ok (.iload_n 3, 1) := mj_d (q := (8, .iload_n 3, 1)) k_Ch_holds 6 rfl
theorem d_Ch_holds_9 : decode y_Ch_holds.2.2.1 9 = .ok (.iushr, 1) := mj_d (q := (9, .iushr, 1)) k_Ch_holds 7 rfl
theorem d_Ch_holds_10 : decode y_Ch_holds.2.2.1 10 = .ok (.iconst 1, 1) := mj_d (q := (10, .iconst 1, 1)) k_Ch_holds 8 rfl
theorem d_Ch_holds_11 : decode y_Ch_holds.2.2.1 11 = .ok (.iand, 1) := mj_d (q := (11, .iand, 1)) k_Ch_holds 9 rfl
theorem d_Ch_holds_12 : decode y_Ch_holds.2.2.1 12 = .ok (.ifCond .eq 7, 3) := mj_d (q := (12, .ifCond .eq 7, 3)) k_Ch_holds 10 rfl
theorem d_Ch_holds_15 : decode y_Ch_holds.2.2.1 15 = .ok (.iconst 1, 1) := mj_d (q := (15, .iconst 1, 1)) k_Ch_holds 11 rfl
theorem d_Ch_holds_16 : decode y_Ch_holds.2.2.1 16 = .ok (.goto 4, 3) := mj_d (q := (16, .goto 4, 3)) k_Ch_holds 12 rfl
theorem d_Ch_holds_19 : decode y_Ch_holds.2.2.1 19 = .ok (.iconst 0, 1) := mj_d (q := (19, .iconst 0, 1)) k_Ch_holds 13 rfl
theorem d_Ch_holds_20 : decode y_Ch_holds.2.2.1 20 = .ok (.ireturn, 1) := mj_d (q := (20, .ireturn, 1)) k_Ch_holds 14 rfl
theorem d_Ch_close_0 : decode y_Ch_close.2.2.1 0 = .ok (.iconst 0, 1) := mj_d (q := (0, .iconst 0, 1)) k_Ch_close 0 rfl
theorem d_Ch_close_1 : decode y_Ch_close.2.2.1 1 = .ok (.istore_n 2, 1) := mj_d (q := (1, .istore_n 2, 1)) k_Ch_close 1 rfl
theorem d_Ch_close_2 : decode y_Ch_close.2.2.1 2 = .ok (.iload_n 2, 1) := mj_d (q := (2, .iload_n 2, 1)) k_Ch_close 2 rfl
theorem d_Ch_close_3 : decode y_Ch_close.2.2.1 3 = .ok (.aload_n 0, 1) := mj_d (q := (3, .aload_n 0, 1)) k_Ch_close 3 rfl
theorem d_Ch_close_4 : decode y_Ch_close.2.2.1 4 = .ok (.getfield 71, 3) := mj_d (q := (4, .getfield 71, 3)) k_Ch_close 4 rfl
theorem d_Ch_close_7 : decode y_Ch_close.2.2.1 7 = .ok (.if_icmp .ge 108, 3) := mj_d (q := (7, .if_icmp .ge 108, 3)) k_Ch_close 5 rfl
theorem d_Ch_close_10 : decode y_Ch_close.2.2.1 10 = .ok (.iload_n 2, 1) := mj_d (q := (10, .iload_n 2, 1)) k_Ch_close 6 rfl
theorem d_Ch_close_11 : decode y_Ch_close.2.2.1 11 = .ok (.aload_n 0, 1) := mj_d (q := (11, .aload_n 0, 1)) k_Ch_close 7 rfl
theorem d_Ch_close_12 : decode y_Ch_close.2.2.1 12 = .ok (.getfield 23, 3) := mj_d (q := (12, .getfield 23, 3)) k_Ch_close 8 rfl
theorem d_Ch_close_15 : decode y_Ch_close.2.2.1 15 = .ok (.arraylength, 1) := mj_d (q := (15, .arraylength, 1)) k_Ch_close 9 rfl
theorem d_Ch_close_16 : decode y_Ch_close.2.2.1 16 = .ok (.if_icmp .ge 99, 3) := mj_d (q := (16, .if_icmp .ge 99, 3)) k_Ch_close 10 rfl
theorem d_Ch_close_19 : decode y_Ch_close.2.2.1 19 = .ok (.aload_n 0, 1) := mj_d (q := (19, .aload_n 0, 1)) k_Ch_close 11 rfl
theorem d_Ch_close_20 : decode y_Ch_close.2.2.1 20 = .ok (.getfield 23, 3) := mj_d (q := (20, .getfield 23, 3)) k_Ch_close 12 rfl
theorem d_Ch_close_23 : decode y_Ch_close.2.2.1 23 = .ok (.iload_n 2, 1) := mj_d (q := (23, .iload_n 2, 1)) k_Ch_close 13 rfl
theorem d_Ch_close_24 : decode y_Ch_close.2.2.1 24 = .ok (.iaload, 1) := mj_d (q := (24, .iaload, 1)) k_Ch_close 14 rfl
theorem d_Ch_close_25 : decode y_Ch_close.2.2.1 25 = .ok (.bipush 13, 2) := mj_d (q := (25, .bipush 13, 2)) k_Ch_close 15 rfl
theorem d_Ch_close_27 : decode y_Ch_close.2.2.1 27 = .ok (.idiv, 1) := mj_d (q := (27, .idiv, 1)) k_Ch_close 16 rfl
theorem d_Ch_close_28 : decode y_Ch_close.2.2.1 28 = .ok (.istore_n 3, 1) := mj_d (q := (28, .istore_n 3, 1)) k_Ch_close 17 rfl
theorem d_Ch_close_29 : decode y_Ch_close.2.2.1 29 = .ok (.aload_n 0, 1) := mj_d (q := (29, .aload_n 0, 1)) k_Ch_close 18 rfl
theorem d_Ch_close_30 : decode y_Ch_close.2.2.1 30 = .ok (.getfield 23, 3) := mj_d (q := (30, .getfield 23, 3)) k_Ch_close 19 rfl
theorem d_Ch_close_33 : decode y_Ch_close.2.2.1 33 = .ok (.iload_n 2, 1) := mj_d (q := (33, .iload_n 2, 1)) k_Ch_close 20 rfl
theorem d_Ch_close_34 : decode y_Ch_close.2.2.1 34 = .ok (.iaload, 1) := mj_d (q := (34, .iaload, 1)) k_Ch_close 21 rfl
theorem d_Ch_close_35 : decode y_Ch_close.2.2.1 35 = .ok (.bipush 13, 2) := mj_d (q := (35, .bipush 13, 2)) k_Ch_close 22 rfl
theorem d_Ch_close_37 : decode y_Ch_close.2.2.1 37 = .ok (.irem, 1) := mj_d (q := (37, .irem, 1)) k_Ch_close 23 rfl
theorem d_Ch_close_38 : decode y_Ch_close.2.2.1 38 = .ok (.istore 4, 2) := mj_d (q := (38, .istore 4, 2)) k_Ch_close 24 rfl
theorem d_Ch_close_40 : decode y_Ch_close.2.2.1 40 = .ok (.aload_n 0, 1) := mj_d (q := (40, .aload_n 0, 1)) k_Ch_close 25 rfl
theorem d_Ch_close_41 : decode y_Ch_close.2.2.1 41 = .ok (.getfield 26, 3) := mj_d (q := (41, .getfield 26, 3)) k_Ch_close 26 rfl
theorem d_Ch_close_44 : decode y_Ch_close.2.2.1 44 = .ok (.getfield 55, 3) := mj_d (q := (44, .getfield 55, 3)) k_Ch_close 27 rfl
theorem d_Ch_close_47 : decode y_Ch_close.2.2.1 47 = .ok (.iload_n 3, 1) := mj_d (q := (47, .iload_n 3, 1)) k_Ch_close 28 rfl
theorem d_Ch_close_48 : decode y_Ch_close.2.2.1 48 = .ok (.iaload, 1) := mj_d (q := (48, .iaload, 1)) k_Ch_close 29 rfl
theorem d_Ch_close_49 : decode y_Ch_close.2.2.1 49 = .ok (.istore 5, 2) := mj_d (q := (49, .istore 5, 2)) k_Ch_close 30 rfl
theorem d_Ch_close_51 : decode y_Ch_close.2.2.1 51 = .ok (.iload 5, 2) := mj_d (q := (51, .iload 5, 2)) k_Ch_close 31 rfl
theorem d_Ch_close_53 : decode y_Ch_close.2.2.1 53 = .ok (.iconst (-1), 1) := mj_d (q := (53, .iconst (-1), 1)) k_Ch_close 32 rfl
theorem d_Ch_close_54 : decode y_Ch_close.2.2.1 54 = .ok (.if_icmp .ne 18, 3) := mj_d (q := (54, .if_icmp .ne 18, 3)) k_Ch_close 33 rfl
theorem d_Ch_close_57 : decode y_Ch_close.2.2.1 57 = .ok (.aload_n 0, 1) := mj_d (q := (57, .aload_n 0, 1)) k_Ch_close 34 rfl
theorem d_Ch_close_58 : decode y_Ch_close.2.2.1 58 = .ok (.iload_n 1, 1) := mj_d (q := (58, .iload_n 1, 1)) k_Ch_close 35 rfl
theorem d_Ch_close_59 : decode y_Ch_close.2.2.1 59 = .ok (.aload_n 0, 1) := mj_d (q := (59, .aload_n 0, 1)) k_Ch_close 36 rfl
theorem d_Ch_close_60 : decode y_Ch_close.2.2.1 60 = .ok (.iload_n 3, 1) := mj_d (q := (60, .iload_n 3, 1)) k_Ch_close 37 rfl
theorem d_Ch_close_61 : decode y_Ch_close.2.2.1 61 = .ok (.invokevirtual 82, 3) := mj_d (q := (61, .invokevirtual 82, 3)) k_Ch_close 38 rfl
theorem d_Ch_close_64 : decode y_Ch_close.2.2.1 64 = .ok (.iload 4, 2) := mj_d (q := (64, .iload 4, 2)) k_Ch_close 39 rfl
theorem d_Ch_close_66 : decode y_Ch_close.2.2.1 66 = .ok (.invokevirtual 85, 3) := mj_d (q := (66, .invokevirtual 85, 3)) k_Ch_close 40 rfl
theorem d_Ch_close_69 : decode y_Ch_close.2.2.1 69 = .ok (.goto 40, 3) := mj_d (q := (69, .goto 40, 3)) k_Ch_close 41 rfl
theorem d_Ch_close_72 : decode y_Ch_close.2.2.1 72 = .ok (.iload 5, 2) := mj_d (q := (72, .iload 5, 2)) k_Ch_close 42 rfl
theorem d_Ch_close_74 : decode y_Ch_close.2.2.1 74 = .ok (.invokestatic 88, 3) := mj_d (q := (74, .invokestatic 88, 3)) k_Ch_close 43 rfl
theorem d_Ch_close_77 : decode y_Ch_close.2.2.1 77 = .ok (.ifCond .eq 32, 3) := mj_d (q := (77, .ifCond .eq 32, 3)) k_Ch_close 44 rfl
theorem d_Ch_close_80 : decode y_Ch_close.2.2.1 80 = .ok (.aload_n 0, 1) := mj_d (q := (80, .aload_n 0, 1)) k_Ch_close 45 rfl
theorem d_Ch_close_81 : decode y_Ch_close.2.2.1 81 = .ok (.iload_n 1, 1) := mj_d (q := (81, .iload_n 1, 1)) k_Ch_close 46 rfl
theorem d_Ch_close_82 : decode y_Ch_close.2.2.1 82 = .ok (.iload 5, 2) := mj_d (q := (82, .iload 5, 2)) k_Ch_close 47 rfl
theorem d_Ch_close_84 : decode y_Ch_close.2.2.1 84 = .ok (.invokevirtual 91, 3) := mj_d (q := (84, .invokevirtual 91, 3)) k_Ch_close 48 rfl
theorem d_Ch_close_87 : decode y_Ch_close.2.2.1 87 = .ok (.aload_n 0, 1) := mj_d (q := (87, .aload_n 0, 1)) k_Ch_close 49 rfl
theorem d_Ch_close_88 : decode y_Ch_close.2.2.1 88 = .ok (.getfield 75, 3) := mj_d (q := (88, .getfield 75, 3)) k_Ch_close 50 rfl
theorem d_Ch_close_91 : decode y_Ch_close.2.2.1 91 = .ok (.iload 5, 2) := mj_d (q := (91, .iload 5, 2)) k_Ch_close 51 rfl
theorem d_Ch_close_93 : decode y_Ch_close.2.2.1 93 = .ok (.iushr, 1) := mj_d (q := (93, .iushr, 1)) k_Ch_close 52 rfl
theorem d_Ch_close_94 : decode y_Ch_close.2.2.1 94 = .ok (.iconst 1, 1) := mj_d (q := (94, .iconst 1, 1)) k_Ch_close 53 rfl
theorem d_Ch_close_95 : decode y_Ch_close.2.2.1 95 = .ok (.iand, 1) := mj_d (q := (95, .iand, 1)) k_Ch_close 54 rfl
theorem d_Ch_close_96 : decode y_Ch_close.2.2.1 96 = .ok (.ifCond .eq 13, 3) := mj_d (q := (96, .ifCond .eq 13, 3)) k_Ch_close 55 rfl
theorem d_Ch_close_99 : decode y_Ch_close.2.2.1 99 = .ok (.aload_n 0, 1) := mj_d (q := (99, .aload_n 0, 1)) k_Ch_close 56 rfl
theorem d_Ch_close_100 : decode y_Ch_close.2.2.1 100 = .ok (.iload_n 1, 1) := mj_d (q := (100, .iload_n 1, 1)) k_Ch_close 57 rfl
theorem d_Ch_close_101 : decode y_Ch_close.2.2.1 101 = .ok (.iload_n 3, 1) := mj_d (q := (101, .iload_n 3, 1)) k_Ch_close 58 rfl
theorem d_Ch_close_102 : decode y_Ch_close.2.2.1 102 = .ok (.iconst 1, 1) := mj_d (q := (102, .iconst 1, 1)) k_Ch_close 59 rfl
theorem d_Ch_close_103 : decode y_Ch_close.2.2.1 103 = .ok (.iadd, 1) := mj_d (q := (103, .iadd, 1)) k_Ch_close 60 rfl
theorem d_Ch_close_104 : decode y_Ch_close.2.2.1 104 = .ok (.iload 4, 2) := mj_d (q := (104, .iload 4, 2)) k_Ch_close 61 rfl
theorem d_Ch_close_106 : decode y_Ch_close.2.2.1 106 = .ok (.invokevirtual 42, 3) := mj_d (q := (106, .invokevirtual 42, 3)) k_Ch_close 62 rfl
theorem d_Ch_close_109 : decode y_Ch_close.2.2.1 109 = .ok (.iinc 2 1, 3) := mj_d (q := (109, .iinc 2 1, 3)) k_Ch_close 63 rfl
theorem d_Ch_close_112 : decode y_Ch_close.2.2.1 112 = .ok (.goto (-110), 3) := mj_d (q := (112, .goto (-110), 3)) k_Ch_close 64 rfl
theorem d_Ch_close_115 : decode y_Ch_close.2.2.1 115 = .ok (.return_, 1) := mj_d (q := (115, .return_, 1)) k_Ch_close 65 rfl
theorem d_Ch_leftSide_0 : decode y_Ch_leftSide.2.2.1 0 = .ok (.aload_n 0, 1) := mj_d (q := (0, .aload_n 0, 1)) k_Ch_leftSide 0 rfl
theorem d_Ch_leftSide_1 : decode y_Ch_leftSide.2.2.1 1 = .ok (.getfield 26, 3) := mj_d (q := (1, .getfield 26, 3)) k_Ch_leftSide 1 rfl
theorem d_Ch_leftSide_4 : decode y_Ch_leftSide.2.2.1 4 = .ok (.iload_n 1, 1) := mj_d (q := (4, .iload_n 1, 1)) k_Ch_leftSide 2 rfl
theorem d_Ch_leftSide_5 : decode y_Ch_leftSide.2.2.1 5 = .ok (.iconst 4, 1) := mj_d (q := (5, .iconst 4, 1)) k_Ch_leftSide 3 rfl
theorem d_Ch_leftSide_6 : decode y_Ch_leftSide.2.2.1 6 = .ok (.idiv, 1) := mj_d (q := (6, .idiv, 1)) k_Ch_leftSide 4 rfl
theorem d_Ch_leftSide_7 : decode y_Ch_leftSide.2.2.1 7 = .ok (.iconst 1, 1) := mj_d (q := (7, .iconst 1, 1)) k_Ch_leftSide 5 rfl
theorem d_Ch_leftSide_8 : decode y_Ch_leftSide.2.2.1 8 = .ok (.isub, 1) := mj_d (q := (8, .isub, 1)) k_Ch_leftSide 6 rfl
theorem d_Ch_leftSide_9 : decode y_Ch_leftSide.2.2.1 9 = .ok (.invokevirtual 68, 3) := mj_d (q := (9, .invokevirtual 68, 3)) k_Ch_leftSide 7 rfl
theorem d_Ch_leftSide_12 : decode y_Ch_leftSide.2.2.1 12 = .ok (.ireturn, 1) := mj_d (q := (12, .ireturn, 1)) k_Ch_leftSide 8 rfl
theorem d_Gr_leftOf_0 : decode y_Gr_leftOf.2.2.1 0 = .ok (.iload_n 1, 1) := mj_d (q := (0, .iload_n 1, 1)) k_Gr_leftOf 0 rfl
theorem d_Gr_leftOf_1 : decode y_Gr_leftOf.2.2.1 1 = .ok (.ifCond .lt 20, 3) := mj_d (q := (1, .ifCond .lt 20, 3)) k_Gr_leftOf 1 rfl
theorem d_Gr_leftOf_4 : decode y_Gr_leftOf.2.2.1 4 = .ok (.iload_n 1, 1) := mj_d (q := (4, .iload_n 1, 1)) k_Gr_leftOf 2 rfl
theorem d_Gr_leftOf_5 : decode y_Gr_leftOf.2.2.1 5 = .ok (.aload_n 0, 1) := mj_d (q := (5, .aload_n 0, 1)) k_Gr_leftOf 3 rfl
theorem d_Gr_leftOf_6 : decode y_Gr_leftOf.2.2.1 6 = .ok (.getfield 22, 3) := mj_d (q := (6, .getfield 22, 3)) k_Gr_leftOf 4 rfl
theorem d_Gr_leftOf_9 : decode y_Gr_leftOf.2.2.1 9 = .ok (.if_icmp .ge 12, 3) := mj_d (q := (9, .if_icmp .ge 12, 3)) k_Gr_leftOf 5 rfl
theorem d_Gr_leftOf_12 : decode y_Gr_leftOf.2.2.1 12 = .ok (.aload_n 0, 1) := mj_d (q := (12, .aload_n 0, 1)) k_Gr_leftOf 6 rfl
theorem d_Gr_leftOf_13 : decode y_Gr_leftOf.2.2.1 13 = .ok (.getfield 9, 3) := mj_d (q := (13, .getfield 9, 3)) k_Gr_leftOf 7 rfl
theorem d_Gr_leftOf_16 : decode y_Gr_leftOf.2.2.1 16 = .ok (.iload_n 1, 1) := mj_d (q := (16, .iload_n 1, 1)) k_Gr_leftOf 8 rfl
theorem d_Gr_leftOf_17 : decode y_Gr_leftOf.2.2.1 17 = .ok (.iaload, 1) := mj_d (q := (17, .iaload, 1)) k_Gr_leftOf 9 rfl
theorem d_Gr_leftOf_18 : decode y_Gr_leftOf.2.2.1 18 = .ok (.goto 4, 3) := mj_d (q := (18, .goto 4, 3)) k_Gr_leftOf 10 rfl
theorem d_Gr_leftOf_21 : decode y_Gr_leftOf.2.2.1 21 = .ok (.iconst (-1), 1) := mj_d (q := (21, .iconst (-1), 1)) k_Gr_leftOf 11 rfl
theorem d_Gr_leftOf_22 : decode y_Gr_leftOf.2.2.1 22 = .ok (.ireturn, 1) := mj_d (q := (22, .ireturn, 1)) k_Gr_leftOf 12 rfl
theorem d_Ch_complete_0 : decode y_Ch_complete.2.2.1 0 = .ok (.iload_n 2, 1) := mj_d (q := (0, .iload_n 2, 1)) k_Ch_complete 0 rfl
theorem d_Ch_complete_1 : decode y_Ch_complete.2.2.1 1 = .ok (.iconst (-1), 1) := mj_d (q := (1, .iconst (-1), 1)) k_Ch_complete 1 rfl
theorem d_Ch_complete_2 : decode y_Ch_complete.2.2.1 2 = .ok (.if_icmp .ne 4, 3) := mj_d (q := (2, .if_icmp .ne 4, 3)) k_Ch_complete 2 rfl
theorem d_Ch_complete_5 : decode y_Ch_complete.2.2.1 5 = .ok (.return_, 1) := mj_d (q := (5, .return_, 1)) k_Ch_complete 3 rfl
theorem d_Ch_complete_6 : decode y_Ch_complete.2.2.1 6 = .ok (.iload_n 3, 1) := mj_d (q := (6, .iload_n 3, 1)) k_Ch_complete 4 rfl
theorem d_Ch_complete_7 : decode y_Ch_complete.2.2.1 7 = .ok (.iload_n 1, 1) := mj_d (q := (7, .iload_n 1, 1)) k_Ch_complete 5 rfl
theorem d_Ch_complete_8 : decode y_Ch_complete.2.2.1 8 = .ok (.if_icmp .ne 15, 3) := mj_d (q := (8, .if_icmp .ne 15, 3)) k_Ch_complete 6 rfl
theorem d_Ch_complete_11 : decode y_Ch_complete.2.2.1 11 = .ok (.aload_n 0, 1) := mj_d (q := (11, .aload_n 0, 1)) k_Ch_complete 7 rfl
theorem d_Ch_complete_12 : decode y_Ch_complete.2.2.1 12 = .ok (.dup, 1) := mj_d (q := (12, .dup, 1)) k_Ch_complete 8 rfl
theorem d_Ch_complete_13 : decode y_Ch_complete.2.2.1 13 = .ok (.getfield 75, 3) := mj_d (q := (13, .getfield 75, 3)) k_Ch_complete 9 rfl
theorem d_Ch_complete_16 : decode y_Ch_complete.2.2.1 16 = .ok (.iconst 1, 1) := mj_d (q := (16, .iconst 1, 1)) k_Ch_complete 10 rfl
theorem d_Ch_complete_17 : decode y_Ch_complete.2.2.1 17 = .ok (.iload_n 2, 1) := mj_d (q := (17, .iload_n 2, 1)) k_Ch_complete 11 rfl
theorem d_Ch_complete_18 : decode y_Ch_complete.2.2.1 18 = .ok (.ishl, 1) := mj_d (q := (18, .ishl, 1)) k_Ch_complete 12 rfl
theorem d_Ch_complete_19 : decode y_Ch_complete.2.2.1 19 = .ok (.ior, 1) := mj_d (q := (19, .ior, 1)) k_Ch_complete 13 rfl
theorem d_Ch_complete_20 : decode y_Ch_complete.2.2.1 20 = .ok (.putfield 75, 3) := mj_d (q := (20, .putfield 75, 3)) k_Ch_complete 14 rfl
theorem d_Ch_complete_23 : decode y_Ch_complete.2.2.1 23 = .ok (.iload_n 3, 1) := mj_d (q := (23, .iload_n 3, 1)) k_Ch_complete 15 rfl
theorem d_Ch_complete_24 : decode y_Ch_complete.2.2.1 24 = .ok (.iload_n 1, 1) := mj_d (q := (24, .iload_n 1, 1)) k_Ch_complete 16 rfl
theorem d_Ch_complete_25 : decode y_Ch_complete.2.2.1 25 = .ok (.if_icmp .ge 45, 3) := mj_d (q := (25, .if_icmp .ge 45, 3)) k_Ch_complete 17 rfl
theorem d_Ch_complete_28 : decode y_Ch_complete.2.2.1 28 = .ok (.aload_n 0, 1) := mj_d (q := (28, .aload_n 0, 1)) k_Ch_complete 18 rfl
theorem d_Ch_complete_29 : decode y_Ch_complete.2.2.1 29 = .ok (.getfield 20, 3) := mj_d (q := (29, .getfield 20, 3)) k_Ch_complete 19 rfl
theorem d_Ch_complete_32 : decode y_Ch_complete.2.2.1 32 = .ok (.iload_n 3, 1) := mj_d (q := (32, .iload_n 3, 1)) k_Ch_complete 20 rfl
theorem d_Ch_complete_33 : decode y_Ch_complete.2.2.1 33 = .ok (.aaload, 1) := mj_d (q := (33, .aaload, 1)) k_Ch_complete 21 rfl
theorem d_Ch_complete_34 : decode y_Ch_complete.2.2.1 34 = .ok (.iload_n 2, 1) := mj_d (q := (34, .iload_n 2, 1)) k_Ch_complete 22 rfl
theorem d_Ch_complete_35 : decode y_Ch_complete.2.2.1 35 = .ok (.iaload, 1) := mj_d (q := (35, .iaload, 1)) k_Ch_complete 23 rfl
theorem d_Ch_complete_36 : decode y_Ch_complete.2.2.1 36 = .ok (.iconst (-1), 1) := mj_d (q := (36, .iconst (-1), 1)) k_Ch_complete 24 rfl
theorem d_Ch_complete_37 : decode y_Ch_complete.2.2.1 37 = .ok (.if_icmp .eq 33, 3) := mj_d (q := (37, .if_icmp .eq 33, 3)) k_Ch_complete 25 rfl
theorem d_Ch_complete_40 : decode y_Ch_complete.2.2.1 40 = .ok (.aload_n 0, 1) := mj_d (q := (40, .aload_n 0, 1)) k_Ch_complete 26 rfl
theorem d_Ch_complete_41 : decode y_Ch_complete.2.2.1 41 = .ok (.iload_n 1, 1) := mj_d (q := (41, .iload_n 1, 1)) k_Ch_complete 27 rfl
theorem d_Ch_complete_42 : decode y_Ch_complete.2.2.1 42 = .ok (.aload_n 0, 1) := mj_d (q := (42, .aload_n 0, 1)) k_Ch_complete 28 rfl
theorem d_Ch_complete_43 : decode y_Ch_complete.2.2.1 43 = .ok (.getfield 20, 3) := mj_d (q := (43, .getfield 20, 3)) k_Ch_complete 29 rfl
theorem d_Ch_complete_46 : decode y_Ch_complete.2.2.1 46 = .ok (.iload_n 3, 1) := mj_d (q := (46, .iload_n 3, 1)) k_Ch_complete 30 rfl
theorem d_Ch_complete_47 : decode y_Ch_complete.2.2.1 47 = .ok (.aaload, 1) := mj_d (q := (47, .aaload, 1)) k_Ch_complete 31 rfl
theorem d_Ch_complete_48 : decode y_Ch_complete.2.2.1 48 = .ok (.iload_n 2, 1) := mj_d (q := (48, .iload_n 2, 1)) k_Ch_complete 32 rfl
theorem d_Ch_complete_49 : decode y_Ch_complete.2.2.1 49 = .ok (.iaload, 1) := mj_d (q := (49, .iaload, 1)) k_Ch_complete 33 rfl
theorem d_Ch_complete_50 : decode y_Ch_complete.2.2.1 50 = .ok (.bipush 13, 2) := mj_d (q := (50, .bipush 13, 2)) k_Ch_complete 34 rfl
theorem d_Ch_complete_52 : decode y_Ch_complete.2.2.1 52 = .ok (.idiv, 1) := mj_d (q := (52, .idiv, 1)) k_Ch_complete 35 rfl
theorem d_Ch_complete_53 : decode y_Ch_complete.2.2.1 53 = .ok (.aload_n 0, 1) := mj_d (q := (53, .aload_n 0, 1)) k_Ch_complete 36 rfl
theorem d_Ch_complete_54 : decode y_Ch_complete.2.2.1 54 = .ok (.getfield 20, 3) := mj_d (q := (54, .getfield 20, 3)) k_Ch_complete 37 rfl
theorem d_Ch_complete_57 : decode y_Ch_complete.2.2.1 57 = .ok (.iload_n 3, 1) := mj_d (q := (57, .iload_n 3, 1)) k_Ch_complete 38 rfl
theorem d_Ch_complete_58 : decode y_Ch_complete.2.2.1 58 = .ok (.aaload, 1) := mj_d (q := (58, .aaload, 1)) k_Ch_complete 39 rfl
theorem d_Ch_complete_59 : decode y_Ch_complete.2.2.1 59 = .ok (.iload_n 2, 1) := mj_d (q := (59, .iload_n 2, 1)) k_Ch_complete 40 rfl
theorem d_Ch_complete_60 : decode y_Ch_complete.2.2.1 60 = .ok (.iaload, 1) := mj_d (q := (60, .iaload, 1)) k_Ch_complete 41 rfl
theorem d_Ch_complete_61 : decode y_Ch_complete.2.2.1 61 = .ok (.bipush 13, 2) := mj_d (q := (61, .bipush 13, 2)) k_Ch_complete 42 rfl
theorem d_Ch_complete_63 : decode y_Ch_complete.2.2.1 63 = .ok (.irem, 1) := mj_d (q := (63, .irem, 1)) k_Ch_complete 43 rfl
theorem d_Ch_complete_64 : decode y_Ch_complete.2.2.1 64 = .ok (.invokevirtual 42, 3) := mj_d (q := (64, .invokevirtual 42, 3)) k_Ch_complete 44 rfl
theorem d_Ch_complete_67 : decode y_Ch_complete.2.2.1 67 = .ok (.goto 10, 3) := mj_d (q := (67, .goto 10, 3)) k_Ch_complete 45 rfl
theorem d_Ch_complete_70 : decode y_Ch_complete.2.2.1 70 = .ok (.aload_n 0, 1) := mj_d (q := (70, .aload_n 0, 1)) k_Ch_complete 46 rfl
theorem d_Ch_complete_71 : decode y_Ch_complete.2.2.1 71 = .ok (.iload_n 3, 1) := mj_d (q := (71, .iload_n 3, 1)) k_Ch_complete 47 rfl
theorem d_Ch_complete_72 : decode y_Ch_complete.2.2.1 72 = .ok (.iload_n 2, 1) := mj_d (q := (72, .iload_n 2, 1)) k_Ch_complete 48 rfl
theorem d_Ch_complete_73 : decode y_Ch_complete.2.2.1 73 = .ok (.iload_n 1, 1) := mj_d (q := (73, .iload_n 1, 1)) k_Ch_complete 49 rfl
theorem d_Ch_complete_74 : decode y_Ch_complete.2.2.1 74 = .ok (.invokevirtual 52, 3) := mj_d (q := (74, .invokevirtual 52, 3)) k_Ch_complete 50 rfl
theorem d_Ch_complete_77 : decode y_Ch_complete.2.2.1 77 = .ok (.return_, 1) := mj_d (q := (77, .return_, 1)) k_Ch_complete 51 rfl
theorem d_Ch_advance_0 : decode y_Ch_advance.2.2.1 0 = .ok (.iconst 0, 1) := mj_d (q := (0, .iconst 0, 1)) k_Ch_advance 0 rfl
theorem d_Ch_advance_1 : decode y_Ch_advance.2.2.1 1 = .ok (.istore 4, 2) := mj_d (q := (1, .istore 4, 2)) k_Ch_advance 1 rfl
theorem d_Ch_advance_3 : decode y_Ch_advance.2.2.1 3 = .ok (.iload 4, 2) := mj_d (q := (3, .iload 4, 2)) k_Ch_advance 2 rfl
theorem d_Ch_advance_5 : decode y_Ch_advance.2.2.1 5 = .ok (.bipush 44, 2) := mj_d (q := (5, .bipush 44, 2)) k_Ch_advance 3 rfl
theorem d_Ch_advance_7 : decode y_Ch_advance.2.2.1 7 = .ok (.if_icmp .ge 73, 3) := mj_d (q := (7, .if_icmp .ge 73, 3)) k_Ch_advance 4 rfl
theorem d_Ch_advance_10 : decode y_Ch_advance.2.2.1 10 = .ok (.aload_n 0, 1) := mj_d (q := (10, .aload_n 0, 1)) k_Ch_advance 5 rfl
theorem d_Ch_advance_11 : decode y_Ch_advance.2.2.1 11 = .ok (.getfield 11, 3) := mj_d (q := (11, .getfield 11, 3)) k_Ch_advance 6 rfl
theorem d_Ch_advance_14 : decode y_Ch_advance.2.2.1 14 = .ok (.iload_n 1, 1) := mj_d (q := (14, .iload_n 1, 1)) k_Ch_advance 7 rfl
theorem d_Ch_advance_15 : decode y_Ch_advance.2.2.1 15 = .ok (.aaload, 1) := mj_d (q := (15, .aaload, 1)) k_Ch_advance 8 rfl
theorem d_Ch_advance_16 : decode y_Ch_advance.2.2.1 16 = .ok (.iload 4, 2) := mj_d (q := (16, .iload 4, 2)) k_Ch_advance 9 rfl
theorem d_Ch_advance_18 : decode y_Ch_advance.2.2.1 18 = .ok (.iaload, 1) := mj_d (q := (18, .iaload, 1)) k_Ch_advance 10 rfl
theorem d_Ch_advance_19 : decode y_Ch_advance.2.2.1 19 = .ok (.ifCond .eq 55, 3) := mj_d (q := (19, .ifCond .eq 55, 3)) k_Ch_advance 11 rfl
theorem d_Ch_advance_22 : decode y_Ch_advance.2.2.1 22 = .ok (.aload_n 0, 1) := mj_d (q := (22, .aload_n 0, 1)) k_Ch_advance 12 rfl
theorem d_Ch_advance_23 : decode y_Ch_advance.2.2.1 23 = .ok (.getfield 26, 3) := mj_d (q := (23, .getfield 26, 3)) k_Ch_advance 13 rfl
theorem d_Ch_advance_26 : decode y_Ch_advance.2.2.1 26 = .ok (.getfield 55, 3) := mj_d (q := (26, .getfield 55, 3)) k_Ch_advance 14 rfl
theorem d_Ch_advance_29 : decode y_Ch_advance.2.2.1 29 = .ok (.iload 4, 2) := mj_d (q := (29, .iload 4, 2)) k_Ch_advance 15 rfl
theorem d_Ch_advance_31 : decode y_Ch_advance.2.2.1 31 = .ok (.iaload, 1) := mj_d (q := (31, .iaload, 1)) k_Ch_advance 16 rfl
theorem d_Ch_advance_32 : decode y_Ch_advance.2.2.1 32 = .ok (.iload_n 2, 1) := mj_d (q := (32, .iload_n 2, 1)) k_Ch_advance 17 rfl
theorem d_Ch_advance_33 : decode y_Ch_advance.2.2.1 33 = .ok (.if_icmp .ne 41, 3) := mj_d (q := (33, .if_icmp .ne 41, 3)) k_Ch_advance 18 rfl
theorem d_Ch_advance_36 : decode y_Ch_advance.2.2.1 36 = .ok (.iconst 0, 1) := mj_d (q := (36, .iconst 0, 1)) k_Ch_advance 19 rfl
theorem d_Ch_advance_37 : decode y_Ch_advance.2.2.1 37 = .ok (.istore 5, 2) := mj_d (q := (37, .istore 5, 2)) k_Ch_advance 20 rfl
theorem d_Ch_advance_39 : decode y_Ch_advance.2.2.1 39 = .ok (.iload 5, 2) := mj_d (q := (39, .iload 5, 2)) k_Ch_advance 21 rfl
theorem d_Ch_advance_41 : decode y_Ch_advance.2.2.1 41 = .ok (.iload_n 1, 1) := mj_d (q := (41, .iload_n 1, 1)) k_Ch_advance 22 rfl
theorem d_Ch_advance_42 : decode y_Ch_advance.2.2.1 42 = .ok (.if_icmp .gt 32, 3) := mj_d (q := (42, .if_icmp .gt 32, 3)) k_Ch_advance 23 rfl
theorem d_Ch_advance_45 : decode y_Ch_advance.2.2.1 45 = .ok (.aload_n 0, 1) := mj_d (q := (45, .aload_n 0, 1)) k_Ch_advance 24 rfl
theorem d_Ch_advance_46 : decode y_Ch_advance.2.2.1 46 = .ok (.iload_n 1, 1) := mj_d (q := (46, .iload_n 1, 1)) k_Ch_advance 25 rfl
theorem d_Ch_advance_47 : decode y_Ch_advance.2.2.1 47 = .ok (.iload 4, 2) := mj_d (q := (47, .iload 4, 2)) k_Ch_advance 26 rfl
theorem d_Ch_advance_49 : decode y_Ch_advance.2.2.1 49 = .ok (.iload 5, 2) := mj_d (q := (49, .iload 5, 2)) k_Ch_advance 27 rfl
theorem d_Ch_advance_51 : decode y_Ch_advance.2.2.1 51 = .ok (.invokevirtual 78, 3) := mj_d (q := (51, .invokevirtual 78, 3)) k_Ch_advance 28 rfl
theorem d_Ch_advance_54 : decode y_Ch_advance.2.2.1 54 = .ok (.ifCond .eq 14, 3) := mj_d (q := (54, .ifCond .eq 14, 3)) k_Ch_advance 29 rfl
theorem d_Ch_advance_57 : decode y_Ch_advance.2.2.1 57 = .ok (.aload_n 0, 1) := mj_d (q := (57, .aload_n 0, 1)) k_Ch_advance 30 rfl
theorem d_Ch_advance_58 : decode y_Ch_advance.2.2.1 58 = .ok (.iload_n 3, 1) := mj_d (q := (58, .iload_n 3, 1)) k_Ch_advance 31 rfl
theorem d_Ch_advance_59 : decode y_Ch_advance.2.2.1 59 = .ok (.iload 4, 2) := mj_d (q := (59, .iload 4, 2)) k_Ch_advance 32 rfl
theorem d_Ch_advance_61 : decode y_Ch_advance.2.2.1 61 = .ok (.iconst 1, 1) := mj_d (q := (61, .iconst 1, 1)) k_Ch_advance 33 rfl
theorem d_Ch_advance_62 : decode y_Ch_advance.2.2.1 62 = .ok (.iadd, 1) := mj_d (q := (62, .iadd, 1)) k_Ch_advance 34 rfl
theorem d_Ch_advance_63 : decode y_Ch_advance.2.2.1 63 = .ok (.iload 5, 2) := mj_d (q := (63, .iload 5, 2)) k_Ch_advance 35 rfl
theorem d_Ch_advance_65 : decode y_Ch_advance.2.2.1 65 = .ok (.invokevirtual 42, 3) := mj_d (q := (65, .invokevirtual 42, 3)) k_Ch_advance 36 rfl
theorem d_Ch_advance_68 : decode y_Ch_advance.2.2.1 68 = .ok (.iinc 5 1, 3) := mj_d (q := (68, .iinc 5 1, 3)) k_Ch_advance 37 rfl
theorem d_Ch_advance_71 : decode y_Ch_advance.2.2.1 71 = .ok (.goto (-32), 3) := mj_d (q := (71, .goto (-32), 3)) k_Ch_advance 38 rfl
theorem d_Ch_advance_74 : decode y_Ch_advance.2.2.1 74 = .ok (.iinc 4 1, 3) := mj_d (q := (74, .iinc 4 1, 3)) k_Ch_advance 39 rfl
theorem d_Ch_advance_77 : decode y_Ch_advance.2.2.1 77 = .ok (.goto (-74), 3) := mj_d (q := (77, .goto (-74), 3)) k_Ch_advance 40 rfl
theorem d_Ch_advance_80 : decode y_Ch_advance.2.2.1 80 = .ok (.return_, 1) := mj_d (q := (80, .return_, 1)) k_Ch_advance 41 rfl
theorem d_CF_isNonterminal_0 : decode y_CF_isNonterminal.2.2.1 0 = .ok (.iload_n 0, 1) := mj_d (q := (0, .iload_n 0, 1)) k_CF_isNonterminal 0 rfl
theorem d_CF_isNonterminal_1 : decode y_CF_isNonterminal.2.2.1 1 = .ok (.ifCond .lt 12, 3) := mj_d (q := (1, .ifCond .lt 12, 3)) k_CF_isNonterminal 1 rfl
theorem d_CF_isNonterminal_4 : decode y_CF_isNonterminal.2.2.1 4 = .ok (.iload_n 0, 1) := mj_d (q := (4, .iload_n 0, 1)) k_CF_isNonterminal 2 rfl
theorem d_CF_isNonterminal_5 : decode y_CF_isNonterminal.2.2.1 5 = .ok (.iconst 5, 1) := mj_d (q := (5, .iconst 5, 1)) k_CF_isNonterminal 3 rfl
theorem d_CF_isNonterminal_6 : decode y_CF_isNonterminal.2.2.1 6 = .ok (.if_icmp .ge 7, 3) := mj_d (q := (6, .if_icmp .ge 7, 3)) k_CF_isNonterminal 4 rfl
theorem d_CF_isNonterminal_9 : decode y_CF_isNonterminal.2.2.1 9 = .ok (.iconst 1, 1) := mj_d (q := (9, .iconst 1, 1)) k_CF_isNonterminal 5 rfl
theorem d_CF_isNonterminal_10 : decode y_CF_isNonterminal.2.2.1 10 = .ok (.goto 4, 3) := mj_d (q := (10, .goto 4, 3)) k_CF_isNonterminal 6 rfl
theorem d_CF_isNonterminal_13 : decode y_CF_isNonterminal.2.2.1 13 = .ok (.iconst 0, 1) := mj_d (q := (13, .iconst 0, 1)) k_CF_isNonterminal 7 rfl
theorem d_CF_isNonterminal_14 : decode y_CF_isNonterminal.2.2.1 14 = .ok (.ireturn, 1) := mj_d (q := (14, .ireturn, 1)) k_CF_isNonterminal 8 rfl
theorem d_Ch_predict_0 : decode y_Ch_predict.2.2.1 0 = .ok (.iconst 0, 1) := mj_d (q := (0, .iconst 0, 1)) k_Ch_predict 0 rfl
theorem d_Ch_predict_1 : decode y_Ch_predict.2.2.1 1 = .ok (.istore_n 3, 1) := mj_d (q := (1, .istore_n 3, 1)) k_Ch_predict 1 rfl
theorem d_Ch_predict_2 : decode y_Ch_predict.2.2.1 2 = .ok (.iload_n 3, 1) := mj_d (q := (2, .iload_n 3, 1)) k_Ch_predict 2 rfl
theorem d_Ch_predict_3 : decode y_Ch_predict.2.2.1 3 = .ok (.aload_n 0, 1) := mj_d (q := (3, .aload_n 0, 1)) k_Ch_predict 3 rfl
theorem d_Ch_predict_4 : decode y_Ch_predict.2.2.1 4 = .ok (.getfield 26, 3) := mj_d (q := (4, .getfield 26, 3)) k_Ch_predict 4 rfl
theorem d_Ch_predict_7 : decode y_Ch_predict.2.2.1 7 = .ok (.getfield 95, 3) := mj_d (q := (7, .getfield 95, 3)) k_Ch_predict 5 rfl
theorem d_Ch_predict_10 : decode y_Ch_predict.2.2.1 10 = .ok (.if_icmp .ge 32, 3) := mj_d (q := (10, .if_icmp .ge 32, 3)) k_Ch_predict 6 rfl
theorem d_Ch_predict_13 : decode y_Ch_predict.2.2.1 13 = .ok (.aload_n 0, 1) := mj_d (q := (13, .aload_n 0, 1)) k_Ch_predict 7 rfl
theorem d_Ch_predict_14 : decode y_Ch_predict.2.2.1 14 = .ok (.getfield 26, 3) := mj_d (q := (14, .getfield 26, 3)) k_Ch_predict 8 rfl
theorem d_Ch_predict_17 : decode y_Ch_predict.2.2.1 17 = .ok (.iload_n 3, 1) := mj_d (q := (17, .iload_n 3, 1)) k_Ch_predict 9 rfl
theorem d_Ch_predict_18 : decode y_Ch_predict.2.2.1 18 = .ok (.invokevirtual 68, 3) := mj_d (q := (18, .invokevirtual 68, 3)) k_Ch_predict 10 rfl
theorem d_Ch_predict_21 : decode y_Ch_predict.2.2.1 21 = .ok (.iload_n 2, 1) := mj_d (q := (21, .iload_n 2, 1)) k_Ch_predict 11 rfl
theorem d_Ch_predict_22 : decode y_Ch_predict.2.2.1 22 = .ok (.if_icmp .ne 14, 3) := mj_d (q := (22, .if_icmp .ne 14, 3)) k_Ch_predict 12 rfl
theorem d_Ch_predict_25 : decode y_Ch_predict.2.2.1 25 = .ok (.aload_n 0, 1) := mj_d (q := (25, .aload_n 0, 1)) k_Ch_predict 13 rfl
theorem d_Ch_predict_26 : decode y_Ch_predict.2.2.1 26 = .ok (.iload_n 1, 1) := mj_d (q := (26, .iload_n 1, 1)) k_Ch_predict 14 rfl
theorem d_Ch_predict_27 : decode y_Ch_predict.2.2.1 27 = .ok (.iload_n 3, 1) := mj_d (q := (27, .iload_n 3, 1)) k_Ch_predict 15 rfl
theorem d_Ch_predict_28 : decode y_Ch_predict.2.2.1 28 = .ok (.iconst 0, 1) := mj_d (q := (28, .iconst 0, 1)) k_Ch_predict 16 rfl
theorem d_Ch_predict_29 : decode y_Ch_predict.2.2.1 29 = .ok (.invokestatic 38, 3) := mj_d (q := (29, .invokestatic 38, 3)) k_Ch_predict 17 rfl
theorem d_Ch_predict_32 : decode y_Ch_predict.2.2.1 32 = .ok (.iload_n 1, 1) := mj_d (q := (32, .iload_n 1, 1)) k_Ch_predict 18 rfl
theorem d_Ch_predict_33 : decode y_Ch_predict.2.2.1 33 = .ok (.invokevirtual 42, 3) := mj_d (q := (33, .invokevirtual 42, 3)) k_Ch_predict 19 rfl
theorem d_Ch_predict_36 : decode y_Ch_predict.2.2.1 36 = .ok (.iinc 3 1, 3) := mj_d (q := (36, .iinc 3 1, 3)) k_Ch_predict 20 rfl
theorem d_Ch_predict_39 : decode y_Ch_predict.2.2.1 39 = .ok (.goto (-37), 3) := mj_d (q := (39, .goto (-37), 3)) k_Ch_predict 21 rfl
theorem d_Ch_predict_42 : decode y_Ch_predict.2.2.1 42 = .ok (.return_, 1) := mj_d (q := (42, .return_, 1)) k_Ch_predict 22 rfl
theorem d_CF_fed_0 : decode y_CF_fed.2.2.1 0 = .ok (.aload_n 0, 1) := mj_d (q := (0, .aload_n 0, 1)) k_CF_fed 0 rfl
theorem d_CF_fed_1 : decode y_CF_fed.2.2.1 1 = .ok (.getfield 19, 3) := mj_d (q := (1, .getfield 19, 3)) k_CF_fed 1 rfl
theorem d_CF_fed_4 : decode y_CF_fed.2.2.1 4 = .ok (.getfield 59, 3) := mj_d (q := (4, .getfield 59, 3)) k_CF_fed 2 rfl
theorem d_CF_fed_7 : decode y_CF_fed.2.2.1 7 = .ok (.ireturn, 1) := mj_d (q := (7, .ireturn, 1)) k_CF_fed 3 rfl
theorem d_CF_accepts_0 : decode y_CF_accepts.2.2.1 0 = .ok (.aload_n 0, 1) := mj_d (q := (0, .aload_n 0, 1)) k_CF_accepts 0 rfl
theorem d_CF_accepts_1 : decode y_CF_accepts.2.2.1 1 = .ok (.getfield 28, 3) := mj_d (q := (1, .getfield 28, 3)) k_CF_accepts 1 rfl
theorem d_CF_accepts_4 : decode y_CF_accepts.2.2.1 4 = .ok (.aload_n 0, 1) := mj_d (q := (4, .aload_n 0, 1)) k_CF_accepts 2 rfl
theorem d_CF_accepts_5 : decode y_CF_accepts.2.2.1 5 = .ok (.getfield 19, 3) := mj_d (q := (5, .getfield 19, 3)) k_CF_accepts 3 rfl
theorem d_CF_accepts_8 : decode y_CF_accepts.2.2.1 8 = .ok (.getfield 59, 3) := mj_d (q := (8, .getfield 59, 3)) k_CF_accepts 4 rfl
theorem d_CF_accepts_11 : decode y_CF_accepts.2.2.1 11 = .ok (.iconst (-1), 1) := mj_d (q := (11, .iconst (-1), 1)) k_CF_accepts 5 rfl
theorem d_CF_accepts_12 : decode y_CF_accepts.2.2.1 12 = .ok (.iconst 1, 1) := mj_d (q := (12, .iconst 1, 1)) k_CF_accepts 6 rfl
theorem d_CF_accepts_13 : decode y_CF_accepts.2.2.1 13 = .ok (.invokestatic 96, 3) := mj_d (q := (13, .invokestatic 96, 3)) k_CF_accepts 7 rfl
theorem d_CF_accepts_16 : decode y_CF_accepts.2.2.1 16 = .ok (.iconst 0, 1) := mj_d (q := (16, .iconst 0, 1)) k_CF_accepts 8 rfl
theorem d_CF_accepts_17 : decode y_CF_accepts.2.2.1 17 = .ok (.invokevirtual 100, 3) := mj_d (q := (17, .invokevirtual 100, 3)) k_CF_accepts 9 rfl
theorem d_CF_accepts_20 : decode y_CF_accepts.2.2.1 20 = .ok (.ireturn, 1) := mj_d (q := (20, .ireturn, 1)) k_CF_accepts 10 rfl
theorem d_CF_expected_0 : decode y_CF_expected.2.2.1 0 = .ok (.aload_n 0, 1) := mj_d (q := (0, .aload_n 0, 1)) k_CF_expected 0 rfl
theorem d_CF_expected_1 : decode y_CF_expected.2.2.1 1 = .ok (.getfield 28, 3) := mj_d (q := (1, .getfield 28, 3)) k_CF_expected 1 rfl
theorem d_CF_expected_4 : decode y_CF_expected.2.2.1 4 = .ok (.aload_n 0, 1) := mj_d (q := (4, .aload_n 0, 1)) k_CF_expected 2 rfl
theorem d_CF_expected_5 : decode y_CF_expected.2.2.1 5 = .ok (.getfield 19, 3) := mj_d (q := (5, .getfield 19, 3)) k_CF_expected 3 rfl
theorem d_CF_expected_8 : decode y_CF_expected.2.2.1 8 = .ok (.getfield 59, 3) := mj_d (q := (8, .getfield 59, 3)) k_CF_expected 4 rfl
theorem d_CF_expected_11 : decode y_CF_expected.2.2.1 11 = .ok (.invokevirtual 76, 3) := mj_d (q := (11, .invokevirtual 76, 3)) k_CF_expected 5 rfl
theorem d_CF_expected_14 : decode y_CF_expected.2.2.1 14 = .ok (.ireturn, 1) := mj_d (q := (14, .ireturn, 1)) k_CF_expected 6 rfl
theorem d_Ch_terminalsBehindDots_0 : decode y_Ch_terminalsBehindDots.2.2.1 0 = .ok (.iconst 0, 1) := mj_d (q := (0, .iconst 0, 1)) k_Ch_terminalsBehindDots 0 rfl
theorem d_Ch_terminalsBehindDots_1 : decode y_Ch_terminalsBehindDots.2.2.1 1 = .ok (.istore_n 2, 1) := mj_d (q := (1, .istore_n 2, 1)) k_Ch_terminalsBehindDots 1 rfl
theorem d_Ch_terminalsBehindDots_2 : decode y_Ch_terminalsBehindDots.2.2.1 2 = .ok (.iconst 0, 1) := mj_d (q := (2, .iconst 0, 1)) k_Ch_terminalsBehindDots 2 rfl
theorem d_Ch_terminalsBehindDots_3 : decode y_Ch_terminalsBehindDots.2.2.1 3 = .ok (.istore_n 3, 1) := mj_d (q := (3, .istore_n 3, 1)) k_Ch_terminalsBehindDots 3 rfl
theorem d_Ch_terminalsBehindDots_4 : decode y_Ch_terminalsBehindDots.2.2.1 4 = .ok (.iload_n 3, 1) := mj_d (q := (4, .iload_n 3, 1)) k_Ch_terminalsBehindDots 4 rfl
theorem d_Ch_terminalsBehindDots_5 : decode y_Ch_terminalsBehindDots.2.2.1 5 = .ok (.bipush 44, 2) := mj_d (q := (5, .bipush 44, 2)) k_Ch_terminalsBehindDots 5 rfl
theorem d_Ch_terminalsBehindDots_7 : decode y_Ch_terminalsBehindDots.2.2.1 7 = .ok (.if_icmp .ge 47, 3) := mj_d (q := (7, .if_icmp .ge 47, 3)) k_Ch_terminalsBehindDots 6 rfl
theorem d_Ch_terminalsBehindDots_10 : decode y_Ch_terminalsBehindDots.2.2.1 10 = .ok (.aload_n 0, 1) := mj_d (q := (10, .aload_n 0, 1)) k_Ch_terminalsBehindDots 7 rfl
theorem d_Ch_terminalsBehindDots_11 : decode y_Ch_terminalsBehindDots.2.2.1 11 = .ok (.getfield 26, 3) := mj_d (q := (11, .getfield 26, 3)) k_Ch_terminalsBehindDots 8 rfl
theorem d_Ch_terminalsBehindDots_14 : decode y_Ch_terminalsBehindDots.2.2.1 14 = .ok (.getfield 55, 3) := mj_d (q := (14, .getfield 55, 3)) k_Ch_terminalsBehindDots 9 rfl
theorem d_Ch_terminalsBehindDots_17 : decode y_Ch_terminalsBehindDots.2.2.1 17 = .ok (.iload_n 3, 1) := mj_d (q := (17, .iload_n 3, 1)) k_Ch_terminalsBehindDots 10 rfl
theorem d_Ch_terminalsBehindDots_18 : decode y_Ch_terminalsBehindDots.2.2.1 18 = .ok (.iaload, 1) := mj_d (q := (18, .iaload, 1)) k_Ch_terminalsBehindDots 11 rfl
theorem d_Ch_terminalsBehindDots_19 : decode y_Ch_terminalsBehindDots.2.2.1 19 = .ok (.istore 4, 2) := mj_d (q := (19, .istore 4, 2)) k_Ch_terminalsBehindDots 12 rfl
theorem d_Ch_terminalsBehindDots_21 : decode y_Ch_terminalsBehindDots.2.2.1 21 = .ok (.aload_n 0, 1) := mj_d (q := (21, .aload_n 0, 1)) k_Ch_terminalsBehindDots 13 rfl
theorem d_Ch_terminalsBehindDots_22 : decode y_Ch_terminalsBehindDots.2.2.1 22 = .ok (.getfield 11, 3) := mj_d (q := (22, .getfield 11, 3)) k_Ch_terminalsBehindDots 14 rfl
theorem d_Ch_terminalsBehindDots_25 : decode y_Ch_terminalsBehindDots.2.2.1 25 = .ok (.iload_n 1, 1) := mj_d (q := (25, .iload_n 1, 1)) k_Ch_terminalsBehindDots 15 rfl
theorem d_Ch_terminalsBehindDots_26 : decode y_Ch_terminalsBehindDots.2.2.1 26 = .ok (.aaload, 1) := mj_d (q := (26, .aaload, 1)) k_Ch_terminalsBehindDots 16 rfl
theorem d_Ch_terminalsBehindDots_27 : decode y_Ch_terminalsBehindDots.2.2.1 27 = .ok (.iload_n 3, 1) := mj_d (q := (27, .iload_n 3, 1)) k_Ch_terminalsBehindDots 17 rfl
theorem d_Ch_terminalsBehindDots_28 : decode y_Ch_terminalsBehindDots.2.2.1 28 = .ok (.iaload, 1) := mj_d (q := (28, .iaload, 1)) k_Ch_terminalsBehindDots 18 rfl
theorem d_Ch_terminalsBehindDots_29 : decode y_Ch_terminalsBehindDots.2.2.1 29 = .ok (.ifCond .eq 19, 3) := mj_d (q := (29, .ifCond .eq 19, 3)) k_Ch_terminalsBehindDots 19 rfl
theorem d_Ch_terminalsBehindDots_32 : decode y_Ch_terminalsBehindDots.2.2.1 32 = .ok (.iload 4, 2) := mj_d (q := (32, .iload 4, 2)) k_Ch_terminalsBehindDots 20 rfl
theorem d_Ch_terminalsBehindDots_34 : decode y_Ch_terminalsBehindDots.2.2.1 34 = .ok (.invokestatic 60, 3) := mj_d (q := (34, .invokestatic 60, 3)) k_Ch_terminalsBehindDots 21 rfl
theorem d_Ch_terminalsBehindDots_37 : decode y_Ch_terminalsBehindDots.2.2.1 37 = .ok (.ifCond .eq 11, 3) := mj_d (q := (37, .ifCond .eq 11, 3)) k_Ch_terminalsBehindDots 22 rfl
theorem d_Ch_terminalsBehindDots_40 : decode y_Ch_terminalsBehindDots.2.2.1 40 = .ok (.iload_n 2, 1) := mj_d (q := (40, .iload_n 2, 1)) k_Ch_terminalsBehindDots 23 rfl
theorem d_Ch_terminalsBehindDots_41 : decode y_Ch_terminalsBehindDots.2.2.1 41 = .ok (.iload 4, 2) := mj_d (q := (41, .iload 4, 2)) k_Ch_terminalsBehindDots 24 rfl
theorem d_Ch_terminalsBehindDots_43 : decode y_Ch_terminalsBehindDots.2.2.1 43 = .ok (.invokestatic 64, 3) := mj_d (q := (43, .invokestatic 64, 3)) k_Ch_terminalsBehindDots 25 rfl
theorem d_Ch_terminalsBehindDots_46 : decode y_Ch_terminalsBehindDots.2.2.1 46 = .ok (.ior, 1) := mj_d (q := (46, .ior, 1)) k_Ch_terminalsBehindDots 26 rfl
theorem d_Ch_terminalsBehindDots_47 : decode y_Ch_terminalsBehindDots.2.2.1 47 = .ok (.istore_n 2, 1) := mj_d (q := (47, .istore_n 2, 1)) k_Ch_terminalsBehindDots 27 rfl
theorem d_Ch_terminalsBehindDots_48 : decode y_Ch_terminalsBehindDots.2.2.1 48 = .ok (.iinc 3 1, 3) := mj_d (q := (48, .iinc 3 1, 3)) k_Ch_terminalsBehindDots 28 rfl
theorem d_Ch_terminalsBehindDots_51 : decode y_Ch_terminalsBehindDots.2.2.1 51 = .ok (.goto (-47), 3) := mj_d (q := (51, .goto (-47), 3)) k_Ch_terminalsBehindDots 29 rfl
theorem d_Ch_terminalsBehindDots_54 : decode y_Ch_terminalsBehindDots.2.2.1 54 = .ok (.iload_n 2, 1) := mj_d (q := (54, .iload_n 2, 1)) k_Ch_terminalsBehindDots 30 rfl
theorem d_Ch_terminalsBehindDots_55 : decode y_Ch_terminalsBehindDots.2.2.1 55 = .ok (.ireturn, 1) := mj_d (q := (55, .ireturn, 1)) k_Ch_terminalsBehindDots 31 rfl
theorem d_CF_isTerminal_0 : decode y_CF_isTerminal.2.2.1 0 = .ok (.iload_n 0, 1) := mj_d (q := (0, .iload_n 0, 1)) k_CF_isTerminal 0 rfl
theorem d_CF_isTerminal_1 : decode y_CF_isTerminal.2.2.1 1 = .ok (.bipush 8, 2) := mj_d (q := (1, .bipush 8, 2)) k_CF_isTerminal 1 rfl
theorem d_CF_isTerminal_3 : decode y_CF_isTerminal.2.2.1 3 = .ok (.if_icmp .lt 13, 3) := mj_d (q := (3, .if_icmp .lt 13, 3)) k_CF_isTerminal 2 rfl
theorem d_CF_isTerminal_6 : decode y_CF_isTerminal.2.2.1 6 = .ok (.iload_n 0, 1) := mj_d (q := (6, .iload_n 0, 1)) k_CF_isTerminal 3 rfl
theorem d_CF_isTerminal_7 : decode y_CF_isTerminal.2.2.1 7 = .ok (.bipush 11, 2) := mj_d (q := (7, .bipush 11, 2)) k_CF_isTerminal 4 rfl
theorem d_CF_isTerminal_9 : decode y_CF_isTerminal.2.2.1 9 = .ok (.if_icmp .gt 7, 3) := mj_d (q := (9, .if_icmp .gt 7, 3)) k_CF_isTerminal 5 rfl
theorem d_CF_isTerminal_12 : decode y_CF_isTerminal.2.2.1 12 = .ok (.iconst 1, 1) := mj_d (q := (12, .iconst 1, 1)) k_CF_isTerminal 6 rfl
theorem d_CF_isTerminal_13 : decode y_CF_isTerminal.2.2.1 13 = .ok (.goto 4, 3) := mj_d (q := (13, .goto 4, 3)) k_CF_isTerminal 7 rfl
theorem d_CF_isTerminal_16 : decode y_CF_isTerminal.2.2.1 16 = .ok (.iconst 0, 1) := mj_d (q := (16, .iconst 0, 1)) k_CF_isTerminal 8 rfl
theorem d_CF_isTerminal_17 : decode y_CF_isTerminal.2.2.1 17 = .ok (.ireturn, 1) := mj_d (q := (17, .ireturn, 1)) k_CF_isTerminal 9 rfl
theorem d_CF_terminalBit_0 : decode y_CF_terminalBit.2.2.1 0 = .ok (.iconst 1, 1) := mj_d (q := (0, .iconst 1, 1)) k_CF_terminalBit 0 rfl
theorem d_CF_terminalBit_1 : decode y_CF_terminalBit.2.2.1 1 = .ok (.iload_n 0, 1) := mj_d (q := (1, .iload_n 0, 1)) k_CF_terminalBit 1 rfl
theorem d_CF_terminalBit_2 : decode y_CF_terminalBit.2.2.1 2 = .ok (.bipush 8, 2) := mj_d (q := (2, .bipush 8, 2)) k_CF_terminalBit 2 rfl
theorem d_CF_terminalBit_4 : decode y_CF_terminalBit.2.2.1 4 = .ok (.isub, 1) := mj_d (q := (4, .isub, 1)) k_CF_terminalBit 3 rfl
theorem d_CF_terminalBit_5 : decode y_CF_terminalBit.2.2.1 5 = .ok (.ishl, 1) := mj_d (q := (5, .ishl, 1)) k_CF_terminalBit 4 rfl
theorem d_CF_terminalBit_6 : decode y_CF_terminalBit.2.2.1 6 = .ok (.ireturn, 1) := mj_d (q := (6, .ireturn, 1)) k_CF_terminalBit 5 rfl
theorem d_CF_nodes_0 : decode y_CF_nodes.2.2.1 0 = .ok (.aload_n 0, 1) := mj_d (q := (0, .aload_n 0, 1)) k_CF_nodes 0 rfl
theorem d_CF_nodes_1 : decode y_CF_nodes.2.2.1 1 = .ok (.getfield 37, 3) := mj_d (q := (1, .getfield 37, 3)) k_CF_nodes 1 rfl
theorem d_CF_nodes_4 : decode y_CF_nodes.2.2.1 4 = .ok (.invokevirtual 116, 3) := mj_d (q := (4, .invokevirtual 116, 3)) k_CF_nodes 2 rfl
theorem d_CF_nodes_7 : decode y_CF_nodes.2.2.1 7 = .ok (.aload_n 0, 1) := mj_d (q := (7, .aload_n 0, 1)) k_CF_nodes 3 rfl
theorem d_CF_nodes_8 : decode y_CF_nodes.2.2.1 8 = .ok (.getfield 37, 3) := mj_d (q := (8, .getfield 37, 3)) k_CF_nodes 4 rfl
theorem d_CF_nodes_11 : decode y_CF_nodes.2.2.1 11 = .ok (.invokevirtual 127, 3) := mj_d (q := (11, .invokevirtual 127, 3)) k_CF_nodes 5 rfl
theorem d_CF_nodes_14 : decode y_CF_nodes.2.2.1 14 = .ok (.ireturn, 1) := mj_d (q := (14, .ireturn, 1)) k_CF_nodes 6 rfl
theorem d_Fo_makeReady_0 : decode y_Fo_makeReady.2.2.1 0 = .ok (.aload_n 0, 1) := mj_d (q := (0, .aload_n 0, 1)) k_Fo_makeReady 0 rfl
theorem d_Fo_makeReady_1 : decode y_Fo_makeReady.2.2.1 1 = .ok (.getfield 45, 3) := mj_d (q := (1, .getfield 45, 3)) k_Fo_makeReady 1 rfl
theorem d_Fo_makeReady_4 : decode y_Fo_makeReady.2.2.1 4 = .ok (.istore_n 1, 1) := mj_d (q := (4, .istore_n 1, 1)) k_Fo_makeReady 2 rfl
theorem d_Fo_makeReady_5 : decode y_Fo_makeReady.2.2.1 5 = .ok (.iload_n 1, 1) := mj_d (q := (5, .iload_n 1, 1)) k_Fo_makeReady 3 rfl
theorem d_Fo_makeReady_6 : decode y_Fo_makeReady.2.2.1 6 = .ok (.aload_n 0, 1) := mj_d (q := (6, .aload_n 0, 1)) k_Fo_makeReady 4 rfl
theorem d_Fo_makeReady_7 : decode y_Fo_makeReady.2.2.1 7 = .ok (.getfield 23, 3) := mj_d (q := (7, .getfield 23, 3)) k_Fo_makeReady 5 rfl
theorem d_Fo_makeReady_10 : decode y_Fo_makeReady.2.2.1 10 = .ok (.getfield 55, 3) := mj_d (q := (10, .getfield 55, 3)) k_Fo_makeReady 6 rfl
theorem d_Fo_makeReady_13 : decode y_Fo_makeReady.2.2.1 13 = .ok (.if_icmp .gt 33, 3) := mj_d (q := (13, .if_icmp .gt 33, 3)) k_Fo_makeReady 7 rfl
theorem d_Fo_makeReady_16 : decode y_Fo_makeReady.2.2.1 16 = .ok (.iload_n 1, 1) := mj_d (q := (16, .iload_n 1, 1)) k_Fo_makeReady 8 rfl
theorem d_Fo_makeReady_17 : decode y_Fo_makeReady.2.2.1 17 = .ok (.istore_n 2, 1) := mj_d (q := (17, .istore_n 2, 1)) k_Fo_makeReady 9 rfl
theorem d_Fo_makeReady_18 : decode y_Fo_makeReady.2.2.1 18 = .ok (.iload_n 2, 1) := mj_d (q := (18, .iload_n 2, 1)) k_Fo_makeReady 10 rfl
theorem d_Fo_makeReady_19 : decode y_Fo_makeReady.2.2.1 19 = .ok (.ifCond .lt 21, 3) := mj_d (q := (19, .ifCond .lt 21, 3)) k_Fo_makeReady 11 rfl
theorem d_Fo_makeReady_22 : decode y_Fo_makeReady.2.2.1 22 = .ok (.aload_n 0, 1) := mj_d (q := (22, .aload_n 0, 1)) k_Fo_makeReady 12 rfl
theorem d_Fo_makeReady_23 : decode y_Fo_makeReady.2.2.1 23 = .ok (.iload_n 2, 1) := mj_d (q := (23, .iload_n 2, 1)) k_Fo_makeReady 13 rfl
theorem d_Fo_makeReady_24 : decode y_Fo_makeReady.2.2.1 24 = .ok (.iload_n 1, 1) := mj_d (q := (24, .iload_n 1, 1)) k_Fo_makeReady 14 rfl
theorem d_Fo_makeReady_25 : decode y_Fo_makeReady.2.2.1 25 = .ok (.invokevirtual 60, 3) := mj_d (q := (25, .invokevirtual 60, 3)) k_Fo_makeReady 15 rfl
theorem d_Fo_makeReady_28 : decode y_Fo_makeReady.2.2.1 28 = .ok (.aload_n 0, 1) := mj_d (q := (28, .aload_n 0, 1)) k_Fo_makeReady 16 rfl
theorem d_Fo_makeReady_29 : decode y_Fo_makeReady.2.2.1 29 = .ok (.iload_n 2, 1) := mj_d (q := (29, .iload_n 2, 1)) k_Fo_makeReady 17 rfl
theorem d_Fo_makeReady_30 : decode y_Fo_makeReady.2.2.1 30 = .ok (.iload_n 1, 1) := mj_d (q := (30, .iload_n 1, 1)) k_Fo_makeReady 18 rfl
theorem d_Fo_makeReady_31 : decode y_Fo_makeReady.2.2.1 31 = .ok (.invokevirtual 64, 3) := mj_d (q := (31, .invokevirtual 64, 3)) k_Fo_makeReady 19 rfl
theorem d_Fo_makeReady_34 : decode y_Fo_makeReady.2.2.1 34 = .ok (.iinc 2 (-1), 3) := mj_d (q := (34, .iinc 2 (-1), 3)) k_Fo_makeReady 20 rfl
theorem d_Fo_makeReady_37 : decode y_Fo_makeReady.2.2.1 37 = .ok (.goto (-19), 3) := mj_d (q := (37, .goto (-19), 3)) k_Fo_makeReady 21 rfl
theorem d_Fo_makeReady_40 : decode y_Fo_makeReady.2.2.1 40 = .ok (.iinc 1 1, 3) := mj_d (q := (40, .iinc 1 1, 3)) k_Fo_makeReady 22 rfl
theorem d_Fo_makeReady_43 : decode y_Fo_makeReady.2.2.1 43 = .ok (.goto (-38), 3) := mj_d (q := (43, .goto (-38), 3)) k_Fo_makeReady 23 rfl
theorem d_Fo_makeReady_46 : decode y_Fo_makeReady.2.2.1 46 = .ok (.aload_n 0, 1) := mj_d (q := (46, .aload_n 0, 1)) k_Fo_makeReady 24 rfl
theorem d_Fo_makeReady_47 : decode y_Fo_makeReady.2.2.1 47 = .ok (.aload_n 0, 1) := mj_d (q := (47, .aload_n 0, 1)) k_Fo_makeReady 25 rfl
theorem d_Fo_makeReady_48 : decode y_Fo_makeReady.2.2.1 48 = .ok (.getfield 23, 3) := mj_d (q := (48, .getfield 23, 3)) k_Fo_makeReady 26 rfl
theorem d_Fo_makeReady_51 : decode y_Fo_makeReady.2.2.1 51 = .ok (.getfield 55, 3) := mj_d (q := (51, .getfield 55, 3)) k_Fo_makeReady 27 rfl
theorem d_Fo_makeReady_54 : decode y_Fo_makeReady.2.2.1 54 = .ok (.iconst 1, 1) := mj_d (q := (54, .iconst 1, 1)) k_Fo_makeReady 28 rfl
theorem d_Fo_makeReady_55 : decode y_Fo_makeReady.2.2.1 55 = .ok (.iadd, 1) := mj_d (q := (55, .iadd, 1)) k_Fo_makeReady 29 rfl
theorem d_Fo_makeReady_56 : decode y_Fo_makeReady.2.2.1 56 = .ok (.putfield 45, 3) := mj_d (q := (56, .putfield 45, 3)) k_Fo_makeReady 30 rfl
theorem d_Fo_makeReady_59 : decode y_Fo_makeReady.2.2.1 59 = .ok (.return_, 1) := mj_d (q := (59, .return_, 1)) k_Fo_makeReady 31 rfl
theorem d_Fo_findDeriving_0 : decode y_Fo_findDeriving.2.2.1 0 = .ok (.iconst 0, 1) := mj_d (q := (0, .iconst 0, 1)) k_Fo_findDeriving 0 rfl
theorem d_Fo_findDeriving_1 : decode y_Fo_findDeriving.2.2.1 1 = .ok (.istore_n 3, 1) := mj_d (q := (1, .istore_n 3, 1)) k_Fo_findDeriving 1 rfl
theorem d_Fo_findDeriving_2 : decode y_Fo_findDeriving.2.2.1 2 = .ok (.iload_n 3, 1) := mj_d (q := (2, .iload_n 3, 1)) k_Fo_findDeriving 2 rfl
theorem d_Fo_findDeriving_3 : decode y_Fo_findDeriving.2.2.1 3 = .ok (.iconst 5, 1) := mj_d (q := (3, .iconst 5, 1)) k_Fo_findDeriving 3 rfl
theorem d_Fo_findDeriving_4 : decode y_Fo_findDeriving.2.2.1 4 = .ok (.if_icmp .ge 24, 3) := mj_d (q := (4, .if_icmp .ge 24, 3)) k_Fo_findDeriving 4 rfl
theorem d_Fo_findDeriving_7 : decode y_Fo_findDeriving.2.2.1 7 = .ok (.aload_n 0, 1) := mj_d (q := (7, .aload_n 0, 1)) k_Fo_findDeriving 5 rfl
theorem d_Fo_findDeriving_8 : decode y_Fo_findDeriving.2.2.1 8 = .ok (.getfield 32, 3) := mj_d (q := (8, .getfield 32, 3)) k_Fo_findDeriving 6 rfl
theorem d_Fo_findDeriving_11 : decode y_Fo_findDeriving.2.2.1 11 = .ok (.getfield 78, 3) := mj_d (q := (11, .getfield 78, 3)) k_Fo_findDeriving 7 rfl
theorem d_Fo_findDeriving_14 : decode y_Fo_findDeriving.2.2.1 14 = .ok (.iload_n 3, 1) := mj_d (q := (14, .iload_n 3, 1)) k_Fo_findDeriving 8 rfl
theorem d_Fo_findDeriving_15 : decode y_Fo_findDeriving.2.2.1 15 = .ok (.iload_n 1, 1) := mj_d (q := (15, .iload_n 1, 1)) k_Fo_findDeriving 9 rfl
theorem d_Fo_findDeriving_16 : decode y_Fo_findDeriving.2.2.1 16 = .ok (.iload_n 2, 1) := mj_d (q := (16, .iload_n 2, 1)) k_Fo_findDeriving 10 rfl
theorem d_Fo_findDeriving_17 : decode y_Fo_findDeriving.2.2.1 17 = .ok (.invokestatic 81, 3) := mj_d (q := (17, .invokestatic 81, 3)) k_Fo_findDeriving 11 rfl
theorem d_Fo_findDeriving_20 : decode y_Fo_findDeriving.2.2.1 20 = .ok (.lconst 0, 1) := mj_d (q := (20, .lconst 0, 1)) k_Fo_findDeriving 12 rfl
theorem d_Fo_findDeriving_21 : decode y_Fo_findDeriving.2.2.1 21 = .ok (.lastore, 1) := mj_d (q := (21, .lastore, 1)) k_Fo_findDeriving 13 rfl
theorem d_Fo_findDeriving_22 : decode y_Fo_findDeriving.2.2.1 22 = .ok (.iinc 3 1, 3) := mj_d (q := (22, .iinc 3 1, 3)) k_Fo_findDeriving 14 rfl
theorem d_Fo_findDeriving_25 : decode y_Fo_findDeriving.2.2.1 25 = .ok (.goto (-23), 3) := mj_d (q := (25, .goto (-23), 3)) k_Fo_findDeriving 15 rfl
theorem d_Fo_findDeriving_28 : decode y_Fo_findDeriving.2.2.1 28 = .ok (.iconst 1, 1) := mj_d (q := (28, .iconst 1, 1)) k_Fo_findDeriving 16 rfl
theorem d_Fo_findDeriving_29 : decode y_Fo_findDeriving.2.2.1 29 = .ok (.istore_n 3, 1) := mj_d (q := (29, .istore_n 3, 1)) k_Fo_findDeriving 17 rfl
theorem d_Fo_findDeriving_30 : decode y_Fo_findDeriving.2.2.1 30 = .ok (.iconst 0, 1) := mj_d (q := (30, .iconst 0, 1)) k_Fo_findDeriving 18 rfl
theorem d_Fo_findDeriving_31 : decode y_Fo_findDeriving.2.2.1 31 = .ok (.istore 4, 2) := mj_d (q := (31, .istore 4, 2)) k_Fo_findDeriving 19 rfl
theorem d_Fo_findDeriving_33 : decode y_Fo_findDeriving.2.2.1 33 = .ok (.iload_n 3, 1) := mj_d (q := (33, .iload_n 3, 1)) k_Fo_findDeriving 20 rfl
theorem d_Fo_findDeriving_34 : decode y_Fo_findDeriving.2.2.1 34 = .ok (.ifCond .eq 114, 3) := mj_d (q := (34, .ifCond .eq 114, 3)) k_Fo_findDeriving 21 rfl
theorem d_Fo_findDeriving_37 : decode y_Fo_findDeriving.2.2.1 37 = .ok (.iload 4, 2) := mj_d (q := (37, .iload 4, 2)) k_Fo_findDeriving 22 rfl
theorem d_Fo_findDeriving_39 : decode y_Fo_findDeriving.2.2.1 39 = .ok (.iconst 5, 1) := mj_d (q := (39, .iconst 5, 1)) k_Fo_findDeriving 23 rfl
theorem d_Fo_findDeriving_40 : decode y_Fo_findDeriving.2.2.1 40 = .ok (.if_icmp .ge 108, 3) := mj_d (q := (40, .if_icmp .ge 108, 3)) k_Fo_findDeriving 24 rfl
theorem d_Fo_findDeriving_43 : decode y_Fo_findDeriving.2.2.1 43 = .ok (.iconst 0, 1) := mj_d (q := (43, .iconst 0, 1)) k_Fo_findDeriving 25 rfl
theorem d_Fo_findDeriving_44 : decode y_Fo_findDeriving.2.2.1 44 = .ok (.istore_n 3, 1) := mj_d (q := (44, .istore_n 3, 1)) k_Fo_findDeriving 26 rfl
theorem d_Fo_findDeriving_45 : decode y_Fo_findDeriving.2.2.1 45 = .ok (.iconst 0, 1) := mj_d (q := (45, .iconst 0, 1)) k_Fo_findDeriving 27 rfl
theorem d_Fo_findDeriving_46 : decode y_Fo_findDeriving.2.2.1 46 = .ok (.istore 5, 2) := mj_d (q := (46, .istore 5, 2)) k_Fo_findDeriving 28 rfl
theorem d_Fo_findDeriving_48 : decode y_Fo_findDeriving.2.2.1 48 = .ok (.iload 5, 2) := mj_d (q := (48, .iload 5, 2)) k_Fo_findDeriving 29 rfl
theorem d_Fo_findDeriving_50 : decode y_Fo_findDeriving.2.2.1 50 = .ok (.iconst 5, 1) := mj_d (q := (50, .iconst 5, 1)) k_Fo_findDeriving 30 rfl
theorem d_Fo_findDeriving_51 : decode y_Fo_findDeriving.2.2.1 51 = .ok (.if_icmp .ge 91, 3) := mj_d (q := (51, .if_icmp .ge 91, 3)) k_Fo_findDeriving 31 rfl
theorem d_Fo_findDeriving_54 : decode y_Fo_findDeriving.2.2.1 54 = .ok (.iload 5, 2) := mj_d (q := (54, .iload 5, 2)) k_Fo_findDeriving 32 rfl
theorem d_Fo_findDeriving_56 : decode y_Fo_findDeriving.2.2.1 56 = .ok (.iload_n 1, 1) := mj_d (q := (56, .iload_n 1, 1)) k_Fo_findDeriving 33 rfl
theorem d_Fo_findDeriving_57 : decode y_Fo_findDeriving.2.2.1 57 = .ok (.iload_n 2, 1) := mj_d (q := (57, .iload_n 2, 1)) k_Fo_findDeriving 34 rfl
theorem d_Fo_findDeriving_58 : decode y_Fo_findDeriving.2.2.1 58 = .ok (.invokestatic 81, 3) := mj_d (q := (58, .invokestatic 81, 3)) k_Fo_findDeriving 35 rfl
theorem d_Fo_findDeriving_61 : decode y_Fo_findDeriving.2.2.1 61 = .ok (.istore 6, 2) := mj_d (q := (61, .istore 6, 2)) k_Fo_findDeriving 36 rfl
theorem d_Fo_findDeriving_63 : decode y_Fo_findDeriving.2.2.1 63 = .ok (.aload_n 0, 1) := mj_d (q := (63, .aload_n 0, 1)) k_Fo_findDeriving 37 rfl
theorem d_Fo_findDeriving_64 : decode y_Fo_findDeriving.2.2.1 64 = .ok (.getfield 32, 3) := mj_d (q := (64, .getfield 32, 3)) k_Fo_findDeriving 38 rfl
theorem d_Fo_findDeriving_67 : decode y_Fo_findDeriving.2.2.1 67 = .ok (.getfield 78, 3) := mj_d (q := (67, .getfield 78, 3)) k_Fo_findDeriving 39 rfl
theorem d_Fo_findDeriving_70 : decode y_Fo_findDeriving.2.2.1 70 = .ok (.iload 6, 2) := mj_d (q := (70, .iload 6, 2)) k_Fo_findDeriving 40 rfl
theorem d_Fo_findDeriving_72 : decode y_Fo_findDeriving.2.2.1 72 = .ok (.laload, 1) := mj_d (q := (72, .laload, 1)) k_Fo_findDeriving 41 rfl
theorem d_Fo_findDeriving_73 : decode y_Fo_findDeriving.2.2.1 73 = .ok (.lconst 0, 1) := mj_d (q := (73, .lconst 0, 1)) k_Fo_findDeriving 42 rfl
theorem d_Fo_findDeriving_74 : decode y_Fo_findDeriving.2.2.1 74 = .ok (.lcmp, 1) := mj_d (q := (74, .lcmp, 1)) k_Fo_findDeriving 43 rfl
theorem d_Fo_findDeriving_75 : decode y_Fo_findDeriving.2.2.1 75 = .ok (.ifCond .ne 61, 3) := mj_d (q := (75, .ifCond .ne 61, 3)) k_Fo_findDeriving 44 rfl
theorem d_Fo_findDeriving_78 : decode y_Fo_findDeriving.2.2.1 78 = .ok (.aload_n 0, 1) := mj_d (q := (78, .aload_n 0, 1)) k_Fo_findDeriving 45 rfl
theorem d_Fo_findDeriving_79 : decode y_Fo_findDeriving.2.2.1 79 = .ok (.getfield 41, 3) := mj_d (q := (79, .getfield 41, 3)) k_Fo_findDeriving 46 rfl
theorem d_Fo_findDeriving_82 : decode y_Fo_findDeriving.2.2.1 82 = .ok (.iload 5, 2) := mj_d (q := (82, .iload 5, 2)) k_Fo_findDeriving 47 rfl
theorem d_Fo_findDeriving_84 : decode y_Fo_findDeriving.2.2.1 84 = .ok (.iload_n 1, 1) := mj_d (q := (84, .iload_n 1, 1)) k_Fo_findDeriving 48 rfl
theorem d_Fo_findDeriving_85 : decode y_Fo_findDeriving.2.2.1 85 = .ok (.iload_n 2, 1) := mj_d (q := (85, .iload_n 2, 1)) k_Fo_findDeriving 49 rfl
theorem d_Fo_findDeriving_86 : decode y_Fo_findDeriving.2.2.1 86 = .ok (.invokevirtual 67, 3) := mj_d (q := (86, .invokevirtual 67, 3)) k_Fo_findDeriving 50 rfl
theorem d_Fo_findDeriving_89 : decode y_Fo_findDeriving.2.2.1 89 = .ok (.aload_n 0, 1) := mj_d (q := (89, .aload_n 0, 1)) k_Fo_findDeriving 51 rfl
theorem d_Fo_findDeriving_90 : decode y_Fo_findDeriving.2.2.1 90 = .ok (.getfield 32, 3) := mj_d (q := (90, .getfield 32, 3)) k_Fo_findDeriving 52 rfl
theorem d_Fo_findDeriving_93 : decode y_Fo_findDeriving.2.2.1 93 = .ok (.getfield 78, 3) := mj_d (q := (93, .getfield 78, 3)) k_Fo_findDeriving 53 rfl
theorem d_Fo_findDeriving_96 : decode y_Fo_findDeriving.2.2.1 96 = .ok (.iload 6, 2) := mj_d (q := (96, .iload 6, 2)) k_Fo_findDeriving 54 rfl
theorem d_Fo_findDeriving_98 : decode y_Fo_findDeriving.2.2.1 98 = .ok (.aload_n 0, 1) := mj_d (q := (98, .aload_n 0, 1)) k_Fo_findDeriving 55 rfl
theorem d_Fo_findDeriving_99 : decode y_Fo_findDeriving.2.2.1 99 = .ok (.getfield 41, 3) := mj_d (q := (99, .getfield 41, 3)) k_Fo_findDeriving 56 rfl
theorem d_Fo_findDeriving_102 : decode y_Fo_findDeriving.2.2.1 102 = .ok (.getfield 71, 3) := mj_d (q := (102, .getfield 71, 3)) k_Fo_findDeriving 57 rfl
theorem d_Fo_findDeriving_105 : decode y_Fo_findDeriving.2.2.1 105 = .ok (.ifCond .le 9, 3) := mj_d (q := (105, .ifCond .le 9, 3)) k_Fo_findDeriving 58 rfl
theorem d_Fo_findDeriving_108 : decode y_Fo_findDeriving.2.2.1 108 = .ok (.ldc2_w 85, 3) := mj_d (q := (108, .ldc2_w 85, 3)) k_Fo_findDeriving 59 rfl
theorem d_Fo_findDeriving_111 : decode y_Fo_findDeriving.2.2.1 111 = .ok (.goto 4, 3) := mj_d (q := (111, .goto 4, 3)) k_Fo_findDeriving 60 rfl
theorem d_Fo_findDeriving_114 : decode y_Fo_findDeriving.2.2.1 114 = .ok (.lconst 0, 1) := mj_d (q := (114, .lconst 0, 1)) k_Fo_findDeriving 61 rfl
theorem d_Fo_findDeriving_115 : decode y_Fo_findDeriving.2.2.1 115 = .ok (.lastore, 1) := mj_d (q := (115, .lastore, 1)) k_Fo_findDeriving 62 rfl
theorem d_Fo_findDeriving_116 : decode y_Fo_findDeriving.2.2.1 116 = .ok (.iload_n 3, 1) := mj_d (q := (116, .iload_n 3, 1)) k_Fo_findDeriving 63 rfl
theorem d_Fo_findDeriving_117 : decode y_Fo_findDeriving.2.2.1 117 = .ok (.ifCond .ne 13, 3) := mj_d (q := (117, .ifCond .ne 13, 3)) k_Fo_findDeriving 64 rfl
theorem d_Fo_findDeriving_120 : decode y_Fo_findDeriving.2.2.1 120 = .ok (.aload_n 0, 1) := mj_d (q := (120, .aload_n 0, 1)) k_Fo_findDeriving 65 rfl
theorem d_Fo_findDeriving_121 : decode y_Fo_findDeriving.2.2.1 121 = .ok (.getfield 41, 3) := mj_d (q := (121, .getfield 41, 3)) k_Fo_findDeriving 66 rfl
theorem d_Fo_findDeriving_124 : decode y_Fo_findDeriving.2.2.1 124 = .ok (.getfield 71, 3) := mj_d (q := (124, .getfield 71, 3)) k_Fo_findDeriving 67 rfl
theorem d_Fo_findDeriving_127 : decode y_Fo_findDeriving.2.2.1 127 = .ok (.ifCond .le 7, 3) := mj_d (q := (127, .ifCond .le 7, 3)) k_Fo_findDeriving 68 rfl
theorem d_Fo_findDeriving_130 : decode y_Fo_findDeriving.2.2.1 130 = .ok (.iconst 1, 1) := mj_d (q := (130, .iconst 1, 1)) k_Fo_findDeriving 69 rfl
theorem d_Fo_findDeriving_131 : decode y_Fo_findDeriving.2.2.1 131 = .ok (.goto 4, 3) := mj_d (q := (131, .goto 4, 3)) k_Fo_findDeriving 70 rfl
theorem d_Fo_findDeriving_134 : decode y_Fo_findDeriving.2.2.1 134 = .ok (.iconst 0, 1) := mj_d (q := (134, .iconst 0, 1)) k_Fo_findDeriving 71 rfl
theorem d_Fo_findDeriving_135 : decode y_Fo_findDeriving.2.2.1 135 = .ok (.istore_n 3, 1) := mj_d (q := (135, .istore_n 3, 1)) k_Fo_findDeriving 72 rfl
theorem d_Fo_findDeriving_136 : decode y_Fo_findDeriving.2.2.1 136 = .ok (.iinc 5 1, 3) := mj_d (q := (136, .iinc 5 1, 3)) k_Fo_findDeriving 73 rfl
theorem d_Fo_findDeriving_139 : decode y_Fo_findDeriving.2.2.1 139 = .ok (.goto (-91), 3) := mj_d (q := (139, .goto (-91), 3)) k_Fo_findDeriving 74 rfl
theorem d_Fo_findDeriving_142 : decode y_Fo_findDeriving.2.2.1 142 = .ok (.iinc 4 1, 3) := mj_d (q := (142, .iinc 4 1, 3)) k_Fo_findDeriving 75 rfl
theorem d_Fo_findDeriving_145 : decode y_Fo_findDeriving.2.2.1 145 = .ok (.goto (-112), 3) := mj_d (q := (145, .goto (-112), 3)) k_Fo_findDeriving 76 rfl
theorem d_Fo_findDeriving_148 : decode y_Fo_findDeriving.2.2.1 148 = .ok (.return_, 1) := mj_d (q := (148, .return_, 1)) k_Fo_findDeriving 77 rfl
theorem d_CF_cellOf_0 : decode y_CF_cellOf.2.2.1 0 = .ok (.iload_n 0, 1) := mj_d (q := (0, .iload_n 0, 1)) k_CF_cellOf 0 rfl
theorem d_CF_cellOf_1 : decode y_CF_cellOf.2.2.1 1 = .ok (.bipush 13, 2) := mj_d (q := (1, .bipush 13, 2)) k_CF_cellOf 1 rfl
theorem d_CF_cellOf_3 : decode y_CF_cellOf.2.2.1 3 = .ok (.imul, 1) := mj_d (q := (3, .imul, 1)) k_CF_cellOf 2 rfl
theorem d_CF_cellOf_4 : decode y_CF_cellOf.2.2.1 4 = .ok (.iload_n 1, 1) := mj_d (q := (4, .iload_n 1, 1)) k_CF_cellOf 3 rfl
theorem d_CF_cellOf_5 : decode y_CF_cellOf.2.2.1 5 = .ok (.iadd, 1) := mj_d (q := (5, .iadd, 1)) k_CF_cellOf 4 rfl
theorem d_CF_cellOf_6 : decode y_CF_cellOf.2.2.1 6 = .ok (.bipush 13, 2) := mj_d (q := (6, .bipush 13, 2)) k_CF_cellOf 5 rfl
theorem d_CF_cellOf_8 : decode y_CF_cellOf.2.2.1 8 = .ok (.imul, 1) := mj_d (q := (8, .imul, 1)) k_CF_cellOf 6 rfl
theorem d_CF_cellOf_9 : decode y_CF_cellOf.2.2.1 9 = .ok (.iload_n 2, 1) := mj_d (q := (9, .iload_n 2, 1)) k_CF_cellOf 7 rfl
theorem d_CF_cellOf_10 : decode y_CF_cellOf.2.2.1 10 = .ok (.iadd, 1) := mj_d (q := (10, .iadd, 1)) k_CF_cellOf 8 rfl
theorem d_CF_cellOf_11 : decode y_CF_cellOf.2.2.1 11 = .ok (.ireturn, 1) := mj_d (q := (11, .ireturn, 1)) k_CF_cellOf 9 rfl
theorem d_Wa_gather_0 : decode y_Wa_gather.2.2.1 0 = .ok (.aload_n 0, 1) := mj_d (q := (0, .aload_n 0, 1)) k_Wa_gather 0 rfl
theorem d_Wa_gather_1 : decode y_Wa_gather.2.2.1 1 = .ok (.iload_n 2, 1) := mj_d (q := (1, .iload_n 2, 1)) k_Wa_gather 1 rfl
theorem d_Wa_gather_2 : decode y_Wa_gather.2.2.1 2 = .ok (.putfield 30, 3) := mj_d (q := (2, .putfield 30, 3)) k_Wa_gather 2 rfl
theorem d_Wa_gather_5 : decode y_Wa_gather.2.2.1 5 = .ok (.aload_n 0, 1) := mj_d (q := (5, .aload_n 0, 1)) k_Wa_gather 3 rfl
theorem d_Wa_gather_6 : decode y_Wa_gather.2.2.1 6 = .ok (.iload_n 3, 1) := mj_d (q := (6, .iload_n 3, 1)) k_Wa_gather 4 rfl
theorem d_Wa_gather_7 : decode y_Wa_gather.2.2.1 7 = .ok (.putfield 34, 3) := mj_d (q := (7, .putfield 34, 3)) k_Wa_gather 5 rfl
theorem d_Wa_gather_10 : decode y_Wa_gather.2.2.1 10 = .ok (.aload_n 0, 1) := mj_d (q := (10, .aload_n 0, 1)) k_Wa_gather 6 rfl
theorem d_Wa_gather_11 : decode y_Wa_gather.2.2.1 11 = .ok (.iconst 0, 1) := mj_d (q := (11, .iconst 0, 1)) k_Wa_gather 7 rfl
theorem d_Wa_gather_12 : decode y_Wa_gather.2.2.1 12 = .ok (.putfield 37, 3) := mj_d (q := (12, .putfield 37, 3)) k_Wa_gather 8 rfl
theorem d_Wa_gather_15 : decode y_Wa_gather.2.2.1 15 = .ok (.iconst 0, 1) := mj_d (q := (15, .iconst 0, 1)) k_Wa_gather 9 rfl
theorem d_Wa_gather_16 : decode y_Wa_gather.2.2.1 16 = .ok (.istore 4, 2) := mj_d (q := (16, .istore 4, 2)) k_Wa_gather 10 rfl
theorem d_Wa_gather_18 : decode y_Wa_gather.2.2.1 18 = .ok (.iload 4, 2) := mj_d (q := (18, .iload 4, 2)) k_Wa_gather 11 rfl
theorem d_Wa_gather_20 : decode y_Wa_gather.2.2.1 20 = .ok (.aload_n 0, 1) := mj_d (q := (20, .aload_n 0, 1)) k_Wa_gather 12 rfl
theorem d_Wa_gather_21 : decode y_Wa_gather.2.2.1 21 = .ok (.getfield 22, 3) := mj_d (q := (21, .getfield 22, 3)) k_Wa_gather 13 rfl
theorem d_Wa_gather_24 : decode y_Wa_gather.2.2.1 24 = .ok (.getfield 40, 3) := mj_d (q := (24, .getfield 40, 3)) k_Wa_gather 14 rfl
theorem d_Wa_gather_27 : decode y_Wa_gather.2.2.1 27 = .ok (.if_icmp .ge 28, 3) := mj_d (q := (27, .if_icmp .ge 28, 3)) k_Wa_gather 15 rfl
theorem d_Wa_gather_30 : decode y_Wa_gather.2.2.1 30 = .ok (.aload_n 0, 1) := mj_d (q := (30, .aload_n 0, 1)) k_Wa_gather 16 rfl
theorem d_Wa_gather_31 : decode y_Wa_gather.2.2.1 31 = .ok (.getfield 22, 3) := mj_d (q := (31, .getfield 22, 3)) k_Wa_gather 17 rfl
theorem d_Wa_gather_34 : decode y_Wa_gather.2.2.1 34 = .ok (.iload 4, 2) := mj_d (q := (34, .iload 4, 2)) k_Wa_gather 18 rfl
theorem d_Wa_gather_36 : decode y_Wa_gather.2.2.1 36 = .ok (.invokevirtual 43, 3) := mj_d (q := (36, .invokevirtual 43, 3)) k_Wa_gather 19 rfl
theorem d_Wa_gather_39 : decode y_Wa_gather.2.2.1 39 = .ok (.iload_n 1, 1) := mj_d (q := (39, .iload_n 1, 1)) k_Wa_gather 20 rfl
theorem d_Wa_gather_40 : decode y_Wa_gather.2.2.1 40 = .ok (.if_icmp .ne 9, 3) := mj_d (q := (40, .if_icmp .ne 9, 3)) k_Wa_gather 21 rfl
theorem d_Wa_gather_43 : decode y_Wa_gather.2.2.1 43 = .ok (.aload_n 0, 1) := mj_d (q := (43, .aload_n 0, 1)) k_Wa_gather 22 rfl
theorem d_Wa_gather_44 : decode y_Wa_gather.2.2.1 44 = .ok (.iload 4, 2) := mj_d (q := (44, .iload 4, 2)) k_Wa_gather 23 rfl
theorem d_Wa_gather_46 : decode y_Wa_gather.2.2.1 46 = .ok (.invokevirtual 47, 3) := mj_d (q := (46, .invokevirtual 47, 3)) k_Wa_gather 24 rfl
theorem d_Wa_gather_49 : decode y_Wa_gather.2.2.1 49 = .ok (.iinc 4 1, 3) := mj_d (q := (49, .iinc 4 1, 3)) k_Wa_gather 25 rfl
theorem d_Wa_gather_52 : decode y_Wa_gather.2.2.1 52 = .ok (.goto (-34), 3) := mj_d (q := (52, .goto (-34), 3)) k_Wa_gather 26 rfl
theorem d_Wa_gather_55 : decode y_Wa_gather.2.2.1 55 = .ok (.return_, 1) := mj_d (q := (55, .return_, 1)) k_Wa_gather 27 rfl
theorem d_Wa_gatherRule_0 : decode y_Wa_gatherRule.2.2.1 0 = .ok (.iload_n 1, 1) := mj_d (q := (0, .iload_n 1, 1)) k_Wa_gatherRule 0 rfl
theorem d_Wa_gatherRule_1 : decode y_Wa_gatherRule.2.2.1 1 = .ok (.iconst 0, 1) := mj_d (q := (1, .iconst 0, 1)) k_Wa_gatherRule 1 rfl
theorem d_Wa_gatherRule_2 : decode y_Wa_gatherRule.2.2.1 2 = .ok (.invokestatic 51, 3) := mj_d (q := (2, .invokestatic 51, 3)) k_Wa_gatherRule 2 rfl
theorem d_Wa_gatherRule_5 : decode y_Wa_gatherRule.2.2.1 5 = .ok (.istore_n 2, 1) := mj_d (q := (5, .istore_n 2, 1)) k_Wa_gatherRule 3 rfl
theorem d_Wa_gatherRule_6 : decode y_Wa_gatherRule.2.2.1 6 = .ok (.aload_n 0, 1) := mj_d (q := (6, .aload_n 0, 1)) k_Wa_gatherRule 4 rfl
theorem d_Wa_gatherRule_7 : decode y_Wa_gatherRule.2.2.1 7 = .ok (.getfield 22, 3) := mj_d (q := (7, .getfield 22, 3)) k_Wa_gatherRule 5 rfl
theorem d_Wa_gatherRule_10 : decode y_Wa_gatherRule.2.2.1 10 = .ok (.getfield 55, 3) := mj_d (q := (10, .getfield 55, 3)) k_Wa_gatherRule 6 rfl
theorem d_Wa_gatherRule_13 : decode y_Wa_gatherRule.2.2.1 13 = .ok (.iload_n 2, 1) := mj_d (q := (13, .iload_n 2, 1)) k_Wa_gatherRule 7 rfl
theorem d_Wa_gatherRule_14 : decode y_Wa_gatherRule.2.2.1 14 = .ok (.iaload, 1) := mj_d (q := (14, .iaload, 1)) k_Wa_gatherRule 8 rfl
theorem d_Wa_gatherRule_15 : decode y_Wa_gatherRule.2.2.1 15 = .ok (.istore_n 3, 1) := mj_d (q := (15, .istore_n 3, 1)) k_Wa_gatherRule 9 rfl
theorem d_Wa_gatherRule_16 : decode y_Wa_gatherRule.2.2.1 16 = .ok (.aload_n 0, 1) := mj_d (q := (16, .aload_n 0, 1)) k_Wa_gatherRule 10 rfl
theorem d_Wa_gatherRule_17 : decode y_Wa_gatherRule.2.2.1 17 = .ok (.getfield 22, 3) := mj_d (q := (17, .getfield 22, 3)) k_Wa_gatherRule 11 rfl
theorem d_Wa_gatherRule_20 : decode y_Wa_gatherRule.2.2.1 20 = .ok (.getfield 55, 3) := mj_d (q := (20, .getfield 55, 3)) k_Wa_gatherRule 12 rfl
theorem d_Wa_gatherRule_23 : decode y_Wa_gatherRule.2.2.1 23 = .ok (.iload_n 2, 1) := mj_d (q := (23, .iload_n 2, 1)) k_Wa_gatherRule 13 rfl
theorem d_Wa_gatherRule_24 : decode y_Wa_gatherRule.2.2.1 24 = .ok (.iconst 1, 1) := mj_d (q := (24, .iconst 1, 1)) k_Wa_gatherRule 14 rfl
theorem d_Wa_gatherRule_25 : decode y_Wa_gatherRule.2.2.1 25 = .ok (.iadd, 1) := mj_d (q := (25, .iadd, 1)) k_Wa_gatherRule 15 rfl
theorem d_Wa_gatherRule_26 : decode y_Wa_gatherRule.2.2.1 26 = .ok (.iaload, 1) := mj_d (q := (26, .iaload, 1)) k_Wa_gatherRule 16 rfl
theorem d_Wa_gatherRule_27 : decode y_Wa_gatherRule.2.2.1 27 = .ok (.istore 4, 2) := mj_d (q := (27, .istore 4, 2)) k_Wa_gatherRule 17 rfl
theorem d_Wa_gatherRule_29 : decode y_Wa_gatherRule.2.2.1 29 = .ok (.aload_n 0, 1) := mj_d (q := (29, .aload_n 0, 1)) k_Wa_gatherRule 18 rfl
theorem d_Wa_gatherRule_30 : decode y_Wa_gatherRule.2.2.1 30 = .ok (.getfield 22, 3) := mj_d (q := (30, .getfield 22, 3)) k_Wa_gatherRule 19 rfl
theorem d_Wa_gatherRule_33 : decode y_Wa_gatherRule.2.2.1 33 = .ok (.getfield 55, 3) := mj_d (q := (33, .getfield 55, 3)) k_Wa_gatherRule 20 rfl
theorem d_Wa_gatherRule_36 : decode y_Wa_gatherRule.2.2.1 36 = .ok (.iload_n 2, 1) := mj_d (q := (36, .iload_n 2, 1)) k_Wa_gatherRule 21 rfl
theorem d_Wa_gatherRule_37 : decode y_Wa_gatherRule.2.2.1 37 = .ok (.iconst 2, 1) := mj_d (q := (37, .iconst 2, 1)) k_Wa_gatherRule 22 rfl
theorem d_Wa_gatherRule_38 : decode y_Wa_gatherRule.2.2.1 38 = .ok (.iadd, 1) := mj_d (q := (38, .iadd, 1)) k_Wa_gatherRule 23 rfl
theorem d_Wa_gatherRule_39 : decode y_Wa_gatherRule.2.2.1 39 = .ok (.iaload, 1) := mj_d (q := (39, .iaload, 1)) k_Wa_gatherRule 24 rfl
theorem d_Wa_gatherRule_40 : decode y_Wa_gatherRule.2.2.1 40 = .ok (.istore 5, 2) := mj_d (q := (40, .istore 5, 2)) k_Wa_gatherRule 25 rfl
theorem d_Wa_gatherRule_42 : decode y_Wa_gatherRule.2.2.1 42 = .ok (.iload 4, 2) := mj_d (q := (42, .iload 4, 2)) k_Wa_gatherRule 26 rfl
theorem d_Wa_gatherRule_44 : decode y_Wa_gatherRule.2.2.1 44 = .ok (.iconst (-1), 1) := mj_d (q := (44, .iconst (-1), 1)) k_Wa_gatherRule 27 rfl
theorem d_Wa_gatherRule_45 : decode y_Wa_gatherRule.2.2.1 45 = .ok (.if_icmp .ne 10, 3) := mj_d (q := (45, .if_icmp .ne 10, 3)) k_Wa_gatherRule 28 rfl
theorem d_Wa_gatherRule_48 : decode y_Wa_gatherRule.2.2.1 48 = .ok (.aload_n 0, 1) := mj_d (q := (48, .aload_n 0, 1)) k_Wa_gatherRule 29 rfl
theorem d_Wa_gatherRule_49 : decode y_Wa_gatherRule.2.2.1 49 = .ok (.getfield 34, 3) := mj_d (q := (49, .getfield 34, 3)) k_Wa_gatherRule 30 rfl
theorem d_Wa_gatherRule_52 : decode y_Wa_gatherRule.2.2.1 52 = .ok (.goto 7, 3) := mj_d (q := (52, .goto 7, 3)) k_Wa_gatherRule 31 rfl
theorem d_Wa_gatherRule_55 : decode y_Wa_gatherRule.2.2.1 55 = .ok (.aload_n 0, 1) := mj_d (q := (55, .aload_n 0, 1)) k_Wa_gatherRule 32 rfl
theorem d_Wa_gatherRule_56 : decode y_Wa_gatherRule.2.2.1 56 = .ok (.getfield 30, 3) := mj_d (q := (56, .getfield 30, 3)) k_Wa_gatherRule 33 rfl
theorem d_Wa_gatherRule_59 : decode y_Wa_gatherRule.2.2.1 59 = .ok (.istore 6, 2) := mj_d (q := (59, .istore 6, 2)) k_Wa_gatherRule 34 rfl
theorem d_Wa_gatherRule_61 : decode y_Wa_gatherRule.2.2.1 61 = .ok (.iload 6, 2) := mj_d (q := (61, .iload 6, 2)) k_Wa_gatherRule 35 rfl
theorem d_Wa_gatherRule_63 : decode y_Wa_gatherRule.2.2.1 63 = .ok (.aload_n 0, 1) := mj_d (q := (63, .aload_n 0, 1)) k_Wa_gatherRule 36 rfl
theorem d_Wa_gatherRule_64 : decode y_Wa_gatherRule.2.2.1 64 = .ok (.getfield 34, 3) := mj_d (q := (64, .getfield 34, 3)) k_Wa_gatherRule 37 rfl
theorem d_Wa_gatherRule_67 : decode y_Wa_gatherRule.2.2.1 67 = .ok (.if_icmp .gt 123, 3) := mj_d (q := (67, .if_icmp .gt 123, 3)) k_Wa_gatherRule 38 rfl
theorem d_Wa_gatherRule_70 : decode y_Wa_gatherRule.2.2.1 70 = .ok (.aload_n 0, 1) := mj_d (q := (70, .aload_n 0, 1)) k_Wa_gatherRule 39 rfl
theorem d_Wa_gatherRule_71 : decode y_Wa_gatherRule.2.2.1 71 = .ok (.getfield 26, 3) := mj_d (q := (71, .getfield 26, 3)) k_Wa_gatherRule 40 rfl
theorem d_Wa_gatherRule_74 : decode y_Wa_gatherRule.2.2.1 74 = .ok (.iload_n 3, 1) := mj_d (q := (74, .iload_n 3, 1)) k_Wa_gatherRule 41 rfl
theorem d_Wa_gatherRule_75 : decode y_Wa_gatherRule.2.2.1 75 = .ok (.aload_n 0, 1) := mj_d (q := (75, .aload_n 0, 1)) k_Wa_gatherRule 42 rfl
theorem d_Wa_gatherRule_76 : decode y_Wa_gatherRule.2.2.1 76 = .ok (.getfield 30, 3) := mj_d (q := (76, .getfield 30, 3)) k_Wa_gatherRule 43 rfl
theorem d_Wa_gatherRule_79 : decode y_Wa_gatherRule.2.2.1 79 = .ok (.iload 6, 2) := mj_d (q := (79, .iload 6, 2)) k_Wa_gatherRule 44 rfl
theorem d_Wa_gatherRule_81 : decode y_Wa_gatherRule.2.2.1 81 = .ok (.invokevirtual 58, 3) := mj_d (q := (81, .invokevirtual 58, 3)) k_Wa_gatherRule 45 rfl
theorem d_Wa_gatherRule_84 : decode y_Wa_gatherRule.2.2.1 84 = .ok (.lstore 7, 2) := mj_d (q := (84, .lstore 7, 2)) k_Wa_gatherRule 46 rfl
theorem d_Wa_gatherRule_86 : decode y_Wa_gatherRule.2.2.1 86 = .ok (.lload 7, 2) := mj_d (q := (86, .lload 7, 2)) k_Wa_gatherRule 47 rfl
theorem d_Wa_gatherRule_88 : decode y_Wa_gatherRule.2.2.1 88 = .ok (.lconst 0, 1) := mj_d (q := (88, .lconst 0, 1)) k_Wa_gatherRule 48 rfl
theorem d_Wa_gatherRule_89 : decode y_Wa_gatherRule.2.2.1 89 = .ok (.lcmp, 1) := mj_d (q := (89, .lcmp, 1)) k_Wa_gatherRule 49 rfl
theorem d_Wa_gatherRule_90 : decode y_Wa_gatherRule.2.2.1 90 = .ok (.ifCond .ne 6, 3) := mj_d (q := (90, .ifCond .ne 6, 3)) k_Wa_gatherRule 50 rfl
theorem d_Wa_gatherRule_93 : decode y_Wa_gatherRule.2.2.1 93 = .ok (.goto 91, 3) := mj_d (q := (93, .goto 91, 3)) k_Wa_gatherRule 51 rfl
theorem d_Wa_gatherRule_96 : decode y_Wa_gatherRule.2.2.1 96 = .ok (.iload 5, 2) := mj_d (q := (96, .iload 5, 2)) k_Wa_gatherRule 52 rfl
theorem d_Wa_gatherRule_98 : decode y_Wa_gatherRule.2.2.1 98 = .ok (.iconst (-1), 1) := mj_d (q := (98, .iconst (-1), 1)) k_Wa_gatherRule 53 rfl
theorem d_Wa_gatherRule_99 : decode y_Wa_gatherRule.2.2.1 99 = .ok (.if_icmp .ne 10, 3) := mj_d (q := (99, .if_icmp .ne 10, 3)) k_Wa_gatherRule 54 rfl
theorem d_Wa_gatherRule_102 : decode y_Wa_gatherRule.2.2.1 102 = .ok (.aload_n 0, 1) := mj_d (q := (102, .aload_n 0, 1)) k_Wa_gatherRule 55 rfl
theorem d_Wa_gatherRule_103 : decode y_Wa_gatherRule.2.2.1 103 = .ok (.getfield 34, 3) := mj_d (q := (103, .getfield 34, 3)) k_Wa_gatherRule 56 rfl
theorem d_Wa_gatherRule_106 : decode y_Wa_gatherRule.2.2.1 106 = .ok (.goto 5, 3) := mj_d (q := (106, .goto 5, 3)) k_Wa_gatherRule 57 rfl
theorem d_Wa_gatherRule_109 : decode y_Wa_gatherRule.2.2.1 109 = .ok (.iload 6, 2) := mj_d (q := (109, .iload 6, 2)) k_Wa_gatherRule 58 rfl
theorem d_Wa_gatherRule_111 : decode y_Wa_gatherRule.2.2.1 111 = .ok (.istore 9, 2) := mj_d (q := (111, .istore 9, 2)) k_Wa_gatherRule 59 rfl
theorem d_Wa_gatherRule_113 : decode y_Wa_gatherRule.2.2.1 113 = .ok (.iload 9, 2) := mj_d (q := (113, .iload 9, 2)) k_Wa_gatherRule 60 rfl
theorem d_Wa_gatherRule_115 : decode y_Wa_gatherRule.2.2.1 115 = .ok (.aload_n 0, 1) := mj_d (q := (115, .aload_n 0, 1)) k_Wa_gatherRule 61 rfl
theorem d_Wa_gatherRule_116 : decode y_Wa_gatherRule.2.2.1 116 = .ok (.getfield 34, 3) := mj_d (q := (116, .getfield 34, 3)) k_Wa_gatherRule 62 rfl
theorem d_Wa_gatherRule_119 : decode y_Wa_gatherRule.2.2.1 119 = .ok (.if_icmp .gt 65, 3) := mj_d (q := (119, .if_icmp .gt 65, 3)) k_Wa_gatherRule 63 rfl
theorem d_Wa_gatherRule_122 : decode y_Wa_gatherRule.2.2.1 122 = .ok (.lload 7, 2) := mj_d (q := (122, .lload 7, 2)) k_Wa_gatherRule 64 rfl
theorem d_Wa_gatherRule_124 : decode y_Wa_gatherRule.2.2.1 124 = .ok (.aload_n 0, 1) := mj_d (q := (124, .aload_n 0, 1)) k_Wa_gatherRule 65 rfl
theorem d_Wa_gatherRule_125 : decode y_Wa_gatherRule.2.2.1 125 = .ok (.getfield 26, 3) := mj_d (q := (125, .getfield 26, 3)) k_Wa_gatherRule 66 rfl
theorem d_Wa_gatherRule_128 : decode y_Wa_gatherRule.2.2.1 128 = .ok (.iload 4, 2) := mj_d (q := (128, .iload 4, 2)) k_Wa_gatherRule 67 rfl
theorem d_Wa_gatherRule_130 : decode y_Wa_gatherRule.2.2.1 130 = .ok (.iload 6, 2) := mj_d (q := (130, .iload 6, 2)) k_Wa_gatherRule 68 rfl
theorem d_Wa_gatherRule_132 : decode y_Wa_gatherRule.2.2.1 132 = .ok (.iload 9, 2) := mj_d (q := (132, .iload 9, 2)) k_Wa_gatherRule 69 rfl
theorem d_Wa_gatherRule_134 : decode y_Wa_gatherRule.2.2.1 134 = .ok (.invokevirtual 58, 3) := mj_d (q := (134, .invokevirtual 58, 3)) k_Wa_gatherRule 70 rfl
theorem d_Wa_gatherRule_137 : decode y_Wa_gatherRule.2.2.1 137 = .ok (.invokestatic 64, 3) := mj_d (q := (137, .invokestatic 64, 3)) k_Wa_gatherRule 71 rfl
theorem d_Wa_gatherRule_140 : decode y_Wa_gatherRule.2.2.1 140 = .ok (.lstore 10, 2) := mj_d (q := (140, .lstore 10, 2)) k_Wa_gatherRule 72 rfl
theorem d_Wa_gatherRule_142 : decode y_Wa_gatherRule.2.2.1 142 = .ok (.lload 10, 2) := mj_d (q := (142, .lload 10, 2)) k_Wa_gatherRule 73 rfl
theorem d_Wa_gatherRule_144 : decode y_Wa_gatherRule.2.2.1 144 = .ok (.lconst 0, 1) := mj_d (q := (144, .lconst 0, 1)) k_Wa_gatherRule 74 rfl
theorem d_Wa_gatherRule_145 : decode y_Wa_gatherRule.2.2.1 145 = .ok (.lcmp, 1) := mj_d (q := (145, .lcmp, 1)) k_Wa_gatherRule 75 rfl
theorem d_Wa_gatherRule_146 : decode y_Wa_gatherRule.2.2.1 146 = .ok (.ifCond .eq 32, 3) := mj_d (q := (146, .ifCond .eq 32, 3)) k_Wa_gatherRule 76 rfl
theorem d_Wa_gatherRule_149 : decode y_Wa_gatherRule.2.2.1 149 = .ok (.aload_n 0, 1) := mj_d (q := (149, .aload_n 0, 1)) k_Wa_gatherRule 77 rfl
theorem d_Wa_gatherRule_150 : decode y_Wa_gatherRule.2.2.1 150 = .ok (.iload_n 1, 1) := mj_d (q := (150, .iload_n 1, 1)) k_Wa_gatherRule 78 rfl
theorem d_Wa_gatherRule_151 : decode y_Wa_gatherRule.2.2.1 151 = .ok (.iload 6, 2) := mj_d (q := (151, .iload 6, 2)) k_Wa_gatherRule 79 rfl
theorem d_Wa_gatherRule_153 : decode y_Wa_gatherRule.2.2.1 153 = .ok (.iload 9, 2) := mj_d (q := (153, .iload 9, 2)) k_Wa_gatherRule 80 rfl
theorem d_Wa_gatherRule_155 : decode y_Wa_gatherRule.2.2.1 155 = .ok (.lload 10, 2) := mj_d (q := (155, .lload 10, 2)) k_Wa_gatherRule 81 rfl
theorem d_Wa_gatherRule_157 : decode y_Wa_gatherRule.2.2.1 157 = .ok (.aload_n 0, 1) := mj_d (q := (157, .aload_n 0, 1)) k_Wa_gatherRule 82 rfl
theorem d_Wa_gatherRule_158 : decode y_Wa_gatherRule.2.2.1 158 = .ok (.getfield 26, 3) := mj_d (q := (158, .getfield 26, 3)) k_Wa_gatherRule 83 rfl
theorem d_Wa_gatherRule_161 : decode y_Wa_gatherRule.2.2.1 161 = .ok (.iload 5, 2) := mj_d (q := (161, .iload 5, 2)) k_Wa_gatherRule 84 rfl
theorem d_Wa_gatherRule_163 : decode y_Wa_gatherRule.2.2.1 163 = .ok (.iload 9, 2) := mj_d (q := (163, .iload 9, 2)) k_Wa_gatherRule 85 rfl
theorem d_Wa_gatherRule_165 : decode y_Wa_gatherRule.2.2.1 165 = .ok (.aload_n 0, 1) := mj_d (q := (165, .aload_n 0, 1)) k_Wa_gatherRule 86 rfl
theorem d_Wa_gatherRule_166 : decode y_Wa_gatherRule.2.2.1 166 = .ok (.getfield 34, 3) := mj_d (q := (166, .getfield 34, 3)) k_Wa_gatherRule 87 rfl
theorem d_Wa_gatherRule_169 : decode y_Wa_gatherRule.2.2.1 169 = .ok (.invokevirtual 58, 3) := mj_d (q := (169, .invokevirtual 58, 3)) k_Wa_gatherRule 88 rfl
theorem d_Wa_gatherRule_172 : decode y_Wa_gatherRule.2.2.1 172 = .ok (.invokestatic 64, 3) := mj_d (q := (172, .invokestatic 64, 3)) k_Wa_gatherRule 89 rfl
theorem d_Wa_gatherRule_175 : decode y_Wa_gatherRule.2.2.1 175 = .ok (.invokevirtual 68, 3) := mj_d (q := (175, .invokevirtual 68, 3)) k_Wa_gatherRule 90 rfl
theorem d_Wa_gatherRule_178 : decode y_Wa_gatherRule.2.2.1 178 = .ok (.iinc 9 1, 3) := mj_d (q := (178, .iinc 9 1, 3)) k_Wa_gatherRule 91 rfl
theorem d_Wa_gatherRule_181 : decode y_Wa_gatherRule.2.2.1 181 = .ok (.goto (-68), 3) := mj_d (q := (181, .goto (-68), 3)) k_Wa_gatherRule 92 rfl
theorem d_Wa_gatherRule_184 : decode y_Wa_gatherRule.2.2.1 184 = .ok (.iinc 6 1, 3) := mj_d (q := (184, .iinc 6 1, 3)) k_Wa_gatherRule 93 rfl
theorem d_Wa_gatherRule_187 : decode y_Wa_gatherRule.2.2.1 187 = .ok (.goto (-126), 3) := mj_d (q := (187, .goto (-126), 3)) k_Wa_gatherRule 94 rfl
theorem d_Wa_gatherRule_190 : decode y_Wa_gatherRule.2.2.1 190 = .ok (.return_, 1) := mj_d (q := (190, .return_, 1)) k_Wa_gatherRule 95 rfl
theorem d_Co_over_0 : decode y_Co_over.2.2.1 0 = .ok (.iload_n 1, 1) := mj_d (q := (0, .iload_n 1, 1)) k_Co_over 0 rfl
theorem d_Co_over_1 : decode y_Co_over.2.2.1 1 = .ok (.iconst (-1), 1) := mj_d (q := (1, .iconst (-1), 1)) k_Co_over 1 rfl
theorem d_Co_over_2 : decode y_Co_over.2.2.1 2 = .ok (.if_icmp .ne 14, 3) := mj_d (q := (2, .if_icmp .ne 14, 3)) k_Co_over 2 rfl
theorem d_Co_over_5 : decode y_Co_over.2.2.1 5 = .ok (.iload_n 2, 1) := mj_d (q := (5, .iload_n 2, 1)) k_Co_over 3 rfl
theorem d_Co_over_6 : decode y_Co_over.2.2.1 6 = .ok (.iload_n 3, 1) := mj_d (q := (6, .iload_n 3, 1)) k_Co_over 4 rfl
theorem d_Co_over_7 : decode y_Co_over.2.2.1 7 = .ok (.if_icmp .ne 7, 3) := mj_d (q := (7, .if_icmp .ne 7, 3)) k_Co_over 5 rfl
theorem d_Co_over_10 : decode y_Co_over.2.2.1 10 = .ok (.lconst 1, 1) := mj_d (q := (10, .lconst 1, 1)) k_Co_over 6 rfl
theorem d_Co_over_11 : decode y_Co_over.2.2.1 11 = .ok (.goto 4, 3) := mj_d (q := (11, .goto 4, 3)) k_Co_over 7 rfl
theorem d_Co_over_14 : decode y_Co_over.2.2.1 14 = .ok (.lconst 0, 1) := mj_d (q := (14, .lconst 0, 1)) k_Co_over 8 rfl
theorem d_Co_over_15 : decode y_Co_over.2.2.1 15 = .ok (.lreturn, 1) := mj_d (q := (15, .lreturn, 1)) k_Co_over 9 rfl
theorem d_Co_over_16 : decode y_Co_over.2.2.1 16 = .ok (.iload_n 1, 1) := mj_d (q := (16, .iload_n 1, 1)) k_Co_over 10 rfl
theorem d_Co_over_17 : decode y_Co_over.2.2.1 17 = .ok (.bipush 8, 2) := mj_d (q := (17, .bipush 8, 2)) k_Co_over 11 rfl
theorem d_Co_over_19 : decode y_Co_over.2.2.1 19 = .ok (.if_icmp .lt 22, 3) := mj_d (q := (19, .if_icmp .lt 22, 3)) k_Co_over 12 rfl
theorem d_Co_over_22 : decode y_Co_over.2.2.1 22 = .ok (.aload_n 0, 1) := mj_d (q := (22, .aload_n 0, 1)) k_Co_over 13 rfl
theorem d_Co_over_23 : decode y_Co_over.2.2.1 23 = .ok (.getfield 15, 3) := mj_d (q := (23, .getfield 15, 3)) k_Co_over 14 rfl
theorem d_Co_over_26 : decode y_Co_over.2.2.1 26 = .ok (.iload_n 1, 1) := mj_d (q := (26, .iload_n 1, 1)) k_Co_over 15 rfl
theorem d_Co_over_27 : decode y_Co_over.2.2.1 27 = .ok (.iload_n 2, 1) := mj_d (q := (27, .iload_n 2, 1)) k_Co_over 16 rfl
theorem d_Co_over_28 : decode y_Co_over.2.2.1 28 = .ok (.iload_n 3, 1) := mj_d (q := (28, .iload_n 3, 1)) k_Co_over 17 rfl
theorem d_Co_over_29 : decode y_Co_over.2.2.1 29 = .ok (.invokevirtual 19, 3) := mj_d (q := (29, .invokevirtual 19, 3)) k_Co_over 18 rfl
theorem d_Co_over_32 : decode y_Co_over.2.2.1 32 = .ok (.ifCond .eq 7, 3) := mj_d (q := (32, .ifCond .eq 7, 3)) k_Co_over 19 rfl
theorem d_Co_over_35 : decode y_Co_over.2.2.1 35 = .ok (.lconst 1, 1) := mj_d (q := (35, .lconst 1, 1)) k_Co_over 20 rfl
theorem d_Co_over_36 : decode y_Co_over.2.2.1 36 = .ok (.goto 4, 3) := mj_d (q := (36, .goto 4, 3)) k_Co_over 21 rfl
theorem d_Co_over_39 : decode y_Co_over.2.2.1 39 = .ok (.lconst 0, 1) := mj_d (q := (39, .lconst 0, 1)) k_Co_over 22 rfl
theorem d_Co_over_40 : decode y_Co_over.2.2.1 40 = .ok (.lreturn, 1) := mj_d (q := (40, .lreturn, 1)) k_Co_over 23 rfl
theorem d_Co_over_41 : decode y_Co_over.2.2.1 41 = .ok (.aload_n 0, 1) := mj_d (q := (41, .aload_n 0, 1)) k_Co_over 24 rfl
theorem d_Co_over_42 : decode y_Co_over.2.2.1 42 = .ok (.getfield 9, 3) := mj_d (q := (42, .getfield 9, 3)) k_Co_over 25 rfl
theorem d_Co_over_45 : decode y_Co_over.2.2.1 45 = .ok (.iload_n 1, 1) := mj_d (q := (45, .iload_n 1, 1)) k_Co_over 26 rfl
theorem d_Co_over_46 : decode y_Co_over.2.2.1 46 = .ok (.iload_n 2, 1) := mj_d (q := (46, .iload_n 2, 1)) k_Co_over 27 rfl
theorem d_Co_over_47 : decode y_Co_over.2.2.1 47 = .ok (.iload_n 3, 1) := mj_d (q := (47, .iload_n 3, 1)) k_Co_over 28 rfl
theorem d_Co_over_48 : decode y_Co_over.2.2.1 48 = .ok (.invokestatic 25, 3) := mj_d (q := (48, .invokestatic 25, 3)) k_Co_over 29 rfl
theorem d_Co_over_51 : decode y_Co_over.2.2.1 51 = .ok (.laload, 1) := mj_d (q := (51, .laload, 1)) k_Co_over 30 rfl
theorem d_Co_over_52 : decode y_Co_over.2.2.1 52 = .ok (.lreturn, 1) := mj_d (q := (52, .lreturn, 1)) k_Co_over 31 rfl
theorem d_Ta_isJust_0 : decode y_Ta_isJust.2.2.1 0 = .ok (.iload_n 3, 1) := mj_d (q := (0, .iload_n 3, 1)) k_Ta_isJust 0 rfl
theorem d_Ta_isJust_1 : decode y_Ta_isJust.2.2.1 1 = .ok (.iload_n 2, 1) := mj_d (q := (1, .iload_n 2, 1)) k_Ta_isJust 1 rfl
theorem d_Ta_isJust_2 : decode y_Ta_isJust.2.2.1 2 = .ok (.iconst 1, 1) := mj_d (q := (2, .iconst 1, 1)) k_Ta_isJust 2 rfl
theorem d_Ta_isJust_3 : decode y_Ta_isJust.2.2.1 3 = .ok (.iadd, 1) := mj_d (q := (3, .iadd, 1)) k_Ta_isJust 3 rfl
theorem d_Ta_isJust_4 : decode y_Ta_isJust.2.2.1 4 = .ok (.if_icmp .ne 29, 3) := mj_d (q := (4, .if_icmp .ne 29, 3)) k_Ta_isJust 4 rfl
theorem d_Ta_isJust_7 : decode y_Ta_isJust.2.2.1 7 = .ok (.iload_n 2, 1) := mj_d (q := (7, .iload_n 2, 1)) k_Ta_isJust 5 rfl
theorem d_Ta_isJust_8 : decode y_Ta_isJust.2.2.1 8 = .ok (.ifCond .lt 25, 3) := mj_d (q := (8, .ifCond .lt 25, 3)) k_Ta_isJust 6 rfl
theorem d_Ta_isJust_11 : decode y_Ta_isJust.2.2.1 11 = .ok (.iload_n 2, 1) := mj_d (q := (11, .iload_n 2, 1)) k_Ta_isJust 7 rfl
theorem d_Ta_isJust_12 : decode y_Ta_isJust.2.2.1 12 = .ok (.aload_n 0, 1) := mj_d (q := (12, .aload_n 0, 1)) k_Ta_isJust 8 rfl
theorem d_Ta_isJust_13 : decode y_Ta_isJust.2.2.1 13 = .ok (.getfield 15, 3) := mj_d (q := (13, .getfield 15, 3)) k_Ta_isJust 9 rfl
theorem d_Ta_isJust_16 : decode y_Ta_isJust.2.2.1 16 = .ok (.if_icmp .ge 17, 3) := mj_d (q := (16, .if_icmp .ge 17, 3)) k_Ta_isJust 10 rfl
theorem d_Ta_isJust_19 : decode y_Ta_isJust.2.2.1 19 = .ok (.aload_n 0, 1) := mj_d (q := (19, .aload_n 0, 1)) k_Ta_isJust 11 rfl
theorem d_Ta_isJust_20 : decode y_Ta_isJust.2.2.1 20 = .ok (.getfield 9, 3) := mj_d (q := (20, .getfield 9, 3)) k_Ta_isJust 12 rfl
theorem d_Ta_isJust_23 : decode y_Ta_isJust.2.2.1 23 = .ok (.iload_n 2, 1) := mj_d (q := (23, .iload_n 2, 1)) k_Ta_isJust 13 rfl
theorem d_Ta_isJust_24 : decode y_Ta_isJust.2.2.1 24 = .ok (.iaload, 1) := mj_d (q := (24, .iaload, 1)) k_Ta_isJust 14 rfl
theorem d_Ta_isJust_25 : decode y_Ta_isJust.2.2.1 25 = .ok (.iload_n 1, 1) := mj_d (q := (25, .iload_n 1, 1)) k_Ta_isJust 15 rfl
theorem d_Ta_isJust_26 : decode y_Ta_isJust.2.2.1 26 = .ok (.if_icmp .ne 7, 3) := mj_d (q := (26, .if_icmp .ne 7, 3)) k_Ta_isJust 16 rfl
theorem d_Ta_isJust_29 : decode y_Ta_isJust.2.2.1 29 = .ok (.iconst 1, 1) := mj_d (q := (29, .iconst 1, 1)) k_Ta_isJust 17 rfl
theorem d_Ta_isJust_30 : decode y_Ta_isJust.2.2.1 30 = .ok (.goto 4, 3) := mj_d (q := (30, .goto 4, 3)) k_Ta_isJust 18 rfl
theorem d_Ta_isJust_33 : decode y_Ta_isJust.2.2.1 33 = .ok (.iconst 0, 1) := mj_d (q := (33, .iconst 0, 1)) k_Ta_isJust 19 rfl
theorem d_Ta_isJust_34 : decode y_Ta_isJust.2.2.1 34 = .ok (.ireturn, 1) := mj_d (q := (34, .ireturn, 1)) k_Ta_isJust 20 rfl
theorem d_CF_product_0 : decode y_CF_product.2.2.1 0 = .ok (.lload_n 0, 1) := mj_d (q := (0, .lload_n 0, 1)) k_CF_product 0 rfl
theorem d_CF_product_1 : decode y_CF_product.2.2.1 1 = .ok (.lconst 0, 1) := mj_d (q := (1, .lconst 0, 1)) k_CF_product 1 rfl
theorem d_CF_product_2 : decode y_CF_product.2.2.1 2 = .ok (.lcmp, 1) := mj_d (q := (2, .lcmp, 1)) k_CF_product 2 rfl
theorem d_CF_product_3 : decode y_CF_product.2.2.1 3 = .ok (.ifCond .eq 9, 3) := mj_d (q := (3, .ifCond .eq 9, 3)) k_CF_product 3 rfl
theorem d_CF_product_6 : decode y_CF_product.2.2.1 6 = .ok (.lload_n 2, 1) := mj_d (q := (6, .lload_n 2, 1)) k_CF_product 4 rfl
theorem d_CF_product_7 : decode y_CF_product.2.2.1 7 = .ok (.lconst 0, 1) := mj_d (q := (7, .lconst 0, 1)) k_CF_product 5 rfl
theorem d_CF_product_8 : decode y_CF_product.2.2.1 8 = .ok (.lcmp, 1) := mj_d (q := (8, .lcmp, 1)) k_CF_product 6 rfl
theorem d_CF_product_9 : decode y_CF_product.2.2.1 9 = .ok (.ifCond .ne 5, 3) := mj_d (q := (9, .ifCond .ne 5, 3)) k_CF_product 7 rfl
theorem d_CF_product_12 : decode y_CF_product.2.2.1 12 = .ok (.lconst 0, 1) := mj_d (q := (12, .lconst 0, 1)) k_CF_product 8 rfl
theorem d_CF_product_13 : decode y_CF_product.2.2.1 13 = .ok (.lreturn, 1) := mj_d (q := (13, .lreturn, 1)) k_CF_product 9 rfl
theorem d_CF_product_14 : decode y_CF_product.2.2.1 14 = .ok (.lload_n 0, 1) := mj_d (q := (14, .lload_n 0, 1)) k_CF_product 10 rfl
theorem d_CF_product_15 : decode y_CF_product.2.2.1 15 = .ok (.ldc2_w 140, 3) := mj_d (q := (15, .ldc2_w 140, 3)) k_CF_product 11 rfl
theorem d_CF_product_18 : decode y_CF_product.2.2.1 18 = .ok (.lcmp, 1) := mj_d (q := (18, .lcmp, 1)) k_CF_product 12 rfl
theorem d_CF_product_19 : decode y_CF_product.2.2.1 19 = .ok (.ifCond .eq 11, 3) := mj_d (q := (19, .ifCond .eq 11, 3)) k_CF_product 13 rfl
theorem d_CF_product_22 : decode y_CF_product.2.2.1 22 = .ok (.lload_n 2, 1) := mj_d (q := (22, .lload_n 2, 1)) k_CF_product 14 rfl
theorem d_CF_product_23 : decode y_CF_product.2.2.1 23 = .ok (.ldc2_w 140, 3) := mj_d (q := (23, .ldc2_w 140, 3)) k_CF_product 15 rfl
theorem d_CF_product_26 : decode y_CF_product.2.2.1 26 = .ok (.lcmp, 1) := mj_d (q := (26, .lcmp, 1)) k_CF_product 16 rfl
theorem d_CF_product_27 : decode y_CF_product.2.2.1 27 = .ok (.ifCond .ne 7, 3) := mj_d (q := (27, .ifCond .ne 7, 3)) k_CF_product 17 rfl
theorem d_CF_product_30 : decode y_CF_product.2.2.1 30 = .ok (.ldc2_w 140, 3) := mj_d (q := (30, .ldc2_w 140, 3)) k_CF_product 18 rfl
theorem d_CF_product_33 : decode y_CF_product.2.2.1 33 = .ok (.lreturn, 1) := mj_d (q := (33, .lreturn, 1)) k_CF_product 19 rfl
theorem d_CF_product_34 : decode y_CF_product.2.2.1 34 = .ok (.lload_n 0, 1) := mj_d (q := (34, .lload_n 0, 1)) k_CF_product 20 rfl
theorem d_CF_product_35 : decode y_CF_product.2.2.1 35 = .ok (.ldc2_w 131, 3) := mj_d (q := (35, .ldc2_w 131, 3)) k_CF_product 21 rfl
theorem d_CF_product_38 : decode y_CF_product.2.2.1 38 = .ok (.lload_n 2, 1) := mj_d (q := (38, .lload_n 2, 1)) k_CF_product 22 rfl
theorem d_CF_product_39 : decode y_CF_product.2.2.1 39 = .ok (.ldiv, 1) := mj_d (q := (39, .ldiv, 1)) k_CF_product 23 rfl
theorem d_CF_product_40 : decode y_CF_product.2.2.1 40 = .ok (.lcmp, 1) := mj_d (q := (40, .lcmp, 1)) k_CF_product 24 rfl
theorem d_CF_product_41 : decode y_CF_product.2.2.1 41 = .ok (.ifCond .le 9, 3) := mj_d (q := (41, .ifCond .le 9, 3)) k_CF_product 25 rfl
theorem d_CF_product_44 : decode y_CF_product.2.2.1 44 = .ok (.ldc2_w 131, 3) := mj_d (q := (44, .ldc2_w 131, 3)) k_CF_product 26 rfl
theorem d_CF_product_47 : decode y_CF_product.2.2.1 47 = .ok (.goto 6, 3) := mj_d (q := (47, .goto 6, 3)) k_CF_product 27 rfl
theorem d_CF_product_50 : decode y_CF_product.2.2.1 50 = .ok (.lload_n 0, 1) := mj_d (q := (50, .lload_n 0, 1)) k_CF_product 28 rfl
theorem d_CF_product_51 : decode y_CF_product.2.2.1 51 = .ok (.lload_n 2, 1) := mj_d (q := (51, .lload_n 2, 1)) k_CF_product 29 rfl
theorem d_CF_product_52 : decode y_CF_product.2.2.1 52 = .ok (.lmul, 1) := mj_d (q := (52, .lmul, 1)) k_CF_product 30 rfl
theorem d_CF_product_53 : decode y_CF_product.2.2.1 53 = .ok (.lreturn, 1) := mj_d (q := (53, .lreturn, 1)) k_CF_product 31 rfl
theorem d_Wa_keep_0 : decode y_Wa_keep.2.2.1 0 = .ok (.lload 4, 2) := mj_d (q := (0, .lload 4, 2)) k_Wa_keep 0 rfl
theorem d_Wa_keep_2 : decode y_Wa_keep.2.2.1 2 = .ok (.lconst 0, 1) := mj_d (q := (2, .lconst 0, 1)) k_Wa_keep 1 rfl
theorem d_Wa_keep_3 : decode y_Wa_keep.2.2.1 3 = .ok (.lcmp, 1) := mj_d (q := (3, .lcmp, 1)) k_Wa_keep 2 rfl
theorem d_Wa_keep_4 : decode y_Wa_keep.2.2.1 4 = .ok (.ifCond .eq 59, 3) := mj_d (q := (4, .ifCond .eq 59, 3)) k_Wa_keep 3 rfl
theorem d_Wa_keep_7 : decode y_Wa_keep.2.2.1 7 = .ok (.aload_n 0, 1) := mj_d (q := (7, .aload_n 0, 1)) k_Wa_keep 4 rfl
theorem d_Wa_keep_8 : decode y_Wa_keep.2.2.1 8 = .ok (.getfield 37, 3) := mj_d (q := (8, .getfield 37, 3)) k_Wa_keep 5 rfl
theorem d_Wa_keep_11 : decode y_Wa_keep.2.2.1 11 = .ok (.sipush 910, 3) := mj_d (q := (11, .sipush 910, 3)) k_Wa_keep 6 rfl
theorem d_Wa_keep_14 : decode y_Wa_keep.2.2.1 14 = .ok (.if_icmp .ge 49, 3) := mj_d (q := (14, .if_icmp .ge 49, 3)) k_Wa_keep 7 rfl
theorem d_Wa_keep_17 : decode y_Wa_keep.2.2.1 17 = .ok (.aload_n 0, 1) := mj_d (q := (17, .aload_n 0, 1)) k_Wa_keep 8 rfl
theorem d_Wa_keep_18 : decode y_Wa_keep.2.2.1 18 = .ok (.getfield 9, 3) := mj_d (q := (18, .getfield 9, 3)) k_Wa_keep 9 rfl
theorem d_Wa_keep_21 : decode y_Wa_keep.2.2.1 21 = .ok (.aload_n 0, 1) := mj_d (q := (21, .aload_n 0, 1)) k_Wa_keep 10 rfl
theorem d_Wa_keep_22 : decode y_Wa_keep.2.2.1 22 = .ok (.getfield 37, 3) := mj_d (q := (22, .getfield 37, 3)) k_Wa_keep 11 rfl
theorem d_Wa_keep_25 : decode y_Wa_keep.2.2.1 25 = .ok (.iload_n 1, 1) := mj_d (q := (25, .iload_n 1, 1)) k_Wa_keep 12 rfl
theorem d_Wa_keep_26 : decode y_Wa_keep.2.2.1 26 = .ok (.iastore, 1) := mj_d (q := (26, .iastore, 1)) k_Wa_keep 13 rfl
theorem d_Wa_keep_27 : decode y_Wa_keep.2.2.1 27 = .ok (.aload_n 0, 1) := mj_d (q := (27, .aload_n 0, 1)) k_Wa_keep 14 rfl
theorem d_Wa_keep_28 : decode y_Wa_keep.2.2.1 28 = .ok (.getfield 15, 3) := mj_d (q := (28, .getfield 15, 3)) k_Wa_keep 15 rfl
theorem d_Wa_keep_31 : decode y_Wa_keep.2.2.1 31 = .ok (.aload_n 0, 1) := mj_d (q := (31, .aload_n 0, 1)) k_Wa_keep 16 rfl
theorem d_Wa_keep_32 : decode y_Wa_keep.2.2.1 32 = .ok (.getfield 37, 3) := mj_d (q := (32, .getfield 37, 3)) k_Wa_keep 17 rfl
theorem d_Wa_keep_35 : decode y_Wa_keep.2.2.1 35 = .ok (.iload_n 2, 1) := mj_d (q := (35, .iload_n 2, 1)) k_Wa_keep 18 rfl
theorem d_Wa_keep_36 : decode y_Wa_keep.2.2.1 36 = .ok (.bipush 13, 2) := mj_d (q := (36, .bipush 13, 2)) k_Wa_keep 19 rfl
theorem d_Wa_keep_38 : decode y_Wa_keep.2.2.1 38 = .ok (.imul, 1) := mj_d (q := (38, .imul, 1)) k_Wa_keep 20 rfl
theorem d_Wa_keep_39 : decode y_Wa_keep.2.2.1 39 = .ok (.iload_n 3, 1) := mj_d (q := (39, .iload_n 3, 1)) k_Wa_keep 21 rfl
theorem d_Wa_keep_40 : decode y_Wa_keep.2.2.1 40 = .ok (.iadd, 1) := mj_d (q := (40, .iadd, 1)) k_Wa_keep 22 rfl
theorem d_Wa_keep_41 : decode y_Wa_keep.2.2.1 41 = .ok (.iastore, 1) := mj_d (q := (41, .iastore, 1)) k_Wa_keep 23 rfl
theorem d_Wa_keep_42 : decode y_Wa_keep.2.2.1 42 = .ok (.aload_n 0, 1) := mj_d (q := (42, .aload_n 0, 1)) k_Wa_keep 24 rfl
theorem d_Wa_keep_43 : decode y_Wa_keep.2.2.1 43 = .ok (.getfield 18, 3) := mj_d (q := (43, .getfield 18, 3)) k_Wa_keep 25 rfl
theorem d_Wa_keep_46 : decode y_Wa_keep.2.2.1 46 = .ok (.aload_n 0, 1) := mj_d (q := (46, .aload_n 0, 1)) k_Wa_keep 26 rfl
theorem d_Wa_keep_47 : decode y_Wa_keep.2.2.1 47 = .ok (.getfield 37, 3) := mj_d (q := (47, .getfield 37, 3)) k_Wa_keep 27 rfl
theorem d_Wa_keep_50 : decode y_Wa_keep.2.2.1 50 = .ok (.lload 4, 2) := mj_d (q := (50, .lload 4, 2)) k_Wa_keep 28 rfl
theorem d_Wa_keep_52 : decode y_Wa_keep.2.2.1 52 = .ok (.lastore, 1) := mj_d (q := (52, .lastore, 1)) k_Wa_keep 29 rfl
theorem d_Wa_keep_53 : decode y_Wa_keep.2.2.1 53 = .ok (.aload_n 0, 1) := mj_d (q := (53, .aload_n 0, 1)) k_Wa_keep 30 rfl
theorem d_Wa_keep_54 : decode y_Wa_keep.2.2.1 54 = .ok (.dup, 1) := mj_d (q := (54, .dup, 1)) k_Wa_keep 31 rfl
theorem d_Wa_keep_55 : decode y_Wa_keep.2.2.1 55 = .ok (.getfield 37, 3) := mj_d (q := (55, .getfield 37, 3)) k_Wa_keep 32 rfl
theorem d_Wa_keep_58 : decode y_Wa_keep.2.2.1 58 = .ok (.iconst 1, 1) := mj_d (q := (58, .iconst 1, 1)) k_Wa_keep 33 rfl
theorem d_Wa_keep_59 : decode y_Wa_keep.2.2.1 59 = .ok (.iadd, 1) := mj_d (q := (59, .iadd, 1)) k_Wa_keep 34 rfl
theorem d_Wa_keep_60 : decode y_Wa_keep.2.2.1 60 = .ok (.putfield 37, 3) := mj_d (q := (60, .putfield 37, 3)) k_Wa_keep 35 rfl
theorem d_Wa_keep_63 : decode y_Wa_keep.2.2.1 63 = .ok (.return_, 1) := mj_d (q := (63, .return_, 1)) k_Wa_keep 36 rfl
theorem d_Fo_countTrees_0 : decode y_Fo_countTrees.2.2.1 0 = .ok (.iconst 1, 1) := mj_d (q := (0, .iconst 1, 1)) k_Fo_countTrees 0 rfl
theorem d_Fo_countTrees_1 : decode y_Fo_countTrees.2.2.1 1 = .ok (.istore_n 3, 1) := mj_d (q := (1, .istore_n 3, 1)) k_Fo_countTrees 1 rfl
theorem d_Fo_countTrees_2 : decode y_Fo_countTrees.2.2.1 2 = .ok (.iconst 0, 1) := mj_d (q := (2, .iconst 0, 1)) k_Fo_countTrees 2 rfl
theorem d_Fo_countTrees_3 : decode y_Fo_countTrees.2.2.1 3 = .ok (.istore 4, 2) := mj_d (q := (3, .istore 4, 2)) k_Fo_countTrees 3 rfl
theorem d_Fo_countTrees_5 : decode y_Fo_countTrees.2.2.1 5 = .ok (.iload_n 3, 1) := mj_d (q := (5, .iload_n 3, 1)) k_Fo_countTrees 4 rfl
theorem d_Fo_countTrees_6 : decode y_Fo_countTrees.2.2.1 6 = .ok (.ifCond .eq 113, 3) := mj_d (q := (6, .ifCond .eq 113, 3)) k_Fo_countTrees 5 rfl
theorem d_Fo_countTrees_9 : decode y_Fo_countTrees.2.2.1 9 = .ok (.iload 4, 2) := mj_d (q := (9, .iload 4, 2)) k_Fo_countTrees 6 rfl
theorem d_Fo_countTrees_11 : decode y_Fo_countTrees.2.2.1 11 = .ok (.iconst 5, 1) := mj_d (q := (11, .iconst 5, 1)) k_Fo_countTrees 7 rfl
theorem d_Fo_countTrees_12 : decode y_Fo_countTrees.2.2.1 12 = .ok (.if_icmp .ge 107, 3) := mj_d (q := (12, .if_icmp .ge 107, 3)) k_Fo_countTrees 8 rfl
theorem d_Fo_countTrees_15 : decode y_Fo_countTrees.2.2.1 15 = .ok (.iconst 0, 1) := mj_d (q := (15, .iconst 0, 1)) k_Fo_countTrees 9 rfl
theorem d_Fo_countTrees_16 : decode y_Fo_countTrees.2.2.1 16 = .ok (.istore_n 3, 1) := mj_d (q := (16, .istore_n 3, 1)) k_Fo_countTrees 10 rfl
theorem d_Fo_countTrees_17 : decode y_Fo_countTrees.2.2.1 17 = .ok (.iconst 0, 1) := mj_d (q := (17, .iconst 0, 1)) k_Fo_countTrees 11 rfl
theorem d_Fo_countTrees_18 : decode y_Fo_countTrees.2.2.1 18 = .ok (.istore 5, 2) := mj_d (q := (18, .istore 5, 2)) k_Fo_countTrees 12 rfl
theorem d_Fo_countTrees_20 : decode y_Fo_countTrees.2.2.1 20 = .ok (.iload 5, 2) := mj_d (q := (20, .iload 5, 2)) k_Fo_countTrees 13 rfl
theorem d_Fo_countTrees_22 : decode y_Fo_countTrees.2.2.1 22 = .ok (.iconst 5, 1) := mj_d (q := (22, .iconst 5, 1)) k_Fo_countTrees 14 rfl
theorem d_Fo_countTrees_23 : decode y_Fo_countTrees.2.2.1 23 = .ok (.if_icmp .ge 90, 3) := mj_d (q := (23, .if_icmp .ge 90, 3)) k_Fo_countTrees 15 rfl
theorem d_Fo_countTrees_26 : decode y_Fo_countTrees.2.2.1 26 = .ok (.iload 5, 2) := mj_d (q := (26, .iload 5, 2)) k_Fo_countTrees 16 rfl
theorem d_Fo_countTrees_28 : decode y_Fo_countTrees.2.2.1 28 = .ok (.iload_n 1, 1) := mj_d (q := (28, .iload_n 1, 1)) k_Fo_countTrees 17 rfl
theorem d_Fo_countTrees_29 : decode y_Fo_countTrees.2.2.1 29 = .ok (.iload_n 2, 1) := mj_d (q := (29, .iload_n 2, 1)) k_Fo_countTrees 18 rfl
theorem d_Fo_countTrees_30 : decode y_Fo_countTrees.2.2.1 30 = .ok (.invokestatic 81, 3) := mj_d (q := (30, .invokestatic 81, 3)) k_Fo_countTrees 19 rfl
theorem d_Fo_countTrees_33 : decode y_Fo_countTrees.2.2.1 33 = .ok (.istore 6, 2) := mj_d (q := (33, .istore 6, 2)) k_Fo_countTrees 20 rfl
theorem d_Fo_countTrees_35 : decode y_Fo_countTrees.2.2.1 35 = .ok (.aload_n 0, 1) := mj_d (q := (35, .aload_n 0, 1)) k_Fo_countTrees 21 rfl
theorem d_Fo_countTrees_36 : decode y_Fo_countTrees.2.2.1 36 = .ok (.getfield 32, 3) := mj_d (q := (36, .getfield 32, 3)) k_Fo_countTrees 22 rfl
theorem d_Fo_countTrees_39 : decode y_Fo_countTrees.2.2.1 39 = .ok (.getfield 78, 3) := mj_d (q := (39, .getfield 78, 3)) k_Fo_countTrees 23 rfl
theorem d_Fo_countTrees_42 : decode y_Fo_countTrees.2.2.1 42 = .ok (.iload 6, 2) := mj_d (q := (42, .iload 6, 2)) k_Fo_countTrees 24 rfl
theorem d_Fo_countTrees_44 : decode y_Fo_countTrees.2.2.1 44 = .ok (.laload, 1) := mj_d (q := (44, .laload, 1)) k_Fo_countTrees 25 rfl
theorem d_Fo_countTrees_45 : decode y_Fo_countTrees.2.2.1 45 = .ok (.ldc2_w 85, 3) := mj_d (q := (45, .ldc2_w 85, 3)) k_Fo_countTrees 26 rfl
theorem d_Fo_countTrees_48 : decode y_Fo_countTrees.2.2.1 48 = .ok (.lcmp, 1) := mj_d (q := (48, .lcmp, 1)) k_Fo_countTrees 27 rfl
theorem d_Fo_countTrees_49 : decode y_Fo_countTrees.2.2.1 49 = .ok (.ifCond .ne 58, 3) := mj_d (q := (49, .ifCond .ne 58, 3)) k_Fo_countTrees 28 rfl
theorem d_Fo_countTrees_52 : decode y_Fo_countTrees.2.2.1 52 = .ok (.aload_n 0, 1) := mj_d (q := (52, .aload_n 0, 1)) k_Fo_countTrees 29 rfl
theorem d_Fo_countTrees_53 : decode y_Fo_countTrees.2.2.1 53 = .ok (.getfield 41, 3) := mj_d (q := (53, .getfield 41, 3)) k_Fo_countTrees 30 rfl
theorem d_Fo_countTrees_56 : decode y_Fo_countTrees.2.2.1 56 = .ok (.iload 5, 2) := mj_d (q := (56, .iload 5, 2)) k_Fo_countTrees 31 rfl
theorem d_Fo_countTrees_58 : decode y_Fo_countTrees.2.2.1 58 = .ok (.iload_n 1, 1) := mj_d (q := (58, .iload_n 1, 1)) k_Fo_countTrees 32 rfl
theorem d_Fo_countTrees_59 : decode y_Fo_countTrees.2.2.1 59 = .ok (.iload_n 2, 1) := mj_d (q := (59, .iload_n 2, 1)) k_Fo_countTrees 33 rfl
theorem d_Fo_countTrees_60 : decode y_Fo_countTrees.2.2.1 60 = .ok (.invokevirtual 67, 3) := mj_d (q := (60, .invokevirtual 67, 3)) k_Fo_countTrees 34 rfl
theorem d_Fo_countTrees_63 : decode y_Fo_countTrees.2.2.1 63 = .ok (.aload_n 0, 1) := mj_d (q := (63, .aload_n 0, 1)) k_Fo_countTrees 35 rfl
theorem d_Fo_countTrees_64 : decode y_Fo_countTrees.2.2.1 64 = .ok (.getfield 32, 3) := mj_d (q := (64, .getfield 32, 3)) k_Fo_countTrees 36 rfl
theorem d_Fo_countTrees_67 : decode y_Fo_countTrees.2.2.1 67 = .ok (.getfield 78, 3) := mj_d (q := (67, .getfield 78, 3)) k_Fo_countTrees 37 rfl
theorem d_Fo_countTrees_70 : decode y_Fo_countTrees.2.2.1 70 = .ok (.iload 6, 2) := mj_d (q := (70, .iload 6, 2)) k_Fo_countTrees 38 rfl
theorem d_Fo_countTrees_72 : decode y_Fo_countTrees.2.2.1 72 = .ok (.aload_n 0, 1) := mj_d (q := (72, .aload_n 0, 1)) k_Fo_countTrees 39 rfl
theorem d_Fo_countTrees_73 : decode y_Fo_countTrees.2.2.1 73 = .ok (.getfield 41, 3) := mj_d (q := (73, .getfield 41, 3)) k_Fo_countTrees 40 rfl
theorem d_Fo_countTrees_76 : decode y_Fo_countTrees.2.2.1 76 = .ok (.invokevirtual 87, 3) := mj_d (q := (76, .invokevirtual 87, 3)) k_Fo_countTrees 41 rfl
theorem d_Fo_countTrees_79 : decode y_Fo_countTrees.2.2.1 79 = .ok (.lastore, 1) := mj_d (q := (79, .lastore, 1)) k_Fo_countTrees 42 rfl
theorem d_Fo_countTrees_80 : decode y_Fo_countTrees.2.2.1 80 = .ok (.iload_n 3, 1) := mj_d (q := (80, .iload_n 3, 1)) k_Fo_countTrees 43 rfl
theorem d_Fo_countTrees_81 : decode y_Fo_countTrees.2.2.1 81 = .ok (.ifCond .ne 20, 3) := mj_d (q := (81, .ifCond .ne 20, 3)) k_Fo_countTrees 44 rfl
theorem d_Fo_countTrees_84 : decode y_Fo_countTrees.2.2.1 84 = .ok (.aload_n 0, 1) := mj_d (q := (84, .aload_n 0, 1)) k_Fo_countTrees 45 rfl
theorem d_Fo_countTrees_85 : decode y_Fo_countTrees.2.2.1 85 = .ok (.getfield 32, 3) := mj_d (q := (85, .getfield 32, 3)) k_Fo_countTrees 46 rfl
theorem d_Fo_countTrees_88 : decode y_Fo_countTrees.2.2.1 88 = .ok (.getfield 78, 3) := mj_d (q := (88, .getfield 78, 3)) k_Fo_countTrees 47 rfl
theorem d_Fo_countTrees_91 : decode y_Fo_countTrees.2.2.1 91 = .ok (.iload 6, 2) := mj_d (q := (91, .iload 6, 2)) k_Fo_countTrees 48 rfl
theorem d_Fo_countTrees_93 : decode y_Fo_countTrees.2.2.1 93 = .ok (.laload, 1) := mj_d (q := (93, .laload, 1)) k_Fo_countTrees 49 rfl
theorem d_Fo_countTrees_94 : decode y_Fo_countTrees.2.2.1 94 = .ok (.ldc2_w 85, 3) := mj_d (q := (94, .ldc2_w 85, 3)) k_Fo_countTrees 50 rfl
theorem d_Fo_countTrees_97 : decode y_Fo_countTrees.2.2.1 97 = .ok (.lcmp, 1) := mj_d (q := (97, .lcmp, 1)) k_Fo_countTrees 51 rfl
theorem d_Fo_countTrees_98 : decode y_Fo_countTrees.2.2.1 98 = .ok (.ifCond .eq 7, 3) := mj_d (q := (98, .ifCond .eq 7, 3)) k_Fo_countTrees 52 rfl
theorem d_Fo_countTrees_101 : decode y_Fo_countTrees.2.2.1 101 = .ok (.iconst 1, 1) := mj_d (q := (101, .iconst 1, 1)) k_Fo_countTrees 53 rfl
theorem d_Fo_countTrees_102 : decode y_Fo_countTrees.2.2.1 102 = .ok (.goto 4, 3) := mj_d (q := (102, .goto 4, 3)) k_Fo_countTrees 54 rfl
theorem d_Fo_countTrees_105 : decode y_Fo_countTrees.2.2.1 105 = .ok (.iconst 0, 1) := mj_d (q := (105, .iconst 0, 1)) k_Fo_countTrees 55 rfl
theorem d_Fo_countTrees_106 : decode y_Fo_countTrees.2.2.1 106 = .ok (.istore_n 3, 1) := mj_d (q := (106, .istore_n 3, 1)) k_Fo_countTrees 56 rfl
theorem d_Fo_countTrees_107 : decode y_Fo_countTrees.2.2.1 107 = .ok (.iinc 5 1, 3) := mj_d (q := (107, .iinc 5 1, 3)) k_Fo_countTrees 57 rfl
theorem d_Fo_countTrees_110 : decode y_Fo_countTrees.2.2.1 110 = .ok (.goto (-90), 3) := mj_d (q := (110, .goto (-90), 3)) k_Fo_countTrees 58 rfl
theorem d_Fo_countTrees_113 : decode y_Fo_countTrees.2.2.1 113 = .ok (.iinc 4 1, 3) := mj_d (q := (113, .iinc 4 1, 3)) k_Fo_countTrees 59 rfl
theorem d_Fo_countTrees_116 : decode y_Fo_countTrees.2.2.1 116 = .ok (.goto (-111), 3) := mj_d (q := (116, .goto (-111), 3)) k_Fo_countTrees 60 rfl
theorem d_Fo_countTrees_119 : decode y_Fo_countTrees.2.2.1 119 = .ok (.return_, 1) := mj_d (q := (119, .return_, 1)) k_Fo_countTrees 61 rfl
theorem d_Wa_treesOfAll_0 : decode y_Wa_treesOfAll.2.2.1 0 = .ok (.lconst 0, 1) := mj_d (q := (0, .lconst 0, 1)) k_Wa_treesOfAll 0 rfl
theorem d_Wa_treesOfAll_1 : decode y_Wa_treesOfAll.2.2.1 1 = .ok (.lstore_n 1, 1) := mj_d (q := (1, .lstore_n 1, 1)) k_Wa_treesOfAll 1 rfl
theorem d_Wa_treesOfAll_2 : decode y_Wa_treesOfAll.2.2.1 2 = .ok (.iconst 0, 1) := mj_d (q := (2, .iconst 0, 1)) k_Wa_treesOfAll 2 rfl
theorem d_Wa_treesOfAll_3 : decode y_Wa_treesOfAll.2.2.1 3 = .ok (.istore_n 3, 1) := mj_d (q := (3, .istore_n 3, 1)) k_Wa_treesOfAll 3 rfl
theorem d_Wa_treesOfAll_4 : decode y_Wa_treesOfAll.2.2.1 4 = .ok (.iload_n 3, 1) := mj_d (q := (4, .iload_n 3, 1)) k_Wa_treesOfAll 4 rfl
theorem d_Wa_treesOfAll_5 : decode y_Wa_treesOfAll.2.2.1 5 = .ok (.aload_n 0, 1) := mj_d (q := (5, .aload_n 0, 1)) k_Wa_treesOfAll 5 rfl
theorem d_Wa_treesOfAll_6 : decode y_Wa_treesOfAll.2.2.1 6 = .ok (.getfield 37, 3) := mj_d (q := (6, .getfield 37, 3)) k_Wa_treesOfAll 6 rfl
theorem d_Wa_treesOfAll_9 : decode y_Wa_treesOfAll.2.2.1 9 = .ok (.if_icmp .ge 20, 3) := mj_d (q := (9, .if_icmp .ge 20, 3)) k_Wa_treesOfAll 7 rfl
theorem d_Wa_treesOfAll_12 : decode y_Wa_treesOfAll.2.2.1 12 = .ok (.lload_n 1, 1) := mj_d (q := (12, .lload_n 1, 1)) k_Wa_treesOfAll 8 rfl
theorem d_Wa_treesOfAll_13 : decode y_Wa_treesOfAll.2.2.1 13 = .ok (.aload_n 0, 1) := mj_d (q := (13, .aload_n 0, 1)) k_Wa_treesOfAll 9 rfl
theorem d_Wa_treesOfAll_14 : decode y_Wa_treesOfAll.2.2.1 14 = .ok (.getfield 18, 3) := mj_d (q := (14, .getfield 18, 3)) k_Wa_treesOfAll 10 rfl
theorem d_Wa_treesOfAll_17 : decode y_Wa_treesOfAll.2.2.1 17 = .ok (.iload_n 3, 1) := mj_d (q := (17, .iload_n 3, 1)) k_Wa_treesOfAll 11 rfl
theorem d_Wa_treesOfAll_18 : decode y_Wa_treesOfAll.2.2.1 18 = .ok (.laload, 1) := mj_d (q := (18, .laload, 1)) k_Wa_treesOfAll 12 rfl
theorem d_Wa_treesOfAll_19 : decode y_Wa_treesOfAll.2.2.1 19 = .ok (.invokestatic 78, 3) := mj_d (q := (19, .invokestatic 78, 3)) k_Wa_treesOfAll 13 rfl
theorem d_Wa_treesOfAll_22 : decode y_Wa_treesOfAll.2.2.1 22 = .ok (.lstore_n 1, 1) := mj_d (q := (22, .lstore_n 1, 1)) k_Wa_treesOfAll 14 rfl
theorem d_Wa_treesOfAll_23 : decode y_Wa_treesOfAll.2.2.1 23 = .ok (.iinc 3 1, 3) := mj_d (q := (23, .iinc 3 1, 3)) k_Wa_treesOfAll 15 rfl
theorem d_Wa_treesOfAll_26 : decode y_Wa_treesOfAll.2.2.1 26 = .ok (.goto (-22), 3) := mj_d (q := (26, .goto (-22), 3)) k_Wa_treesOfAll 16 rfl
theorem d_Wa_treesOfAll_29 : decode y_Wa_treesOfAll.2.2.1 29 = .ok (.lload_n 1, 1) := mj_d (q := (29, .lload_n 1, 1)) k_Wa_treesOfAll 17 rfl
theorem d_Wa_treesOfAll_30 : decode y_Wa_treesOfAll.2.2.1 30 = .ok (.lreturn, 1) := mj_d (q := (30, .lreturn, 1)) k_Wa_treesOfAll 18 rfl
theorem d_CF_sum_0 : decode y_CF_sum.2.2.1 0 = .ok (.lload_n 0, 1) := mj_d (q := (0, .lload_n 0, 1)) k_CF_sum 0 rfl
theorem d_CF_sum_1 : decode y_CF_sum.2.2.1 1 = .ok (.ldc2_w 140, 3) := mj_d (q := (1, .ldc2_w 140, 3)) k_CF_sum 1 rfl
theorem d_CF_sum_4 : decode y_CF_sum.2.2.1 4 = .ok (.lcmp, 1) := mj_d (q := (4, .lcmp, 1)) k_CF_sum 2 rfl
theorem d_CF_sum_5 : decode y_CF_sum.2.2.1 5 = .ok (.ifCond .eq 11, 3) := mj_d (q := (5, .ifCond .eq 11, 3)) k_CF_sum 3 rfl
theorem d_CF_sum_8 : decode y_CF_sum.2.2.1 8 = .ok (.lload_n 2, 1) := mj_d (q := (8, .lload_n 2, 1)) k_CF_sum 4 rfl
theorem d_CF_sum_9 : decode y_CF_sum.2.2.1 9 = .ok (.ldc2_w 140, 3) := mj_d (q := (9, .ldc2_w 140, 3)) k_CF_sum 5 rfl
theorem d_CF_sum_12 : decode y_CF_sum.2.2.1 12 = .ok (.lcmp, 1) := mj_d (q := (12, .lcmp, 1)) k_CF_sum 6 rfl
theorem d_CF_sum_13 : decode y_CF_sum.2.2.1 13 = .ok (.ifCond .ne 7, 3) := mj_d (q := (13, .ifCond .ne 7, 3)) k_CF_sum 7 rfl
theorem d_CF_sum_16 : decode y_CF_sum.2.2.1 16 = .ok (.ldc2_w 140, 3) := mj_d (q := (16, .ldc2_w 140, 3)) k_CF_sum 8 rfl
theorem d_CF_sum_19 : decode y_CF_sum.2.2.1 19 = .ok (.lreturn, 1) := mj_d (q := (19, .lreturn, 1)) k_CF_sum 9 rfl
theorem d_CF_sum_20 : decode y_CF_sum.2.2.1 20 = .ok (.ldc2_w 131, 3) := mj_d (q := (20, .ldc2_w 131, 3)) k_CF_sum 10 rfl
theorem d_CF_sum_23 : decode y_CF_sum.2.2.1 23 = .ok (.lload_n 0, 1) := mj_d (q := (23, .lload_n 0, 1)) k_CF_sum 11 rfl
theorem d_CF_sum_24 : decode y_CF_sum.2.2.1 24 = .ok (.lload_n 2, 1) := mj_d (q := (24, .lload_n 2, 1)) k_CF_sum 12 rfl
theorem d_CF_sum_25 : decode y_CF_sum.2.2.1 25 = .ok (.ladd, 1) := mj_d (q := (25, .ladd, 1)) k_CF_sum 13 rfl
theorem d_CF_sum_26 : decode y_CF_sum.2.2.1 26 = .ok (.invokestatic 142, 3) := mj_d (q := (26, .invokestatic 142, 3)) k_CF_sum 14 rfl
theorem d_CF_sum_29 : decode y_CF_sum.2.2.1 29 = .ok (.lreturn, 1) := mj_d (q := (29, .lreturn, 1)) k_CF_sum 15 rfl
theorem d_Fo_nodesMet_0 : decode y_Fo_nodesMet.2.2.1 0 = .ok (.iconst 0, 1) := mj_d (q := (0, .iconst 0, 1)) k_Fo_nodesMet 0 rfl
theorem d_Fo_nodesMet_1 : decode y_Fo_nodesMet.2.2.1 1 = .ok (.istore_n 1, 1) := mj_d (q := (1, .istore_n 1, 1)) k_Fo_nodesMet 1 rfl
theorem d_Fo_nodesMet_2 : decode y_Fo_nodesMet.2.2.1 2 = .ok (.iload_n 1, 1) := mj_d (q := (2, .iload_n 1, 1)) k_Fo_nodesMet 2 rfl
theorem d_Fo_nodesMet_3 : decode y_Fo_nodesMet.2.2.1 3 = .ok (.sipush 845, 3) := mj_d (q := (3, .sipush 845, 3)) k_Fo_nodesMet 3 rfl
theorem d_Fo_nodesMet_6 : decode y_Fo_nodesMet.2.2.1 6 = .ok (.if_icmp .ge 16, 3) := mj_d (q := (6, .if_icmp .ge 16, 3)) k_Fo_nodesMet 4 rfl
theorem d_Fo_nodesMet_9 : decode y_Fo_nodesMet.2.2.1 9 = .ok (.aload_n 0, 1) := mj_d (q := (9, .aload_n 0, 1)) k_Fo_nodesMet 5 rfl
theorem d_Fo_nodesMet_10 : decode y_Fo_nodesMet.2.2.1 10 = .ok (.getfield 15, 3) := mj_d (q := (10, .getfield 15, 3)) k_Fo_nodesMet 6 rfl
theorem d_Fo_nodesMet_13 : decode y_Fo_nodesMet.2.2.1 13 = .ok (.iload_n 1, 1) := mj_d (q := (13, .iload_n 1, 1)) k_Fo_nodesMet 7 rfl
theorem d_Fo_nodesMet_14 : decode y_Fo_nodesMet.2.2.1 14 = .ok (.iconst 0, 1) := mj_d (q := (14, .iconst 0, 1)) k_Fo_nodesMet 8 rfl
theorem d_Fo_nodesMet_15 : decode y_Fo_nodesMet.2.2.1 15 = .ok (.bastore, 1) := mj_d (q := (15, .bastore, 1)) k_Fo_nodesMet 9 rfl
theorem d_Fo_nodesMet_16 : decode y_Fo_nodesMet.2.2.1 16 = .ok (.iinc 1 1, 3) := mj_d (q := (16, .iinc 1 1, 3)) k_Fo_nodesMet 10 rfl
theorem d_Fo_nodesMet_19 : decode y_Fo_nodesMet.2.2.1 19 = .ok (.goto (-17), 3) := mj_d (q := (19, .goto (-17), 3)) k_Fo_nodesMet 11 rfl
theorem d_Fo_nodesMet_22 : decode y_Fo_nodesMet.2.2.1 22 = .ok (.aload_n 0, 1) := mj_d (q := (22, .aload_n 0, 1)) k_Fo_nodesMet 12 rfl
theorem d_Fo_nodesMet_23 : decode y_Fo_nodesMet.2.2.1 23 = .ok (.iconst 0, 1) := mj_d (q := (23, .iconst 0, 1)) k_Fo_nodesMet 13 rfl
theorem d_Fo_nodesMet_24 : decode y_Fo_nodesMet.2.2.1 24 = .ok (.putfield 91, 3) := mj_d (q := (24, .putfield 91, 3)) k_Fo_nodesMet 14 rfl
theorem d_Fo_nodesMet_27 : decode y_Fo_nodesMet.2.2.1 27 = .ok (.aload_n 0, 1) := mj_d (q := (27, .aload_n 0, 1)) k_Fo_nodesMet 15 rfl
theorem d_Fo_nodesMet_28 : decode y_Fo_nodesMet.2.2.1 28 = .ok (.iconst 0, 1) := mj_d (q := (28, .iconst 0, 1)) k_Fo_nodesMet 16 rfl
theorem d_Fo_nodesMet_29 : decode y_Fo_nodesMet.2.2.1 29 = .ok (.iconst 0, 1) := mj_d (q := (29, .iconst 0, 1)) k_Fo_nodesMet 17 rfl
theorem d_Fo_nodesMet_30 : decode y_Fo_nodesMet.2.2.1 30 = .ok (.aload_n 0, 1) := mj_d (q := (30, .aload_n 0, 1)) k_Fo_nodesMet 18 rfl
theorem d_Fo_nodesMet_31 : decode y_Fo_nodesMet.2.2.1 31 = .ok (.getfield 23, 3) := mj_d (q := (31, .getfield 23, 3)) k_Fo_nodesMet 19 rfl
theorem d_Fo_nodesMet_34 : decode y_Fo_nodesMet.2.2.1 34 = .ok (.getfield 55, 3) := mj_d (q := (34, .getfield 55, 3)) k_Fo_nodesMet 20 rfl
theorem d_Fo_nodesMet_37 : decode y_Fo_nodesMet.2.2.1 37 = .ok (.invokevirtual 94, 3) := mj_d (q := (37, .invokevirtual 94, 3)) k_Fo_nodesMet 21 rfl
theorem d_Fo_nodesMet_40 : decode y_Fo_nodesMet.2.2.1 40 = .ok (.lconst 0, 1) := mj_d (q := (40, .lconst 0, 1)) k_Fo_nodesMet 22 rfl
theorem d_Fo_nodesMet_41 : decode y_Fo_nodesMet.2.2.1 41 = .ok (.lcmp, 1) := mj_d (q := (41, .lcmp, 1)) k_Fo_nodesMet 23 rfl
theorem d_Fo_nodesMet_42 : decode y_Fo_nodesMet.2.2.1 42 = .ok (.ifCond .eq 19, 3) := mj_d (q := (42, .ifCond .eq 19, 3)) k_Fo_nodesMet 24 rfl
theorem d_Fo_nodesMet_45 : decode y_Fo_nodesMet.2.2.1 45 = .ok (.aload_n 0, 1) := mj_d (q := (45, .aload_n 0, 1)) k_Fo_nodesMet 25 rfl
theorem d_Fo_nodesMet_46 : decode y_Fo_nodesMet.2.2.1 46 = .ok (.iconst 0, 1) := mj_d (q := (46, .iconst 0, 1)) k_Fo_nodesMet 26 rfl
theorem d_Fo_nodesMet_47 : decode y_Fo_nodesMet.2.2.1 47 = .ok (.iconst 0, 1) := mj_d (q := (47, .iconst 0, 1)) k_Fo_nodesMet 27 rfl
theorem d_Fo_nodesMet_48 : decode y_Fo_nodesMet.2.2.1 48 = .ok (.aload_n 0, 1) := mj_d (q := (48, .aload_n 0, 1)) k_Fo_nodesMet 28 rfl
theorem d_Fo_nodesMet_49 : decode y_Fo_nodesMet.2.2.1 49 = .ok (.getfield 23, 3) := mj_d (q := (49, .getfield 23, 3)) k_Fo_nodesMet 29 rfl
theorem d_Fo_nodesMet_52 : decode y_Fo_nodesMet.2.2.1 52 = .ok (.getfield 55, 3) := mj_d (q := (52, .getfield 55, 3)) k_Fo_nodesMet 30 rfl
theorem d_Fo_nodesMet_55 : decode y_Fo_nodesMet.2.2.1 55 = .ok (.invokestatic 81, 3) := mj_d (q := (55, .invokestatic 81, 3)) k_Fo_nodesMet 31 rfl
theorem d_Fo_nodesMet_58 : decode y_Fo_nodesMet.2.2.1 58 = .ok (.invokevirtual 97, 3) := mj_d (q := (58, .invokevirtual 97, 3)) k_Fo_nodesMet 32 rfl
theorem d_Fo_nodesMet_61 : decode y_Fo_nodesMet.2.2.1 61 = .ok (.iconst 0, 1) := mj_d (q := (61, .iconst 0, 1)) k_Fo_nodesMet 33 rfl
theorem d_Fo_nodesMet_62 : decode y_Fo_nodesMet.2.2.1 62 = .ok (.istore_n 1, 1) := mj_d (q := (62, .istore_n 1, 1)) k_Fo_nodesMet 34 rfl
theorem d_Fo_nodesMet_63 : decode y_Fo_nodesMet.2.2.1 63 = .ok (.iload_n 1, 1) := mj_d (q := (63, .iload_n 1, 1)) k_Fo_nodesMet 35 rfl
theorem d_Fo_nodesMet_64 : decode y_Fo_nodesMet.2.2.1 64 = .ok (.aload_n 0, 1) := mj_d (q := (64, .aload_n 0, 1)) k_Fo_nodesMet 36 rfl
theorem d_Fo_nodesMet_65 : decode y_Fo_nodesMet.2.2.1 65 = .ok (.getfield 91, 3) := mj_d (q := (65, .getfield 91, 3)) k_Fo_nodesMet 37 rfl
theorem d_Fo_nodesMet_68 : decode y_Fo_nodesMet.2.2.1 68 = .ok (.if_icmp .ge 50, 3) := mj_d (q := (68, .if_icmp .ge 50, 3)) k_Fo_nodesMet 38 rfl
theorem d_Fo_nodesMet_71 : decode y_Fo_nodesMet.2.2.1 71 = .ok (.iload_n 1, 1) := mj_d (q := (71, .iload_n 1, 1)) k_Fo_nodesMet 39 rfl
theorem d_Fo_nodesMet_72 : decode y_Fo_nodesMet.2.2.1 72 = .ok (.sipush 845, 3) := mj_d (q := (72, .sipush 845, 3)) k_Fo_nodesMet 40 rfl
theorem d_Fo_nodesMet_75 : decode y_Fo_nodesMet.2.2.1 75 = .ok (.if_icmp .ge 43, 3) := mj_d (q := (75, .if_icmp .ge 43, 3)) k_Fo_nodesMet 41 rfl
theorem d_Fo_nodesMet_78 : decode y_Fo_nodesMet.2.2.1 78 = .ok (.aload_n 0, 1) := mj_d (q := (78, .aload_n 0, 1)) k_Fo_nodesMet 42 rfl
theorem d_Fo_nodesMet_79 : decode y_Fo_nodesMet.2.2.1 79 = .ok (.aload_n 0, 1) := mj_d (q := (79, .aload_n 0, 1)) k_Fo_nodesMet 43 rfl
theorem d_Fo_nodesMet_80 : decode y_Fo_nodesMet.2.2.1 80 = .ok (.getfield 9, 3) := mj_d (q := (80, .getfield 9, 3)) k_Fo_nodesMet 44 rfl
theorem d_Fo_nodesMet_83 : decode y_Fo_nodesMet.2.2.1 83 = .ok (.iload_n 1, 1) := mj_d (q := (83, .iload_n 1, 1)) k_Fo_nodesMet 45 rfl
theorem d_Fo_nodesMet_84 : decode y_Fo_nodesMet.2.2.1 84 = .ok (.iaload, 1) := mj_d (q := (84, .iaload, 1)) k_Fo_nodesMet 46 rfl
theorem d_Fo_nodesMet_85 : decode y_Fo_nodesMet.2.2.1 85 = .ok (.invokevirtual 101, 3) := mj_d (q := (85, .invokevirtual 101, 3)) k_Fo_nodesMet 47 rfl
theorem d_Fo_nodesMet_88 : decode y_Fo_nodesMet.2.2.1 88 = .ok (.iconst 0, 1) := mj_d (q := (88, .iconst 0, 1)) k_Fo_nodesMet 48 rfl
theorem d_Fo_nodesMet_89 : decode y_Fo_nodesMet.2.2.1 89 = .ok (.istore_n 2, 1) := mj_d (q := (89, .istore_n 2, 1)) k_Fo_nodesMet 49 rfl
theorem d_Fo_nodesMet_90 : decode y_Fo_nodesMet.2.2.1 90 = .ok (.iload_n 2, 1) := mj_d (q := (90, .iload_n 2, 1)) k_Fo_nodesMet 50 rfl
theorem d_Fo_nodesMet_91 : decode y_Fo_nodesMet.2.2.1 91 = .ok (.aload_n 0, 1) := mj_d (q := (91, .aload_n 0, 1)) k_Fo_nodesMet 51 rfl
theorem d_Fo_nodesMet_92 : decode y_Fo_nodesMet.2.2.1 92 = .ok (.getfield 41, 3) := mj_d (q := (92, .getfield 41, 3)) k_Fo_nodesMet 52 rfl
theorem d_Fo_nodesMet_95 : decode y_Fo_nodesMet.2.2.1 95 = .ok (.getfield 71, 3) := mj_d (q := (95, .getfield 71, 3)) k_Fo_nodesMet 53 rfl
theorem d_Fo_nodesMet_98 : decode y_Fo_nodesMet.2.2.1 98 = .ok (.if_icmp .ge 14, 3) := mj_d (q := (98, .if_icmp .ge 14, 3)) k_Fo_nodesMet 54 rfl
theorem d_Fo_nodesMet_101 : decode y_Fo_nodesMet.2.2.1 101 = .ok (.aload_n 0, 1) := mj_d (q := (101, .aload_n 0, 1)) k_Fo_nodesMet 55 rfl
theorem d_Fo_nodesMet_102 : decode y_Fo_nodesMet.2.2.1 102 = .ok (.iload_n 2, 1) := mj_d (q := (102, .iload_n 2, 1)) k_Fo_nodesMet 56 rfl
theorem d_Fo_nodesMet_103 : decode y_Fo_nodesMet.2.2.1 103 = .ok (.invokevirtual 104, 3) := mj_d (q := (103, .invokevirtual 104, 3)) k_Fo_nodesMet 57 rfl
theorem d_Fo_nodesMet_106 : decode y_Fo_nodesMet.2.2.1 106 = .ok (.iinc 2 1, 3) := mj_d (q := (106, .iinc 2 1, 3)) k_Fo_nodesMet 58 rfl
theorem d_Fo_nodesMet_109 : decode y_Fo_nodesMet.2.2.1 109 = .ok (.goto (-19), 3) := mj_d (q := (109, .goto (-19), 3)) k_Fo_nodesMet 59 rfl
theorem d_Fo_nodesMet_112 : decode y_Fo_nodesMet.2.2.1 112 = .ok (.iinc 1 1, 3) := mj_d (q := (112, .iinc 1 1, 3)) k_Fo_nodesMet 60 rfl
theorem d_Fo_nodesMet_115 : decode y_Fo_nodesMet.2.2.1 115 = .ok (.goto (-52), 3) := mj_d (q := (115, .goto (-52), 3)) k_Fo_nodesMet 61 rfl
theorem d_Fo_nodesMet_118 : decode y_Fo_nodesMet.2.2.1 118 = .ok (.aload_n 0, 1) := mj_d (q := (118, .aload_n 0, 1)) k_Fo_nodesMet 62 rfl
theorem d_Fo_nodesMet_119 : decode y_Fo_nodesMet.2.2.1 119 = .ok (.getfield 91, 3) := mj_d (q := (119, .getfield 91, 3)) k_Fo_nodesMet 63 rfl
theorem d_Fo_nodesMet_122 : decode y_Fo_nodesMet.2.2.1 122 = .ok (.ireturn, 1) := mj_d (q := (122, .ireturn, 1)) k_Fo_nodesMet 64 rfl
theorem d_Fo_treesOver_0 : decode y_Fo_treesOver.2.2.1 0 = .ok (.aload_n 0, 1) := mj_d (q := (0, .aload_n 0, 1)) k_Fo_treesOver 0 rfl
theorem d_Fo_treesOver_1 : decode y_Fo_treesOver.2.2.1 1 = .ok (.getfield 32, 3) := mj_d (q := (1, .getfield 32, 3)) k_Fo_treesOver 1 rfl
theorem d_Fo_treesOver_4 : decode y_Fo_treesOver.2.2.1 4 = .ok (.iload_n 1, 1) := mj_d (q := (4, .iload_n 1, 1)) k_Fo_treesOver 2 rfl
theorem d_Fo_treesOver_5 : decode y_Fo_treesOver.2.2.1 5 = .ok (.iload_n 2, 1) := mj_d (q := (5, .iload_n 2, 1)) k_Fo_treesOver 3 rfl
theorem d_Fo_treesOver_6 : decode y_Fo_treesOver.2.2.1 6 = .ok (.iload_n 3, 1) := mj_d (q := (6, .iload_n 3, 1)) k_Fo_treesOver 4 rfl
theorem d_Fo_treesOver_7 : decode y_Fo_treesOver.2.2.1 7 = .ok (.invokevirtual 74, 3) := mj_d (q := (7, .invokevirtual 74, 3)) k_Fo_treesOver 5 rfl
theorem d_Fo_treesOver_10 : decode y_Fo_treesOver.2.2.1 10 = .ok (.lreturn, 1) := mj_d (q := (10, .lreturn, 1)) k_Fo_treesOver 6 rfl
theorem d_Fo_meet_0 : decode y_Fo_meet.2.2.1 0 = .ok (.aload_n 0, 1) := mj_d (q := (0, .aload_n 0, 1)) k_Fo_meet 0 rfl
theorem d_Fo_meet_1 : decode y_Fo_meet.2.2.1 1 = .ok (.getfield 15, 3) := mj_d (q := (1, .getfield 15, 3)) k_Fo_meet 1 rfl
theorem d_Fo_meet_4 : decode y_Fo_meet.2.2.1 4 = .ok (.iload_n 1, 1) := mj_d (q := (4, .iload_n 1, 1)) k_Fo_meet 2 rfl
theorem d_Fo_meet_5 : decode y_Fo_meet.2.2.1 5 = .ok (.baload, 1) := mj_d (q := (5, .baload, 1)) k_Fo_meet 3 rfl
theorem d_Fo_meet_6 : decode y_Fo_meet.2.2.1 6 = .ok (.ifCond .ne 40, 3) := mj_d (q := (6, .ifCond .ne 40, 3)) k_Fo_meet 4 rfl
theorem d_Fo_meet_9 : decode y_Fo_meet.2.2.1 9 = .ok (.aload_n 0, 1) := mj_d (q := (9, .aload_n 0, 1)) k_Fo_meet 5 rfl
theorem d_Fo_meet_10 : decode y_Fo_meet.2.2.1 10 = .ok (.getfield 91, 3) := mj_d (q := (10, .getfield 91, 3)) k_Fo_meet 6 rfl
theorem d_Fo_meet_13 : decode y_Fo_meet.2.2.1 13 = .ok (.sipush 845, 3) := mj_d (q := (13, .sipush 845, 3)) k_Fo_meet 7 rfl
theorem d_Fo_meet_16 : decode y_Fo_meet.2.2.1 16 = .ok (.if_icmp .ge 30, 3) := mj_d (q := (16, .if_icmp .ge 30, 3)) k_Fo_meet 8 rfl
theorem d_Fo_meet_19 : decode y_Fo_meet.2.2.1 19 = .ok (.aload_n 0, 1) := mj_d (q := (19, .aload_n 0, 1)) k_Fo_meet 9 rfl
theorem d_Fo_meet_20 : decode y_Fo_meet.2.2.1 20 = .ok (.getfield 15, 3) := mj_d (q := (20, .getfield 15, 3)) k_Fo_meet 10 rfl
theorem d_Fo_meet_23 : decode y_Fo_meet.2.2.1 23 = .ok (.iload_n 1, 1) := mj_d (q := (23, .iload_n 1, 1)) k_Fo_meet 11 rfl
theorem d_Fo_meet_24 : decode y_Fo_meet.2.2.1 24 = .ok (.iconst 1, 1) := mj_d (q := (24, .iconst 1, 1)) k_Fo_meet 12 rfl
theorem d_Fo_meet_25 : decode y_Fo_meet.2.2.1 25 = .ok (.bastore, 1) := mj_d (q := (25, .bastore, 1)) k_Fo_meet 13 rfl
theorem d_Fo_meet_26 : decode y_Fo_meet.2.2.1 26 = .ok (.aload_n 0, 1) := mj_d (q := (26, .aload_n 0, 1)) k_Fo_meet 14 rfl
theorem d_Fo_meet_27 : decode y_Fo_meet.2.2.1 27 = .ok (.getfield 9, 3) := mj_d (q := (27, .getfield 9, 3)) k_Fo_meet 15 rfl
theorem d_Fo_meet_30 : decode y_Fo_meet.2.2.1 30 = .ok (.aload_n 0, 1) := mj_d (q := (30, .aload_n 0, 1)) k_Fo_meet 16 rfl
theorem d_Fo_meet_31 : decode y_Fo_meet.2.2.1 31 = .ok (.getfield 91, 3) := mj_d (q := (31, .getfield 91, 3)) k_Fo_meet 17 rfl
theorem d_Fo_meet_34 : decode y_Fo_meet.2.2.1 34 = .ok (.iload_n 1, 1) := mj_d (q := (34, .iload_n 1, 1)) k_Fo_meet 18 rfl
theorem d_Fo_meet_35 : decode y_Fo_meet.2.2.1 35 = .ok (.iastore, 1) := mj_d (q := (35, .iastore, 1)) k_Fo_meet 19 rfl
theorem d_Fo_meet_36 : decode y_Fo_meet.2.2.1 36 = .ok (.aload_n 0, 1) := mj_d (q := (36, .aload_n 0, 1)) k_Fo_meet 20 rfl
theorem d_Fo_meet_37 : decode y_Fo_meet.2.2.1 37 = .ok (.dup, 1) := mj_d (q := (37, .dup, 1)) k_Fo_meet 21 rfl
theorem d_Fo_meet_38 : decode y_Fo_meet.2.2.1 38 = .ok (.getfield 91, 3) := mj_d (q := (38, .getfield 91, 3)) k_Fo_meet 22 rfl
theorem d_Fo_meet_41 : decode y_Fo_meet.2.2.1 41 = .ok (.iconst 1, 1) := mj_d (q := (41, .iconst 1, 1)) k_Fo_meet 23 rfl
theorem d_Fo_meet_42 : decode y_Fo_meet.2.2.1 42 = .ok (.iadd, 1) := mj_d (q := (42, .iadd, 1)) k_Fo_meet 24 rfl
theorem d_Fo_meet_43 : decode y_Fo_meet.2.2.1 43 = .ok (.putfield 91, 3) := mj_d (q := (43, .putfield 91, 3)) k_Fo_meet 25 rfl
theorem d_Fo_meet_46 : decode y_Fo_meet.2.2.1 46 = .ok (.return_, 1) := mj_d (q := (46, .return_, 1)) k_Fo_meet 26 rfl
theorem d_Fo_gatherCell_0 : decode y_Fo_gatherCell.2.2.1 0 = .ok (.aload_n 0, 1) := mj_d (q := (0, .aload_n 0, 1)) k_Fo_gatherCell 0 rfl
theorem d_Fo_gatherCell_1 : decode y_Fo_gatherCell.2.2.1 1 = .ok (.getfield 41, 3) := mj_d (q := (1, .getfield 41, 3)) k_Fo_gatherCell 1 rfl
theorem d_Fo_gatherCell_4 : decode y_Fo_gatherCell.2.2.1 4 = .ok (.iload_n 1, 1) := mj_d (q := (4, .iload_n 1, 1)) k_Fo_gatherCell 2 rfl
theorem d_Fo_gatherCell_5 : decode y_Fo_gatherCell.2.2.1 5 = .ok (.sipush 169, 3) := mj_d (q := (5, .sipush 169, 3)) k_Fo_gatherCell 3 rfl
theorem d_Fo_gatherCell_8 : decode y_Fo_gatherCell.2.2.1 8 = .ok (.idiv, 1) := mj_d (q := (8, .idiv, 1)) k_Fo_gatherCell 4 rfl
theorem d_Fo_gatherCell_9 : decode y_Fo_gatherCell.2.2.1 9 = .ok (.iload_n 1, 1) := mj_d (q := (9, .iload_n 1, 1)) k_Fo_gatherCell 5 rfl
theorem d_Fo_gatherCell_10 : decode y_Fo_gatherCell.2.2.1 10 = .ok (.bipush 13, 2) := mj_d (q := (10, .bipush 13, 2)) k_Fo_gatherCell 6 rfl
theorem d_Fo_gatherCell_12 : decode y_Fo_gatherCell.2.2.1 12 = .ok (.idiv, 1) := mj_d (q := (12, .idiv, 1)) k_Fo_gatherCell 7 rfl
theorem d_Fo_gatherCell_13 : decode y_Fo_gatherCell.2.2.1 13 = .ok (.bipush 13, 2) := mj_d (q := (13, .bipush 13, 2)) k_Fo_gatherCell 8 rfl
theorem d_Fo_gatherCell_15 : decode y_Fo_gatherCell.2.2.1 15 = .ok (.irem, 1) := mj_d (q := (15, .irem, 1)) k_Fo_gatherCell 9 rfl
theorem d_Fo_gatherCell_16 : decode y_Fo_gatherCell.2.2.1 16 = .ok (.iload_n 1, 1) := mj_d (q := (16, .iload_n 1, 1)) k_Fo_gatherCell 10 rfl
theorem d_Fo_gatherCell_17 : decode y_Fo_gatherCell.2.2.1 17 = .ok (.bipush 13, 2) := mj_d (q := (17, .bipush 13, 2)) k_Fo_gatherCell 11 rfl
theorem d_Fo_gatherCell_19 : decode y_Fo_gatherCell.2.2.1 19 = .ok (.irem, 1) := mj_d (q := (19, .irem, 1)) k_Fo_gatherCell 12 rfl
theorem d_Fo_gatherCell_20 : decode y_Fo_gatherCell.2.2.1 20 = .ok (.invokevirtual 67, 3) := mj_d (q := (20, .invokevirtual 67, 3)) k_Fo_gatherCell 13 rfl
theorem d_Fo_gatherCell_23 : decode y_Fo_gatherCell.2.2.1 23 = .ok (.return_, 1) := mj_d (q := (23, .return_, 1)) k_Fo_gatherCell 14 rfl
theorem d_Fo_meetParts_0 : decode y_Fo_meetParts.2.2.1 0 = .ok (.iconst 0, 1) := mj_d (q := (0, .iconst 0, 1)) k_Fo_meetParts 0 rfl
theorem d_Fo_meetParts_1 : decode y_Fo_meetParts.2.2.1 1 = .ok (.istore_n 2, 1) := mj_d (q := (1, .istore_n 2, 1)) k_Fo_meetParts 1 rfl
theorem d_Fo_meetParts_2 : decode y_Fo_meetParts.2.2.1 2 = .ok (.iload_n 2, 1) := mj_d (q := (2, .iload_n 2, 1)) k_Fo_meetParts 2 rfl
theorem d_Fo_meetParts_3 : decode y_Fo_meetParts.2.2.1 3 = .ok (.iconst 3, 1) := mj_d (q := (3, .iconst 3, 1)) k_Fo_meetParts 3 rfl
theorem d_Fo_meetParts_4 : decode y_Fo_meetParts.2.2.1 4 = .ok (.if_icmp .ge 34, 3) := mj_d (q := (4, .if_icmp .ge 34, 3)) k_Fo_meetParts 4 rfl
theorem d_Fo_meetParts_7 : decode y_Fo_meetParts.2.2.1 7 = .ok (.aload_n 0, 1) := mj_d (q := (7, .aload_n 0, 1)) k_Fo_meetParts 5 rfl
theorem d_Fo_meetParts_8 : decode y_Fo_meetParts.2.2.1 8 = .ok (.getfield 41, 3) := mj_d (q := (8, .getfield 41, 3)) k_Fo_meetParts 6 rfl
theorem d_Fo_meetParts_11 : decode y_Fo_meetParts.2.2.1 11 = .ok (.iload_n 1, 1) := mj_d (q := (11, .iload_n 1, 1)) k_Fo_meetParts 7 rfl
theorem d_Fo_meetParts_12 : decode y_Fo_meetParts.2.2.1 12 = .ok (.iload_n 2, 1) := mj_d (q := (12, .iload_n 2, 1)) k_Fo_meetParts 8 rfl
theorem d_Fo_meetParts_13 : decode y_Fo_meetParts.2.2.1 13 = .ok (.invokevirtual 107, 3) := mj_d (q := (13, .invokevirtual 107, 3)) k_Fo_meetParts 9 rfl
theorem d_Fo_meetParts_16 : decode y_Fo_meetParts.2.2.1 16 = .ok (.invokestatic 110, 3) := mj_d (q := (16, .invokestatic 110, 3)) k_Fo_meetParts 10 rfl
theorem d_Fo_meetParts_19 : decode y_Fo_meetParts.2.2.1 19 = .ok (.ifCond .eq 13, 3) := mj_d (q := (19, .ifCond .eq 13, 3)) k_Fo_meetParts 11 rfl
theorem d_Fo_meetParts_22 : decode y_Fo_meetParts.2.2.1 22 = .ok (.aload_n 0, 1) := mj_d (q := (22, .aload_n 0, 1)) k_Fo_meetParts 12 rfl
theorem d_Fo_meetParts_23 : decode y_Fo_meetParts.2.2.1 23 = .ok (.aload_n 0, 1) := mj_d (q := (23, .aload_n 0, 1)) k_Fo_meetParts 13 rfl
theorem d_Fo_meetParts_24 : decode y_Fo_meetParts.2.2.1 24 = .ok (.iload_n 1, 1) := mj_d (q := (24, .iload_n 1, 1)) k_Fo_meetParts 14 rfl
theorem d_Fo_meetParts_25 : decode y_Fo_meetParts.2.2.1 25 = .ok (.iload_n 2, 1) := mj_d (q := (25, .iload_n 2, 1)) k_Fo_meetParts 15 rfl
theorem d_Fo_meetParts_26 : decode y_Fo_meetParts.2.2.1 26 = .ok (.invokevirtual 114, 3) := mj_d (q := (26, .invokevirtual 114, 3)) k_Fo_meetParts 16 rfl
theorem d_Fo_meetParts_29 : decode y_Fo_meetParts.2.2.1 29 = .ok (.invokevirtual 97, 3) := mj_d (q := (29, .invokevirtual 97, 3)) k_Fo_meetParts 17 rfl
theorem d_Fo_meetParts_32 : decode y_Fo_meetParts.2.2.1 32 = .ok (.iinc 2 1, 3) := mj_d (q := (32, .iinc 2 1, 3)) k_Fo_meetParts 18 rfl
theorem d_Fo_meetParts_35 : decode y_Fo_meetParts.2.2.1 35 = .ok (.goto (-33), 3) := mj_d (q := (35, .goto (-33), 3)) k_Fo_meetParts 19 rfl
theorem d_Fo_meetParts_38 : decode y_Fo_meetParts.2.2.1 38 = .ok (.return_, 1) := mj_d (q := (38, .return_, 1)) k_Fo_meetParts 20 rfl
theorem d_Wa_symbolOf_0 : decode y_Wa_symbolOf.2.2.1 0 = .ok (.aload_n 0, 1) := mj_d (q := (0, .aload_n 0, 1)) k_Wa_symbolOf 0 rfl
theorem d_Wa_symbolOf_1 : decode y_Wa_symbolOf.2.2.1 1 = .ok (.getfield 22, 3) := mj_d (q := (1, .getfield 22, 3)) k_Wa_symbolOf 1 rfl
theorem d_Wa_symbolOf_4 : decode y_Wa_symbolOf.2.2.1 4 = .ok (.getfield 55, 3) := mj_d (q := (4, .getfield 55, 3)) k_Wa_symbolOf 2 rfl
theorem d_Wa_symbolOf_7 : decode y_Wa_symbolOf.2.2.1 7 = .ok (.aload_n 0, 1) := mj_d (q := (7, .aload_n 0, 1)) k_Wa_symbolOf 3 rfl
theorem d_Wa_symbolOf_8 : decode y_Wa_symbolOf.2.2.1 8 = .ok (.getfield 9, 3) := mj_d (q := (8, .getfield 9, 3)) k_Wa_symbolOf 4 rfl
theorem d_Wa_symbolOf_11 : decode y_Wa_symbolOf.2.2.1 11 = .ok (.iload_n 1, 1) := mj_d (q := (11, .iload_n 1, 1)) k_Wa_symbolOf 5 rfl
theorem d_Wa_symbolOf_12 : decode y_Wa_symbolOf.2.2.1 12 = .ok (.iaload, 1) := mj_d (q := (12, .iaload, 1)) k_Wa_symbolOf 6 rfl
theorem d_Wa_symbolOf_13 : decode y_Wa_symbolOf.2.2.1 13 = .ok (.iload_n 2, 1) := mj_d (q := (13, .iload_n 2, 1)) k_Wa_symbolOf 7 rfl
theorem d_Wa_symbolOf_14 : decode y_Wa_symbolOf.2.2.1 14 = .ok (.invokestatic 51, 3) := mj_d (q := (14, .invokestatic 51, 3)) k_Wa_symbolOf 8 rfl
theorem d_Wa_symbolOf_17 : decode y_Wa_symbolOf.2.2.1 17 = .ok (.iaload, 1) := mj_d (q := (17, .iaload, 1)) k_Wa_symbolOf 9 rfl
theorem d_Wa_symbolOf_18 : decode y_Wa_symbolOf.2.2.1 18 = .ok (.ireturn, 1) := mj_d (q := (18, .ireturn, 1)) k_Wa_symbolOf 10 rfl
theorem d_Fo_partCell_0 : decode y_Fo_partCell.2.2.1 0 = .ok (.aload_n 0, 1) := mj_d (q := (0, .aload_n 0, 1)) k_Fo_partCell 0 rfl
theorem d_Fo_partCell_1 : decode y_Fo_partCell.2.2.1 1 = .ok (.getfield 41, 3) := mj_d (q := (1, .getfield 41, 3)) k_Fo_partCell 1 rfl
theorem d_Fo_partCell_4 : decode y_Fo_partCell.2.2.1 4 = .ok (.iload_n 1, 1) := mj_d (q := (4, .iload_n 1, 1)) k_Fo_partCell 2 rfl
theorem d_Fo_partCell_5 : decode y_Fo_partCell.2.2.1 5 = .ok (.iload_n 2, 1) := mj_d (q := (5, .iload_n 2, 1)) k_Fo_partCell 3 rfl
theorem d_Fo_partCell_6 : decode y_Fo_partCell.2.2.1 6 = .ok (.invokevirtual 107, 3) := mj_d (q := (6, .invokevirtual 107, 3)) k_Fo_partCell 4 rfl
theorem d_Fo_partCell_9 : decode y_Fo_partCell.2.2.1 9 = .ok (.aload_n 0, 1) := mj_d (q := (9, .aload_n 0, 1)) k_Fo_partCell 5 rfl
theorem d_Fo_partCell_10 : decode y_Fo_partCell.2.2.1 10 = .ok (.getfield 41, 3) := mj_d (q := (10, .getfield 41, 3)) k_Fo_partCell 6 rfl
theorem d_Fo_partCell_13 : decode y_Fo_partCell.2.2.1 13 = .ok (.iload_n 1, 1) := mj_d (q := (13, .iload_n 1, 1)) k_Fo_partCell 7 rfl
theorem d_Fo_partCell_14 : decode y_Fo_partCell.2.2.1 14 = .ok (.iload_n 2, 1) := mj_d (q := (14, .iload_n 2, 1)) k_Fo_partCell 8 rfl
theorem d_Fo_partCell_15 : decode y_Fo_partCell.2.2.1 15 = .ok (.invokevirtual 117, 3) := mj_d (q := (15, .invokevirtual 117, 3)) k_Fo_partCell 9 rfl
theorem d_Fo_partCell_18 : decode y_Fo_partCell.2.2.1 18 = .ok (.aload_n 0, 1) := mj_d (q := (18, .aload_n 0, 1)) k_Fo_partCell 10 rfl
theorem d_Fo_partCell_19 : decode y_Fo_partCell.2.2.1 19 = .ok (.getfield 41, 3) := mj_d (q := (19, .getfield 41, 3)) k_Fo_partCell 11 rfl
theorem d_Fo_partCell_22 : decode y_Fo_partCell.2.2.1 22 = .ok (.iload_n 1, 1) := mj_d (q := (22, .iload_n 1, 1)) k_Fo_partCell 12 rfl
theorem d_Fo_partCell_23 : decode y_Fo_partCell.2.2.1 23 = .ok (.iload_n 2, 1) := mj_d (q := (23, .iload_n 2, 1)) k_Fo_partCell 13 rfl
theorem d_Fo_partCell_24 : decode y_Fo_partCell.2.2.1 24 = .ok (.iconst 1, 1) := mj_d (q := (24, .iconst 1, 1)) k_Fo_partCell 14 rfl
theorem d_Fo_partCell_25 : decode y_Fo_partCell.2.2.1 25 = .ok (.iadd, 1) := mj_d (q := (25, .iadd, 1)) k_Fo_partCell 15 rfl
theorem d_Fo_partCell_26 : decode y_Fo_partCell.2.2.1 26 = .ok (.invokevirtual 117, 3) := mj_d (q := (26, .invokevirtual 117, 3)) k_Fo_partCell 16 rfl
theorem d_Fo_partCell_29 : decode y_Fo_partCell.2.2.1 29 = .ok (.invokestatic 81, 3) := mj_d (q := (29, .invokestatic 81, 3)) k_Fo_partCell 17 rfl
theorem d_Fo_partCell_32 : decode y_Fo_partCell.2.2.1 32 = .ok (.ireturn, 1) := mj_d (q := (32, .ireturn, 1)) k_Fo_partCell 18 rfl
theorem d_Wa_cutOf_0 : decode y_Wa_cutOf.2.2.1 0 = .ok (.iload_n 2, 1) := mj_d (q := (0, .iload_n 2, 1)) k_Wa_cutOf 0 rfl
theorem d_Wa_cutOf_1 : decode y_Wa_cutOf.2.2.1 1 = .ok (.tableswitch 52 0 2 #[27, 32, 42], 27) := mj_d (q := (1, .tableswitch 52 0 2 #[27, 32, 42], 27)) k_Wa_cutOf 1 rfl
theorem d_Wa_cutOf_28 : decode y_Wa_cutOf.2.2.1 28 = .ok (.aload_n 0, 1) := mj_d (q := (28, .aload_n 0, 1)) k_Wa_cutOf 2 rfl
theorem d_Wa_cutOf_29 : decode y_Wa_cutOf.2.2.1 29 = .ok (.getfield 30, 3) := mj_d (q := (29, .getfield 30, 3)) k_Wa_cutOf 3 rfl
theorem d_Wa_cutOf_32 : decode y_Wa_cutOf.2.2.1 32 = .ok (.ireturn, 1) := mj_d (q := (32, .ireturn, 1)) k_Wa_cutOf 4 rfl
theorem d_Wa_cutOf_33 : decode y_Wa_cutOf.2.2.1 33 = .ok (.aload_n 0, 1) := mj_d (q := (33, .aload_n 0, 1)) k_Wa_cutOf 5 rfl
theorem d_Wa_cutOf_34 : decode y_Wa_cutOf.2.2.1 34 = .ok (.getfield 15, 3) := mj_d (q := (34, .getfield 15, 3)) k_Wa_cutOf 6 rfl
theorem d_Wa_cutOf_37 : decode y_Wa_cutOf.2.2.1 37 = .ok (.iload_n 1, 1) := mj_d (q := (37, .iload_n 1, 1)) k_Wa_cutOf 7 rfl
theorem d_Wa_cutOf_38 : decode y_Wa_cutOf.2.2.1 38 = .ok (.iaload, 1) := mj_d (q := (38, .iaload, 1)) k_Wa_cutOf 8 rfl
theorem d_Wa_cutOf_39 : decode y_Wa_cutOf.2.2.1 39 = .ok (.bipush 13, 2) := mj_d (q := (39, .bipush 13, 2)) k_Wa_cutOf 9 rfl
theorem d_Wa_cutOf_41 : decode y_Wa_cutOf.2.2.1 41 = .ok (.idiv, 1) := mj_d (q := (41, .idiv, 1)) k_Wa_cutOf 10 rfl
theorem d_Wa_cutOf_42 : decode y_Wa_cutOf.2.2.1 42 = .ok (.ireturn, 1) := mj_d (q := (42, .ireturn, 1)) k_Wa_cutOf 11 rfl
theorem d_Wa_cutOf_43 : decode y_Wa_cutOf.2.2.1 43 = .ok (.aload_n 0, 1) := mj_d (q := (43, .aload_n 0, 1)) k_Wa_cutOf 12 rfl
theorem d_Wa_cutOf_44 : decode y_Wa_cutOf.2.2.1 44 = .ok (.getfield 15, 3) := mj_d (q := (44, .getfield 15, 3)) k_Wa_cutOf 13 rfl
theorem d_Wa_cutOf_47 : decode y_Wa_cutOf.2.2.1 47 = .ok (.iload_n 1, 1) := mj_d (q := (47, .iload_n 1, 1)) k_Wa_cutOf 14 rfl
theorem d_Wa_cutOf_48 : decode y_Wa_cutOf.2.2.1 48 = .ok (.iaload, 1) := mj_d (q := (48, .iaload, 1)) k_Wa_cutOf 15 rfl
theorem d_Wa_cutOf_49 : decode y_Wa_cutOf.2.2.1 49 = .ok (.bipush 13, 2) := mj_d (q := (49, .bipush 13, 2)) k_Wa_cutOf 16 rfl
theorem d_Wa_cutOf_51 : decode y_Wa_cutOf.2.2.1 51 = .ok (.irem, 1) := mj_d (q := (51, .irem, 1)) k_Wa_cutOf 17 rfl
theorem d_Wa_cutOf_52 : decode y_Wa_cutOf.2.2.1 52 = .ok (.ireturn, 1) := mj_d (q := (52, .ireturn, 1)) k_Wa_cutOf 18 rfl
theorem d_Wa_cutOf_53 : decode y_Wa_cutOf.2.2.1 53 = .ok (.aload_n 0, 1) := mj_d (q := (53, .aload_n 0, 1)) k_Wa_cutOf 19 rfl
theorem d_Wa_cutOf_54 : decode y_Wa_cutOf.2.2.1 54 = .ok (.getfield 34, 3) := mj_d (q := (54, .getfield 34, 3)) k_Wa_cutOf 20 rfl
theorem d_Wa_cutOf_57 : decode y_Wa_cutOf.2.2.1 57 = .ok (.ireturn, 1) := mj_d (q := (57, .ireturn, 1)) k_Wa_cutOf 21 rfl
theorem d_CF_rule_0 : decode y_CF_rule.2.2.1 0 = .ok (.iload_n 1, 1) := mj_d (q := (0, .iload_n 1, 1)) k_CF_rule 0 rfl
theorem d_CF_rule_1 : decode y_CF_rule.2.2.1 1 = .ok (.invokestatic 44, 3) := mj_d (q := (1, .invokestatic 44, 3)) k_CF_rule 1 rfl
theorem d_CF_rule_4 : decode y_CF_rule.2.2.1 4 = .ok (.ifCond .eq 11, 3) := mj_d (q := (4, .ifCond .eq 11, 3)) k_CF_rule 2 rfl
theorem d_CF_rule_7 : decode y_CF_rule.2.2.1 7 = .ok (.iload_n 2, 1) := mj_d (q := (7, .iload_n 2, 1)) k_CF_rule 3 rfl
theorem d_CF_rule_8 : decode y_CF_rule.2.2.1 8 = .ok (.iload_n 3, 1) := mj_d (q := (8, .iload_n 3, 1)) k_CF_rule 4 rfl
theorem d_CF_rule_9 : decode y_CF_rule.2.2.1 9 = .ok (.invokestatic 48, 3) := mj_d (q := (9, .invokestatic 48, 3)) k_CF_rule 5 rfl
theorem d_CF_rule_12 : decode y_CF_rule.2.2.1 12 = .ok (.ifCond .ne 11, 3) := mj_d (q := (12, .ifCond .ne 11, 3)) k_CF_rule 6 rfl
theorem d_CF_rule_15 : decode y_CF_rule.2.2.1 15 = .ok (.new 52, 3) := mj_d (q := (15, .new 52, 3)) k_CF_rule 7 rfl
theorem d_CF_rule_18 : decode y_CF_rule.2.2.1 18 = .ok (.dup, 1) := mj_d (q := (18, .dup, 1)) k_CF_rule 8 rfl
theorem d_CF_rule_19 : decode y_CF_rule.2.2.1 19 = .ok (.invokespecial 54, 3) := mj_d (q := (19, .invokespecial 54, 3)) k_CF_rule 9 rfl
theorem d_CF_rule_22 : decode y_CF_rule.2.2.1 22 = .ok (.athrow, 1) := mj_d (q := (22, .athrow, 1)) k_CF_rule 10 rfl
theorem d_CF_rule_23 : decode y_CF_rule.2.2.1 23 = .ok (.aload_n 0, 1) := mj_d (q := (23, .aload_n 0, 1)) k_CF_rule 11 rfl
theorem d_CF_rule_24 : decode y_CF_rule.2.2.1 24 = .ok (.getfield 12, 3) := mj_d (q := (24, .getfield 12, 3)) k_CF_rule 12 rfl
theorem d_CF_rule_27 : decode y_CF_rule.2.2.1 27 = .ok (.getfield 55, 3) := mj_d (q := (27, .getfield 55, 3)) k_CF_rule 13 rfl
theorem d_CF_rule_30 : decode y_CF_rule.2.2.1 30 = .ok (.bipush 10, 2) := mj_d (q := (30, .bipush 10, 2)) k_CF_rule 14 rfl
theorem d_CF_rule_32 : decode y_CF_rule.2.2.1 32 = .ok (.if_icmp .ge 13, 3) := mj_d (q := (32, .if_icmp .ge 13, 3)) k_CF_rule 15 rfl
theorem d_CF_rule_35 : decode y_CF_rule.2.2.1 35 = .ok (.aload_n 0, 1) := mj_d (q := (35, .aload_n 0, 1)) k_CF_rule 16 rfl
theorem d_CF_rule_36 : decode y_CF_rule.2.2.1 36 = .ok (.getfield 19, 3) := mj_d (q := (36, .getfield 19, 3)) k_CF_rule 17 rfl
theorem d_CF_rule_39 : decode y_CF_rule.2.2.1 39 = .ok (.getfield 59, 3) := mj_d (q := (39, .getfield 59, 3)) k_CF_rule 18 rfl
theorem d_CF_rule_42 : decode y_CF_rule.2.2.1 42 = .ok (.ifCond .le 11, 3) := mj_d (q := (42, .ifCond .le 11, 3)) k_CF_rule 19 rfl
theorem d_CF_rule_45 : decode y_CF_rule.2.2.1 45 = .ok (.new 62, 3) := mj_d (q := (45, .new 62, 3)) k_CF_rule 20 rfl
theorem d_CF_rule_48 : decode y_CF_rule.2.2.1 48 = .ok (.dup, 1) := mj_d (q := (48, .dup, 1)) k_CF_rule 21 rfl
theorem d_CF_rule_49 : decode y_CF_rule.2.2.1 49 = .ok (.invokespecial 64, 3) := mj_d (q := (49, .invokespecial 64, 3)) k_CF_rule 22 rfl
theorem d_CF_rule_52 : decode y_CF_rule.2.2.1 52 = .ok (.athrow, 1) := mj_d (q := (52, .athrow, 1)) k_CF_rule 23 rfl
theorem d_CF_rule_53 : decode y_CF_rule.2.2.1 53 = .ok (.aload_n 0, 1) := mj_d (q := (53, .aload_n 0, 1)) k_CF_rule 24 rfl
theorem d_CF_rule_54 : decode y_CF_rule.2.2.1 54 = .ok (.getfield 12, 3) := mj_d (q := (54, .getfield 12, 3)) k_CF_rule 25 rfl
theorem d_CF_rule_57 : decode y_CF_rule.2.2.1 57 = .ok (.iload_n 1, 1) := mj_d (q := (57, .iload_n 1, 1)) k_CF_rule 26 rfl
theorem d_CF_rule_58 : decode y_CF_rule.2.2.1 58 = .ok (.iload_n 2, 1) := mj_d (q := (58, .iload_n 2, 1)) k_CF_rule 27 rfl
theorem d_CF_rule_59 : decode y_CF_rule.2.2.1 59 = .ok (.iload_n 3, 1) := mj_d (q := (59, .iload_n 3, 1)) k_CF_rule 28 rfl
theorem d_CF_rule_60 : decode y_CF_rule.2.2.1 60 = .ok (.invokevirtual 65, 3) := mj_d (q := (60, .invokevirtual 65, 3)) k_CF_rule 29 rfl
theorem d_CF_rule_63 : decode y_CF_rule.2.2.1 63 = .ok (.aload_n 0, 1) := mj_d (q := (63, .aload_n 0, 1)) k_CF_rule 30 rfl
theorem d_CF_rule_64 : decode y_CF_rule.2.2.1 64 = .ok (.getfield 28, 3) := mj_d (q := (64, .getfield 28, 3)) k_CF_rule 31 rfl
theorem d_CF_rule_67 : decode y_CF_rule.2.2.1 67 = .ok (.invokevirtual 41, 3) := mj_d (q := (67, .invokevirtual 41, 3)) k_CF_rule 32 rfl
theorem d_CF_rule_70 : decode y_CF_rule.2.2.1 70 = .ok (.aload_n 0, 1) := mj_d (q := (70, .aload_n 0, 1)) k_CF_rule 33 rfl
theorem d_CF_rule_71 : decode y_CF_rule.2.2.1 71 = .ok (.getfield 37, 3) := mj_d (q := (71, .getfield 37, 3)) k_CF_rule 34 rfl
theorem d_CF_rule_74 : decode y_CF_rule.2.2.1 74 = .ok (.iconst (-1), 1) := mj_d (q := (74, .iconst (-1), 1)) k_CF_rule 35 rfl
theorem d_CF_rule_75 : decode y_CF_rule.2.2.1 75 = .ok (.invokevirtual 69, 3) := mj_d (q := (75, .invokevirtual 69, 3)) k_CF_rule 36 rfl
theorem d_CF_rule_78 : decode y_CF_rule.2.2.1 78 = .ok (.aload_n 0, 1) := mj_d (q := (78, .aload_n 0, 1)) k_CF_rule 37 rfl
theorem d_CF_rule_79 : decode y_CF_rule.2.2.1 79 = .ok (.getfield 12, 3) := mj_d (q := (79, .getfield 12, 3)) k_CF_rule 38 rfl
theorem d_CF_rule_82 : decode y_CF_rule.2.2.1 82 = .ok (.getfield 55, 3) := mj_d (q := (82, .getfield 55, 3)) k_CF_rule 39 rfl
theorem d_CF_rule_85 : decode y_CF_rule.2.2.1 85 = .ok (.iconst 1, 1) := mj_d (q := (85, .iconst 1, 1)) k_CF_rule 40 rfl
theorem d_CF_rule_86 : decode y_CF_rule.2.2.1 86 = .ok (.isub, 1) := mj_d (q := (86, .isub, 1)) k_CF_rule 41 rfl
theorem d_CF_rule_87 : decode y_CF_rule.2.2.1 87 = .ok (.ireturn, 1) := mj_d (q := (87, .ireturn, 1)) k_CF_rule 42 rfl
theorem d_CF_isBody_0 : decode y_CF_isBody.2.2.1 0 = .ok (.iload_n 0, 1) := mj_d (q := (0, .iload_n 0, 1)) k_CF_isBody 0 rfl
theorem d_CF_isBody_1 : decode y_CF_isBody.2.2.1 1 = .ok (.ifCond .lt 8, 3) := mj_d (q := (1, .ifCond .lt 8, 3)) k_CF_isBody 1 rfl
theorem d_CF_isBody_4 : decode y_CF_isBody.2.2.1 4 = .ok (.iload_n 0, 1) := mj_d (q := (4, .iload_n 0, 1)) k_CF_isBody 2 rfl
theorem d_CF_isBody_5 : decode y_CF_isBody.2.2.1 5 = .ok (.iconst 3, 1) := mj_d (q := (5, .iconst 3, 1)) k_CF_isBody 3 rfl
theorem d_CF_isBody_6 : decode y_CF_isBody.2.2.1 6 = .ok (.if_icmp .le 5, 3) := mj_d (q := (6, .if_icmp .le 5, 3)) k_CF_isBody 4 rfl
theorem d_CF_isBody_9 : decode y_CF_isBody.2.2.1 9 = .ok (.iconst 0, 1) := mj_d (q := (9, .iconst 0, 1)) k_CF_isBody 5 rfl
theorem d_CF_isBody_10 : decode y_CF_isBody.2.2.1 10 = .ok (.ireturn, 1) := mj_d (q := (10, .ireturn, 1)) k_CF_isBody 6 rfl
theorem d_CF_isBody_11 : decode y_CF_isBody.2.2.1 11 = .ok (.iconst 0, 1) := mj_d (q := (11, .iconst 0, 1)) k_CF_isBody 7 rfl
theorem d_CF_isBody_12 : decode y_CF_isBody.2.2.1 12 = .ok (.istore_n 2, 1) := mj_d (q := (12, .istore_n 2, 1)) k_CF_isBody 8 rfl
theorem d_CF_isBody_13 : decode y_CF_isBody.2.2.1 13 = .ok (.iload_n 2, 1) := mj_d (q := (13, .iload_n 2, 1)) k_CF_isBody 9 rfl
theorem d_CF_isBody_14 : decode y_CF_isBody.2.2.1 14 = .ok (.iload_n 0, 1) := mj_d (q := (14, .iload_n 0, 1)) k_CF_isBody 10 rfl
theorem d_CF_isBody_15 : decode y_CF_isBody.2.2.1 15 = .ok (.if_icmp .ge 31, 3) := mj_d (q := (15, .if_icmp .ge 31, 3)) k_CF_isBody 11 rfl
theorem d_CF_isBody_18 : decode y_CF_isBody.2.2.1 18 = .ok (.iload_n 1, 1) := mj_d (q := (18, .iload_n 1, 1)) k_CF_isBody 12 rfl
theorem d_CF_isBody_19 : decode y_CF_isBody.2.2.1 19 = .ok (.iload_n 2, 1) := mj_d (q := (19, .iload_n 2, 1)) k_CF_isBody 13 rfl
theorem d_CF_isBody_20 : decode y_CF_isBody.2.2.1 20 = .ok (.invokestatic 137, 3) := mj_d (q := (20, .invokestatic 137, 3)) k_CF_isBody 14 rfl
theorem d_CF_isBody_23 : decode y_CF_isBody.2.2.1 23 = .ok (.istore_n 3, 1) := mj_d (q := (23, .istore_n 3, 1)) k_CF_isBody 15 rfl
theorem d_CF_isBody_24 : decode y_CF_isBody.2.2.1 24 = .ok (.iload_n 3, 1) := mj_d (q := (24, .iload_n 3, 1)) k_CF_isBody 16 rfl
theorem d_CF_isBody_25 : decode y_CF_isBody.2.2.1 25 = .ok (.invokestatic 44, 3) := mj_d (q := (25, .invokestatic 44, 3)) k_CF_isBody 17 rfl
theorem d_CF_isBody_28 : decode y_CF_isBody.2.2.1 28 = .ok (.ifCond .ne 12, 3) := mj_d (q := (28, .ifCond .ne 12, 3)) k_CF_isBody 18 rfl
theorem d_CF_isBody_31 : decode y_CF_isBody.2.2.1 31 = .ok (.iload_n 3, 1) := mj_d (q := (31, .iload_n 3, 1)) k_CF_isBody 19 rfl
theorem d_CF_isBody_32 : decode y_CF_isBody.2.2.1 32 = .ok (.invokestatic 73, 3) := mj_d (q := (32, .invokestatic 73, 3)) k_CF_isBody 20 rfl
theorem d_CF_isBody_35 : decode y_CF_isBody.2.2.1 35 = .ok (.ifCond .ne 5, 3) := mj_d (q := (35, .ifCond .ne 5, 3)) k_CF_isBody 21 rfl
theorem d_CF_isBody_38 : decode y_CF_isBody.2.2.1 38 = .ok (.iconst 0, 1) := mj_d (q := (38, .iconst 0, 1)) k_CF_isBody 22 rfl
theorem d_CF_isBody_39 : decode y_CF_isBody.2.2.1 39 = .ok (.ireturn, 1) := mj_d (q := (39, .ireturn, 1)) k_CF_isBody 23 rfl
theorem d_CF_isBody_40 : decode y_CF_isBody.2.2.1 40 = .ok (.iinc 2 1, 3) := mj_d (q := (40, .iinc 2 1, 3)) k_CF_isBody 24 rfl
theorem d_CF_isBody_43 : decode y_CF_isBody.2.2.1 43 = .ok (.goto (-30), 3) := mj_d (q := (43, .goto (-30), 3)) k_CF_isBody 25 rfl
theorem d_CF_isBody_46 : decode y_CF_isBody.2.2.1 46 = .ok (.iload_n 1, 1) := mj_d (q := (46, .iload_n 1, 1)) k_CF_isBody 26 rfl
theorem d_CF_isBody_47 : decode y_CF_isBody.2.2.1 47 = .ok (.iconst 4, 1) := mj_d (q := (47, .iconst 4, 1)) k_CF_isBody 27 rfl
theorem d_CF_isBody_48 : decode y_CF_isBody.2.2.1 48 = .ok (.iload_n 0, 1) := mj_d (q := (48, .iload_n 0, 1)) k_CF_isBody 28 rfl
theorem d_CF_isBody_49 : decode y_CF_isBody.2.2.1 49 = .ok (.imul, 1) := mj_d (q := (49, .imul, 1)) k_CF_isBody 29 rfl
theorem d_CF_isBody_50 : decode y_CF_isBody.2.2.1 50 = .ok (.iushr, 1) := mj_d (q := (50, .iushr, 1)) k_CF_isBody 30 rfl
theorem d_CF_isBody_51 : decode y_CF_isBody.2.2.1 51 = .ok (.ifCond .ne 7, 3) := mj_d (q := (51, .ifCond .ne 7, 3)) k_CF_isBody 31 rfl
theorem d_CF_isBody_54 : decode y_CF_isBody.2.2.1 54 = .ok (.iconst 1, 1) := mj_d (q := (54, .iconst 1, 1)) k_CF_isBody 32 rfl
theorem d_CF_isBody_55 : decode y_CF_isBody.2.2.1 55 = .ok (.goto 4, 3) := mj_d (q := (55, .goto 4, 3)) k_CF_isBody 33 rfl
theorem d_CF_isBody_58 : decode y_CF_isBody.2.2.1 58 = .ok (.iconst 0, 1) := mj_d (q := (58, .iconst 0, 1)) k_CF_isBody 34 rfl
theorem d_CF_isBody_59 : decode y_CF_isBody.2.2.1 59 = .ok (.ireturn, 1) := mj_d (q := (59, .ireturn, 1)) k_CF_isBody 35 rfl
theorem d_CF_symbolIn_0 : decode y_CF_symbolIn.2.2.1 0 = .ok (.iload_n 0, 1) := mj_d (q := (0, .iload_n 0, 1)) k_CF_symbolIn 0 rfl
theorem d_CF_symbolIn_1 : decode y_CF_symbolIn.2.2.1 1 = .ok (.iconst 4, 1) := mj_d (q := (1, .iconst 4, 1)) k_CF_symbolIn 1 rfl
theorem d_CF_symbolIn_2 : decode y_CF_symbolIn.2.2.1 2 = .ok (.iload_n 1, 1) := mj_d (q := (2, .iload_n 1, 1)) k_CF_symbolIn 2 rfl
theorem d_CF_symbolIn_3 : decode y_CF_symbolIn.2.2.1 3 = .ok (.imul, 1) := mj_d (q := (3, .imul, 1)) k_CF_symbolIn 3 rfl
theorem d_CF_symbolIn_4 : decode y_CF_symbolIn.2.2.1 4 = .ok (.iushr, 1) := mj_d (q := (4, .iushr, 1)) k_CF_symbolIn 4 rfl
theorem d_CF_symbolIn_5 : decode y_CF_symbolIn.2.2.1 5 = .ok (.bipush 15, 2) := mj_d (q := (5, .bipush 15, 2)) k_CF_symbolIn 5 rfl
theorem d_CF_symbolIn_7 : decode y_CF_symbolIn.2.2.1 7 = .ok (.iand, 1) := mj_d (q := (7, .iand, 1)) k_CF_symbolIn 6 rfl
theorem d_CF_symbolIn_8 : decode y_CF_symbolIn.2.2.1 8 = .ok (.ireturn, 1) := mj_d (q := (8, .ireturn, 1)) k_CF_symbolIn 7 rfl
theorem d_Gr_append_0 : decode y_Gr_append.2.2.1 0 = .ok (.aload_n 0, 1) := mj_d (q := (0, .aload_n 0, 1)) k_Gr_append 0 rfl
theorem d_Gr_append_1 : decode y_Gr_append.2.2.1 1 = .ok (.getfield 22, 3) := mj_d (q := (1, .getfield 22, 3)) k_Gr_append 1 rfl
theorem d_Gr_append_4 : decode y_Gr_append.2.2.1 4 = .ok (.bipush 10, 2) := mj_d (q := (4, .bipush 10, 2)) k_Gr_append 2 rfl
theorem d_Gr_append_6 : decode y_Gr_append.2.2.1 6 = .ok (.if_icmp .ge 63, 3) := mj_d (q := (6, .if_icmp .ge 63, 3)) k_Gr_append 3 rfl
theorem d_Gr_append_9 : decode y_Gr_append.2.2.1 9 = .ok (.iload_n 2, 1) := mj_d (q := (9, .iload_n 2, 1)) k_Gr_append 4 rfl
theorem d_Gr_append_10 : decode y_Gr_append.2.2.1 10 = .ok (.iconst 3, 1) := mj_d (q := (10, .iconst 3, 1)) k_Gr_append 5 rfl
theorem d_Gr_append_11 : decode y_Gr_append.2.2.1 11 = .ok (.if_icmp .gt 58, 3) := mj_d (q := (11, .if_icmp .gt 58, 3)) k_Gr_append 6 rfl
theorem d_Gr_append_14 : decode y_Gr_append.2.2.1 14 = .ok (.aload_n 0, 1) := mj_d (q := (14, .aload_n 0, 1)) k_Gr_append 7 rfl
theorem d_Gr_append_15 : decode y_Gr_append.2.2.1 15 = .ok (.getfield 9, 3) := mj_d (q := (15, .getfield 9, 3)) k_Gr_append 8 rfl
theorem d_Gr_append_18 : decode y_Gr_append.2.2.1 18 = .ok (.aload_n 0, 1) := mj_d (q := (18, .aload_n 0, 1)) k_Gr_append 9 rfl
theorem d_Gr_append_19 : decode y_Gr_append.2.2.1 19 = .ok (.getfield 22, 3) := mj_d (q := (19, .getfield 22, 3)) k_Gr_append 10 rfl
theorem d_Gr_append_22 : decode y_Gr_append.2.2.1 22 = .ok (.iload_n 1, 1) := mj_d (q := (22, .iload_n 1, 1)) k_Gr_append 11 rfl
theorem d_Gr_append_23 : decode y_Gr_append.2.2.1 23 = .ok (.iastore, 1) := mj_d (q := (23, .iastore, 1)) k_Gr_append 12 rfl
theorem d_Gr_append_24 : decode y_Gr_append.2.2.1 24 = .ok (.iconst 0, 1) := mj_d (q := (24, .iconst 0, 1)) k_Gr_append 13 rfl
theorem d_Gr_append_25 : decode y_Gr_append.2.2.1 25 = .ok (.istore 4, 2) := mj_d (q := (25, .istore 4, 2)) k_Gr_append 14 rfl
theorem d_Gr_append_27 : decode y_Gr_append.2.2.1 27 = .ok (.iload 4, 2) := mj_d (q := (27, .iload 4, 2)) k_Gr_append 15 rfl
theorem d_Gr_append_29 : decode y_Gr_append.2.2.1 29 = .ok (.iload_n 2, 1) := mj_d (q := (29, .iload_n 2, 1)) k_Gr_append 16 rfl
theorem d_Gr_append_30 : decode y_Gr_append.2.2.1 30 = .ok (.if_icmp .ge 29, 3) := mj_d (q := (30, .if_icmp .ge 29, 3)) k_Gr_append 17 rfl
theorem d_Gr_append_33 : decode y_Gr_append.2.2.1 33 = .ok (.aload_n 0, 1) := mj_d (q := (33, .aload_n 0, 1)) k_Gr_append 18 rfl
theorem d_Gr_append_34 : decode y_Gr_append.2.2.1 34 = .ok (.getfield 15, 3) := mj_d (q := (34, .getfield 15, 3)) k_Gr_append 19 rfl
theorem d_Gr_append_37 : decode y_Gr_append.2.2.1 37 = .ok (.aload_n 0, 1) := mj_d (q := (37, .aload_n 0, 1)) k_Gr_append 20 rfl
theorem d_Gr_append_38 : decode y_Gr_append.2.2.1 38 = .ok (.getfield 22, 3) := mj_d (q := (38, .getfield 22, 3)) k_Gr_append 21 rfl
theorem d_Gr_append_41 : decode y_Gr_append.2.2.1 41 = .ok (.iload 4, 2) := mj_d (q := (41, .iload 4, 2)) k_Gr_append 22 rfl
theorem d_Gr_append_43 : decode y_Gr_append.2.2.1 43 = .ok (.invokestatic 18, 3) := mj_d (q := (43, .invokestatic 18, 3)) k_Gr_append 23 rfl
theorem d_Gr_append_46 : decode y_Gr_append.2.2.1 46 = .ok (.iload_n 3, 1) := mj_d (q := (46, .iload_n 3, 1)) k_Gr_append 24 rfl
theorem d_Gr_append_47 : decode y_Gr_append.2.2.1 47 = .ok (.iload 4, 2) := mj_d (q := (47, .iload 4, 2)) k_Gr_append 25 rfl
theorem d_Gr_append_49 : decode y_Gr_append.2.2.1 49 = .ok (.invokestatic 26, 3) := mj_d (q := (49, .invokestatic 26, 3)) k_Gr_append 26 rfl
theorem d_Gr_append_52 : decode y_Gr_append.2.2.1 52 = .ok (.iastore, 1) := mj_d (q := (52, .iastore, 1)) k_Gr_append 27 rfl
theorem d_Gr_append_53 : decode y_Gr_append.2.2.1 53 = .ok (.iinc 4 1, 3) := mj_d (q := (53, .iinc 4 1, 3)) k_Gr_append 28 rfl
theorem d_Gr_append_56 : decode y_Gr_append.2.2.1 56 = .ok (.goto (-29), 3) := mj_d (q := (56, .goto (-29), 3)) k_Gr_append 29 rfl
theorem d_Gr_append_59 : decode y_Gr_append.2.2.1 59 = .ok (.aload_n 0, 1) := mj_d (q := (59, .aload_n 0, 1)) k_Gr_append 30 rfl
theorem d_Gr_append_60 : decode y_Gr_append.2.2.1 60 = .ok (.dup, 1) := mj_d (q := (60, .dup, 1)) k_Gr_append 31 rfl
theorem d_Gr_append_61 : decode y_Gr_append.2.2.1 61 = .ok (.getfield 22, 3) := mj_d (q := (61, .getfield 22, 3)) k_Gr_append 32 rfl
theorem d_Gr_append_64 : decode y_Gr_append.2.2.1 64 = .ok (.iconst 1, 1) := mj_d (q := (64, .iconst 1, 1)) k_Gr_append 33 rfl
theorem d_Gr_append_65 : decode y_Gr_append.2.2.1 65 = .ok (.iadd, 1) := mj_d (q := (65, .iadd, 1)) k_Gr_append 34 rfl
theorem d_Gr_append_66 : decode y_Gr_append.2.2.1 66 = .ok (.putfield 22, 3) := mj_d (q := (66, .putfield 22, 3)) k_Gr_append 35 rfl
theorem d_Gr_append_69 : decode y_Gr_append.2.2.1 69 = .ok (.return_, 1) := mj_d (q := (69, .return_, 1)) k_Gr_append 36 rfl
theorem d_Fo_forgetBehind_0 : decode y_Fo_forgetBehind.2.2.1 0 = .ok (.aload_n 0, 1) := mj_d (q := (0, .aload_n 0, 1)) k_Fo_forgetBehind 0 rfl
theorem d_Fo_forgetBehind_1 : decode y_Fo_forgetBehind.2.2.1 1 = .ok (.aload_n 0, 1) := mj_d (q := (1, .aload_n 0, 1)) k_Fo_forgetBehind 1 rfl
theorem d_Fo_forgetBehind_2 : decode y_Fo_forgetBehind.2.2.1 2 = .ok (.getfield 45, 3) := mj_d (q := (2, .getfield 45, 3)) k_Fo_forgetBehind 2 rfl
theorem d_Fo_forgetBehind_5 : decode y_Fo_forgetBehind.2.2.1 5 = .ok (.iload_n 1, 1) := mj_d (q := (5, .iload_n 1, 1)) k_Fo_forgetBehind 3 rfl
theorem d_Fo_forgetBehind_6 : decode y_Fo_forgetBehind.2.2.1 6 = .ok (.iconst 1, 1) := mj_d (q := (6, .iconst 1, 1)) k_Fo_forgetBehind 4 rfl
theorem d_Fo_forgetBehind_7 : decode y_Fo_forgetBehind.2.2.1 7 = .ok (.iadd, 1) := mj_d (q := (7, .iadd, 1)) k_Fo_forgetBehind 5 rfl
theorem d_Fo_forgetBehind_8 : decode y_Fo_forgetBehind.2.2.1 8 = .ok (.invokestatic 49, 3) := mj_d (q := (8, .invokestatic 49, 3)) k_Fo_forgetBehind 6 rfl
theorem d_Fo_forgetBehind_11 : decode y_Fo_forgetBehind.2.2.1 11 = .ok (.putfield 45, 3) := mj_d (q := (11, .putfield 45, 3)) k_Fo_forgetBehind 7 rfl
theorem d_Fo_forgetBehind_14 : decode y_Fo_forgetBehind.2.2.1 14 = .ok (.return_, 1) := mj_d (q := (14, .return_, 1)) k_Fo_forgetBehind 8 rfl
theorem d_CF_feed_0 : decode y_CF_feed.2.2.1 0 = .ok (.iload_n 1, 1) := mj_d (q := (0, .iload_n 1, 1)) k_CF_feed 0 rfl
theorem d_CF_feed_1 : decode y_CF_feed.2.2.1 1 = .ok (.invokestatic 73, 3) := mj_d (q := (1, .invokestatic 73, 3)) k_CF_feed 1 rfl
theorem d_CF_feed_4 : decode y_CF_feed.2.2.1 4 = .ok (.ifCond .ne 11, 3) := mj_d (q := (4, .ifCond .ne 11, 3)) k_CF_feed 2 rfl
theorem d_CF_feed_7 : decode y_CF_feed.2.2.1 7 = .ok (.new 52, 3) := mj_d (q := (7, .new 52, 3)) k_CF_feed 3 rfl
theorem d_CF_feed_10 : decode y_CF_feed.2.2.1 10 = .ok (.dup, 1) := mj_d (q := (10, .dup, 1)) k_CF_feed 4 rfl
theorem d_CF_feed_11 : decode y_CF_feed.2.2.1 11 = .ok (.invokespecial 54, 3) := mj_d (q := (11, .invokespecial 54, 3)) k_CF_feed 5 rfl
theorem d_CF_feed_14 : decode y_CF_feed.2.2.1 14 = .ok (.athrow, 1) := mj_d (q := (14, .athrow, 1)) k_CF_feed 6 rfl
theorem d_CF_feed_15 : decode y_CF_feed.2.2.1 15 = .ok (.aload_n 0, 1) := mj_d (q := (15, .aload_n 0, 1)) k_CF_feed 7 rfl
theorem d_CF_feed_16 : decode y_CF_feed.2.2.1 16 = .ok (.getfield 19, 3) := mj_d (q := (16, .getfield 19, 3)) k_CF_feed 8 rfl
theorem d_CF_feed_19 : decode y_CF_feed.2.2.1 19 = .ok (.getfield 59, 3) := mj_d (q := (19, .getfield 59, 3)) k_CF_feed 9 rfl
theorem d_CF_feed_22 : decode y_CF_feed.2.2.1 22 = .ok (.bipush 12, 2) := mj_d (q := (22, .bipush 12, 2)) k_CF_feed 10 rfl
theorem d_CF_feed_24 : decode y_CF_feed.2.2.1 24 = .ok (.if_icmp .lt 11, 3) := mj_d (q := (24, .if_icmp .lt 11, 3)) k_CF_feed 11 rfl
theorem d_CF_feed_27 : decode y_CF_feed.2.2.1 27 = .ok (.new 62, 3) := mj_d (q := (27, .new 62, 3)) k_CF_feed 12 rfl
theorem d_CF_feed_30 : decode y_CF_feed.2.2.1 30 = .ok (.dup, 1) := mj_d (q := (30, .dup, 1)) k_CF_feed 13 rfl
theorem d_CF_feed_31 : decode y_CF_feed.2.2.1 31 = .ok (.invokespecial 64, 3) := mj_d (q := (31, .invokespecial 64, 3)) k_CF_feed 14 rfl
theorem d_CF_feed_34 : decode y_CF_feed.2.2.1 34 = .ok (.athrow, 1) := mj_d (q := (34, .athrow, 1)) k_CF_feed 15 rfl
theorem d_CF_feed_35 : decode y_CF_feed.2.2.1 35 = .ok (.aload_n 0, 1) := mj_d (q := (35, .aload_n 0, 1)) k_CF_feed 16 rfl
theorem d_CF_feed_36 : decode y_CF_feed.2.2.1 36 = .ok (.getfield 28, 3) := mj_d (q := (36, .getfield 28, 3)) k_CF_feed 17 rfl
theorem d_CF_feed_39 : decode y_CF_feed.2.2.1 39 = .ok (.aload_n 0, 1) := mj_d (q := (39, .aload_n 0, 1)) k_CF_feed 18 rfl
theorem d_CF_feed_40 : decode y_CF_feed.2.2.1 40 = .ok (.getfield 19, 3) := mj_d (q := (40, .getfield 19, 3)) k_CF_feed 19 rfl
theorem d_CF_feed_43 : decode y_CF_feed.2.2.1 43 = .ok (.getfield 59, 3) := mj_d (q := (43, .getfield 59, 3)) k_CF_feed 20 rfl
theorem d_CF_feed_46 : decode y_CF_feed.2.2.1 46 = .ok (.invokevirtual 76, 3) := mj_d (q := (46, .invokevirtual 76, 3)) k_CF_feed 21 rfl
theorem d_CF_feed_49 : decode y_CF_feed.2.2.1 49 = .ok (.iload_n 1, 1) := mj_d (q := (49, .iload_n 1, 1)) k_CF_feed 22 rfl
theorem d_CF_feed_50 : decode y_CF_feed.2.2.1 50 = .ok (.invokestatic 80, 3) := mj_d (q := (50, .invokestatic 80, 3)) k_CF_feed 23 rfl
theorem d_CF_feed_53 : decode y_CF_feed.2.2.1 53 = .ok (.iand, 1) := mj_d (q := (53, .iand, 1)) k_CF_feed 24 rfl
theorem d_CF_feed_54 : decode y_CF_feed.2.2.1 54 = .ok (.ifCond .ne 11, 3) := mj_d (q := (54, .ifCond .ne 11, 3)) k_CF_feed 25 rfl
theorem d_CF_feed_57 : decode y_CF_feed.2.2.1 57 = .ok (.new 83, 3) := mj_d (q := (57, .new 83, 3)) k_CF_feed 26 rfl
theorem d_CF_feed_60 : decode y_CF_feed.2.2.1 60 = .ok (.dup, 1) := mj_d (q := (60, .dup, 1)) k_CF_feed 27 rfl
theorem d_CF_feed_61 : decode y_CF_feed.2.2.1 61 = .ok (.invokespecial 85, 3) := mj_d (q := (61, .invokespecial 85, 3)) k_CF_feed 28 rfl
theorem d_CF_feed_64 : decode y_CF_feed.2.2.1 64 = .ok (.athrow, 1) := mj_d (q := (64, .athrow, 1)) k_CF_feed 29 rfl
theorem d_CF_feed_65 : decode y_CF_feed.2.2.1 65 = .ok (.aload_n 0, 1) := mj_d (q := (65, .aload_n 0, 1)) k_CF_feed 30 rfl
theorem d_CF_feed_66 : decode y_CF_feed.2.2.1 66 = .ok (.getfield 19, 3) := mj_d (q := (66, .getfield 19, 3)) k_CF_feed 31 rfl
theorem d_CF_feed_69 : decode y_CF_feed.2.2.1 69 = .ok (.iload_n 1, 1) := mj_d (q := (69, .iload_n 1, 1)) k_CF_feed 32 rfl
theorem d_CF_feed_70 : decode y_CF_feed.2.2.1 70 = .ok (.invokevirtual 86, 3) := mj_d (q := (70, .invokevirtual 86, 3)) k_CF_feed 33 rfl
theorem d_CF_feed_73 : decode y_CF_feed.2.2.1 73 = .ok (.aload_n 0, 1) := mj_d (q := (73, .aload_n 0, 1)) k_CF_feed 34 rfl
theorem d_CF_feed_74 : decode y_CF_feed.2.2.1 74 = .ok (.getfield 28, 3) := mj_d (q := (74, .getfield 28, 3)) k_CF_feed 35 rfl
theorem d_CF_feed_77 : decode y_CF_feed.2.2.1 77 = .ok (.aload_n 0, 1) := mj_d (q := (77, .aload_n 0, 1)) k_CF_feed 36 rfl
theorem d_CF_feed_78 : decode y_CF_feed.2.2.1 78 = .ok (.getfield 19, 3) := mj_d (q := (78, .getfield 19, 3)) k_CF_feed 37 rfl
theorem d_CF_feed_81 : decode y_CF_feed.2.2.1 81 = .ok (.getfield 59, 3) := mj_d (q := (81, .getfield 59, 3)) k_CF_feed 38 rfl
theorem d_CF_feed_84 : decode y_CF_feed.2.2.1 84 = .ok (.iload_n 1, 1) := mj_d (q := (84, .iload_n 1, 1)) k_CF_feed 39 rfl
theorem d_CF_feed_85 : decode y_CF_feed.2.2.1 85 = .ok (.invokevirtual 88, 3) := mj_d (q := (85, .invokevirtual 88, 3)) k_CF_feed 40 rfl
theorem d_CF_feed_88 : decode y_CF_feed.2.2.1 88 = .ok (.aload_n 0, 1) := mj_d (q := (88, .aload_n 0, 1)) k_CF_feed 41 rfl
theorem d_CF_feed_89 : decode y_CF_feed.2.2.1 89 = .ok (.getfield 28, 3) := mj_d (q := (89, .getfield 28, 3)) k_CF_feed 42 rfl
theorem d_CF_feed_92 : decode y_CF_feed.2.2.1 92 = .ok (.getfield 92, 3) := mj_d (q := (92, .getfield 92, 3)) k_CF_feed 43 rfl
theorem d_CF_feed_95 : decode y_CF_feed.2.2.1 95 = .ok (.aload_n 0, 1) := mj_d (q := (95, .aload_n 0, 1)) k_CF_feed 44 rfl
theorem d_CF_feed_96 : decode y_CF_feed.2.2.1 96 = .ok (.getfield 19, 3) := mj_d (q := (96, .getfield 19, 3)) k_CF_feed 45 rfl
theorem d_CF_feed_99 : decode y_CF_feed.2.2.1 99 = .ok (.getfield 59, 3) := mj_d (q := (99, .getfield 59, 3)) k_CF_feed 46 rfl
theorem d_CF_feed_102 : decode y_CF_feed.2.2.1 102 = .ok (.iaload, 1) := mj_d (q := (102, .iaload, 1)) k_CF_feed 47 rfl
theorem d_CF_feed_103 : decode y_CF_feed.2.2.1 103 = .ok (.ireturn, 1) := mj_d (q := (103, .ireturn, 1)) k_CF_feed 48 rfl
theorem d_Ta_append_0 : decode y_Ta_append.2.2.1 0 = .ok (.aload_n 0, 1) := mj_d (q := (0, .aload_n 0, 1)) k_Ta_append 0 rfl
theorem d_Ta_append_1 : decode y_Ta_append.2.2.1 1 = .ok (.getfield 15, 3) := mj_d (q := (1, .getfield 15, 3)) k_Ta_append 1 rfl
theorem d_Ta_append_4 : decode y_Ta_append.2.2.1 4 = .ok (.bipush 12, 2) := mj_d (q := (4, .bipush 12, 2)) k_Ta_append 2 rfl
theorem d_Ta_append_6 : decode y_Ta_append.2.2.1 6 = .ok (.if_icmp .ge 23, 3) := mj_d (q := (6, .if_icmp .ge 23, 3)) k_Ta_append 3 rfl
theorem d_Ta_append_9 : decode y_Ta_append.2.2.1 9 = .ok (.aload_n 0, 1) := mj_d (q := (9, .aload_n 0, 1)) k_Ta_append 4 rfl
theorem d_Ta_append_10 : decode y_Ta_append.2.2.1 10 = .ok (.getfield 9, 3) := mj_d (q := (10, .getfield 9, 3)) k_Ta_append 5 rfl
theorem d_Ta_append_13 : decode y_Ta_append.2.2.1 13 = .ok (.aload_n 0, 1) := mj_d (q := (13, .aload_n 0, 1)) k_Ta_append 6 rfl
theorem d_Ta_append_14 : decode y_Ta_append.2.2.1 14 = .ok (.getfield 15, 3) := mj_d (q := (14, .getfield 15, 3)) k_Ta_append 7 rfl
theorem d_Ta_append_17 : decode y_Ta_append.2.2.1 17 = .ok (.iload_n 1, 1) := mj_d (q := (17, .iload_n 1, 1)) k_Ta_append 8 rfl
theorem d_Ta_append_18 : decode y_Ta_append.2.2.1 18 = .ok (.iastore, 1) := mj_d (q := (18, .iastore, 1)) k_Ta_append 9 rfl
theorem d_Ta_append_19 : decode y_Ta_append.2.2.1 19 = .ok (.aload_n 0, 1) := mj_d (q := (19, .aload_n 0, 1)) k_Ta_append 10 rfl
theorem d_Ta_append_20 : decode y_Ta_append.2.2.1 20 = .ok (.dup, 1) := mj_d (q := (20, .dup, 1)) k_Ta_append 11 rfl
theorem d_Ta_append_21 : decode y_Ta_append.2.2.1 21 = .ok (.getfield 15, 3) := mj_d (q := (21, .getfield 15, 3)) k_Ta_append 12 rfl
theorem d_Ta_append_24 : decode y_Ta_append.2.2.1 24 = .ok (.iconst 1, 1) := mj_d (q := (24, .iconst 1, 1)) k_Ta_append 13 rfl
theorem d_Ta_append_25 : decode y_Ta_append.2.2.1 25 = .ok (.iadd, 1) := mj_d (q := (25, .iadd, 1)) k_Ta_append 14 rfl
theorem d_Ta_append_26 : decode y_Ta_append.2.2.1 26 = .ok (.putfield 15, 3) := mj_d (q := (26, .putfield 15, 3)) k_Ta_append 15 rfl
theorem d_Ta_append_29 : decode y_Ta_append.2.2.1 29 = .ok (.return_, 1) := mj_d (q := (29, .return_, 1)) k_Ta_append 16 rfl
theorem d_Ch_openNext_0 : decode y_Ch_openNext.2.2.1 0 = .ok (.aload_n 0, 1) := mj_d (q := (0, .aload_n 0, 1)) k_Ch_openNext 0 rfl
theorem d_Ch_openNext_1 : decode y_Ch_openNext.2.2.1 1 = .ok (.iload_n 1, 1) := mj_d (q := (1, .iload_n 1, 1)) k_Ch_openNext 1 rfl
theorem d_Ch_openNext_2 : decode y_Ch_openNext.2.2.1 2 = .ok (.iconst 1, 1) := mj_d (q := (2, .iconst 1, 1)) k_Ch_openNext 2 rfl
theorem d_Ch_openNext_3 : decode y_Ch_openNext.2.2.1 3 = .ok (.isub, 1) := mj_d (q := (3, .isub, 1)) k_Ch_openNext 3 rfl
theorem d_Ch_openNext_4 : decode y_Ch_openNext.2.2.1 4 = .ok (.invokevirtual 49, 3) := mj_d (q := (4, .invokevirtual 49, 3)) k_Ch_openNext 4 rfl
theorem d_Ch_openNext_7 : decode y_Ch_openNext.2.2.1 7 = .ok (.aload_n 0, 1) := mj_d (q := (7, .aload_n 0, 1)) k_Ch_openNext 5 rfl
theorem d_Ch_openNext_8 : decode y_Ch_openNext.2.2.1 8 = .ok (.iload_n 1, 1) := mj_d (q := (8, .iload_n 1, 1)) k_Ch_openNext 6 rfl
theorem d_Ch_openNext_9 : decode y_Ch_openNext.2.2.1 9 = .ok (.invokevirtual 34, 3) := mj_d (q := (9, .invokevirtual 34, 3)) k_Ch_openNext 7 rfl
theorem d_Ch_openNext_12 : decode y_Ch_openNext.2.2.1 12 = .ok (.aload_n 0, 1) := mj_d (q := (12, .aload_n 0, 1)) k_Ch_openNext 8 rfl
theorem d_Ch_openNext_13 : decode y_Ch_openNext.2.2.1 13 = .ok (.iload_n 1, 1) := mj_d (q := (13, .iload_n 1, 1)) k_Ch_openNext 9 rfl
theorem d_Ch_openNext_14 : decode y_Ch_openNext.2.2.1 14 = .ok (.iconst 1, 1) := mj_d (q := (14, .iconst 1, 1)) k_Ch_openNext 10 rfl
theorem d_Ch_openNext_15 : decode y_Ch_openNext.2.2.1 15 = .ok (.isub, 1) := mj_d (q := (15, .isub, 1)) k_Ch_openNext 11 rfl
theorem d_Ch_openNext_16 : decode y_Ch_openNext.2.2.1 16 = .ok (.iload_n 2, 1) := mj_d (q := (16, .iload_n 2, 1)) k_Ch_openNext 12 rfl
theorem d_Ch_openNext_17 : decode y_Ch_openNext.2.2.1 17 = .ok (.iload_n 1, 1) := mj_d (q := (17, .iload_n 1, 1)) k_Ch_openNext 13 rfl
theorem d_Ch_openNext_18 : decode y_Ch_openNext.2.2.1 18 = .ok (.invokevirtual 52, 3) := mj_d (q := (18, .invokevirtual 52, 3)) k_Ch_openNext 14 rfl
theorem d_Ch_openNext_21 : decode y_Ch_openNext.2.2.1 21 = .ok (.aload_n 0, 1) := mj_d (q := (21, .aload_n 0, 1)) k_Ch_openNext 15 rfl
theorem d_Ch_openNext_22 : decode y_Ch_openNext.2.2.1 22 = .ok (.iload_n 1, 1) := mj_d (q := (22, .iload_n 1, 1)) k_Ch_openNext 16 rfl
theorem d_Ch_openNext_23 : decode y_Ch_openNext.2.2.1 23 = .ok (.invokevirtual 46, 3) := mj_d (q := (23, .invokevirtual 46, 3)) k_Ch_openNext 17 rfl
theorem d_Ch_openNext_26 : decode y_Ch_openNext.2.2.1 26 = .ok (.return_, 1) := mj_d (q := (26, .return_, 1)) k_Ch_openNext 18 rfl
theorem d_Ch_nameLeaps_0 : decode y_Ch_nameLeaps.2.2.1 0 = .ok (.iconst 0, 1) := mj_d (q := (0, .iconst 0, 1)) k_Ch_nameLeaps 0 rfl
theorem d_Ch_nameLeaps_1 : decode y_Ch_nameLeaps.2.2.1 1 = .ok (.istore_n 2, 1) := mj_d (q := (1, .istore_n 2, 1)) k_Ch_nameLeaps 1 rfl
theorem d_Ch_nameLeaps_2 : decode y_Ch_nameLeaps.2.2.1 2 = .ok (.iload_n 2, 1) := mj_d (q := (2, .iload_n 2, 1)) k_Ch_nameLeaps 2 rfl
theorem d_Ch_nameLeaps_3 : decode y_Ch_nameLeaps.2.2.1 3 = .ok (.iconst 5, 1) := mj_d (q := (3, .iconst 5, 1)) k_Ch_nameLeaps 3 rfl
theorem d_Ch_nameLeaps_4 : decode y_Ch_nameLeaps.2.2.1 4 = .ok (.if_icmp .ge 34, 3) := mj_d (q := (4, .if_icmp .ge 34, 3)) k_Ch_nameLeaps 4 rfl
theorem d_Ch_nameLeaps_7 : decode y_Ch_nameLeaps.2.2.1 7 = .ok (.aload_n 0, 1) := mj_d (q := (7, .aload_n 0, 1)) k_Ch_nameLeaps 5 rfl
theorem d_Ch_nameLeaps_8 : decode y_Ch_nameLeaps.2.2.1 8 = .ok (.getfield 20, 3) := mj_d (q := (8, .getfield 20, 3)) k_Ch_nameLeaps 6 rfl
theorem d_Ch_nameLeaps_11 : decode y_Ch_nameLeaps.2.2.1 11 = .ok (.iload_n 1, 1) := mj_d (q := (11, .iload_n 1, 1)) k_Ch_nameLeaps 7 rfl
theorem d_Ch_nameLeaps_12 : decode y_Ch_nameLeaps.2.2.1 12 = .ok (.aaload, 1) := mj_d (q := (12, .aaload, 1)) k_Ch_nameLeaps 8 rfl
theorem d_Ch_nameLeaps_13 : decode y_Ch_nameLeaps.2.2.1 13 = .ok (.iload_n 2, 1) := mj_d (q := (13, .iload_n 2, 1)) k_Ch_nameLeaps 9 rfl
theorem d_Ch_nameLeaps_14 : decode y_Ch_nameLeaps.2.2.1 14 = .ok (.aload_n 0, 1) := mj_d (q := (14, .aload_n 0, 1)) k_Ch_nameLeaps 10 rfl
theorem d_Ch_nameLeaps_15 : decode y_Ch_nameLeaps.2.2.1 15 = .ok (.getfield 30, 3) := mj_d (q := (15, .getfield 30, 3)) k_Ch_nameLeaps 11 rfl
theorem d_Ch_nameLeaps_18 : decode y_Ch_nameLeaps.2.2.1 18 = .ok (.ifCond .eq 12, 3) := mj_d (q := (18, .ifCond .eq 12, 3)) k_Ch_nameLeaps 12 rfl
theorem d_Ch_nameLeaps_21 : decode y_Ch_nameLeaps.2.2.1 21 = .ok (.aload_n 0, 1) := mj_d (q := (21, .aload_n 0, 1)) k_Ch_nameLeaps 13 rfl
theorem d_Ch_nameLeaps_22 : decode y_Ch_nameLeaps.2.2.1 22 = .ok (.iload_n 1, 1) := mj_d (q := (22, .iload_n 1, 1)) k_Ch_nameLeaps 14 rfl
theorem d_Ch_nameLeaps_23 : decode y_Ch_nameLeaps.2.2.1 23 = .ok (.iload_n 2, 1) := mj_d (q := (23, .iload_n 2, 1)) k_Ch_nameLeaps 15 rfl
theorem d_Ch_nameLeaps_24 : decode y_Ch_nameLeaps.2.2.1 24 = .ok (.invokevirtual 98, 3) := mj_d (q := (24, .invokevirtual 98, 3)) k_Ch_nameLeaps 16 rfl
theorem d_Ch_nameLeaps_27 : decode y_Ch_nameLeaps.2.2.1 27 = .ok (.goto 4, 3) := mj_d (q := (27, .goto 4, 3)) k_Ch_nameLeaps 17 rfl
theorem d_Ch_nameLeaps_30 : decode y_Ch_nameLeaps.2.2.1 30 = .ok (.iconst (-1), 1) := mj_d (q := (30, .iconst (-1), 1)) k_Ch_nameLeaps 18 rfl
theorem d_Ch_nameLeaps_31 : decode y_Ch_nameLeaps.2.2.1 31 = .ok (.iastore, 1) := mj_d (q := (31, .iastore, 1)) k_Ch_nameLeaps 19 rfl
theorem d_Ch_nameLeaps_32 : decode y_Ch_nameLeaps.2.2.1 32 = .ok (.iinc 2 1, 3) := mj_d (q := (32, .iinc 2 1, 3)) k_Ch_nameLeaps 20 rfl
theorem d_Ch_nameLeaps_35 : decode y_Ch_nameLeaps.2.2.1 35 = .ok (.goto (-33), 3) := mj_d (q := (35, .goto (-33), 3)) k_Ch_nameLeaps 21 rfl
theorem d_Ch_nameLeaps_38 : decode y_Ch_nameLeaps.2.2.1 38 = .ok (.return_, 1) := mj_d (q := (38, .return_, 1)) k_Ch_nameLeaps 22 rfl
theorem d_Ch_leapItem_0 : decode y_Ch_leapItem.2.2.1 0 = .ok (.aload_n 0, 1) := mj_d (q := (0, .aload_n 0, 1)) k_Ch_leapItem 0 rfl
theorem d_Ch_leapItem_1 : decode y_Ch_leapItem.2.2.1 1 = .ok (.iload_n 1, 1) := mj_d (q := (1, .iload_n 1, 1)) k_Ch_leapItem 1 rfl
theorem d_Ch_leapItem_2 : decode y_Ch_leapItem.2.2.1 2 = .ok (.iload_n 2, 1) := mj_d (q := (2, .iload_n 2, 1)) k_Ch_leapItem 2 rfl
theorem d_Ch_leapItem_3 : decode y_Ch_leapItem.2.2.1 3 = .ok (.invokevirtual 101, 3) := mj_d (q := (3, .invokevirtual 101, 3)) k_Ch_leapItem 3 rfl
theorem d_Ch_leapItem_6 : decode y_Ch_leapItem.2.2.1 6 = .ok (.istore_n 3, 1) := mj_d (q := (6, .istore_n 3, 1)) k_Ch_leapItem 4 rfl
theorem d_Ch_leapItem_7 : decode y_Ch_leapItem.2.2.1 7 = .ok (.iload_n 3, 1) := mj_d (q := (7, .iload_n 3, 1)) k_Ch_leapItem 5 rfl
theorem d_Ch_leapItem_8 : decode y_Ch_leapItem.2.2.1 8 = .ok (.iconst (-1), 1) := mj_d (q := (8, .iconst (-1), 1)) k_Ch_leapItem 6 rfl
theorem d_Ch_leapItem_9 : decode y_Ch_leapItem.2.2.1 9 = .ok (.if_icmp .eq 18, 3) := mj_d (q := (9, .if_icmp .eq 18, 3)) k_Ch_leapItem 7 rfl
theorem d_Ch_leapItem_12 : decode y_Ch_leapItem.2.2.1 12 = .ok (.aload_n 0, 1) := mj_d (q := (12, .aload_n 0, 1)) k_Ch_leapItem 8 rfl
theorem d_Ch_leapItem_13 : decode y_Ch_leapItem.2.2.1 13 = .ok (.getfield 26, 3) := mj_d (q := (13, .getfield 26, 3)) k_Ch_leapItem 9 rfl
theorem d_Ch_leapItem_16 : decode y_Ch_leapItem.2.2.1 16 = .ok (.getfield 55, 3) := mj_d (q := (16, .getfield 55, 3)) k_Ch_leapItem 10 rfl
theorem d_Ch_leapItem_19 : decode y_Ch_leapItem.2.2.1 19 = .ok (.iload_n 3, 1) := mj_d (q := (19, .iload_n 3, 1)) k_Ch_leapItem 11 rfl
theorem d_Ch_leapItem_20 : decode y_Ch_leapItem.2.2.1 20 = .ok (.iconst 1, 1) := mj_d (q := (20, .iconst 1, 1)) k_Ch_leapItem 12 rfl
theorem d_Ch_leapItem_21 : decode y_Ch_leapItem.2.2.1 21 = .ok (.iadd, 1) := mj_d (q := (21, .iadd, 1)) k_Ch_leapItem 13 rfl
theorem d_Ch_leapItem_22 : decode y_Ch_leapItem.2.2.1 22 = .ok (.iaload, 1) := mj_d (q := (22, .iaload, 1)) k_Ch_leapItem 14 rfl
theorem d_Ch_leapItem_23 : decode y_Ch_leapItem.2.2.1 23 = .ok (.iconst (-1), 1) := mj_d (q := (23, .iconst (-1), 1)) k_Ch_leapItem 15 rfl
theorem d_Ch_leapItem_24 : decode y_Ch_leapItem.2.2.1 24 = .ok (.if_icmp .eq 5, 3) := mj_d (q := (24, .if_icmp .eq 5, 3)) k_Ch_leapItem 16 rfl
theorem d_Ch_leapItem_27 : decode y_Ch_leapItem.2.2.1 27 = .ok (.iconst (-1), 1) := mj_d (q := (27, .iconst (-1), 1)) k_Ch_leapItem 17 rfl
theorem d_Ch_leapItem_28 : decode y_Ch_leapItem.2.2.1 28 = .ok (.ireturn, 1) := mj_d (q := (28, .ireturn, 1)) k_Ch_leapItem 18 rfl
theorem d_Ch_leapItem_29 : decode y_Ch_leapItem.2.2.1 29 = .ok (.aload_n 0, 1) := mj_d (q := (29, .aload_n 0, 1)) k_Ch_leapItem 19 rfl
theorem d_Ch_leapItem_30 : decode y_Ch_leapItem.2.2.1 30 = .ok (.getfield 11, 3) := mj_d (q := (30, .getfield 11, 3)) k_Ch_leapItem 20 rfl
theorem d_Ch_leapItem_33 : decode y_Ch_leapItem.2.2.1 33 = .ok (.iload_n 1, 1) := mj_d (q := (33, .iload_n 1, 1)) k_Ch_leapItem 21 rfl
theorem d_Ch_leapItem_34 : decode y_Ch_leapItem.2.2.1 34 = .ok (.aaload, 1) := mj_d (q := (34, .aaload, 1)) k_Ch_leapItem 22 rfl
theorem d_Ch_leapItem_35 : decode y_Ch_leapItem.2.2.1 35 = .ok (.iload_n 3, 1) := mj_d (q := (35, .iload_n 3, 1)) k_Ch_leapItem 23 rfl
theorem d_Ch_leapItem_36 : decode y_Ch_leapItem.2.2.1 36 = .ok (.iaload, 1) := mj_d (q := (36, .iaload, 1)) k_Ch_leapItem 24 rfl
theorem d_Ch_leapItem_37 : decode y_Ch_leapItem.2.2.1 37 = .ok (.iconst 1, 1) := mj_d (q := (37, .iconst 1, 1)) k_Ch_leapItem 25 rfl
theorem d_Ch_leapItem_38 : decode y_Ch_leapItem.2.2.1 38 = .ok (.isub, 1) := mj_d (q := (38, .isub, 1)) k_Ch_leapItem 26 rfl
theorem d_Ch_leapItem_39 : decode y_Ch_leapItem.2.2.1 39 = .ok (.invokestatic 104, 3) := mj_d (q := (39, .invokestatic 104, 3)) k_Ch_leapItem 27 rfl
theorem d_Ch_leapItem_42 : decode y_Ch_leapItem.2.2.1 42 = .ok (.istore 4, 2) := mj_d (q := (42, .istore 4, 2)) k_Ch_leapItem 28 rfl
theorem d_Ch_leapItem_44 : decode y_Ch_leapItem.2.2.1 44 = .ok (.aload_n 0, 1) := mj_d (q := (44, .aload_n 0, 1)) k_Ch_leapItem 29 rfl
theorem d_Ch_leapItem_45 : decode y_Ch_leapItem.2.2.1 45 = .ok (.iload_n 3, 1) := mj_d (q := (45, .iload_n 3, 1)) k_Ch_leapItem 30 rfl
theorem d_Ch_leapItem_46 : decode y_Ch_leapItem.2.2.1 46 = .ok (.invokevirtual 82, 3) := mj_d (q := (46, .invokevirtual 82, 3)) k_Ch_leapItem 31 rfl
theorem d_Ch_leapItem_49 : decode y_Ch_leapItem.2.2.1 49 = .ok (.istore 5, 2) := mj_d (q := (49, .istore 5, 2)) k_Ch_leapItem 32 rfl
theorem d_Ch_leapItem_51 : decode y_Ch_leapItem.2.2.1 51 = .ok (.iload 4, 2) := mj_d (q := (51, .iload 4, 2)) k_Ch_leapItem 33 rfl
theorem d_Ch_leapItem_53 : decode y_Ch_leapItem.2.2.1 53 = .ok (.iload_n 1, 1) := mj_d (q := (53, .iload_n 1, 1)) k_Ch_leapItem 34 rfl
theorem d_Ch_leapItem_54 : decode y_Ch_leapItem.2.2.1 54 = .ok (.if_icmp .ge 34, 3) := mj_d (q := (54, .if_icmp .ge 34, 3)) k_Ch_leapItem 35 rfl
theorem d_Ch_leapItem_57 : decode y_Ch_leapItem.2.2.1 57 = .ok (.iload 5, 2) := mj_d (q := (57, .iload 5, 2)) k_Ch_leapItem 36 rfl
theorem d_Ch_leapItem_59 : decode y_Ch_leapItem.2.2.1 59 = .ok (.iconst (-1), 1) := mj_d (q := (59, .iconst (-1), 1)) k_Ch_leapItem 37 rfl
theorem d_Ch_leapItem_60 : decode y_Ch_leapItem.2.2.1 60 = .ok (.if_icmp .eq 28, 3) := mj_d (q := (60, .if_icmp .eq 28, 3)) k_Ch_leapItem 38 rfl
theorem d_Ch_leapItem_63 : decode y_Ch_leapItem.2.2.1 63 = .ok (.aload_n 0, 1) := mj_d (q := (63, .aload_n 0, 1)) k_Ch_leapItem 39 rfl
theorem d_Ch_leapItem_64 : decode y_Ch_leapItem.2.2.1 64 = .ok (.getfield 20, 3) := mj_d (q := (64, .getfield 20, 3)) k_Ch_leapItem 40 rfl
theorem d_Ch_leapItem_67 : decode y_Ch_leapItem.2.2.1 67 = .ok (.iload 4, 2) := mj_d (q := (67, .iload 4, 2)) k_Ch_leapItem 41 rfl
theorem d_Ch_leapItem_69 : decode y_Ch_leapItem.2.2.1 69 = .ok (.aaload, 1) := mj_d (q := (69, .aaload, 1)) k_Ch_leapItem 42 rfl
theorem d_Ch_leapItem_70 : decode y_Ch_leapItem.2.2.1 70 = .ok (.iload 5, 2) := mj_d (q := (70, .iload 5, 2)) k_Ch_leapItem 43 rfl
theorem d_Ch_leapItem_72 : decode y_Ch_leapItem.2.2.1 72 = .ok (.iaload, 1) := mj_d (q := (72, .iaload, 1)) k_Ch_leapItem 44 rfl
theorem d_Ch_leapItem_73 : decode y_Ch_leapItem.2.2.1 73 = .ok (.iconst (-1), 1) := mj_d (q := (73, .iconst (-1), 1)) k_Ch_leapItem 45 rfl
theorem d_Ch_leapItem_74 : decode y_Ch_leapItem.2.2.1 74 = .ok (.if_icmp .eq 14, 3) := mj_d (q := (74, .if_icmp .eq 14, 3)) k_Ch_leapItem 46 rfl
theorem d_Ch_leapItem_77 : decode y_Ch_leapItem.2.2.1 77 = .ok (.aload_n 0, 1) := mj_d (q := (77, .aload_n 0, 1)) k_Ch_leapItem 47 rfl
theorem d_Ch_leapItem_78 : decode y_Ch_leapItem.2.2.1 78 = .ok (.getfield 20, 3) := mj_d (q := (78, .getfield 20, 3)) k_Ch_leapItem 48 rfl
theorem d_Ch_leapItem_81 : decode y_Ch_leapItem.2.2.1 81 = .ok (.iload 4, 2) := mj_d (q := (81, .iload 4, 2)) k_Ch_leapItem 49 rfl
theorem d_Ch_leapItem_83 : decode y_Ch_leapItem.2.2.1 83 = .ok (.aaload, 1) := mj_d (q := (83, .aaload, 1)) k_Ch_leapItem 50 rfl
theorem d_Ch_leapItem_84 : decode y_Ch_leapItem.2.2.1 84 = .ok (.iload 5, 2) := mj_d (q := (84, .iload 5, 2)) k_Ch_leapItem 51 rfl
theorem d_Ch_leapItem_86 : decode y_Ch_leapItem.2.2.1 86 = .ok (.iaload, 1) := mj_d (q := (86, .iaload, 1)) k_Ch_leapItem 52 rfl
theorem d_Ch_leapItem_87 : decode y_Ch_leapItem.2.2.1 87 = .ok (.ireturn, 1) := mj_d (q := (87, .ireturn, 1)) k_Ch_leapItem 53 rfl
theorem d_Ch_leapItem_88 : decode y_Ch_leapItem.2.2.1 88 = .ok (.iload_n 3, 1) := mj_d (q := (88, .iload_n 3, 1)) k_Ch_leapItem 54 rfl
theorem d_Ch_leapItem_89 : decode y_Ch_leapItem.2.2.1 89 = .ok (.iconst 1, 1) := mj_d (q := (89, .iconst 1, 1)) k_Ch_leapItem 55 rfl
theorem d_Ch_leapItem_90 : decode y_Ch_leapItem.2.2.1 90 = .ok (.iadd, 1) := mj_d (q := (90, .iadd, 1)) k_Ch_leapItem 56 rfl
theorem d_Ch_leapItem_91 : decode y_Ch_leapItem.2.2.1 91 = .ok (.bipush 13, 2) := mj_d (q := (91, .bipush 13, 2)) k_Ch_leapItem 57 rfl
theorem d_Ch_leapItem_93 : decode y_Ch_leapItem.2.2.1 93 = .ok (.imul, 1) := mj_d (q := (93, .imul, 1)) k_Ch_leapItem 58 rfl
theorem d_Ch_leapItem_94 : decode y_Ch_leapItem.2.2.1 94 = .ok (.iload 4, 2) := mj_d (q := (94, .iload 4, 2)) k_Ch_leapItem 59 rfl
theorem d_Ch_leapItem_96 : decode y_Ch_leapItem.2.2.1 96 = .ok (.iadd, 1) := mj_d (q := (96, .iadd, 1)) k_Ch_leapItem 60 rfl
theorem d_Ch_leapItem_97 : decode y_Ch_leapItem.2.2.1 97 = .ok (.ireturn, 1) := mj_d (q := (97, .ireturn, 1)) k_Ch_leapItem 61 rfl
theorem d_Ch_loneSlot_0 : decode y_Ch_loneSlot.2.2.1 0 = .ok (.iconst 0, 1) := mj_d (q := (0, .iconst 0, 1)) k_Ch_loneSlot 0 rfl
theorem d_Ch_loneSlot_1 : decode y_Ch_loneSlot.2.2.1 1 = .ok (.istore_n 3, 1) := mj_d (q := (1, .istore_n 3, 1)) k_Ch_loneSlot 1 rfl
theorem d_Ch_loneSlot_2 : decode y_Ch_loneSlot.2.2.1 2 = .ok (.iconst (-1), 1) := mj_d (q := (2, .iconst (-1), 1)) k_Ch_loneSlot 2 rfl
theorem d_Ch_loneSlot_3 : decode y_Ch_loneSlot.2.2.1 3 = .ok (.istore 4, 2) := mj_d (q := (3, .istore 4, 2)) k_Ch_loneSlot 3 rfl
theorem d_Ch_loneSlot_5 : decode y_Ch_loneSlot.2.2.1 5 = .ok (.iconst 0, 1) := mj_d (q := (5, .iconst 0, 1)) k_Ch_loneSlot 4 rfl
theorem d_Ch_loneSlot_6 : decode y_Ch_loneSlot.2.2.1 6 = .ok (.istore 5, 2) := mj_d (q := (6, .istore 5, 2)) k_Ch_loneSlot 5 rfl
theorem d_Ch_loneSlot_8 : decode y_Ch_loneSlot.2.2.1 8 = .ok (.iload 5, 2) := mj_d (q := (8, .iload 5, 2)) k_Ch_loneSlot 6 rfl
theorem d_Ch_loneSlot_10 : decode y_Ch_loneSlot.2.2.1 10 = .ok (.bipush 44, 2) := mj_d (q := (10, .bipush 44, 2)) k_Ch_loneSlot 7 rfl
theorem d_Ch_loneSlot_12 : decode y_Ch_loneSlot.2.2.1 12 = .ok (.if_icmp .ge 54, 3) := mj_d (q := (12, .if_icmp .ge 54, 3)) k_Ch_loneSlot 8 rfl
theorem d_Ch_loneSlot_15 : decode y_Ch_loneSlot.2.2.1 15 = .ok (.aload_n 0, 1) := mj_d (q := (15, .aload_n 0, 1)) k_Ch_loneSlot 9 rfl
theorem d_Ch_loneSlot_16 : decode y_Ch_loneSlot.2.2.1 16 = .ok (.getfield 11, 3) := mj_d (q := (16, .getfield 11, 3)) k_Ch_loneSlot 10 rfl
theorem d_Ch_loneSlot_19 : decode y_Ch_loneSlot.2.2.1 19 = .ok (.iload_n 1, 1) := mj_d (q := (19, .iload_n 1, 1)) k_Ch_loneSlot 11 rfl
theorem d_Ch_loneSlot_20 : decode y_Ch_loneSlot.2.2.1 20 = .ok (.aaload, 1) := mj_d (q := (20, .aaload, 1)) k_Ch_loneSlot 12 rfl
theorem d_Ch_loneSlot_21 : decode y_Ch_loneSlot.2.2.1 21 = .ok (.iload 5, 2) := mj_d (q := (21, .iload 5, 2)) k_Ch_loneSlot 13 rfl
theorem d_Ch_loneSlot_23 : decode y_Ch_loneSlot.2.2.1 23 = .ok (.iaload, 1) := mj_d (q := (23, .iaload, 1)) k_Ch_loneSlot 14 rfl
theorem d_Ch_loneSlot_24 : decode y_Ch_loneSlot.2.2.1 24 = .ok (.ifCond .eq 36, 3) := mj_d (q := (24, .ifCond .eq 36, 3)) k_Ch_loneSlot 15 rfl
theorem d_Ch_loneSlot_27 : decode y_Ch_loneSlot.2.2.1 27 = .ok (.aload_n 0, 1) := mj_d (q := (27, .aload_n 0, 1)) k_Ch_loneSlot 16 rfl
theorem d_Ch_loneSlot_28 : decode y_Ch_loneSlot.2.2.1 28 = .ok (.getfield 26, 3) := mj_d (q := (28, .getfield 26, 3)) k_Ch_loneSlot 17 rfl
theorem d_Ch_loneSlot_31 : decode y_Ch_loneSlot.2.2.1 31 = .ok (.getfield 55, 3) := mj_d (q := (31, .getfield 55, 3)) k_Ch_loneSlot 18 rfl
theorem d_Ch_loneSlot_34 : decode y_Ch_loneSlot.2.2.1 34 = .ok (.iload 5, 2) := mj_d (q := (34, .iload 5, 2)) k_Ch_loneSlot 19 rfl
theorem d_Ch_loneSlot_36 : decode y_Ch_loneSlot.2.2.1 36 = .ok (.iaload, 1) := mj_d (q := (36, .iaload, 1)) k_Ch_loneSlot 20 rfl
theorem d_Ch_loneSlot_37 : decode y_Ch_loneSlot.2.2.1 37 = .ok (.iload_n 2, 1) := mj_d (q := (37, .iload_n 2, 1)) k_Ch_loneSlot 21 rfl
theorem d_Ch_loneSlot_38 : decode y_Ch_loneSlot.2.2.1 38 = .ok (.if_icmp .ne 22, 3) := mj_d (q := (38, .if_icmp .ne 22, 3)) k_Ch_loneSlot 22 rfl
theorem d_Ch_loneSlot_41 : decode y_Ch_loneSlot.2.2.1 41 = .ok (.iload_n 3, 1) := mj_d (q := (41, .iload_n 3, 1)) k_Ch_loneSlot 23 rfl
theorem d_Ch_loneSlot_42 : decode y_Ch_loneSlot.2.2.1 42 = .ok (.aload_n 0, 1) := mj_d (q := (42, .aload_n 0, 1)) k_Ch_loneSlot 24 rfl
theorem d_Ch_loneSlot_43 : decode y_Ch_loneSlot.2.2.1 43 = .ok (.getfield 11, 3) := mj_d (q := (43, .getfield 11, 3)) k_Ch_loneSlot 25 rfl
theorem d_Ch_loneSlot_46 : decode y_Ch_loneSlot.2.2.1 46 = .ok (.iload_n 1, 1) := mj_d (q := (46, .iload_n 1, 1)) k_Ch_loneSlot 26 rfl
theorem d_Ch_loneSlot_47 : decode y_Ch_loneSlot.2.2.1 47 = .ok (.aaload, 1) := mj_d (q := (47, .aaload, 1)) k_Ch_loneSlot 27 rfl
theorem d_Ch_loneSlot_48 : decode y_Ch_loneSlot.2.2.1 48 = .ok (.iload 5, 2) := mj_d (q := (48, .iload 5, 2)) k_Ch_loneSlot 28 rfl
theorem d_Ch_loneSlot_50 : decode y_Ch_loneSlot.2.2.1 50 = .ok (.iaload, 1) := mj_d (q := (50, .iaload, 1)) k_Ch_loneSlot 29 rfl
theorem d_Ch_loneSlot_51 : decode y_Ch_loneSlot.2.2.1 51 = .ok (.invokestatic 104, 3) := mj_d (q := (51, .invokestatic 104, 3)) k_Ch_loneSlot 30 rfl
theorem d_Ch_loneSlot_54 : decode y_Ch_loneSlot.2.2.1 54 = .ok (.iadd, 1) := mj_d (q := (54, .iadd, 1)) k_Ch_loneSlot 31 rfl
theorem d_Ch_loneSlot_55 : decode y_Ch_loneSlot.2.2.1 55 = .ok (.istore_n 3, 1) := mj_d (q := (55, .istore_n 3, 1)) k_Ch_loneSlot 32 rfl
theorem d_Ch_loneSlot_56 : decode y_Ch_loneSlot.2.2.1 56 = .ok (.iload 5, 2) := mj_d (q := (56, .iload 5, 2)) k_Ch_loneSlot 33 rfl
theorem d_Ch_loneSlot_58 : decode y_Ch_loneSlot.2.2.1 58 = .ok (.istore 4, 2) := mj_d (q := (58, .istore 4, 2)) k_Ch_loneSlot 34 rfl
theorem d_Ch_loneSlot_60 : decode y_Ch_loneSlot.2.2.1 60 = .ok (.iinc 5 1, 3) := mj_d (q := (60, .iinc 5 1, 3)) k_Ch_loneSlot 35 rfl
theorem d_Ch_loneSlot_63 : decode y_Ch_loneSlot.2.2.1 63 = .ok (.goto (-55), 3) := mj_d (q := (63, .goto (-55), 3)) k_Ch_loneSlot 36 rfl
theorem d_Ch_loneSlot_66 : decode y_Ch_loneSlot.2.2.1 66 = .ok (.iload_n 3, 1) := mj_d (q := (66, .iload_n 3, 1)) k_Ch_loneSlot 37 rfl
theorem d_Ch_loneSlot_67 : decode y_Ch_loneSlot.2.2.1 67 = .ok (.iconst 1, 1) := mj_d (q := (67, .iconst 1, 1)) k_Ch_loneSlot 38 rfl
theorem d_Ch_loneSlot_68 : decode y_Ch_loneSlot.2.2.1 68 = .ok (.if_icmp .ne 8, 3) := mj_d (q := (68, .if_icmp .ne 8, 3)) k_Ch_loneSlot 39 rfl
theorem d_Ch_loneSlot_71 : decode y_Ch_loneSlot.2.2.1 71 = .ok (.iload 4, 2) := mj_d (q := (71, .iload 4, 2)) k_Ch_loneSlot 40 rfl
theorem d_Ch_loneSlot_73 : decode y_Ch_loneSlot.2.2.1 73 = .ok (.goto 4, 3) := mj_d (q := (73, .goto 4, 3)) k_Ch_loneSlot 41 rfl
theorem d_Ch_loneSlot_76 : decode y_Ch_loneSlot.2.2.1 76 = .ok (.iconst (-1), 1) := mj_d (q := (76, .iconst (-1), 1)) k_Ch_loneSlot 42 rfl
theorem d_Ch_loneSlot_77 : decode y_Ch_loneSlot.2.2.1 77 = .ok (.ireturn, 1) := mj_d (q := (77, .ireturn, 1)) k_Ch_loneSlot 43 rfl
theorem d_J_Integer_bitCount_I_0 : decode y_J_Integer_bitCount_I.2.2.1 0 = .ok (.iload_n 0, 1) := mj_d (q := (0, .iload_n 0, 1)) k_J_Integer_bitCount_I 0 rfl
theorem d_J_Integer_bitCount_I_1 : decode y_J_Integer_bitCount_I.2.2.1 1 = .ok (.iload_n 0, 1) := mj_d (q := (1, .iload_n 0, 1)) k_J_Integer_bitCount_I 1 rfl
theorem d_J_Integer_bitCount_I_2 : decode y_J_Integer_bitCount_I.2.2.1 2 = .ok (.iconst 1, 1) := mj_d (q := (2, .iconst 1, 1)) k_J_Integer_bitCount_I 2 rfl
theorem d_J_Integer_bitCount_I_3 : decode y_J_Integer_bitCount_I.2.2.1 3 = .ok (.iushr, 1) := mj_d (q := (3, .iushr, 1)) k_J_Integer_bitCount_I 3 rfl
theorem d_J_Integer_bitCount_I_4 : decode y_J_Integer_bitCount_I.2.2.1 4 = .ok (.ldc_w 265, 3) := mj_d (q := (4, .ldc_w 265, 3)) k_J_Integer_bitCount_I 4 rfl
theorem d_J_Integer_bitCount_I_7 : decode y_J_Integer_bitCount_I.2.2.1 7 = .ok (.iand, 1) := mj_d (q := (7, .iand, 1)) k_J_Integer_bitCount_I 5 rfl
theorem d_J_Integer_bitCount_I_8 : decode y_J_Integer_bitCount_I.2.2.1 8 = .ok (.isub, 1) := mj_d (q := (8, .isub, 1)) k_J_Integer_bitCount_I 6 rfl
theorem d_J_Integer_bitCount_I_9 : decode y_J_Integer_bitCount_I.2.2.1 9 = .ok (.istore_n 0, 1) := mj_d (q := (9, .istore_n 0, 1)) k_J_Integer_bitCount_I 7 rfl
theorem d_J_Integer_bitCount_I_10 : decode y_J_Integer_bitCount_I.2.2.1 10 = .ok (.iload_n 0, 1) := mj_d (q := (10, .iload_n 0, 1)) k_J_Integer_bitCount_I 8 rfl
theorem d_J_Integer_bitCount_I_11 : decode y_J_Integer_bitCount_I.2.2.1 11 = .ok (.ldc_w 266, 3) := mj_d (q := (11, .ldc_w 266, 3)) k_J_Integer_bitCount_I 9 rfl
theorem d_J_Integer_bitCount_I_14 : decode y_J_Integer_bitCount_I.2.2.1 14 = .ok (.iand, 1) := mj_d (q := (14, .iand, 1)) k_J_Integer_bitCount_I 10 rfl
theorem d_J_Integer_bitCount_I_15 : decode y_J_Integer_bitCount_I.2.2.1 15 = .ok (.iload_n 0, 1) := mj_d (q := (15, .iload_n 0, 1)) k_J_Integer_bitCount_I 11 rfl
theorem d_J_Integer_bitCount_I_16 : decode y_J_Integer_bitCount_I.2.2.1 16 = .ok (.iconst 2, 1) := mj_d (q := (16, .iconst 2, 1)) k_J_Integer_bitCount_I 12 rfl
theorem d_J_Integer_bitCount_I_17 : decode y_J_Integer_bitCount_I.2.2.1 17 = .ok (.iushr, 1) := mj_d (q := (17, .iushr, 1)) k_J_Integer_bitCount_I 13 rfl
theorem d_J_Integer_bitCount_I_18 : decode y_J_Integer_bitCount_I.2.2.1 18 = .ok (.ldc_w 266, 3) := mj_d (q := (18, .ldc_w 266, 3)) k_J_Integer_bitCount_I 14 rfl
theorem d_J_Integer_bitCount_I_21 : decode y_J_Integer_bitCount_I.2.2.1 21 = .ok (.iand, 1) := mj_d (q := (21, .iand, 1)) k_J_Integer_bitCount_I 15 rfl
theorem d_J_Integer_bitCount_I_22 : decode y_J_Integer_bitCount_I.2.2.1 22 = .ok (.iadd, 1) := mj_d (q := (22, .iadd, 1)) k_J_Integer_bitCount_I 16 rfl
theorem d_J_Integer_bitCount_I_23 : decode y_J_Integer_bitCount_I.2.2.1 23 = .ok (.istore_n 0, 1) := mj_d (q := (23, .istore_n 0, 1)) k_J_Integer_bitCount_I 17 rfl
theorem d_J_Integer_bitCount_I_24 : decode y_J_Integer_bitCount_I.2.2.1 24 = .ok (.iload_n 0, 1) := mj_d (q := (24, .iload_n 0, 1)) k_J_Integer_bitCount_I 18 rfl
theorem d_J_Integer_bitCount_I_25 : decode y_J_Integer_bitCount_I.2.2.1 25 = .ok (.iload_n 0, 1) := mj_d (q := (25, .iload_n 0, 1)) k_J_Integer_bitCount_I 19 rfl
theorem d_J_Integer_bitCount_I_26 : decode y_J_Integer_bitCount_I.2.2.1 26 = .ok (.iconst 4, 1) := mj_d (q := (26, .iconst 4, 1)) k_J_Integer_bitCount_I 20 rfl
theorem d_J_Integer_bitCount_I_27 : decode y_J_Integer_bitCount_I.2.2.1 27 = .ok (.iushr, 1) := mj_d (q := (27, .iushr, 1)) k_J_Integer_bitCount_I 21 rfl
theorem d_J_Integer_bitCount_I_28 : decode y_J_Integer_bitCount_I.2.2.1 28 = .ok (.iadd, 1) := mj_d (q := (28, .iadd, 1)) k_J_Integer_bitCount_I 22 rfl
theorem d_J_Integer_bitCount_I_29 : decode y_J_Integer_bitCount_I.2.2.1 29 = .ok (.ldc_w 267, 3) := mj_d (q := (29, .ldc_w 267, 3)) k_J_Integer_bitCount_I 23 rfl
theorem d_J_Integer_bitCount_I_32 : decode y_J_Integer_bitCount_I.2.2.1 32 = .ok (.iand, 1) := mj_d (q := (32, .iand, 1)) k_J_Integer_bitCount_I 24 rfl
theorem d_J_Integer_bitCount_I_33 : decode y_J_Integer_bitCount_I.2.2.1 33 = .ok (.istore_n 0, 1) := mj_d (q := (33, .istore_n 0, 1)) k_J_Integer_bitCount_I 25 rfl
theorem d_J_Integer_bitCount_I_34 : decode y_J_Integer_bitCount_I.2.2.1 34 = .ok (.iload_n 0, 1) := mj_d (q := (34, .iload_n 0, 1)) k_J_Integer_bitCount_I 26 rfl
theorem d_J_Integer_bitCount_I_35 : decode y_J_Integer_bitCount_I.2.2.1 35 = .ok (.iload_n 0, 1) := mj_d (q := (35, .iload_n 0, 1)) k_J_Integer_bitCount_I 27 rfl
theorem d_J_Integer_bitCount_I_36 : decode y_J_Integer_bitCount_I.2.2.1 36 = .ok (.bipush 8, 2) := mj_d (q := (36, .bipush 8, 2)) k_J_Integer_bitCount_I 28 rfl
theorem d_J_Integer_bitCount_I_38 : decode y_J_Integer_bitCount_I.2.2.1 38 = .ok (.iushr, 1) := mj_d (q := (38, .iushr, 1)) k_J_Integer_bitCount_I 29 rfl
theorem d_J_Integer_bitCount_I_39 : decode y_J_Integer_bitCount_I.2.2.1 39 = .ok (.iadd, 1) := mj_d (q := (39, .iadd, 1)) k_J_Integer_bitCount_I 30 rfl
theorem d_J_Integer_bitCount_I_40 : decode y_J_Integer_bitCount_I.2.2.1 40 = .ok (.istore_n 0, 1) := mj_d (q := (40, .istore_n 0, 1)) k_J_Integer_bitCount_I 31 rfl
theorem d_J_Integer_bitCount_I_41 : decode y_J_Integer_bitCount_I.2.2.1 41 = .ok (.iload_n 0, 1) := mj_d (q := (41, .iload_n 0, 1)) k_J_Integer_bitCount_I 32 rfl
theorem d_J_Integer_bitCount_I_42 : decode y_J_Integer_bitCount_I.2.2.1 42 = .ok (.iload_n 0, 1) := mj_d (q := (42, .iload_n 0, 1)) k_J_Integer_bitCount_I 33 rfl
theorem d_J_Integer_bitCount_I_43 : decode y_J_Integer_bitCount_I.2.2.1 43 = .ok (.bipush 16, 2) := mj_d (q := (43, .bipush 16, 2)) k_J_Integer_bitCount_I 34 rfl
theorem d_J_Integer_bitCount_I_45 : decode y_J_Integer_bitCount_I.2.2.1 45 = .ok (.iushr, 1) := mj_d (q := (45, .iushr, 1)) k_J_Integer_bitCount_I 35 rfl
theorem d_J_Integer_bitCount_I_46 : decode y_J_Integer_bitCount_I.2.2.1 46 = .ok (.iadd, 1) := mj_d (q := (46, .iadd, 1)) k_J_Integer_bitCount_I 36 rfl
theorem d_J_Integer_bitCount_I_47 : decode y_J_Integer_bitCount_I.2.2.1 47 = .ok (.istore_n 0, 1) := mj_d (q := (47, .istore_n 0, 1)) k_J_Integer_bitCount_I 37 rfl
theorem d_J_Integer_bitCount_I_48 : decode y_J_Integer_bitCount_I.2.2.1 48 = .ok (.iload_n 0, 1) := mj_d (q := (48, .iload_n 0, 1)) k_J_Integer_bitCount_I 38 rfl
theorem d_J_Integer_bitCount_I_49 : decode y_J_Integer_bitCount_I.2.2.1 49 = .ok (.bipush 63, 2) := mj_d (q := (49, .bipush 63, 2)) k_J_Integer_bitCount_I 39 rfl
theorem d_J_Integer_bitCount_I_51 : decode y_J_Integer_bitCount_I.2.2.1 51 = .ok (.iand, 1) := mj_d (q := (51, .iand, 1)) k_J_Integer_bitCount_I 40 rfl
theorem d_J_Integer_bitCount_I_52 : decode y_J_Integer_bitCount_I.2.2.1 52 = .ok (.ireturn, 1) := mj_d (q := (52, .ireturn, 1)) k_J_Integer_bitCount_I 41 rfl
theorem d_CF_back_0 : decode y_CF_back.2.2.1 0 = .ok (.iload_n 1, 1) := mj_d (q := (0, .iload_n 1, 1)) k_CF_back 0 rfl
theorem d_CF_back_1 : decode y_CF_back.2.2.1 1 = .ok (.ifCond .lt 14, 3) := mj_d (q := (1, .ifCond .lt 14, 3)) k_CF_back 1 rfl
theorem d_CF_back_4 : decode y_CF_back.2.2.1 4 = .ok (.iload_n 1, 1) := mj_d (q := (4, .iload_n 1, 1)) k_CF_back 2 rfl
theorem d_CF_back_5 : decode y_CF_back.2.2.1 5 = .ok (.aload_n 0, 1) := mj_d (q := (5, .aload_n 0, 1)) k_CF_back 3 rfl
theorem d_CF_back_6 : decode y_CF_back.2.2.1 6 = .ok (.getfield 19, 3) := mj_d (q := (6, .getfield 19, 3)) k_CF_back 4 rfl
theorem d_CF_back_9 : decode y_CF_back.2.2.1 9 = .ok (.getfield 59, 3) := mj_d (q := (9, .getfield 59, 3)) k_CF_back 5 rfl
theorem d_CF_back_12 : decode y_CF_back.2.2.1 12 = .ok (.if_icmp .le 11, 3) := mj_d (q := (12, .if_icmp .le 11, 3)) k_CF_back 6 rfl
theorem d_CF_back_15 : decode y_CF_back.2.2.1 15 = .ok (.new 52, 3) := mj_d (q := (15, .new 52, 3)) k_CF_back 7 rfl
theorem d_CF_back_18 : decode y_CF_back.2.2.1 18 = .ok (.dup, 1) := mj_d (q := (18, .dup, 1)) k_CF_back 8 rfl
theorem d_CF_back_19 : decode y_CF_back.2.2.1 19 = .ok (.invokespecial 54, 3) := mj_d (q := (19, .invokespecial 54, 3)) k_CF_back 9 rfl
theorem d_CF_back_22 : decode y_CF_back.2.2.1 22 = .ok (.athrow, 1) := mj_d (q := (22, .athrow, 1)) k_CF_back 10 rfl
theorem d_CF_back_23 : decode y_CF_back.2.2.1 23 = .ok (.aload_n 0, 1) := mj_d (q := (23, .aload_n 0, 1)) k_CF_back 11 rfl
theorem d_CF_back_24 : decode y_CF_back.2.2.1 24 = .ok (.getfield 19, 3) := mj_d (q := (24, .getfield 19, 3)) k_CF_back 12 rfl
theorem d_CF_back_27 : decode y_CF_back.2.2.1 27 = .ok (.dup, 1) := mj_d (q := (27, .dup, 1)) k_CF_back 13 rfl
theorem d_CF_back_28 : decode y_CF_back.2.2.1 28 = .ok (.getfield 59, 3) := mj_d (q := (28, .getfield 59, 3)) k_CF_back 14 rfl
theorem d_CF_back_31 : decode y_CF_back.2.2.1 31 = .ok (.iload_n 1, 1) := mj_d (q := (31, .iload_n 1, 1)) k_CF_back 15 rfl
theorem d_CF_back_32 : decode y_CF_back.2.2.1 32 = .ok (.isub, 1) := mj_d (q := (32, .isub, 1)) k_CF_back 16 rfl
theorem d_CF_back_33 : decode y_CF_back.2.2.1 33 = .ok (.putfield 59, 3) := mj_d (q := (33, .putfield 59, 3)) k_CF_back 17 rfl
theorem d_CF_back_36 : decode y_CF_back.2.2.1 36 = .ok (.aload_n 0, 1) := mj_d (q := (36, .aload_n 0, 1)) k_CF_back 18 rfl
theorem d_CF_back_37 : decode y_CF_back.2.2.1 37 = .ok (.getfield 37, 3) := mj_d (q := (37, .getfield 37, 3)) k_CF_back 19 rfl
theorem d_CF_back_40 : decode y_CF_back.2.2.1 40 = .ok (.aload_n 0, 1) := mj_d (q := (40, .aload_n 0, 1)) k_CF_back 20 rfl
theorem d_CF_back_41 : decode y_CF_back.2.2.1 41 = .ok (.getfield 19, 3) := mj_d (q := (41, .getfield 19, 3)) k_CF_back 21 rfl
theorem d_CF_back_44 : decode y_CF_back.2.2.1 44 = .ok (.getfield 59, 3) := mj_d (q := (44, .getfield 59, 3)) k_CF_back 22 rfl
theorem d_CF_back_47 : decode y_CF_back.2.2.1 47 = .ok (.invokevirtual 69, 3) := mj_d (q := (47, .invokevirtual 69, 3)) k_CF_back 23 rfl
theorem d_CF_back_50 : decode y_CF_back.2.2.1 50 = .ok (.aload_n 0, 1) := mj_d (q := (50, .aload_n 0, 1)) k_CF_back 24 rfl
theorem d_CF_back_51 : decode y_CF_back.2.2.1 51 = .ok (.getfield 19, 3) := mj_d (q := (51, .getfield 19, 3)) k_CF_back 25 rfl
theorem d_CF_back_54 : decode y_CF_back.2.2.1 54 = .ok (.getfield 59, 3) := mj_d (q := (54, .getfield 59, 3)) k_CF_back 26 rfl
theorem d_CF_back_57 : decode y_CF_back.2.2.1 57 = .ok (.ireturn, 1) := mj_d (q := (57, .ireturn, 1)) k_CF_back 27 rfl
theorem d_CF_items_0 : decode y_CF_items.2.2.1 0 = .ok (.aload_n 0, 1) := mj_d (q := (0, .aload_n 0, 1)) k_CF_items 0 rfl
theorem d_CF_items_1 : decode y_CF_items.2.2.1 1 = .ok (.iload_n 1, 1) := mj_d (q := (1, .iload_n 1, 1)) k_CF_items 1 rfl
theorem d_CF_items_2 : decode y_CF_items.2.2.1 2 = .ok (.invokevirtual 104, 3) := mj_d (q := (2, .invokevirtual 104, 3)) k_CF_items 2 rfl
theorem d_CF_items_5 : decode y_CF_items.2.2.1 5 = .ok (.ifCond .ne 11, 3) := mj_d (q := (5, .ifCond .ne 11, 3)) k_CF_items 3 rfl
theorem d_CF_items_8 : decode y_CF_items.2.2.1 8 = .ok (.new 107, 3) := mj_d (q := (8, .new 107, 3)) k_CF_items 4 rfl
theorem d_CF_items_11 : decode y_CF_items.2.2.1 11 = .ok (.dup, 1) := mj_d (q := (11, .dup, 1)) k_CF_items 5 rfl
theorem d_CF_items_12 : decode y_CF_items.2.2.1 12 = .ok (.invokespecial 109, 3) := mj_d (q := (12, .invokespecial 109, 3)) k_CF_items 6 rfl
theorem d_CF_items_15 : decode y_CF_items.2.2.1 15 = .ok (.athrow, 1) := mj_d (q := (15, .athrow, 1)) k_CF_items 7 rfl
theorem d_CF_items_16 : decode y_CF_items.2.2.1 16 = .ok (.aload_n 0, 1) := mj_d (q := (16, .aload_n 0, 1)) k_CF_items 8 rfl
theorem d_CF_items_17 : decode y_CF_items.2.2.1 17 = .ok (.getfield 28, 3) := mj_d (q := (17, .getfield 28, 3)) k_CF_items 9 rfl
theorem d_CF_items_20 : decode y_CF_items.2.2.1 20 = .ok (.getfield 92, 3) := mj_d (q := (20, .getfield 92, 3)) k_CF_items 10 rfl
theorem d_CF_items_23 : decode y_CF_items.2.2.1 23 = .ok (.iload_n 1, 1) := mj_d (q := (23, .iload_n 1, 1)) k_CF_items 11 rfl
theorem d_CF_items_24 : decode y_CF_items.2.2.1 24 = .ok (.iaload, 1) := mj_d (q := (24, .iaload, 1)) k_CF_items 12 rfl
theorem d_CF_items_25 : decode y_CF_items.2.2.1 25 = .ok (.ireturn, 1) := mj_d (q := (25, .ireturn, 1)) k_CF_items 13 rfl
theorem d_CF_isSet_0 : decode y_CF_isSet.2.2.1 0 = .ok (.iload_n 1, 1) := mj_d (q := (0, .iload_n 1, 1)) k_CF_isSet 0 rfl
theorem d_CF_isSet_1 : decode y_CF_isSet.2.2.1 1 = .ok (.ifCond .lt 18, 3) := mj_d (q := (1, .ifCond .lt 18, 3)) k_CF_isSet 1 rfl
theorem d_CF_isSet_4 : decode y_CF_isSet.2.2.1 4 = .ok (.iload_n 1, 1) := mj_d (q := (4, .iload_n 1, 1)) k_CF_isSet 2 rfl
theorem d_CF_isSet_5 : decode y_CF_isSet.2.2.1 5 = .ok (.aload_n 0, 1) := mj_d (q := (5, .aload_n 0, 1)) k_CF_isSet 3 rfl
theorem d_CF_isSet_6 : decode y_CF_isSet.2.2.1 6 = .ok (.getfield 19, 3) := mj_d (q := (6, .getfield 19, 3)) k_CF_isSet 4 rfl
theorem d_CF_isSet_9 : decode y_CF_isSet.2.2.1 9 = .ok (.getfield 59, 3) := mj_d (q := (9, .getfield 59, 3)) k_CF_isSet 5 rfl
theorem d_CF_isSet_12 : decode y_CF_isSet.2.2.1 12 = .ok (.if_icmp .gt 7, 3) := mj_d (q := (12, .if_icmp .gt 7, 3)) k_CF_isSet 6 rfl
theorem d_CF_isSet_15 : decode y_CF_isSet.2.2.1 15 = .ok (.iconst 1, 1) := mj_d (q := (15, .iconst 1, 1)) k_CF_isSet 7 rfl
theorem d_CF_isSet_16 : decode y_CF_isSet.2.2.1 16 = .ok (.goto 4, 3) := mj_d (q := (16, .goto 4, 3)) k_CF_isSet 8 rfl
theorem d_CF_isSet_19 : decode y_CF_isSet.2.2.1 19 = .ok (.iconst 0, 1) := mj_d (q := (19, .iconst 0, 1)) k_CF_isSet 9 rfl
theorem d_CF_isSet_20 : decode y_CF_isSet.2.2.1 20 = .ok (.ireturn, 1) := mj_d (q := (20, .ireturn, 1)) k_CF_isSet 10 rfl
theorem d_CF_has_0 : decode y_CF_has.2.2.1 0 = .ok (.aload_n 0, 1) := mj_d (q := (0, .aload_n 0, 1)) k_CF_has 0 rfl
theorem d_CF_has_1 : decode y_CF_has.2.2.1 1 = .ok (.iload_n 1, 1) := mj_d (q := (1, .iload_n 1, 1)) k_CF_has 1 rfl
theorem d_CF_has_2 : decode y_CF_has.2.2.1 2 = .ok (.invokevirtual 104, 3) := mj_d (q := (2, .invokevirtual 104, 3)) k_CF_has 2 rfl
theorem d_CF_has_5 : decode y_CF_has.2.2.1 5 = .ok (.ifCond .ne 11, 3) := mj_d (q := (5, .ifCond .ne 11, 3)) k_CF_has 3 rfl
theorem d_CF_has_8 : decode y_CF_has.2.2.1 8 = .ok (.new 107, 3) := mj_d (q := (8, .new 107, 3)) k_CF_has 4 rfl
theorem d_CF_has_11 : decode y_CF_has.2.2.1 11 = .ok (.dup, 1) := mj_d (q := (11, .dup, 1)) k_CF_has 5 rfl
theorem d_CF_has_12 : decode y_CF_has.2.2.1 12 = .ok (.invokespecial 109, 3) := mj_d (q := (12, .invokespecial 109, 3)) k_CF_has 6 rfl
theorem d_CF_has_15 : decode y_CF_has.2.2.1 15 = .ok (.athrow, 1) := mj_d (q := (15, .athrow, 1)) k_CF_has 7 rfl
theorem d_CF_has_16 : decode y_CF_has.2.2.1 16 = .ok (.iload_n 2, 1) := mj_d (q := (16, .iload_n 2, 1)) k_CF_has 8 rfl
theorem d_CF_has_17 : decode y_CF_has.2.2.1 17 = .ok (.iconst (-1), 1) := mj_d (q := (17, .iconst (-1), 1)) k_CF_has 9 rfl
theorem d_CF_has_18 : decode y_CF_has.2.2.1 18 = .ok (.if_icmp .lt 32, 3) := mj_d (q := (18, .if_icmp .lt 32, 3)) k_CF_has 10 rfl
theorem d_CF_has_21 : decode y_CF_has.2.2.1 21 = .ok (.iload_n 2, 1) := mj_d (q := (21, .iload_n 2, 1)) k_CF_has 11 rfl
theorem d_CF_has_22 : decode y_CF_has.2.2.1 22 = .ok (.aload_n 0, 1) := mj_d (q := (22, .aload_n 0, 1)) k_CF_has 12 rfl
theorem d_CF_has_23 : decode y_CF_has.2.2.1 23 = .ok (.getfield 12, 3) := mj_d (q := (23, .getfield 12, 3)) k_CF_has 13 rfl
theorem d_CF_has_26 : decode y_CF_has.2.2.1 26 = .ok (.getfield 55, 3) := mj_d (q := (26, .getfield 55, 3)) k_CF_has 14 rfl
theorem d_CF_has_29 : decode y_CF_has.2.2.1 29 = .ok (.if_icmp .ge 21, 3) := mj_d (q := (29, .if_icmp .ge 21, 3)) k_CF_has 15 rfl
theorem d_CF_has_32 : decode y_CF_has.2.2.1 32 = .ok (.iload_n 3, 1) := mj_d (q := (32, .iload_n 3, 1)) k_CF_has 16 rfl
theorem d_CF_has_33 : decode y_CF_has.2.2.1 33 = .ok (.ifCond .lt 17, 3) := mj_d (q := (33, .ifCond .lt 17, 3)) k_CF_has 17 rfl
theorem d_CF_has_36 : decode y_CF_has.2.2.1 36 = .ok (.iload_n 3, 1) := mj_d (q := (36, .iload_n 3, 1)) k_CF_has 18 rfl
theorem d_CF_has_37 : decode y_CF_has.2.2.1 37 = .ok (.iconst 4, 1) := mj_d (q := (37, .iconst 4, 1)) k_CF_has 19 rfl
theorem d_CF_has_38 : decode y_CF_has.2.2.1 38 = .ok (.if_icmp .ge 12, 3) := mj_d (q := (38, .if_icmp .ge 12, 3)) k_CF_has 20 rfl
theorem d_CF_has_41 : decode y_CF_has.2.2.1 41 = .ok (.aload_n 0, 1) := mj_d (q := (41, .aload_n 0, 1)) k_CF_has 21 rfl
theorem d_CF_has_42 : decode y_CF_has.2.2.1 42 = .ok (.iload 4, 2) := mj_d (q := (42, .iload 4, 2)) k_CF_has 22 rfl
theorem d_CF_has_44 : decode y_CF_has.2.2.1 44 = .ok (.invokevirtual 104, 3) := mj_d (q := (44, .invokevirtual 104, 3)) k_CF_has 23 rfl
theorem d_CF_has_47 : decode y_CF_has.2.2.1 47 = .ok (.ifCond .ne 5, 3) := mj_d (q := (47, .ifCond .ne 5, 3)) k_CF_has 24 rfl
theorem d_CF_has_50 : decode y_CF_has.2.2.1 50 = .ok (.iconst 0, 1) := mj_d (q := (50, .iconst 0, 1)) k_CF_has 25 rfl
theorem d_CF_has_51 : decode y_CF_has.2.2.1 51 = .ok (.ireturn, 1) := mj_d (q := (51, .ireturn, 1)) k_CF_has 26 rfl
theorem d_CF_has_52 : decode y_CF_has.2.2.1 52 = .ok (.aload_n 0, 1) := mj_d (q := (52, .aload_n 0, 1)) k_CF_has 27 rfl
theorem d_CF_has_53 : decode y_CF_has.2.2.1 53 = .ok (.getfield 28, 3) := mj_d (q := (53, .getfield 28, 3)) k_CF_has 28 rfl
theorem d_CF_has_56 : decode y_CF_has.2.2.1 56 = .ok (.iload_n 1, 1) := mj_d (q := (56, .iload_n 1, 1)) k_CF_has 29 rfl
theorem d_CF_has_57 : decode y_CF_has.2.2.1 57 = .ok (.iload_n 2, 1) := mj_d (q := (57, .iload_n 2, 1)) k_CF_has 30 rfl
theorem d_CF_has_58 : decode y_CF_has.2.2.1 58 = .ok (.iload_n 3, 1) := mj_d (q := (58, .iload_n 3, 1)) k_CF_has 31 rfl
theorem d_CF_has_59 : decode y_CF_has.2.2.1 59 = .ok (.invokestatic 96, 3) := mj_d (q := (59, .invokestatic 96, 3)) k_CF_has 32 rfl
theorem d_CF_has_62 : decode y_CF_has.2.2.1 62 = .ok (.iload 4, 2) := mj_d (q := (62, .iload 4, 2)) k_CF_has 33 rfl
theorem d_CF_has_64 : decode y_CF_has.2.2.1 64 = .ok (.invokevirtual 100, 3) := mj_d (q := (64, .invokevirtual 100, 3)) k_CF_has 34 rfl
theorem d_CF_has_67 : decode y_CF_has.2.2.1 67 = .ok (.ireturn, 1) := mj_d (q := (67, .ireturn, 1)) k_CF_has 35 rfl
theorem d_CF_leap_0 : decode y_CF_leap.2.2.1 0 = .ok (.aload_n 0, 1) := mj_d (q := (0, .aload_n 0, 1)) k_CF_leap 0 rfl
theorem d_CF_leap_1 : decode y_CF_leap.2.2.1 1 = .ok (.iload_n 1, 1) := mj_d (q := (1, .iload_n 1, 1)) k_CF_leap 1 rfl
theorem d_CF_leap_2 : decode y_CF_leap.2.2.1 2 = .ok (.invokevirtual 104, 3) := mj_d (q := (2, .invokevirtual 104, 3)) k_CF_leap 2 rfl
theorem d_CF_leap_5 : decode y_CF_leap.2.2.1 5 = .ok (.ifCond .eq 10, 3) := mj_d (q := (5, .ifCond .eq 10, 3)) k_CF_leap 3 rfl
theorem d_CF_leap_8 : decode y_CF_leap.2.2.1 8 = .ok (.iload_n 2, 1) := mj_d (q := (8, .iload_n 2, 1)) k_CF_leap 4 rfl
theorem d_CF_leap_9 : decode y_CF_leap.2.2.1 9 = .ok (.invokestatic 44, 3) := mj_d (q := (9, .invokestatic 44, 3)) k_CF_leap 5 rfl
theorem d_CF_leap_12 : decode y_CF_leap.2.2.1 12 = .ok (.ifCond .ne 11, 3) := mj_d (q := (12, .ifCond .ne 11, 3)) k_CF_leap 6 rfl
theorem d_CF_leap_15 : decode y_CF_leap.2.2.1 15 = .ok (.new 107, 3) := mj_d (q := (15, .new 107, 3)) k_CF_leap 7 rfl
theorem d_CF_leap_18 : decode y_CF_leap.2.2.1 18 = .ok (.dup, 1) := mj_d (q := (18, .dup, 1)) k_CF_leap 8 rfl
theorem d_CF_leap_19 : decode y_CF_leap.2.2.1 19 = .ok (.invokespecial 109, 3) := mj_d (q := (19, .invokespecial 109, 3)) k_CF_leap 9 rfl
theorem d_CF_leap_22 : decode y_CF_leap.2.2.1 22 = .ok (.athrow, 1) := mj_d (q := (22, .athrow, 1)) k_CF_leap 10 rfl
theorem d_CF_leap_23 : decode y_CF_leap.2.2.1 23 = .ok (.iload_n 1, 1) := mj_d (q := (23, .iload_n 1, 1)) k_CF_leap 11 rfl
theorem d_CF_leap_24 : decode y_CF_leap.2.2.1 24 = .ok (.aload_n 0, 1) := mj_d (q := (24, .aload_n 0, 1)) k_CF_leap 12 rfl
theorem d_CF_leap_25 : decode y_CF_leap.2.2.1 25 = .ok (.getfield 19, 3) := mj_d (q := (25, .getfield 19, 3)) k_CF_leap 13 rfl
theorem d_CF_leap_28 : decode y_CF_leap.2.2.1 28 = .ok (.getfield 59, 3) := mj_d (q := (28, .getfield 59, 3)) k_CF_leap 14 rfl
theorem d_CF_leap_31 : decode y_CF_leap.2.2.1 31 = .ok (.if_icmp .ne 5, 3) := mj_d (q := (31, .if_icmp .ne 5, 3)) k_CF_leap 15 rfl
theorem d_CF_leap_34 : decode y_CF_leap.2.2.1 34 = .ok (.iconst (-1), 1) := mj_d (q := (34, .iconst (-1), 1)) k_CF_leap 16 rfl
theorem d_CF_leap_35 : decode y_CF_leap.2.2.1 35 = .ok (.ireturn, 1) := mj_d (q := (35, .ireturn, 1)) k_CF_leap 17 rfl
theorem d_CF_leap_36 : decode y_CF_leap.2.2.1 36 = .ok (.aload_n 0, 1) := mj_d (q := (36, .aload_n 0, 1)) k_CF_leap 18 rfl
theorem d_CF_leap_37 : decode y_CF_leap.2.2.1 37 = .ok (.getfield 28, 3) := mj_d (q := (37, .getfield 28, 3)) k_CF_leap 19 rfl
theorem d_CF_leap_40 : decode y_CF_leap.2.2.1 40 = .ok (.iload_n 1, 1) := mj_d (q := (40, .iload_n 1, 1)) k_CF_leap 20 rfl
theorem d_CF_leap_41 : decode y_CF_leap.2.2.1 41 = .ok (.iload_n 2, 1) := mj_d (q := (41, .iload_n 2, 1)) k_CF_leap 21 rfl
theorem d_CF_leap_42 : decode y_CF_leap.2.2.1 42 = .ok (.invokevirtual 110, 3) := mj_d (q := (42, .invokevirtual 110, 3)) k_CF_leap 22 rfl
theorem d_CF_leap_45 : decode y_CF_leap.2.2.1 45 = .ok (.ireturn, 1) := mj_d (q := (45, .ireturn, 1)) k_CF_leap 23 rfl
theorem d_Ch_writtenLeap_0 : decode y_Ch_writtenLeap.2.2.1 0 = .ok (.aload_n 0, 1) := mj_d (q := (0, .aload_n 0, 1)) k_Ch_writtenLeap 0 rfl
theorem d_Ch_writtenLeap_1 : decode y_Ch_writtenLeap.2.2.1 1 = .ok (.getfield 20, 3) := mj_d (q := (1, .getfield 20, 3)) k_Ch_writtenLeap 1 rfl
theorem d_Ch_writtenLeap_4 : decode y_Ch_writtenLeap.2.2.1 4 = .ok (.iload_n 1, 1) := mj_d (q := (4, .iload_n 1, 1)) k_Ch_writtenLeap 2 rfl
theorem d_Ch_writtenLeap_5 : decode y_Ch_writtenLeap.2.2.1 5 = .ok (.aaload, 1) := mj_d (q := (5, .aaload, 1)) k_Ch_writtenLeap 3 rfl
theorem d_Ch_writtenLeap_6 : decode y_Ch_writtenLeap.2.2.1 6 = .ok (.iload_n 2, 1) := mj_d (q := (6, .iload_n 2, 1)) k_Ch_writtenLeap 4 rfl
theorem d_Ch_writtenLeap_7 : decode y_Ch_writtenLeap.2.2.1 7 = .ok (.iaload, 1) := mj_d (q := (7, .iaload, 1)) k_Ch_writtenLeap 5 rfl
theorem d_Ch_writtenLeap_8 : decode y_Ch_writtenLeap.2.2.1 8 = .ok (.istore_n 3, 1) := mj_d (q := (8, .istore_n 3, 1)) k_Ch_writtenLeap 6 rfl
theorem d_Ch_writtenLeap_9 : decode y_Ch_writtenLeap.2.2.1 9 = .ok (.iload_n 3, 1) := mj_d (q := (9, .iload_n 3, 1)) k_Ch_writtenLeap 7 rfl
theorem d_Ch_writtenLeap_10 : decode y_Ch_writtenLeap.2.2.1 10 = .ok (.iconst (-1), 1) := mj_d (q := (10, .iconst (-1), 1)) k_Ch_writtenLeap 8 rfl
theorem d_Ch_writtenLeap_11 : decode y_Ch_writtenLeap.2.2.1 11 = .ok (.if_icmp .ne 5, 3) := mj_d (q := (11, .if_icmp .ne 5, 3)) k_Ch_writtenLeap 9 rfl
theorem d_Ch_writtenLeap_14 : decode y_Ch_writtenLeap.2.2.1 14 = .ok (.iconst (-1), 1) := mj_d (q := (14, .iconst (-1), 1)) k_Ch_writtenLeap 10 rfl
theorem d_Ch_writtenLeap_15 : decode y_Ch_writtenLeap.2.2.1 15 = .ok (.ireturn, 1) := mj_d (q := (15, .ireturn, 1)) k_Ch_writtenLeap 11 rfl
theorem d_Ch_writtenLeap_16 : decode y_Ch_writtenLeap.2.2.1 16 = .ok (.iload_n 3, 1) := mj_d (q := (16, .iload_n 3, 1)) k_Ch_writtenLeap 12 rfl
theorem d_Ch_writtenLeap_17 : decode y_Ch_writtenLeap.2.2.1 17 = .ok (.bipush 13, 2) := mj_d (q := (17, .bipush 13, 2)) k_Ch_writtenLeap 13 rfl
theorem d_Ch_writtenLeap_19 : decode y_Ch_writtenLeap.2.2.1 19 = .ok (.idiv, 1) := mj_d (q := (19, .idiv, 1)) k_Ch_writtenLeap 14 rfl
theorem d_Ch_writtenLeap_20 : decode y_Ch_writtenLeap.2.2.1 20 = .ok (.istore 4, 2) := mj_d (q := (20, .istore 4, 2)) k_Ch_writtenLeap 15 rfl
theorem d_Ch_writtenLeap_22 : decode y_Ch_writtenLeap.2.2.1 22 = .ok (.sipush 1000, 3) := mj_d (q := (22, .sipush 1000, 3)) k_Ch_writtenLeap 16 rfl
theorem d_Ch_writtenLeap_25 : decode y_Ch_writtenLeap.2.2.1 25 = .ok (.iload 4, 2) := mj_d (q := (25, .iload 4, 2)) k_Ch_writtenLeap 17 rfl
theorem d_Ch_writtenLeap_27 : decode y_Ch_writtenLeap.2.2.1 27 = .ok (.iconst 4, 1) := mj_d (q := (27, .iconst 4, 1)) k_Ch_writtenLeap 18 rfl
theorem d_Ch_writtenLeap_28 : decode y_Ch_writtenLeap.2.2.1 28 = .ok (.idiv, 1) := mj_d (q := (28, .idiv, 1)) k_Ch_writtenLeap 19 rfl
theorem d_Ch_writtenLeap_29 : decode y_Ch_writtenLeap.2.2.1 29 = .ok (.imul, 1) := mj_d (q := (29, .imul, 1)) k_Ch_writtenLeap 20 rfl
theorem d_Ch_writtenLeap_30 : decode y_Ch_writtenLeap.2.2.1 30 = .ok (.bipush 100, 2) := mj_d (q := (30, .bipush 100, 2)) k_Ch_writtenLeap 21 rfl
theorem d_Ch_writtenLeap_32 : decode y_Ch_writtenLeap.2.2.1 32 = .ok (.iload 4, 2) := mj_d (q := (32, .iload 4, 2)) k_Ch_writtenLeap 22 rfl
theorem d_Ch_writtenLeap_34 : decode y_Ch_writtenLeap.2.2.1 34 = .ok (.iconst 4, 1) := mj_d (q := (34, .iconst 4, 1)) k_Ch_writtenLeap 23 rfl
theorem d_Ch_writtenLeap_35 : decode y_Ch_writtenLeap.2.2.1 35 = .ok (.irem, 1) := mj_d (q := (35, .irem, 1)) k_Ch_writtenLeap 24 rfl
theorem d_Ch_writtenLeap_36 : decode y_Ch_writtenLeap.2.2.1 36 = .ok (.imul, 1) := mj_d (q := (36, .imul, 1)) k_Ch_writtenLeap 25 rfl
theorem d_Ch_writtenLeap_37 : decode y_Ch_writtenLeap.2.2.1 37 = .ok (.iadd, 1) := mj_d (q := (37, .iadd, 1)) k_Ch_writtenLeap 26 rfl
theorem d_Ch_writtenLeap_38 : decode y_Ch_writtenLeap.2.2.1 38 = .ok (.iload_n 3, 1) := mj_d (q := (38, .iload_n 3, 1)) k_Ch_writtenLeap 27 rfl
theorem d_Ch_writtenLeap_39 : decode y_Ch_writtenLeap.2.2.1 39 = .ok (.bipush 13, 2) := mj_d (q := (39, .bipush 13, 2)) k_Ch_writtenLeap 28 rfl
theorem d_Ch_writtenLeap_41 : decode y_Ch_writtenLeap.2.2.1 41 = .ok (.irem, 1) := mj_d (q := (41, .irem, 1)) k_Ch_writtenLeap 29 rfl
theorem d_Ch_writtenLeap_42 : decode y_Ch_writtenLeap.2.2.1 42 = .ok (.iadd, 1) := mj_d (q := (42, .iadd, 1)) k_Ch_writtenLeap 30 rfl
theorem d_Ch_writtenLeap_43 : decode y_Ch_writtenLeap.2.2.1 43 = .ok (.ireturn, 1) := mj_d (q := (43, .ireturn, 1)) k_Ch_writtenLeap 31 rfl
theorem d_CF_ways_0 : decode y_CF_ways.2.2.1 0 = .ok (.iload_n 1, 1) := mj_d (q := (0, .iload_n 1, 1)) k_CF_ways 0 rfl
theorem d_CF_ways_1 : decode y_CF_ways.2.2.1 1 = .ok (.invokestatic 44, 3) := mj_d (q := (1, .invokestatic 44, 3)) k_CF_ways 1 rfl
theorem d_CF_ways_4 : decode y_CF_ways.2.2.1 4 = .ok (.ifCond .eq 12, 3) := mj_d (q := (4, .ifCond .eq 12, 3)) k_CF_ways 2 rfl
theorem d_CF_ways_7 : decode y_CF_ways.2.2.1 7 = .ok (.aload_n 0, 1) := mj_d (q := (7, .aload_n 0, 1)) k_CF_ways 3 rfl
theorem d_CF_ways_8 : decode y_CF_ways.2.2.1 8 = .ok (.iload_n 2, 1) := mj_d (q := (8, .iload_n 2, 1)) k_CF_ways 4 rfl
theorem d_CF_ways_9 : decode y_CF_ways.2.2.1 9 = .ok (.iload_n 3, 1) := mj_d (q := (9, .iload_n 3, 1)) k_CF_ways 5 rfl
theorem d_CF_ways_10 : decode y_CF_ways.2.2.1 10 = .ok (.invokevirtual 113, 3) := mj_d (q := (10, .invokevirtual 113, 3)) k_CF_ways 6 rfl
theorem d_CF_ways_13 : decode y_CF_ways.2.2.1 13 = .ok (.ifCond .ne 11, 3) := mj_d (q := (13, .ifCond .ne 11, 3)) k_CF_ways 7 rfl
theorem d_CF_ways_16 : decode y_CF_ways.2.2.1 16 = .ok (.new 107, 3) := mj_d (q := (16, .new 107, 3)) k_CF_ways 8 rfl
theorem d_CF_ways_19 : decode y_CF_ways.2.2.1 19 = .ok (.dup, 1) := mj_d (q := (19, .dup, 1)) k_CF_ways 9 rfl
theorem d_CF_ways_20 : decode y_CF_ways.2.2.1 20 = .ok (.invokespecial 109, 3) := mj_d (q := (20, .invokespecial 109, 3)) k_CF_ways 10 rfl
theorem d_CF_ways_23 : decode y_CF_ways.2.2.1 23 = .ok (.athrow, 1) := mj_d (q := (23, .athrow, 1)) k_CF_ways 11 rfl
theorem d_CF_ways_24 : decode y_CF_ways.2.2.1 24 = .ok (.aload_n 0, 1) := mj_d (q := (24, .aload_n 0, 1)) k_CF_ways 12 rfl
theorem d_CF_ways_25 : decode y_CF_ways.2.2.1 25 = .ok (.getfield 37, 3) := mj_d (q := (25, .getfield 37, 3)) k_CF_ways 13 rfl
theorem d_CF_ways_28 : decode y_CF_ways.2.2.1 28 = .ok (.invokevirtual 116, 3) := mj_d (q := (28, .invokevirtual 116, 3)) k_CF_ways 14 rfl
theorem d_CF_ways_31 : decode y_CF_ways.2.2.1 31 = .ok (.aload_n 0, 1) := mj_d (q := (31, .aload_n 0, 1)) k_CF_ways 15 rfl
theorem d_CF_ways_32 : decode y_CF_ways.2.2.1 32 = .ok (.getfield 37, 3) := mj_d (q := (32, .getfield 37, 3)) k_CF_ways 16 rfl
theorem d_CF_ways_35 : decode y_CF_ways.2.2.1 35 = .ok (.iload_n 1, 1) := mj_d (q := (35, .iload_n 1, 1)) k_CF_ways 17 rfl
theorem d_CF_ways_36 : decode y_CF_ways.2.2.1 36 = .ok (.iload_n 2, 1) := mj_d (q := (36, .iload_n 2, 1)) k_CF_ways 18 rfl
theorem d_CF_ways_37 : decode y_CF_ways.2.2.1 37 = .ok (.iload_n 3, 1) := mj_d (q := (37, .iload_n 3, 1)) k_CF_ways 19 rfl
theorem d_CF_ways_38 : decode y_CF_ways.2.2.1 38 = .ok (.invokevirtual 119, 3) := mj_d (q := (38, .invokevirtual 119, 3)) k_CF_ways 20 rfl
theorem d_CF_ways_41 : decode y_CF_ways.2.2.1 41 = .ok (.ireturn, 1) := mj_d (q := (41, .ireturn, 1)) k_CF_ways 21 rfl
theorem d_CF_isStretch_0 : decode y_CF_isStretch.2.2.1 0 = .ok (.iload_n 1, 1) := mj_d (q := (0, .iload_n 1, 1)) k_CF_isStretch 0 rfl
theorem d_CF_isStretch_1 : decode y_CF_isStretch.2.2.1 1 = .ok (.ifCond .lt 23, 3) := mj_d (q := (1, .ifCond .lt 23, 3)) k_CF_isStretch 1 rfl
theorem d_CF_isStretch_4 : decode y_CF_isStretch.2.2.1 4 = .ok (.iload_n 1, 1) := mj_d (q := (4, .iload_n 1, 1)) k_CF_isStretch 2 rfl
theorem d_CF_isStretch_5 : decode y_CF_isStretch.2.2.1 5 = .ok (.iload_n 2, 1) := mj_d (q := (5, .iload_n 2, 1)) k_CF_isStretch 3 rfl
theorem d_CF_isStretch_6 : decode y_CF_isStretch.2.2.1 6 = .ok (.if_icmp .gt 18, 3) := mj_d (q := (6, .if_icmp .gt 18, 3)) k_CF_isStretch 4 rfl
theorem d_CF_isStretch_9 : decode y_CF_isStretch.2.2.1 9 = .ok (.iload_n 2, 1) := mj_d (q := (9, .iload_n 2, 1)) k_CF_isStretch 5 rfl
theorem d_CF_isStretch_10 : decode y_CF_isStretch.2.2.1 10 = .ok (.aload_n 0, 1) := mj_d (q := (10, .aload_n 0, 1)) k_CF_isStretch 6 rfl
theorem d_CF_isStretch_11 : decode y_CF_isStretch.2.2.1 11 = .ok (.getfield 19, 3) := mj_d (q := (11, .getfield 19, 3)) k_CF_isStretch 7 rfl
theorem d_CF_isStretch_14 : decode y_CF_isStretch.2.2.1 14 = .ok (.getfield 59, 3) := mj_d (q := (14, .getfield 59, 3)) k_CF_isStretch 8 rfl
theorem d_CF_isStretch_17 : decode y_CF_isStretch.2.2.1 17 = .ok (.if_icmp .gt 7, 3) := mj_d (q := (17, .if_icmp .gt 7, 3)) k_CF_isStretch 9 rfl
theorem d_CF_isStretch_20 : decode y_CF_isStretch.2.2.1 20 = .ok (.iconst 1, 1) := mj_d (q := (20, .iconst 1, 1)) k_CF_isStretch 10 rfl
theorem d_CF_isStretch_21 : decode y_CF_isStretch.2.2.1 21 = .ok (.goto 4, 3) := mj_d (q := (21, .goto 4, 3)) k_CF_isStretch 11 rfl
theorem d_CF_isStretch_24 : decode y_CF_isStretch.2.2.1 24 = .ok (.iconst 0, 1) := mj_d (q := (24, .iconst 0, 1)) k_CF_isStretch 12 rfl
theorem d_CF_isStretch_25 : decode y_CF_isStretch.2.2.1 25 = .ok (.ireturn, 1) := mj_d (q := (25, .ireturn, 1)) k_CF_isStretch 13 rfl
theorem d_Fo_waysOver_0 : decode y_Fo_waysOver.2.2.1 0 = .ok (.aload_n 0, 1) := mj_d (q := (0, .aload_n 0, 1)) k_Fo_waysOver 0 rfl
theorem d_Fo_waysOver_1 : decode y_Fo_waysOver.2.2.1 1 = .ok (.getfield 41, 3) := mj_d (q := (1, .getfield 41, 3)) k_Fo_waysOver 1 rfl
theorem d_Fo_waysOver_4 : decode y_Fo_waysOver.2.2.1 4 = .ok (.iload_n 1, 1) := mj_d (q := (4, .iload_n 1, 1)) k_Fo_waysOver 2 rfl
theorem d_Fo_waysOver_5 : decode y_Fo_waysOver.2.2.1 5 = .ok (.iload_n 2, 1) := mj_d (q := (5, .iload_n 2, 1)) k_Fo_waysOver 3 rfl
theorem d_Fo_waysOver_6 : decode y_Fo_waysOver.2.2.1 6 = .ok (.iload_n 3, 1) := mj_d (q := (6, .iload_n 3, 1)) k_Fo_waysOver 4 rfl
theorem d_Fo_waysOver_7 : decode y_Fo_waysOver.2.2.1 7 = .ok (.invokevirtual 67, 3) := mj_d (q := (7, .invokevirtual 67, 3)) k_Fo_waysOver 5 rfl
theorem d_Fo_waysOver_10 : decode y_Fo_waysOver.2.2.1 10 = .ok (.aload_n 0, 1) := mj_d (q := (10, .aload_n 0, 1)) k_Fo_waysOver 6 rfl
theorem d_Fo_waysOver_11 : decode y_Fo_waysOver.2.2.1 11 = .ok (.getfield 41, 3) := mj_d (q := (11, .getfield 41, 3)) k_Fo_waysOver 7 rfl
theorem d_Fo_waysOver_14 : decode y_Fo_waysOver.2.2.1 14 = .ok (.getfield 71, 3) := mj_d (q := (14, .getfield 71, 3)) k_Fo_waysOver 8 rfl
theorem d_Fo_waysOver_17 : decode y_Fo_waysOver.2.2.1 17 = .ok (.ireturn, 1) := mj_d (q := (17, .ireturn, 1)) k_Fo_waysOver 9 rfl
theorem d_CF_trees_0 : decode y_CF_trees.2.2.1 0 = .ok (.iload_n 1, 1) := mj_d (q := (0, .iload_n 1, 1)) k_CF_trees 0 rfl
theorem d_CF_trees_1 : decode y_CF_trees.2.2.1 1 = .ok (.invokestatic 44, 3) := mj_d (q := (1, .invokestatic 44, 3)) k_CF_trees 1 rfl
theorem d_CF_trees_4 : decode y_CF_trees.2.2.1 4 = .ok (.ifCond .eq 12, 3) := mj_d (q := (4, .ifCond .eq 12, 3)) k_CF_trees 2 rfl
theorem d_CF_trees_7 : decode y_CF_trees.2.2.1 7 = .ok (.aload_n 0, 1) := mj_d (q := (7, .aload_n 0, 1)) k_CF_trees 3 rfl
theorem d_CF_trees_8 : decode y_CF_trees.2.2.1 8 = .ok (.iload_n 2, 1) := mj_d (q := (8, .iload_n 2, 1)) k_CF_trees 4 rfl
theorem d_CF_trees_9 : decode y_CF_trees.2.2.1 9 = .ok (.iload_n 3, 1) := mj_d (q := (9, .iload_n 3, 1)) k_CF_trees 5 rfl
theorem d_CF_trees_10 : decode y_CF_trees.2.2.1 10 = .ok (.invokevirtual 113, 3) := mj_d (q := (10, .invokevirtual 113, 3)) k_CF_trees 6 rfl
theorem d_CF_trees_13 : decode y_CF_trees.2.2.1 13 = .ok (.ifCond .ne 11, 3) := mj_d (q := (13, .ifCond .ne 11, 3)) k_CF_trees 7 rfl
theorem d_CF_trees_16 : decode y_CF_trees.2.2.1 16 = .ok (.new 107, 3) := mj_d (q := (16, .new 107, 3)) k_CF_trees 8 rfl
theorem d_CF_trees_19 : decode y_CF_trees.2.2.1 19 = .ok (.dup, 1) := mj_d (q := (19, .dup, 1)) k_CF_trees 9 rfl
theorem d_CF_trees_20 : decode y_CF_trees.2.2.1 20 = .ok (.invokespecial 109, 3) := mj_d (q := (20, .invokespecial 109, 3)) k_CF_trees 10 rfl
theorem d_CF_trees_23 : decode y_CF_trees.2.2.1 23 = .ok (.athrow, 1) := mj_d (q := (23, .athrow, 1)) k_CF_trees 11 rfl
theorem d_CF_trees_24 : decode y_CF_trees.2.2.1 24 = .ok (.aload_n 0, 1) := mj_d (q := (24, .aload_n 0, 1)) k_CF_trees 12 rfl
theorem d_CF_trees_25 : decode y_CF_trees.2.2.1 25 = .ok (.getfield 37, 3) := mj_d (q := (25, .getfield 37, 3)) k_CF_trees 13 rfl
theorem d_CF_trees_28 : decode y_CF_trees.2.2.1 28 = .ok (.invokevirtual 116, 3) := mj_d (q := (28, .invokevirtual 116, 3)) k_CF_trees 14 rfl
theorem d_CF_trees_31 : decode y_CF_trees.2.2.1 31 = .ok (.aload_n 0, 1) := mj_d (q := (31, .aload_n 0, 1)) k_CF_trees 15 rfl
theorem d_CF_trees_32 : decode y_CF_trees.2.2.1 32 = .ok (.getfield 37, 3) := mj_d (q := (32, .getfield 37, 3)) k_CF_trees 16 rfl
theorem d_CF_trees_35 : decode y_CF_trees.2.2.1 35 = .ok (.iload_n 1, 1) := mj_d (q := (35, .iload_n 1, 1)) k_CF_trees 17 rfl
theorem d_CF_trees_36 : decode y_CF_trees.2.2.1 36 = .ok (.iload_n 2, 1) := mj_d (q := (36, .iload_n 2, 1)) k_CF_trees 18 rfl
theorem d_CF_trees_37 : decode y_CF_trees.2.2.1 37 = .ok (.iload_n 3, 1) := mj_d (q := (37, .iload_n 3, 1)) k_CF_trees 19 rfl
theorem d_CF_trees_38 : decode y_CF_trees.2.2.1 38 = .ok (.invokevirtual 123, 3) := mj_d (q := (38, .invokevirtual 123, 3)) k_CF_trees 20 rfl
theorem d_CF_trees_41 : decode y_CF_trees.2.2.1 41 = .ok (.lreturn, 1) := mj_d (q := (41, .lreturn, 1)) k_CF_trees 21 rfl
theorem d_CF_tree_0 : decode y_CF_tree.2.2.1 0 = .ok (.aload_n 0, 1) := mj_d (q := (0, .aload_n 0, 1)) k_CF_tree 0 rfl
theorem d_CF_tree_1 : decode y_CF_tree.2.2.1 1 = .ok (.getfield 37, 3) := mj_d (q := (1, .getfield 37, 3)) k_CF_tree 1 rfl
theorem d_CF_tree_4 : decode y_CF_tree.2.2.1 4 = .ok (.invokevirtual 116, 3) := mj_d (q := (4, .invokevirtual 116, 3)) k_CF_tree 2 rfl
theorem d_CF_tree_7 : decode y_CF_tree.2.2.1 7 = .ok (.aload_n 0, 1) := mj_d (q := (7, .aload_n 0, 1)) k_CF_tree 3 rfl
theorem d_CF_tree_8 : decode y_CF_tree.2.2.1 8 = .ok (.getfield 37, 3) := mj_d (q := (8, .getfield 37, 3)) k_CF_tree 4 rfl
theorem d_CF_tree_11 : decode y_CF_tree.2.2.1 11 = .ok (.iconst 0, 1) := mj_d (q := (11, .iconst 0, 1)) k_CF_tree 5 rfl
theorem d_CF_tree_12 : decode y_CF_tree.2.2.1 12 = .ok (.iconst 0, 1) := mj_d (q := (12, .iconst 0, 1)) k_CF_tree 6 rfl
theorem d_CF_tree_13 : decode y_CF_tree.2.2.1 13 = .ok (.aload_n 0, 1) := mj_d (q := (13, .aload_n 0, 1)) k_CF_tree 7 rfl
theorem d_CF_tree_14 : decode y_CF_tree.2.2.1 14 = .ok (.getfield 19, 3) := mj_d (q := (14, .getfield 19, 3)) k_CF_tree 8 rfl
theorem d_CF_tree_17 : decode y_CF_tree.2.2.1 17 = .ok (.getfield 59, 3) := mj_d (q := (17, .getfield 59, 3)) k_CF_tree 9 rfl
theorem d_CF_tree_20 : decode y_CF_tree.2.2.1 20 = .ok (.invokevirtual 123, 3) := mj_d (q := (20, .invokevirtual 123, 3)) k_CF_tree 10 rfl
theorem d_CF_tree_23 : decode y_CF_tree.2.2.1 23 = .ok (.lstore 4, 2) := mj_d (q := (23, .lstore 4, 2)) k_CF_tree 11 rfl
theorem d_CF_tree_25 : decode y_CF_tree.2.2.1 25 = .ok (.lload 4, 2) := mj_d (q := (25, .lload 4, 2)) k_CF_tree 12 rfl
theorem d_CF_tree_27 : decode y_CF_tree.2.2.1 27 = .ok (.ldc2_w 131, 3) := mj_d (q := (27, .ldc2_w 131, 3)) k_CF_tree 13 rfl
theorem d_CF_tree_30 : decode y_CF_tree.2.2.1 30 = .ok (.lcmp, 1) := mj_d (q := (30, .lcmp, 1)) k_CF_tree 14 rfl
theorem d_CF_tree_31 : decode y_CF_tree.2.2.1 31 = .ok (.ifCond .ge 20, 3) := mj_d (q := (31, .ifCond .ge 20, 3)) k_CF_tree 15 rfl
theorem d_CF_tree_34 : decode y_CF_tree.2.2.1 34 = .ok (.lload_n 1, 1) := mj_d (q := (34, .lload_n 1, 1)) k_CF_tree 16 rfl
theorem d_CF_tree_35 : decode y_CF_tree.2.2.1 35 = .ok (.lconst 0, 1) := mj_d (q := (35, .lconst 0, 1)) k_CF_tree 17 rfl
theorem d_CF_tree_36 : decode y_CF_tree.2.2.1 36 = .ok (.lcmp, 1) := mj_d (q := (36, .lcmp, 1)) k_CF_tree 18 rfl
theorem d_CF_tree_37 : decode y_CF_tree.2.2.1 37 = .ok (.ifCond .lt 14, 3) := mj_d (q := (37, .ifCond .lt 14, 3)) k_CF_tree 19 rfl
theorem d_CF_tree_40 : decode y_CF_tree.2.2.1 40 = .ok (.lload_n 1, 1) := mj_d (q := (40, .lload_n 1, 1)) k_CF_tree 20 rfl
theorem d_CF_tree_41 : decode y_CF_tree.2.2.1 41 = .ok (.lload 4, 2) := mj_d (q := (41, .lload 4, 2)) k_CF_tree 21 rfl
theorem d_CF_tree_43 : decode y_CF_tree.2.2.1 43 = .ok (.lcmp, 1) := mj_d (q := (43, .lcmp, 1)) k_CF_tree 22 rfl
theorem d_CF_tree_44 : decode y_CF_tree.2.2.1 44 = .ok (.ifCond .ge 7, 3) := mj_d (q := (44, .ifCond .ge 7, 3)) k_CF_tree 23 rfl
theorem d_CF_tree_47 : decode y_CF_tree.2.2.1 47 = .ok (.iload_n 3, 1) := mj_d (q := (47, .iload_n 3, 1)) k_CF_tree 24 rfl
theorem d_CF_tree_48 : decode y_CF_tree.2.2.1 48 = .ok (.ifCond .ge 11, 3) := mj_d (q := (48, .ifCond .ge 11, 3)) k_CF_tree 25 rfl
theorem d_CF_tree_51 : decode y_CF_tree.2.2.1 51 = .ok (.new 83, 3) := mj_d (q := (51, .new 83, 3)) k_CF_tree 26 rfl
theorem d_CF_tree_54 : decode y_CF_tree.2.2.1 54 = .ok (.dup, 1) := mj_d (q := (54, .dup, 1)) k_CF_tree 27 rfl
theorem d_CF_tree_55 : decode y_CF_tree.2.2.1 55 = .ok (.invokespecial 85, 3) := mj_d (q := (55, .invokespecial 85, 3)) k_CF_tree 28 rfl
theorem d_CF_tree_58 : decode y_CF_tree.2.2.1 58 = .ok (.athrow, 1) := mj_d (q := (58, .athrow, 1)) k_CF_tree 29 rfl
theorem d_CF_tree_59 : decode y_CF_tree.2.2.1 59 = .ok (.aload_n 0, 1) := mj_d (q := (59, .aload_n 0, 1)) k_CF_tree 30 rfl
theorem d_CF_tree_60 : decode y_CF_tree.2.2.1 60 = .ok (.getfield 37, 3) := mj_d (q := (60, .getfield 37, 3)) k_CF_tree 31 rfl
theorem d_CF_tree_63 : decode y_CF_tree.2.2.1 63 = .ok (.lload_n 1, 1) := mj_d (q := (63, .lload_n 1, 1)) k_CF_tree 32 rfl
theorem d_CF_tree_64 : decode y_CF_tree.2.2.1 64 = .ok (.iload_n 3, 1) := mj_d (q := (64, .iload_n 3, 1)) k_CF_tree 33 rfl
theorem d_CF_tree_65 : decode y_CF_tree.2.2.1 65 = .ok (.invokevirtual 133, 3) := mj_d (q := (65, .invokevirtual 133, 3)) k_CF_tree 34 rfl
theorem d_CF_tree_68 : decode y_CF_tree.2.2.1 68 = .ok (.istore 6, 2) := mj_d (q := (68, .istore 6, 2)) k_CF_tree 35 rfl
theorem d_CF_tree_70 : decode y_CF_tree.2.2.1 70 = .ok (.iload 6, 2) := mj_d (q := (70, .iload 6, 2)) k_CF_tree 36 rfl
theorem d_CF_tree_72 : decode y_CF_tree.2.2.1 72 = .ok (.iconst (-1), 1) := mj_d (q := (72, .iconst (-1), 1)) k_CF_tree 37 rfl
theorem d_CF_tree_73 : decode y_CF_tree.2.2.1 73 = .ok (.if_icmp .ne 11, 3) := mj_d (q := (73, .if_icmp .ne 11, 3)) k_CF_tree 38 rfl
theorem d_CF_tree_76 : decode y_CF_tree.2.2.1 76 = .ok (.new 83, 3) := mj_d (q := (76, .new 83, 3)) k_CF_tree 39 rfl
theorem d_CF_tree_79 : decode y_CF_tree.2.2.1 79 = .ok (.dup, 1) := mj_d (q := (79, .dup, 1)) k_CF_tree 40 rfl
theorem d_CF_tree_80 : decode y_CF_tree.2.2.1 80 = .ok (.invokespecial 85, 3) := mj_d (q := (80, .invokespecial 85, 3)) k_CF_tree 41 rfl
theorem d_CF_tree_83 : decode y_CF_tree.2.2.1 83 = .ok (.athrow, 1) := mj_d (q := (83, .athrow, 1)) k_CF_tree 42 rfl
theorem d_CF_tree_84 : decode y_CF_tree.2.2.1 84 = .ok (.iload 6, 2) := mj_d (q := (84, .iload 6, 2)) k_CF_tree 43 rfl
theorem d_CF_tree_86 : decode y_CF_tree.2.2.1 86 = .ok (.ireturn, 1) := mj_d (q := (86, .ireturn, 1)) k_CF_tree 44 rfl
theorem d_Fo_ruleAt_0 : decode y_Fo_ruleAt.2.2.1 0 = .ok (.aload_n 0, 1) := mj_d (q := (0, .aload_n 0, 1)) k_Fo_ruleAt 0 rfl
theorem d_Fo_ruleAt_1 : decode y_Fo_ruleAt.2.2.1 1 = .ok (.iconst 0, 1) := mj_d (q := (1, .iconst 0, 1)) k_Fo_ruleAt 1 rfl
theorem d_Fo_ruleAt_2 : decode y_Fo_ruleAt.2.2.1 2 = .ok (.putfield 91, 3) := mj_d (q := (2, .putfield 91, 3)) k_Fo_ruleAt 2 rfl
theorem d_Fo_ruleAt_5 : decode y_Fo_ruleAt.2.2.1 5 = .ok (.aload_n 0, 1) := mj_d (q := (5, .aload_n 0, 1)) k_Fo_ruleAt 3 rfl
theorem d_Fo_ruleAt_6 : decode y_Fo_ruleAt.2.2.1 6 = .ok (.iconst 0, 1) := mj_d (q := (6, .iconst 0, 1)) k_Fo_ruleAt 4 rfl
theorem d_Fo_ruleAt_7 : decode y_Fo_ruleAt.2.2.1 7 = .ok (.iconst 0, 1) := mj_d (q := (7, .iconst 0, 1)) k_Fo_ruleAt 5 rfl
theorem d_Fo_ruleAt_8 : decode y_Fo_ruleAt.2.2.1 8 = .ok (.aload_n 0, 1) := mj_d (q := (8, .aload_n 0, 1)) k_Fo_ruleAt 6 rfl
theorem d_Fo_ruleAt_9 : decode y_Fo_ruleAt.2.2.1 9 = .ok (.getfield 23, 3) := mj_d (q := (9, .getfield 23, 3)) k_Fo_ruleAt 7 rfl
theorem d_Fo_ruleAt_12 : decode y_Fo_ruleAt.2.2.1 12 = .ok (.getfield 55, 3) := mj_d (q := (12, .getfield 55, 3)) k_Fo_ruleAt 8 rfl
theorem d_Fo_ruleAt_15 : decode y_Fo_ruleAt.2.2.1 15 = .ok (.invokestatic 81, 3) := mj_d (q := (15, .invokestatic 81, 3)) k_Fo_ruleAt 9 rfl
theorem d_Fo_ruleAt_18 : decode y_Fo_ruleAt.2.2.1 18 = .ok (.lload_n 1, 1) := mj_d (q := (18, .lload_n 1, 1)) k_Fo_ruleAt 10 rfl
theorem d_Fo_ruleAt_19 : decode y_Fo_ruleAt.2.2.1 19 = .ok (.invokevirtual 120, 3) := mj_d (q := (19, .invokevirtual 120, 3)) k_Fo_ruleAt 11 rfl
theorem d_Fo_ruleAt_22 : decode y_Fo_ruleAt.2.2.1 22 = .ok (.iconst 0, 1) := mj_d (q := (22, .iconst 0, 1)) k_Fo_ruleAt 12 rfl
theorem d_Fo_ruleAt_23 : decode y_Fo_ruleAt.2.2.1 23 = .ok (.istore 4, 2) := mj_d (q := (23, .istore 4, 2)) k_Fo_ruleAt 13 rfl
theorem d_Fo_ruleAt_25 : decode y_Fo_ruleAt.2.2.1 25 = .ok (.iload 4, 2) := mj_d (q := (25, .iload 4, 2)) k_Fo_ruleAt 14 rfl
theorem d_Fo_ruleAt_27 : decode y_Fo_ruleAt.2.2.1 27 = .ok (.ldc 124, 2) := mj_d (q := (27, .ldc 124, 2)) k_Fo_ruleAt 15 rfl
theorem d_Fo_ruleAt_29 : decode y_Fo_ruleAt.2.2.1 29 = .ok (.if_icmp .ge 129, 3) := mj_d (q := (29, .if_icmp .ge 129, 3)) k_Fo_ruleAt 16 rfl
theorem d_Fo_ruleAt_32 : decode y_Fo_ruleAt.2.2.1 32 = .ok (.aload_n 0, 1) := mj_d (q := (32, .aload_n 0, 1)) k_Fo_ruleAt 17 rfl
theorem d_Fo_ruleAt_33 : decode y_Fo_ruleAt.2.2.1 33 = .ok (.getfield 91, 3) := mj_d (q := (33, .getfield 91, 3)) k_Fo_ruleAt 18 rfl
theorem d_Fo_ruleAt_36 : decode y_Fo_ruleAt.2.2.1 36 = .ok (.ifCond .le 122, 3) := mj_d (q := (36, .ifCond .le 122, 3)) k_Fo_ruleAt 19 rfl
theorem d_Fo_ruleAt_39 : decode y_Fo_ruleAt.2.2.1 39 = .ok (.aload_n 0, 1) := mj_d (q := (39, .aload_n 0, 1)) k_Fo_ruleAt 20 rfl
theorem d_Fo_ruleAt_40 : decode y_Fo_ruleAt.2.2.1 40 = .ok (.dup, 1) := mj_d (q := (40, .dup, 1)) k_Fo_ruleAt 21 rfl
theorem d_Fo_ruleAt_41 : decode y_Fo_ruleAt.2.2.1 41 = .ok (.getfield 91, 3) := mj_d (q := (41, .getfield 91, 3)) k_Fo_ruleAt 22 rfl
theorem d_Fo_ruleAt_44 : decode y_Fo_ruleAt.2.2.1 44 = .ok (.iconst 1, 1) := mj_d (q := (44, .iconst 1, 1)) k_Fo_ruleAt 23 rfl
theorem d_Fo_ruleAt_45 : decode y_Fo_ruleAt.2.2.1 45 = .ok (.isub, 1) := mj_d (q := (45, .isub, 1)) k_Fo_ruleAt 24 rfl
theorem d_Fo_ruleAt_46 : decode y_Fo_ruleAt.2.2.1 46 = .ok (.putfield 91, 3) := mj_d (q := (46, .putfield 91, 3)) k_Fo_ruleAt 25 rfl
theorem d_Fo_ruleAt_49 : decode y_Fo_ruleAt.2.2.1 49 = .ok (.aload_n 0, 1) := mj_d (q := (49, .aload_n 0, 1)) k_Fo_ruleAt 26 rfl
theorem d_Fo_ruleAt_50 : decode y_Fo_ruleAt.2.2.1 50 = .ok (.getfield 19, 3) := mj_d (q := (50, .getfield 19, 3)) k_Fo_ruleAt 27 rfl
theorem d_Fo_ruleAt_53 : decode y_Fo_ruleAt.2.2.1 53 = .ok (.aload_n 0, 1) := mj_d (q := (53, .aload_n 0, 1)) k_Fo_ruleAt 28 rfl
theorem d_Fo_ruleAt_54 : decode y_Fo_ruleAt.2.2.1 54 = .ok (.getfield 91, 3) := mj_d (q := (54, .getfield 91, 3)) k_Fo_ruleAt 29 rfl
theorem d_Fo_ruleAt_57 : decode y_Fo_ruleAt.2.2.1 57 = .ok (.laload, 1) := mj_d (q := (57, .laload, 1)) k_Fo_ruleAt 30 rfl
theorem d_Fo_ruleAt_58 : decode y_Fo_ruleAt.2.2.1 58 = .ok (.lstore 5, 2) := mj_d (q := (58, .lstore 5, 2)) k_Fo_ruleAt 31 rfl
theorem d_Fo_ruleAt_60 : decode y_Fo_ruleAt.2.2.1 60 = .ok (.aload_n 0, 1) := mj_d (q := (60, .aload_n 0, 1)) k_Fo_ruleAt 32 rfl
theorem d_Fo_ruleAt_61 : decode y_Fo_ruleAt.2.2.1 61 = .ok (.aload_n 0, 1) := mj_d (q := (61, .aload_n 0, 1)) k_Fo_ruleAt 33 rfl
theorem d_Fo_ruleAt_62 : decode y_Fo_ruleAt.2.2.1 62 = .ok (.getfield 9, 3) := mj_d (q := (62, .getfield 9, 3)) k_Fo_ruleAt 34 rfl
theorem d_Fo_ruleAt_65 : decode y_Fo_ruleAt.2.2.1 65 = .ok (.aload_n 0, 1) := mj_d (q := (65, .aload_n 0, 1)) k_Fo_ruleAt 35 rfl
theorem d_Fo_ruleAt_66 : decode y_Fo_ruleAt.2.2.1 66 = .ok (.getfield 91, 3) := mj_d (q := (66, .getfield 91, 3)) k_Fo_ruleAt 36 rfl
theorem d_Fo_ruleAt_69 : decode y_Fo_ruleAt.2.2.1 69 = .ok (.iaload, 1) := mj_d (q := (69, .iaload, 1)) k_Fo_ruleAt 37 rfl
theorem d_Fo_ruleAt_70 : decode y_Fo_ruleAt.2.2.1 70 = .ok (.invokevirtual 101, 3) := mj_d (q := (70, .invokevirtual 101, 3)) k_Fo_ruleAt 38 rfl
theorem d_Fo_ruleAt_73 : decode y_Fo_ruleAt.2.2.1 73 = .ok (.iconst 0, 1) := mj_d (q := (73, .iconst 0, 1)) k_Fo_ruleAt 39 rfl
theorem d_Fo_ruleAt_74 : decode y_Fo_ruleAt.2.2.1 74 = .ok (.istore 7, 2) := mj_d (q := (74, .istore 7, 2)) k_Fo_ruleAt 40 rfl
theorem d_Fo_ruleAt_76 : decode y_Fo_ruleAt.2.2.1 76 = .ok (.iload 7, 2) := mj_d (q := (76, .iload 7, 2)) k_Fo_ruleAt 41 rfl
theorem d_Fo_ruleAt_78 : decode y_Fo_ruleAt.2.2.1 78 = .ok (.aload_n 0, 1) := mj_d (q := (78, .aload_n 0, 1)) k_Fo_ruleAt 42 rfl
theorem d_Fo_ruleAt_79 : decode y_Fo_ruleAt.2.2.1 79 = .ok (.getfield 41, 3) := mj_d (q := (79, .getfield 41, 3)) k_Fo_ruleAt 43 rfl
theorem d_Fo_ruleAt_82 : decode y_Fo_ruleAt.2.2.1 82 = .ok (.getfield 71, 3) := mj_d (q := (82, .getfield 71, 3)) k_Fo_ruleAt 44 rfl
theorem d_Fo_ruleAt_85 : decode y_Fo_ruleAt.2.2.1 85 = .ok (.iconst 1, 1) := mj_d (q := (85, .iconst 1, 1)) k_Fo_ruleAt 45 rfl
theorem d_Fo_ruleAt_86 : decode y_Fo_ruleAt.2.2.1 86 = .ok (.isub, 1) := mj_d (q := (86, .isub, 1)) k_Fo_ruleAt 46 rfl
theorem d_Fo_ruleAt_87 : decode y_Fo_ruleAt.2.2.1 87 = .ok (.if_icmp .ge 40, 3) := mj_d (q := (87, .if_icmp .ge 40, 3)) k_Fo_ruleAt 47 rfl
theorem d_Fo_ruleAt_90 : decode y_Fo_ruleAt.2.2.1 90 = .ok (.lload 5, 2) := mj_d (q := (90, .lload 5, 2)) k_Fo_ruleAt 48 rfl
theorem d_Fo_ruleAt_92 : decode y_Fo_ruleAt.2.2.1 92 = .ok (.aload_n 0, 1) := mj_d (q := (92, .aload_n 0, 1)) k_Fo_ruleAt 49 rfl
theorem d_Fo_ruleAt_93 : decode y_Fo_ruleAt.2.2.1 93 = .ok (.getfield 41, 3) := mj_d (q := (93, .getfield 41, 3)) k_Fo_ruleAt 50 rfl
theorem d_Fo_ruleAt_96 : decode y_Fo_ruleAt.2.2.1 96 = .ok (.getfield 125, 3) := mj_d (q := (96, .getfield 125, 3)) k_Fo_ruleAt 51 rfl
theorem d_Fo_ruleAt_99 : decode y_Fo_ruleAt.2.2.1 99 = .ok (.iload 7, 2) := mj_d (q := (99, .iload 7, 2)) k_Fo_ruleAt 52 rfl
theorem d_Fo_ruleAt_101 : decode y_Fo_ruleAt.2.2.1 101 = .ok (.laload, 1) := mj_d (q := (101, .laload, 1)) k_Fo_ruleAt 53 rfl
theorem d_Fo_ruleAt_102 : decode y_Fo_ruleAt.2.2.1 102 = .ok (.lcmp, 1) := mj_d (q := (102, .lcmp, 1)) k_Fo_ruleAt 54 rfl
theorem d_Fo_ruleAt_103 : decode y_Fo_ruleAt.2.2.1 103 = .ok (.ifCond .lt 24, 3) := mj_d (q := (103, .ifCond .lt 24, 3)) k_Fo_ruleAt 55 rfl
theorem d_Fo_ruleAt_106 : decode y_Fo_ruleAt.2.2.1 106 = .ok (.lload 5, 2) := mj_d (q := (106, .lload 5, 2)) k_Fo_ruleAt 56 rfl
theorem d_Fo_ruleAt_108 : decode y_Fo_ruleAt.2.2.1 108 = .ok (.aload_n 0, 1) := mj_d (q := (108, .aload_n 0, 1)) k_Fo_ruleAt 57 rfl
theorem d_Fo_ruleAt_109 : decode y_Fo_ruleAt.2.2.1 109 = .ok (.getfield 41, 3) := mj_d (q := (109, .getfield 41, 3)) k_Fo_ruleAt 58 rfl
theorem d_Fo_ruleAt_112 : decode y_Fo_ruleAt.2.2.1 112 = .ok (.getfield 125, 3) := mj_d (q := (112, .getfield 125, 3)) k_Fo_ruleAt 59 rfl
theorem d_Fo_ruleAt_115 : decode y_Fo_ruleAt.2.2.1 115 = .ok (.iload 7, 2) := mj_d (q := (115, .iload 7, 2)) k_Fo_ruleAt 60 rfl
theorem d_Fo_ruleAt_117 : decode y_Fo_ruleAt.2.2.1 117 = .ok (.laload, 1) := mj_d (q := (117, .laload, 1)) k_Fo_ruleAt 61 rfl
theorem d_Fo_ruleAt_118 : decode y_Fo_ruleAt.2.2.1 118 = .ok (.lsub, 1) := mj_d (q := (118, .lsub, 1)) k_Fo_ruleAt 62 rfl
theorem d_Fo_ruleAt_119 : decode y_Fo_ruleAt.2.2.1 119 = .ok (.lstore 5, 2) := mj_d (q := (119, .lstore 5, 2)) k_Fo_ruleAt 63 rfl
theorem d_Fo_ruleAt_121 : decode y_Fo_ruleAt.2.2.1 121 = .ok (.iinc 7 1, 3) := mj_d (q := (121, .iinc 7 1, 3)) k_Fo_ruleAt 64 rfl
theorem d_Fo_ruleAt_124 : decode y_Fo_ruleAt.2.2.1 124 = .ok (.goto (-48), 3) := mj_d (q := (124, .goto (-48), 3)) k_Fo_ruleAt 65 rfl
theorem d_Fo_ruleAt_127 : decode y_Fo_ruleAt.2.2.1 127 = .ok (.iload 4, 2) := mj_d (q := (127, .iload 4, 2)) k_Fo_ruleAt 66 rfl
theorem d_Fo_ruleAt_129 : decode y_Fo_ruleAt.2.2.1 129 = .ok (.iload_n 3, 1) := mj_d (q := (129, .iload_n 3, 1)) k_Fo_ruleAt 67 rfl
theorem d_Fo_ruleAt_130 : decode y_Fo_ruleAt.2.2.1 130 = .ok (.if_icmp .ne 14, 3) := mj_d (q := (130, .if_icmp .ne 14, 3)) k_Fo_ruleAt 68 rfl
theorem d_Fo_ruleAt_133 : decode y_Fo_ruleAt.2.2.1 133 = .ok (.aload_n 0, 1) := mj_d (q := (133, .aload_n 0, 1)) k_Fo_ruleAt 69 rfl
theorem d_Fo_ruleAt_134 : decode y_Fo_ruleAt.2.2.1 134 = .ok (.getfield 41, 3) := mj_d (q := (134, .getfield 41, 3)) k_Fo_ruleAt 70 rfl
theorem d_Fo_ruleAt_137 : decode y_Fo_ruleAt.2.2.1 137 = .ok (.getfield 128, 3) := mj_d (q := (137, .getfield 128, 3)) k_Fo_ruleAt 71 rfl
theorem d_Fo_ruleAt_140 : decode y_Fo_ruleAt.2.2.1 140 = .ok (.iload 7, 2) := mj_d (q := (140, .iload 7, 2)) k_Fo_ruleAt 72 rfl
theorem d_Fo_ruleAt_142 : decode y_Fo_ruleAt.2.2.1 142 = .ok (.iaload, 1) := mj_d (q := (142, .iaload, 1)) k_Fo_ruleAt 73 rfl
theorem d_Fo_ruleAt_143 : decode y_Fo_ruleAt.2.2.1 143 = .ok (.ireturn, 1) := mj_d (q := (143, .ireturn, 1)) k_Fo_ruleAt 74 rfl
theorem d_Fo_ruleAt_144 : decode y_Fo_ruleAt.2.2.1 144 = .ok (.aload_n 0, 1) := mj_d (q := (144, .aload_n 0, 1)) k_Fo_ruleAt 75 rfl
theorem d_Fo_ruleAt_145 : decode y_Fo_ruleAt.2.2.1 145 = .ok (.iload 7, 2) := mj_d (q := (145, .iload 7, 2)) k_Fo_ruleAt 76 rfl
theorem d_Fo_ruleAt_147 : decode y_Fo_ruleAt.2.2.1 147 = .ok (.lload 5, 2) := mj_d (q := (147, .lload 5, 2)) k_Fo_ruleAt 77 rfl
theorem d_Fo_ruleAt_149 : decode y_Fo_ruleAt.2.2.1 149 = .ok (.invokevirtual 131, 3) := mj_d (q := (149, .invokevirtual 131, 3)) k_Fo_ruleAt 78 rfl
theorem d_Fo_ruleAt_152 : decode y_Fo_ruleAt.2.2.1 152 = .ok (.iinc 4 1, 3) := mj_d (q := (152, .iinc 4 1, 3)) k_Fo_ruleAt 79 rfl
theorem d_Fo_ruleAt_155 : decode y_Fo_ruleAt.2.2.1 155 = .ok (.goto (-130), 3) := mj_d (q := (155, .goto (-130), 3)) k_Fo_ruleAt 80 rfl
theorem d_Fo_ruleAt_158 : decode y_Fo_ruleAt.2.2.1 158 = .ok (.iconst (-1), 1) := mj_d (q := (158, .iconst (-1), 1)) k_Fo_ruleAt 81 rfl
theorem d_Fo_ruleAt_159 : decode y_Fo_ruleAt.2.2.1 159 = .ok (.ireturn, 1) := mj_d (q := (159, .ireturn, 1)) k_Fo_ruleAt 82 rfl
theorem d_Fo_push_0 : decode y_Fo_push.2.2.1 0 = .ok (.aload_n 0, 1) := mj_d (q := (0, .aload_n 0, 1)) k_Fo_push 0 rfl
theorem d_Fo_push_1 : decode y_Fo_push.2.2.1 1 = .ok (.getfield 91, 3) := mj_d (q := (1, .getfield 91, 3)) k_Fo_push 1 rfl
theorem d_Fo_push_4 : decode y_Fo_push.2.2.1 4 = .ok (.sipush 845, 3) := mj_d (q := (4, .sipush 845, 3)) k_Fo_push 2 rfl
theorem d_Fo_push_7 : decode y_Fo_push.2.2.1 7 = .ok (.if_icmp .ge 33, 3) := mj_d (q := (7, .if_icmp .ge 33, 3)) k_Fo_push 3 rfl
theorem d_Fo_push_10 : decode y_Fo_push.2.2.1 10 = .ok (.aload_n 0, 1) := mj_d (q := (10, .aload_n 0, 1)) k_Fo_push 4 rfl
theorem d_Fo_push_11 : decode y_Fo_push.2.2.1 11 = .ok (.getfield 9, 3) := mj_d (q := (11, .getfield 9, 3)) k_Fo_push 5 rfl
theorem d_Fo_push_14 : decode y_Fo_push.2.2.1 14 = .ok (.aload_n 0, 1) := mj_d (q := (14, .aload_n 0, 1)) k_Fo_push 6 rfl
theorem d_Fo_push_15 : decode y_Fo_push.2.2.1 15 = .ok (.getfield 91, 3) := mj_d (q := (15, .getfield 91, 3)) k_Fo_push 7 rfl
theorem d_Fo_push_18 : decode y_Fo_push.2.2.1 18 = .ok (.iload_n 1, 1) := mj_d (q := (18, .iload_n 1, 1)) k_Fo_push 8 rfl
theorem d_Fo_push_19 : decode y_Fo_push.2.2.1 19 = .ok (.iastore, 1) := mj_d (q := (19, .iastore, 1)) k_Fo_push 9 rfl
theorem d_Fo_push_20 : decode y_Fo_push.2.2.1 20 = .ok (.aload_n 0, 1) := mj_d (q := (20, .aload_n 0, 1)) k_Fo_push 10 rfl
theorem d_Fo_push_21 : decode y_Fo_push.2.2.1 21 = .ok (.getfield 19, 3) := mj_d (q := (21, .getfield 19, 3)) k_Fo_push 11 rfl
theorem d_Fo_push_24 : decode y_Fo_push.2.2.1 24 = .ok (.aload_n 0, 1) := mj_d (q := (24, .aload_n 0, 1)) k_Fo_push 12 rfl
theorem d_Fo_push_25 : decode y_Fo_push.2.2.1 25 = .ok (.getfield 91, 3) := mj_d (q := (25, .getfield 91, 3)) k_Fo_push 13 rfl
theorem d_Fo_push_28 : decode y_Fo_push.2.2.1 28 = .ok (.lload_n 2, 1) := mj_d (q := (28, .lload_n 2, 1)) k_Fo_push 14 rfl
theorem d_Fo_push_29 : decode y_Fo_push.2.2.1 29 = .ok (.lastore, 1) := mj_d (q := (29, .lastore, 1)) k_Fo_push 15 rfl
theorem d_Fo_push_30 : decode y_Fo_push.2.2.1 30 = .ok (.aload_n 0, 1) := mj_d (q := (30, .aload_n 0, 1)) k_Fo_push 16 rfl
theorem d_Fo_push_31 : decode y_Fo_push.2.2.1 31 = .ok (.dup, 1) := mj_d (q := (31, .dup, 1)) k_Fo_push 17 rfl
theorem d_Fo_push_32 : decode y_Fo_push.2.2.1 32 = .ok (.getfield 91, 3) := mj_d (q := (32, .getfield 91, 3)) k_Fo_push 18 rfl
theorem d_Fo_push_35 : decode y_Fo_push.2.2.1 35 = .ok (.iconst 1, 1) := mj_d (q := (35, .iconst 1, 1)) k_Fo_push 19 rfl
theorem d_Fo_push_36 : decode y_Fo_push.2.2.1 36 = .ok (.iadd, 1) := mj_d (q := (36, .iadd, 1)) k_Fo_push 20 rfl
theorem d_Fo_push_37 : decode y_Fo_push.2.2.1 37 = .ok (.putfield 91, 3) := mj_d (q := (37, .putfield 91, 3)) k_Fo_push 21 rfl
theorem d_Fo_push_40 : decode y_Fo_push.2.2.1 40 = .ok (.return_, 1) := mj_d (q := (40, .return_, 1)) k_Fo_push 22 rfl
theorem d_Fo_pushParts_0 : decode y_Fo_pushParts.2.2.1 0 = .ok (.lload_n 2, 1) := mj_d (q := (0, .lload_n 2, 1)) k_Fo_pushParts 0 rfl
theorem d_Fo_pushParts_1 : decode y_Fo_pushParts.2.2.1 1 = .ok (.lstore 4, 2) := mj_d (q := (1, .lstore 4, 2)) k_Fo_pushParts 1 rfl
theorem d_Fo_pushParts_3 : decode y_Fo_pushParts.2.2.1 3 = .ok (.iconst 2, 1) := mj_d (q := (3, .iconst 2, 1)) k_Fo_pushParts 2 rfl
theorem d_Fo_pushParts_4 : decode y_Fo_pushParts.2.2.1 4 = .ok (.istore 6, 2) := mj_d (q := (4, .istore 6, 2)) k_Fo_pushParts 3 rfl
theorem d_Fo_pushParts_6 : decode y_Fo_pushParts.2.2.1 6 = .ok (.iload 6, 2) := mj_d (q := (6, .iload 6, 2)) k_Fo_pushParts 4 rfl
theorem d_Fo_pushParts_8 : decode y_Fo_pushParts.2.2.1 8 = .ok (.ifCond .lt 67, 3) := mj_d (q := (8, .ifCond .lt 67, 3)) k_Fo_pushParts 5 rfl
theorem d_Fo_pushParts_11 : decode y_Fo_pushParts.2.2.1 11 = .ok (.aload_n 0, 1) := mj_d (q := (11, .aload_n 0, 1)) k_Fo_pushParts 6 rfl
theorem d_Fo_pushParts_12 : decode y_Fo_pushParts.2.2.1 12 = .ok (.getfield 41, 3) := mj_d (q := (12, .getfield 41, 3)) k_Fo_pushParts 7 rfl
theorem d_Fo_pushParts_15 : decode y_Fo_pushParts.2.2.1 15 = .ok (.iload_n 1, 1) := mj_d (q := (15, .iload_n 1, 1)) k_Fo_pushParts 8 rfl
theorem d_Fo_pushParts_16 : decode y_Fo_pushParts.2.2.1 16 = .ok (.iload 6, 2) := mj_d (q := (16, .iload 6, 2)) k_Fo_pushParts 9 rfl
theorem d_Fo_pushParts_18 : decode y_Fo_pushParts.2.2.1 18 = .ok (.invokevirtual 134, 3) := mj_d (q := (18, .invokevirtual 134, 3)) k_Fo_pushParts 10 rfl
theorem d_Fo_pushParts_21 : decode y_Fo_pushParts.2.2.1 21 = .ok (.lstore 7, 2) := mj_d (q := (21, .lstore 7, 2)) k_Fo_pushParts 11 rfl
theorem d_Fo_pushParts_23 : decode y_Fo_pushParts.2.2.1 23 = .ok (.aload_n 0, 1) := mj_d (q := (23, .aload_n 0, 1)) k_Fo_pushParts 12 rfl
theorem d_Fo_pushParts_24 : decode y_Fo_pushParts.2.2.1 24 = .ok (.getfield 41, 3) := mj_d (q := (24, .getfield 41, 3)) k_Fo_pushParts 13 rfl
theorem d_Fo_pushParts_27 : decode y_Fo_pushParts.2.2.1 27 = .ok (.iload_n 1, 1) := mj_d (q := (27, .iload_n 1, 1)) k_Fo_pushParts 14 rfl
theorem d_Fo_pushParts_28 : decode y_Fo_pushParts.2.2.1 28 = .ok (.iload 6, 2) := mj_d (q := (28, .iload 6, 2)) k_Fo_pushParts 15 rfl
theorem d_Fo_pushParts_30 : decode y_Fo_pushParts.2.2.1 30 = .ok (.invokevirtual 107, 3) := mj_d (q := (30, .invokevirtual 107, 3)) k_Fo_pushParts 16 rfl
theorem d_Fo_pushParts_33 : decode y_Fo_pushParts.2.2.1 33 = .ok (.invokestatic 110, 3) := mj_d (q := (33, .invokestatic 110, 3)) k_Fo_pushParts 17 rfl
theorem d_Fo_pushParts_36 : decode y_Fo_pushParts.2.2.1 36 = .ok (.ifCond .eq 33, 3) := mj_d (q := (36, .ifCond .eq 33, 3)) k_Fo_pushParts 18 rfl
theorem d_Fo_pushParts_39 : decode y_Fo_pushParts.2.2.1 39 = .ok (.lload 7, 2) := mj_d (q := (39, .lload 7, 2)) k_Fo_pushParts 19 rfl
theorem d_Fo_pushParts_41 : decode y_Fo_pushParts.2.2.1 41 = .ok (.lconst 0, 1) := mj_d (q := (41, .lconst 0, 1)) k_Fo_pushParts 20 rfl
theorem d_Fo_pushParts_42 : decode y_Fo_pushParts.2.2.1 42 = .ok (.lcmp, 1) := mj_d (q := (42, .lcmp, 1)) k_Fo_pushParts 21 rfl
theorem d_Fo_pushParts_43 : decode y_Fo_pushParts.2.2.1 43 = .ok (.ifCond .le 26, 3) := mj_d (q := (43, .ifCond .le 26, 3)) k_Fo_pushParts 22 rfl
theorem d_Fo_pushParts_46 : decode y_Fo_pushParts.2.2.1 46 = .ok (.aload_n 0, 1) := mj_d (q := (46, .aload_n 0, 1)) k_Fo_pushParts 23 rfl
theorem d_Fo_pushParts_47 : decode y_Fo_pushParts.2.2.1 47 = .ok (.aload_n 0, 1) := mj_d (q := (47, .aload_n 0, 1)) k_Fo_pushParts 24 rfl
theorem d_Fo_pushParts_48 : decode y_Fo_pushParts.2.2.1 48 = .ok (.iload_n 1, 1) := mj_d (q := (48, .iload_n 1, 1)) k_Fo_pushParts 25 rfl
theorem d_Fo_pushParts_49 : decode y_Fo_pushParts.2.2.1 49 = .ok (.iload 6, 2) := mj_d (q := (49, .iload 6, 2)) k_Fo_pushParts 26 rfl
theorem d_Fo_pushParts_51 : decode y_Fo_pushParts.2.2.1 51 = .ok (.invokevirtual 114, 3) := mj_d (q := (51, .invokevirtual 114, 3)) k_Fo_pushParts 27 rfl
theorem d_Fo_pushParts_54 : decode y_Fo_pushParts.2.2.1 54 = .ok (.lload 4, 2) := mj_d (q := (54, .lload 4, 2)) k_Fo_pushParts 28 rfl
theorem d_Fo_pushParts_56 : decode y_Fo_pushParts.2.2.1 56 = .ok (.lload 7, 2) := mj_d (q := (56, .lload 7, 2)) k_Fo_pushParts 29 rfl
theorem d_Fo_pushParts_58 : decode y_Fo_pushParts.2.2.1 58 = .ok (.lrem, 1) := mj_d (q := (58, .lrem, 1)) k_Fo_pushParts 30 rfl
theorem d_Fo_pushParts_59 : decode y_Fo_pushParts.2.2.1 59 = .ok (.invokevirtual 120, 3) := mj_d (q := (59, .invokevirtual 120, 3)) k_Fo_pushParts 31 rfl
theorem d_Fo_pushParts_62 : decode y_Fo_pushParts.2.2.1 62 = .ok (.lload 4, 2) := mj_d (q := (62, .lload 4, 2)) k_Fo_pushParts 32 rfl
theorem d_Fo_pushParts_64 : decode y_Fo_pushParts.2.2.1 64 = .ok (.lload 7, 2) := mj_d (q := (64, .lload 7, 2)) k_Fo_pushParts 33 rfl
theorem d_Fo_pushParts_66 : decode y_Fo_pushParts.2.2.1 66 = .ok (.ldiv, 1) := mj_d (q := (66, .ldiv, 1)) k_Fo_pushParts 34 rfl
theorem d_Fo_pushParts_67 : decode y_Fo_pushParts.2.2.1 67 = .ok (.lstore 4, 2) := mj_d (q := (67, .lstore 4, 2)) k_Fo_pushParts 35 rfl
theorem d_Fo_pushParts_69 : decode y_Fo_pushParts.2.2.1 69 = .ok (.iinc 6 (-1), 3) := mj_d (q := (69, .iinc 6 (-1), 3)) k_Fo_pushParts 36 rfl
theorem d_Fo_pushParts_72 : decode y_Fo_pushParts.2.2.1 72 = .ok (.goto (-66), 3) := mj_d (q := (72, .goto (-66), 3)) k_Fo_pushParts 37 rfl
theorem d_Fo_pushParts_75 : decode y_Fo_pushParts.2.2.1 75 = .ok (.return_, 1) := mj_d (q := (75, .return_, 1)) k_Fo_pushParts 38 rfl
theorem d_Wa_treesOfPart_0 : decode y_Wa_treesOfPart.2.2.1 0 = .ok (.aload_n 0, 1) := mj_d (q := (0, .aload_n 0, 1)) k_Wa_treesOfPart 0 rfl
theorem d_Wa_treesOfPart_1 : decode y_Wa_treesOfPart.2.2.1 1 = .ok (.getfield 26, 3) := mj_d (q := (1, .getfield 26, 3)) k_Wa_treesOfPart 1 rfl
theorem d_Wa_treesOfPart_4 : decode y_Wa_treesOfPart.2.2.1 4 = .ok (.aload_n 0, 1) := mj_d (q := (4, .aload_n 0, 1)) k_Wa_treesOfPart 2 rfl
theorem d_Wa_treesOfPart_5 : decode y_Wa_treesOfPart.2.2.1 5 = .ok (.iload_n 1, 1) := mj_d (q := (5, .iload_n 1, 1)) k_Wa_treesOfPart 3 rfl
theorem d_Wa_treesOfPart_6 : decode y_Wa_treesOfPart.2.2.1 6 = .ok (.iload_n 2, 1) := mj_d (q := (6, .iload_n 2, 1)) k_Wa_treesOfPart 4 rfl
theorem d_Wa_treesOfPart_7 : decode y_Wa_treesOfPart.2.2.1 7 = .ok (.invokevirtual 72, 3) := mj_d (q := (7, .invokevirtual 72, 3)) k_Wa_treesOfPart 5 rfl
theorem d_Wa_treesOfPart_10 : decode y_Wa_treesOfPart.2.2.1 10 = .ok (.aload_n 0, 1) := mj_d (q := (10, .aload_n 0, 1)) k_Wa_treesOfPart 6 rfl
theorem d_Wa_treesOfPart_11 : decode y_Wa_treesOfPart.2.2.1 11 = .ok (.iload_n 1, 1) := mj_d (q := (11, .iload_n 1, 1)) k_Wa_treesOfPart 7 rfl
theorem d_Wa_treesOfPart_12 : decode y_Wa_treesOfPart.2.2.1 12 = .ok (.iload_n 2, 1) := mj_d (q := (12, .iload_n 2, 1)) k_Wa_treesOfPart 8 rfl
theorem d_Wa_treesOfPart_13 : decode y_Wa_treesOfPart.2.2.1 13 = .ok (.invokevirtual 75, 3) := mj_d (q := (13, .invokevirtual 75, 3)) k_Wa_treesOfPart 9 rfl
theorem d_Wa_treesOfPart_16 : decode y_Wa_treesOfPart.2.2.1 16 = .ok (.aload_n 0, 1) := mj_d (q := (16, .aload_n 0, 1)) k_Wa_treesOfPart 10 rfl
theorem d_Wa_treesOfPart_17 : decode y_Wa_treesOfPart.2.2.1 17 = .ok (.iload_n 1, 1) := mj_d (q := (17, .iload_n 1, 1)) k_Wa_treesOfPart 11 rfl
theorem d_Wa_treesOfPart_18 : decode y_Wa_treesOfPart.2.2.1 18 = .ok (.iload_n 2, 1) := mj_d (q := (18, .iload_n 2, 1)) k_Wa_treesOfPart 12 rfl
theorem d_Wa_treesOfPart_19 : decode y_Wa_treesOfPart.2.2.1 19 = .ok (.iconst 1, 1) := mj_d (q := (19, .iconst 1, 1)) k_Wa_treesOfPart 13 rfl
theorem d_Wa_treesOfPart_20 : decode y_Wa_treesOfPart.2.2.1 20 = .ok (.iadd, 1) := mj_d (q := (20, .iadd, 1)) k_Wa_treesOfPart 14 rfl
theorem d_Wa_treesOfPart_21 : decode y_Wa_treesOfPart.2.2.1 21 = .ok (.invokevirtual 75, 3) := mj_d (q := (21, .invokevirtual 75, 3)) k_Wa_treesOfPart 15 rfl
theorem d_Wa_treesOfPart_24 : decode y_Wa_treesOfPart.2.2.1 24 = .ok (.invokevirtual 58, 3) := mj_d (q := (24, .invokevirtual 58, 3)) k_Wa_treesOfPart 16 rfl
theorem d_Wa_treesOfPart_27 : decode y_Wa_treesOfPart.2.2.1 27 = .ok (.lreturn, 1) := mj_d (q := (27, .lreturn, 1)) k_Wa_treesOfPart 17 rfl
theorem d_Mo_makeSet_0 : decode y_Mo_makeSet.2.2.1 0 = .ok (.aload_n 0, 1) := mj_d (q := (0, .aload_n 0, 1)) k_Mo_makeSet 0 rfl
theorem d_Mo_makeSet_1 : decode y_Mo_makeSet.2.2.1 1 = .ok (.iconst 0, 1) := mj_d (q := (1, .iconst 0, 1)) k_Mo_makeSet 1 rfl
theorem d_Mo_makeSet_2 : decode y_Mo_makeSet.2.2.1 2 = .ok (.putfield 85, 3) := mj_d (q := (2, .putfield 85, 3)) k_Mo_makeSet 2 rfl
theorem d_Mo_makeSet_5 : decode y_Mo_makeSet.2.2.1 5 = .ok (.iconst 0, 1) := mj_d (q := (5, .iconst 0, 1)) k_Mo_makeSet 3 rfl
theorem d_Mo_makeSet_6 : decode y_Mo_makeSet.2.2.1 6 = .ok (.istore_n 2, 1) := mj_d (q := (6, .istore_n 2, 1)) k_Mo_makeSet 4 rfl
theorem d_Mo_makeSet_7 : decode y_Mo_makeSet.2.2.1 7 = .ok (.iload_n 2, 1) := mj_d (q := (7, .iload_n 2, 1)) k_Mo_makeSet 5 rfl
theorem d_Mo_makeSet_8 : decode y_Mo_makeSet.2.2.1 8 = .ok (.sipush 572, 3) := mj_d (q := (8, .sipush 572, 3)) k_Mo_makeSet 6 rfl
theorem d_Mo_makeSet_11 : decode y_Mo_makeSet.2.2.1 11 = .ok (.if_icmp .ge 22, 3) := mj_d (q := (11, .if_icmp .ge 22, 3)) k_Mo_makeSet 7 rfl
theorem d_Mo_makeSet_14 : decode y_Mo_makeSet.2.2.1 14 = .ok (.aload_n 0, 1) := mj_d (q := (14, .aload_n 0, 1)) k_Mo_makeSet 8 rfl
theorem d_Mo_makeSet_15 : decode y_Mo_makeSet.2.2.1 15 = .ok (.getfield 22, 3) := mj_d (q := (15, .getfield 22, 3)) k_Mo_makeSet 9 rfl
theorem d_Mo_makeSet_18 : decode y_Mo_makeSet.2.2.1 18 = .ok (.sipush 572, 3) := mj_d (q := (18, .sipush 572, 3)) k_Mo_makeSet 10 rfl
theorem d_Mo_makeSet_21 : decode y_Mo_makeSet.2.2.1 21 = .ok (.iload_n 1, 1) := mj_d (q := (21, .iload_n 1, 1)) k_Mo_makeSet 11 rfl
theorem d_Mo_makeSet_22 : decode y_Mo_makeSet.2.2.1 22 = .ok (.imul, 1) := mj_d (q := (22, .imul, 1)) k_Mo_makeSet 12 rfl
theorem d_Mo_makeSet_23 : decode y_Mo_makeSet.2.2.1 23 = .ok (.iload_n 2, 1) := mj_d (q := (23, .iload_n 2, 1)) k_Mo_makeSet 13 rfl
theorem d_Mo_makeSet_24 : decode y_Mo_makeSet.2.2.1 24 = .ok (.iadd, 1) := mj_d (q := (24, .iadd, 1)) k_Mo_makeSet 14 rfl
theorem d_Mo_makeSet_25 : decode y_Mo_makeSet.2.2.1 25 = .ok (.iconst 0, 1) := mj_d (q := (25, .iconst 0, 1)) k_Mo_makeSet 15 rfl
theorem d_Mo_makeSet_26 : decode y_Mo_makeSet.2.2.1 26 = .ok (.bastore, 1) := mj_d (q := (26, .bastore, 1)) k_Mo_makeSet 16 rfl
theorem d_Mo_makeSet_27 : decode y_Mo_makeSet.2.2.1 27 = .ok (.iinc 2 1, 3) := mj_d (q := (27, .iinc 2 1, 3)) k_Mo_makeSet 17 rfl
theorem d_Mo_makeSet_30 : decode y_Mo_makeSet.2.2.1 30 = .ok (.goto (-23), 3) := mj_d (q := (30, .goto (-23), 3)) k_Mo_makeSet 18 rfl
theorem d_Mo_makeSet_33 : decode y_Mo_makeSet.2.2.1 33 = .ok (.iload_n 1, 1) := mj_d (q := (33, .iload_n 1, 1)) k_Mo_makeSet 19 rfl
theorem d_Mo_makeSet_34 : decode y_Mo_makeSet.2.2.1 34 = .ok (.ifCond .ne 10, 3) := mj_d (q := (34, .ifCond .ne 10, 3)) k_Mo_makeSet 20 rfl
theorem d_Mo_makeSet_37 : decode y_Mo_makeSet.2.2.1 37 = .ok (.aload_n 0, 1) := mj_d (q := (37, .aload_n 0, 1)) k_Mo_makeSet 21 rfl
theorem d_Mo_makeSet_38 : decode y_Mo_makeSet.2.2.1 38 = .ok (.getfield 22, 3) := mj_d (q := (38, .getfield 22, 3)) k_Mo_makeSet 22 rfl
theorem d_Mo_makeSet_41 : decode y_Mo_makeSet.2.2.1 41 = .ok (.iconst 0, 1) := mj_d (q := (41, .iconst 0, 1)) k_Mo_makeSet 23 rfl
theorem d_Mo_makeSet_42 : decode y_Mo_makeSet.2.2.1 42 = .ok (.iconst 1, 1) := mj_d (q := (42, .iconst 1, 1)) k_Mo_makeSet 24 rfl
theorem d_Mo_makeSet_43 : decode y_Mo_makeSet.2.2.1 43 = .ok (.bastore, 1) := mj_d (q := (43, .bastore, 1)) k_Mo_makeSet 25 rfl
theorem d_Mo_makeSet_44 : decode y_Mo_makeSet.2.2.1 44 = .ok (.iconst 0, 1) := mj_d (q := (44, .iconst 0, 1)) k_Mo_makeSet 26 rfl
theorem d_Mo_makeSet_45 : decode y_Mo_makeSet.2.2.1 45 = .ok (.istore_n 2, 1) := mj_d (q := (45, .istore_n 2, 1)) k_Mo_makeSet 27 rfl
theorem d_Mo_makeSet_46 : decode y_Mo_makeSet.2.2.1 46 = .ok (.iload_n 2, 1) := mj_d (q := (46, .iload_n 2, 1)) k_Mo_makeSet 28 rfl
theorem d_Mo_makeSet_47 : decode y_Mo_makeSet.2.2.1 47 = .ok (.sipush 572, 3) := mj_d (q := (47, .sipush 572, 3)) k_Mo_makeSet 29 rfl
theorem d_Mo_makeSet_50 : decode y_Mo_makeSet.2.2.1 50 = .ok (.if_icmp .ge 84, 3) := mj_d (q := (50, .if_icmp .ge 84, 3)) k_Mo_makeSet 30 rfl
theorem d_Mo_makeSet_53 : decode y_Mo_makeSet.2.2.1 53 = .ok (.iload_n 1, 1) := mj_d (q := (53, .iload_n 1, 1)) k_Mo_makeSet 31 rfl
theorem d_Mo_makeSet_54 : decode y_Mo_makeSet.2.2.1 54 = .ok (.ifCond .le 80, 3) := mj_d (q := (54, .ifCond .le 80, 3)) k_Mo_makeSet 32 rfl
theorem d_Mo_makeSet_57 : decode y_Mo_makeSet.2.2.1 57 = .ok (.aload_n 0, 1) := mj_d (q := (57, .aload_n 0, 1)) k_Mo_makeSet 33 rfl
theorem d_Mo_makeSet_58 : decode y_Mo_makeSet.2.2.1 58 = .ok (.getfield 22, 3) := mj_d (q := (58, .getfield 22, 3)) k_Mo_makeSet 34 rfl
theorem d_Mo_makeSet_61 : decode y_Mo_makeSet.2.2.1 61 = .ok (.sipush 572, 3) := mj_d (q := (61, .sipush 572, 3)) k_Mo_makeSet 35 rfl
theorem d_Mo_makeSet_64 : decode y_Mo_makeSet.2.2.1 64 = .ok (.iload_n 1, 1) := mj_d (q := (64, .iload_n 1, 1)) k_Mo_makeSet 36 rfl
theorem d_Mo_makeSet_65 : decode y_Mo_makeSet.2.2.1 65 = .ok (.iconst 1, 1) := mj_d (q := (65, .iconst 1, 1)) k_Mo_makeSet 37 rfl
theorem d_Mo_makeSet_66 : decode y_Mo_makeSet.2.2.1 66 = .ok (.isub, 1) := mj_d (q := (66, .isub, 1)) k_Mo_makeSet 38 rfl
theorem d_Mo_makeSet_67 : decode y_Mo_makeSet.2.2.1 67 = .ok (.imul, 1) := mj_d (q := (67, .imul, 1)) k_Mo_makeSet 39 rfl
theorem d_Mo_makeSet_68 : decode y_Mo_makeSet.2.2.1 68 = .ok (.iload_n 2, 1) := mj_d (q := (68, .iload_n 2, 1)) k_Mo_makeSet 40 rfl
theorem d_Mo_makeSet_69 : decode y_Mo_makeSet.2.2.1 69 = .ok (.iadd, 1) := mj_d (q := (69, .iadd, 1)) k_Mo_makeSet 41 rfl
theorem d_Mo_makeSet_70 : decode y_Mo_makeSet.2.2.1 70 = .ok (.baload, 1) := mj_d (q := (70, .baload, 1)) k_Mo_makeSet 42 rfl
theorem d_Mo_makeSet_71 : decode y_Mo_makeSet.2.2.1 71 = .ok (.ifCond .eq 35, 3) := mj_d (q := (71, .ifCond .eq 35, 3)) k_Mo_makeSet 43 rfl
theorem d_Mo_makeSet_74 : decode y_Mo_makeSet.2.2.1 74 = .ok (.aload_n 0, 1) := mj_d (q := (74, .aload_n 0, 1)) k_Mo_makeSet 44 rfl
theorem d_Mo_makeSet_75 : decode y_Mo_makeSet.2.2.1 75 = .ok (.iload_n 2, 1) := mj_d (q := (75, .iload_n 2, 1)) k_Mo_makeSet 45 rfl
theorem d_Mo_makeSet_76 : decode y_Mo_makeSet.2.2.1 76 = .ok (.bipush 52, 2) := mj_d (q := (76, .bipush 52, 2)) k_Mo_makeSet 46 rfl
theorem d_Mo_makeSet_78 : decode y_Mo_makeSet.2.2.1 78 = .ok (.idiv, 1) := mj_d (q := (78, .idiv, 1)) k_Mo_makeSet 47 rfl
theorem d_Mo_makeSet_79 : decode y_Mo_makeSet.2.2.1 79 = .ok (.iconst 1, 1) := mj_d (q := (79, .iconst 1, 1)) k_Mo_makeSet 48 rfl
theorem d_Mo_makeSet_80 : decode y_Mo_makeSet.2.2.1 80 = .ok (.isub, 1) := mj_d (q := (80, .isub, 1)) k_Mo_makeSet 49 rfl
theorem d_Mo_makeSet_81 : decode y_Mo_makeSet.2.2.1 81 = .ok (.iload_n 2, 1) := mj_d (q := (81, .iload_n 2, 1)) k_Mo_makeSet 50 rfl
theorem d_Mo_makeSet_82 : decode y_Mo_makeSet.2.2.1 82 = .ok (.bipush 52, 2) := mj_d (q := (82, .bipush 52, 2)) k_Mo_makeSet 51 rfl
theorem d_Mo_makeSet_84 : decode y_Mo_makeSet.2.2.1 84 = .ok (.irem, 1) := mj_d (q := (84, .irem, 1)) k_Mo_makeSet 52 rfl
theorem d_Mo_makeSet_85 : decode y_Mo_makeSet.2.2.1 85 = .ok (.bipush 13, 2) := mj_d (q := (85, .bipush 13, 2)) k_Mo_makeSet 53 rfl
theorem d_Mo_makeSet_87 : decode y_Mo_makeSet.2.2.1 87 = .ok (.idiv, 1) := mj_d (q := (87, .idiv, 1)) k_Mo_makeSet 54 rfl
theorem d_Mo_makeSet_88 : decode y_Mo_makeSet.2.2.1 88 = .ok (.invokevirtual 65, 3) := mj_d (q := (88, .invokevirtual 65, 3)) k_Mo_makeSet 55 rfl
theorem d_Mo_makeSet_91 : decode y_Mo_makeSet.2.2.1 91 = .ok (.aload_n 0, 1) := mj_d (q := (91, .aload_n 0, 1)) k_Mo_makeSet 56 rfl
theorem d_Mo_makeSet_92 : decode y_Mo_makeSet.2.2.1 92 = .ok (.getfield 19, 3) := mj_d (q := (92, .getfield 19, 3)) k_Mo_makeSet 57 rfl
theorem d_Mo_makeSet_95 : decode y_Mo_makeSet.2.2.1 95 = .ok (.iload_n 1, 1) := mj_d (q := (95, .iload_n 1, 1)) k_Mo_makeSet 58 rfl
theorem d_Mo_makeSet_96 : decode y_Mo_makeSet.2.2.1 96 = .ok (.iconst 1, 1) := mj_d (q := (96, .iconst 1, 1)) k_Mo_makeSet 59 rfl
theorem d_Mo_makeSet_97 : decode y_Mo_makeSet.2.2.1 97 = .ok (.isub, 1) := mj_d (q := (97, .isub, 1)) k_Mo_makeSet 60 rfl
theorem d_Mo_makeSet_98 : decode y_Mo_makeSet.2.2.1 98 = .ok (.iaload, 1) := mj_d (q := (98, .iaload, 1)) k_Mo_makeSet 61 rfl
theorem d_Mo_makeSet_99 : decode y_Mo_makeSet.2.2.1 99 = .ok (.if_icmp .ne 7, 3) := mj_d (q := (99, .if_icmp .ne 7, 3)) k_Mo_makeSet 62 rfl
theorem d_Mo_makeSet_102 : decode y_Mo_makeSet.2.2.1 102 = .ok (.iconst 1, 1) := mj_d (q := (102, .iconst 1, 1)) k_Mo_makeSet 63 rfl
theorem d_Mo_makeSet_103 : decode y_Mo_makeSet.2.2.1 103 = .ok (.goto 4, 3) := mj_d (q := (103, .goto 4, 3)) k_Mo_makeSet 64 rfl
theorem d_Mo_makeSet_106 : decode y_Mo_makeSet.2.2.1 106 = .ok (.iconst 0, 1) := mj_d (q := (106, .iconst 0, 1)) k_Mo_makeSet 65 rfl
theorem d_Mo_makeSet_107 : decode y_Mo_makeSet.2.2.1 107 = .ok (.istore_n 3, 1) := mj_d (q := (107, .istore_n 3, 1)) k_Mo_makeSet 66 rfl
theorem d_Mo_makeSet_108 : decode y_Mo_makeSet.2.2.1 108 = .ok (.iload_n 3, 1) := mj_d (q := (108, .iload_n 3, 1)) k_Mo_makeSet 67 rfl
theorem d_Mo_makeSet_109 : decode y_Mo_makeSet.2.2.1 109 = .ok (.ifCond .eq 19, 3) := mj_d (q := (109, .ifCond .eq 19, 3)) k_Mo_makeSet 68 rfl
theorem d_Mo_makeSet_112 : decode y_Mo_makeSet.2.2.1 112 = .ok (.aload_n 0, 1) := mj_d (q := (112, .aload_n 0, 1)) k_Mo_makeSet 69 rfl
theorem d_Mo_makeSet_113 : decode y_Mo_makeSet.2.2.1 113 = .ok (.getfield 22, 3) := mj_d (q := (113, .getfield 22, 3)) k_Mo_makeSet 70 rfl
theorem d_Mo_makeSet_116 : decode y_Mo_makeSet.2.2.1 116 = .ok (.sipush 572, 3) := mj_d (q := (116, .sipush 572, 3)) k_Mo_makeSet 71 rfl
theorem d_Mo_makeSet_119 : decode y_Mo_makeSet.2.2.1 119 = .ok (.iload_n 1, 1) := mj_d (q := (119, .iload_n 1, 1)) k_Mo_makeSet 72 rfl
theorem d_Mo_makeSet_120 : decode y_Mo_makeSet.2.2.1 120 = .ok (.imul, 1) := mj_d (q := (120, .imul, 1)) k_Mo_makeSet 73 rfl
theorem d_Mo_makeSet_121 : decode y_Mo_makeSet.2.2.1 121 = .ok (.iload_n 2, 1) := mj_d (q := (121, .iload_n 2, 1)) k_Mo_makeSet 74 rfl
theorem d_Mo_makeSet_122 : decode y_Mo_makeSet.2.2.1 122 = .ok (.iadd, 1) := mj_d (q := (122, .iadd, 1)) k_Mo_makeSet 75 rfl
theorem d_Mo_makeSet_123 : decode y_Mo_makeSet.2.2.1 123 = .ok (.bipush 13, 2) := mj_d (q := (123, .bipush 13, 2)) k_Mo_makeSet 76 rfl
theorem d_Mo_makeSet_125 : decode y_Mo_makeSet.2.2.1 125 = .ok (.iadd, 1) := mj_d (q := (125, .iadd, 1)) k_Mo_makeSet 77 rfl
theorem d_Mo_makeSet_126 : decode y_Mo_makeSet.2.2.1 126 = .ok (.iconst 1, 1) := mj_d (q := (126, .iconst 1, 1)) k_Mo_makeSet 78 rfl
theorem d_Mo_makeSet_127 : decode y_Mo_makeSet.2.2.1 127 = .ok (.bastore, 1) := mj_d (q := (127, .bastore, 1)) k_Mo_makeSet 79 rfl
theorem d_Mo_makeSet_128 : decode y_Mo_makeSet.2.2.1 128 = .ok (.iinc 2 1, 3) := mj_d (q := (128, .iinc 2 1, 3)) k_Mo_makeSet 80 rfl
theorem d_Mo_makeSet_131 : decode y_Mo_makeSet.2.2.1 131 = .ok (.goto (-85), 3) := mj_d (q := (131, .goto (-85), 3)) k_Mo_makeSet 81 rfl
theorem d_Mo_makeSet_134 : decode y_Mo_makeSet.2.2.1 134 = .ok (.aload_n 0, 1) := mj_d (q := (134, .aload_n 0, 1)) k_Mo_makeSet 82 rfl
theorem d_Mo_makeSet_135 : decode y_Mo_makeSet.2.2.1 135 = .ok (.iload_n 1, 1) := mj_d (q := (135, .iload_n 1, 1)) k_Mo_makeSet 83 rfl
theorem d_Mo_makeSet_136 : decode y_Mo_makeSet.2.2.1 136 = .ok (.invokevirtual 88, 3) := mj_d (q := (136, .invokevirtual 88, 3)) k_Mo_makeSet 84 rfl
theorem d_Mo_makeSet_139 : decode y_Mo_makeSet.2.2.1 139 = .ok (.return_, 1) := mj_d (q := (139, .return_, 1)) k_Mo_makeSet 85 rfl
theorem d_Mo_behind_0 : decode y_Mo_behind.2.2.1 0 = .ok (.iload_n 2, 1) := mj_d (q := (0, .iload_n 2, 1)) k_Mo_behind 0 rfl
theorem d_Mo_behind_1 : decode y_Mo_behind.2.2.1 1 = .ok (.aload_n 0, 1) := mj_d (q := (1, .aload_n 0, 1)) k_Mo_behind 1 rfl
theorem d_Mo_behind_2 : decode y_Mo_behind.2.2.1 2 = .ok (.iload_n 1, 1) := mj_d (q := (2, .iload_n 1, 1)) k_Mo_behind 2 rfl
theorem d_Mo_behind_3 : decode y_Mo_behind.2.2.1 3 = .ok (.invokevirtual 57, 3) := mj_d (q := (3, .invokevirtual 57, 3)) k_Mo_behind 3 rfl
theorem d_Mo_behind_6 : decode y_Mo_behind.2.2.1 6 = .ok (.if_icmp .lt 7, 3) := mj_d (q := (6, .if_icmp .lt 7, 3)) k_Mo_behind 4 rfl
theorem d_Mo_behind_9 : decode y_Mo_behind.2.2.1 9 = .ok (.iconst (-1), 1) := mj_d (q := (9, .iconst (-1), 1)) k_Mo_behind 5 rfl
theorem d_Mo_behind_10 : decode y_Mo_behind.2.2.1 10 = .ok (.goto 21, 3) := mj_d (q := (10, .goto 21, 3)) k_Mo_behind 6 rfl
theorem d_Mo_behind_13 : decode y_Mo_behind.2.2.1 13 = .ok (.iload_n 1, 1) := mj_d (q := (13, .iload_n 1, 1)) k_Mo_behind 7 rfl
theorem d_Mo_behind_14 : decode y_Mo_behind.2.2.1 14 = .ok (.ifCond .ge 7, 3) := mj_d (q := (14, .ifCond .ge 7, 3)) k_Mo_behind 8 rfl
theorem d_Mo_behind_17 : decode y_Mo_behind.2.2.1 17 = .ok (.iconst 0, 1) := mj_d (q := (17, .iconst 0, 1)) k_Mo_behind 9 rfl
theorem d_Mo_behind_18 : decode y_Mo_behind.2.2.1 18 = .ok (.goto 13, 3) := mj_d (q := (18, .goto 13, 3)) k_Mo_behind 10 rfl
theorem d_Mo_behind_21 : decode y_Mo_behind.2.2.1 21 = .ok (.aload_n 0, 1) := mj_d (q := (21, .aload_n 0, 1)) k_Mo_behind 11 rfl
theorem d_Mo_behind_22 : decode y_Mo_behind.2.2.1 22 = .ok (.getfield 16, 3) := mj_d (q := (22, .getfield 16, 3)) k_Mo_behind 12 rfl
theorem d_Mo_behind_25 : decode y_Mo_behind.2.2.1 25 = .ok (.iconst 3, 1) := mj_d (q := (25, .iconst 3, 1)) k_Mo_behind 13 rfl
theorem d_Mo_behind_26 : decode y_Mo_behind.2.2.1 26 = .ok (.iload_n 1, 1) := mj_d (q := (26, .iload_n 1, 1)) k_Mo_behind 14 rfl
theorem d_Mo_behind_27 : decode y_Mo_behind.2.2.1 27 = .ok (.imul, 1) := mj_d (q := (27, .imul, 1)) k_Mo_behind 15 rfl
theorem d_Mo_behind_28 : decode y_Mo_behind.2.2.1 28 = .ok (.iload_n 2, 1) := mj_d (q := (28, .iload_n 2, 1)) k_Mo_behind 16 rfl
theorem d_Mo_behind_29 : decode y_Mo_behind.2.2.1 29 = .ok (.iadd, 1) := mj_d (q := (29, .iadd, 1)) k_Mo_behind 17 rfl
theorem d_Mo_behind_30 : decode y_Mo_behind.2.2.1 30 = .ok (.iaload, 1) := mj_d (q := (30, .iaload, 1)) k_Mo_behind 18 rfl
theorem d_Mo_behind_31 : decode y_Mo_behind.2.2.1 31 = .ok (.ireturn, 1) := mj_d (q := (31, .ireturn, 1)) k_Mo_behind 19 rfl
theorem d_Mo_lengthOf_0 : decode y_Mo_lengthOf.2.2.1 0 = .ok (.iload_n 1, 1) := mj_d (q := (0, .iload_n 1, 1)) k_Mo_lengthOf 0 rfl
theorem d_Mo_lengthOf_1 : decode y_Mo_lengthOf.2.2.1 1 = .ok (.ifCond .ge 7, 3) := mj_d (q := (1, .ifCond .ge 7, 3)) k_Mo_lengthOf 1 rfl
theorem d_Mo_lengthOf_4 : decode y_Mo_lengthOf.2.2.1 4 = .ok (.iconst 1, 1) := mj_d (q := (4, .iconst 1, 1)) k_Mo_lengthOf 2 rfl
theorem d_Mo_lengthOf_5 : decode y_Mo_lengthOf.2.2.1 5 = .ok (.goto 9, 3) := mj_d (q := (5, .goto 9, 3)) k_Mo_lengthOf 3 rfl
theorem d_Mo_lengthOf_8 : decode y_Mo_lengthOf.2.2.1 8 = .ok (.aload_n 0, 1) := mj_d (q := (8, .aload_n 0, 1)) k_Mo_lengthOf 4 rfl
theorem d_Mo_lengthOf_9 : decode y_Mo_lengthOf.2.2.1 9 = .ok (.getfield 13, 3) := mj_d (q := (9, .getfield 13, 3)) k_Mo_lengthOf 5 rfl
theorem d_Mo_lengthOf_12 : decode y_Mo_lengthOf.2.2.1 12 = .ok (.iload_n 1, 1) := mj_d (q := (12, .iload_n 1, 1)) k_Mo_lengthOf 6 rfl
theorem d_Mo_lengthOf_13 : decode y_Mo_lengthOf.2.2.1 13 = .ok (.iaload, 1) := mj_d (q := (13, .iaload, 1)) k_Mo_lengthOf 7 rfl
theorem d_Mo_lengthOf_14 : decode y_Mo_lengthOf.2.2.1 14 = .ok (.ireturn, 1) := mj_d (q := (14, .ireturn, 1)) k_Mo_lengthOf 8 rfl
theorem d_Mo_close_0 : decode y_Mo_close.2.2.1 0 = .ok (.iconst 1, 1) := mj_d (q := (0, .iconst 1, 1)) k_Mo_close 0 rfl
theorem d_Mo_close_1 : decode y_Mo_close.2.2.1 1 = .ok (.istore_n 2, 1) := mj_d (q := (1, .istore_n 2, 1)) k_Mo_close 1 rfl
theorem d_Mo_close_2 : decode y_Mo_close.2.2.1 2 = .ok (.iload_n 2, 1) := mj_d (q := (2, .iload_n 2, 1)) k_Mo_close 2 rfl
theorem d_Mo_close_3 : decode y_Mo_close.2.2.1 3 = .ok (.ifCond .eq 77, 3) := mj_d (q := (3, .ifCond .eq 77, 3)) k_Mo_close 3 rfl
theorem d_Mo_close_6 : decode y_Mo_close.2.2.1 6 = .ok (.iconst 0, 1) := mj_d (q := (6, .iconst 0, 1)) k_Mo_close 4 rfl
theorem d_Mo_close_7 : decode y_Mo_close.2.2.1 7 = .ok (.istore_n 2, 1) := mj_d (q := (7, .istore_n 2, 1)) k_Mo_close 5 rfl
theorem d_Mo_close_8 : decode y_Mo_close.2.2.1 8 = .ok (.iconst 0, 1) := mj_d (q := (8, .iconst 0, 1)) k_Mo_close 6 rfl
theorem d_Mo_close_9 : decode y_Mo_close.2.2.1 9 = .ok (.istore_n 3, 1) := mj_d (q := (9, .istore_n 3, 1)) k_Mo_close 7 rfl
theorem d_Mo_close_10 : decode y_Mo_close.2.2.1 10 = .ok (.iload_n 3, 1) := mj_d (q := (10, .iload_n 3, 1)) k_Mo_close 8 rfl
theorem d_Mo_close_11 : decode y_Mo_close.2.2.1 11 = .ok (.sipush 572, 3) := mj_d (q := (11, .sipush 572, 3)) k_Mo_close 9 rfl
theorem d_Mo_close_14 : decode y_Mo_close.2.2.1 14 = .ok (.if_icmp .ge 63, 3) := mj_d (q := (14, .if_icmp .ge 63, 3)) k_Mo_close 10 rfl
theorem d_Mo_close_17 : decode y_Mo_close.2.2.1 17 = .ok (.aload_n 0, 1) := mj_d (q := (17, .aload_n 0, 1)) k_Mo_close 11 rfl
theorem d_Mo_close_18 : decode y_Mo_close.2.2.1 18 = .ok (.getfield 22, 3) := mj_d (q := (18, .getfield 22, 3)) k_Mo_close 12 rfl
theorem d_Mo_close_21 : decode y_Mo_close.2.2.1 21 = .ok (.sipush 572, 3) := mj_d (q := (21, .sipush 572, 3)) k_Mo_close 13 rfl
theorem d_Mo_close_24 : decode y_Mo_close.2.2.1 24 = .ok (.iload_n 1, 1) := mj_d (q := (24, .iload_n 1, 1)) k_Mo_close 14 rfl
theorem d_Mo_close_25 : decode y_Mo_close.2.2.1 25 = .ok (.imul, 1) := mj_d (q := (25, .imul, 1)) k_Mo_close 15 rfl
theorem d_Mo_close_26 : decode y_Mo_close.2.2.1 26 = .ok (.iload_n 3, 1) := mj_d (q := (26, .iload_n 3, 1)) k_Mo_close 16 rfl
theorem d_Mo_close_27 : decode y_Mo_close.2.2.1 27 = .ok (.iadd, 1) := mj_d (q := (27, .iadd, 1)) k_Mo_close 17 rfl
theorem d_Mo_close_28 : decode y_Mo_close.2.2.1 28 = .ok (.baload, 1) := mj_d (q := (28, .baload, 1)) k_Mo_close 18 rfl
theorem d_Mo_close_29 : decode y_Mo_close.2.2.1 29 = .ok (.ifCond .eq 42, 3) := mj_d (q := (29, .ifCond .eq 42, 3)) k_Mo_close 19 rfl
theorem d_Mo_close_32 : decode y_Mo_close.2.2.1 32 = .ok (.aload_n 0, 1) := mj_d (q := (32, .aload_n 0, 1)) k_Mo_close 20 rfl
theorem d_Mo_close_33 : decode y_Mo_close.2.2.1 33 = .ok (.iload_n 1, 1) := mj_d (q := (33, .iload_n 1, 1)) k_Mo_close 21 rfl
theorem d_Mo_close_34 : decode y_Mo_close.2.2.1 34 = .ok (.iload_n 3, 1) := mj_d (q := (34, .iload_n 3, 1)) k_Mo_close 22 rfl
theorem d_Mo_close_35 : decode y_Mo_close.2.2.1 35 = .ok (.bipush 52, 2) := mj_d (q := (35, .bipush 52, 2)) k_Mo_close 23 rfl
theorem d_Mo_close_37 : decode y_Mo_close.2.2.1 37 = .ok (.idiv, 1) := mj_d (q := (37, .idiv, 1)) k_Mo_close 24 rfl
theorem d_Mo_close_38 : decode y_Mo_close.2.2.1 38 = .ok (.iconst 1, 1) := mj_d (q := (38, .iconst 1, 1)) k_Mo_close 25 rfl
theorem d_Mo_close_39 : decode y_Mo_close.2.2.1 39 = .ok (.isub, 1) := mj_d (q := (39, .isub, 1)) k_Mo_close 26 rfl
theorem d_Mo_close_40 : decode y_Mo_close.2.2.1 40 = .ok (.iload_n 3, 1) := mj_d (q := (40, .iload_n 3, 1)) k_Mo_close 27 rfl
theorem d_Mo_close_41 : decode y_Mo_close.2.2.1 41 = .ok (.bipush 52, 2) := mj_d (q := (41, .bipush 52, 2)) k_Mo_close 28 rfl
theorem d_Mo_close_43 : decode y_Mo_close.2.2.1 43 = .ok (.irem, 1) := mj_d (q := (43, .irem, 1)) k_Mo_close 29 rfl
theorem d_Mo_close_44 : decode y_Mo_close.2.2.1 44 = .ok (.bipush 13, 2) := mj_d (q := (44, .bipush 13, 2)) k_Mo_close 30 rfl
theorem d_Mo_close_46 : decode y_Mo_close.2.2.1 46 = .ok (.idiv, 1) := mj_d (q := (46, .idiv, 1)) k_Mo_close 31 rfl
theorem d_Mo_close_47 : decode y_Mo_close.2.2.1 47 = .ok (.iload_n 3, 1) := mj_d (q := (47, .iload_n 3, 1)) k_Mo_close 32 rfl
theorem d_Mo_close_48 : decode y_Mo_close.2.2.1 48 = .ok (.bipush 13, 2) := mj_d (q := (48, .bipush 13, 2)) k_Mo_close 33 rfl
theorem d_Mo_close_50 : decode y_Mo_close.2.2.1 50 = .ok (.irem, 1) := mj_d (q := (50, .irem, 1)) k_Mo_close 34 rfl
theorem d_Mo_close_51 : decode y_Mo_close.2.2.1 51 = .ok (.invokevirtual 82, 3) := mj_d (q := (51, .invokevirtual 82, 3)) k_Mo_close 35 rfl
theorem d_Mo_close_54 : decode y_Mo_close.2.2.1 54 = .ok (.istore 4, 2) := mj_d (q := (54, .istore 4, 2)) k_Mo_close 36 rfl
theorem d_Mo_close_56 : decode y_Mo_close.2.2.1 56 = .ok (.iload_n 2, 1) := mj_d (q := (56, .iload_n 2, 1)) k_Mo_close 37 rfl
theorem d_Mo_close_57 : decode y_Mo_close.2.2.1 57 = .ok (.ifCond .ne 8, 3) := mj_d (q := (57, .ifCond .ne 8, 3)) k_Mo_close 38 rfl
theorem d_Mo_close_60 : decode y_Mo_close.2.2.1 60 = .ok (.iload 4, 2) := mj_d (q := (60, .iload 4, 2)) k_Mo_close 39 rfl
theorem d_Mo_close_62 : decode y_Mo_close.2.2.1 62 = .ok (.ifCond .le 7, 3) := mj_d (q := (62, .ifCond .le 7, 3)) k_Mo_close 40 rfl
theorem d_Mo_close_65 : decode y_Mo_close.2.2.1 65 = .ok (.iconst 1, 1) := mj_d (q := (65, .iconst 1, 1)) k_Mo_close 41 rfl
theorem d_Mo_close_66 : decode y_Mo_close.2.2.1 66 = .ok (.goto 4, 3) := mj_d (q := (66, .goto 4, 3)) k_Mo_close 42 rfl
theorem d_Mo_close_69 : decode y_Mo_close.2.2.1 69 = .ok (.iconst 0, 1) := mj_d (q := (69, .iconst 0, 1)) k_Mo_close 43 rfl
theorem d_Mo_close_70 : decode y_Mo_close.2.2.1 70 = .ok (.istore_n 2, 1) := mj_d (q := (70, .istore_n 2, 1)) k_Mo_close 44 rfl
theorem d_Mo_close_71 : decode y_Mo_close.2.2.1 71 = .ok (.iinc 3 1, 3) := mj_d (q := (71, .iinc 3 1, 3)) k_Mo_close 45 rfl
theorem d_Mo_close_74 : decode y_Mo_close.2.2.1 74 = .ok (.goto (-64), 3) := mj_d (q := (74, .goto (-64), 3)) k_Mo_close 46 rfl
theorem d_Mo_close_77 : decode y_Mo_close.2.2.1 77 = .ok (.goto (-75), 3) := mj_d (q := (77, .goto (-75), 3)) k_Mo_close 47 rfl
theorem d_Mo_close_80 : decode y_Mo_close.2.2.1 80 = .ok (.return_, 1) := mj_d (q := (80, .return_, 1)) k_Mo_close 48 rfl
theorem d_Mo_follow_0 : decode y_Mo_follow.2.2.1 0 = .ok (.aload_n 0, 1) := mj_d (q := (0, .aload_n 0, 1)) k_Mo_follow 0 rfl
theorem d_Mo_follow_1 : decode y_Mo_follow.2.2.1 1 = .ok (.iload_n 2, 1) := mj_d (q := (1, .iload_n 2, 1)) k_Mo_follow 1 rfl
theorem d_Mo_follow_2 : decode y_Mo_follow.2.2.1 2 = .ok (.iload_n 3, 1) := mj_d (q := (2, .iload_n 3, 1)) k_Mo_follow 2 rfl
theorem d_Mo_follow_3 : decode y_Mo_follow.2.2.1 3 = .ok (.invokevirtual 65, 3) := mj_d (q := (3, .invokevirtual 65, 3)) k_Mo_follow 3 rfl
theorem d_Mo_follow_6 : decode y_Mo_follow.2.2.1 6 = .ok (.istore 5, 2) := mj_d (q := (6, .istore 5, 2)) k_Mo_follow 4 rfl
theorem d_Mo_follow_8 : decode y_Mo_follow.2.2.1 8 = .ok (.iconst 0, 1) := mj_d (q := (8, .iconst 0, 1)) k_Mo_follow 5 rfl
theorem d_Mo_follow_9 : decode y_Mo_follow.2.2.1 9 = .ok (.istore 6, 2) := mj_d (q := (9, .istore 6, 2)) k_Mo_follow 6 rfl
theorem d_Mo_follow_11 : decode y_Mo_follow.2.2.1 11 = .ok (.iload 5, 2) := mj_d (q := (11, .iload 5, 2)) k_Mo_follow 7 rfl
theorem d_Mo_follow_13 : decode y_Mo_follow.2.2.1 13 = .ok (.invokestatic 69, 3) := mj_d (q := (13, .invokestatic 69, 3)) k_Mo_follow 8 rfl
theorem d_Mo_follow_16 : decode y_Mo_follow.2.2.1 16 = .ok (.ifCond .eq 51, 3) := mj_d (q := (16, .ifCond .eq 51, 3)) k_Mo_follow 9 rfl
theorem d_Mo_follow_19 : decode y_Mo_follow.2.2.1 19 = .ok (.iconst 0, 1) := mj_d (q := (19, .iconst 0, 1)) k_Mo_follow 10 rfl
theorem d_Mo_follow_20 : decode y_Mo_follow.2.2.1 20 = .ok (.istore 7, 2) := mj_d (q := (20, .istore 7, 2)) k_Mo_follow 11 rfl
theorem d_Mo_follow_22 : decode y_Mo_follow.2.2.1 22 = .ok (.iload 7, 2) := mj_d (q := (22, .iload 7, 2)) k_Mo_follow 12 rfl
theorem d_Mo_follow_24 : decode y_Mo_follow.2.2.1 24 = .ok (.aload_n 0, 1) := mj_d (q := (24, .aload_n 0, 1)) k_Mo_follow 13 rfl
theorem d_Mo_follow_25 : decode y_Mo_follow.2.2.1 25 = .ok (.getfield 73, 3) := mj_d (q := (25, .getfield 73, 3)) k_Mo_follow 14 rfl
theorem d_Mo_follow_28 : decode y_Mo_follow.2.2.1 28 = .ok (.if_icmp .ge 39, 3) := mj_d (q := (28, .if_icmp .ge 39, 3)) k_Mo_follow 15 rfl
theorem d_Mo_follow_31 : decode y_Mo_follow.2.2.1 31 = .ok (.iload 6, 2) := mj_d (q := (31, .iload 6, 2)) k_Mo_follow 16 rfl
theorem d_Mo_follow_33 : decode y_Mo_follow.2.2.1 33 = .ok (.aload_n 0, 1) := mj_d (q := (33, .aload_n 0, 1)) k_Mo_follow 17 rfl
theorem d_Mo_follow_34 : decode y_Mo_follow.2.2.1 34 = .ok (.getfield 7, 3) := mj_d (q := (34, .getfield 7, 3)) k_Mo_follow 18 rfl
theorem d_Mo_follow_37 : decode y_Mo_follow.2.2.1 37 = .ok (.iload 7, 2) := mj_d (q := (37, .iload 7, 2)) k_Mo_follow 19 rfl
theorem d_Mo_follow_39 : decode y_Mo_follow.2.2.1 39 = .ok (.iaload, 1) := mj_d (q := (39, .iaload, 1)) k_Mo_follow 20 rfl
theorem d_Mo_follow_40 : decode y_Mo_follow.2.2.1 40 = .ok (.iload 5, 2) := mj_d (q := (40, .iload 5, 2)) k_Mo_follow 21 rfl
theorem d_Mo_follow_42 : decode y_Mo_follow.2.2.1 42 = .ok (.if_icmp .ne 15, 3) := mj_d (q := (42, .if_icmp .ne 15, 3)) k_Mo_follow 22 rfl
theorem d_Mo_follow_45 : decode y_Mo_follow.2.2.1 45 = .ok (.aload_n 0, 1) := mj_d (q := (45, .aload_n 0, 1)) k_Mo_follow 23 rfl
theorem d_Mo_follow_46 : decode y_Mo_follow.2.2.1 46 = .ok (.iload_n 1, 1) := mj_d (q := (46, .iload_n 1, 1)) k_Mo_follow 24 rfl
theorem d_Mo_follow_47 : decode y_Mo_follow.2.2.1 47 = .ok (.iload 7, 2) := mj_d (q := (47, .iload 7, 2)) k_Mo_follow 25 rfl
theorem d_Mo_follow_49 : decode y_Mo_follow.2.2.1 49 = .ok (.iconst 0, 1) := mj_d (q := (49, .iconst 0, 1)) k_Mo_follow 26 rfl
theorem d_Mo_follow_50 : decode y_Mo_follow.2.2.1 50 = .ok (.iload_n 1, 1) := mj_d (q := (50, .iload_n 1, 1)) k_Mo_follow 27 rfl
theorem d_Mo_follow_51 : decode y_Mo_follow.2.2.1 51 = .ok (.invokevirtual 76, 3) := mj_d (q := (51, .invokevirtual 76, 3)) k_Mo_follow 28 rfl
theorem d_Mo_follow_54 : decode y_Mo_follow.2.2.1 54 = .ok (.goto 4, 3) := mj_d (q := (54, .goto 4, 3)) k_Mo_follow 29 rfl
theorem d_Mo_follow_57 : decode y_Mo_follow.2.2.1 57 = .ok (.iconst 0, 1) := mj_d (q := (57, .iconst 0, 1)) k_Mo_follow 30 rfl
theorem d_Mo_follow_58 : decode y_Mo_follow.2.2.1 58 = .ok (.iadd, 1) := mj_d (q := (58, .iadd, 1)) k_Mo_follow 31 rfl
theorem d_Mo_follow_59 : decode y_Mo_follow.2.2.1 59 = .ok (.istore 6, 2) := mj_d (q := (59, .istore 6, 2)) k_Mo_follow 32 rfl
theorem d_Mo_follow_61 : decode y_Mo_follow.2.2.1 61 = .ok (.iinc 7 1, 3) := mj_d (q := (61, .iinc 7 1, 3)) k_Mo_follow 33 rfl
theorem d_Mo_follow_64 : decode y_Mo_follow.2.2.1 64 = .ok (.goto (-42), 3) := mj_d (q := (64, .goto (-42), 3)) k_Mo_follow 34 rfl
theorem d_Mo_follow_67 : decode y_Mo_follow.2.2.1 67 = .ok (.iload 5, 2) := mj_d (q := (67, .iload 5, 2)) k_Mo_follow 35 rfl
theorem d_Mo_follow_69 : decode y_Mo_follow.2.2.1 69 = .ok (.ifCond .ge 7, 3) := mj_d (q := (69, .ifCond .ge 7, 3)) k_Mo_follow 36 rfl
theorem d_Mo_follow_72 : decode y_Mo_follow.2.2.1 72 = .ok (.iload_n 2, 1) := mj_d (q := (72, .iload_n 2, 1)) k_Mo_follow 37 rfl
theorem d_Mo_follow_73 : decode y_Mo_follow.2.2.1 73 = .ok (.ifCond .ge 6, 3) := mj_d (q := (73, .ifCond .ge 6, 3)) k_Mo_follow 38 rfl
theorem d_Mo_follow_76 : decode y_Mo_follow.2.2.1 76 = .ok (.iload 6, 2) := mj_d (q := (76, .iload 6, 2)) k_Mo_follow 39 rfl
theorem d_Mo_follow_78 : decode y_Mo_follow.2.2.1 78 = .ok (.ireturn, 1) := mj_d (q := (78, .ireturn, 1)) k_Mo_follow 40 rfl
theorem d_Mo_follow_79 : decode y_Mo_follow.2.2.1 79 = .ok (.aload_n 0, 1) := mj_d (q := (79, .aload_n 0, 1)) k_Mo_follow 41 rfl
theorem d_Mo_follow_80 : decode y_Mo_follow.2.2.1 80 = .ok (.getfield 45, 3) := mj_d (q := (80, .getfield 45, 3)) k_Mo_follow 42 rfl
theorem d_Mo_follow_83 : decode y_Mo_follow.2.2.1 83 = .ok (.ifCond .eq 24, 3) := mj_d (q := (83, .ifCond .eq 24, 3)) k_Mo_follow 43 rfl
theorem d_Mo_follow_86 : decode y_Mo_follow.2.2.1 86 = .ok (.iload 4, 2) := mj_d (q := (86, .iload 4, 2)) k_Mo_follow 44 rfl
theorem d_Mo_follow_88 : decode y_Mo_follow.2.2.1 88 = .ok (.iload_n 1, 1) := mj_d (q := (88, .iload_n 1, 1)) k_Mo_follow 45 rfl
theorem d_Mo_follow_89 : decode y_Mo_follow.2.2.1 89 = .ok (.if_icmp .ge 18, 3) := mj_d (q := (89, .if_icmp .ge 18, 3)) k_Mo_follow 46 rfl
theorem d_Mo_follow_92 : decode y_Mo_follow.2.2.1 92 = .ok (.aload_n 0, 1) := mj_d (q := (92, .aload_n 0, 1)) k_Mo_follow 47 rfl
theorem d_Mo_follow_93 : decode y_Mo_follow.2.2.1 93 = .ok (.iload 4, 2) := mj_d (q := (93, .iload 4, 2)) k_Mo_follow 48 rfl
theorem d_Mo_follow_95 : decode y_Mo_follow.2.2.1 95 = .ok (.aload_n 0, 1) := mj_d (q := (95, .aload_n 0, 1)) k_Mo_follow 49 rfl
theorem d_Mo_follow_96 : decode y_Mo_follow.2.2.1 96 = .ok (.getfield 7, 3) := mj_d (q := (96, .getfield 7, 3)) k_Mo_follow 50 rfl
theorem d_Mo_follow_99 : decode y_Mo_follow.2.2.1 99 = .ok (.iload_n 2, 1) := mj_d (q := (99, .iload_n 2, 1)) k_Mo_follow 51 rfl
theorem d_Mo_follow_100 : decode y_Mo_follow.2.2.1 100 = .ok (.iaload, 1) := mj_d (q := (100, .iaload, 1)) k_Mo_follow 52 rfl
theorem d_Mo_follow_101 : decode y_Mo_follow.2.2.1 101 = .ok (.invokevirtual 79, 3) := mj_d (q := (101, .invokevirtual 79, 3)) k_Mo_follow 53 rfl
theorem d_Mo_follow_104 : decode y_Mo_follow.2.2.1 104 = .ok (.goto 4, 3) := mj_d (q := (104, .goto 4, 3)) k_Mo_follow 54 rfl
theorem d_Mo_follow_107 : decode y_Mo_follow.2.2.1 107 = .ok (.iconst (-1), 1) := mj_d (q := (107, .iconst (-1), 1)) k_Mo_follow 55 rfl
theorem d_Mo_follow_108 : decode y_Mo_follow.2.2.1 108 = .ok (.istore 7, 2) := mj_d (q := (108, .istore 7, 2)) k_Mo_follow 56 rfl
theorem d_Mo_follow_110 : decode y_Mo_follow.2.2.1 110 = .ok (.iload 7, 2) := mj_d (q := (110, .iload 7, 2)) k_Mo_follow 57 rfl
theorem d_Mo_follow_112 : decode y_Mo_follow.2.2.1 112 = .ok (.ifCond .lt 32, 3) := mj_d (q := (112, .ifCond .lt 32, 3)) k_Mo_follow 58 rfl
theorem d_Mo_follow_115 : decode y_Mo_follow.2.2.1 115 = .ok (.iload 6, 2) := mj_d (q := (115, .iload 6, 2)) k_Mo_follow 59 rfl
theorem d_Mo_follow_117 : decode y_Mo_follow.2.2.1 117 = .ok (.aload_n 0, 1) := mj_d (q := (117, .aload_n 0, 1)) k_Mo_follow 60 rfl
theorem d_Mo_follow_118 : decode y_Mo_follow.2.2.1 118 = .ok (.iload_n 1, 1) := mj_d (q := (118, .iload_n 1, 1)) k_Mo_follow 61 rfl
theorem d_Mo_follow_119 : decode y_Mo_follow.2.2.1 119 = .ok (.iload 7, 2) := mj_d (q := (119, .iload 7, 2)) k_Mo_follow 62 rfl
theorem d_Mo_follow_121 : decode y_Mo_follow.2.2.1 121 = .ok (.bipush 52, 2) := mj_d (q := (121, .bipush 52, 2)) k_Mo_follow 63 rfl
theorem d_Mo_follow_123 : decode y_Mo_follow.2.2.1 123 = .ok (.idiv, 1) := mj_d (q := (123, .idiv, 1)) k_Mo_follow 64 rfl
theorem d_Mo_follow_124 : decode y_Mo_follow.2.2.1 124 = .ok (.iconst 1, 1) := mj_d (q := (124, .iconst 1, 1)) k_Mo_follow 65 rfl
theorem d_Mo_follow_125 : decode y_Mo_follow.2.2.1 125 = .ok (.isub, 1) := mj_d (q := (125, .isub, 1)) k_Mo_follow 66 rfl
theorem d_Mo_follow_126 : decode y_Mo_follow.2.2.1 126 = .ok (.iload 7, 2) := mj_d (q := (126, .iload 7, 2)) k_Mo_follow 67 rfl
theorem d_Mo_follow_128 : decode y_Mo_follow.2.2.1 128 = .ok (.bipush 52, 2) := mj_d (q := (128, .bipush 52, 2)) k_Mo_follow 68 rfl
theorem d_Mo_follow_130 : decode y_Mo_follow.2.2.1 130 = .ok (.irem, 1) := mj_d (q := (130, .irem, 1)) k_Mo_follow 69 rfl
theorem d_Mo_follow_131 : decode y_Mo_follow.2.2.1 131 = .ok (.bipush 13, 2) := mj_d (q := (131, .bipush 13, 2)) k_Mo_follow 70 rfl
theorem d_Mo_follow_133 : decode y_Mo_follow.2.2.1 133 = .ok (.idiv, 1) := mj_d (q := (133, .idiv, 1)) k_Mo_follow 71 rfl
theorem d_Mo_follow_134 : decode y_Mo_follow.2.2.1 134 = .ok (.iload 7, 2) := mj_d (q := (134, .iload 7, 2)) k_Mo_follow 72 rfl
theorem d_Mo_follow_136 : decode y_Mo_follow.2.2.1 136 = .ok (.bipush 13, 2) := mj_d (q := (136, .bipush 13, 2)) k_Mo_follow 73 rfl
theorem d_Mo_follow_138 : decode y_Mo_follow.2.2.1 138 = .ok (.irem, 1) := mj_d (q := (138, .irem, 1)) k_Mo_follow 74 rfl
theorem d_Mo_follow_139 : decode y_Mo_follow.2.2.1 139 = .ok (.invokevirtual 76, 3) := mj_d (q := (139, .invokevirtual 76, 3)) k_Mo_follow 75 rfl
theorem d_Mo_follow_142 : decode y_Mo_follow.2.2.1 142 = .ok (.iadd, 1) := mj_d (q := (142, .iadd, 1)) k_Mo_follow 76 rfl
theorem d_Mo_follow_143 : decode y_Mo_follow.2.2.1 143 = .ok (.ireturn, 1) := mj_d (q := (143, .ireturn, 1)) k_Mo_follow 77 rfl
theorem d_Mo_follow_144 : decode y_Mo_follow.2.2.1 144 = .ok (.iconst 0, 1) := mj_d (q := (144, .iconst 0, 1)) k_Mo_follow 78 rfl
theorem d_Mo_follow_145 : decode y_Mo_follow.2.2.1 145 = .ok (.istore 8, 2) := mj_d (q := (145, .istore 8, 2)) k_Mo_follow 79 rfl
theorem d_Mo_follow_147 : decode y_Mo_follow.2.2.1 147 = .ok (.iload 8, 2) := mj_d (q := (147, .iload 8, 2)) k_Mo_follow 80 rfl
theorem d_Mo_follow_149 : decode y_Mo_follow.2.2.1 149 = .ok (.sipush 572, 3) := mj_d (q := (149, .sipush 572, 3)) k_Mo_follow 81 rfl
theorem d_Mo_follow_152 : decode y_Mo_follow.2.2.1 152 = .ok (.if_icmp .ge 86, 3) := mj_d (q := (152, .if_icmp .ge 86, 3)) k_Mo_follow 82 rfl
theorem d_Mo_follow_155 : decode y_Mo_follow.2.2.1 155 = .ok (.aload_n 0, 1) := mj_d (q := (155, .aload_n 0, 1)) k_Mo_follow 83 rfl
theorem d_Mo_follow_156 : decode y_Mo_follow.2.2.1 156 = .ok (.getfield 22, 3) := mj_d (q := (156, .getfield 22, 3)) k_Mo_follow 84 rfl
theorem d_Mo_follow_159 : decode y_Mo_follow.2.2.1 159 = .ok (.sipush 572, 3) := mj_d (q := (159, .sipush 572, 3)) k_Mo_follow 85 rfl
theorem d_Mo_follow_162 : decode y_Mo_follow.2.2.1 162 = .ok (.iload 4, 2) := mj_d (q := (162, .iload 4, 2)) k_Mo_follow 86 rfl
theorem d_Mo_follow_164 : decode y_Mo_follow.2.2.1 164 = .ok (.imul, 1) := mj_d (q := (164, .imul, 1)) k_Mo_follow 87 rfl
theorem d_Mo_follow_165 : decode y_Mo_follow.2.2.1 165 = .ok (.iload 8, 2) := mj_d (q := (165, .iload 8, 2)) k_Mo_follow 88 rfl
theorem d_Mo_follow_167 : decode y_Mo_follow.2.2.1 167 = .ok (.iadd, 1) := mj_d (q := (167, .iadd, 1)) k_Mo_follow 89 rfl
theorem d_Mo_follow_168 : decode y_Mo_follow.2.2.1 168 = .ok (.baload, 1) := mj_d (q := (168, .baload, 1)) k_Mo_follow 90 rfl
theorem d_Mo_follow_169 : decode y_Mo_follow.2.2.1 169 = .ok (.ifCond .eq 63, 3) := mj_d (q := (169, .ifCond .eq 63, 3)) k_Mo_follow 91 rfl
theorem d_Mo_follow_172 : decode y_Mo_follow.2.2.1 172 = .ok (.aload_n 0, 1) := mj_d (q := (172, .aload_n 0, 1)) k_Mo_follow 92 rfl
theorem d_Mo_follow_173 : decode y_Mo_follow.2.2.1 173 = .ok (.iload 8, 2) := mj_d (q := (173, .iload 8, 2)) k_Mo_follow 93 rfl
theorem d_Mo_follow_175 : decode y_Mo_follow.2.2.1 175 = .ok (.bipush 52, 2) := mj_d (q := (175, .bipush 52, 2)) k_Mo_follow 94 rfl
theorem d_Mo_follow_177 : decode y_Mo_follow.2.2.1 177 = .ok (.idiv, 1) := mj_d (q := (177, .idiv, 1)) k_Mo_follow 95 rfl
theorem d_Mo_follow_178 : decode y_Mo_follow.2.2.1 178 = .ok (.iconst 1, 1) := mj_d (q := (178, .iconst 1, 1)) k_Mo_follow 96 rfl
theorem d_Mo_follow_179 : decode y_Mo_follow.2.2.1 179 = .ok (.isub, 1) := mj_d (q := (179, .isub, 1)) k_Mo_follow 97 rfl
theorem d_Mo_follow_180 : decode y_Mo_follow.2.2.1 180 = .ok (.iload 8, 2) := mj_d (q := (180, .iload 8, 2)) k_Mo_follow 98 rfl
theorem d_Mo_follow_182 : decode y_Mo_follow.2.2.1 182 = .ok (.bipush 52, 2) := mj_d (q := (182, .bipush 52, 2)) k_Mo_follow 99 rfl
theorem d_Mo_follow_184 : decode y_Mo_follow.2.2.1 184 = .ok (.irem, 1) := mj_d (q := (184, .irem, 1)) k_Mo_follow 100 rfl
theorem d_Mo_follow_185 : decode y_Mo_follow.2.2.1 185 = .ok (.bipush 13, 2) := mj_d (q := (185, .bipush 13, 2)) k_Mo_follow 101 rfl
theorem d_Mo_follow_187 : decode y_Mo_follow.2.2.1 187 = .ok (.idiv, 1) := mj_d (q := (187, .idiv, 1)) k_Mo_follow 102 rfl
theorem d_Mo_follow_188 : decode y_Mo_follow.2.2.1 188 = .ok (.invokevirtual 65, 3) := mj_d (q := (188, .invokevirtual 65, 3)) k_Mo_follow 103 rfl
theorem d_Mo_follow_191 : decode y_Mo_follow.2.2.1 191 = .ok (.aload_n 0, 1) := mj_d (q := (191, .aload_n 0, 1)) k_Mo_follow 104 rfl
theorem d_Mo_follow_192 : decode y_Mo_follow.2.2.1 192 = .ok (.getfield 7, 3) := mj_d (q := (192, .getfield 7, 3)) k_Mo_follow 105 rfl
theorem d_Mo_follow_195 : decode y_Mo_follow.2.2.1 195 = .ok (.iload_n 2, 1) := mj_d (q := (195, .iload_n 2, 1)) k_Mo_follow 106 rfl
theorem d_Mo_follow_196 : decode y_Mo_follow.2.2.1 196 = .ok (.iaload, 1) := mj_d (q := (196, .iaload, 1)) k_Mo_follow 107 rfl
theorem d_Mo_follow_197 : decode y_Mo_follow.2.2.1 197 = .ok (.if_icmp .ne 35, 3) := mj_d (q := (197, .if_icmp .ne 35, 3)) k_Mo_follow 108 rfl
theorem d_Mo_follow_200 : decode y_Mo_follow.2.2.1 200 = .ok (.iload 6, 2) := mj_d (q := (200, .iload 6, 2)) k_Mo_follow 109 rfl
theorem d_Mo_follow_202 : decode y_Mo_follow.2.2.1 202 = .ok (.aload_n 0, 1) := mj_d (q := (202, .aload_n 0, 1)) k_Mo_follow 110 rfl
theorem d_Mo_follow_203 : decode y_Mo_follow.2.2.1 203 = .ok (.iload_n 1, 1) := mj_d (q := (203, .iload_n 1, 1)) k_Mo_follow 111 rfl
theorem d_Mo_follow_204 : decode y_Mo_follow.2.2.1 204 = .ok (.iload 8, 2) := mj_d (q := (204, .iload 8, 2)) k_Mo_follow 112 rfl
theorem d_Mo_follow_206 : decode y_Mo_follow.2.2.1 206 = .ok (.bipush 52, 2) := mj_d (q := (206, .bipush 52, 2)) k_Mo_follow 113 rfl
theorem d_Mo_follow_208 : decode y_Mo_follow.2.2.1 208 = .ok (.idiv, 1) := mj_d (q := (208, .idiv, 1)) k_Mo_follow 114 rfl
theorem d_Mo_follow_209 : decode y_Mo_follow.2.2.1 209 = .ok (.iconst 1, 1) := mj_d (q := (209, .iconst 1, 1)) k_Mo_follow 115 rfl
theorem d_Mo_follow_210 : decode y_Mo_follow.2.2.1 210 = .ok (.isub, 1) := mj_d (q := (210, .isub, 1)) k_Mo_follow 116 rfl
theorem d_Mo_follow_211 : decode y_Mo_follow.2.2.1 211 = .ok (.iload 8, 2) := mj_d (q := (211, .iload 8, 2)) k_Mo_follow 117 rfl
theorem d_Mo_follow_213 : decode y_Mo_follow.2.2.1 213 = .ok (.bipush 52, 2) := mj_d (q := (213, .bipush 52, 2)) k_Mo_follow 118 rfl
theorem d_Mo_follow_215 : decode y_Mo_follow.2.2.1 215 = .ok (.irem, 1) := mj_d (q := (215, .irem, 1)) k_Mo_follow 119 rfl
theorem d_Mo_follow_216 : decode y_Mo_follow.2.2.1 216 = .ok (.bipush 13, 2) := mj_d (q := (216, .bipush 13, 2)) k_Mo_follow 120 rfl
theorem d_Mo_follow_218 : decode y_Mo_follow.2.2.1 218 = .ok (.idiv, 1) := mj_d (q := (218, .idiv, 1)) k_Mo_follow 121 rfl
theorem d_Mo_follow_219 : decode y_Mo_follow.2.2.1 219 = .ok (.iconst 1, 1) := mj_d (q := (219, .iconst 1, 1)) k_Mo_follow 122 rfl
theorem d_Mo_follow_220 : decode y_Mo_follow.2.2.1 220 = .ok (.iadd, 1) := mj_d (q := (220, .iadd, 1)) k_Mo_follow 123 rfl
theorem d_Mo_follow_221 : decode y_Mo_follow.2.2.1 221 = .ok (.iload 8, 2) := mj_d (q := (221, .iload 8, 2)) k_Mo_follow 124 rfl
theorem d_Mo_follow_223 : decode y_Mo_follow.2.2.1 223 = .ok (.bipush 13, 2) := mj_d (q := (223, .bipush 13, 2)) k_Mo_follow 125 rfl
theorem d_Mo_follow_225 : decode y_Mo_follow.2.2.1 225 = .ok (.irem, 1) := mj_d (q := (225, .irem, 1)) k_Mo_follow 126 rfl
theorem d_Mo_follow_226 : decode y_Mo_follow.2.2.1 226 = .ok (.invokevirtual 76, 3) := mj_d (q := (226, .invokevirtual 76, 3)) k_Mo_follow 127 rfl
theorem d_Mo_follow_229 : decode y_Mo_follow.2.2.1 229 = .ok (.iadd, 1) := mj_d (q := (229, .iadd, 1)) k_Mo_follow 128 rfl
theorem d_Mo_follow_230 : decode y_Mo_follow.2.2.1 230 = .ok (.istore 6, 2) := mj_d (q := (230, .istore 6, 2)) k_Mo_follow 129 rfl
theorem d_Mo_follow_232 : decode y_Mo_follow.2.2.1 232 = .ok (.iinc 8 1, 3) := mj_d (q := (232, .iinc 8 1, 3)) k_Mo_follow 130 rfl
theorem d_Mo_follow_235 : decode y_Mo_follow.2.2.1 235 = .ok (.goto (-88), 3) := mj_d (q := (235, .goto (-88), 3)) k_Mo_follow 131 rfl
theorem d_Mo_follow_238 : decode y_Mo_follow.2.2.1 238 = .ok (.iload 6, 2) := mj_d (q := (238, .iload 6, 2)) k_Mo_follow 132 rfl
theorem d_Mo_follow_240 : decode y_Mo_follow.2.2.1 240 = .ok (.ireturn, 1) := mj_d (q := (240, .ireturn, 1)) k_Mo_follow 133 rfl
theorem d_Mo_isNonterminal_0 : decode y_Mo_isNonterminal.2.2.1 0 = .ok (.iload_n 0, 1) := mj_d (q := (0, .iload_n 0, 1)) k_Mo_isNonterminal 0 rfl
theorem d_Mo_isNonterminal_1 : decode y_Mo_isNonterminal.2.2.1 1 = .ok (.ifCond .lt 12, 3) := mj_d (q := (1, .ifCond .lt 12, 3)) k_Mo_isNonterminal 1 rfl
theorem d_Mo_isNonterminal_4 : decode y_Mo_isNonterminal.2.2.1 4 = .ok (.iload_n 0, 1) := mj_d (q := (4, .iload_n 0, 1)) k_Mo_isNonterminal 2 rfl
theorem d_Mo_isNonterminal_5 : decode y_Mo_isNonterminal.2.2.1 5 = .ok (.iconst 4, 1) := mj_d (q := (5, .iconst 4, 1)) k_Mo_isNonterminal 3 rfl
theorem d_Mo_isNonterminal_6 : decode y_Mo_isNonterminal.2.2.1 6 = .ok (.if_icmp .gt 7, 3) := mj_d (q := (6, .if_icmp .gt 7, 3)) k_Mo_isNonterminal 4 rfl
theorem d_Mo_isNonterminal_9 : decode y_Mo_isNonterminal.2.2.1 9 = .ok (.iconst 1, 1) := mj_d (q := (9, .iconst 1, 1)) k_Mo_isNonterminal 5 rfl
theorem d_Mo_isNonterminal_10 : decode y_Mo_isNonterminal.2.2.1 10 = .ok (.goto 4, 3) := mj_d (q := (10, .goto 4, 3)) k_Mo_isNonterminal 6 rfl
theorem d_Mo_isNonterminal_13 : decode y_Mo_isNonterminal.2.2.1 13 = .ok (.iconst 0, 1) := mj_d (q := (13, .iconst 0, 1)) k_Mo_isNonterminal 7 rfl
theorem d_Mo_isNonterminal_14 : decode y_Mo_isNonterminal.2.2.1 14 = .ok (.ireturn, 1) := mj_d (q := (14, .ireturn, 1)) k_Mo_isNonterminal 8 rfl
theorem d_Mo_add_0 : decode y_Mo_add.2.2.1 0 = .ok (.iload_n 1, 1) := mj_d (q := (0, .iload_n 1, 1)) k_Mo_add 0 rfl
theorem d_Mo_add_1 : decode y_Mo_add.2.2.1 1 = .ok (.iload_n 2, 1) := mj_d (q := (1, .iload_n 2, 1)) k_Mo_add 1 rfl
theorem d_Mo_add_2 : decode y_Mo_add.2.2.1 2 = .ok (.iload_n 3, 1) := mj_d (q := (2, .iload_n 3, 1)) k_Mo_add 2 rfl
theorem d_Mo_add_3 : decode y_Mo_add.2.2.1 3 = .ok (.iload 4, 2) := mj_d (q := (3, .iload 4, 2)) k_Mo_add 3 rfl
theorem d_Mo_add_5 : decode y_Mo_add.2.2.1 5 = .ok (.invokestatic 61, 3) := mj_d (q := (5, .invokestatic 61, 3)) k_Mo_add 4 rfl
theorem d_Mo_add_8 : decode y_Mo_add.2.2.1 8 = .ok (.istore 5, 2) := mj_d (q := (8, .istore 5, 2)) k_Mo_add 5 rfl
theorem d_Mo_add_10 : decode y_Mo_add.2.2.1 10 = .ok (.aload_n 0, 1) := mj_d (q := (10, .aload_n 0, 1)) k_Mo_add 6 rfl
theorem d_Mo_add_11 : decode y_Mo_add.2.2.1 11 = .ok (.getfield 22, 3) := mj_d (q := (11, .getfield 22, 3)) k_Mo_add 7 rfl
theorem d_Mo_add_14 : decode y_Mo_add.2.2.1 14 = .ok (.iload 5, 2) := mj_d (q := (14, .iload 5, 2)) k_Mo_add 8 rfl
theorem d_Mo_add_16 : decode y_Mo_add.2.2.1 16 = .ok (.baload, 1) := mj_d (q := (16, .baload, 1)) k_Mo_add 9 rfl
theorem d_Mo_add_17 : decode y_Mo_add.2.2.1 17 = .ok (.ifCond .eq 5, 3) := mj_d (q := (17, .ifCond .eq 5, 3)) k_Mo_add 10 rfl
theorem d_Mo_add_20 : decode y_Mo_add.2.2.1 20 = .ok (.iconst 0, 1) := mj_d (q := (20, .iconst 0, 1)) k_Mo_add 11 rfl
theorem d_Mo_add_21 : decode y_Mo_add.2.2.1 21 = .ok (.ireturn, 1) := mj_d (q := (21, .ireturn, 1)) k_Mo_add 12 rfl
theorem d_Mo_add_22 : decode y_Mo_add.2.2.1 22 = .ok (.aload_n 0, 1) := mj_d (q := (22, .aload_n 0, 1)) k_Mo_add 13 rfl
theorem d_Mo_add_23 : decode y_Mo_add.2.2.1 23 = .ok (.getfield 22, 3) := mj_d (q := (23, .getfield 22, 3)) k_Mo_add 14 rfl
theorem d_Mo_add_26 : decode y_Mo_add.2.2.1 26 = .ok (.iload 5, 2) := mj_d (q := (26, .iload 5, 2)) k_Mo_add 15 rfl
theorem d_Mo_add_28 : decode y_Mo_add.2.2.1 28 = .ok (.iconst 1, 1) := mj_d (q := (28, .iconst 1, 1)) k_Mo_add 16 rfl
theorem d_Mo_add_29 : decode y_Mo_add.2.2.1 29 = .ok (.bastore, 1) := mj_d (q := (29, .bastore, 1)) k_Mo_add 17 rfl
theorem d_Mo_add_30 : decode y_Mo_add.2.2.1 30 = .ok (.iconst 1, 1) := mj_d (q := (30, .iconst 1, 1)) k_Mo_add 18 rfl
theorem d_Mo_add_31 : decode y_Mo_add.2.2.1 31 = .ok (.ireturn, 1) := mj_d (q := (31, .ireturn, 1)) k_Mo_add 19 rfl
theorem d_Mo_place_0 : decode y_Mo_place.2.2.1 0 = .ok (.sipush 572, 3) := mj_d (q := (0, .sipush 572, 3)) k_Mo_place 0 rfl
theorem d_Mo_place_3 : decode y_Mo_place.2.2.1 3 = .ok (.iload_n 0, 1) := mj_d (q := (3, .iload_n 0, 1)) k_Mo_place 1 rfl
theorem d_Mo_place_4 : decode y_Mo_place.2.2.1 4 = .ok (.imul, 1) := mj_d (q := (4, .imul, 1)) k_Mo_place 2 rfl
theorem d_Mo_place_5 : decode y_Mo_place.2.2.1 5 = .ok (.bipush 52, 2) := mj_d (q := (5, .bipush 52, 2)) k_Mo_place 3 rfl
theorem d_Mo_place_7 : decode y_Mo_place.2.2.1 7 = .ok (.iload_n 1, 1) := mj_d (q := (7, .iload_n 1, 1)) k_Mo_place 4 rfl
theorem d_Mo_place_8 : decode y_Mo_place.2.2.1 8 = .ok (.iconst 1, 1) := mj_d (q := (8, .iconst 1, 1)) k_Mo_place 5 rfl
theorem d_Mo_place_9 : decode y_Mo_place.2.2.1 9 = .ok (.iadd, 1) := mj_d (q := (9, .iadd, 1)) k_Mo_place 6 rfl
theorem d_Mo_place_10 : decode y_Mo_place.2.2.1 10 = .ok (.imul, 1) := mj_d (q := (10, .imul, 1)) k_Mo_place 7 rfl
theorem d_Mo_place_11 : decode y_Mo_place.2.2.1 11 = .ok (.iadd, 1) := mj_d (q := (11, .iadd, 1)) k_Mo_place 8 rfl
theorem d_Mo_place_12 : decode y_Mo_place.2.2.1 12 = .ok (.bipush 13, 2) := mj_d (q := (12, .bipush 13, 2)) k_Mo_place 9 rfl
theorem d_Mo_place_14 : decode y_Mo_place.2.2.1 14 = .ok (.iload_n 2, 1) := mj_d (q := (14, .iload_n 2, 1)) k_Mo_place 10 rfl
theorem d_Mo_place_15 : decode y_Mo_place.2.2.1 15 = .ok (.imul, 1) := mj_d (q := (15, .imul, 1)) k_Mo_place 11 rfl
theorem d_Mo_place_16 : decode y_Mo_place.2.2.1 16 = .ok (.iadd, 1) := mj_d (q := (16, .iadd, 1)) k_Mo_place 12 rfl
theorem d_Mo_place_17 : decode y_Mo_place.2.2.1 17 = .ok (.iload_n 3, 1) := mj_d (q := (17, .iload_n 3, 1)) k_Mo_place 13 rfl
theorem d_Mo_place_18 : decode y_Mo_place.2.2.1 18 = .ok (.iadd, 1) := mj_d (q := (18, .iadd, 1)) k_Mo_place 14 rfl
theorem d_Mo_place_19 : decode y_Mo_place.2.2.1 19 = .ok (.ireturn, 1) := mj_d (q := (19, .ireturn, 1)) k_Mo_place 15 rfl
theorem d_Mo_leapOf_0 : decode y_Mo_leapOf.2.2.1 0 = .ok (.iconst (-1), 1) := mj_d (q := (0, .iconst (-1), 1)) k_Mo_leapOf 0 rfl
theorem d_Mo_leapOf_1 : decode y_Mo_leapOf.2.2.1 1 = .ok (.istore_n 3, 1) := mj_d (q := (1, .istore_n 3, 1)) k_Mo_leapOf 1 rfl
theorem d_Mo_leapOf_2 : decode y_Mo_leapOf.2.2.1 2 = .ok (.iload_n 1, 1) := mj_d (q := (2, .iload_n 1, 1)) k_Mo_leapOf 2 rfl
theorem d_Mo_leapOf_3 : decode y_Mo_leapOf.2.2.1 3 = .ok (.istore 4, 2) := mj_d (q := (3, .istore 4, 2)) k_Mo_leapOf 3 rfl
theorem d_Mo_leapOf_5 : decode y_Mo_leapOf.2.2.1 5 = .ok (.iload_n 2, 1) := mj_d (q := (5, .iload_n 2, 1)) k_Mo_leapOf 4 rfl
theorem d_Mo_leapOf_6 : decode y_Mo_leapOf.2.2.1 6 = .ok (.istore 5, 2) := mj_d (q := (6, .istore 5, 2)) k_Mo_leapOf 5 rfl
theorem d_Mo_leapOf_8 : decode y_Mo_leapOf.2.2.1 8 = .ok (.iload 4, 2) := mj_d (q := (8, .iload 4, 2)) k_Mo_leapOf 6 rfl
theorem d_Mo_leapOf_10 : decode y_Mo_leapOf.2.2.1 10 = .ok (.ifCond .lt 181, 3) := mj_d (q := (10, .ifCond .lt 181, 3)) k_Mo_leapOf 7 rfl
theorem d_Mo_leapOf_13 : decode y_Mo_leapOf.2.2.1 13 = .ok (.iconst 0, 1) := mj_d (q := (13, .iconst 0, 1)) k_Mo_leapOf 8 rfl
theorem d_Mo_leapOf_14 : decode y_Mo_leapOf.2.2.1 14 = .ok (.istore 6, 2) := mj_d (q := (14, .istore 6, 2)) k_Mo_leapOf 9 rfl
theorem d_Mo_leapOf_16 : decode y_Mo_leapOf.2.2.1 16 = .ok (.iconst 0, 1) := mj_d (q := (16, .iconst 0, 1)) k_Mo_leapOf 10 rfl
theorem d_Mo_leapOf_17 : decode y_Mo_leapOf.2.2.1 17 = .ok (.istore 7, 2) := mj_d (q := (17, .istore 7, 2)) k_Mo_leapOf 11 rfl
theorem d_Mo_leapOf_19 : decode y_Mo_leapOf.2.2.1 19 = .ok (.iconst 0, 1) := mj_d (q := (19, .iconst 0, 1)) k_Mo_leapOf 12 rfl
theorem d_Mo_leapOf_20 : decode y_Mo_leapOf.2.2.1 20 = .ok (.istore 8, 2) := mj_d (q := (20, .istore 8, 2)) k_Mo_leapOf 13 rfl
theorem d_Mo_leapOf_22 : decode y_Mo_leapOf.2.2.1 22 = .ok (.iload 8, 2) := mj_d (q := (22, .iload 8, 2)) k_Mo_leapOf 14 rfl
theorem d_Mo_leapOf_24 : decode y_Mo_leapOf.2.2.1 24 = .ok (.sipush 572, 3) := mj_d (q := (24, .sipush 572, 3)) k_Mo_leapOf 15 rfl
theorem d_Mo_leapOf_27 : decode y_Mo_leapOf.2.2.1 27 = .ok (.if_icmp .ge 57, 3) := mj_d (q := (27, .if_icmp .ge 57, 3)) k_Mo_leapOf 16 rfl
theorem d_Mo_leapOf_30 : decode y_Mo_leapOf.2.2.1 30 = .ok (.aload_n 0, 1) := mj_d (q := (30, .aload_n 0, 1)) k_Mo_leapOf 17 rfl
theorem d_Mo_leapOf_31 : decode y_Mo_leapOf.2.2.1 31 = .ok (.getfield 22, 3) := mj_d (q := (31, .getfield 22, 3)) k_Mo_leapOf 18 rfl
theorem d_Mo_leapOf_34 : decode y_Mo_leapOf.2.2.1 34 = .ok (.sipush 572, 3) := mj_d (q := (34, .sipush 572, 3)) k_Mo_leapOf 19 rfl
theorem d_Mo_leapOf_37 : decode y_Mo_leapOf.2.2.1 37 = .ok (.iload 4, 2) := mj_d (q := (37, .iload 4, 2)) k_Mo_leapOf 20 rfl
theorem d_Mo_leapOf_39 : decode y_Mo_leapOf.2.2.1 39 = .ok (.imul, 1) := mj_d (q := (39, .imul, 1)) k_Mo_leapOf 21 rfl
theorem d_Mo_leapOf_40 : decode y_Mo_leapOf.2.2.1 40 = .ok (.iload 8, 2) := mj_d (q := (40, .iload 8, 2)) k_Mo_leapOf 22 rfl
theorem d_Mo_leapOf_42 : decode y_Mo_leapOf.2.2.1 42 = .ok (.iadd, 1) := mj_d (q := (42, .iadd, 1)) k_Mo_leapOf 23 rfl
theorem d_Mo_leapOf_43 : decode y_Mo_leapOf.2.2.1 43 = .ok (.baload, 1) := mj_d (q := (43, .baload, 1)) k_Mo_leapOf 24 rfl
theorem d_Mo_leapOf_44 : decode y_Mo_leapOf.2.2.1 44 = .ok (.ifCond .eq 34, 3) := mj_d (q := (44, .ifCond .eq 34, 3)) k_Mo_leapOf 25 rfl
theorem d_Mo_leapOf_47 : decode y_Mo_leapOf.2.2.1 47 = .ok (.aload_n 0, 1) := mj_d (q := (47, .aload_n 0, 1)) k_Mo_leapOf 26 rfl
theorem d_Mo_leapOf_48 : decode y_Mo_leapOf.2.2.1 48 = .ok (.iload 8, 2) := mj_d (q := (48, .iload 8, 2)) k_Mo_leapOf 27 rfl
theorem d_Mo_leapOf_50 : decode y_Mo_leapOf.2.2.1 50 = .ok (.bipush 52, 2) := mj_d (q := (50, .bipush 52, 2)) k_Mo_leapOf 28 rfl
theorem d_Mo_leapOf_52 : decode y_Mo_leapOf.2.2.1 52 = .ok (.idiv, 1) := mj_d (q := (52, .idiv, 1)) k_Mo_leapOf 29 rfl
theorem d_Mo_leapOf_53 : decode y_Mo_leapOf.2.2.1 53 = .ok (.iconst 1, 1) := mj_d (q := (53, .iconst 1, 1)) k_Mo_leapOf 30 rfl
theorem d_Mo_leapOf_54 : decode y_Mo_leapOf.2.2.1 54 = .ok (.isub, 1) := mj_d (q := (54, .isub, 1)) k_Mo_leapOf 31 rfl
theorem d_Mo_leapOf_55 : decode y_Mo_leapOf.2.2.1 55 = .ok (.iload 8, 2) := mj_d (q := (55, .iload 8, 2)) k_Mo_leapOf 32 rfl
theorem d_Mo_leapOf_57 : decode y_Mo_leapOf.2.2.1 57 = .ok (.bipush 52, 2) := mj_d (q := (57, .bipush 52, 2)) k_Mo_leapOf 33 rfl
theorem d_Mo_leapOf_59 : decode y_Mo_leapOf.2.2.1 59 = .ok (.irem, 1) := mj_d (q := (59, .irem, 1)) k_Mo_leapOf 34 rfl
theorem d_Mo_leapOf_60 : decode y_Mo_leapOf.2.2.1 60 = .ok (.bipush 13, 2) := mj_d (q := (60, .bipush 13, 2)) k_Mo_leapOf 35 rfl
theorem d_Mo_leapOf_62 : decode y_Mo_leapOf.2.2.1 62 = .ok (.idiv, 1) := mj_d (q := (62, .idiv, 1)) k_Mo_leapOf 36 rfl
theorem d_Mo_leapOf_63 : decode y_Mo_leapOf.2.2.1 63 = .ok (.invokevirtual 65, 3) := mj_d (q := (63, .invokevirtual 65, 3)) k_Mo_leapOf 37 rfl
theorem d_Mo_leapOf_66 : decode y_Mo_leapOf.2.2.1 66 = .ok (.iload 5, 2) := mj_d (q := (66, .iload 5, 2)) k_Mo_leapOf 38 rfl
theorem d_Mo_leapOf_68 : decode y_Mo_leapOf.2.2.1 68 = .ok (.if_icmp .ne 10, 3) := mj_d (q := (68, .if_icmp .ne 10, 3)) k_Mo_leapOf 39 rfl
theorem d_Mo_leapOf_71 : decode y_Mo_leapOf.2.2.1 71 = .ok (.iinc 6 1, 3) := mj_d (q := (71, .iinc 6 1, 3)) k_Mo_leapOf 40 rfl
theorem d_Mo_leapOf_74 : decode y_Mo_leapOf.2.2.1 74 = .ok (.iload 8, 2) := mj_d (q := (74, .iload 8, 2)) k_Mo_leapOf 41 rfl
theorem d_Mo_leapOf_76 : decode y_Mo_leapOf.2.2.1 76 = .ok (.istore 7, 2) := mj_d (q := (76, .istore 7, 2)) k_Mo_leapOf 42 rfl
theorem d_Mo_leapOf_78 : decode y_Mo_leapOf.2.2.1 78 = .ok (.iinc 8 1, 3) := mj_d (q := (78, .iinc 8 1, 3)) k_Mo_leapOf 43 rfl
theorem d_Mo_leapOf_81 : decode y_Mo_leapOf.2.2.1 81 = .ok (.goto (-59), 3) := mj_d (q := (81, .goto (-59), 3)) k_Mo_leapOf 44 rfl
theorem d_Mo_leapOf_84 : decode y_Mo_leapOf.2.2.1 84 = .ok (.iload 7, 2) := mj_d (q := (84, .iload 7, 2)) k_Mo_leapOf 45 rfl
theorem d_Mo_leapOf_86 : decode y_Mo_leapOf.2.2.1 86 = .ok (.bipush 52, 2) := mj_d (q := (86, .bipush 52, 2)) k_Mo_leapOf 46 rfl
theorem d_Mo_leapOf_88 : decode y_Mo_leapOf.2.2.1 88 = .ok (.idiv, 1) := mj_d (q := (88, .idiv, 1)) k_Mo_leapOf 47 rfl
theorem d_Mo_leapOf_89 : decode y_Mo_leapOf.2.2.1 89 = .ok (.iconst 1, 1) := mj_d (q := (89, .iconst 1, 1)) k_Mo_leapOf 48 rfl
theorem d_Mo_leapOf_90 : decode y_Mo_leapOf.2.2.1 90 = .ok (.isub, 1) := mj_d (q := (90, .isub, 1)) k_Mo_leapOf 49 rfl
theorem d_Mo_leapOf_91 : decode y_Mo_leapOf.2.2.1 91 = .ok (.istore 8, 2) := mj_d (q := (91, .istore 8, 2)) k_Mo_leapOf 50 rfl
theorem d_Mo_leapOf_93 : decode y_Mo_leapOf.2.2.1 93 = .ok (.iload 7, 2) := mj_d (q := (93, .iload 7, 2)) k_Mo_leapOf 51 rfl
theorem d_Mo_leapOf_95 : decode y_Mo_leapOf.2.2.1 95 = .ok (.bipush 52, 2) := mj_d (q := (95, .bipush 52, 2)) k_Mo_leapOf 52 rfl
theorem d_Mo_leapOf_97 : decode y_Mo_leapOf.2.2.1 97 = .ok (.irem, 1) := mj_d (q := (97, .irem, 1)) k_Mo_leapOf 53 rfl
theorem d_Mo_leapOf_98 : decode y_Mo_leapOf.2.2.1 98 = .ok (.bipush 13, 2) := mj_d (q := (98, .bipush 13, 2)) k_Mo_leapOf 54 rfl
theorem d_Mo_leapOf_100 : decode y_Mo_leapOf.2.2.1 100 = .ok (.idiv, 1) := mj_d (q := (100, .idiv, 1)) k_Mo_leapOf 55 rfl
theorem d_Mo_leapOf_101 : decode y_Mo_leapOf.2.2.1 101 = .ok (.istore 9, 2) := mj_d (q := (101, .istore 9, 2)) k_Mo_leapOf 56 rfl
theorem d_Mo_leapOf_103 : decode y_Mo_leapOf.2.2.1 103 = .ok (.iload 7, 2) := mj_d (q := (103, .iload 7, 2)) k_Mo_leapOf 57 rfl
theorem d_Mo_leapOf_105 : decode y_Mo_leapOf.2.2.1 105 = .ok (.bipush 13, 2) := mj_d (q := (105, .bipush 13, 2)) k_Mo_leapOf 58 rfl
theorem d_Mo_leapOf_107 : decode y_Mo_leapOf.2.2.1 107 = .ok (.irem, 1) := mj_d (q := (107, .irem, 1)) k_Mo_leapOf 59 rfl
theorem d_Mo_leapOf_108 : decode y_Mo_leapOf.2.2.1 108 = .ok (.istore 10, 2) := mj_d (q := (108, .istore 10, 2)) k_Mo_leapOf 60 rfl
theorem d_Mo_leapOf_110 : decode y_Mo_leapOf.2.2.1 110 = .ok (.iload 6, 2) := mj_d (q := (110, .iload 6, 2)) k_Mo_leapOf 61 rfl
theorem d_Mo_leapOf_112 : decode y_Mo_leapOf.2.2.1 112 = .ok (.iconst 1, 1) := mj_d (q := (112, .iconst 1, 1)) k_Mo_leapOf 62 rfl
theorem d_Mo_leapOf_113 : decode y_Mo_leapOf.2.2.1 113 = .ok (.if_icmp .ne 16, 3) := mj_d (q := (113, .if_icmp .ne 16, 3)) k_Mo_leapOf 63 rfl
theorem d_Mo_leapOf_116 : decode y_Mo_leapOf.2.2.1 116 = .ok (.iload 9, 2) := mj_d (q := (116, .iload 9, 2)) k_Mo_leapOf 64 rfl
theorem d_Mo_leapOf_118 : decode y_Mo_leapOf.2.2.1 118 = .ok (.iconst 1, 1) := mj_d (q := (118, .iconst 1, 1)) k_Mo_leapOf 65 rfl
theorem d_Mo_leapOf_119 : decode y_Mo_leapOf.2.2.1 119 = .ok (.iadd, 1) := mj_d (q := (119, .iadd, 1)) k_Mo_leapOf 66 rfl
theorem d_Mo_leapOf_120 : decode y_Mo_leapOf.2.2.1 120 = .ok (.aload_n 0, 1) := mj_d (q := (120, .aload_n 0, 1)) k_Mo_leapOf 67 rfl
theorem d_Mo_leapOf_121 : decode y_Mo_leapOf.2.2.1 121 = .ok (.iload 8, 2) := mj_d (q := (121, .iload 8, 2)) k_Mo_leapOf 68 rfl
theorem d_Mo_leapOf_123 : decode y_Mo_leapOf.2.2.1 123 = .ok (.invokevirtual 57, 3) := mj_d (q := (123, .invokevirtual 57, 3)) k_Mo_leapOf 69 rfl
theorem d_Mo_leapOf_126 : decode y_Mo_leapOf.2.2.1 126 = .ok (.if_icmp .eq 5, 3) := mj_d (q := (126, .if_icmp .eq 5, 3)) k_Mo_leapOf 70 rfl
theorem d_Mo_leapOf_129 : decode y_Mo_leapOf.2.2.1 129 = .ok (.iload_n 3, 1) := mj_d (q := (129, .iload_n 3, 1)) k_Mo_leapOf 71 rfl
theorem d_Mo_leapOf_130 : decode y_Mo_leapOf.2.2.1 130 = .ok (.ireturn, 1) := mj_d (q := (130, .ireturn, 1)) k_Mo_leapOf 72 rfl
theorem d_Mo_leapOf_131 : decode y_Mo_leapOf.2.2.1 131 = .ok (.iload 7, 2) := mj_d (q := (131, .iload 7, 2)) k_Mo_leapOf 73 rfl
theorem d_Mo_leapOf_133 : decode y_Mo_leapOf.2.2.1 133 = .ok (.bipush 13, 2) := mj_d (q := (133, .bipush 13, 2)) k_Mo_leapOf 74 rfl
theorem d_Mo_leapOf_135 : decode y_Mo_leapOf.2.2.1 135 = .ok (.iadd, 1) := mj_d (q := (135, .iadd, 1)) k_Mo_leapOf 75 rfl
theorem d_Mo_leapOf_136 : decode y_Mo_leapOf.2.2.1 136 = .ok (.istore_n 3, 1) := mj_d (q := (136, .istore_n 3, 1)) k_Mo_leapOf 76 rfl
theorem d_Mo_leapOf_137 : decode y_Mo_leapOf.2.2.1 137 = .ok (.iload 10, 2) := mj_d (q := (137, .iload 10, 2)) k_Mo_leapOf 77 rfl
theorem d_Mo_leapOf_139 : decode y_Mo_leapOf.2.2.1 139 = .ok (.iload 4, 2) := mj_d (q := (139, .iload 4, 2)) k_Mo_leapOf 78 rfl
theorem d_Mo_leapOf_141 : decode y_Mo_leapOf.2.2.1 141 = .ok (.if_icmp .ge 12, 3) := mj_d (q := (141, .if_icmp .ge 12, 3)) k_Mo_leapOf 79 rfl
theorem d_Mo_leapOf_144 : decode y_Mo_leapOf.2.2.1 144 = .ok (.iload 8, 2) := mj_d (q := (144, .iload 8, 2)) k_Mo_leapOf 80 rfl
theorem d_Mo_leapOf_146 : decode y_Mo_leapOf.2.2.1 146 = .ok (.ifCond .lt 7, 3) := mj_d (q := (146, .ifCond .lt 7, 3)) k_Mo_leapOf 81 rfl
theorem d_Mo_leapOf_149 : decode y_Mo_leapOf.2.2.1 149 = .ok (.iconst 1, 1) := mj_d (q := (149, .iconst 1, 1)) k_Mo_leapOf 82 rfl
theorem d_Mo_leapOf_150 : decode y_Mo_leapOf.2.2.1 150 = .ok (.goto 4, 3) := mj_d (q := (150, .goto 4, 3)) k_Mo_leapOf 83 rfl
theorem d_Mo_leapOf_153 : decode y_Mo_leapOf.2.2.1 153 = .ok (.iconst 0, 1) := mj_d (q := (153, .iconst 0, 1)) k_Mo_leapOf 84 rfl
theorem d_Mo_leapOf_154 : decode y_Mo_leapOf.2.2.1 154 = .ok (.istore 11, 2) := mj_d (q := (154, .istore 11, 2)) k_Mo_leapOf 85 rfl
theorem d_Mo_leapOf_156 : decode y_Mo_leapOf.2.2.1 156 = .ok (.iload 11, 2) := mj_d (q := (156, .iload 11, 2)) k_Mo_leapOf 86 rfl
theorem d_Mo_leapOf_158 : decode y_Mo_leapOf.2.2.1 158 = .ok (.ifCond .eq 13, 3) := mj_d (q := (158, .ifCond .eq 13, 3)) k_Mo_leapOf 87 rfl
theorem d_Mo_leapOf_161 : decode y_Mo_leapOf.2.2.1 161 = .ok (.aload_n 0, 1) := mj_d (q := (161, .aload_n 0, 1)) k_Mo_leapOf 88 rfl
theorem d_Mo_leapOf_162 : decode y_Mo_leapOf.2.2.1 162 = .ok (.getfield 7, 3) := mj_d (q := (162, .getfield 7, 3)) k_Mo_leapOf 89 rfl
theorem d_Mo_leapOf_165 : decode y_Mo_leapOf.2.2.1 165 = .ok (.iload 8, 2) := mj_d (q := (165, .iload 8, 2)) k_Mo_leapOf 90 rfl
theorem d_Mo_leapOf_167 : decode y_Mo_leapOf.2.2.1 167 = .ok (.iaload, 1) := mj_d (q := (167, .iaload, 1)) k_Mo_leapOf 91 rfl
theorem d_Mo_leapOf_168 : decode y_Mo_leapOf.2.2.1 168 = .ok (.goto 5, 3) := mj_d (q := (168, .goto 5, 3)) k_Mo_leapOf 92 rfl
theorem d_Mo_leapOf_171 : decode y_Mo_leapOf.2.2.1 171 = .ok (.iload 5, 2) := mj_d (q := (171, .iload 5, 2)) k_Mo_leapOf 93 rfl
theorem d_Mo_leapOf_173 : decode y_Mo_leapOf.2.2.1 173 = .ok (.istore 5, 2) := mj_d (q := (173, .istore 5, 2)) k_Mo_leapOf 94 rfl
theorem d_Mo_leapOf_175 : decode y_Mo_leapOf.2.2.1 175 = .ok (.iload 11, 2) := mj_d (q := (175, .iload 11, 2)) k_Mo_leapOf 95 rfl
theorem d_Mo_leapOf_177 : decode y_Mo_leapOf.2.2.1 177 = .ok (.ifCond .eq 8, 3) := mj_d (q := (177, .ifCond .eq 8, 3)) k_Mo_leapOf 96 rfl
theorem d_Mo_leapOf_180 : decode y_Mo_leapOf.2.2.1 180 = .ok (.iload 10, 2) := mj_d (q := (180, .iload 10, 2)) k_Mo_leapOf 97 rfl
theorem d_Mo_leapOf_182 : decode y_Mo_leapOf.2.2.1 182 = .ok (.goto 4, 3) := mj_d (q := (182, .goto 4, 3)) k_Mo_leapOf 98 rfl
theorem d_Mo_leapOf_185 : decode y_Mo_leapOf.2.2.1 185 = .ok (.iconst (-1), 1) := mj_d (q := (185, .iconst (-1), 1)) k_Mo_leapOf 99 rfl
theorem d_Mo_leapOf_186 : decode y_Mo_leapOf.2.2.1 186 = .ok (.istore 4, 2) := mj_d (q := (186, .istore 4, 2)) k_Mo_leapOf 100 rfl
theorem d_Mo_leapOf_188 : decode y_Mo_leapOf.2.2.1 188 = .ok (.goto (-180), 3) := mj_d (q := (188, .goto (-180), 3)) k_Mo_leapOf 101 rfl
theorem d_Mo_leapOf_191 : decode y_Mo_leapOf.2.2.1 191 = .ok (.iload_n 3, 1) := mj_d (q := (191, .iload_n 3, 1)) k_Mo_leapOf 102 rfl
theorem d_Mo_leapOf_192 : decode y_Mo_leapOf.2.2.1 192 = .ok (.ireturn, 1) := mj_d (q := (192, .ireturn, 1)) k_Mo_leapOf 103 rfl
theorem d_Mo_thrown_0 : decode y_Mo_thrown.2.2.1 0 = .ok (.aload_n 0, 1) := mj_d (q := (0, .aload_n 0, 1)) k_Mo_thrown 0 rfl
theorem d_Mo_thrown_1 : decode y_Mo_thrown.2.2.1 1 = .ok (.getfield 53, 3) := mj_d (q := (1, .getfield 53, 3)) k_Mo_thrown 1 rfl
theorem d_Mo_thrown_4 : decode y_Mo_thrown.2.2.1 4 = .ok (.ireturn, 1) := mj_d (q := (4, .ireturn, 1)) k_Mo_thrown 2 rfl
theorem d_Mo_rule_0 : decode y_Mo_rule.2.2.1 0 = .ok (.aload_n 0, 1) := mj_d (q := (0, .aload_n 0, 1)) k_Mo_rule 0 rfl
theorem d_Mo_rule_1 : decode y_Mo_rule.2.2.1 1 = .ok (.iconst 0, 1) := mj_d (q := (1, .iconst 0, 1)) k_Mo_rule 1 rfl
theorem d_Mo_rule_2 : decode y_Mo_rule.2.2.1 2 = .ok (.putfield 53, 3) := mj_d (q := (2, .putfield 53, 3)) k_Mo_rule 2 rfl
theorem d_Mo_rule_5 : decode y_Mo_rule.2.2.1 5 = .ok (.iload_n 1, 1) := mj_d (q := (5, .iload_n 1, 1)) k_Mo_rule 3 rfl
theorem d_Mo_rule_6 : decode y_Mo_rule.2.2.1 6 = .ok (.invokestatic 69, 3) := mj_d (q := (6, .invokestatic 69, 3)) k_Mo_rule 4 rfl
theorem d_Mo_rule_9 : decode y_Mo_rule.2.2.1 9 = .ok (.ifCond .eq 20, 3) := mj_d (q := (9, .ifCond .eq 20, 3)) k_Mo_rule 5 rfl
theorem d_Mo_rule_12 : decode y_Mo_rule.2.2.1 12 = .ok (.iload_n 2, 1) := mj_d (q := (12, .iload_n 2, 1)) k_Mo_rule 6 rfl
theorem d_Mo_rule_13 : decode y_Mo_rule.2.2.1 13 = .ok (.ifCond .lt 16, 3) := mj_d (q := (13, .ifCond .lt 16, 3)) k_Mo_rule 7 rfl
theorem d_Mo_rule_16 : decode y_Mo_rule.2.2.1 16 = .ok (.iload_n 2, 1) := mj_d (q := (16, .iload_n 2, 1)) k_Mo_rule 8 rfl
theorem d_Mo_rule_17 : decode y_Mo_rule.2.2.1 17 = .ok (.iconst 3, 1) := mj_d (q := (17, .iconst 3, 1)) k_Mo_rule 9 rfl
theorem d_Mo_rule_18 : decode y_Mo_rule.2.2.1 18 = .ok (.if_icmp .gt 11, 3) := mj_d (q := (18, .if_icmp .gt 11, 3)) k_Mo_rule 10 rfl
theorem d_Mo_rule_21 : decode y_Mo_rule.2.2.1 21 = .ok (.iload_n 3, 1) := mj_d (q := (21, .iload_n 3, 1)) k_Mo_rule 11 rfl
theorem d_Mo_rule_22 : decode y_Mo_rule.2.2.1 22 = .ok (.iconst 4, 1) := mj_d (q := (22, .iconst 4, 1)) k_Mo_rule 12 rfl
theorem d_Mo_rule_23 : decode y_Mo_rule.2.2.1 23 = .ok (.iload_n 2, 1) := mj_d (q := (23, .iload_n 2, 1)) k_Mo_rule 13 rfl
theorem d_Mo_rule_24 : decode y_Mo_rule.2.2.1 24 = .ok (.imul, 1) := mj_d (q := (24, .imul, 1)) k_Mo_rule 14 rfl
theorem d_Mo_rule_25 : decode y_Mo_rule.2.2.1 25 = .ok (.iushr, 1) := mj_d (q := (25, .iushr, 1)) k_Mo_rule 15 rfl
theorem d_Mo_rule_26 : decode y_Mo_rule.2.2.1 26 = .ok (.ifCond .eq 9, 3) := mj_d (q := (26, .ifCond .eq 9, 3)) k_Mo_rule 16 rfl
theorem d_Mo_rule_29 : decode y_Mo_rule.2.2.1 29 = .ok (.aload_n 0, 1) := mj_d (q := (29, .aload_n 0, 1)) k_Mo_rule 17 rfl
theorem d_Mo_rule_30 : decode y_Mo_rule.2.2.1 30 = .ok (.iconst 1, 1) := mj_d (q := (30, .iconst 1, 1)) k_Mo_rule 18 rfl
theorem d_Mo_rule_31 : decode y_Mo_rule.2.2.1 31 = .ok (.invokevirtual 91, 3) := mj_d (q := (31, .invokevirtual 91, 3)) k_Mo_rule 19 rfl
theorem d_Mo_rule_34 : decode y_Mo_rule.2.2.1 34 = .ok (.ireturn, 1) := mj_d (q := (34, .ireturn, 1)) k_Mo_rule 20 rfl
theorem d_Mo_rule_35 : decode y_Mo_rule.2.2.1 35 = .ok (.iconst 0, 1) := mj_d (q := (35, .iconst 0, 1)) k_Mo_rule 21 rfl
theorem d_Mo_rule_36 : decode y_Mo_rule.2.2.1 36 = .ok (.istore 4, 2) := mj_d (q := (36, .istore 4, 2)) k_Mo_rule 22 rfl
theorem d_Mo_rule_38 : decode y_Mo_rule.2.2.1 38 = .ok (.iload 4, 2) := mj_d (q := (38, .iload 4, 2)) k_Mo_rule 23 rfl
theorem d_Mo_rule_40 : decode y_Mo_rule.2.2.1 40 = .ok (.iload_n 2, 1) := mj_d (q := (40, .iload_n 2, 1)) k_Mo_rule 24 rfl
theorem d_Mo_rule_41 : decode y_Mo_rule.2.2.1 41 = .ok (.if_icmp .ge 42, 3) := mj_d (q := (41, .if_icmp .ge 42, 3)) k_Mo_rule 25 rfl
theorem d_Mo_rule_44 : decode y_Mo_rule.2.2.1 44 = .ok (.iload_n 3, 1) := mj_d (q := (44, .iload_n 3, 1)) k_Mo_rule 26 rfl
theorem d_Mo_rule_45 : decode y_Mo_rule.2.2.1 45 = .ok (.iconst 4, 1) := mj_d (q := (45, .iconst 4, 1)) k_Mo_rule 27 rfl
theorem d_Mo_rule_46 : decode y_Mo_rule.2.2.1 46 = .ok (.iload 4, 2) := mj_d (q := (46, .iload 4, 2)) k_Mo_rule 28 rfl
theorem d_Mo_rule_48 : decode y_Mo_rule.2.2.1 48 = .ok (.imul, 1) := mj_d (q := (48, .imul, 1)) k_Mo_rule 29 rfl
theorem d_Mo_rule_49 : decode y_Mo_rule.2.2.1 49 = .ok (.ishr, 1) := mj_d (q := (49, .ishr, 1)) k_Mo_rule 30 rfl
theorem d_Mo_rule_50 : decode y_Mo_rule.2.2.1 50 = .ok (.bipush 15, 2) := mj_d (q := (50, .bipush 15, 2)) k_Mo_rule 31 rfl
theorem d_Mo_rule_52 : decode y_Mo_rule.2.2.1 52 = .ok (.iand, 1) := mj_d (q := (52, .iand, 1)) k_Mo_rule 32 rfl
theorem d_Mo_rule_53 : decode y_Mo_rule.2.2.1 53 = .ok (.istore 5, 2) := mj_d (q := (53, .istore 5, 2)) k_Mo_rule 33 rfl
theorem d_Mo_rule_55 : decode y_Mo_rule.2.2.1 55 = .ok (.iload 5, 2) := mj_d (q := (55, .iload 5, 2)) k_Mo_rule 34 rfl
theorem d_Mo_rule_57 : decode y_Mo_rule.2.2.1 57 = .ok (.invokestatic 69, 3) := mj_d (q := (57, .invokestatic 69, 3)) k_Mo_rule 35 rfl
theorem d_Mo_rule_60 : decode y_Mo_rule.2.2.1 60 = .ok (.ifCond .ne 17, 3) := mj_d (q := (60, .ifCond .ne 17, 3)) k_Mo_rule 36 rfl
theorem d_Mo_rule_63 : decode y_Mo_rule.2.2.1 63 = .ok (.iload 5, 2) := mj_d (q := (63, .iload 5, 2)) k_Mo_rule 37 rfl
theorem d_Mo_rule_65 : decode y_Mo_rule.2.2.1 65 = .ok (.invokestatic 94, 3) := mj_d (q := (65, .invokestatic 94, 3)) k_Mo_rule 38 rfl
theorem d_Mo_rule_68 : decode y_Mo_rule.2.2.1 68 = .ok (.ifCond .ne 9, 3) := mj_d (q := (68, .ifCond .ne 9, 3)) k_Mo_rule 39 rfl
theorem d_Mo_rule_71 : decode y_Mo_rule.2.2.1 71 = .ok (.aload_n 0, 1) := mj_d (q := (71, .aload_n 0, 1)) k_Mo_rule 40 rfl
theorem d_Mo_rule_72 : decode y_Mo_rule.2.2.1 72 = .ok (.iconst 1, 1) := mj_d (q := (72, .iconst 1, 1)) k_Mo_rule 41 rfl
theorem d_Mo_rule_73 : decode y_Mo_rule.2.2.1 73 = .ok (.invokevirtual 91, 3) := mj_d (q := (73, .invokevirtual 91, 3)) k_Mo_rule 42 rfl
theorem d_Mo_rule_76 : decode y_Mo_rule.2.2.1 76 = .ok (.ireturn, 1) := mj_d (q := (76, .ireturn, 1)) k_Mo_rule 43 rfl
theorem d_Mo_rule_77 : decode y_Mo_rule.2.2.1 77 = .ok (.iinc 4 1, 3) := mj_d (q := (77, .iinc 4 1, 3)) k_Mo_rule 44 rfl
theorem d_Mo_rule_80 : decode y_Mo_rule.2.2.1 80 = .ok (.goto (-42), 3) := mj_d (q := (80, .goto (-42), 3)) k_Mo_rule 45 rfl
theorem d_Mo_rule_83 : decode y_Mo_rule.2.2.1 83 = .ok (.aload_n 0, 1) := mj_d (q := (83, .aload_n 0, 1)) k_Mo_rule 46 rfl
theorem d_Mo_rule_84 : decode y_Mo_rule.2.2.1 84 = .ok (.getfield 73, 3) := mj_d (q := (84, .getfield 73, 3)) k_Mo_rule 47 rfl
theorem d_Mo_rule_87 : decode y_Mo_rule.2.2.1 87 = .ok (.bipush 10, 2) := mj_d (q := (87, .bipush 10, 2)) k_Mo_rule 48 rfl
theorem d_Mo_rule_89 : decode y_Mo_rule.2.2.1 89 = .ok (.if_icmp .eq 10, 3) := mj_d (q := (89, .if_icmp .eq 10, 3)) k_Mo_rule 49 rfl
theorem d_Mo_rule_92 : decode y_Mo_rule.2.2.1 92 = .ok (.aload_n 0, 1) := mj_d (q := (92, .aload_n 0, 1)) k_Mo_rule 50 rfl
theorem d_Mo_rule_93 : decode y_Mo_rule.2.2.1 93 = .ok (.getfield 97, 3) := mj_d (q := (93, .getfield 97, 3)) k_Mo_rule 51 rfl
theorem d_Mo_rule_96 : decode y_Mo_rule.2.2.1 96 = .ok (.ifCond .le 9, 3) := mj_d (q := (96, .ifCond .le 9, 3)) k_Mo_rule 52 rfl
theorem d_Mo_rule_99 : decode y_Mo_rule.2.2.1 99 = .ok (.aload_n 0, 1) := mj_d (q := (99, .aload_n 0, 1)) k_Mo_rule 53 rfl
theorem d_Mo_rule_100 : decode y_Mo_rule.2.2.1 100 = .ok (.iconst 2, 1) := mj_d (q := (100, .iconst 2, 1)) k_Mo_rule 54 rfl
theorem d_Mo_rule_101 : decode y_Mo_rule.2.2.1 101 = .ok (.invokevirtual 91, 3) := mj_d (q := (101, .invokevirtual 91, 3)) k_Mo_rule 55 rfl
theorem d_Mo_rule_104 : decode y_Mo_rule.2.2.1 104 = .ok (.ireturn, 1) := mj_d (q := (104, .ireturn, 1)) k_Mo_rule 56 rfl
theorem d_Mo_rule_105 : decode y_Mo_rule.2.2.1 105 = .ok (.aload_n 0, 1) := mj_d (q := (105, .aload_n 0, 1)) k_Mo_rule 57 rfl
theorem d_Mo_rule_106 : decode y_Mo_rule.2.2.1 106 = .ok (.getfield 7, 3) := mj_d (q := (106, .getfield 7, 3)) k_Mo_rule 58 rfl
theorem d_Mo_rule_109 : decode y_Mo_rule.2.2.1 109 = .ok (.aload_n 0, 1) := mj_d (q := (109, .aload_n 0, 1)) k_Mo_rule 59 rfl
theorem d_Mo_rule_110 : decode y_Mo_rule.2.2.1 110 = .ok (.getfield 73, 3) := mj_d (q := (110, .getfield 73, 3)) k_Mo_rule 60 rfl
theorem d_Mo_rule_113 : decode y_Mo_rule.2.2.1 113 = .ok (.iload_n 1, 1) := mj_d (q := (113, .iload_n 1, 1)) k_Mo_rule 61 rfl
theorem d_Mo_rule_114 : decode y_Mo_rule.2.2.1 114 = .ok (.iastore, 1) := mj_d (q := (114, .iastore, 1)) k_Mo_rule 62 rfl
theorem d_Mo_rule_115 : decode y_Mo_rule.2.2.1 115 = .ok (.aload_n 0, 1) := mj_d (q := (115, .aload_n 0, 1)) k_Mo_rule 63 rfl
theorem d_Mo_rule_116 : decode y_Mo_rule.2.2.1 116 = .ok (.getfield 13, 3) := mj_d (q := (116, .getfield 13, 3)) k_Mo_rule 64 rfl
theorem d_Mo_rule_119 : decode y_Mo_rule.2.2.1 119 = .ok (.aload_n 0, 1) := mj_d (q := (119, .aload_n 0, 1)) k_Mo_rule 65 rfl
theorem d_Mo_rule_120 : decode y_Mo_rule.2.2.1 120 = .ok (.getfield 73, 3) := mj_d (q := (120, .getfield 73, 3)) k_Mo_rule 66 rfl
theorem d_Mo_rule_123 : decode y_Mo_rule.2.2.1 123 = .ok (.iload_n 2, 1) := mj_d (q := (123, .iload_n 2, 1)) k_Mo_rule 67 rfl
theorem d_Mo_rule_124 : decode y_Mo_rule.2.2.1 124 = .ok (.iastore, 1) := mj_d (q := (124, .iastore, 1)) k_Mo_rule 68 rfl
theorem d_Mo_rule_125 : decode y_Mo_rule.2.2.1 125 = .ok (.iconst 0, 1) := mj_d (q := (125, .iconst 0, 1)) k_Mo_rule 69 rfl
theorem d_Mo_rule_126 : decode y_Mo_rule.2.2.1 126 = .ok (.istore 4, 2) := mj_d (q := (126, .istore 4, 2)) k_Mo_rule 70 rfl
theorem d_Mo_rule_128 : decode y_Mo_rule.2.2.1 128 = .ok (.iload 4, 2) := mj_d (q := (128, .iload 4, 2)) k_Mo_rule 71 rfl
theorem d_Mo_rule_130 : decode y_Mo_rule.2.2.1 130 = .ok (.iload_n 2, 1) := mj_d (q := (130, .iload_n 2, 1)) k_Mo_rule 72 rfl
theorem d_Mo_rule_131 : decode y_Mo_rule.2.2.1 131 = .ok (.if_icmp .ge 32, 3) := mj_d (q := (131, .if_icmp .ge 32, 3)) k_Mo_rule 73 rfl
theorem d_Mo_rule_134 : decode y_Mo_rule.2.2.1 134 = .ok (.aload_n 0, 1) := mj_d (q := (134, .aload_n 0, 1)) k_Mo_rule 74 rfl
theorem d_Mo_rule_135 : decode y_Mo_rule.2.2.1 135 = .ok (.getfield 16, 3) := mj_d (q := (135, .getfield 16, 3)) k_Mo_rule 75 rfl
theorem d_Mo_rule_138 : decode y_Mo_rule.2.2.1 138 = .ok (.iconst 3, 1) := mj_d (q := (138, .iconst 3, 1)) k_Mo_rule 76 rfl
theorem d_Mo_rule_139 : decode y_Mo_rule.2.2.1 139 = .ok (.aload_n 0, 1) := mj_d (q := (139, .aload_n 0, 1)) k_Mo_rule 77 rfl
theorem d_Mo_rule_140 : decode y_Mo_rule.2.2.1 140 = .ok (.getfield 73, 3) := mj_d (q := (140, .getfield 73, 3)) k_Mo_rule 78 rfl
theorem d_Mo_rule_143 : decode y_Mo_rule.2.2.1 143 = .ok (.imul, 1) := mj_d (q := (143, .imul, 1)) k_Mo_rule 79 rfl
theorem d_Mo_rule_144 : decode y_Mo_rule.2.2.1 144 = .ok (.iload 4, 2) := mj_d (q := (144, .iload 4, 2)) k_Mo_rule 80 rfl
theorem d_Mo_rule_146 : decode y_Mo_rule.2.2.1 146 = .ok (.iadd, 1) := mj_d (q := (146, .iadd, 1)) k_Mo_rule 81 rfl
theorem d_Mo_rule_147 : decode y_Mo_rule.2.2.1 147 = .ok (.iload_n 3, 1) := mj_d (q := (147, .iload_n 3, 1)) k_Mo_rule 82 rfl
theorem d_Mo_rule_148 : decode y_Mo_rule.2.2.1 148 = .ok (.iconst 4, 1) := mj_d (q := (148, .iconst 4, 1)) k_Mo_rule 83 rfl
theorem d_Mo_rule_149 : decode y_Mo_rule.2.2.1 149 = .ok (.iload 4, 2) := mj_d (q := (149, .iload 4, 2)) k_Mo_rule 84 rfl
theorem d_Mo_rule_151 : decode y_Mo_rule.2.2.1 151 = .ok (.imul, 1) := mj_d (q := (151, .imul, 1)) k_Mo_rule 85 rfl
theorem d_Mo_rule_152 : decode y_Mo_rule.2.2.1 152 = .ok (.ishr, 1) := mj_d (q := (152, .ishr, 1)) k_Mo_rule 86 rfl
theorem d_Mo_rule_153 : decode y_Mo_rule.2.2.1 153 = .ok (.bipush 15, 2) := mj_d (q := (153, .bipush 15, 2)) k_Mo_rule 87 rfl
theorem d_Mo_rule_155 : decode y_Mo_rule.2.2.1 155 = .ok (.iand, 1) := mj_d (q := (155, .iand, 1)) k_Mo_rule 88 rfl
theorem d_Mo_rule_156 : decode y_Mo_rule.2.2.1 156 = .ok (.iastore, 1) := mj_d (q := (156, .iastore, 1)) k_Mo_rule 89 rfl
theorem d_Mo_rule_157 : decode y_Mo_rule.2.2.1 157 = .ok (.iinc 4 1, 3) := mj_d (q := (157, .iinc 4 1, 3)) k_Mo_rule 90 rfl
theorem d_Mo_rule_160 : decode y_Mo_rule.2.2.1 160 = .ok (.goto (-32), 3) := mj_d (q := (160, .goto (-32), 3)) k_Mo_rule 91 rfl
theorem d_Mo_rule_163 : decode y_Mo_rule.2.2.1 163 = .ok (.aload_n 0, 1) := mj_d (q := (163, .aload_n 0, 1)) k_Mo_rule 92 rfl
theorem d_Mo_rule_164 : decode y_Mo_rule.2.2.1 164 = .ok (.dup, 1) := mj_d (q := (164, .dup, 1)) k_Mo_rule 93 rfl
theorem d_Mo_rule_165 : decode y_Mo_rule.2.2.1 165 = .ok (.getfield 73, 3) := mj_d (q := (165, .getfield 73, 3)) k_Mo_rule 94 rfl
theorem d_Mo_rule_168 : decode y_Mo_rule.2.2.1 168 = .ok (.iconst 1, 1) := mj_d (q := (168, .iconst 1, 1)) k_Mo_rule 95 rfl
theorem d_Mo_rule_169 : decode y_Mo_rule.2.2.1 169 = .ok (.iadd, 1) := mj_d (q := (169, .iadd, 1)) k_Mo_rule 96 rfl
theorem d_Mo_rule_170 : decode y_Mo_rule.2.2.1 170 = .ok (.putfield 73, 3) := mj_d (q := (170, .putfield 73, 3)) k_Mo_rule 97 rfl
theorem d_Mo_rule_173 : decode y_Mo_rule.2.2.1 173 = .ok (.aload_n 0, 1) := mj_d (q := (173, .aload_n 0, 1)) k_Mo_rule 98 rfl
theorem d_Mo_rule_174 : decode y_Mo_rule.2.2.1 174 = .ok (.iconst 0, 1) := mj_d (q := (174, .iconst 0, 1)) k_Mo_rule 99 rfl
theorem d_Mo_rule_175 : decode y_Mo_rule.2.2.1 175 = .ok (.invokevirtual 49, 3) := mj_d (q := (175, .invokevirtual 49, 3)) k_Mo_rule 100 rfl
theorem d_Mo_rule_178 : decode y_Mo_rule.2.2.1 178 = .ok (.aload_n 0, 1) := mj_d (q := (178, .aload_n 0, 1)) k_Mo_rule 101 rfl
theorem d_Mo_rule_179 : decode y_Mo_rule.2.2.1 179 = .ok (.getfield 73, 3) := mj_d (q := (179, .getfield 73, 3)) k_Mo_rule 102 rfl
theorem d_Mo_rule_182 : decode y_Mo_rule.2.2.1 182 = .ok (.iconst 1, 1) := mj_d (q := (182, .iconst 1, 1)) k_Mo_rule 103 rfl
theorem d_Mo_rule_183 : decode y_Mo_rule.2.2.1 183 = .ok (.isub, 1) := mj_d (q := (183, .isub, 1)) k_Mo_rule 104 rfl
theorem d_Mo_rule_184 : decode y_Mo_rule.2.2.1 184 = .ok (.ireturn, 1) := mj_d (q := (184, .ireturn, 1)) k_Mo_rule 105 rfl
theorem d_Mo_refuse_0 : decode y_Mo_refuse.2.2.1 0 = .ok (.aload_n 0, 1) := mj_d (q := (0, .aload_n 0, 1)) k_Mo_refuse 0 rfl
theorem d_Mo_refuse_1 : decode y_Mo_refuse.2.2.1 1 = .ok (.iload_n 1, 1) := mj_d (q := (1, .iload_n 1, 1)) k_Mo_refuse 1 rfl
theorem d_Mo_refuse_2 : decode y_Mo_refuse.2.2.1 2 = .ok (.putfield 53, 3) := mj_d (q := (2, .putfield 53, 3)) k_Mo_refuse 2 rfl
theorem d_Mo_refuse_5 : decode y_Mo_refuse.2.2.1 5 = .ok (.iconst 0, 1) := mj_d (q := (5, .iconst 0, 1)) k_Mo_refuse 3 rfl
theorem d_Mo_refuse_6 : decode y_Mo_refuse.2.2.1 6 = .ok (.ireturn, 1) := mj_d (q := (6, .ireturn, 1)) k_Mo_refuse 4 rfl
theorem d_Mo_isTerminal_0 : decode y_Mo_isTerminal.2.2.1 0 = .ok (.iload_n 0, 1) := mj_d (q := (0, .iload_n 0, 1)) k_Mo_isTerminal 0 rfl
theorem d_Mo_isTerminal_1 : decode y_Mo_isTerminal.2.2.1 1 = .ok (.bipush 8, 2) := mj_d (q := (1, .bipush 8, 2)) k_Mo_isTerminal 1 rfl
theorem d_Mo_isTerminal_3 : decode y_Mo_isTerminal.2.2.1 3 = .ok (.if_icmp .lt 13, 3) := mj_d (q := (3, .if_icmp .lt 13, 3)) k_Mo_isTerminal 2 rfl
theorem d_Mo_isTerminal_6 : decode y_Mo_isTerminal.2.2.1 6 = .ok (.iload_n 0, 1) := mj_d (q := (6, .iload_n 0, 1)) k_Mo_isTerminal 3 rfl
theorem d_Mo_isTerminal_7 : decode y_Mo_isTerminal.2.2.1 7 = .ok (.bipush 11, 2) := mj_d (q := (7, .bipush 11, 2)) k_Mo_isTerminal 4 rfl
theorem d_Mo_isTerminal_9 : decode y_Mo_isTerminal.2.2.1 9 = .ok (.if_icmp .gt 7, 3) := mj_d (q := (9, .if_icmp .gt 7, 3)) k_Mo_isTerminal 5 rfl
theorem d_Mo_isTerminal_12 : decode y_Mo_isTerminal.2.2.1 12 = .ok (.iconst 1, 1) := mj_d (q := (12, .iconst 1, 1)) k_Mo_isTerminal 6 rfl
theorem d_Mo_isTerminal_13 : decode y_Mo_isTerminal.2.2.1 13 = .ok (.goto 4, 3) := mj_d (q := (13, .goto 4, 3)) k_Mo_isTerminal 7 rfl
theorem d_Mo_isTerminal_16 : decode y_Mo_isTerminal.2.2.1 16 = .ok (.iconst 0, 1) := mj_d (q := (16, .iconst 0, 1)) k_Mo_isTerminal 8 rfl
theorem d_Mo_isTerminal_17 : decode y_Mo_isTerminal.2.2.1 17 = .ok (.ireturn, 1) := mj_d (q := (17, .ireturn, 1)) k_Mo_isTerminal 9 rfl
theorem d_Mo_feed_0 : decode y_Mo_feed.2.2.1 0 = .ok (.aload_n 0, 1) := mj_d (q := (0, .aload_n 0, 1)) k_Mo_feed 0 rfl
theorem d_Mo_feed_1 : decode y_Mo_feed.2.2.1 1 = .ok (.iconst 0, 1) := mj_d (q := (1, .iconst 0, 1)) k_Mo_feed 1 rfl
theorem d_Mo_feed_2 : decode y_Mo_feed.2.2.1 2 = .ok (.putfield 53, 3) := mj_d (q := (2, .putfield 53, 3)) k_Mo_feed 2 rfl
theorem d_Mo_feed_5 : decode y_Mo_feed.2.2.1 5 = .ok (.iload_n 1, 1) := mj_d (q := (5, .iload_n 1, 1)) k_Mo_feed 3 rfl
theorem d_Mo_feed_6 : decode y_Mo_feed.2.2.1 6 = .ok (.invokestatic 94, 3) := mj_d (q := (6, .invokestatic 94, 3)) k_Mo_feed 4 rfl
theorem d_Mo_feed_9 : decode y_Mo_feed.2.2.1 9 = .ok (.ifCond .ne 9, 3) := mj_d (q := (9, .ifCond .ne 9, 3)) k_Mo_feed 5 rfl
theorem d_Mo_feed_12 : decode y_Mo_feed.2.2.1 12 = .ok (.aload_n 0, 1) := mj_d (q := (12, .aload_n 0, 1)) k_Mo_feed 6 rfl
theorem d_Mo_feed_13 : decode y_Mo_feed.2.2.1 13 = .ok (.iconst 1, 1) := mj_d (q := (13, .iconst 1, 1)) k_Mo_feed 7 rfl
theorem d_Mo_feed_14 : decode y_Mo_feed.2.2.1 14 = .ok (.invokevirtual 91, 3) := mj_d (q := (14, .invokevirtual 91, 3)) k_Mo_feed 8 rfl
theorem d_Mo_feed_17 : decode y_Mo_feed.2.2.1 17 = .ok (.ireturn, 1) := mj_d (q := (17, .ireturn, 1)) k_Mo_feed 9 rfl
theorem d_Mo_feed_18 : decode y_Mo_feed.2.2.1 18 = .ok (.aload_n 0, 1) := mj_d (q := (18, .aload_n 0, 1)) k_Mo_feed 10 rfl
theorem d_Mo_feed_19 : decode y_Mo_feed.2.2.1 19 = .ok (.getfield 97, 3) := mj_d (q := (19, .getfield 97, 3)) k_Mo_feed 11 rfl
theorem d_Mo_feed_22 : decode y_Mo_feed.2.2.1 22 = .ok (.bipush 12, 2) := mj_d (q := (22, .bipush 12, 2)) k_Mo_feed 12 rfl
theorem d_Mo_feed_24 : decode y_Mo_feed.2.2.1 24 = .ok (.if_icmp .ne 9, 3) := mj_d (q := (24, .if_icmp .ne 9, 3)) k_Mo_feed 13 rfl
theorem d_Mo_feed_27 : decode y_Mo_feed.2.2.1 27 = .ok (.aload_n 0, 1) := mj_d (q := (27, .aload_n 0, 1)) k_Mo_feed 14 rfl
theorem d_Mo_feed_28 : decode y_Mo_feed.2.2.1 28 = .ok (.iconst 2, 1) := mj_d (q := (28, .iconst 2, 1)) k_Mo_feed 15 rfl
theorem d_Mo_feed_29 : decode y_Mo_feed.2.2.1 29 = .ok (.invokevirtual 91, 3) := mj_d (q := (29, .invokevirtual 91, 3)) k_Mo_feed 16 rfl
theorem d_Mo_feed_32 : decode y_Mo_feed.2.2.1 32 = .ok (.ireturn, 1) := mj_d (q := (32, .ireturn, 1)) k_Mo_feed 17 rfl
theorem d_Mo_feed_33 : decode y_Mo_feed.2.2.1 33 = .ok (.aload_n 0, 1) := mj_d (q := (33, .aload_n 0, 1)) k_Mo_feed 18 rfl
theorem d_Mo_feed_34 : decode y_Mo_feed.2.2.1 34 = .ok (.aload_n 0, 1) := mj_d (q := (34, .aload_n 0, 1)) k_Mo_feed 19 rfl
theorem d_Mo_feed_35 : decode y_Mo_feed.2.2.1 35 = .ok (.getfield 97, 3) := mj_d (q := (35, .getfield 97, 3)) k_Mo_feed 20 rfl
theorem d_Mo_feed_38 : decode y_Mo_feed.2.2.1 38 = .ok (.invokevirtual 100, 3) := mj_d (q := (38, .invokevirtual 100, 3)) k_Mo_feed 21 rfl
theorem d_Mo_feed_41 : decode y_Mo_feed.2.2.1 41 = .ok (.iload_n 1, 1) := mj_d (q := (41, .iload_n 1, 1)) k_Mo_feed 22 rfl
theorem d_Mo_feed_42 : decode y_Mo_feed.2.2.1 42 = .ok (.bipush 8, 2) := mj_d (q := (42, .bipush 8, 2)) k_Mo_feed 23 rfl
theorem d_Mo_feed_44 : decode y_Mo_feed.2.2.1 44 = .ok (.isub, 1) := mj_d (q := (44, .isub, 1)) k_Mo_feed 24 rfl
theorem d_Mo_feed_45 : decode y_Mo_feed.2.2.1 45 = .ok (.ishr, 1) := mj_d (q := (45, .ishr, 1)) k_Mo_feed 25 rfl
theorem d_Mo_feed_46 : decode y_Mo_feed.2.2.1 46 = .ok (.iconst 1, 1) := mj_d (q := (46, .iconst 1, 1)) k_Mo_feed 26 rfl
theorem d_Mo_feed_47 : decode y_Mo_feed.2.2.1 47 = .ok (.iand, 1) := mj_d (q := (47, .iand, 1)) k_Mo_feed 27 rfl
theorem d_Mo_feed_48 : decode y_Mo_feed.2.2.1 48 = .ok (.ifCond .ne 9, 3) := mj_d (q := (48, .ifCond .ne 9, 3)) k_Mo_feed 28 rfl
theorem d_Mo_feed_51 : decode y_Mo_feed.2.2.1 51 = .ok (.aload_n 0, 1) := mj_d (q := (51, .aload_n 0, 1)) k_Mo_feed 29 rfl
theorem d_Mo_feed_52 : decode y_Mo_feed.2.2.1 52 = .ok (.iconst 3, 1) := mj_d (q := (52, .iconst 3, 1)) k_Mo_feed 30 rfl
theorem d_Mo_feed_53 : decode y_Mo_feed.2.2.1 53 = .ok (.invokevirtual 91, 3) := mj_d (q := (53, .invokevirtual 91, 3)) k_Mo_feed 31 rfl
theorem d_Mo_feed_56 : decode y_Mo_feed.2.2.1 56 = .ok (.ireturn, 1) := mj_d (q := (56, .ireturn, 1)) k_Mo_feed 32 rfl
theorem d_Mo_feed_57 : decode y_Mo_feed.2.2.1 57 = .ok (.aload_n 0, 1) := mj_d (q := (57, .aload_n 0, 1)) k_Mo_feed 33 rfl
theorem d_Mo_feed_58 : decode y_Mo_feed.2.2.1 58 = .ok (.getfield 19, 3) := mj_d (q := (58, .getfield 19, 3)) k_Mo_feed 34 rfl
theorem d_Mo_feed_61 : decode y_Mo_feed.2.2.1 61 = .ok (.aload_n 0, 1) := mj_d (q := (61, .aload_n 0, 1)) k_Mo_feed 35 rfl
theorem d_Mo_feed_62 : decode y_Mo_feed.2.2.1 62 = .ok (.getfield 97, 3) := mj_d (q := (62, .getfield 97, 3)) k_Mo_feed 36 rfl
theorem d_Mo_feed_65 : decode y_Mo_feed.2.2.1 65 = .ok (.iload_n 1, 1) := mj_d (q := (65, .iload_n 1, 1)) k_Mo_feed 37 rfl
theorem d_Mo_feed_66 : decode y_Mo_feed.2.2.1 66 = .ok (.iastore, 1) := mj_d (q := (66, .iastore, 1)) k_Mo_feed 38 rfl
theorem d_Mo_feed_67 : decode y_Mo_feed.2.2.1 67 = .ok (.aload_n 0, 1) := mj_d (q := (67, .aload_n 0, 1)) k_Mo_feed 39 rfl
theorem d_Mo_feed_68 : decode y_Mo_feed.2.2.1 68 = .ok (.dup, 1) := mj_d (q := (68, .dup, 1)) k_Mo_feed 40 rfl
theorem d_Mo_feed_69 : decode y_Mo_feed.2.2.1 69 = .ok (.getfield 97, 3) := mj_d (q := (69, .getfield 97, 3)) k_Mo_feed 41 rfl
theorem d_Mo_feed_72 : decode y_Mo_feed.2.2.1 72 = .ok (.iconst 1, 1) := mj_d (q := (72, .iconst 1, 1)) k_Mo_feed 42 rfl
theorem d_Mo_feed_73 : decode y_Mo_feed.2.2.1 73 = .ok (.iadd, 1) := mj_d (q := (73, .iadd, 1)) k_Mo_feed 43 rfl
theorem d_Mo_feed_74 : decode y_Mo_feed.2.2.1 74 = .ok (.putfield 97, 3) := mj_d (q := (74, .putfield 97, 3)) k_Mo_feed 44 rfl
theorem d_Mo_feed_77 : decode y_Mo_feed.2.2.1 77 = .ok (.aload_n 0, 1) := mj_d (q := (77, .aload_n 0, 1)) k_Mo_feed 45 rfl
theorem d_Mo_feed_78 : decode y_Mo_feed.2.2.1 78 = .ok (.aload_n 0, 1) := mj_d (q := (78, .aload_n 0, 1)) k_Mo_feed 46 rfl
theorem d_Mo_feed_79 : decode y_Mo_feed.2.2.1 79 = .ok (.getfield 97, 3) := mj_d (q := (79, .getfield 97, 3)) k_Mo_feed 47 rfl
theorem d_Mo_feed_82 : decode y_Mo_feed.2.2.1 82 = .ok (.invokevirtual 49, 3) := mj_d (q := (82, .invokevirtual 49, 3)) k_Mo_feed 48 rfl
theorem d_Mo_feed_85 : decode y_Mo_feed.2.2.1 85 = .ok (.aload_n 0, 1) := mj_d (q := (85, .aload_n 0, 1)) k_Mo_feed 49 rfl
theorem d_Mo_feed_86 : decode y_Mo_feed.2.2.1 86 = .ok (.aload_n 0, 1) := mj_d (q := (86, .aload_n 0, 1)) k_Mo_feed 50 rfl
theorem d_Mo_feed_87 : decode y_Mo_feed.2.2.1 87 = .ok (.getfield 97, 3) := mj_d (q := (87, .getfield 97, 3)) k_Mo_feed 51 rfl
theorem d_Mo_feed_90 : decode y_Mo_feed.2.2.1 90 = .ok (.invokevirtual 103, 3) := mj_d (q := (90, .invokevirtual 103, 3)) k_Mo_feed 52 rfl
theorem d_Mo_feed_93 : decode y_Mo_feed.2.2.1 93 = .ok (.ireturn, 1) := mj_d (q := (93, .ireturn, 1)) k_Mo_feed 53 rfl
theorem d_Mo_expectedIn_0 : decode y_Mo_expectedIn.2.2.1 0 = .ok (.iconst 0, 1) := mj_d (q := (0, .iconst 0, 1)) k_Mo_expectedIn 0 rfl
theorem d_Mo_expectedIn_1 : decode y_Mo_expectedIn.2.2.1 1 = .ok (.istore_n 2, 1) := mj_d (q := (1, .istore_n 2, 1)) k_Mo_expectedIn 1 rfl
theorem d_Mo_expectedIn_2 : decode y_Mo_expectedIn.2.2.1 2 = .ok (.iconst 0, 1) := mj_d (q := (2, .iconst 0, 1)) k_Mo_expectedIn 2 rfl
theorem d_Mo_expectedIn_3 : decode y_Mo_expectedIn.2.2.1 3 = .ok (.istore_n 3, 1) := mj_d (q := (3, .istore_n 3, 1)) k_Mo_expectedIn 3 rfl
theorem d_Mo_expectedIn_4 : decode y_Mo_expectedIn.2.2.1 4 = .ok (.iload_n 3, 1) := mj_d (q := (4, .iload_n 3, 1)) k_Mo_expectedIn 4 rfl
theorem d_Mo_expectedIn_5 : decode y_Mo_expectedIn.2.2.1 5 = .ok (.sipush 572, 3) := mj_d (q := (5, .sipush 572, 3)) k_Mo_expectedIn 5 rfl
theorem d_Mo_expectedIn_8 : decode y_Mo_expectedIn.2.2.1 8 = .ok (.if_icmp .ge 68, 3) := mj_d (q := (8, .if_icmp .ge 68, 3)) k_Mo_expectedIn 6 rfl
theorem d_Mo_expectedIn_11 : decode y_Mo_expectedIn.2.2.1 11 = .ok (.aload_n 0, 1) := mj_d (q := (11, .aload_n 0, 1)) k_Mo_expectedIn 7 rfl
theorem d_Mo_expectedIn_12 : decode y_Mo_expectedIn.2.2.1 12 = .ok (.getfield 22, 3) := mj_d (q := (12, .getfield 22, 3)) k_Mo_expectedIn 8 rfl
theorem d_Mo_expectedIn_15 : decode y_Mo_expectedIn.2.2.1 15 = .ok (.sipush 572, 3) := mj_d (q := (15, .sipush 572, 3)) k_Mo_expectedIn 9 rfl
theorem d_Mo_expectedIn_18 : decode y_Mo_expectedIn.2.2.1 18 = .ok (.iload_n 1, 1) := mj_d (q := (18, .iload_n 1, 1)) k_Mo_expectedIn 10 rfl
theorem d_Mo_expectedIn_19 : decode y_Mo_expectedIn.2.2.1 19 = .ok (.imul, 1) := mj_d (q := (19, .imul, 1)) k_Mo_expectedIn 11 rfl
theorem d_Mo_expectedIn_20 : decode y_Mo_expectedIn.2.2.1 20 = .ok (.iload_n 3, 1) := mj_d (q := (20, .iload_n 3, 1)) k_Mo_expectedIn 12 rfl
theorem d_Mo_expectedIn_21 : decode y_Mo_expectedIn.2.2.1 21 = .ok (.iadd, 1) := mj_d (q := (21, .iadd, 1)) k_Mo_expectedIn 13 rfl
theorem d_Mo_expectedIn_22 : decode y_Mo_expectedIn.2.2.1 22 = .ok (.baload, 1) := mj_d (q := (22, .baload, 1)) k_Mo_expectedIn 14 rfl
theorem d_Mo_expectedIn_23 : decode y_Mo_expectedIn.2.2.1 23 = .ok (.ifCond .eq 23, 3) := mj_d (q := (23, .ifCond .eq 23, 3)) k_Mo_expectedIn 15 rfl
theorem d_Mo_expectedIn_26 : decode y_Mo_expectedIn.2.2.1 26 = .ok (.aload_n 0, 1) := mj_d (q := (26, .aload_n 0, 1)) k_Mo_expectedIn 16 rfl
theorem d_Mo_expectedIn_27 : decode y_Mo_expectedIn.2.2.1 27 = .ok (.iload_n 3, 1) := mj_d (q := (27, .iload_n 3, 1)) k_Mo_expectedIn 17 rfl
theorem d_Mo_expectedIn_28 : decode y_Mo_expectedIn.2.2.1 28 = .ok (.bipush 52, 2) := mj_d (q := (28, .bipush 52, 2)) k_Mo_expectedIn 18 rfl
theorem d_Mo_expectedIn_30 : decode y_Mo_expectedIn.2.2.1 30 = .ok (.idiv, 1) := mj_d (q := (30, .idiv, 1)) k_Mo_expectedIn 19 rfl
theorem d_Mo_expectedIn_31 : decode y_Mo_expectedIn.2.2.1 31 = .ok (.iconst 1, 1) := mj_d (q := (31, .iconst 1, 1)) k_Mo_expectedIn 20 rfl
theorem d_Mo_expectedIn_32 : decode y_Mo_expectedIn.2.2.1 32 = .ok (.isub, 1) := mj_d (q := (32, .isub, 1)) k_Mo_expectedIn 21 rfl
theorem d_Mo_expectedIn_33 : decode y_Mo_expectedIn.2.2.1 33 = .ok (.iload_n 3, 1) := mj_d (q := (33, .iload_n 3, 1)) k_Mo_expectedIn 22 rfl
theorem d_Mo_expectedIn_34 : decode y_Mo_expectedIn.2.2.1 34 = .ok (.bipush 52, 2) := mj_d (q := (34, .bipush 52, 2)) k_Mo_expectedIn 23 rfl
theorem d_Mo_expectedIn_36 : decode y_Mo_expectedIn.2.2.1 36 = .ok (.irem, 1) := mj_d (q := (36, .irem, 1)) k_Mo_expectedIn 24 rfl
theorem d_Mo_expectedIn_37 : decode y_Mo_expectedIn.2.2.1 37 = .ok (.bipush 13, 2) := mj_d (q := (37, .bipush 13, 2)) k_Mo_expectedIn 25 rfl
theorem d_Mo_expectedIn_39 : decode y_Mo_expectedIn.2.2.1 39 = .ok (.idiv, 1) := mj_d (q := (39, .idiv, 1)) k_Mo_expectedIn 26 rfl
theorem d_Mo_expectedIn_40 : decode y_Mo_expectedIn.2.2.1 40 = .ok (.invokevirtual 65, 3) := mj_d (q := (40, .invokevirtual 65, 3)) k_Mo_expectedIn 27 rfl
theorem d_Mo_expectedIn_43 : decode y_Mo_expectedIn.2.2.1 43 = .ok (.goto 4, 3) := mj_d (q := (43, .goto 4, 3)) k_Mo_expectedIn 28 rfl
theorem d_Mo_expectedIn_46 : decode y_Mo_expectedIn.2.2.1 46 = .ok (.iconst (-1), 1) := mj_d (q := (46, .iconst (-1), 1)) k_Mo_expectedIn 29 rfl
theorem d_Mo_expectedIn_47 : decode y_Mo_expectedIn.2.2.1 47 = .ok (.istore 4, 2) := mj_d (q := (47, .istore 4, 2)) k_Mo_expectedIn 30 rfl
theorem d_Mo_expectedIn_49 : decode y_Mo_expectedIn.2.2.1 49 = .ok (.iload_n 2, 1) := mj_d (q := (49, .iload_n 2, 1)) k_Mo_expectedIn 31 rfl
theorem d_Mo_expectedIn_50 : decode y_Mo_expectedIn.2.2.1 50 = .ok (.iload 4, 2) := mj_d (q := (50, .iload 4, 2)) k_Mo_expectedIn 32 rfl
theorem d_Mo_expectedIn_52 : decode y_Mo_expectedIn.2.2.1 52 = .ok (.bipush 8, 2) := mj_d (q := (52, .bipush 8, 2)) k_Mo_expectedIn 33 rfl
theorem d_Mo_expectedIn_54 : decode y_Mo_expectedIn.2.2.1 54 = .ok (.if_icmp .lt 13, 3) := mj_d (q := (54, .if_icmp .lt 13, 3)) k_Mo_expectedIn 34 rfl
theorem d_Mo_expectedIn_57 : decode y_Mo_expectedIn.2.2.1 57 = .ok (.iconst 1, 1) := mj_d (q := (57, .iconst 1, 1)) k_Mo_expectedIn 35 rfl
theorem d_Mo_expectedIn_58 : decode y_Mo_expectedIn.2.2.1 58 = .ok (.iload 4, 2) := mj_d (q := (58, .iload 4, 2)) k_Mo_expectedIn 36 rfl
theorem d_Mo_expectedIn_60 : decode y_Mo_expectedIn.2.2.1 60 = .ok (.bipush 8, 2) := mj_d (q := (60, .bipush 8, 2)) k_Mo_expectedIn 37 rfl
theorem d_Mo_expectedIn_62 : decode y_Mo_expectedIn.2.2.1 62 = .ok (.isub, 1) := mj_d (q := (62, .isub, 1)) k_Mo_expectedIn 38 rfl
theorem d_Mo_expectedIn_63 : decode y_Mo_expectedIn.2.2.1 63 = .ok (.ishl, 1) := mj_d (q := (63, .ishl, 1)) k_Mo_expectedIn 39 rfl
theorem d_Mo_expectedIn_64 : decode y_Mo_expectedIn.2.2.1 64 = .ok (.goto 4, 3) := mj_d (q := (64, .goto 4, 3)) k_Mo_expectedIn 40 rfl
theorem d_Mo_expectedIn_67 : decode y_Mo_expectedIn.2.2.1 67 = .ok (.iconst 0, 1) := mj_d (q := (67, .iconst 0, 1)) k_Mo_expectedIn 41 rfl
theorem d_Mo_expectedIn_68 : decode y_Mo_expectedIn.2.2.1 68 = .ok (.ior, 1) := mj_d (q := (68, .ior, 1)) k_Mo_expectedIn 42 rfl
theorem d_Mo_expectedIn_69 : decode y_Mo_expectedIn.2.2.1 69 = .ok (.istore_n 2, 1) := mj_d (q := (69, .istore_n 2, 1)) k_Mo_expectedIn 43 rfl
theorem d_Mo_expectedIn_70 : decode y_Mo_expectedIn.2.2.1 70 = .ok (.iinc 3 1, 3) := mj_d (q := (70, .iinc 3 1, 3)) k_Mo_expectedIn 44 rfl
theorem d_Mo_expectedIn_73 : decode y_Mo_expectedIn.2.2.1 73 = .ok (.goto (-69), 3) := mj_d (q := (73, .goto (-69), 3)) k_Mo_expectedIn 45 rfl
theorem d_Mo_expectedIn_76 : decode y_Mo_expectedIn.2.2.1 76 = .ok (.iload_n 2, 1) := mj_d (q := (76, .iload_n 2, 1)) k_Mo_expectedIn 46 rfl
theorem d_Mo_expectedIn_77 : decode y_Mo_expectedIn.2.2.1 77 = .ok (.ireturn, 1) := mj_d (q := (77, .ireturn, 1)) k_Mo_expectedIn 47 rfl
theorem d_Mo_sizeOf_0 : decode y_Mo_sizeOf.2.2.1 0 = .ok (.iconst 0, 1) := mj_d (q := (0, .iconst 0, 1)) k_Mo_sizeOf 0 rfl
theorem d_Mo_sizeOf_1 : decode y_Mo_sizeOf.2.2.1 1 = .ok (.istore_n 2, 1) := mj_d (q := (1, .istore_n 2, 1)) k_Mo_sizeOf 1 rfl
theorem d_Mo_sizeOf_2 : decode y_Mo_sizeOf.2.2.1 2 = .ok (.iconst 0, 1) := mj_d (q := (2, .iconst 0, 1)) k_Mo_sizeOf 2 rfl
theorem d_Mo_sizeOf_3 : decode y_Mo_sizeOf.2.2.1 3 = .ok (.istore_n 3, 1) := mj_d (q := (3, .istore_n 3, 1)) k_Mo_sizeOf 3 rfl
theorem d_Mo_sizeOf_4 : decode y_Mo_sizeOf.2.2.1 4 = .ok (.iload_n 3, 1) := mj_d (q := (4, .iload_n 3, 1)) k_Mo_sizeOf 4 rfl
theorem d_Mo_sizeOf_5 : decode y_Mo_sizeOf.2.2.1 5 = .ok (.sipush 572, 3) := mj_d (q := (5, .sipush 572, 3)) k_Mo_sizeOf 5 rfl
theorem d_Mo_sizeOf_8 : decode y_Mo_sizeOf.2.2.1 8 = .ok (.if_icmp .ge 32, 3) := mj_d (q := (8, .if_icmp .ge 32, 3)) k_Mo_sizeOf 6 rfl
theorem d_Mo_sizeOf_11 : decode y_Mo_sizeOf.2.2.1 11 = .ok (.iload_n 2, 1) := mj_d (q := (11, .iload_n 2, 1)) k_Mo_sizeOf 7 rfl
theorem d_Mo_sizeOf_12 : decode y_Mo_sizeOf.2.2.1 12 = .ok (.aload_n 0, 1) := mj_d (q := (12, .aload_n 0, 1)) k_Mo_sizeOf 8 rfl
theorem d_Mo_sizeOf_13 : decode y_Mo_sizeOf.2.2.1 13 = .ok (.getfield 22, 3) := mj_d (q := (13, .getfield 22, 3)) k_Mo_sizeOf 9 rfl
theorem d_Mo_sizeOf_16 : decode y_Mo_sizeOf.2.2.1 16 = .ok (.sipush 572, 3) := mj_d (q := (16, .sipush 572, 3)) k_Mo_sizeOf 10 rfl
theorem d_Mo_sizeOf_19 : decode y_Mo_sizeOf.2.2.1 19 = .ok (.iload_n 1, 1) := mj_d (q := (19, .iload_n 1, 1)) k_Mo_sizeOf 11 rfl
theorem d_Mo_sizeOf_20 : decode y_Mo_sizeOf.2.2.1 20 = .ok (.imul, 1) := mj_d (q := (20, .imul, 1)) k_Mo_sizeOf 12 rfl
theorem d_Mo_sizeOf_21 : decode y_Mo_sizeOf.2.2.1 21 = .ok (.iload_n 3, 1) := mj_d (q := (21, .iload_n 3, 1)) k_Mo_sizeOf 13 rfl
theorem d_Mo_sizeOf_22 : decode y_Mo_sizeOf.2.2.1 22 = .ok (.iadd, 1) := mj_d (q := (22, .iadd, 1)) k_Mo_sizeOf 14 rfl
theorem d_Mo_sizeOf_23 : decode y_Mo_sizeOf.2.2.1 23 = .ok (.baload, 1) := mj_d (q := (23, .baload, 1)) k_Mo_sizeOf 15 rfl
theorem d_Mo_sizeOf_24 : decode y_Mo_sizeOf.2.2.1 24 = .ok (.ifCond .eq 7, 3) := mj_d (q := (24, .ifCond .eq 7, 3)) k_Mo_sizeOf 16 rfl
theorem d_Mo_sizeOf_27 : decode y_Mo_sizeOf.2.2.1 27 = .ok (.iconst 1, 1) := mj_d (q := (27, .iconst 1, 1)) k_Mo_sizeOf 17 rfl
theorem d_Mo_sizeOf_28 : decode y_Mo_sizeOf.2.2.1 28 = .ok (.goto 4, 3) := mj_d (q := (28, .goto 4, 3)) k_Mo_sizeOf 18 rfl
theorem d_Mo_sizeOf_31 : decode y_Mo_sizeOf.2.2.1 31 = .ok (.iconst 0, 1) := mj_d (q := (31, .iconst 0, 1)) k_Mo_sizeOf 19 rfl
theorem d_Mo_sizeOf_32 : decode y_Mo_sizeOf.2.2.1 32 = .ok (.iadd, 1) := mj_d (q := (32, .iadd, 1)) k_Mo_sizeOf 20 rfl
theorem d_Mo_sizeOf_33 : decode y_Mo_sizeOf.2.2.1 33 = .ok (.istore_n 2, 1) := mj_d (q := (33, .istore_n 2, 1)) k_Mo_sizeOf 21 rfl
theorem d_Mo_sizeOf_34 : decode y_Mo_sizeOf.2.2.1 34 = .ok (.iinc 3 1, 3) := mj_d (q := (34, .iinc 3 1, 3)) k_Mo_sizeOf 22 rfl
theorem d_Mo_sizeOf_37 : decode y_Mo_sizeOf.2.2.1 37 = .ok (.goto (-33), 3) := mj_d (q := (37, .goto (-33), 3)) k_Mo_sizeOf 23 rfl
theorem d_Mo_sizeOf_40 : decode y_Mo_sizeOf.2.2.1 40 = .ok (.iload_n 2, 1) := mj_d (q := (40, .iload_n 2, 1)) k_Mo_sizeOf 24 rfl
theorem d_Mo_sizeOf_41 : decode y_Mo_sizeOf.2.2.1 41 = .ok (.ireturn, 1) := mj_d (q := (41, .ireturn, 1)) k_Mo_sizeOf 25 rfl
theorem d_Mo_back_0 : decode y_Mo_back.2.2.1 0 = .ok (.aload_n 0, 1) := mj_d (q := (0, .aload_n 0, 1)) k_Mo_back 0 rfl
theorem d_Mo_back_1 : decode y_Mo_back.2.2.1 1 = .ok (.iconst 0, 1) := mj_d (q := (1, .iconst 0, 1)) k_Mo_back 1 rfl
theorem d_Mo_back_2 : decode y_Mo_back.2.2.1 2 = .ok (.putfield 53, 3) := mj_d (q := (2, .putfield 53, 3)) k_Mo_back 2 rfl
theorem d_Mo_back_5 : decode y_Mo_back.2.2.1 5 = .ok (.iload_n 1, 1) := mj_d (q := (5, .iload_n 1, 1)) k_Mo_back 3 rfl
theorem d_Mo_back_6 : decode y_Mo_back.2.2.1 6 = .ok (.ifCond .lt 11, 3) := mj_d (q := (6, .ifCond .lt 11, 3)) k_Mo_back 4 rfl
theorem d_Mo_back_9 : decode y_Mo_back.2.2.1 9 = .ok (.iload_n 1, 1) := mj_d (q := (9, .iload_n 1, 1)) k_Mo_back 5 rfl
theorem d_Mo_back_10 : decode y_Mo_back.2.2.1 10 = .ok (.aload_n 0, 1) := mj_d (q := (10, .aload_n 0, 1)) k_Mo_back 6 rfl
theorem d_Mo_back_11 : decode y_Mo_back.2.2.1 11 = .ok (.getfield 97, 3) := mj_d (q := (11, .getfield 97, 3)) k_Mo_back 7 rfl
theorem d_Mo_back_14 : decode y_Mo_back.2.2.1 14 = .ok (.if_icmp .le 9, 3) := mj_d (q := (14, .if_icmp .le 9, 3)) k_Mo_back 8 rfl
theorem d_Mo_back_17 : decode y_Mo_back.2.2.1 17 = .ok (.aload_n 0, 1) := mj_d (q := (17, .aload_n 0, 1)) k_Mo_back 9 rfl
theorem d_Mo_back_18 : decode y_Mo_back.2.2.1 18 = .ok (.iconst 1, 1) := mj_d (q := (18, .iconst 1, 1)) k_Mo_back 10 rfl
theorem d_Mo_back_19 : decode y_Mo_back.2.2.1 19 = .ok (.invokevirtual 91, 3) := mj_d (q := (19, .invokevirtual 91, 3)) k_Mo_back 11 rfl
theorem d_Mo_back_22 : decode y_Mo_back.2.2.1 22 = .ok (.ireturn, 1) := mj_d (q := (22, .ireturn, 1)) k_Mo_back 12 rfl
theorem d_Mo_back_23 : decode y_Mo_back.2.2.1 23 = .ok (.aload_n 0, 1) := mj_d (q := (23, .aload_n 0, 1)) k_Mo_back 13 rfl
theorem d_Mo_back_24 : decode y_Mo_back.2.2.1 24 = .ok (.dup, 1) := mj_d (q := (24, .dup, 1)) k_Mo_back 14 rfl
theorem d_Mo_back_25 : decode y_Mo_back.2.2.1 25 = .ok (.getfield 97, 3) := mj_d (q := (25, .getfield 97, 3)) k_Mo_back 15 rfl
theorem d_Mo_back_28 : decode y_Mo_back.2.2.1 28 = .ok (.iload_n 1, 1) := mj_d (q := (28, .iload_n 1, 1)) k_Mo_back 16 rfl
theorem d_Mo_back_29 : decode y_Mo_back.2.2.1 29 = .ok (.isub, 1) := mj_d (q := (29, .isub, 1)) k_Mo_back 17 rfl
theorem d_Mo_back_30 : decode y_Mo_back.2.2.1 30 = .ok (.putfield 97, 3) := mj_d (q := (30, .putfield 97, 3)) k_Mo_back 18 rfl
theorem d_Mo_back_33 : decode y_Mo_back.2.2.1 33 = .ok (.aload_n 0, 1) := mj_d (q := (33, .aload_n 0, 1)) k_Mo_back 19 rfl
theorem d_Mo_back_34 : decode y_Mo_back.2.2.1 34 = .ok (.iconst 0, 1) := mj_d (q := (34, .iconst 0, 1)) k_Mo_back 20 rfl
theorem d_Mo_back_35 : decode y_Mo_back.2.2.1 35 = .ok (.putfield 85, 3) := mj_d (q := (35, .putfield 85, 3)) k_Mo_back 21 rfl
theorem d_Mo_back_38 : decode y_Mo_back.2.2.1 38 = .ok (.aload_n 0, 1) := mj_d (q := (38, .aload_n 0, 1)) k_Mo_back 22 rfl
theorem d_Mo_back_39 : decode y_Mo_back.2.2.1 39 = .ok (.getfield 97, 3) := mj_d (q := (39, .getfield 97, 3)) k_Mo_back 23 rfl
theorem d_Mo_back_42 : decode y_Mo_back.2.2.1 42 = .ok (.ireturn, 1) := mj_d (q := (42, .ireturn, 1)) k_Mo_back 24 rfl
theorem d_Mo_fed_0 : decode y_Mo_fed.2.2.1 0 = .ok (.aload_n 0, 1) := mj_d (q := (0, .aload_n 0, 1)) k_Mo_fed 0 rfl
theorem d_Mo_fed_1 : decode y_Mo_fed.2.2.1 1 = .ok (.iconst 0, 1) := mj_d (q := (1, .iconst 0, 1)) k_Mo_fed 1 rfl
theorem d_Mo_fed_2 : decode y_Mo_fed.2.2.1 2 = .ok (.putfield 53, 3) := mj_d (q := (2, .putfield 53, 3)) k_Mo_fed 2 rfl
theorem d_Mo_fed_5 : decode y_Mo_fed.2.2.1 5 = .ok (.aload_n 0, 1) := mj_d (q := (5, .aload_n 0, 1)) k_Mo_fed 3 rfl
theorem d_Mo_fed_6 : decode y_Mo_fed.2.2.1 6 = .ok (.getfield 97, 3) := mj_d (q := (6, .getfield 97, 3)) k_Mo_fed 4 rfl
theorem d_Mo_fed_9 : decode y_Mo_fed.2.2.1 9 = .ok (.ireturn, 1) := mj_d (q := (9, .ireturn, 1)) k_Mo_fed 5 rfl
theorem d_Mo_accepts_0 : decode y_Mo_accepts.2.2.1 0 = .ok (.aload_n 0, 1) := mj_d (q := (0, .aload_n 0, 1)) k_Mo_accepts 0 rfl
theorem d_Mo_accepts_1 : decode y_Mo_accepts.2.2.1 1 = .ok (.iconst 0, 1) := mj_d (q := (1, .iconst 0, 1)) k_Mo_accepts 1 rfl
theorem d_Mo_accepts_2 : decode y_Mo_accepts.2.2.1 2 = .ok (.putfield 53, 3) := mj_d (q := (2, .putfield 53, 3)) k_Mo_accepts 2 rfl
theorem d_Mo_accepts_5 : decode y_Mo_accepts.2.2.1 5 = .ok (.aload_n 0, 1) := mj_d (q := (5, .aload_n 0, 1)) k_Mo_accepts 3 rfl
theorem d_Mo_accepts_6 : decode y_Mo_accepts.2.2.1 6 = .ok (.aload_n 0, 1) := mj_d (q := (6, .aload_n 0, 1)) k_Mo_accepts 4 rfl
theorem d_Mo_accepts_7 : decode y_Mo_accepts.2.2.1 7 = .ok (.getfield 97, 3) := mj_d (q := (7, .getfield 97, 3)) k_Mo_accepts 5 rfl
theorem d_Mo_accepts_10 : decode y_Mo_accepts.2.2.1 10 = .ok (.iconst (-1), 1) := mj_d (q := (10, .iconst (-1), 1)) k_Mo_accepts 6 rfl
theorem d_Mo_accepts_11 : decode y_Mo_accepts.2.2.1 11 = .ok (.iconst 1, 1) := mj_d (q := (11, .iconst 1, 1)) k_Mo_accepts 7 rfl
theorem d_Mo_accepts_12 : decode y_Mo_accepts.2.2.1 12 = .ok (.iconst 0, 1) := mj_d (q := (12, .iconst 0, 1)) k_Mo_accepts 8 rfl
theorem d_Mo_accepts_13 : decode y_Mo_accepts.2.2.1 13 = .ok (.invokevirtual 106, 3) := mj_d (q := (13, .invokevirtual 106, 3)) k_Mo_accepts 9 rfl
theorem d_Mo_accepts_16 : decode y_Mo_accepts.2.2.1 16 = .ok (.ireturn, 1) := mj_d (q := (16, .ireturn, 1)) k_Mo_accepts 10 rfl
theorem d_Mo_holds_0 : decode y_Mo_holds.2.2.1 0 = .ok (.aload_n 0, 1) := mj_d (q := (0, .aload_n 0, 1)) k_Mo_holds 0 rfl
theorem d_Mo_holds_1 : decode y_Mo_holds.2.2.1 1 = .ok (.getfield 22, 3) := mj_d (q := (1, .getfield 22, 3)) k_Mo_holds 1 rfl
theorem d_Mo_holds_4 : decode y_Mo_holds.2.2.1 4 = .ok (.iload_n 1, 1) := mj_d (q := (4, .iload_n 1, 1)) k_Mo_holds 2 rfl
theorem d_Mo_holds_5 : decode y_Mo_holds.2.2.1 5 = .ok (.iload_n 2, 1) := mj_d (q := (5, .iload_n 2, 1)) k_Mo_holds 3 rfl
theorem d_Mo_holds_6 : decode y_Mo_holds.2.2.1 6 = .ok (.iload_n 3, 1) := mj_d (q := (6, .iload_n 3, 1)) k_Mo_holds 4 rfl
theorem d_Mo_holds_7 : decode y_Mo_holds.2.2.1 7 = .ok (.iload 4, 2) := mj_d (q := (7, .iload 4, 2)) k_Mo_holds 5 rfl
theorem d_Mo_holds_9 : decode y_Mo_holds.2.2.1 9 = .ok (.invokestatic 61, 3) := mj_d (q := (9, .invokestatic 61, 3)) k_Mo_holds 6 rfl
theorem d_Mo_holds_12 : decode y_Mo_holds.2.2.1 12 = .ok (.baload, 1) := mj_d (q := (12, .baload, 1)) k_Mo_holds 7 rfl
theorem d_Mo_holds_13 : decode y_Mo_holds.2.2.1 13 = .ok (.ireturn, 1) := mj_d (q := (13, .ireturn, 1)) k_Mo_holds 8 rfl
theorem d_Mo_expected_0 : decode y_Mo_expected.2.2.1 0 = .ok (.aload_n 0, 1) := mj_d (q := (0, .aload_n 0, 1)) k_Mo_expected 0 rfl
theorem d_Mo_expected_1 : decode y_Mo_expected.2.2.1 1 = .ok (.iconst 0, 1) := mj_d (q := (1, .iconst 0, 1)) k_Mo_expected 1 rfl
theorem d_Mo_expected_2 : decode y_Mo_expected.2.2.1 2 = .ok (.putfield 53, 3) := mj_d (q := (2, .putfield 53, 3)) k_Mo_expected 2 rfl
theorem d_Mo_expected_5 : decode y_Mo_expected.2.2.1 5 = .ok (.aload_n 0, 1) := mj_d (q := (5, .aload_n 0, 1)) k_Mo_expected 3 rfl
theorem d_Mo_expected_6 : decode y_Mo_expected.2.2.1 6 = .ok (.aload_n 0, 1) := mj_d (q := (6, .aload_n 0, 1)) k_Mo_expected 4 rfl
theorem d_Mo_expected_7 : decode y_Mo_expected.2.2.1 7 = .ok (.getfield 97, 3) := mj_d (q := (7, .getfield 97, 3)) k_Mo_expected 5 rfl
theorem d_Mo_expected_10 : decode y_Mo_expected.2.2.1 10 = .ok (.invokevirtual 100, 3) := mj_d (q := (10, .invokevirtual 100, 3)) k_Mo_expected 6 rfl
theorem d_Mo_expected_13 : decode y_Mo_expected.2.2.1 13 = .ok (.ireturn, 1) := mj_d (q := (13, .ireturn, 1)) k_Mo_expected 7 rfl
theorem d_Mo_items_0 : decode y_Mo_items.2.2.1 0 = .ok (.aload_n 0, 1) := mj_d (q := (0, .aload_n 0, 1)) k_Mo_items 0 rfl
theorem d_Mo_items_1 : decode y_Mo_items.2.2.1 1 = .ok (.iconst 0, 1) := mj_d (q := (1, .iconst 0, 1)) k_Mo_items 1 rfl
theorem d_Mo_items_2 : decode y_Mo_items.2.2.1 2 = .ok (.putfield 53, 3) := mj_d (q := (2, .putfield 53, 3)) k_Mo_items 2 rfl
theorem d_Mo_items_5 : decode y_Mo_items.2.2.1 5 = .ok (.aload_n 0, 1) := mj_d (q := (5, .aload_n 0, 1)) k_Mo_items 3 rfl
theorem d_Mo_items_6 : decode y_Mo_items.2.2.1 6 = .ok (.iload_n 1, 1) := mj_d (q := (6, .iload_n 1, 1)) k_Mo_items 4 rfl
theorem d_Mo_items_7 : decode y_Mo_items.2.2.1 7 = .ok (.invokevirtual 110, 3) := mj_d (q := (7, .invokevirtual 110, 3)) k_Mo_items 5 rfl
theorem d_Mo_items_10 : decode y_Mo_items.2.2.1 10 = .ok (.ifCond .eq 11, 3) := mj_d (q := (10, .ifCond .eq 11, 3)) k_Mo_items 6 rfl
theorem d_Mo_items_13 : decode y_Mo_items.2.2.1 13 = .ok (.aload_n 0, 1) := mj_d (q := (13, .aload_n 0, 1)) k_Mo_items 7 rfl
theorem d_Mo_items_14 : decode y_Mo_items.2.2.1 14 = .ok (.iload_n 1, 1) := mj_d (q := (14, .iload_n 1, 1)) k_Mo_items 8 rfl
theorem d_Mo_items_15 : decode y_Mo_items.2.2.1 15 = .ok (.invokevirtual 103, 3) := mj_d (q := (15, .invokevirtual 103, 3)) k_Mo_items 9 rfl
theorem d_Mo_items_18 : decode y_Mo_items.2.2.1 18 = .ok (.goto 8, 3) := mj_d (q := (18, .goto 8, 3)) k_Mo_items 10 rfl
theorem d_Mo_items_21 : decode y_Mo_items.2.2.1 21 = .ok (.aload_n 0, 1) := mj_d (q := (21, .aload_n 0, 1)) k_Mo_items 11 rfl
theorem d_Mo_items_22 : decode y_Mo_items.2.2.1 22 = .ok (.iconst 1, 1) := mj_d (q := (22, .iconst 1, 1)) k_Mo_items 12 rfl
theorem d_Mo_items_23 : decode y_Mo_items.2.2.1 23 = .ok (.invokevirtual 91, 3) := mj_d (q := (23, .invokevirtual 91, 3)) k_Mo_items 13 rfl
theorem d_Mo_items_26 : decode y_Mo_items.2.2.1 26 = .ok (.ireturn, 1) := mj_d (q := (26, .ireturn, 1)) k_Mo_items 14 rfl
theorem d_Mo_isSet_0 : decode y_Mo_isSet.2.2.1 0 = .ok (.iload_n 1, 1) := mj_d (q := (0, .iload_n 1, 1)) k_Mo_isSet 0 rfl
theorem d_Mo_isSet_1 : decode y_Mo_isSet.2.2.1 1 = .ok (.ifCond .lt 15, 3) := mj_d (q := (1, .ifCond .lt 15, 3)) k_Mo_isSet 1 rfl
theorem d_Mo_isSet_4 : decode y_Mo_isSet.2.2.1 4 = .ok (.iload_n 1, 1) := mj_d (q := (4, .iload_n 1, 1)) k_Mo_isSet 2 rfl
theorem d_Mo_isSet_5 : decode y_Mo_isSet.2.2.1 5 = .ok (.aload_n 0, 1) := mj_d (q := (5, .aload_n 0, 1)) k_Mo_isSet 3 rfl
theorem d_Mo_isSet_6 : decode y_Mo_isSet.2.2.1 6 = .ok (.getfield 97, 3) := mj_d (q := (6, .getfield 97, 3)) k_Mo_isSet 4 rfl
theorem d_Mo_isSet_9 : decode y_Mo_isSet.2.2.1 9 = .ok (.if_icmp .gt 7, 3) := mj_d (q := (9, .if_icmp .gt 7, 3)) k_Mo_isSet 5 rfl
theorem d_Mo_isSet_12 : decode y_Mo_isSet.2.2.1 12 = .ok (.iconst 1, 1) := mj_d (q := (12, .iconst 1, 1)) k_Mo_isSet 6 rfl
theorem d_Mo_isSet_13 : decode y_Mo_isSet.2.2.1 13 = .ok (.goto 4, 3) := mj_d (q := (13, .goto 4, 3)) k_Mo_isSet 7 rfl
theorem d_Mo_isSet_16 : decode y_Mo_isSet.2.2.1 16 = .ok (.iconst 0, 1) := mj_d (q := (16, .iconst 0, 1)) k_Mo_isSet 8 rfl
theorem d_Mo_isSet_17 : decode y_Mo_isSet.2.2.1 17 = .ok (.ireturn, 1) := mj_d (q := (17, .ireturn, 1)) k_Mo_isSet 9 rfl
theorem d_Mo_has_0 : decode y_Mo_has.2.2.1 0 = .ok (.aload_n 0, 1) := mj_d (q := (0, .aload_n 0, 1)) k_Mo_has 0 rfl
theorem d_Mo_has_1 : decode y_Mo_has.2.2.1 1 = .ok (.aload_n 0, 1) := mj_d (q := (1, .aload_n 0, 1)) k_Mo_has 1 rfl
theorem d_Mo_has_2 : decode y_Mo_has.2.2.1 2 = .ok (.iload_n 1, 1) := mj_d (q := (2, .iload_n 1, 1)) k_Mo_has 2 rfl
theorem d_Mo_has_3 : decode y_Mo_has.2.2.1 3 = .ok (.invokevirtual 110, 3) := mj_d (q := (3, .invokevirtual 110, 3)) k_Mo_has 3 rfl
theorem d_Mo_has_6 : decode y_Mo_has.2.2.1 6 = .ok (.ifCond .eq 7, 3) := mj_d (q := (6, .ifCond .eq 7, 3)) k_Mo_has 4 rfl
theorem d_Mo_has_9 : decode y_Mo_has.2.2.1 9 = .ok (.iconst 0, 1) := mj_d (q := (9, .iconst 0, 1)) k_Mo_has 5 rfl
theorem d_Mo_has_10 : decode y_Mo_has.2.2.1 10 = .ok (.goto 4, 3) := mj_d (q := (10, .goto 4, 3)) k_Mo_has 6 rfl
theorem d_Mo_has_13 : decode y_Mo_has.2.2.1 13 = .ok (.iconst 1, 1) := mj_d (q := (13, .iconst 1, 1)) k_Mo_has 7 rfl
theorem d_Mo_has_14 : decode y_Mo_has.2.2.1 14 = .ok (.putfield 53, 3) := mj_d (q := (14, .putfield 53, 3)) k_Mo_has 8 rfl
theorem d_Mo_has_17 : decode y_Mo_has.2.2.1 17 = .ok (.aload_n 0, 1) := mj_d (q := (17, .aload_n 0, 1)) k_Mo_has 9 rfl
theorem d_Mo_has_18 : decode y_Mo_has.2.2.1 18 = .ok (.getfield 53, 3) := mj_d (q := (18, .getfield 53, 3)) k_Mo_has 10 rfl
theorem d_Mo_has_21 : decode y_Mo_has.2.2.1 21 = .ok (.ifCond .ne 38, 3) := mj_d (q := (21, .ifCond .ne 38, 3)) k_Mo_has 11 rfl
theorem d_Mo_has_24 : decode y_Mo_has.2.2.1 24 = .ok (.iload_n 2, 1) := mj_d (q := (24, .iload_n 2, 1)) k_Mo_has 12 rfl
theorem d_Mo_has_25 : decode y_Mo_has.2.2.1 25 = .ok (.iconst (-1), 1) := mj_d (q := (25, .iconst (-1), 1)) k_Mo_has 13 rfl
theorem d_Mo_has_26 : decode y_Mo_has.2.2.1 26 = .ok (.if_icmp .lt 33, 3) := mj_d (q := (26, .if_icmp .lt 33, 3)) k_Mo_has 14 rfl
theorem d_Mo_has_29 : decode y_Mo_has.2.2.1 29 = .ok (.iload_n 2, 1) := mj_d (q := (29, .iload_n 2, 1)) k_Mo_has 15 rfl
theorem d_Mo_has_30 : decode y_Mo_has.2.2.1 30 = .ok (.aload_n 0, 1) := mj_d (q := (30, .aload_n 0, 1)) k_Mo_has 16 rfl
theorem d_Mo_has_31 : decode y_Mo_has.2.2.1 31 = .ok (.getfield 73, 3) := mj_d (q := (31, .getfield 73, 3)) k_Mo_has 17 rfl
theorem d_Mo_has_34 : decode y_Mo_has.2.2.1 34 = .ok (.if_icmp .ge 25, 3) := mj_d (q := (34, .if_icmp .ge 25, 3)) k_Mo_has 18 rfl
theorem d_Mo_has_37 : decode y_Mo_has.2.2.1 37 = .ok (.iload_n 3, 1) := mj_d (q := (37, .iload_n 3, 1)) k_Mo_has 19 rfl
theorem d_Mo_has_38 : decode y_Mo_has.2.2.1 38 = .ok (.ifCond .lt 21, 3) := mj_d (q := (38, .ifCond .lt 21, 3)) k_Mo_has 20 rfl
theorem d_Mo_has_41 : decode y_Mo_has.2.2.1 41 = .ok (.iload_n 3, 1) := mj_d (q := (41, .iload_n 3, 1)) k_Mo_has 21 rfl
theorem d_Mo_has_42 : decode y_Mo_has.2.2.1 42 = .ok (.aload_n 0, 1) := mj_d (q := (42, .aload_n 0, 1)) k_Mo_has 22 rfl
theorem d_Mo_has_43 : decode y_Mo_has.2.2.1 43 = .ok (.iload_n 2, 1) := mj_d (q := (43, .iload_n 2, 1)) k_Mo_has 23 rfl
theorem d_Mo_has_44 : decode y_Mo_has.2.2.1 44 = .ok (.invokevirtual 57, 3) := mj_d (q := (44, .invokevirtual 57, 3)) k_Mo_has 24 rfl
theorem d_Mo_has_47 : decode y_Mo_has.2.2.1 47 = .ok (.if_icmp .gt 12, 3) := mj_d (q := (47, .if_icmp .gt 12, 3)) k_Mo_has 25 rfl
theorem d_Mo_has_50 : decode y_Mo_has.2.2.1 50 = .ok (.aload_n 0, 1) := mj_d (q := (50, .aload_n 0, 1)) k_Mo_has 26 rfl
theorem d_Mo_has_51 : decode y_Mo_has.2.2.1 51 = .ok (.iload 4, 2) := mj_d (q := (51, .iload 4, 2)) k_Mo_has 27 rfl
theorem d_Mo_has_53 : decode y_Mo_has.2.2.1 53 = .ok (.invokevirtual 110, 3) := mj_d (q := (53, .invokevirtual 110, 3)) k_Mo_has 28 rfl
theorem d_Mo_has_56 : decode y_Mo_has.2.2.1 56 = .ok (.ifCond .ne 5, 3) := mj_d (q := (56, .ifCond .ne 5, 3)) k_Mo_has 29 rfl
theorem d_Mo_has_59 : decode y_Mo_has.2.2.1 59 = .ok (.iconst 0, 1) := mj_d (q := (59, .iconst 0, 1)) k_Mo_has 30 rfl
theorem d_Mo_has_60 : decode y_Mo_has.2.2.1 60 = .ok (.ireturn, 1) := mj_d (q := (60, .ireturn, 1)) k_Mo_has 31 rfl
theorem d_Mo_has_61 : decode y_Mo_has.2.2.1 61 = .ok (.aload_n 0, 1) := mj_d (q := (61, .aload_n 0, 1)) k_Mo_has 32 rfl
theorem d_Mo_has_62 : decode y_Mo_has.2.2.1 62 = .ok (.iload_n 1, 1) := mj_d (q := (62, .iload_n 1, 1)) k_Mo_has 33 rfl
theorem d_Mo_has_63 : decode y_Mo_has.2.2.1 63 = .ok (.iload_n 2, 1) := mj_d (q := (63, .iload_n 2, 1)) k_Mo_has 34 rfl
theorem d_Mo_has_64 : decode y_Mo_has.2.2.1 64 = .ok (.iload_n 3, 1) := mj_d (q := (64, .iload_n 3, 1)) k_Mo_has 35 rfl
theorem d_Mo_has_65 : decode y_Mo_has.2.2.1 65 = .ok (.iload 4, 2) := mj_d (q := (65, .iload 4, 2)) k_Mo_has 36 rfl
theorem d_Mo_has_67 : decode y_Mo_has.2.2.1 67 = .ok (.invokevirtual 106, 3) := mj_d (q := (67, .invokevirtual 106, 3)) k_Mo_has 37 rfl
theorem d_Mo_has_70 : decode y_Mo_has.2.2.1 70 = .ok (.ireturn, 1) := mj_d (q := (70, .ireturn, 1)) k_Mo_has 38 rfl
theorem d_Mo_leap_0 : decode y_Mo_leap.2.2.1 0 = .ok (.aload_n 0, 1) := mj_d (q := (0, .aload_n 0, 1)) k_Mo_leap 0 rfl
theorem d_Mo_leap_1 : decode y_Mo_leap.2.2.1 1 = .ok (.iconst 0, 1) := mj_d (q := (1, .iconst 0, 1)) k_Mo_leap 1 rfl
theorem d_Mo_leap_2 : decode y_Mo_leap.2.2.1 2 = .ok (.putfield 53, 3) := mj_d (q := (2, .putfield 53, 3)) k_Mo_leap 2 rfl
theorem d_Mo_leap_5 : decode y_Mo_leap.2.2.1 5 = .ok (.aload_n 0, 1) := mj_d (q := (5, .aload_n 0, 1)) k_Mo_leap 3 rfl
theorem d_Mo_leap_6 : decode y_Mo_leap.2.2.1 6 = .ok (.iload_n 1, 1) := mj_d (q := (6, .iload_n 1, 1)) k_Mo_leap 4 rfl
theorem d_Mo_leap_7 : decode y_Mo_leap.2.2.1 7 = .ok (.invokevirtual 110, 3) := mj_d (q := (7, .invokevirtual 110, 3)) k_Mo_leap 5 rfl
theorem d_Mo_leap_10 : decode y_Mo_leap.2.2.1 10 = .ok (.ifCond .eq 10, 3) := mj_d (q := (10, .ifCond .eq 10, 3)) k_Mo_leap 6 rfl
theorem d_Mo_leap_13 : decode y_Mo_leap.2.2.1 13 = .ok (.iload_n 2, 1) := mj_d (q := (13, .iload_n 2, 1)) k_Mo_leap 7 rfl
theorem d_Mo_leap_14 : decode y_Mo_leap.2.2.1 14 = .ok (.invokestatic 69, 3) := mj_d (q := (14, .invokestatic 69, 3)) k_Mo_leap 8 rfl
theorem d_Mo_leap_17 : decode y_Mo_leap.2.2.1 17 = .ok (.ifCond .ne 9, 3) := mj_d (q := (17, .ifCond .ne 9, 3)) k_Mo_leap 9 rfl
theorem d_Mo_leap_20 : decode y_Mo_leap.2.2.1 20 = .ok (.aload_n 0, 1) := mj_d (q := (20, .aload_n 0, 1)) k_Mo_leap 10 rfl
theorem d_Mo_leap_21 : decode y_Mo_leap.2.2.1 21 = .ok (.iconst 1, 1) := mj_d (q := (21, .iconst 1, 1)) k_Mo_leap 11 rfl
theorem d_Mo_leap_22 : decode y_Mo_leap.2.2.1 22 = .ok (.invokevirtual 91, 3) := mj_d (q := (22, .invokevirtual 91, 3)) k_Mo_leap 12 rfl
theorem d_Mo_leap_25 : decode y_Mo_leap.2.2.1 25 = .ok (.ireturn, 1) := mj_d (q := (25, .ireturn, 1)) k_Mo_leap 13 rfl
theorem d_Mo_leap_26 : decode y_Mo_leap.2.2.1 26 = .ok (.aload_n 0, 1) := mj_d (q := (26, .aload_n 0, 1)) k_Mo_leap 14 rfl
theorem d_Mo_leap_27 : decode y_Mo_leap.2.2.1 27 = .ok (.getfield 45, 3) := mj_d (q := (27, .getfield 45, 3)) k_Mo_leap 15 rfl
theorem d_Mo_leap_30 : decode y_Mo_leap.2.2.1 30 = .ok (.ifCond .eq 20, 3) := mj_d (q := (30, .ifCond .eq 20, 3)) k_Mo_leap 16 rfl
theorem d_Mo_leap_33 : decode y_Mo_leap.2.2.1 33 = .ok (.iload_n 1, 1) := mj_d (q := (33, .iload_n 1, 1)) k_Mo_leap 17 rfl
theorem d_Mo_leap_34 : decode y_Mo_leap.2.2.1 34 = .ok (.aload_n 0, 1) := mj_d (q := (34, .aload_n 0, 1)) k_Mo_leap 18 rfl
theorem d_Mo_leap_35 : decode y_Mo_leap.2.2.1 35 = .ok (.getfield 97, 3) := mj_d (q := (35, .getfield 97, 3)) k_Mo_leap 19 rfl
theorem d_Mo_leap_38 : decode y_Mo_leap.2.2.1 38 = .ok (.if_icmp .ge 12, 3) := mj_d (q := (38, .if_icmp .ge 12, 3)) k_Mo_leap 20 rfl
theorem d_Mo_leap_41 : decode y_Mo_leap.2.2.1 41 = .ok (.aload_n 0, 1) := mj_d (q := (41, .aload_n 0, 1)) k_Mo_leap 21 rfl
theorem d_Mo_leap_42 : decode y_Mo_leap.2.2.1 42 = .ok (.iload_n 1, 1) := mj_d (q := (42, .iload_n 1, 1)) k_Mo_leap 22 rfl
theorem d_Mo_leap_43 : decode y_Mo_leap.2.2.1 43 = .ok (.iload_n 2, 1) := mj_d (q := (43, .iload_n 2, 1)) k_Mo_leap 23 rfl
theorem d_Mo_leap_44 : decode y_Mo_leap.2.2.1 44 = .ok (.invokevirtual 79, 3) := mj_d (q := (44, .invokevirtual 79, 3)) k_Mo_leap 24 rfl
theorem d_Mo_leap_47 : decode y_Mo_leap.2.2.1 47 = .ok (.goto 4, 3) := mj_d (q := (47, .goto 4, 3)) k_Mo_leap 25 rfl
theorem d_Mo_leap_50 : decode y_Mo_leap.2.2.1 50 = .ok (.iconst (-1), 1) := mj_d (q := (50, .iconst (-1), 1)) k_Mo_leap 26 rfl
theorem d_Mo_leap_51 : decode y_Mo_leap.2.2.1 51 = .ok (.istore_n 3, 1) := mj_d (q := (51, .istore_n 3, 1)) k_Mo_leap 27 rfl
theorem d_Mo_leap_52 : decode y_Mo_leap.2.2.1 52 = .ok (.iload_n 3, 1) := mj_d (q := (52, .iload_n 3, 1)) k_Mo_leap 28 rfl
theorem d_Mo_leap_53 : decode y_Mo_leap.2.2.1 53 = .ok (.ifCond .ge 7, 3) := mj_d (q := (53, .ifCond .ge 7, 3)) k_Mo_leap 29 rfl
theorem d_Mo_leap_56 : decode y_Mo_leap.2.2.1 56 = .ok (.iconst (-1), 1) := mj_d (q := (56, .iconst (-1), 1)) k_Mo_leap 30 rfl
theorem d_Mo_leap_57 : decode y_Mo_leap.2.2.1 57 = .ok (.goto 27, 3) := mj_d (q := (57, .goto 27, 3)) k_Mo_leap 31 rfl
theorem d_Mo_leap_60 : decode y_Mo_leap.2.2.1 60 = .ok (.sipush 1000, 3) := mj_d (q := (60, .sipush 1000, 3)) k_Mo_leap 32 rfl
theorem d_Mo_leap_63 : decode y_Mo_leap.2.2.1 63 = .ok (.iload_n 3, 1) := mj_d (q := (63, .iload_n 3, 1)) k_Mo_leap 33 rfl
theorem d_Mo_leap_64 : decode y_Mo_leap.2.2.1 64 = .ok (.bipush 52, 2) := mj_d (q := (64, .bipush 52, 2)) k_Mo_leap 34 rfl
theorem d_Mo_leap_66 : decode y_Mo_leap.2.2.1 66 = .ok (.idiv, 1) := mj_d (q := (66, .idiv, 1)) k_Mo_leap 35 rfl
theorem d_Mo_leap_67 : decode y_Mo_leap.2.2.1 67 = .ok (.imul, 1) := mj_d (q := (67, .imul, 1)) k_Mo_leap 36 rfl
theorem d_Mo_leap_68 : decode y_Mo_leap.2.2.1 68 = .ok (.bipush 100, 2) := mj_d (q := (68, .bipush 100, 2)) k_Mo_leap 37 rfl
theorem d_Mo_leap_70 : decode y_Mo_leap.2.2.1 70 = .ok (.iload_n 3, 1) := mj_d (q := (70, .iload_n 3, 1)) k_Mo_leap 38 rfl
theorem d_Mo_leap_71 : decode y_Mo_leap.2.2.1 71 = .ok (.bipush 52, 2) := mj_d (q := (71, .bipush 52, 2)) k_Mo_leap 39 rfl
theorem d_Mo_leap_73 : decode y_Mo_leap.2.2.1 73 = .ok (.irem, 1) := mj_d (q := (73, .irem, 1)) k_Mo_leap 40 rfl
theorem d_Mo_leap_74 : decode y_Mo_leap.2.2.1 74 = .ok (.bipush 13, 2) := mj_d (q := (74, .bipush 13, 2)) k_Mo_leap 41 rfl
theorem d_Mo_leap_76 : decode y_Mo_leap.2.2.1 76 = .ok (.idiv, 1) := mj_d (q := (76, .idiv, 1)) k_Mo_leap 42 rfl
theorem d_Mo_leap_77 : decode y_Mo_leap.2.2.1 77 = .ok (.imul, 1) := mj_d (q := (77, .imul, 1)) k_Mo_leap 43 rfl
theorem d_Mo_leap_78 : decode y_Mo_leap.2.2.1 78 = .ok (.iadd, 1) := mj_d (q := (78, .iadd, 1)) k_Mo_leap 44 rfl
theorem d_Mo_leap_79 : decode y_Mo_leap.2.2.1 79 = .ok (.iload_n 3, 1) := mj_d (q := (79, .iload_n 3, 1)) k_Mo_leap 45 rfl
theorem d_Mo_leap_80 : decode y_Mo_leap.2.2.1 80 = .ok (.bipush 13, 2) := mj_d (q := (80, .bipush 13, 2)) k_Mo_leap 46 rfl
theorem d_Mo_leap_82 : decode y_Mo_leap.2.2.1 82 = .ok (.irem, 1) := mj_d (q := (82, .irem, 1)) k_Mo_leap 47 rfl
theorem d_Mo_leap_83 : decode y_Mo_leap.2.2.1 83 = .ok (.iadd, 1) := mj_d (q := (83, .iadd, 1)) k_Mo_leap 48 rfl
theorem d_Mo_leap_84 : decode y_Mo_leap.2.2.1 84 = .ok (.ireturn, 1) := mj_d (q := (84, .ireturn, 1)) k_Mo_leap 49 rfl
theorem d_Mo_ways_0 : decode y_Mo_ways.2.2.1 0 = .ok (.aload_n 0, 1) := mj_d (q := (0, .aload_n 0, 1)) k_Mo_ways 0 rfl
theorem d_Mo_ways_1 : decode y_Mo_ways.2.2.1 1 = .ok (.iconst 0, 1) := mj_d (q := (1, .iconst 0, 1)) k_Mo_ways 1 rfl
theorem d_Mo_ways_2 : decode y_Mo_ways.2.2.1 2 = .ok (.putfield 53, 3) := mj_d (q := (2, .putfield 53, 3)) k_Mo_ways 2 rfl
theorem d_Mo_ways_5 : decode y_Mo_ways.2.2.1 5 = .ok (.aload_n 0, 1) := mj_d (q := (5, .aload_n 0, 1)) k_Mo_ways 3 rfl
theorem d_Mo_ways_6 : decode y_Mo_ways.2.2.1 6 = .ok (.iload_n 1, 1) := mj_d (q := (6, .iload_n 1, 1)) k_Mo_ways 4 rfl
theorem d_Mo_ways_7 : decode y_Mo_ways.2.2.1 7 = .ok (.iload_n 2, 1) := mj_d (q := (7, .iload_n 2, 1)) k_Mo_ways 5 rfl
theorem d_Mo_ways_8 : decode y_Mo_ways.2.2.1 8 = .ok (.iload_n 3, 1) := mj_d (q := (8, .iload_n 3, 1)) k_Mo_ways 6 rfl
theorem d_Mo_ways_9 : decode y_Mo_ways.2.2.1 9 = .ok (.invokevirtual 161, 3) := mj_d (q := (9, .invokevirtual 161, 3)) k_Mo_ways 7 rfl
theorem d_Mo_ways_12 : decode y_Mo_ways.2.2.1 12 = .ok (.ifCond .ne 9, 3) := mj_d (q := (12, .ifCond .ne 9, 3)) k_Mo_ways 8 rfl
theorem d_Mo_ways_15 : decode y_Mo_ways.2.2.1 15 = .ok (.aload_n 0, 1) := mj_d (q := (15, .aload_n 0, 1)) k_Mo_ways 9 rfl
theorem d_Mo_ways_16 : decode y_Mo_ways.2.2.1 16 = .ok (.iconst 1, 1) := mj_d (q := (16, .iconst 1, 1)) k_Mo_ways 10 rfl
theorem d_Mo_ways_17 : decode y_Mo_ways.2.2.1 17 = .ok (.invokevirtual 91, 3) := mj_d (q := (17, .invokevirtual 91, 3)) k_Mo_ways 11 rfl
theorem d_Mo_ways_20 : decode y_Mo_ways.2.2.1 20 = .ok (.ireturn, 1) := mj_d (q := (20, .ireturn, 1)) k_Mo_ways 12 rfl
theorem d_Mo_ways_21 : decode y_Mo_ways.2.2.1 21 = .ok (.aload_n 0, 1) := mj_d (q := (21, .aload_n 0, 1)) k_Mo_ways 13 rfl
theorem d_Mo_ways_22 : decode y_Mo_ways.2.2.1 22 = .ok (.invokevirtual 164, 3) := mj_d (q := (22, .invokevirtual 164, 3)) k_Mo_ways 14 rfl
theorem d_Mo_ways_25 : decode y_Mo_ways.2.2.1 25 = .ok (.iconst 0, 1) := mj_d (q := (25, .iconst 0, 1)) k_Mo_ways 15 rfl
theorem d_Mo_ways_26 : decode y_Mo_ways.2.2.1 26 = .ok (.istore 4, 2) := mj_d (q := (26, .istore 4, 2)) k_Mo_ways 16 rfl
theorem d_Mo_ways_28 : decode y_Mo_ways.2.2.1 28 = .ok (.iconst 0, 1) := mj_d (q := (28, .iconst 0, 1)) k_Mo_ways 17 rfl
theorem d_Mo_ways_29 : decode y_Mo_ways.2.2.1 29 = .ok (.istore 5, 2) := mj_d (q := (29, .istore 5, 2)) k_Mo_ways 18 rfl
theorem d_Mo_ways_31 : decode y_Mo_ways.2.2.1 31 = .ok (.iload 5, 2) := mj_d (q := (31, .iload 5, 2)) k_Mo_ways 19 rfl
theorem d_Mo_ways_33 : decode y_Mo_ways.2.2.1 33 = .ok (.aload_n 0, 1) := mj_d (q := (33, .aload_n 0, 1)) k_Mo_ways 20 rfl
theorem d_Mo_ways_34 : decode y_Mo_ways.2.2.1 34 = .ok (.getfield 73, 3) := mj_d (q := (34, .getfield 73, 3)) k_Mo_ways 21 rfl
theorem d_Mo_ways_37 : decode y_Mo_ways.2.2.1 37 = .ok (.if_icmp .ge 37, 3) := mj_d (q := (37, .if_icmp .ge 37, 3)) k_Mo_ways 22 rfl
theorem d_Mo_ways_40 : decode y_Mo_ways.2.2.1 40 = .ok (.iload 4, 2) := mj_d (q := (40, .iload 4, 2)) k_Mo_ways 23 rfl
theorem d_Mo_ways_42 : decode y_Mo_ways.2.2.1 42 = .ok (.aload_n 0, 1) := mj_d (q := (42, .aload_n 0, 1)) k_Mo_ways 24 rfl
theorem d_Mo_ways_43 : decode y_Mo_ways.2.2.1 43 = .ok (.getfield 7, 3) := mj_d (q := (43, .getfield 7, 3)) k_Mo_ways 25 rfl
theorem d_Mo_ways_46 : decode y_Mo_ways.2.2.1 46 = .ok (.iload 5, 2) := mj_d (q := (46, .iload 5, 2)) k_Mo_ways 26 rfl
theorem d_Mo_ways_48 : decode y_Mo_ways.2.2.1 48 = .ok (.iaload, 1) := mj_d (q := (48, .iaload, 1)) k_Mo_ways 27 rfl
theorem d_Mo_ways_49 : decode y_Mo_ways.2.2.1 49 = .ok (.iload_n 1, 1) := mj_d (q := (49, .iload_n 1, 1)) k_Mo_ways 28 rfl
theorem d_Mo_ways_50 : decode y_Mo_ways.2.2.1 50 = .ok (.if_icmp .ne 14, 3) := mj_d (q := (50, .if_icmp .ne 14, 3)) k_Mo_ways 29 rfl
theorem d_Mo_ways_53 : decode y_Mo_ways.2.2.1 53 = .ok (.aload_n 0, 1) := mj_d (q := (53, .aload_n 0, 1)) k_Mo_ways 30 rfl
theorem d_Mo_ways_54 : decode y_Mo_ways.2.2.1 54 = .ok (.iload 5, 2) := mj_d (q := (54, .iload 5, 2)) k_Mo_ways 31 rfl
theorem d_Mo_ways_56 : decode y_Mo_ways.2.2.1 56 = .ok (.iload_n 2, 1) := mj_d (q := (56, .iload_n 2, 1)) k_Mo_ways 32 rfl
theorem d_Mo_ways_57 : decode y_Mo_ways.2.2.1 57 = .ok (.iload_n 3, 1) := mj_d (q := (57, .iload_n 3, 1)) k_Mo_ways 33 rfl
theorem d_Mo_ways_58 : decode y_Mo_ways.2.2.1 58 = .ok (.invokevirtual 140, 3) := mj_d (q := (58, .invokevirtual 140, 3)) k_Mo_ways 34 rfl
theorem d_Mo_ways_61 : decode y_Mo_ways.2.2.1 61 = .ok (.goto 4, 3) := mj_d (q := (61, .goto 4, 3)) k_Mo_ways 35 rfl
theorem d_Mo_ways_64 : decode y_Mo_ways.2.2.1 64 = .ok (.iconst 0, 1) := mj_d (q := (64, .iconst 0, 1)) k_Mo_ways 36 rfl
theorem d_Mo_ways_65 : decode y_Mo_ways.2.2.1 65 = .ok (.iadd, 1) := mj_d (q := (65, .iadd, 1)) k_Mo_ways 37 rfl
theorem d_Mo_ways_66 : decode y_Mo_ways.2.2.1 66 = .ok (.istore 4, 2) := mj_d (q := (66, .istore 4, 2)) k_Mo_ways 38 rfl
theorem d_Mo_ways_68 : decode y_Mo_ways.2.2.1 68 = .ok (.iinc 5 1, 3) := mj_d (q := (68, .iinc 5 1, 3)) k_Mo_ways 39 rfl
theorem d_Mo_ways_71 : decode y_Mo_ways.2.2.1 71 = .ok (.goto (-40), 3) := mj_d (q := (71, .goto (-40), 3)) k_Mo_ways 40 rfl
theorem d_Mo_ways_74 : decode y_Mo_ways.2.2.1 74 = .ok (.iload 4, 2) := mj_d (q := (74, .iload 4, 2)) k_Mo_ways 41 rfl
theorem d_Mo_ways_76 : decode y_Mo_ways.2.2.1 76 = .ok (.ireturn, 1) := mj_d (q := (76, .ireturn, 1)) k_Mo_ways 42 rfl
theorem d_Mo_isStretch_0 : decode y_Mo_isStretch.2.2.1 0 = .ok (.iload_n 1, 1) := mj_d (q := (0, .iload_n 1, 1)) k_Mo_isStretch 0 rfl
theorem d_Mo_isStretch_1 : decode y_Mo_isStretch.2.2.1 1 = .ok (.invokestatic 69, 3) := mj_d (q := (1, .invokestatic 69, 3)) k_Mo_isStretch 1 rfl
theorem d_Mo_isStretch_4 : decode y_Mo_isStretch.2.2.1 4 = .ok (.ifCond .eq 24, 3) := mj_d (q := (4, .ifCond .eq 24, 3)) k_Mo_isStretch 2 rfl
theorem d_Mo_isStretch_7 : decode y_Mo_isStretch.2.2.1 7 = .ok (.iload_n 2, 1) := mj_d (q := (7, .iload_n 2, 1)) k_Mo_isStretch 3 rfl
theorem d_Mo_isStretch_8 : decode y_Mo_isStretch.2.2.1 8 = .ok (.ifCond .lt 20, 3) := mj_d (q := (8, .ifCond .lt 20, 3)) k_Mo_isStretch 4 rfl
theorem d_Mo_isStretch_11 : decode y_Mo_isStretch.2.2.1 11 = .ok (.iload_n 2, 1) := mj_d (q := (11, .iload_n 2, 1)) k_Mo_isStretch 5 rfl
theorem d_Mo_isStretch_12 : decode y_Mo_isStretch.2.2.1 12 = .ok (.iload_n 3, 1) := mj_d (q := (12, .iload_n 3, 1)) k_Mo_isStretch 6 rfl
theorem d_Mo_isStretch_13 : decode y_Mo_isStretch.2.2.1 13 = .ok (.if_icmp .gt 15, 3) := mj_d (q := (13, .if_icmp .gt 15, 3)) k_Mo_isStretch 7 rfl
theorem d_Mo_isStretch_16 : decode y_Mo_isStretch.2.2.1 16 = .ok (.iload_n 3, 1) := mj_d (q := (16, .iload_n 3, 1)) k_Mo_isStretch 8 rfl
theorem d_Mo_isStretch_17 : decode y_Mo_isStretch.2.2.1 17 = .ok (.aload_n 0, 1) := mj_d (q := (17, .aload_n 0, 1)) k_Mo_isStretch 9 rfl
theorem d_Mo_isStretch_18 : decode y_Mo_isStretch.2.2.1 18 = .ok (.getfield 97, 3) := mj_d (q := (18, .getfield 97, 3)) k_Mo_isStretch 10 rfl
theorem d_Mo_isStretch_21 : decode y_Mo_isStretch.2.2.1 21 = .ok (.if_icmp .gt 7, 3) := mj_d (q := (21, .if_icmp .gt 7, 3)) k_Mo_isStretch 11 rfl
theorem d_Mo_isStretch_24 : decode y_Mo_isStretch.2.2.1 24 = .ok (.iconst 1, 1) := mj_d (q := (24, .iconst 1, 1)) k_Mo_isStretch 12 rfl
theorem d_Mo_isStretch_25 : decode y_Mo_isStretch.2.2.1 25 = .ok (.goto 4, 3) := mj_d (q := (25, .goto 4, 3)) k_Mo_isStretch 13 rfl
theorem d_Mo_isStretch_28 : decode y_Mo_isStretch.2.2.1 28 = .ok (.iconst 0, 1) := mj_d (q := (28, .iconst 0, 1)) k_Mo_isStretch 14 rfl
theorem d_Mo_isStretch_29 : decode y_Mo_isStretch.2.2.1 29 = .ok (.ireturn, 1) := mj_d (q := (29, .ireturn, 1)) k_Mo_isStretch 15 rfl
theorem d_Mo_work_0 : decode y_Mo_work.2.2.1 0 = .ok (.aload_n 0, 1) := mj_d (q := (0, .aload_n 0, 1)) k_Mo_work 0 rfl
theorem d_Mo_work_1 : decode y_Mo_work.2.2.1 1 = .ok (.getfield 85, 3) := mj_d (q := (1, .getfield 85, 3)) k_Mo_work 1 rfl
theorem d_Mo_work_4 : decode y_Mo_work.2.2.1 4 = .ok (.ifCond .eq 4, 3) := mj_d (q := (4, .ifCond .eq 4, 3)) k_Mo_work 2 rfl
theorem d_Mo_work_7 : decode y_Mo_work.2.2.1 7 = .ok (.return_, 1) := mj_d (q := (7, .return_, 1)) k_Mo_work 3 rfl
theorem d_Mo_work_8 : decode y_Mo_work.2.2.1 8 = .ok (.aload_n 0, 1) := mj_d (q := (8, .aload_n 0, 1)) k_Mo_work 4 rfl
theorem d_Mo_work_9 : decode y_Mo_work.2.2.1 9 = .ok (.iconst 1, 1) := mj_d (q := (9, .iconst 1, 1)) k_Mo_work 5 rfl
theorem d_Mo_work_10 : decode y_Mo_work.2.2.1 10 = .ok (.putfield 85, 3) := mj_d (q := (10, .putfield 85, 3)) k_Mo_work 6 rfl
theorem d_Mo_work_13 : decode y_Mo_work.2.2.1 13 = .ok (.aload_n 0, 1) := mj_d (q := (13, .aload_n 0, 1)) k_Mo_work 7 rfl
theorem d_Mo_work_14 : decode y_Mo_work.2.2.1 14 = .ok (.invokevirtual 155, 3) := mj_d (q := (14, .invokevirtual 155, 3)) k_Mo_work 8 rfl
theorem d_Mo_work_17 : decode y_Mo_work.2.2.1 17 = .ok (.iconst 0, 1) := mj_d (q := (17, .iconst 0, 1)) k_Mo_work 9 rfl
theorem d_Mo_work_18 : decode y_Mo_work.2.2.1 18 = .ok (.istore_n 1, 1) := mj_d (q := (18, .istore_n 1, 1)) k_Mo_work 10 rfl
theorem d_Mo_work_19 : decode y_Mo_work.2.2.1 19 = .ok (.iload_n 1, 1) := mj_d (q := (19, .iload_n 1, 1)) k_Mo_work 11 rfl
theorem d_Mo_work_20 : decode y_Mo_work.2.2.1 20 = .ok (.sipush 845, 3) := mj_d (q := (20, .sipush 845, 3)) k_Mo_work 12 rfl
theorem d_Mo_work_23 : decode y_Mo_work.2.2.1 23 = .ok (.if_icmp .ge 16, 3) := mj_d (q := (23, .if_icmp .ge 16, 3)) k_Mo_work 13 rfl
theorem d_Mo_work_26 : decode y_Mo_work.2.2.1 26 = .ok (.aload_n 0, 1) := mj_d (q := (26, .aload_n 0, 1)) k_Mo_work 14 rfl
theorem d_Mo_work_27 : decode y_Mo_work.2.2.1 27 = .ok (.getfield 29, 3) := mj_d (q := (27, .getfield 29, 3)) k_Mo_work 15 rfl
theorem d_Mo_work_30 : decode y_Mo_work.2.2.1 30 = .ok (.iload_n 1, 1) := mj_d (q := (30, .iload_n 1, 1)) k_Mo_work 16 rfl
theorem d_Mo_work_31 : decode y_Mo_work.2.2.1 31 = .ok (.iconst 0, 1) := mj_d (q := (31, .iconst 0, 1)) k_Mo_work 17 rfl
theorem d_Mo_work_32 : decode y_Mo_work.2.2.1 32 = .ok (.bastore, 1) := mj_d (q := (32, .bastore, 1)) k_Mo_work 18 rfl
theorem d_Mo_work_33 : decode y_Mo_work.2.2.1 33 = .ok (.iinc 1 1, 3) := mj_d (q := (33, .iinc 1 1, 3)) k_Mo_work 19 rfl
theorem d_Mo_work_36 : decode y_Mo_work.2.2.1 36 = .ok (.goto (-17), 3) := mj_d (q := (36, .goto (-17), 3)) k_Mo_work 20 rfl
theorem d_Mo_work_39 : decode y_Mo_work.2.2.1 39 = .ok (.iconst 1, 1) := mj_d (q := (39, .iconst 1, 1)) k_Mo_work 21 rfl
theorem d_Mo_work_40 : decode y_Mo_work.2.2.1 40 = .ok (.istore_n 1, 1) := mj_d (q := (40, .istore_n 1, 1)) k_Mo_work 22 rfl
theorem d_Mo_work_41 : decode y_Mo_work.2.2.1 41 = .ok (.iload_n 1, 1) := mj_d (q := (41, .iload_n 1, 1)) k_Mo_work 23 rfl
theorem d_Mo_work_42 : decode y_Mo_work.2.2.1 42 = .ok (.ifCond .eq 116, 3) := mj_d (q := (42, .ifCond .eq 116, 3)) k_Mo_work 24 rfl
theorem d_Mo_work_45 : decode y_Mo_work.2.2.1 45 = .ok (.iconst 0, 1) := mj_d (q := (45, .iconst 0, 1)) k_Mo_work 25 rfl
theorem d_Mo_work_46 : decode y_Mo_work.2.2.1 46 = .ok (.istore_n 1, 1) := mj_d (q := (46, .istore_n 1, 1)) k_Mo_work 26 rfl
theorem d_Mo_work_47 : decode y_Mo_work.2.2.1 47 = .ok (.iconst 0, 1) := mj_d (q := (47, .iconst 0, 1)) k_Mo_work 27 rfl
theorem d_Mo_work_48 : decode y_Mo_work.2.2.1 48 = .ok (.istore_n 2, 1) := mj_d (q := (48, .istore_n 2, 1)) k_Mo_work 28 rfl
theorem d_Mo_work_49 : decode y_Mo_work.2.2.1 49 = .ok (.iload_n 2, 1) := mj_d (q := (49, .iload_n 2, 1)) k_Mo_work 29 rfl
theorem d_Mo_work_50 : decode y_Mo_work.2.2.1 50 = .ok (.iconst 5, 1) := mj_d (q := (50, .iconst 5, 1)) k_Mo_work 30 rfl
theorem d_Mo_work_51 : decode y_Mo_work.2.2.1 51 = .ok (.if_icmp .ge 104, 3) := mj_d (q := (51, .if_icmp .ge 104, 3)) k_Mo_work 31 rfl
theorem d_Mo_work_54 : decode y_Mo_work.2.2.1 54 = .ok (.iconst 0, 1) := mj_d (q := (54, .iconst 0, 1)) k_Mo_work 32 rfl
theorem d_Mo_work_55 : decode y_Mo_work.2.2.1 55 = .ok (.istore_n 3, 1) := mj_d (q := (55, .istore_n 3, 1)) k_Mo_work 33 rfl
theorem d_Mo_work_56 : decode y_Mo_work.2.2.1 56 = .ok (.iload_n 3, 1) := mj_d (q := (56, .iload_n 3, 1)) k_Mo_work 34 rfl
theorem d_Mo_work_57 : decode y_Mo_work.2.2.1 57 = .ok (.aload_n 0, 1) := mj_d (q := (57, .aload_n 0, 1)) k_Mo_work 35 rfl
theorem d_Mo_work_58 : decode y_Mo_work.2.2.1 58 = .ok (.getfield 97, 3) := mj_d (q := (58, .getfield 97, 3)) k_Mo_work 36 rfl
theorem d_Mo_work_61 : decode y_Mo_work.2.2.1 61 = .ok (.if_icmp .gt 88, 3) := mj_d (q := (61, .if_icmp .gt 88, 3)) k_Mo_work 37 rfl
theorem d_Mo_work_64 : decode y_Mo_work.2.2.1 64 = .ok (.iload_n 3, 1) := mj_d (q := (64, .iload_n 3, 1)) k_Mo_work 38 rfl
theorem d_Mo_work_65 : decode y_Mo_work.2.2.1 65 = .ok (.istore 4, 2) := mj_d (q := (65, .istore 4, 2)) k_Mo_work 39 rfl
theorem d_Mo_work_67 : decode y_Mo_work.2.2.1 67 = .ok (.iload 4, 2) := mj_d (q := (67, .iload 4, 2)) k_Mo_work 40 rfl
theorem d_Mo_work_69 : decode y_Mo_work.2.2.1 69 = .ok (.aload_n 0, 1) := mj_d (q := (69, .aload_n 0, 1)) k_Mo_work 41 rfl
theorem d_Mo_work_70 : decode y_Mo_work.2.2.1 70 = .ok (.getfield 97, 3) := mj_d (q := (70, .getfield 97, 3)) k_Mo_work 42 rfl
theorem d_Mo_work_73 : decode y_Mo_work.2.2.1 73 = .ok (.if_icmp .gt 70, 3) := mj_d (q := (73, .if_icmp .gt 70, 3)) k_Mo_work 43 rfl
theorem d_Mo_work_76 : decode y_Mo_work.2.2.1 76 = .ok (.iload_n 2, 1) := mj_d (q := (76, .iload_n 2, 1)) k_Mo_work 44 rfl
theorem d_Mo_work_77 : decode y_Mo_work.2.2.1 77 = .ok (.iload_n 3, 1) := mj_d (q := (77, .iload_n 3, 1)) k_Mo_work 45 rfl
theorem d_Mo_work_78 : decode y_Mo_work.2.2.1 78 = .ok (.iload 4, 2) := mj_d (q := (78, .iload 4, 2)) k_Mo_work 46 rfl
theorem d_Mo_work_80 : decode y_Mo_work.2.2.1 80 = .ok (.invokestatic 113, 3) := mj_d (q := (80, .invokestatic 113, 3)) k_Mo_work 47 rfl
theorem d_Mo_work_83 : decode y_Mo_work.2.2.1 83 = .ok (.istore 5, 2) := mj_d (q := (83, .istore 5, 2)) k_Mo_work 48 rfl
theorem d_Mo_work_85 : decode y_Mo_work.2.2.1 85 = .ok (.aload_n 0, 1) := mj_d (q := (85, .aload_n 0, 1)) k_Mo_work 49 rfl
theorem d_Mo_work_86 : decode y_Mo_work.2.2.1 86 = .ok (.getfield 29, 3) := mj_d (q := (86, .getfield 29, 3)) k_Mo_work 50 rfl
theorem d_Mo_work_89 : decode y_Mo_work.2.2.1 89 = .ok (.iload 5, 2) := mj_d (q := (89, .iload 5, 2)) k_Mo_work 51 rfl
theorem d_Mo_work_91 : decode y_Mo_work.2.2.1 91 = .ok (.baload, 1) := mj_d (q := (91, .baload, 1)) k_Mo_work 52 rfl
theorem d_Mo_work_92 : decode y_Mo_work.2.2.1 92 = .ok (.ifCond .eq 9, 3) := mj_d (q := (92, .ifCond .eq 9, 3)) k_Mo_work 53 rfl
theorem d_Mo_work_95 : decode y_Mo_work.2.2.1 95 = .ok (.ldc2_w 145, 3) := mj_d (q := (95, .ldc2_w 145, 3)) k_Mo_work 54 rfl
theorem d_Mo_work_98 : decode y_Mo_work.2.2.1 98 = .ok (.goto 11, 3) := mj_d (q := (98, .goto 11, 3)) k_Mo_work 55 rfl
theorem d_Mo_work_101 : decode y_Mo_work.2.2.1 101 = .ok (.aload_n 0, 1) := mj_d (q := (101, .aload_n 0, 1)) k_Mo_work 56 rfl
theorem d_Mo_work_102 : decode y_Mo_work.2.2.1 102 = .ok (.iload_n 2, 1) := mj_d (q := (102, .iload_n 2, 1)) k_Mo_work 57 rfl
theorem d_Mo_work_103 : decode y_Mo_work.2.2.1 103 = .ok (.iload_n 3, 1) := mj_d (q := (103, .iload_n 3, 1)) k_Mo_work 58 rfl
theorem d_Mo_work_104 : decode y_Mo_work.2.2.1 104 = .ok (.iload 4, 2) := mj_d (q := (104, .iload 4, 2)) k_Mo_work 59 rfl
theorem d_Mo_work_106 : decode y_Mo_work.2.2.1 106 = .ok (.invokevirtual 158, 3) := mj_d (q := (106, .invokevirtual 158, 3)) k_Mo_work 60 rfl
theorem d_Mo_work_109 : decode y_Mo_work.2.2.1 109 = .ok (.lstore 6, 2) := mj_d (q := (109, .lstore 6, 2)) k_Mo_work 61 rfl
theorem d_Mo_work_111 : decode y_Mo_work.2.2.1 111 = .ok (.lload 6, 2) := mj_d (q := (111, .lload 6, 2)) k_Mo_work 62 rfl
theorem d_Mo_work_113 : decode y_Mo_work.2.2.1 113 = .ok (.lconst 0, 1) := mj_d (q := (113, .lconst 0, 1)) k_Mo_work 63 rfl
theorem d_Mo_work_114 : decode y_Mo_work.2.2.1 114 = .ok (.lcmp, 1) := mj_d (q := (114, .lcmp, 1)) k_Mo_work 64 rfl
theorem d_Mo_work_115 : decode y_Mo_work.2.2.1 115 = .ok (.ifCond .lt 22, 3) := mj_d (q := (115, .ifCond .lt 22, 3)) k_Mo_work 65 rfl
theorem d_Mo_work_118 : decode y_Mo_work.2.2.1 118 = .ok (.aload_n 0, 1) := mj_d (q := (118, .aload_n 0, 1)) k_Mo_work 66 rfl
theorem d_Mo_work_119 : decode y_Mo_work.2.2.1 119 = .ok (.getfield 29, 3) := mj_d (q := (119, .getfield 29, 3)) k_Mo_work 67 rfl
theorem d_Mo_work_122 : decode y_Mo_work.2.2.1 122 = .ok (.iload 5, 2) := mj_d (q := (122, .iload 5, 2)) k_Mo_work 68 rfl
theorem d_Mo_work_124 : decode y_Mo_work.2.2.1 124 = .ok (.iconst 1, 1) := mj_d (q := (124, .iconst 1, 1)) k_Mo_work 69 rfl
theorem d_Mo_work_125 : decode y_Mo_work.2.2.1 125 = .ok (.bastore, 1) := mj_d (q := (125, .bastore, 1)) k_Mo_work 70 rfl
theorem d_Mo_work_126 : decode y_Mo_work.2.2.1 126 = .ok (.aload_n 0, 1) := mj_d (q := (126, .aload_n 0, 1)) k_Mo_work 71 rfl
theorem d_Mo_work_127 : decode y_Mo_work.2.2.1 127 = .ok (.getfield 32, 3) := mj_d (q := (127, .getfield 32, 3)) k_Mo_work 72 rfl
theorem d_Mo_work_130 : decode y_Mo_work.2.2.1 130 = .ok (.iload 5, 2) := mj_d (q := (130, .iload 5, 2)) k_Mo_work 73 rfl
theorem d_Mo_work_132 : decode y_Mo_work.2.2.1 132 = .ok (.lload 6, 2) := mj_d (q := (132, .lload 6, 2)) k_Mo_work 74 rfl
theorem d_Mo_work_134 : decode y_Mo_work.2.2.1 134 = .ok (.lastore, 1) := mj_d (q := (134, .lastore, 1)) k_Mo_work 75 rfl
theorem d_Mo_work_135 : decode y_Mo_work.2.2.1 135 = .ok (.iconst 1, 1) := mj_d (q := (135, .iconst 1, 1)) k_Mo_work 76 rfl
theorem d_Mo_work_136 : decode y_Mo_work.2.2.1 136 = .ok (.istore_n 1, 1) := mj_d (q := (136, .istore_n 1, 1)) k_Mo_work 77 rfl
theorem d_Mo_work_137 : decode y_Mo_work.2.2.1 137 = .ok (.iinc 4 1, 3) := mj_d (q := (137, .iinc 4 1, 3)) k_Mo_work 78 rfl
theorem d_Mo_work_140 : decode y_Mo_work.2.2.1 140 = .ok (.goto (-73), 3) := mj_d (q := (140, .goto (-73), 3)) k_Mo_work 79 rfl
theorem d_Mo_work_143 : decode y_Mo_work.2.2.1 143 = .ok (.iinc 3 1, 3) := mj_d (q := (143, .iinc 3 1, 3)) k_Mo_work 80 rfl
theorem d_Mo_work_146 : decode y_Mo_work.2.2.1 146 = .ok (.goto (-90), 3) := mj_d (q := (146, .goto (-90), 3)) k_Mo_work 81 rfl
theorem d_Mo_work_149 : decode y_Mo_work.2.2.1 149 = .ok (.iinc 2 1, 3) := mj_d (q := (149, .iinc 2 1, 3)) k_Mo_work 82 rfl
theorem d_Mo_work_152 : decode y_Mo_work.2.2.1 152 = .ok (.goto (-103), 3) := mj_d (q := (152, .goto (-103), 3)) k_Mo_work 83 rfl
theorem d_Mo_work_155 : decode y_Mo_work.2.2.1 155 = .ok (.goto (-114), 3) := mj_d (q := (155, .goto (-114), 3)) k_Mo_work 84 rfl
theorem d_Mo_work_158 : decode y_Mo_work.2.2.1 158 = .ok (.return_, 1) := mj_d (q := (158, .return_, 1)) k_Mo_work 85 rfl
theorem d_Mo_findDerived_0 : decode y_Mo_findDerived.2.2.1 0 = .ok (.iconst 0, 1) := mj_d (q := (0, .iconst 0, 1)) k_Mo_findDerived 0 rfl
theorem d_Mo_findDerived_1 : decode y_Mo_findDerived.2.2.1 1 = .ok (.istore_n 1, 1) := mj_d (q := (1, .istore_n 1, 1)) k_Mo_findDerived 1 rfl
theorem d_Mo_findDerived_2 : decode y_Mo_findDerived.2.2.1 2 = .ok (.iload_n 1, 1) := mj_d (q := (2, .iload_n 1, 1)) k_Mo_findDerived 2 rfl
theorem d_Mo_findDerived_3 : decode y_Mo_findDerived.2.2.1 3 = .ok (.sipush 845, 3) := mj_d (q := (3, .sipush 845, 3)) k_Mo_findDerived 3 rfl
theorem d_Mo_findDerived_6 : decode y_Mo_findDerived.2.2.1 6 = .ok (.if_icmp .ge 16, 3) := mj_d (q := (6, .if_icmp .ge 16, 3)) k_Mo_findDerived 4 rfl
theorem d_Mo_findDerived_9 : decode y_Mo_findDerived.2.2.1 9 = .ok (.aload_n 0, 1) := mj_d (q := (9, .aload_n 0, 1)) k_Mo_findDerived 5 rfl
theorem d_Mo_findDerived_10 : decode y_Mo_findDerived.2.2.1 10 = .ok (.getfield 26, 3) := mj_d (q := (10, .getfield 26, 3)) k_Mo_findDerived 6 rfl
theorem d_Mo_findDerived_13 : decode y_Mo_findDerived.2.2.1 13 = .ok (.iload_n 1, 1) := mj_d (q := (13, .iload_n 1, 1)) k_Mo_findDerived 7 rfl
theorem d_Mo_findDerived_14 : decode y_Mo_findDerived.2.2.1 14 = .ok (.iconst 0, 1) := mj_d (q := (14, .iconst 0, 1)) k_Mo_findDerived 8 rfl
theorem d_Mo_findDerived_15 : decode y_Mo_findDerived.2.2.1 15 = .ok (.bastore, 1) := mj_d (q := (15, .bastore, 1)) k_Mo_findDerived 9 rfl
theorem d_Mo_findDerived_16 : decode y_Mo_findDerived.2.2.1 16 = .ok (.iinc 1 1, 3) := mj_d (q := (16, .iinc 1 1, 3)) k_Mo_findDerived 10 rfl
theorem d_Mo_findDerived_19 : decode y_Mo_findDerived.2.2.1 19 = .ok (.goto (-17), 3) := mj_d (q := (19, .goto (-17), 3)) k_Mo_findDerived 11 rfl
theorem d_Mo_findDerived_22 : decode y_Mo_findDerived.2.2.1 22 = .ok (.iconst 1, 1) := mj_d (q := (22, .iconst 1, 1)) k_Mo_findDerived 12 rfl
theorem d_Mo_findDerived_23 : decode y_Mo_findDerived.2.2.1 23 = .ok (.istore_n 1, 1) := mj_d (q := (23, .istore_n 1, 1)) k_Mo_findDerived 13 rfl
theorem d_Mo_findDerived_24 : decode y_Mo_findDerived.2.2.1 24 = .ok (.iload_n 1, 1) := mj_d (q := (24, .iload_n 1, 1)) k_Mo_findDerived 14 rfl
theorem d_Mo_findDerived_25 : decode y_Mo_findDerived.2.2.1 25 = .ok (.ifCond .eq 103, 3) := mj_d (q := (25, .ifCond .eq 103, 3)) k_Mo_findDerived 15 rfl
theorem d_Mo_findDerived_28 : decode y_Mo_findDerived.2.2.1 28 = .ok (.iconst 0, 1) := mj_d (q := (28, .iconst 0, 1)) k_Mo_findDerived 16 rfl
theorem d_Mo_findDerived_29 : decode y_Mo_findDerived.2.2.1 29 = .ok (.istore_n 1, 1) := mj_d (q := (29, .istore_n 1, 1)) k_Mo_findDerived 17 rfl
theorem d_Mo_findDerived_30 : decode y_Mo_findDerived.2.2.1 30 = .ok (.iconst 0, 1) := mj_d (q := (30, .iconst 0, 1)) k_Mo_findDerived 18 rfl
theorem d_Mo_findDerived_31 : decode y_Mo_findDerived.2.2.1 31 = .ok (.istore_n 2, 1) := mj_d (q := (31, .istore_n 2, 1)) k_Mo_findDerived 19 rfl
theorem d_Mo_findDerived_32 : decode y_Mo_findDerived.2.2.1 32 = .ok (.iload_n 2, 1) := mj_d (q := (32, .iload_n 2, 1)) k_Mo_findDerived 20 rfl
theorem d_Mo_findDerived_33 : decode y_Mo_findDerived.2.2.1 33 = .ok (.aload_n 0, 1) := mj_d (q := (33, .aload_n 0, 1)) k_Mo_findDerived 21 rfl
theorem d_Mo_findDerived_34 : decode y_Mo_findDerived.2.2.1 34 = .ok (.getfield 73, 3) := mj_d (q := (34, .getfield 73, 3)) k_Mo_findDerived 22 rfl
theorem d_Mo_findDerived_37 : decode y_Mo_findDerived.2.2.1 37 = .ok (.if_icmp .ge 88, 3) := mj_d (q := (37, .if_icmp .ge 88, 3)) k_Mo_findDerived 23 rfl
theorem d_Mo_findDerived_40 : decode y_Mo_findDerived.2.2.1 40 = .ok (.iconst 0, 1) := mj_d (q := (40, .iconst 0, 1)) k_Mo_findDerived 24 rfl
theorem d_Mo_findDerived_41 : decode y_Mo_findDerived.2.2.1 41 = .ok (.istore_n 3, 1) := mj_d (q := (41, .istore_n 3, 1)) k_Mo_findDerived 25 rfl
theorem d_Mo_findDerived_42 : decode y_Mo_findDerived.2.2.1 42 = .ok (.iload_n 3, 1) := mj_d (q := (42, .iload_n 3, 1)) k_Mo_findDerived 26 rfl
theorem d_Mo_findDerived_43 : decode y_Mo_findDerived.2.2.1 43 = .ok (.aload_n 0, 1) := mj_d (q := (43, .aload_n 0, 1)) k_Mo_findDerived 27 rfl
theorem d_Mo_findDerived_44 : decode y_Mo_findDerived.2.2.1 44 = .ok (.getfield 97, 3) := mj_d (q := (44, .getfield 97, 3)) k_Mo_findDerived 28 rfl
theorem d_Mo_findDerived_47 : decode y_Mo_findDerived.2.2.1 47 = .ok (.if_icmp .gt 72, 3) := mj_d (q := (47, .if_icmp .gt 72, 3)) k_Mo_findDerived 29 rfl
theorem d_Mo_findDerived_50 : decode y_Mo_findDerived.2.2.1 50 = .ok (.iload_n 3, 1) := mj_d (q := (50, .iload_n 3, 1)) k_Mo_findDerived 30 rfl
theorem d_Mo_findDerived_51 : decode y_Mo_findDerived.2.2.1 51 = .ok (.istore 4, 2) := mj_d (q := (51, .istore 4, 2)) k_Mo_findDerived 31 rfl
theorem d_Mo_findDerived_53 : decode y_Mo_findDerived.2.2.1 53 = .ok (.iload 4, 2) := mj_d (q := (53, .iload 4, 2)) k_Mo_findDerived 32 rfl
theorem d_Mo_findDerived_55 : decode y_Mo_findDerived.2.2.1 55 = .ok (.aload_n 0, 1) := mj_d (q := (55, .aload_n 0, 1)) k_Mo_findDerived 33 rfl
theorem d_Mo_findDerived_56 : decode y_Mo_findDerived.2.2.1 56 = .ok (.getfield 97, 3) := mj_d (q := (56, .getfield 97, 3)) k_Mo_findDerived 34 rfl
theorem d_Mo_findDerived_59 : decode y_Mo_findDerived.2.2.1 59 = .ok (.if_icmp .gt 54, 3) := mj_d (q := (59, .if_icmp .gt 54, 3)) k_Mo_findDerived 35 rfl
theorem d_Mo_findDerived_62 : decode y_Mo_findDerived.2.2.1 62 = .ok (.aload_n 0, 1) := mj_d (q := (62, .aload_n 0, 1)) k_Mo_findDerived 36 rfl
theorem d_Mo_findDerived_63 : decode y_Mo_findDerived.2.2.1 63 = .ok (.getfield 7, 3) := mj_d (q := (63, .getfield 7, 3)) k_Mo_findDerived 37 rfl
theorem d_Mo_findDerived_66 : decode y_Mo_findDerived.2.2.1 66 = .ok (.iload_n 2, 1) := mj_d (q := (66, .iload_n 2, 1)) k_Mo_findDerived 38 rfl
theorem d_Mo_findDerived_67 : decode y_Mo_findDerived.2.2.1 67 = .ok (.iaload, 1) := mj_d (q := (67, .iaload, 1)) k_Mo_findDerived 39 rfl
theorem d_Mo_findDerived_68 : decode y_Mo_findDerived.2.2.1 68 = .ok (.iload_n 3, 1) := mj_d (q := (68, .iload_n 3, 1)) k_Mo_findDerived 40 rfl
theorem d_Mo_findDerived_69 : decode y_Mo_findDerived.2.2.1 69 = .ok (.iload 4, 2) := mj_d (q := (69, .iload 4, 2)) k_Mo_findDerived 41 rfl
theorem d_Mo_findDerived_71 : decode y_Mo_findDerived.2.2.1 71 = .ok (.invokestatic 113, 3) := mj_d (q := (71, .invokestatic 113, 3)) k_Mo_findDerived 42 rfl
theorem d_Mo_findDerived_74 : decode y_Mo_findDerived.2.2.1 74 = .ok (.istore 5, 2) := mj_d (q := (74, .istore 5, 2)) k_Mo_findDerived 43 rfl
theorem d_Mo_findDerived_76 : decode y_Mo_findDerived.2.2.1 76 = .ok (.aload_n 0, 1) := mj_d (q := (76, .aload_n 0, 1)) k_Mo_findDerived 44 rfl
theorem d_Mo_findDerived_77 : decode y_Mo_findDerived.2.2.1 77 = .ok (.getfield 26, 3) := mj_d (q := (77, .getfield 26, 3)) k_Mo_findDerived 45 rfl
theorem d_Mo_findDerived_80 : decode y_Mo_findDerived.2.2.1 80 = .ok (.iload 5, 2) := mj_d (q := (80, .iload 5, 2)) k_Mo_findDerived 46 rfl
theorem d_Mo_findDerived_82 : decode y_Mo_findDerived.2.2.1 82 = .ok (.baload, 1) := mj_d (q := (82, .baload, 1)) k_Mo_findDerived 47 rfl
theorem d_Mo_findDerived_83 : decode y_Mo_findDerived.2.2.1 83 = .ok (.ifCond .ne 24, 3) := mj_d (q := (83, .ifCond .ne 24, 3)) k_Mo_findDerived 48 rfl
theorem d_Mo_findDerived_86 : decode y_Mo_findDerived.2.2.1 86 = .ok (.aload_n 0, 1) := mj_d (q := (86, .aload_n 0, 1)) k_Mo_findDerived 49 rfl
theorem d_Mo_findDerived_87 : decode y_Mo_findDerived.2.2.1 87 = .ok (.iload_n 2, 1) := mj_d (q := (87, .iload_n 2, 1)) k_Mo_findDerived 50 rfl
theorem d_Mo_findDerived_88 : decode y_Mo_findDerived.2.2.1 88 = .ok (.iload_n 3, 1) := mj_d (q := (88, .iload_n 3, 1)) k_Mo_findDerived 51 rfl
theorem d_Mo_findDerived_89 : decode y_Mo_findDerived.2.2.1 89 = .ok (.iload 4, 2) := mj_d (q := (89, .iload 4, 2)) k_Mo_findDerived 52 rfl
theorem d_Mo_findDerived_91 : decode y_Mo_findDerived.2.2.1 91 = .ok (.invokevirtual 140, 3) := mj_d (q := (91, .invokevirtual 140, 3)) k_Mo_findDerived 53 rfl
theorem d_Mo_findDerived_94 : decode y_Mo_findDerived.2.2.1 94 = .ok (.ifCond .le 13, 3) := mj_d (q := (94, .ifCond .le 13, 3)) k_Mo_findDerived 54 rfl
theorem d_Mo_findDerived_97 : decode y_Mo_findDerived.2.2.1 97 = .ok (.aload_n 0, 1) := mj_d (q := (97, .aload_n 0, 1)) k_Mo_findDerived 55 rfl
theorem d_Mo_findDerived_98 : decode y_Mo_findDerived.2.2.1 98 = .ok (.getfield 26, 3) := mj_d (q := (98, .getfield 26, 3)) k_Mo_findDerived 56 rfl
theorem d_Mo_findDerived_101 : decode y_Mo_findDerived.2.2.1 101 = .ok (.iload 5, 2) := mj_d (q := (101, .iload 5, 2)) k_Mo_findDerived 57 rfl
theorem d_Mo_findDerived_103 : decode y_Mo_findDerived.2.2.1 103 = .ok (.iconst 1, 1) := mj_d (q := (103, .iconst 1, 1)) k_Mo_findDerived 58 rfl
theorem d_Mo_findDerived_104 : decode y_Mo_findDerived.2.2.1 104 = .ok (.bastore, 1) := mj_d (q := (104, .bastore, 1)) k_Mo_findDerived 59 rfl
theorem d_Mo_findDerived_105 : decode y_Mo_findDerived.2.2.1 105 = .ok (.iconst 1, 1) := mj_d (q := (105, .iconst 1, 1)) k_Mo_findDerived 60 rfl
theorem d_Mo_findDerived_106 : decode y_Mo_findDerived.2.2.1 106 = .ok (.istore_n 1, 1) := mj_d (q := (106, .istore_n 1, 1)) k_Mo_findDerived 61 rfl
theorem d_Mo_findDerived_107 : decode y_Mo_findDerived.2.2.1 107 = .ok (.iinc 4 1, 3) := mj_d (q := (107, .iinc 4 1, 3)) k_Mo_findDerived 62 rfl
theorem d_Mo_findDerived_110 : decode y_Mo_findDerived.2.2.1 110 = .ok (.goto (-57), 3) := mj_d (q := (110, .goto (-57), 3)) k_Mo_findDerived 63 rfl
theorem d_Mo_findDerived_113 : decode y_Mo_findDerived.2.2.1 113 = .ok (.iinc 3 1, 3) := mj_d (q := (113, .iinc 3 1, 3)) k_Mo_findDerived 64 rfl
theorem d_Mo_findDerived_116 : decode y_Mo_findDerived.2.2.1 116 = .ok (.goto (-74), 3) := mj_d (q := (116, .goto (-74), 3)) k_Mo_findDerived 65 rfl
theorem d_Mo_findDerived_119 : decode y_Mo_findDerived.2.2.1 119 = .ok (.iinc 2 1, 3) := mj_d (q := (119, .iinc 2 1, 3)) k_Mo_findDerived 66 rfl
theorem d_Mo_findDerived_122 : decode y_Mo_findDerived.2.2.1 122 = .ok (.goto (-90), 3) := mj_d (q := (122, .goto (-90), 3)) k_Mo_findDerived 67 rfl
theorem d_Mo_findDerived_125 : decode y_Mo_findDerived.2.2.1 125 = .ok (.goto (-101), 3) := mj_d (q := (125, .goto (-101), 3)) k_Mo_findDerived 68 rfl
theorem d_Mo_findDerived_128 : decode y_Mo_findDerived.2.2.1 128 = .ok (.return_, 1) := mj_d (q := (128, .return_, 1)) k_Mo_findDerived 69 rfl
theorem d_Mo_node_0 : decode y_Mo_node.2.2.1 0 = .ok (.sipush 169, 3) := mj_d (q := (0, .sipush 169, 3)) k_Mo_node 0 rfl
theorem d_Mo_node_3 : decode y_Mo_node.2.2.1 3 = .ok (.iload_n 0, 1) := mj_d (q := (3, .iload_n 0, 1)) k_Mo_node 1 rfl
theorem d_Mo_node_4 : decode y_Mo_node.2.2.1 4 = .ok (.imul, 1) := mj_d (q := (4, .imul, 1)) k_Mo_node 2 rfl
theorem d_Mo_node_5 : decode y_Mo_node.2.2.1 5 = .ok (.bipush 13, 2) := mj_d (q := (5, .bipush 13, 2)) k_Mo_node 3 rfl
theorem d_Mo_node_7 : decode y_Mo_node.2.2.1 7 = .ok (.iload_n 1, 1) := mj_d (q := (7, .iload_n 1, 1)) k_Mo_node 4 rfl
theorem d_Mo_node_8 : decode y_Mo_node.2.2.1 8 = .ok (.imul, 1) := mj_d (q := (8, .imul, 1)) k_Mo_node 5 rfl
theorem d_Mo_node_9 : decode y_Mo_node.2.2.1 9 = .ok (.iadd, 1) := mj_d (q := (9, .iadd, 1)) k_Mo_node 6 rfl
theorem d_Mo_node_10 : decode y_Mo_node.2.2.1 10 = .ok (.iload_n 2, 1) := mj_d (q := (10, .iload_n 2, 1)) k_Mo_node 7 rfl
theorem d_Mo_node_11 : decode y_Mo_node.2.2.1 11 = .ok (.iadd, 1) := mj_d (q := (11, .iadd, 1)) k_Mo_node 8 rfl
theorem d_Mo_node_12 : decode y_Mo_node.2.2.1 12 = .ok (.ireturn, 1) := mj_d (q := (12, .ireturn, 1)) k_Mo_node 9 rfl
theorem d_Mo_waysBy_0 : decode y_Mo_waysBy.2.2.1 0 = .ok (.iconst 0, 1) := mj_d (q := (0, .iconst 0, 1)) k_Mo_waysBy 0 rfl
theorem d_Mo_waysBy_1 : decode y_Mo_waysBy.2.2.1 1 = .ok (.istore 4, 2) := mj_d (q := (1, .istore 4, 2)) k_Mo_waysBy 1 rfl
theorem d_Mo_waysBy_3 : decode y_Mo_waysBy.2.2.1 3 = .ok (.iconst 1, 1) := mj_d (q := (3, .iconst 1, 1)) k_Mo_waysBy 2 rfl
theorem d_Mo_waysBy_4 : decode y_Mo_waysBy.2.2.1 4 = .ok (.istore 5, 2) := mj_d (q := (4, .istore 5, 2)) k_Mo_waysBy 3 rfl
theorem d_Mo_waysBy_6 : decode y_Mo_waysBy.2.2.1 6 = .ok (.aload_n 0, 1) := mj_d (q := (6, .aload_n 0, 1)) k_Mo_waysBy 4 rfl
theorem d_Mo_waysBy_7 : decode y_Mo_waysBy.2.2.1 7 = .ok (.iload_n 2, 1) := mj_d (q := (7, .iload_n 2, 1)) k_Mo_waysBy 5 rfl
theorem d_Mo_waysBy_8 : decode y_Mo_waysBy.2.2.1 8 = .ok (.invokevirtual 130, 3) := mj_d (q := (8, .invokevirtual 130, 3)) k_Mo_waysBy 6 rfl
theorem d_Mo_waysBy_11 : decode y_Mo_waysBy.2.2.1 11 = .ok (.iload 5, 2) := mj_d (q := (11, .iload 5, 2)) k_Mo_waysBy 7 rfl
theorem d_Mo_waysBy_13 : decode y_Mo_waysBy.2.2.1 13 = .ok (.ifCond .eq 34, 3) := mj_d (q := (13, .ifCond .eq 34, 3)) k_Mo_waysBy 8 rfl
theorem d_Mo_waysBy_16 : decode y_Mo_waysBy.2.2.1 16 = .ok (.iload 4, 2) := mj_d (q := (16, .iload 4, 2)) k_Mo_waysBy 9 rfl
theorem d_Mo_waysBy_18 : decode y_Mo_waysBy.2.2.1 18 = .ok (.aload_n 0, 1) := mj_d (q := (18, .aload_n 0, 1)) k_Mo_waysBy 10 rfl
theorem d_Mo_waysBy_19 : decode y_Mo_waysBy.2.2.1 19 = .ok (.iload_n 1, 1) := mj_d (q := (19, .iload_n 1, 1)) k_Mo_waysBy 11 rfl
theorem d_Mo_waysBy_20 : decode y_Mo_waysBy.2.2.1 20 = .ok (.iload_n 2, 1) := mj_d (q := (20, .iload_n 2, 1)) k_Mo_waysBy 12 rfl
theorem d_Mo_waysBy_21 : decode y_Mo_waysBy.2.2.1 21 = .ok (.iload_n 3, 1) := mj_d (q := (21, .iload_n 3, 1)) k_Mo_waysBy 13 rfl
theorem d_Mo_waysBy_22 : decode y_Mo_waysBy.2.2.1 22 = .ok (.invokevirtual 133, 3) := mj_d (q := (22, .invokevirtual 133, 3)) k_Mo_waysBy 14 rfl
theorem d_Mo_waysBy_25 : decode y_Mo_waysBy.2.2.1 25 = .ok (.ifCond .eq 7, 3) := mj_d (q := (25, .ifCond .eq 7, 3)) k_Mo_waysBy 15 rfl
theorem d_Mo_waysBy_28 : decode y_Mo_waysBy.2.2.1 28 = .ok (.iconst 1, 1) := mj_d (q := (28, .iconst 1, 1)) k_Mo_waysBy 16 rfl
theorem d_Mo_waysBy_29 : decode y_Mo_waysBy.2.2.1 29 = .ok (.goto 4, 3) := mj_d (q := (29, .goto 4, 3)) k_Mo_waysBy 17 rfl
theorem d_Mo_waysBy_32 : decode y_Mo_waysBy.2.2.1 32 = .ok (.iconst 0, 1) := mj_d (q := (32, .iconst 0, 1)) k_Mo_waysBy 18 rfl
theorem d_Mo_waysBy_33 : decode y_Mo_waysBy.2.2.1 33 = .ok (.iadd, 1) := mj_d (q := (33, .iadd, 1)) k_Mo_waysBy 19 rfl
theorem d_Mo_waysBy_34 : decode y_Mo_waysBy.2.2.1 34 = .ok (.istore 4, 2) := mj_d (q := (34, .istore 4, 2)) k_Mo_waysBy 20 rfl
theorem d_Mo_waysBy_36 : decode y_Mo_waysBy.2.2.1 36 = .ok (.aload_n 0, 1) := mj_d (q := (36, .aload_n 0, 1)) k_Mo_waysBy 21 rfl
theorem d_Mo_waysBy_37 : decode y_Mo_waysBy.2.2.1 37 = .ok (.iload_n 1, 1) := mj_d (q := (37, .iload_n 1, 1)) k_Mo_waysBy 22 rfl
theorem d_Mo_waysBy_38 : decode y_Mo_waysBy.2.2.1 38 = .ok (.iload_n 3, 1) := mj_d (q := (38, .iload_n 3, 1)) k_Mo_waysBy 23 rfl
theorem d_Mo_waysBy_39 : decode y_Mo_waysBy.2.2.1 39 = .ok (.invokevirtual 136, 3) := mj_d (q := (39, .invokevirtual 136, 3)) k_Mo_waysBy 24 rfl
theorem d_Mo_waysBy_42 : decode y_Mo_waysBy.2.2.1 42 = .ok (.istore 5, 2) := mj_d (q := (42, .istore 5, 2)) k_Mo_waysBy 25 rfl
theorem d_Mo_waysBy_44 : decode y_Mo_waysBy.2.2.1 44 = .ok (.goto (-33), 3) := mj_d (q := (44, .goto (-33), 3)) k_Mo_waysBy 26 rfl
theorem d_Mo_waysBy_47 : decode y_Mo_waysBy.2.2.1 47 = .ok (.iload 4, 2) := mj_d (q := (47, .iload 4, 2)) k_Mo_waysBy 27 rfl
theorem d_Mo_waysBy_49 : decode y_Mo_waysBy.2.2.1 49 = .ok (.ireturn, 1) := mj_d (q := (49, .ireturn, 1)) k_Mo_waysBy 28 rfl
theorem d_Mo_firstCuts_0 : decode y_Mo_firstCuts.2.2.1 0 = .ok (.aload_n 0, 1) := mj_d (q := (0, .aload_n 0, 1)) k_Mo_firstCuts 0 rfl
theorem d_Mo_firstCuts_1 : decode y_Mo_firstCuts.2.2.1 1 = .ok (.iload_n 1, 1) := mj_d (q := (1, .iload_n 1, 1)) k_Mo_firstCuts 1 rfl
theorem d_Mo_firstCuts_2 : decode y_Mo_firstCuts.2.2.1 2 = .ok (.putfield 117, 3) := mj_d (q := (2, .putfield 117, 3)) k_Mo_firstCuts 2 rfl
theorem d_Mo_firstCuts_5 : decode y_Mo_firstCuts.2.2.1 5 = .ok (.aload_n 0, 1) := mj_d (q := (5, .aload_n 0, 1)) k_Mo_firstCuts 3 rfl
theorem d_Mo_firstCuts_6 : decode y_Mo_firstCuts.2.2.1 6 = .ok (.iload_n 1, 1) := mj_d (q := (6, .iload_n 1, 1)) k_Mo_firstCuts 4 rfl
theorem d_Mo_firstCuts_7 : decode y_Mo_firstCuts.2.2.1 7 = .ok (.putfield 120, 3) := mj_d (q := (7, .putfield 120, 3)) k_Mo_firstCuts 5 rfl
theorem d_Mo_firstCuts_10 : decode y_Mo_firstCuts.2.2.1 10 = .ok (.return_, 1) := mj_d (q := (10, .return_, 1)) k_Mo_firstCuts 6 rfl
theorem d_Mo_isWay_0 : decode y_Mo_isWay.2.2.1 0 = .ok (.aload_n 0, 1) := mj_d (q := (0, .aload_n 0, 1)) k_Mo_isWay 0 rfl
theorem d_Mo_isWay_1 : decode y_Mo_isWay.2.2.1 1 = .ok (.getfield 13, 3) := mj_d (q := (1, .getfield 13, 3)) k_Mo_isWay 1 rfl
theorem d_Mo_isWay_4 : decode y_Mo_isWay.2.2.1 4 = .ok (.iload_n 1, 1) := mj_d (q := (4, .iload_n 1, 1)) k_Mo_isWay 2 rfl
theorem d_Mo_isWay_5 : decode y_Mo_isWay.2.2.1 5 = .ok (.iaload, 1) := mj_d (q := (5, .iaload, 1)) k_Mo_isWay 3 rfl
theorem d_Mo_isWay_6 : decode y_Mo_isWay.2.2.1 6 = .ok (.ifCond .ne 14, 3) := mj_d (q := (6, .ifCond .ne 14, 3)) k_Mo_isWay 4 rfl
theorem d_Mo_isWay_9 : decode y_Mo_isWay.2.2.1 9 = .ok (.iload_n 2, 1) := mj_d (q := (9, .iload_n 2, 1)) k_Mo_isWay 5 rfl
theorem d_Mo_isWay_10 : decode y_Mo_isWay.2.2.1 10 = .ok (.iload_n 3, 1) := mj_d (q := (10, .iload_n 3, 1)) k_Mo_isWay 6 rfl
theorem d_Mo_isWay_11 : decode y_Mo_isWay.2.2.1 11 = .ok (.if_icmp .ne 7, 3) := mj_d (q := (11, .if_icmp .ne 7, 3)) k_Mo_isWay 7 rfl
theorem d_Mo_isWay_14 : decode y_Mo_isWay.2.2.1 14 = .ok (.iconst 1, 1) := mj_d (q := (14, .iconst 1, 1)) k_Mo_isWay 8 rfl
theorem d_Mo_isWay_15 : decode y_Mo_isWay.2.2.1 15 = .ok (.goto 4, 3) := mj_d (q := (15, .goto 4, 3)) k_Mo_isWay 9 rfl
theorem d_Mo_isWay_18 : decode y_Mo_isWay.2.2.1 18 = .ok (.iconst 0, 1) := mj_d (q := (18, .iconst 0, 1)) k_Mo_isWay 10 rfl
theorem d_Mo_isWay_19 : decode y_Mo_isWay.2.2.1 19 = .ok (.ireturn, 1) := mj_d (q := (19, .ireturn, 1)) k_Mo_isWay 11 rfl
theorem d_Mo_isWay_20 : decode y_Mo_isWay.2.2.1 20 = .ok (.iconst 1, 1) := mj_d (q := (20, .iconst 1, 1)) k_Mo_isWay 12 rfl
theorem d_Mo_isWay_21 : decode y_Mo_isWay.2.2.1 21 = .ok (.istore 4, 2) := mj_d (q := (21, .istore 4, 2)) k_Mo_isWay 13 rfl
theorem d_Mo_isWay_23 : decode y_Mo_isWay.2.2.1 23 = .ok (.iconst 0, 1) := mj_d (q := (23, .iconst 0, 1)) k_Mo_isWay 14 rfl
theorem d_Mo_isWay_24 : decode y_Mo_isWay.2.2.1 24 = .ok (.istore 5, 2) := mj_d (q := (24, .istore 5, 2)) k_Mo_isWay 15 rfl
theorem d_Mo_isWay_26 : decode y_Mo_isWay.2.2.1 26 = .ok (.iload 5, 2) := mj_d (q := (26, .iload 5, 2)) k_Mo_isWay 16 rfl
theorem d_Mo_isWay_28 : decode y_Mo_isWay.2.2.1 28 = .ok (.aload_n 0, 1) := mj_d (q := (28, .aload_n 0, 1)) k_Mo_isWay 17 rfl
theorem d_Mo_isWay_29 : decode y_Mo_isWay.2.2.1 29 = .ok (.getfield 13, 3) := mj_d (q := (29, .getfield 13, 3)) k_Mo_isWay 18 rfl
theorem d_Mo_isWay_32 : decode y_Mo_isWay.2.2.1 32 = .ok (.iload_n 1, 1) := mj_d (q := (32, .iload_n 1, 1)) k_Mo_isWay 19 rfl
theorem d_Mo_isWay_33 : decode y_Mo_isWay.2.2.1 33 = .ok (.iaload, 1) := mj_d (q := (33, .iaload, 1)) k_Mo_isWay 20 rfl
theorem d_Mo_isWay_34 : decode y_Mo_isWay.2.2.1 34 = .ok (.if_icmp .ge 74, 3) := mj_d (q := (34, .if_icmp .ge 74, 3)) k_Mo_isWay 21 rfl
theorem d_Mo_isWay_37 : decode y_Mo_isWay.2.2.1 37 = .ok (.aload_n 0, 1) := mj_d (q := (37, .aload_n 0, 1)) k_Mo_isWay 22 rfl
theorem d_Mo_isWay_38 : decode y_Mo_isWay.2.2.1 38 = .ok (.iload_n 1, 1) := mj_d (q := (38, .iload_n 1, 1)) k_Mo_isWay 23 rfl
theorem d_Mo_isWay_39 : decode y_Mo_isWay.2.2.1 39 = .ok (.iload 5, 2) := mj_d (q := (39, .iload 5, 2)) k_Mo_isWay 24 rfl
theorem d_Mo_isWay_41 : decode y_Mo_isWay.2.2.1 41 = .ok (.iload_n 2, 1) := mj_d (q := (41, .iload_n 2, 1)) k_Mo_isWay 25 rfl
theorem d_Mo_isWay_42 : decode y_Mo_isWay.2.2.1 42 = .ok (.iload_n 3, 1) := mj_d (q := (42, .iload_n 3, 1)) k_Mo_isWay 26 rfl
theorem d_Mo_isWay_43 : decode y_Mo_isWay.2.2.1 43 = .ok (.invokevirtual 123, 3) := mj_d (q := (43, .invokevirtual 123, 3)) k_Mo_isWay 27 rfl
theorem d_Mo_isWay_46 : decode y_Mo_isWay.2.2.1 46 = .ok (.istore 6, 2) := mj_d (q := (46, .istore 6, 2)) k_Mo_isWay 28 rfl
theorem d_Mo_isWay_48 : decode y_Mo_isWay.2.2.1 48 = .ok (.aload_n 0, 1) := mj_d (q := (48, .aload_n 0, 1)) k_Mo_isWay 29 rfl
theorem d_Mo_isWay_49 : decode y_Mo_isWay.2.2.1 49 = .ok (.iload_n 1, 1) := mj_d (q := (49, .iload_n 1, 1)) k_Mo_isWay 30 rfl
theorem d_Mo_isWay_50 : decode y_Mo_isWay.2.2.1 50 = .ok (.iload 5, 2) := mj_d (q := (50, .iload 5, 2)) k_Mo_isWay 31 rfl
theorem d_Mo_isWay_52 : decode y_Mo_isWay.2.2.1 52 = .ok (.iconst 1, 1) := mj_d (q := (52, .iconst 1, 1)) k_Mo_isWay 32 rfl
theorem d_Mo_isWay_53 : decode y_Mo_isWay.2.2.1 53 = .ok (.iadd, 1) := mj_d (q := (53, .iadd, 1)) k_Mo_isWay 33 rfl
theorem d_Mo_isWay_54 : decode y_Mo_isWay.2.2.1 54 = .ok (.iload_n 2, 1) := mj_d (q := (54, .iload_n 2, 1)) k_Mo_isWay 34 rfl
theorem d_Mo_isWay_55 : decode y_Mo_isWay.2.2.1 55 = .ok (.iload_n 3, 1) := mj_d (q := (55, .iload_n 3, 1)) k_Mo_isWay 35 rfl
theorem d_Mo_isWay_56 : decode y_Mo_isWay.2.2.1 56 = .ok (.invokevirtual 123, 3) := mj_d (q := (56, .invokevirtual 123, 3)) k_Mo_isWay 36 rfl
theorem d_Mo_isWay_59 : decode y_Mo_isWay.2.2.1 59 = .ok (.istore 7, 2) := mj_d (q := (59, .istore 7, 2)) k_Mo_isWay 37 rfl
theorem d_Mo_isWay_61 : decode y_Mo_isWay.2.2.1 61 = .ok (.iload 4, 2) := mj_d (q := (61, .iload 4, 2)) k_Mo_isWay 38 rfl
theorem d_Mo_isWay_63 : decode y_Mo_isWay.2.2.1 63 = .ok (.ifCond .eq 36, 3) := mj_d (q := (63, .ifCond .eq 36, 3)) k_Mo_isWay 39 rfl
theorem d_Mo_isWay_66 : decode y_Mo_isWay.2.2.1 66 = .ok (.iload 6, 2) := mj_d (q := (66, .iload 6, 2)) k_Mo_isWay 40 rfl
theorem d_Mo_isWay_68 : decode y_Mo_isWay.2.2.1 68 = .ok (.iload 7, 2) := mj_d (q := (68, .iload 7, 2)) k_Mo_isWay 41 rfl
theorem d_Mo_isWay_70 : decode y_Mo_isWay.2.2.1 70 = .ok (.if_icmp .gt 29, 3) := mj_d (q := (70, .if_icmp .gt 29, 3)) k_Mo_isWay 42 rfl
theorem d_Mo_isWay_73 : decode y_Mo_isWay.2.2.1 73 = .ok (.aload_n 0, 1) := mj_d (q := (73, .aload_n 0, 1)) k_Mo_isWay 43 rfl
theorem d_Mo_isWay_74 : decode y_Mo_isWay.2.2.1 74 = .ok (.aload_n 0, 1) := mj_d (q := (74, .aload_n 0, 1)) k_Mo_isWay 44 rfl
theorem d_Mo_isWay_75 : decode y_Mo_isWay.2.2.1 75 = .ok (.getfield 16, 3) := mj_d (q := (75, .getfield 16, 3)) k_Mo_isWay 45 rfl
theorem d_Mo_isWay_78 : decode y_Mo_isWay.2.2.1 78 = .ok (.iconst 3, 1) := mj_d (q := (78, .iconst 3, 1)) k_Mo_isWay 46 rfl
theorem d_Mo_isWay_79 : decode y_Mo_isWay.2.2.1 79 = .ok (.iload_n 1, 1) := mj_d (q := (79, .iload_n 1, 1)) k_Mo_isWay 47 rfl
theorem d_Mo_isWay_80 : decode y_Mo_isWay.2.2.1 80 = .ok (.imul, 1) := mj_d (q := (80, .imul, 1)) k_Mo_isWay 48 rfl
theorem d_Mo_isWay_81 : decode y_Mo_isWay.2.2.1 81 = .ok (.iload 5, 2) := mj_d (q := (81, .iload 5, 2)) k_Mo_isWay 49 rfl
theorem d_Mo_isWay_83 : decode y_Mo_isWay.2.2.1 83 = .ok (.iadd, 1) := mj_d (q := (83, .iadd, 1)) k_Mo_isWay 50 rfl
theorem d_Mo_isWay_84 : decode y_Mo_isWay.2.2.1 84 = .ok (.iaload, 1) := mj_d (q := (84, .iaload, 1)) k_Mo_isWay 51 rfl
theorem d_Mo_isWay_85 : decode y_Mo_isWay.2.2.1 85 = .ok (.iload 6, 2) := mj_d (q := (85, .iload 6, 2)) k_Mo_isWay 52 rfl
theorem d_Mo_isWay_87 : decode y_Mo_isWay.2.2.1 87 = .ok (.iload 7, 2) := mj_d (q := (87, .iload 7, 2)) k_Mo_isWay 53 rfl
theorem d_Mo_isWay_89 : decode y_Mo_isWay.2.2.1 89 = .ok (.invokevirtual 126, 3) := mj_d (q := (89, .invokevirtual 126, 3)) k_Mo_isWay 54 rfl
theorem d_Mo_isWay_92 : decode y_Mo_isWay.2.2.1 92 = .ok (.ifCond .eq 7, 3) := mj_d (q := (92, .ifCond .eq 7, 3)) k_Mo_isWay 55 rfl
theorem d_Mo_isWay_95 : decode y_Mo_isWay.2.2.1 95 = .ok (.iconst 1, 1) := mj_d (q := (95, .iconst 1, 1)) k_Mo_isWay 56 rfl
theorem d_Mo_isWay_96 : decode y_Mo_isWay.2.2.1 96 = .ok (.goto 4, 3) := mj_d (q := (96, .goto 4, 3)) k_Mo_isWay 57 rfl
theorem d_Mo_isWay_99 : decode y_Mo_isWay.2.2.1 99 = .ok (.iconst 0, 1) := mj_d (q := (99, .iconst 0, 1)) k_Mo_isWay 58 rfl
theorem d_Mo_isWay_100 : decode y_Mo_isWay.2.2.1 100 = .ok (.istore 4, 2) := mj_d (q := (100, .istore 4, 2)) k_Mo_isWay 59 rfl
theorem d_Mo_isWay_102 : decode y_Mo_isWay.2.2.1 102 = .ok (.iinc 5 1, 3) := mj_d (q := (102, .iinc 5 1, 3)) k_Mo_isWay 60 rfl
theorem d_Mo_isWay_105 : decode y_Mo_isWay.2.2.1 105 = .ok (.goto (-79), 3) := mj_d (q := (105, .goto (-79), 3)) k_Mo_isWay 61 rfl
theorem d_Mo_isWay_108 : decode y_Mo_isWay.2.2.1 108 = .ok (.iload 4, 2) := mj_d (q := (108, .iload 4, 2)) k_Mo_isWay 62 rfl
theorem d_Mo_isWay_110 : decode y_Mo_isWay.2.2.1 110 = .ok (.ireturn, 1) := mj_d (q := (110, .ireturn, 1)) k_Mo_isWay 63 rfl
theorem d_Mo_cut_0 : decode y_Mo_cut.2.2.1 0 = .ok (.iload_n 2, 1) := mj_d (q := (0, .iload_n 2, 1)) k_Mo_cut 0 rfl
theorem d_Mo_cut_1 : decode y_Mo_cut.2.2.1 1 = .ok (.ifCond .ne 7, 3) := mj_d (q := (1, .ifCond .ne 7, 3)) k_Mo_cut 1 rfl
theorem d_Mo_cut_4 : decode y_Mo_cut.2.2.1 4 = .ok (.iload_n 3, 1) := mj_d (q := (4, .iload_n 3, 1)) k_Mo_cut 2 rfl
theorem d_Mo_cut_5 : decode y_Mo_cut.2.2.1 5 = .ok (.goto 34, 3) := mj_d (q := (5, .goto 34, 3)) k_Mo_cut 3 rfl
theorem d_Mo_cut_8 : decode y_Mo_cut.2.2.1 8 = .ok (.iload_n 2, 1) := mj_d (q := (8, .iload_n 2, 1)) k_Mo_cut 4 rfl
theorem d_Mo_cut_9 : decode y_Mo_cut.2.2.1 9 = .ok (.aload_n 0, 1) := mj_d (q := (9, .aload_n 0, 1)) k_Mo_cut 5 rfl
theorem d_Mo_cut_10 : decode y_Mo_cut.2.2.1 10 = .ok (.getfield 13, 3) := mj_d (q := (10, .getfield 13, 3)) k_Mo_cut 6 rfl
theorem d_Mo_cut_13 : decode y_Mo_cut.2.2.1 13 = .ok (.iload_n 1, 1) := mj_d (q := (13, .iload_n 1, 1)) k_Mo_cut 7 rfl
theorem d_Mo_cut_14 : decode y_Mo_cut.2.2.1 14 = .ok (.iaload, 1) := mj_d (q := (14, .iaload, 1)) k_Mo_cut 8 rfl
theorem d_Mo_cut_15 : decode y_Mo_cut.2.2.1 15 = .ok (.if_icmp .ne 8, 3) := mj_d (q := (15, .if_icmp .ne 8, 3)) k_Mo_cut 9 rfl
theorem d_Mo_cut_18 : decode y_Mo_cut.2.2.1 18 = .ok (.iload 4, 2) := mj_d (q := (18, .iload 4, 2)) k_Mo_cut 10 rfl
theorem d_Mo_cut_20 : decode y_Mo_cut.2.2.1 20 = .ok (.goto 19, 3) := mj_d (q := (20, .goto 19, 3)) k_Mo_cut 11 rfl
theorem d_Mo_cut_23 : decode y_Mo_cut.2.2.1 23 = .ok (.iload_n 2, 1) := mj_d (q := (23, .iload_n 2, 1)) k_Mo_cut 12 rfl
theorem d_Mo_cut_24 : decode y_Mo_cut.2.2.1 24 = .ok (.iconst 1, 1) := mj_d (q := (24, .iconst 1, 1)) k_Mo_cut 13 rfl
theorem d_Mo_cut_25 : decode y_Mo_cut.2.2.1 25 = .ok (.if_icmp .ne 10, 3) := mj_d (q := (25, .if_icmp .ne 10, 3)) k_Mo_cut 14 rfl
theorem d_Mo_cut_28 : decode y_Mo_cut.2.2.1 28 = .ok (.aload_n 0, 1) := mj_d (q := (28, .aload_n 0, 1)) k_Mo_cut 15 rfl
theorem d_Mo_cut_29 : decode y_Mo_cut.2.2.1 29 = .ok (.getfield 117, 3) := mj_d (q := (29, .getfield 117, 3)) k_Mo_cut 16 rfl
theorem d_Mo_cut_32 : decode y_Mo_cut.2.2.1 32 = .ok (.goto 7, 3) := mj_d (q := (32, .goto 7, 3)) k_Mo_cut 17 rfl
theorem d_Mo_cut_35 : decode y_Mo_cut.2.2.1 35 = .ok (.aload_n 0, 1) := mj_d (q := (35, .aload_n 0, 1)) k_Mo_cut 18 rfl
theorem d_Mo_cut_36 : decode y_Mo_cut.2.2.1 36 = .ok (.getfield 120, 3) := mj_d (q := (36, .getfield 120, 3)) k_Mo_cut 19 rfl
theorem d_Mo_cut_39 : decode y_Mo_cut.2.2.1 39 = .ok (.ireturn, 1) := mj_d (q := (39, .ireturn, 1)) k_Mo_cut 20 rfl
theorem d_Mo_isDerived_0 : decode y_Mo_isDerived.2.2.1 0 = .ok (.iload_n 1, 1) := mj_d (q := (0, .iload_n 1, 1)) k_Mo_isDerived 0 rfl
theorem d_Mo_isDerived_1 : decode y_Mo_isDerived.2.2.1 1 = .ok (.bipush 8, 2) := mj_d (q := (1, .bipush 8, 2)) k_Mo_isDerived 1 rfl
theorem d_Mo_isDerived_3 : decode y_Mo_isDerived.2.2.1 3 = .ok (.if_icmp .lt 28, 3) := mj_d (q := (3, .if_icmp .lt 28, 3)) k_Mo_isDerived 2 rfl
theorem d_Mo_isDerived_6 : decode y_Mo_isDerived.2.2.1 6 = .ok (.iload_n 3, 1) := mj_d (q := (6, .iload_n 3, 1)) k_Mo_isDerived 3 rfl
theorem d_Mo_isDerived_7 : decode y_Mo_isDerived.2.2.1 7 = .ok (.iload_n 2, 1) := mj_d (q := (7, .iload_n 2, 1)) k_Mo_isDerived 4 rfl
theorem d_Mo_isDerived_8 : decode y_Mo_isDerived.2.2.1 8 = .ok (.iconst 1, 1) := mj_d (q := (8, .iconst 1, 1)) k_Mo_isDerived 5 rfl
theorem d_Mo_isDerived_9 : decode y_Mo_isDerived.2.2.1 9 = .ok (.iadd, 1) := mj_d (q := (9, .iadd, 1)) k_Mo_isDerived 6 rfl
theorem d_Mo_isDerived_10 : decode y_Mo_isDerived.2.2.1 10 = .ok (.if_icmp .ne 17, 3) := mj_d (q := (10, .if_icmp .ne 17, 3)) k_Mo_isDerived 7 rfl
theorem d_Mo_isDerived_13 : decode y_Mo_isDerived.2.2.1 13 = .ok (.aload_n 0, 1) := mj_d (q := (13, .aload_n 0, 1)) k_Mo_isDerived 8 rfl
theorem d_Mo_isDerived_14 : decode y_Mo_isDerived.2.2.1 14 = .ok (.getfield 19, 3) := mj_d (q := (14, .getfield 19, 3)) k_Mo_isDerived 9 rfl
theorem d_Mo_isDerived_17 : decode y_Mo_isDerived.2.2.1 17 = .ok (.iload_n 2, 1) := mj_d (q := (17, .iload_n 2, 1)) k_Mo_isDerived 10 rfl
theorem d_Mo_isDerived_18 : decode y_Mo_isDerived.2.2.1 18 = .ok (.iaload, 1) := mj_d (q := (18, .iaload, 1)) k_Mo_isDerived 11 rfl
theorem d_Mo_isDerived_19 : decode y_Mo_isDerived.2.2.1 19 = .ok (.iload_n 1, 1) := mj_d (q := (19, .iload_n 1, 1)) k_Mo_isDerived 12 rfl
theorem d_Mo_isDerived_20 : decode y_Mo_isDerived.2.2.1 20 = .ok (.if_icmp .ne 7, 3) := mj_d (q := (20, .if_icmp .ne 7, 3)) k_Mo_isDerived 13 rfl
theorem d_Mo_isDerived_23 : decode y_Mo_isDerived.2.2.1 23 = .ok (.iconst 1, 1) := mj_d (q := (23, .iconst 1, 1)) k_Mo_isDerived 14 rfl
theorem d_Mo_isDerived_24 : decode y_Mo_isDerived.2.2.1 24 = .ok (.goto 18, 3) := mj_d (q := (24, .goto 18, 3)) k_Mo_isDerived 15 rfl
theorem d_Mo_isDerived_27 : decode y_Mo_isDerived.2.2.1 27 = .ok (.iconst 0, 1) := mj_d (q := (27, .iconst 0, 1)) k_Mo_isDerived 16 rfl
theorem d_Mo_isDerived_28 : decode y_Mo_isDerived.2.2.1 28 = .ok (.goto 14, 3) := mj_d (q := (28, .goto 14, 3)) k_Mo_isDerived 17 rfl
theorem d_Mo_isDerived_31 : decode y_Mo_isDerived.2.2.1 31 = .ok (.aload_n 0, 1) := mj_d (q := (31, .aload_n 0, 1)) k_Mo_isDerived 18 rfl
theorem d_Mo_isDerived_32 : decode y_Mo_isDerived.2.2.1 32 = .ok (.getfield 26, 3) := mj_d (q := (32, .getfield 26, 3)) k_Mo_isDerived 19 rfl
theorem d_Mo_isDerived_35 : decode y_Mo_isDerived.2.2.1 35 = .ok (.iload_n 1, 1) := mj_d (q := (35, .iload_n 1, 1)) k_Mo_isDerived 20 rfl
theorem d_Mo_isDerived_36 : decode y_Mo_isDerived.2.2.1 36 = .ok (.iload_n 2, 1) := mj_d (q := (36, .iload_n 2, 1)) k_Mo_isDerived 21 rfl
theorem d_Mo_isDerived_37 : decode y_Mo_isDerived.2.2.1 37 = .ok (.iload_n 3, 1) := mj_d (q := (37, .iload_n 3, 1)) k_Mo_isDerived 22 rfl
theorem d_Mo_isDerived_38 : decode y_Mo_isDerived.2.2.1 38 = .ok (.invokestatic 113, 3) := mj_d (q := (38, .invokestatic 113, 3)) k_Mo_isDerived 23 rfl
theorem d_Mo_isDerived_41 : decode y_Mo_isDerived.2.2.1 41 = .ok (.baload, 1) := mj_d (q := (41, .baload, 1)) k_Mo_isDerived 24 rfl
theorem d_Mo_isDerived_42 : decode y_Mo_isDerived.2.2.1 42 = .ok (.ireturn, 1) := mj_d (q := (42, .ireturn, 1)) k_Mo_isDerived 25 rfl
theorem d_Mo_nextCuts_0 : decode y_Mo_nextCuts.2.2.1 0 = .ok (.aload_n 0, 1) := mj_d (q := (0, .aload_n 0, 1)) k_Mo_nextCuts 0 rfl
theorem d_Mo_nextCuts_1 : decode y_Mo_nextCuts.2.2.1 1 = .ok (.getfield 13, 3) := mj_d (q := (1, .getfield 13, 3)) k_Mo_nextCuts 1 rfl
theorem d_Mo_nextCuts_4 : decode y_Mo_nextCuts.2.2.1 4 = .ok (.iload_n 1, 1) := mj_d (q := (4, .iload_n 1, 1)) k_Mo_nextCuts 2 rfl
theorem d_Mo_nextCuts_5 : decode y_Mo_nextCuts.2.2.1 5 = .ok (.iaload, 1) := mj_d (q := (5, .iaload, 1)) k_Mo_nextCuts 3 rfl
theorem d_Mo_nextCuts_6 : decode y_Mo_nextCuts.2.2.1 6 = .ok (.iconst 3, 1) := mj_d (q := (6, .iconst 3, 1)) k_Mo_nextCuts 4 rfl
theorem d_Mo_nextCuts_7 : decode y_Mo_nextCuts.2.2.1 7 = .ok (.if_icmp .ne 23, 3) := mj_d (q := (7, .if_icmp .ne 23, 3)) k_Mo_nextCuts 5 rfl
theorem d_Mo_nextCuts_10 : decode y_Mo_nextCuts.2.2.1 10 = .ok (.aload_n 0, 1) := mj_d (q := (10, .aload_n 0, 1)) k_Mo_nextCuts 6 rfl
theorem d_Mo_nextCuts_11 : decode y_Mo_nextCuts.2.2.1 11 = .ok (.getfield 120, 3) := mj_d (q := (11, .getfield 120, 3)) k_Mo_nextCuts 7 rfl
theorem d_Mo_nextCuts_14 : decode y_Mo_nextCuts.2.2.1 14 = .ok (.iload_n 2, 1) := mj_d (q := (14, .iload_n 2, 1)) k_Mo_nextCuts 8 rfl
theorem d_Mo_nextCuts_15 : decode y_Mo_nextCuts.2.2.1 15 = .ok (.if_icmp .ge 15, 3) := mj_d (q := (15, .if_icmp .ge 15, 3)) k_Mo_nextCuts 9 rfl
theorem d_Mo_nextCuts_18 : decode y_Mo_nextCuts.2.2.1 18 = .ok (.aload_n 0, 1) := mj_d (q := (18, .aload_n 0, 1)) k_Mo_nextCuts 10 rfl
theorem d_Mo_nextCuts_19 : decode y_Mo_nextCuts.2.2.1 19 = .ok (.dup, 1) := mj_d (q := (19, .dup, 1)) k_Mo_nextCuts 11 rfl
theorem d_Mo_nextCuts_20 : decode y_Mo_nextCuts.2.2.1 20 = .ok (.getfield 120, 3) := mj_d (q := (20, .getfield 120, 3)) k_Mo_nextCuts 12 rfl
theorem d_Mo_nextCuts_23 : decode y_Mo_nextCuts.2.2.1 23 = .ok (.iconst 1, 1) := mj_d (q := (23, .iconst 1, 1)) k_Mo_nextCuts 13 rfl
theorem d_Mo_nextCuts_24 : decode y_Mo_nextCuts.2.2.1 24 = .ok (.iadd, 1) := mj_d (q := (24, .iadd, 1)) k_Mo_nextCuts 14 rfl
theorem d_Mo_nextCuts_25 : decode y_Mo_nextCuts.2.2.1 25 = .ok (.putfield 120, 3) := mj_d (q := (25, .putfield 120, 3)) k_Mo_nextCuts 15 rfl
theorem d_Mo_nextCuts_28 : decode y_Mo_nextCuts.2.2.1 28 = .ok (.iconst 1, 1) := mj_d (q := (28, .iconst 1, 1)) k_Mo_nextCuts 16 rfl
theorem d_Mo_nextCuts_29 : decode y_Mo_nextCuts.2.2.1 29 = .ok (.ireturn, 1) := mj_d (q := (29, .ireturn, 1)) k_Mo_nextCuts 17 rfl
theorem d_Mo_nextCuts_30 : decode y_Mo_nextCuts.2.2.1 30 = .ok (.aload_n 0, 1) := mj_d (q := (30, .aload_n 0, 1)) k_Mo_nextCuts 18 rfl
theorem d_Mo_nextCuts_31 : decode y_Mo_nextCuts.2.2.1 31 = .ok (.getfield 13, 3) := mj_d (q := (31, .getfield 13, 3)) k_Mo_nextCuts 19 rfl
theorem d_Mo_nextCuts_34 : decode y_Mo_nextCuts.2.2.1 34 = .ok (.iload_n 1, 1) := mj_d (q := (34, .iload_n 1, 1)) k_Mo_nextCuts 20 rfl
theorem d_Mo_nextCuts_35 : decode y_Mo_nextCuts.2.2.1 35 = .ok (.iaload, 1) := mj_d (q := (35, .iaload, 1)) k_Mo_nextCuts 21 rfl
theorem d_Mo_nextCuts_36 : decode y_Mo_nextCuts.2.2.1 36 = .ok (.iconst 2, 1) := mj_d (q := (36, .iconst 2, 1)) k_Mo_nextCuts 22 rfl
theorem d_Mo_nextCuts_37 : decode y_Mo_nextCuts.2.2.1 37 = .ok (.if_icmp .lt 11, 3) := mj_d (q := (37, .if_icmp .lt 11, 3)) k_Mo_nextCuts 23 rfl
theorem d_Mo_nextCuts_40 : decode y_Mo_nextCuts.2.2.1 40 = .ok (.aload_n 0, 1) := mj_d (q := (40, .aload_n 0, 1)) k_Mo_nextCuts 24 rfl
theorem d_Mo_nextCuts_41 : decode y_Mo_nextCuts.2.2.1 41 = .ok (.getfield 117, 3) := mj_d (q := (41, .getfield 117, 3)) k_Mo_nextCuts 25 rfl
theorem d_Mo_nextCuts_44 : decode y_Mo_nextCuts.2.2.1 44 = .ok (.iload_n 2, 1) := mj_d (q := (44, .iload_n 2, 1)) k_Mo_nextCuts 26 rfl
theorem d_Mo_nextCuts_45 : decode y_Mo_nextCuts.2.2.1 45 = .ok (.if_icmp .ne 5, 3) := mj_d (q := (45, .if_icmp .ne 5, 3)) k_Mo_nextCuts 27 rfl
theorem d_Mo_nextCuts_48 : decode y_Mo_nextCuts.2.2.1 48 = .ok (.iconst 0, 1) := mj_d (q := (48, .iconst 0, 1)) k_Mo_nextCuts 28 rfl
theorem d_Mo_nextCuts_49 : decode y_Mo_nextCuts.2.2.1 49 = .ok (.ireturn, 1) := mj_d (q := (49, .ireturn, 1)) k_Mo_nextCuts 29 rfl
theorem d_Mo_nextCuts_50 : decode y_Mo_nextCuts.2.2.1 50 = .ok (.aload_n 0, 1) := mj_d (q := (50, .aload_n 0, 1)) k_Mo_nextCuts 30 rfl
theorem d_Mo_nextCuts_51 : decode y_Mo_nextCuts.2.2.1 51 = .ok (.dup, 1) := mj_d (q := (51, .dup, 1)) k_Mo_nextCuts 31 rfl
theorem d_Mo_nextCuts_52 : decode y_Mo_nextCuts.2.2.1 52 = .ok (.getfield 117, 3) := mj_d (q := (52, .getfield 117, 3)) k_Mo_nextCuts 32 rfl
theorem d_Mo_nextCuts_55 : decode y_Mo_nextCuts.2.2.1 55 = .ok (.iconst 1, 1) := mj_d (q := (55, .iconst 1, 1)) k_Mo_nextCuts 33 rfl
theorem d_Mo_nextCuts_56 : decode y_Mo_nextCuts.2.2.1 56 = .ok (.iadd, 1) := mj_d (q := (56, .iadd, 1)) k_Mo_nextCuts 34 rfl
theorem d_Mo_nextCuts_57 : decode y_Mo_nextCuts.2.2.1 57 = .ok (.putfield 117, 3) := mj_d (q := (57, .putfield 117, 3)) k_Mo_nextCuts 35 rfl
theorem d_Mo_nextCuts_60 : decode y_Mo_nextCuts.2.2.1 60 = .ok (.aload_n 0, 1) := mj_d (q := (60, .aload_n 0, 1)) k_Mo_nextCuts 36 rfl
theorem d_Mo_nextCuts_61 : decode y_Mo_nextCuts.2.2.1 61 = .ok (.aload_n 0, 1) := mj_d (q := (61, .aload_n 0, 1)) k_Mo_nextCuts 37 rfl
theorem d_Mo_nextCuts_62 : decode y_Mo_nextCuts.2.2.1 62 = .ok (.getfield 117, 3) := mj_d (q := (62, .getfield 117, 3)) k_Mo_nextCuts 38 rfl
theorem d_Mo_nextCuts_65 : decode y_Mo_nextCuts.2.2.1 65 = .ok (.putfield 120, 3) := mj_d (q := (65, .putfield 120, 3)) k_Mo_nextCuts 39 rfl
theorem d_Mo_nextCuts_68 : decode y_Mo_nextCuts.2.2.1 68 = .ok (.iconst 1, 1) := mj_d (q := (68, .iconst 1, 1)) k_Mo_nextCuts 40 rfl
theorem d_Mo_nextCuts_69 : decode y_Mo_nextCuts.2.2.1 69 = .ok (.ireturn, 1) := mj_d (q := (69, .ireturn, 1)) k_Mo_nextCuts 41 rfl
theorem d_Mo_sum_0 : decode y_Mo_sum.2.2.1 0 = .ok (.lconst 0, 1) := mj_d (q := (0, .lconst 0, 1)) k_Mo_sum 0 rfl
theorem d_Mo_sum_1 : decode y_Mo_sum.2.2.1 1 = .ok (.lstore 4, 2) := mj_d (q := (1, .lstore 4, 2)) k_Mo_sum 1 rfl
theorem d_Mo_sum_3 : decode y_Mo_sum.2.2.1 3 = .ok (.iconst 0, 1) := mj_d (q := (3, .iconst 0, 1)) k_Mo_sum 2 rfl
theorem d_Mo_sum_4 : decode y_Mo_sum.2.2.1 4 = .ok (.istore 6, 2) := mj_d (q := (4, .istore 6, 2)) k_Mo_sum 3 rfl
theorem d_Mo_sum_6 : decode y_Mo_sum.2.2.1 6 = .ok (.iload 6, 2) := mj_d (q := (6, .iload 6, 2)) k_Mo_sum 4 rfl
theorem d_Mo_sum_8 : decode y_Mo_sum.2.2.1 8 = .ok (.aload_n 0, 1) := mj_d (q := (8, .aload_n 0, 1)) k_Mo_sum 5 rfl
theorem d_Mo_sum_9 : decode y_Mo_sum.2.2.1 9 = .ok (.getfield 73, 3) := mj_d (q := (9, .getfield 73, 3)) k_Mo_sum 6 rfl
theorem d_Mo_sum_12 : decode y_Mo_sum.2.2.1 12 = .ok (.if_icmp .ge 106, 3) := mj_d (q := (12, .if_icmp .ge 106, 3)) k_Mo_sum 7 rfl
theorem d_Mo_sum_15 : decode y_Mo_sum.2.2.1 15 = .ok (.aload_n 0, 1) := mj_d (q := (15, .aload_n 0, 1)) k_Mo_sum 8 rfl
theorem d_Mo_sum_16 : decode y_Mo_sum.2.2.1 16 = .ok (.getfield 7, 3) := mj_d (q := (16, .getfield 7, 3)) k_Mo_sum 9 rfl
theorem d_Mo_sum_19 : decode y_Mo_sum.2.2.1 19 = .ok (.iload 6, 2) := mj_d (q := (19, .iload 6, 2)) k_Mo_sum 10 rfl
theorem d_Mo_sum_21 : decode y_Mo_sum.2.2.1 21 = .ok (.iaload, 1) := mj_d (q := (21, .iaload, 1)) k_Mo_sum 11 rfl
theorem d_Mo_sum_22 : decode y_Mo_sum.2.2.1 22 = .ok (.iload_n 1, 1) := mj_d (q := (22, .iload_n 1, 1)) k_Mo_sum 12 rfl
theorem d_Mo_sum_23 : decode y_Mo_sum.2.2.1 23 = .ok (.if_icmp .ne 7, 3) := mj_d (q := (23, .if_icmp .ne 7, 3)) k_Mo_sum 13 rfl
theorem d_Mo_sum_26 : decode y_Mo_sum.2.2.1 26 = .ok (.iconst 1, 1) := mj_d (q := (26, .iconst 1, 1)) k_Mo_sum 14 rfl
theorem d_Mo_sum_27 : decode y_Mo_sum.2.2.1 27 = .ok (.goto 4, 3) := mj_d (q := (27, .goto 4, 3)) k_Mo_sum 15 rfl
theorem d_Mo_sum_30 : decode y_Mo_sum.2.2.1 30 = .ok (.iconst 0, 1) := mj_d (q := (30, .iconst 0, 1)) k_Mo_sum 16 rfl
theorem d_Mo_sum_31 : decode y_Mo_sum.2.2.1 31 = .ok (.istore 7, 2) := mj_d (q := (31, .istore 7, 2)) k_Mo_sum 17 rfl
theorem d_Mo_sum_33 : decode y_Mo_sum.2.2.1 33 = .ok (.aload_n 0, 1) := mj_d (q := (33, .aload_n 0, 1)) k_Mo_sum 18 rfl
theorem d_Mo_sum_34 : decode y_Mo_sum.2.2.1 34 = .ok (.iload_n 2, 1) := mj_d (q := (34, .iload_n 2, 1)) k_Mo_sum 19 rfl
theorem d_Mo_sum_35 : decode y_Mo_sum.2.2.1 35 = .ok (.invokevirtual 130, 3) := mj_d (q := (35, .invokevirtual 130, 3)) k_Mo_sum 20 rfl
theorem d_Mo_sum_38 : decode y_Mo_sum.2.2.1 38 = .ok (.iload 7, 2) := mj_d (q := (38, .iload 7, 2)) k_Mo_sum 21 rfl
theorem d_Mo_sum_40 : decode y_Mo_sum.2.2.1 40 = .ok (.ifCond .eq 72, 3) := mj_d (q := (40, .ifCond .eq 72, 3)) k_Mo_sum 22 rfl
theorem d_Mo_sum_43 : decode y_Mo_sum.2.2.1 43 = .ok (.aload_n 0, 1) := mj_d (q := (43, .aload_n 0, 1)) k_Mo_sum 23 rfl
theorem d_Mo_sum_44 : decode y_Mo_sum.2.2.1 44 = .ok (.iload 6, 2) := mj_d (q := (44, .iload 6, 2)) k_Mo_sum 24 rfl
theorem d_Mo_sum_46 : decode y_Mo_sum.2.2.1 46 = .ok (.iload_n 2, 1) := mj_d (q := (46, .iload_n 2, 1)) k_Mo_sum 25 rfl
theorem d_Mo_sum_47 : decode y_Mo_sum.2.2.1 47 = .ok (.iload_n 3, 1) := mj_d (q := (47, .iload_n 3, 1)) k_Mo_sum 26 rfl
theorem d_Mo_sum_48 : decode y_Mo_sum.2.2.1 48 = .ok (.invokevirtual 133, 3) := mj_d (q := (48, .invokevirtual 133, 3)) k_Mo_sum 27 rfl
theorem d_Mo_sum_51 : decode y_Mo_sum.2.2.1 51 = .ok (.ifCond .eq 49, 3) := mj_d (q := (51, .ifCond .eq 49, 3)) k_Mo_sum 28 rfl
theorem d_Mo_sum_54 : decode y_Mo_sum.2.2.1 54 = .ok (.aload_n 0, 1) := mj_d (q := (54, .aload_n 0, 1)) k_Mo_sum 29 rfl
theorem d_Mo_sum_55 : decode y_Mo_sum.2.2.1 55 = .ok (.iload 6, 2) := mj_d (q := (55, .iload 6, 2)) k_Mo_sum 30 rfl
theorem d_Mo_sum_57 : decode y_Mo_sum.2.2.1 57 = .ok (.iload_n 2, 1) := mj_d (q := (57, .iload_n 2, 1)) k_Mo_sum 31 rfl
theorem d_Mo_sum_58 : decode y_Mo_sum.2.2.1 58 = .ok (.iload_n 3, 1) := mj_d (q := (58, .iload_n 3, 1)) k_Mo_sum 32 rfl
theorem d_Mo_sum_59 : decode y_Mo_sum.2.2.1 59 = .ok (.invokevirtual 151, 3) := mj_d (q := (59, .invokevirtual 151, 3)) k_Mo_sum 33 rfl
theorem d_Mo_sum_62 : decode y_Mo_sum.2.2.1 62 = .ok (.lstore 8, 2) := mj_d (q := (62, .lstore 8, 2)) k_Mo_sum 34 rfl
theorem d_Mo_sum_64 : decode y_Mo_sum.2.2.1 64 = .ok (.lload 8, 2) := mj_d (q := (64, .lload 8, 2)) k_Mo_sum 35 rfl
theorem d_Mo_sum_66 : decode y_Mo_sum.2.2.1 66 = .ok (.lconst 0, 1) := mj_d (q := (66, .lconst 0, 1)) k_Mo_sum 36 rfl
theorem d_Mo_sum_67 : decode y_Mo_sum.2.2.1 67 = .ok (.lcmp, 1) := mj_d (q := (67, .lcmp, 1)) k_Mo_sum 37 rfl
theorem d_Mo_sum_68 : decode y_Mo_sum.2.2.1 68 = .ok (.ifCond .ge 7, 3) := mj_d (q := (68, .ifCond .ge 7, 3)) k_Mo_sum 38 rfl
theorem d_Mo_sum_71 : decode y_Mo_sum.2.2.1 71 = .ok (.ldc2_w 145, 3) := mj_d (q := (71, .ldc2_w 145, 3)) k_Mo_sum 39 rfl
theorem d_Mo_sum_74 : decode y_Mo_sum.2.2.1 74 = .ok (.lreturn, 1) := mj_d (q := (74, .lreturn, 1)) k_Mo_sum 40 rfl
theorem d_Mo_sum_75 : decode y_Mo_sum.2.2.1 75 = .ok (.lload 4, 2) := mj_d (q := (75, .lload 4, 2)) k_Mo_sum 41 rfl
theorem d_Mo_sum_77 : decode y_Mo_sum.2.2.1 77 = .ok (.lload 8, 2) := mj_d (q := (77, .lload 8, 2)) k_Mo_sum 42 rfl
theorem d_Mo_sum_79 : decode y_Mo_sum.2.2.1 79 = .ok (.ladd, 1) := mj_d (q := (79, .ladd, 1)) k_Mo_sum 43 rfl
theorem d_Mo_sum_80 : decode y_Mo_sum.2.2.1 80 = .ok (.ldc2_w 143, 3) := mj_d (q := (80, .ldc2_w 143, 3)) k_Mo_sum 44 rfl
theorem d_Mo_sum_83 : decode y_Mo_sum.2.2.1 83 = .ok (.lcmp, 1) := mj_d (q := (83, .lcmp, 1)) k_Mo_sum 45 rfl
theorem d_Mo_sum_84 : decode y_Mo_sum.2.2.1 84 = .ok (.ifCond .le 9, 3) := mj_d (q := (84, .ifCond .le 9, 3)) k_Mo_sum 46 rfl
theorem d_Mo_sum_87 : decode y_Mo_sum.2.2.1 87 = .ok (.ldc2_w 143, 3) := mj_d (q := (87, .ldc2_w 143, 3)) k_Mo_sum 47 rfl
theorem d_Mo_sum_90 : decode y_Mo_sum.2.2.1 90 = .ok (.goto 8, 3) := mj_d (q := (90, .goto 8, 3)) k_Mo_sum 48 rfl
theorem d_Mo_sum_93 : decode y_Mo_sum.2.2.1 93 = .ok (.lload 4, 2) := mj_d (q := (93, .lload 4, 2)) k_Mo_sum 49 rfl
theorem d_Mo_sum_95 : decode y_Mo_sum.2.2.1 95 = .ok (.lload 8, 2) := mj_d (q := (95, .lload 8, 2)) k_Mo_sum 50 rfl
theorem d_Mo_sum_97 : decode y_Mo_sum.2.2.1 97 = .ok (.ladd, 1) := mj_d (q := (97, .ladd, 1)) k_Mo_sum 51 rfl
theorem d_Mo_sum_98 : decode y_Mo_sum.2.2.1 98 = .ok (.lstore 4, 2) := mj_d (q := (98, .lstore 4, 2)) k_Mo_sum 52 rfl
theorem d_Mo_sum_100 : decode y_Mo_sum.2.2.1 100 = .ok (.aload_n 0, 1) := mj_d (q := (100, .aload_n 0, 1)) k_Mo_sum 53 rfl
theorem d_Mo_sum_101 : decode y_Mo_sum.2.2.1 101 = .ok (.iload 6, 2) := mj_d (q := (101, .iload 6, 2)) k_Mo_sum 54 rfl
theorem d_Mo_sum_103 : decode y_Mo_sum.2.2.1 103 = .ok (.iload_n 3, 1) := mj_d (q := (103, .iload_n 3, 1)) k_Mo_sum 55 rfl
theorem d_Mo_sum_104 : decode y_Mo_sum.2.2.1 104 = .ok (.invokevirtual 136, 3) := mj_d (q := (104, .invokevirtual 136, 3)) k_Mo_sum 56 rfl
theorem d_Mo_sum_107 : decode y_Mo_sum.2.2.1 107 = .ok (.istore 7, 2) := mj_d (q := (107, .istore 7, 2)) k_Mo_sum 57 rfl
theorem d_Mo_sum_109 : decode y_Mo_sum.2.2.1 109 = .ok (.goto (-71), 3) := mj_d (q := (109, .goto (-71), 3)) k_Mo_sum 58 rfl
theorem d_Mo_sum_112 : decode y_Mo_sum.2.2.1 112 = .ok (.iinc 6 1, 3) := mj_d (q := (112, .iinc 6 1, 3)) k_Mo_sum 59 rfl
theorem d_Mo_sum_115 : decode y_Mo_sum.2.2.1 115 = .ok (.goto (-109), 3) := mj_d (q := (115, .goto (-109), 3)) k_Mo_sum 60 rfl
theorem d_Mo_sum_118 : decode y_Mo_sum.2.2.1 118 = .ok (.lload 4, 2) := mj_d (q := (118, .lload 4, 2)) k_Mo_sum 61 rfl
theorem d_Mo_sum_120 : decode y_Mo_sum.2.2.1 120 = .ok (.lreturn, 1) := mj_d (q := (120, .lreturn, 1)) k_Mo_sum 62 rfl
theorem d_Mo_byWay_0 : decode y_Mo_byWay.2.2.1 0 = .ok (.lconst 1, 1) := mj_d (q := (0, .lconst 1, 1)) k_Mo_byWay 0 rfl
theorem d_Mo_byWay_1 : decode y_Mo_byWay.2.2.1 1 = .ok (.lstore 4, 2) := mj_d (q := (1, .lstore 4, 2)) k_Mo_byWay 1 rfl
theorem d_Mo_byWay_3 : decode y_Mo_byWay.2.2.1 3 = .ok (.iconst 0, 1) := mj_d (q := (3, .iconst 0, 1)) k_Mo_byWay 2 rfl
theorem d_Mo_byWay_4 : decode y_Mo_byWay.2.2.1 4 = .ok (.istore 6, 2) := mj_d (q := (4, .istore 6, 2)) k_Mo_byWay 3 rfl
theorem d_Mo_byWay_6 : decode y_Mo_byWay.2.2.1 6 = .ok (.iload 6, 2) := mj_d (q := (6, .iload 6, 2)) k_Mo_byWay 4 rfl
theorem d_Mo_byWay_8 : decode y_Mo_byWay.2.2.1 8 = .ok (.aload_n 0, 1) := mj_d (q := (8, .aload_n 0, 1)) k_Mo_byWay 5 rfl
theorem d_Mo_byWay_9 : decode y_Mo_byWay.2.2.1 9 = .ok (.getfield 13, 3) := mj_d (q := (9, .getfield 13, 3)) k_Mo_byWay 6 rfl
theorem d_Mo_byWay_12 : decode y_Mo_byWay.2.2.1 12 = .ok (.iload_n 1, 1) := mj_d (q := (12, .iload_n 1, 1)) k_Mo_byWay 7 rfl
theorem d_Mo_byWay_13 : decode y_Mo_byWay.2.2.1 13 = .ok (.iaload, 1) := mj_d (q := (13, .iaload, 1)) k_Mo_byWay 8 rfl
theorem d_Mo_byWay_14 : decode y_Mo_byWay.2.2.1 14 = .ok (.if_icmp .ge 107, 3) := mj_d (q := (14, .if_icmp .ge 107, 3)) k_Mo_byWay 9 rfl
theorem d_Mo_byWay_17 : decode y_Mo_byWay.2.2.1 17 = .ok (.aload_n 0, 1) := mj_d (q := (17, .aload_n 0, 1)) k_Mo_byWay 10 rfl
theorem d_Mo_byWay_18 : decode y_Mo_byWay.2.2.1 18 = .ok (.getfield 16, 3) := mj_d (q := (18, .getfield 16, 3)) k_Mo_byWay 11 rfl
theorem d_Mo_byWay_21 : decode y_Mo_byWay.2.2.1 21 = .ok (.iconst 3, 1) := mj_d (q := (21, .iconst 3, 1)) k_Mo_byWay 12 rfl
theorem d_Mo_byWay_22 : decode y_Mo_byWay.2.2.1 22 = .ok (.iload_n 1, 1) := mj_d (q := (22, .iload_n 1, 1)) k_Mo_byWay 13 rfl
theorem d_Mo_byWay_23 : decode y_Mo_byWay.2.2.1 23 = .ok (.imul, 1) := mj_d (q := (23, .imul, 1)) k_Mo_byWay 14 rfl
theorem d_Mo_byWay_24 : decode y_Mo_byWay.2.2.1 24 = .ok (.iload 6, 2) := mj_d (q := (24, .iload 6, 2)) k_Mo_byWay 15 rfl
theorem d_Mo_byWay_26 : decode y_Mo_byWay.2.2.1 26 = .ok (.iadd, 1) := mj_d (q := (26, .iadd, 1)) k_Mo_byWay 16 rfl
theorem d_Mo_byWay_27 : decode y_Mo_byWay.2.2.1 27 = .ok (.iaload, 1) := mj_d (q := (27, .iaload, 1)) k_Mo_byWay 17 rfl
theorem d_Mo_byWay_28 : decode y_Mo_byWay.2.2.1 28 = .ok (.istore 7, 2) := mj_d (q := (28, .istore 7, 2)) k_Mo_byWay 18 rfl
theorem d_Mo_byWay_30 : decode y_Mo_byWay.2.2.1 30 = .ok (.aload_n 0, 1) := mj_d (q := (30, .aload_n 0, 1)) k_Mo_byWay 19 rfl
theorem d_Mo_byWay_31 : decode y_Mo_byWay.2.2.1 31 = .ok (.iload_n 1, 1) := mj_d (q := (31, .iload_n 1, 1)) k_Mo_byWay 20 rfl
theorem d_Mo_byWay_32 : decode y_Mo_byWay.2.2.1 32 = .ok (.iload 6, 2) := mj_d (q := (32, .iload 6, 2)) k_Mo_byWay 21 rfl
theorem d_Mo_byWay_34 : decode y_Mo_byWay.2.2.1 34 = .ok (.iload_n 2, 1) := mj_d (q := (34, .iload_n 2, 1)) k_Mo_byWay 22 rfl
theorem d_Mo_byWay_35 : decode y_Mo_byWay.2.2.1 35 = .ok (.iload_n 3, 1) := mj_d (q := (35, .iload_n 3, 1)) k_Mo_byWay 23 rfl
theorem d_Mo_byWay_36 : decode y_Mo_byWay.2.2.1 36 = .ok (.invokevirtual 123, 3) := mj_d (q := (36, .invokevirtual 123, 3)) k_Mo_byWay 24 rfl
theorem d_Mo_byWay_39 : decode y_Mo_byWay.2.2.1 39 = .ok (.istore 8, 2) := mj_d (q := (39, .istore 8, 2)) k_Mo_byWay 25 rfl
theorem d_Mo_byWay_41 : decode y_Mo_byWay.2.2.1 41 = .ok (.aload_n 0, 1) := mj_d (q := (41, .aload_n 0, 1)) k_Mo_byWay 26 rfl
theorem d_Mo_byWay_42 : decode y_Mo_byWay.2.2.1 42 = .ok (.iload_n 1, 1) := mj_d (q := (42, .iload_n 1, 1)) k_Mo_byWay 27 rfl
theorem d_Mo_byWay_43 : decode y_Mo_byWay.2.2.1 43 = .ok (.iload 6, 2) := mj_d (q := (43, .iload 6, 2)) k_Mo_byWay 28 rfl
theorem d_Mo_byWay_45 : decode y_Mo_byWay.2.2.1 45 = .ok (.iconst 1, 1) := mj_d (q := (45, .iconst 1, 1)) k_Mo_byWay 29 rfl
theorem d_Mo_byWay_46 : decode y_Mo_byWay.2.2.1 46 = .ok (.iadd, 1) := mj_d (q := (46, .iadd, 1)) k_Mo_byWay 30 rfl
theorem d_Mo_byWay_47 : decode y_Mo_byWay.2.2.1 47 = .ok (.iload_n 2, 1) := mj_d (q := (47, .iload_n 2, 1)) k_Mo_byWay 31 rfl
theorem d_Mo_byWay_48 : decode y_Mo_byWay.2.2.1 48 = .ok (.iload_n 3, 1) := mj_d (q := (48, .iload_n 3, 1)) k_Mo_byWay 32 rfl
theorem d_Mo_byWay_49 : decode y_Mo_byWay.2.2.1 49 = .ok (.invokevirtual 123, 3) := mj_d (q := (49, .invokevirtual 123, 3)) k_Mo_byWay 33 rfl
theorem d_Mo_byWay_52 : decode y_Mo_byWay.2.2.1 52 = .ok (.istore 9, 2) := mj_d (q := (52, .istore 9, 2)) k_Mo_byWay 34 rfl
theorem d_Mo_byWay_54 : decode y_Mo_byWay.2.2.1 54 = .ok (.iload 7, 2) := mj_d (q := (54, .iload 7, 2)) k_Mo_byWay 35 rfl
theorem d_Mo_byWay_56 : decode y_Mo_byWay.2.2.1 56 = .ok (.bipush 8, 2) := mj_d (q := (56, .bipush 8, 2)) k_Mo_byWay 36 rfl
theorem d_Mo_byWay_58 : decode y_Mo_byWay.2.2.1 58 = .ok (.if_icmp .ge 24, 3) := mj_d (q := (58, .if_icmp .ge 24, 3)) k_Mo_byWay 37 rfl
theorem d_Mo_byWay_61 : decode y_Mo_byWay.2.2.1 61 = .ok (.aload_n 0, 1) := mj_d (q := (61, .aload_n 0, 1)) k_Mo_byWay 38 rfl
theorem d_Mo_byWay_62 : decode y_Mo_byWay.2.2.1 62 = .ok (.getfield 29, 3) := mj_d (q := (62, .getfield 29, 3)) k_Mo_byWay 39 rfl
theorem d_Mo_byWay_65 : decode y_Mo_byWay.2.2.1 65 = .ok (.iload 7, 2) := mj_d (q := (65, .iload 7, 2)) k_Mo_byWay 40 rfl
theorem d_Mo_byWay_67 : decode y_Mo_byWay.2.2.1 67 = .ok (.iload 8, 2) := mj_d (q := (67, .iload 8, 2)) k_Mo_byWay 41 rfl
theorem d_Mo_byWay_69 : decode y_Mo_byWay.2.2.1 69 = .ok (.iload 9, 2) := mj_d (q := (69, .iload 9, 2)) k_Mo_byWay 42 rfl
theorem d_Mo_byWay_71 : decode y_Mo_byWay.2.2.1 71 = .ok (.invokestatic 113, 3) := mj_d (q := (71, .invokestatic 113, 3)) k_Mo_byWay 43 rfl
theorem d_Mo_byWay_74 : decode y_Mo_byWay.2.2.1 74 = .ok (.baload, 1) := mj_d (q := (74, .baload, 1)) k_Mo_byWay 44 rfl
theorem d_Mo_byWay_75 : decode y_Mo_byWay.2.2.1 75 = .ok (.ifCond .ne 7, 3) := mj_d (q := (75, .ifCond .ne 7, 3)) k_Mo_byWay 45 rfl
theorem d_Mo_byWay_78 : decode y_Mo_byWay.2.2.1 78 = .ok (.ldc2_w 145, 3) := mj_d (q := (78, .ldc2_w 145, 3)) k_Mo_byWay 46 rfl
theorem d_Mo_byWay_81 : decode y_Mo_byWay.2.2.1 81 = .ok (.lreturn, 1) := mj_d (q := (81, .lreturn, 1)) k_Mo_byWay 47 rfl
theorem d_Mo_byWay_82 : decode y_Mo_byWay.2.2.1 82 = .ok (.iload 7, 2) := mj_d (q := (82, .iload 7, 2)) k_Mo_byWay 48 rfl
theorem d_Mo_byWay_84 : decode y_Mo_byWay.2.2.1 84 = .ok (.bipush 8, 2) := mj_d (q := (84, .bipush 8, 2)) k_Mo_byWay 49 rfl
theorem d_Mo_byWay_86 : decode y_Mo_byWay.2.2.1 86 = .ok (.if_icmp .ge 25, 3) := mj_d (q := (86, .if_icmp .ge 25, 3)) k_Mo_byWay 50 rfl
theorem d_Mo_byWay_89 : decode y_Mo_byWay.2.2.1 89 = .ok (.lload 4, 2) := mj_d (q := (89, .lload 4, 2)) k_Mo_byWay 51 rfl
theorem d_Mo_byWay_91 : decode y_Mo_byWay.2.2.1 91 = .ok (.aload_n 0, 1) := mj_d (q := (91, .aload_n 0, 1)) k_Mo_byWay 52 rfl
theorem d_Mo_byWay_92 : decode y_Mo_byWay.2.2.1 92 = .ok (.getfield 32, 3) := mj_d (q := (92, .getfield 32, 3)) k_Mo_byWay 53 rfl
theorem d_Mo_byWay_95 : decode y_Mo_byWay.2.2.1 95 = .ok (.iload 7, 2) := mj_d (q := (95, .iload 7, 2)) k_Mo_byWay 54 rfl
theorem d_Mo_byWay_97 : decode y_Mo_byWay.2.2.1 97 = .ok (.iload 8, 2) := mj_d (q := (97, .iload 8, 2)) k_Mo_byWay 55 rfl
theorem d_Mo_byWay_99 : decode y_Mo_byWay.2.2.1 99 = .ok (.iload 9, 2) := mj_d (q := (99, .iload 9, 2)) k_Mo_byWay 56 rfl
theorem d_Mo_byWay_101 : decode y_Mo_byWay.2.2.1 101 = .ok (.invokestatic 113, 3) := mj_d (q := (101, .invokestatic 113, 3)) k_Mo_byWay 57 rfl
theorem d_Mo_byWay_104 : decode y_Mo_byWay.2.2.1 104 = .ok (.laload, 1) := mj_d (q := (104, .laload, 1)) k_Mo_byWay 58 rfl
theorem d_Mo_byWay_105 : decode y_Mo_byWay.2.2.1 105 = .ok (.invokestatic 147, 3) := mj_d (q := (105, .invokestatic 147, 3)) k_Mo_byWay 59 rfl
theorem d_Mo_byWay_108 : decode y_Mo_byWay.2.2.1 108 = .ok (.goto 5, 3) := mj_d (q := (108, .goto 5, 3)) k_Mo_byWay 60 rfl
theorem d_Mo_byWay_111 : decode y_Mo_byWay.2.2.1 111 = .ok (.lload 4, 2) := mj_d (q := (111, .lload 4, 2)) k_Mo_byWay 61 rfl
theorem d_Mo_byWay_113 : decode y_Mo_byWay.2.2.1 113 = .ok (.lstore 4, 2) := mj_d (q := (113, .lstore 4, 2)) k_Mo_byWay 62 rfl
theorem d_Mo_byWay_115 : decode y_Mo_byWay.2.2.1 115 = .ok (.iinc 6 1, 3) := mj_d (q := (115, .iinc 6 1, 3)) k_Mo_byWay 63 rfl
theorem d_Mo_byWay_118 : decode y_Mo_byWay.2.2.1 118 = .ok (.goto (-112), 3) := mj_d (q := (118, .goto (-112), 3)) k_Mo_byWay 64 rfl
theorem d_Mo_byWay_121 : decode y_Mo_byWay.2.2.1 121 = .ok (.lload 4, 2) := mj_d (q := (121, .lload 4, 2)) k_Mo_byWay 65 rfl
theorem d_Mo_byWay_123 : decode y_Mo_byWay.2.2.1 123 = .ok (.lreturn, 1) := mj_d (q := (123, .lreturn, 1)) k_Mo_byWay 66 rfl
theorem d_Mo_times_0 : decode y_Mo_times.2.2.1 0 = .ok (.lload_n 0, 1) := mj_d (q := (0, .lload_n 0, 1)) k_Mo_times 0 rfl
theorem d_Mo_times_1 : decode y_Mo_times.2.2.1 1 = .ok (.lconst 0, 1) := mj_d (q := (1, .lconst 0, 1)) k_Mo_times 1 rfl
theorem d_Mo_times_2 : decode y_Mo_times.2.2.1 2 = .ok (.lcmp, 1) := mj_d (q := (2, .lcmp, 1)) k_Mo_times 2 rfl
theorem d_Mo_times_3 : decode y_Mo_times.2.2.1 3 = .ok (.ifCond .eq 9, 3) := mj_d (q := (3, .ifCond .eq 9, 3)) k_Mo_times 3 rfl
theorem d_Mo_times_6 : decode y_Mo_times.2.2.1 6 = .ok (.lload_n 2, 1) := mj_d (q := (6, .lload_n 2, 1)) k_Mo_times 4 rfl
theorem d_Mo_times_7 : decode y_Mo_times.2.2.1 7 = .ok (.lconst 0, 1) := mj_d (q := (7, .lconst 0, 1)) k_Mo_times 5 rfl
theorem d_Mo_times_8 : decode y_Mo_times.2.2.1 8 = .ok (.lcmp, 1) := mj_d (q := (8, .lcmp, 1)) k_Mo_times 6 rfl
theorem d_Mo_times_9 : decode y_Mo_times.2.2.1 9 = .ok (.ifCond .ne 5, 3) := mj_d (q := (9, .ifCond .ne 5, 3)) k_Mo_times 7 rfl
theorem d_Mo_times_12 : decode y_Mo_times.2.2.1 12 = .ok (.lconst 0, 1) := mj_d (q := (12, .lconst 0, 1)) k_Mo_times 8 rfl
theorem d_Mo_times_13 : decode y_Mo_times.2.2.1 13 = .ok (.lreturn, 1) := mj_d (q := (13, .lreturn, 1)) k_Mo_times 9 rfl
theorem d_Mo_times_14 : decode y_Mo_times.2.2.1 14 = .ok (.lload_n 2, 1) := mj_d (q := (14, .lload_n 2, 1)) k_Mo_times 10 rfl
theorem d_Mo_times_15 : decode y_Mo_times.2.2.1 15 = .ok (.ldc2_w 143, 3) := mj_d (q := (15, .ldc2_w 143, 3)) k_Mo_times 11 rfl
theorem d_Mo_times_18 : decode y_Mo_times.2.2.1 18 = .ok (.lload_n 0, 1) := mj_d (q := (18, .lload_n 0, 1)) k_Mo_times 12 rfl
theorem d_Mo_times_19 : decode y_Mo_times.2.2.1 19 = .ok (.ladd, 1) := mj_d (q := (19, .ladd, 1)) k_Mo_times 13 rfl
theorem d_Mo_times_20 : decode y_Mo_times.2.2.1 20 = .ok (.lconst 1, 1) := mj_d (q := (20, .lconst 1, 1)) k_Mo_times 14 rfl
theorem d_Mo_times_21 : decode y_Mo_times.2.2.1 21 = .ok (.lsub, 1) := mj_d (q := (21, .lsub, 1)) k_Mo_times 15 rfl
theorem d_Mo_times_22 : decode y_Mo_times.2.2.1 22 = .ok (.lload_n 0, 1) := mj_d (q := (22, .lload_n 0, 1)) k_Mo_times 16 rfl
theorem d_Mo_times_23 : decode y_Mo_times.2.2.1 23 = .ok (.ldiv, 1) := mj_d (q := (23, .ldiv, 1)) k_Mo_times 17 rfl
theorem d_Mo_times_24 : decode y_Mo_times.2.2.1 24 = .ok (.lcmp, 1) := mj_d (q := (24, .lcmp, 1)) k_Mo_times 18 rfl
theorem d_Mo_times_25 : decode y_Mo_times.2.2.1 25 = .ok (.ifCond .lt 9, 3) := mj_d (q := (25, .ifCond .lt 9, 3)) k_Mo_times 19 rfl
theorem d_Mo_times_28 : decode y_Mo_times.2.2.1 28 = .ok (.ldc2_w 143, 3) := mj_d (q := (28, .ldc2_w 143, 3)) k_Mo_times 20 rfl
theorem d_Mo_times_31 : decode y_Mo_times.2.2.1 31 = .ok (.goto 6, 3) := mj_d (q := (31, .goto 6, 3)) k_Mo_times 21 rfl
theorem d_Mo_times_34 : decode y_Mo_times.2.2.1 34 = .ok (.lload_n 0, 1) := mj_d (q := (34, .lload_n 0, 1)) k_Mo_times 22 rfl
theorem d_Mo_times_35 : decode y_Mo_times.2.2.1 35 = .ok (.lload_n 2, 1) := mj_d (q := (35, .lload_n 2, 1)) k_Mo_times 23 rfl
theorem d_Mo_times_36 : decode y_Mo_times.2.2.1 36 = .ok (.lmul, 1) := mj_d (q := (36, .lmul, 1)) k_Mo_times 24 rfl
theorem d_Mo_times_37 : decode y_Mo_times.2.2.1 37 = .ok (.lreturn, 1) := mj_d (q := (37, .lreturn, 1)) k_Mo_times 25 rfl
theorem d_Mo_trees_0 : decode y_Mo_trees.2.2.1 0 = .ok (.aload_n 0, 1) := mj_d (q := (0, .aload_n 0, 1)) k_Mo_trees 0 rfl
theorem d_Mo_trees_1 : decode y_Mo_trees.2.2.1 1 = .ok (.iconst 0, 1) := mj_d (q := (1, .iconst 0, 1)) k_Mo_trees 1 rfl
theorem d_Mo_trees_2 : decode y_Mo_trees.2.2.1 2 = .ok (.putfield 53, 3) := mj_d (q := (2, .putfield 53, 3)) k_Mo_trees 2 rfl
theorem d_Mo_trees_5 : decode y_Mo_trees.2.2.1 5 = .ok (.aload_n 0, 1) := mj_d (q := (5, .aload_n 0, 1)) k_Mo_trees 3 rfl
theorem d_Mo_trees_6 : decode y_Mo_trees.2.2.1 6 = .ok (.iload_n 1, 1) := mj_d (q := (6, .iload_n 1, 1)) k_Mo_trees 4 rfl
theorem d_Mo_trees_7 : decode y_Mo_trees.2.2.1 7 = .ok (.iload_n 2, 1) := mj_d (q := (7, .iload_n 2, 1)) k_Mo_trees 5 rfl
theorem d_Mo_trees_8 : decode y_Mo_trees.2.2.1 8 = .ok (.iload_n 3, 1) := mj_d (q := (8, .iload_n 3, 1)) k_Mo_trees 6 rfl
theorem d_Mo_trees_9 : decode y_Mo_trees.2.2.1 9 = .ok (.invokevirtual 161, 3) := mj_d (q := (9, .invokevirtual 161, 3)) k_Mo_trees 7 rfl
theorem d_Mo_trees_12 : decode y_Mo_trees.2.2.1 12 = .ok (.ifCond .ne 10, 3) := mj_d (q := (12, .ifCond .ne 10, 3)) k_Mo_trees 8 rfl
theorem d_Mo_trees_15 : decode y_Mo_trees.2.2.1 15 = .ok (.aload_n 0, 1) := mj_d (q := (15, .aload_n 0, 1)) k_Mo_trees 9 rfl
theorem d_Mo_trees_16 : decode y_Mo_trees.2.2.1 16 = .ok (.iconst 1, 1) := mj_d (q := (16, .iconst 1, 1)) k_Mo_trees 10 rfl
theorem d_Mo_trees_17 : decode y_Mo_trees.2.2.1 17 = .ok (.putfield 53, 3) := mj_d (q := (17, .putfield 53, 3)) k_Mo_trees 11 rfl
theorem d_Mo_trees_20 : decode y_Mo_trees.2.2.1 20 = .ok (.lconst 0, 1) := mj_d (q := (20, .lconst 0, 1)) k_Mo_trees 12 rfl
theorem d_Mo_trees_21 : decode y_Mo_trees.2.2.1 21 = .ok (.lreturn, 1) := mj_d (q := (21, .lreturn, 1)) k_Mo_trees 13 rfl
theorem d_Mo_trees_22 : decode y_Mo_trees.2.2.1 22 = .ok (.aload_n 0, 1) := mj_d (q := (22, .aload_n 0, 1)) k_Mo_trees 14 rfl
theorem d_Mo_trees_23 : decode y_Mo_trees.2.2.1 23 = .ok (.invokevirtual 164, 3) := mj_d (q := (23, .invokevirtual 164, 3)) k_Mo_trees 15 rfl
theorem d_Mo_trees_26 : decode y_Mo_trees.2.2.1 26 = .ok (.aload_n 0, 1) := mj_d (q := (26, .aload_n 0, 1)) k_Mo_trees 16 rfl
theorem d_Mo_trees_27 : decode y_Mo_trees.2.2.1 27 = .ok (.iload_n 1, 1) := mj_d (q := (27, .iload_n 1, 1)) k_Mo_trees 17 rfl
theorem d_Mo_trees_28 : decode y_Mo_trees.2.2.1 28 = .ok (.iload_n 2, 1) := mj_d (q := (28, .iload_n 2, 1)) k_Mo_trees 18 rfl
theorem d_Mo_trees_29 : decode y_Mo_trees.2.2.1 29 = .ok (.iload_n 3, 1) := mj_d (q := (29, .iload_n 3, 1)) k_Mo_trees 19 rfl
theorem d_Mo_trees_30 : decode y_Mo_trees.2.2.1 30 = .ok (.invokevirtual 167, 3) := mj_d (q := (30, .invokevirtual 167, 3)) k_Mo_trees 20 rfl
theorem d_Mo_trees_33 : decode y_Mo_trees.2.2.1 33 = .ok (.lreturn, 1) := mj_d (q := (33, .lreturn, 1)) k_Mo_trees 21 rfl
theorem d_Mo_treesOf_0 : decode y_Mo_treesOf.2.2.1 0 = .ok (.iload_n 1, 1) := mj_d (q := (0, .iload_n 1, 1)) k_Mo_treesOf 0 rfl
theorem d_Mo_treesOf_1 : decode y_Mo_treesOf.2.2.1 1 = .ok (.iload_n 2, 1) := mj_d (q := (1, .iload_n 2, 1)) k_Mo_treesOf 1 rfl
theorem d_Mo_treesOf_2 : decode y_Mo_treesOf.2.2.1 2 = .ok (.iload_n 3, 1) := mj_d (q := (2, .iload_n 3, 1)) k_Mo_treesOf 2 rfl
theorem d_Mo_treesOf_3 : decode y_Mo_treesOf.2.2.1 3 = .ok (.invokestatic 113, 3) := mj_d (q := (3, .invokestatic 113, 3)) k_Mo_treesOf 3 rfl
theorem d_Mo_treesOf_6 : decode y_Mo_treesOf.2.2.1 6 = .ok (.istore 4, 2) := mj_d (q := (6, .istore 4, 2)) k_Mo_treesOf 4 rfl
theorem d_Mo_treesOf_8 : decode y_Mo_treesOf.2.2.1 8 = .ok (.aload_n 0, 1) := mj_d (q := (8, .aload_n 0, 1)) k_Mo_treesOf 5 rfl
theorem d_Mo_treesOf_9 : decode y_Mo_treesOf.2.2.1 9 = .ok (.getfield 29, 3) := mj_d (q := (9, .getfield 29, 3)) k_Mo_treesOf 6 rfl
theorem d_Mo_treesOf_12 : decode y_Mo_treesOf.2.2.1 12 = .ok (.iload 4, 2) := mj_d (q := (12, .iload 4, 2)) k_Mo_treesOf 7 rfl
theorem d_Mo_treesOf_14 : decode y_Mo_treesOf.2.2.1 14 = .ok (.baload, 1) := mj_d (q := (14, .baload, 1)) k_Mo_treesOf 8 rfl
theorem d_Mo_treesOf_15 : decode y_Mo_treesOf.2.2.1 15 = .ok (.ifCond .eq 13, 3) := mj_d (q := (15, .ifCond .eq 13, 3)) k_Mo_treesOf 9 rfl
theorem d_Mo_treesOf_18 : decode y_Mo_treesOf.2.2.1 18 = .ok (.aload_n 0, 1) := mj_d (q := (18, .aload_n 0, 1)) k_Mo_treesOf 10 rfl
theorem d_Mo_treesOf_19 : decode y_Mo_treesOf.2.2.1 19 = .ok (.getfield 32, 3) := mj_d (q := (19, .getfield 32, 3)) k_Mo_treesOf 11 rfl
theorem d_Mo_treesOf_22 : decode y_Mo_treesOf.2.2.1 22 = .ok (.iload 4, 2) := mj_d (q := (22, .iload 4, 2)) k_Mo_treesOf 12 rfl
theorem d_Mo_treesOf_24 : decode y_Mo_treesOf.2.2.1 24 = .ok (.laload, 1) := mj_d (q := (24, .laload, 1)) k_Mo_treesOf 13 rfl
theorem d_Mo_treesOf_25 : decode y_Mo_treesOf.2.2.1 25 = .ok (.goto 6, 3) := mj_d (q := (25, .goto 6, 3)) k_Mo_treesOf 14 rfl
theorem d_Mo_treesOf_28 : decode y_Mo_treesOf.2.2.1 28 = .ok (.ldc2_w 145, 3) := mj_d (q := (28, .ldc2_w 145, 3)) k_Mo_treesOf 15 rfl
theorem d_Mo_treesOf_31 : decode y_Mo_treesOf.2.2.1 31 = .ok (.lreturn, 1) := mj_d (q := (31, .lreturn, 1)) k_Mo_treesOf 16 rfl
theorem d_Mo_nodes_0 : decode y_Mo_nodes.2.2.1 0 = .ok (.aload_n 0, 1) := mj_d (q := (0, .aload_n 0, 1)) k_Mo_nodes 0 rfl
theorem d_Mo_nodes_1 : decode y_Mo_nodes.2.2.1 1 = .ok (.iconst 0, 1) := mj_d (q := (1, .iconst 0, 1)) k_Mo_nodes 1 rfl
theorem d_Mo_nodes_2 : decode y_Mo_nodes.2.2.1 2 = .ok (.putfield 53, 3) := mj_d (q := (2, .putfield 53, 3)) k_Mo_nodes 2 rfl
theorem d_Mo_nodes_5 : decode y_Mo_nodes.2.2.1 5 = .ok (.aload_n 0, 1) := mj_d (q := (5, .aload_n 0, 1)) k_Mo_nodes 3 rfl
theorem d_Mo_nodes_6 : decode y_Mo_nodes.2.2.1 6 = .ok (.invokevirtual 164, 3) := mj_d (q := (6, .invokevirtual 164, 3)) k_Mo_nodes 4 rfl
theorem d_Mo_nodes_9 : decode y_Mo_nodes.2.2.1 9 = .ok (.aload_n 0, 1) := mj_d (q := (9, .aload_n 0, 1)) k_Mo_nodes 5 rfl
theorem d_Mo_nodes_10 : decode y_Mo_nodes.2.2.1 10 = .ok (.getfield 26, 3) := mj_d (q := (10, .getfield 26, 3)) k_Mo_nodes 6 rfl
theorem d_Mo_nodes_13 : decode y_Mo_nodes.2.2.1 13 = .ok (.iconst 0, 1) := mj_d (q := (13, .iconst 0, 1)) k_Mo_nodes 7 rfl
theorem d_Mo_nodes_14 : decode y_Mo_nodes.2.2.1 14 = .ok (.iconst 0, 1) := mj_d (q := (14, .iconst 0, 1)) k_Mo_nodes 8 rfl
theorem d_Mo_nodes_15 : decode y_Mo_nodes.2.2.1 15 = .ok (.aload_n 0, 1) := mj_d (q := (15, .aload_n 0, 1)) k_Mo_nodes 9 rfl
theorem d_Mo_nodes_16 : decode y_Mo_nodes.2.2.1 16 = .ok (.getfield 97, 3) := mj_d (q := (16, .getfield 97, 3)) k_Mo_nodes 10 rfl
theorem d_Mo_nodes_19 : decode y_Mo_nodes.2.2.1 19 = .ok (.invokestatic 113, 3) := mj_d (q := (19, .invokestatic 113, 3)) k_Mo_nodes 11 rfl
theorem d_Mo_nodes_22 : decode y_Mo_nodes.2.2.1 22 = .ok (.baload, 1) := mj_d (q := (22, .baload, 1)) k_Mo_nodes 12 rfl
theorem d_Mo_nodes_23 : decode y_Mo_nodes.2.2.1 23 = .ok (.ifCond .ne 5, 3) := mj_d (q := (23, .ifCond .ne 5, 3)) k_Mo_nodes 13 rfl
theorem d_Mo_nodes_26 : decode y_Mo_nodes.2.2.1 26 = .ok (.iconst 0, 1) := mj_d (q := (26, .iconst 0, 1)) k_Mo_nodes 14 rfl
theorem d_Mo_nodes_27 : decode y_Mo_nodes.2.2.1 27 = .ok (.ireturn, 1) := mj_d (q := (27, .ireturn, 1)) k_Mo_nodes 15 rfl
theorem d_Mo_nodes_28 : decode y_Mo_nodes.2.2.1 28 = .ok (.iconst 0, 1) := mj_d (q := (28, .iconst 0, 1)) k_Mo_nodes 16 rfl
theorem d_Mo_nodes_29 : decode y_Mo_nodes.2.2.1 29 = .ok (.istore_n 1, 1) := mj_d (q := (29, .istore_n 1, 1)) k_Mo_nodes 17 rfl
theorem d_Mo_nodes_30 : decode y_Mo_nodes.2.2.1 30 = .ok (.iload_n 1, 1) := mj_d (q := (30, .iload_n 1, 1)) k_Mo_nodes 18 rfl
theorem d_Mo_nodes_31 : decode y_Mo_nodes.2.2.1 31 = .ok (.sipush 845, 3) := mj_d (q := (31, .sipush 845, 3)) k_Mo_nodes 19 rfl
theorem d_Mo_nodes_34 : decode y_Mo_nodes.2.2.1 34 = .ok (.if_icmp .ge 16, 3) := mj_d (q := (34, .if_icmp .ge 16, 3)) k_Mo_nodes 20 rfl
theorem d_Mo_nodes_37 : decode y_Mo_nodes.2.2.1 37 = .ok (.aload_n 0, 1) := mj_d (q := (37, .aload_n 0, 1)) k_Mo_nodes 21 rfl
theorem d_Mo_nodes_38 : decode y_Mo_nodes.2.2.1 38 = .ok (.getfield 36, 3) := mj_d (q := (38, .getfield 36, 3)) k_Mo_nodes 22 rfl
theorem d_Mo_nodes_41 : decode y_Mo_nodes.2.2.1 41 = .ok (.iload_n 1, 1) := mj_d (q := (41, .iload_n 1, 1)) k_Mo_nodes 23 rfl
theorem d_Mo_nodes_42 : decode y_Mo_nodes.2.2.1 42 = .ok (.iconst 0, 1) := mj_d (q := (42, .iconst 0, 1)) k_Mo_nodes 24 rfl
theorem d_Mo_nodes_43 : decode y_Mo_nodes.2.2.1 43 = .ok (.bastore, 1) := mj_d (q := (43, .bastore, 1)) k_Mo_nodes 25 rfl
theorem d_Mo_nodes_44 : decode y_Mo_nodes.2.2.1 44 = .ok (.iinc 1 1, 3) := mj_d (q := (44, .iinc 1 1, 3)) k_Mo_nodes 26 rfl
theorem d_Mo_nodes_47 : decode y_Mo_nodes.2.2.1 47 = .ok (.goto (-17), 3) := mj_d (q := (47, .goto (-17), 3)) k_Mo_nodes 27 rfl
theorem d_Mo_nodes_50 : decode y_Mo_nodes.2.2.1 50 = .ok (.aload_n 0, 1) := mj_d (q := (50, .aload_n 0, 1)) k_Mo_nodes 28 rfl
theorem d_Mo_nodes_51 : decode y_Mo_nodes.2.2.1 51 = .ok (.getfield 36, 3) := mj_d (q := (51, .getfield 36, 3)) k_Mo_nodes 29 rfl
theorem d_Mo_nodes_54 : decode y_Mo_nodes.2.2.1 54 = .ok (.iconst 0, 1) := mj_d (q := (54, .iconst 0, 1)) k_Mo_nodes 30 rfl
theorem d_Mo_nodes_55 : decode y_Mo_nodes.2.2.1 55 = .ok (.iconst 0, 1) := mj_d (q := (55, .iconst 0, 1)) k_Mo_nodes 31 rfl
theorem d_Mo_nodes_56 : decode y_Mo_nodes.2.2.1 56 = .ok (.aload_n 0, 1) := mj_d (q := (56, .aload_n 0, 1)) k_Mo_nodes 32 rfl
theorem d_Mo_nodes_57 : decode y_Mo_nodes.2.2.1 57 = .ok (.getfield 97, 3) := mj_d (q := (57, .getfield 97, 3)) k_Mo_nodes 33 rfl
theorem d_Mo_nodes_60 : decode y_Mo_nodes.2.2.1 60 = .ok (.invokestatic 113, 3) := mj_d (q := (60, .invokestatic 113, 3)) k_Mo_nodes 34 rfl
theorem d_Mo_nodes_63 : decode y_Mo_nodes.2.2.1 63 = .ok (.iconst 1, 1) := mj_d (q := (63, .iconst 1, 1)) k_Mo_nodes 35 rfl
theorem d_Mo_nodes_64 : decode y_Mo_nodes.2.2.1 64 = .ok (.bastore, 1) := mj_d (q := (64, .bastore, 1)) k_Mo_nodes 36 rfl
theorem d_Mo_nodes_65 : decode y_Mo_nodes.2.2.1 65 = .ok (.iconst 1, 1) := mj_d (q := (65, .iconst 1, 1)) k_Mo_nodes 37 rfl
theorem d_Mo_nodes_66 : decode y_Mo_nodes.2.2.1 66 = .ok (.istore_n 1, 1) := mj_d (q := (66, .istore_n 1, 1)) k_Mo_nodes 38 rfl
theorem d_Mo_nodes_67 : decode y_Mo_nodes.2.2.1 67 = .ok (.iload_n 1, 1) := mj_d (q := (67, .iload_n 1, 1)) k_Mo_nodes 39 rfl
theorem d_Mo_nodes_68 : decode y_Mo_nodes.2.2.1 68 = .ok (.ifCond .eq 76, 3) := mj_d (q := (68, .ifCond .eq 76, 3)) k_Mo_nodes 40 rfl
theorem d_Mo_nodes_71 : decode y_Mo_nodes.2.2.1 71 = .ok (.iconst 0, 1) := mj_d (q := (71, .iconst 0, 1)) k_Mo_nodes 41 rfl
theorem d_Mo_nodes_72 : decode y_Mo_nodes.2.2.1 72 = .ok (.istore_n 1, 1) := mj_d (q := (72, .istore_n 1, 1)) k_Mo_nodes 42 rfl
theorem d_Mo_nodes_73 : decode y_Mo_nodes.2.2.1 73 = .ok (.iconst 0, 1) := mj_d (q := (73, .iconst 0, 1)) k_Mo_nodes 43 rfl
theorem d_Mo_nodes_74 : decode y_Mo_nodes.2.2.1 74 = .ok (.istore_n 2, 1) := mj_d (q := (74, .istore_n 2, 1)) k_Mo_nodes 44 rfl
theorem d_Mo_nodes_75 : decode y_Mo_nodes.2.2.1 75 = .ok (.iload_n 2, 1) := mj_d (q := (75, .iload_n 2, 1)) k_Mo_nodes 45 rfl
theorem d_Mo_nodes_76 : decode y_Mo_nodes.2.2.1 76 = .ok (.sipush 845, 3) := mj_d (q := (76, .sipush 845, 3)) k_Mo_nodes 46 rfl
theorem d_Mo_nodes_79 : decode y_Mo_nodes.2.2.1 79 = .ok (.if_icmp .ge 62, 3) := mj_d (q := (79, .if_icmp .ge 62, 3)) k_Mo_nodes 47 rfl
theorem d_Mo_nodes_82 : decode y_Mo_nodes.2.2.1 82 = .ok (.aload_n 0, 1) := mj_d (q := (82, .aload_n 0, 1)) k_Mo_nodes 48 rfl
theorem d_Mo_nodes_83 : decode y_Mo_nodes.2.2.1 83 = .ok (.getfield 36, 3) := mj_d (q := (83, .getfield 36, 3)) k_Mo_nodes 49 rfl
theorem d_Mo_nodes_86 : decode y_Mo_nodes.2.2.1 86 = .ok (.iload_n 2, 1) := mj_d (q := (86, .iload_n 2, 1)) k_Mo_nodes 50 rfl
theorem d_Mo_nodes_87 : decode y_Mo_nodes.2.2.1 87 = .ok (.baload, 1) := mj_d (q := (87, .baload, 1)) k_Mo_nodes 51 rfl
theorem d_Mo_nodes_88 : decode y_Mo_nodes.2.2.1 88 = .ok (.ifCond .eq 31, 3) := mj_d (q := (88, .ifCond .eq 31, 3)) k_Mo_nodes 52 rfl
theorem d_Mo_nodes_91 : decode y_Mo_nodes.2.2.1 91 = .ok (.aload_n 0, 1) := mj_d (q := (91, .aload_n 0, 1)) k_Mo_nodes 53 rfl
theorem d_Mo_nodes_92 : decode y_Mo_nodes.2.2.1 92 = .ok (.iload_n 2, 1) := mj_d (q := (92, .iload_n 2, 1)) k_Mo_nodes 54 rfl
theorem d_Mo_nodes_93 : decode y_Mo_nodes.2.2.1 93 = .ok (.sipush 169, 3) := mj_d (q := (93, .sipush 169, 3)) k_Mo_nodes 55 rfl
theorem d_Mo_nodes_96 : decode y_Mo_nodes.2.2.1 96 = .ok (.idiv, 1) := mj_d (q := (96, .idiv, 1)) k_Mo_nodes 56 rfl
theorem d_Mo_nodes_97 : decode y_Mo_nodes.2.2.1 97 = .ok (.iload_n 2, 1) := mj_d (q := (97, .iload_n 2, 1)) k_Mo_nodes 57 rfl
theorem d_Mo_nodes_98 : decode y_Mo_nodes.2.2.1 98 = .ok (.sipush 169, 3) := mj_d (q := (98, .sipush 169, 3)) k_Mo_nodes 58 rfl
theorem d_Mo_nodes_101 : decode y_Mo_nodes.2.2.1 101 = .ok (.irem, 1) := mj_d (q := (101, .irem, 1)) k_Mo_nodes 59 rfl
theorem d_Mo_nodes_102 : decode y_Mo_nodes.2.2.1 102 = .ok (.bipush 13, 2) := mj_d (q := (102, .bipush 13, 2)) k_Mo_nodes 60 rfl
theorem d_Mo_nodes_104 : decode y_Mo_nodes.2.2.1 104 = .ok (.idiv, 1) := mj_d (q := (104, .idiv, 1)) k_Mo_nodes 61 rfl
theorem d_Mo_nodes_105 : decode y_Mo_nodes.2.2.1 105 = .ok (.iload_n 2, 1) := mj_d (q := (105, .iload_n 2, 1)) k_Mo_nodes 62 rfl
theorem d_Mo_nodes_106 : decode y_Mo_nodes.2.2.1 106 = .ok (.bipush 13, 2) := mj_d (q := (106, .bipush 13, 2)) k_Mo_nodes 63 rfl
theorem d_Mo_nodes_108 : decode y_Mo_nodes.2.2.1 108 = .ok (.irem, 1) := mj_d (q := (108, .irem, 1)) k_Mo_nodes 64 rfl
theorem d_Mo_nodes_109 : decode y_Mo_nodes.2.2.1 109 = .ok (.invokevirtual 173, 3) := mj_d (q := (109, .invokevirtual 173, 3)) k_Mo_nodes 65 rfl
theorem d_Mo_nodes_112 : decode y_Mo_nodes.2.2.1 112 = .ok (.ifCond .eq 7, 3) := mj_d (q := (112, .ifCond .eq 7, 3)) k_Mo_nodes 66 rfl
theorem d_Mo_nodes_115 : decode y_Mo_nodes.2.2.1 115 = .ok (.iconst 1, 1) := mj_d (q := (115, .iconst 1, 1)) k_Mo_nodes 67 rfl
theorem d_Mo_nodes_116 : decode y_Mo_nodes.2.2.1 116 = .ok (.goto 4, 3) := mj_d (q := (116, .goto 4, 3)) k_Mo_nodes 68 rfl
theorem d_Mo_nodes_119 : decode y_Mo_nodes.2.2.1 119 = .ok (.iconst 0, 1) := mj_d (q := (119, .iconst 0, 1)) k_Mo_nodes 69 rfl
theorem d_Mo_nodes_120 : decode y_Mo_nodes.2.2.1 120 = .ok (.istore_n 3, 1) := mj_d (q := (120, .istore_n 3, 1)) k_Mo_nodes 70 rfl
theorem d_Mo_nodes_121 : decode y_Mo_nodes.2.2.1 121 = .ok (.iload_n 1, 1) := mj_d (q := (121, .iload_n 1, 1)) k_Mo_nodes 71 rfl
theorem d_Mo_nodes_122 : decode y_Mo_nodes.2.2.1 122 = .ok (.ifCond .ne 7, 3) := mj_d (q := (122, .ifCond .ne 7, 3)) k_Mo_nodes 72 rfl
theorem d_Mo_nodes_125 : decode y_Mo_nodes.2.2.1 125 = .ok (.iload_n 3, 1) := mj_d (q := (125, .iload_n 3, 1)) k_Mo_nodes 73 rfl
theorem d_Mo_nodes_126 : decode y_Mo_nodes.2.2.1 126 = .ok (.ifCond .eq 7, 3) := mj_d (q := (126, .ifCond .eq 7, 3)) k_Mo_nodes 74 rfl
theorem d_Mo_nodes_129 : decode y_Mo_nodes.2.2.1 129 = .ok (.iconst 1, 1) := mj_d (q := (129, .iconst 1, 1)) k_Mo_nodes 75 rfl
theorem d_Mo_nodes_130 : decode y_Mo_nodes.2.2.1 130 = .ok (.goto 4, 3) := mj_d (q := (130, .goto 4, 3)) k_Mo_nodes 76 rfl
theorem d_Mo_nodes_133 : decode y_Mo_nodes.2.2.1 133 = .ok (.iconst 0, 1) := mj_d (q := (133, .iconst 0, 1)) k_Mo_nodes 77 rfl
theorem d_Mo_nodes_134 : decode y_Mo_nodes.2.2.1 134 = .ok (.istore_n 1, 1) := mj_d (q := (134, .istore_n 1, 1)) k_Mo_nodes 78 rfl
theorem d_Mo_nodes_135 : decode y_Mo_nodes.2.2.1 135 = .ok (.iinc 2 1, 3) := mj_d (q := (135, .iinc 2 1, 3)) k_Mo_nodes 79 rfl
theorem d_Mo_nodes_138 : decode y_Mo_nodes.2.2.1 138 = .ok (.goto (-63), 3) := mj_d (q := (138, .goto (-63), 3)) k_Mo_nodes 80 rfl
theorem d_Mo_nodes_141 : decode y_Mo_nodes.2.2.1 141 = .ok (.goto (-74), 3) := mj_d (q := (141, .goto (-74), 3)) k_Mo_nodes 81 rfl
theorem d_Mo_nodes_144 : decode y_Mo_nodes.2.2.1 144 = .ok (.iconst 0, 1) := mj_d (q := (144, .iconst 0, 1)) k_Mo_nodes 82 rfl
theorem d_Mo_nodes_145 : decode y_Mo_nodes.2.2.1 145 = .ok (.istore_n 2, 1) := mj_d (q := (145, .istore_n 2, 1)) k_Mo_nodes 83 rfl
theorem d_Mo_nodes_146 : decode y_Mo_nodes.2.2.1 146 = .ok (.iconst 0, 1) := mj_d (q := (146, .iconst 0, 1)) k_Mo_nodes 84 rfl
theorem d_Mo_nodes_147 : decode y_Mo_nodes.2.2.1 147 = .ok (.istore_n 3, 1) := mj_d (q := (147, .istore_n 3, 1)) k_Mo_nodes 85 rfl
theorem d_Mo_nodes_148 : decode y_Mo_nodes.2.2.1 148 = .ok (.iload_n 3, 1) := mj_d (q := (148, .iload_n 3, 1)) k_Mo_nodes 86 rfl
theorem d_Mo_nodes_149 : decode y_Mo_nodes.2.2.1 149 = .ok (.sipush 845, 3) := mj_d (q := (149, .sipush 845, 3)) k_Mo_nodes 87 rfl
theorem d_Mo_nodes_152 : decode y_Mo_nodes.2.2.1 152 = .ok (.if_icmp .ge 26, 3) := mj_d (q := (152, .if_icmp .ge 26, 3)) k_Mo_nodes 88 rfl
theorem d_Mo_nodes_155 : decode y_Mo_nodes.2.2.1 155 = .ok (.iload_n 2, 1) := mj_d (q := (155, .iload_n 2, 1)) k_Mo_nodes 89 rfl
theorem d_Mo_nodes_156 : decode y_Mo_nodes.2.2.1 156 = .ok (.aload_n 0, 1) := mj_d (q := (156, .aload_n 0, 1)) k_Mo_nodes 90 rfl
theorem d_Mo_nodes_157 : decode y_Mo_nodes.2.2.1 157 = .ok (.getfield 36, 3) := mj_d (q := (157, .getfield 36, 3)) k_Mo_nodes 91 rfl
theorem d_Mo_nodes_160 : decode y_Mo_nodes.2.2.1 160 = .ok (.iload_n 3, 1) := mj_d (q := (160, .iload_n 3, 1)) k_Mo_nodes 92 rfl
theorem d_Mo_nodes_161 : decode y_Mo_nodes.2.2.1 161 = .ok (.baload, 1) := mj_d (q := (161, .baload, 1)) k_Mo_nodes 93 rfl
theorem d_Mo_nodes_162 : decode y_Mo_nodes.2.2.1 162 = .ok (.ifCond .eq 7, 3) := mj_d (q := (162, .ifCond .eq 7, 3)) k_Mo_nodes 94 rfl
theorem d_Mo_nodes_165 : decode y_Mo_nodes.2.2.1 165 = .ok (.iconst 1, 1) := mj_d (q := (165, .iconst 1, 1)) k_Mo_nodes 95 rfl
theorem d_Mo_nodes_166 : decode y_Mo_nodes.2.2.1 166 = .ok (.goto 4, 3) := mj_d (q := (166, .goto 4, 3)) k_Mo_nodes 96 rfl
theorem d_Mo_nodes_169 : decode y_Mo_nodes.2.2.1 169 = .ok (.iconst 0, 1) := mj_d (q := (169, .iconst 0, 1)) k_Mo_nodes 97 rfl
theorem d_Mo_nodes_170 : decode y_Mo_nodes.2.2.1 170 = .ok (.iadd, 1) := mj_d (q := (170, .iadd, 1)) k_Mo_nodes 98 rfl
theorem d_Mo_nodes_171 : decode y_Mo_nodes.2.2.1 171 = .ok (.istore_n 2, 1) := mj_d (q := (171, .istore_n 2, 1)) k_Mo_nodes 99 rfl
theorem d_Mo_nodes_172 : decode y_Mo_nodes.2.2.1 172 = .ok (.iinc 3 1, 3) := mj_d (q := (172, .iinc 3 1, 3)) k_Mo_nodes 100 rfl
theorem d_Mo_nodes_175 : decode y_Mo_nodes.2.2.1 175 = .ok (.goto (-27), 3) := mj_d (q := (175, .goto (-27), 3)) k_Mo_nodes 101 rfl
theorem d_Mo_nodes_178 : decode y_Mo_nodes.2.2.1 178 = .ok (.iload_n 2, 1) := mj_d (q := (178, .iload_n 2, 1)) k_Mo_nodes 102 rfl
theorem d_Mo_nodes_179 : decode y_Mo_nodes.2.2.1 179 = .ok (.ireturn, 1) := mj_d (q := (179, .ireturn, 1)) k_Mo_nodes 103 rfl
theorem d_Mo_meetAll_0 : decode y_Mo_meetAll.2.2.1 0 = .ok (.iconst 0, 1) := mj_d (q := (0, .iconst 0, 1)) k_Mo_meetAll 0 rfl
theorem d_Mo_meetAll_1 : decode y_Mo_meetAll.2.2.1 1 = .ok (.istore 4, 2) := mj_d (q := (1, .istore 4, 2)) k_Mo_meetAll 1 rfl
theorem d_Mo_meetAll_3 : decode y_Mo_meetAll.2.2.1 3 = .ok (.iconst 0, 1) := mj_d (q := (3, .iconst 0, 1)) k_Mo_meetAll 2 rfl
theorem d_Mo_meetAll_4 : decode y_Mo_meetAll.2.2.1 4 = .ok (.istore 5, 2) := mj_d (q := (4, .istore 5, 2)) k_Mo_meetAll 3 rfl
theorem d_Mo_meetAll_6 : decode y_Mo_meetAll.2.2.1 6 = .ok (.iload 5, 2) := mj_d (q := (6, .iload 5, 2)) k_Mo_meetAll 4 rfl
theorem d_Mo_meetAll_8 : decode y_Mo_meetAll.2.2.1 8 = .ok (.aload_n 0, 1) := mj_d (q := (8, .aload_n 0, 1)) k_Mo_meetAll 5 rfl
theorem d_Mo_meetAll_9 : decode y_Mo_meetAll.2.2.1 9 = .ok (.getfield 73, 3) := mj_d (q := (9, .getfield 73, 3)) k_Mo_meetAll 6 rfl
theorem d_Mo_meetAll_12 : decode y_Mo_meetAll.2.2.1 12 = .ok (.if_icmp .ge 77, 3) := mj_d (q := (12, .if_icmp .ge 77, 3)) k_Mo_meetAll 7 rfl
theorem d_Mo_meetAll_15 : decode y_Mo_meetAll.2.2.1 15 = .ok (.aload_n 0, 1) := mj_d (q := (15, .aload_n 0, 1)) k_Mo_meetAll 8 rfl
theorem d_Mo_meetAll_16 : decode y_Mo_meetAll.2.2.1 16 = .ok (.getfield 7, 3) := mj_d (q := (16, .getfield 7, 3)) k_Mo_meetAll 9 rfl
theorem d_Mo_meetAll_19 : decode y_Mo_meetAll.2.2.1 19 = .ok (.iload 5, 2) := mj_d (q := (19, .iload 5, 2)) k_Mo_meetAll 10 rfl
theorem d_Mo_meetAll_21 : decode y_Mo_meetAll.2.2.1 21 = .ok (.iaload, 1) := mj_d (q := (21, .iaload, 1)) k_Mo_meetAll 11 rfl
theorem d_Mo_meetAll_22 : decode y_Mo_meetAll.2.2.1 22 = .ok (.iload_n 1, 1) := mj_d (q := (22, .iload_n 1, 1)) k_Mo_meetAll 12 rfl
theorem d_Mo_meetAll_23 : decode y_Mo_meetAll.2.2.1 23 = .ok (.if_icmp .ne 7, 3) := mj_d (q := (23, .if_icmp .ne 7, 3)) k_Mo_meetAll 13 rfl
theorem d_Mo_meetAll_26 : decode y_Mo_meetAll.2.2.1 26 = .ok (.iconst 1, 1) := mj_d (q := (26, .iconst 1, 1)) k_Mo_meetAll 14 rfl
theorem d_Mo_meetAll_27 : decode y_Mo_meetAll.2.2.1 27 = .ok (.goto 4, 3) := mj_d (q := (27, .goto 4, 3)) k_Mo_meetAll 15 rfl
theorem d_Mo_meetAll_30 : decode y_Mo_meetAll.2.2.1 30 = .ok (.iconst 0, 1) := mj_d (q := (30, .iconst 0, 1)) k_Mo_meetAll 16 rfl
theorem d_Mo_meetAll_31 : decode y_Mo_meetAll.2.2.1 31 = .ok (.istore 6, 2) := mj_d (q := (31, .istore 6, 2)) k_Mo_meetAll 17 rfl
theorem d_Mo_meetAll_33 : decode y_Mo_meetAll.2.2.1 33 = .ok (.aload_n 0, 1) := mj_d (q := (33, .aload_n 0, 1)) k_Mo_meetAll 18 rfl
theorem d_Mo_meetAll_34 : decode y_Mo_meetAll.2.2.1 34 = .ok (.iload_n 2, 1) := mj_d (q := (34, .iload_n 2, 1)) k_Mo_meetAll 19 rfl
theorem d_Mo_meetAll_35 : decode y_Mo_meetAll.2.2.1 35 = .ok (.invokevirtual 130, 3) := mj_d (q := (35, .invokevirtual 130, 3)) k_Mo_meetAll 20 rfl
theorem d_Mo_meetAll_38 : decode y_Mo_meetAll.2.2.1 38 = .ok (.iload 6, 2) := mj_d (q := (38, .iload 6, 2)) k_Mo_meetAll 21 rfl
theorem d_Mo_meetAll_40 : decode y_Mo_meetAll.2.2.1 40 = .ok (.ifCond .eq 43, 3) := mj_d (q := (40, .ifCond .eq 43, 3)) k_Mo_meetAll 22 rfl
theorem d_Mo_meetAll_43 : decode y_Mo_meetAll.2.2.1 43 = .ok (.iload 4, 2) := mj_d (q := (43, .iload 4, 2)) k_Mo_meetAll 23 rfl
theorem d_Mo_meetAll_45 : decode y_Mo_meetAll.2.2.1 45 = .ok (.aload_n 0, 1) := mj_d (q := (45, .aload_n 0, 1)) k_Mo_meetAll 24 rfl
theorem d_Mo_meetAll_46 : decode y_Mo_meetAll.2.2.1 46 = .ok (.iload 5, 2) := mj_d (q := (46, .iload 5, 2)) k_Mo_meetAll 25 rfl
theorem d_Mo_meetAll_48 : decode y_Mo_meetAll.2.2.1 48 = .ok (.iload_n 2, 1) := mj_d (q := (48, .iload_n 2, 1)) k_Mo_meetAll 26 rfl
theorem d_Mo_meetAll_49 : decode y_Mo_meetAll.2.2.1 49 = .ok (.iload_n 3, 1) := mj_d (q := (49, .iload_n 3, 1)) k_Mo_meetAll 27 rfl
theorem d_Mo_meetAll_50 : decode y_Mo_meetAll.2.2.1 50 = .ok (.invokevirtual 133, 3) := mj_d (q := (50, .invokevirtual 133, 3)) k_Mo_meetAll 28 rfl
theorem d_Mo_meetAll_53 : decode y_Mo_meetAll.2.2.1 53 = .ok (.ifCond .eq 14, 3) := mj_d (q := (53, .ifCond .eq 14, 3)) k_Mo_meetAll 29 rfl
theorem d_Mo_meetAll_56 : decode y_Mo_meetAll.2.2.1 56 = .ok (.aload_n 0, 1) := mj_d (q := (56, .aload_n 0, 1)) k_Mo_meetAll 30 rfl
theorem d_Mo_meetAll_57 : decode y_Mo_meetAll.2.2.1 57 = .ok (.iload 5, 2) := mj_d (q := (57, .iload 5, 2)) k_Mo_meetAll 31 rfl
theorem d_Mo_meetAll_59 : decode y_Mo_meetAll.2.2.1 59 = .ok (.iload_n 2, 1) := mj_d (q := (59, .iload_n 2, 1)) k_Mo_meetAll 32 rfl
theorem d_Mo_meetAll_60 : decode y_Mo_meetAll.2.2.1 60 = .ok (.iload_n 3, 1) := mj_d (q := (60, .iload_n 3, 1)) k_Mo_meetAll 33 rfl
theorem d_Mo_meetAll_61 : decode y_Mo_meetAll.2.2.1 61 = .ok (.invokevirtual 170, 3) := mj_d (q := (61, .invokevirtual 170, 3)) k_Mo_meetAll 34 rfl
theorem d_Mo_meetAll_64 : decode y_Mo_meetAll.2.2.1 64 = .ok (.goto 4, 3) := mj_d (q := (64, .goto 4, 3)) k_Mo_meetAll 35 rfl
theorem d_Mo_meetAll_67 : decode y_Mo_meetAll.2.2.1 67 = .ok (.iconst 0, 1) := mj_d (q := (67, .iconst 0, 1)) k_Mo_meetAll 36 rfl
theorem d_Mo_meetAll_68 : decode y_Mo_meetAll.2.2.1 68 = .ok (.iadd, 1) := mj_d (q := (68, .iadd, 1)) k_Mo_meetAll 37 rfl
theorem d_Mo_meetAll_69 : decode y_Mo_meetAll.2.2.1 69 = .ok (.istore 4, 2) := mj_d (q := (69, .istore 4, 2)) k_Mo_meetAll 38 rfl
theorem d_Mo_meetAll_71 : decode y_Mo_meetAll.2.2.1 71 = .ok (.aload_n 0, 1) := mj_d (q := (71, .aload_n 0, 1)) k_Mo_meetAll 39 rfl
theorem d_Mo_meetAll_72 : decode y_Mo_meetAll.2.2.1 72 = .ok (.iload 5, 2) := mj_d (q := (72, .iload 5, 2)) k_Mo_meetAll 40 rfl
theorem d_Mo_meetAll_74 : decode y_Mo_meetAll.2.2.1 74 = .ok (.iload_n 3, 1) := mj_d (q := (74, .iload_n 3, 1)) k_Mo_meetAll 41 rfl
theorem d_Mo_meetAll_75 : decode y_Mo_meetAll.2.2.1 75 = .ok (.invokevirtual 136, 3) := mj_d (q := (75, .invokevirtual 136, 3)) k_Mo_meetAll 42 rfl
theorem d_Mo_meetAll_78 : decode y_Mo_meetAll.2.2.1 78 = .ok (.istore 6, 2) := mj_d (q := (78, .istore 6, 2)) k_Mo_meetAll 43 rfl
theorem d_Mo_meetAll_80 : decode y_Mo_meetAll.2.2.1 80 = .ok (.goto (-42), 3) := mj_d (q := (80, .goto (-42), 3)) k_Mo_meetAll 44 rfl
theorem d_Mo_meetAll_83 : decode y_Mo_meetAll.2.2.1 83 = .ok (.iinc 5 1, 3) := mj_d (q := (83, .iinc 5 1, 3)) k_Mo_meetAll 45 rfl
theorem d_Mo_meetAll_86 : decode y_Mo_meetAll.2.2.1 86 = .ok (.goto (-80), 3) := mj_d (q := (86, .goto (-80), 3)) k_Mo_meetAll 46 rfl
theorem d_Mo_meetAll_89 : decode y_Mo_meetAll.2.2.1 89 = .ok (.iload 4, 2) := mj_d (q := (89, .iload 4, 2)) k_Mo_meetAll 47 rfl
theorem d_Mo_meetAll_91 : decode y_Mo_meetAll.2.2.1 91 = .ok (.ifCond .le 7, 3) := mj_d (q := (91, .ifCond .le 7, 3)) k_Mo_meetAll 48 rfl
theorem d_Mo_meetAll_94 : decode y_Mo_meetAll.2.2.1 94 = .ok (.iconst 1, 1) := mj_d (q := (94, .iconst 1, 1)) k_Mo_meetAll 49 rfl
theorem d_Mo_meetAll_95 : decode y_Mo_meetAll.2.2.1 95 = .ok (.goto 4, 3) := mj_d (q := (95, .goto 4, 3)) k_Mo_meetAll 50 rfl
theorem d_Mo_meetAll_98 : decode y_Mo_meetAll.2.2.1 98 = .ok (.iconst 0, 1) := mj_d (q := (98, .iconst 0, 1)) k_Mo_meetAll 51 rfl
theorem d_Mo_meetAll_99 : decode y_Mo_meetAll.2.2.1 99 = .ok (.ireturn, 1) := mj_d (q := (99, .ireturn, 1)) k_Mo_meetAll 52 rfl
theorem d_Mo_meet_0 : decode y_Mo_meet.2.2.1 0 = .ok (.iconst 0, 1) := mj_d (q := (0, .iconst 0, 1)) k_Mo_meet 0 rfl
theorem d_Mo_meet_1 : decode y_Mo_meet.2.2.1 1 = .ok (.istore 4, 2) := mj_d (q := (1, .istore 4, 2)) k_Mo_meet 1 rfl
theorem d_Mo_meet_3 : decode y_Mo_meet.2.2.1 3 = .ok (.iconst 0, 1) := mj_d (q := (3, .iconst 0, 1)) k_Mo_meet 2 rfl
theorem d_Mo_meet_4 : decode y_Mo_meet.2.2.1 4 = .ok (.istore 5, 2) := mj_d (q := (4, .istore 5, 2)) k_Mo_meet 3 rfl
theorem d_Mo_meet_6 : decode y_Mo_meet.2.2.1 6 = .ok (.iload 5, 2) := mj_d (q := (6, .iload 5, 2)) k_Mo_meet 4 rfl
theorem d_Mo_meet_8 : decode y_Mo_meet.2.2.1 8 = .ok (.aload_n 0, 1) := mj_d (q := (8, .aload_n 0, 1)) k_Mo_meet 5 rfl
theorem d_Mo_meet_9 : decode y_Mo_meet.2.2.1 9 = .ok (.getfield 13, 3) := mj_d (q := (9, .getfield 13, 3)) k_Mo_meet 6 rfl
theorem d_Mo_meet_12 : decode y_Mo_meet.2.2.1 12 = .ok (.iload_n 1, 1) := mj_d (q := (12, .iload_n 1, 1)) k_Mo_meet 7 rfl
theorem d_Mo_meet_13 : decode y_Mo_meet.2.2.1 13 = .ok (.iaload, 1) := mj_d (q := (13, .iaload, 1)) k_Mo_meet 8 rfl
theorem d_Mo_meet_14 : decode y_Mo_meet.2.2.1 14 = .ok (.if_icmp .ge 88, 3) := mj_d (q := (14, .if_icmp .ge 88, 3)) k_Mo_meet 9 rfl
theorem d_Mo_meet_17 : decode y_Mo_meet.2.2.1 17 = .ok (.aload_n 0, 1) := mj_d (q := (17, .aload_n 0, 1)) k_Mo_meet 10 rfl
theorem d_Mo_meet_18 : decode y_Mo_meet.2.2.1 18 = .ok (.getfield 16, 3) := mj_d (q := (18, .getfield 16, 3)) k_Mo_meet 11 rfl
theorem d_Mo_meet_21 : decode y_Mo_meet.2.2.1 21 = .ok (.iconst 3, 1) := mj_d (q := (21, .iconst 3, 1)) k_Mo_meet 12 rfl
theorem d_Mo_meet_22 : decode y_Mo_meet.2.2.1 22 = .ok (.iload_n 1, 1) := mj_d (q := (22, .iload_n 1, 1)) k_Mo_meet 13 rfl
theorem d_Mo_meet_23 : decode y_Mo_meet.2.2.1 23 = .ok (.imul, 1) := mj_d (q := (23, .imul, 1)) k_Mo_meet 14 rfl
theorem d_Mo_meet_24 : decode y_Mo_meet.2.2.1 24 = .ok (.iload 5, 2) := mj_d (q := (24, .iload 5, 2)) k_Mo_meet 15 rfl
theorem d_Mo_meet_26 : decode y_Mo_meet.2.2.1 26 = .ok (.iadd, 1) := mj_d (q := (26, .iadd, 1)) k_Mo_meet 16 rfl
theorem d_Mo_meet_27 : decode y_Mo_meet.2.2.1 27 = .ok (.iaload, 1) := mj_d (q := (27, .iaload, 1)) k_Mo_meet 17 rfl
theorem d_Mo_meet_28 : decode y_Mo_meet.2.2.1 28 = .ok (.istore 6, 2) := mj_d (q := (28, .istore 6, 2)) k_Mo_meet 18 rfl
theorem d_Mo_meet_30 : decode y_Mo_meet.2.2.1 30 = .ok (.aload_n 0, 1) := mj_d (q := (30, .aload_n 0, 1)) k_Mo_meet 19 rfl
theorem d_Mo_meet_31 : decode y_Mo_meet.2.2.1 31 = .ok (.iload_n 1, 1) := mj_d (q := (31, .iload_n 1, 1)) k_Mo_meet 20 rfl
theorem d_Mo_meet_32 : decode y_Mo_meet.2.2.1 32 = .ok (.iload 5, 2) := mj_d (q := (32, .iload 5, 2)) k_Mo_meet 21 rfl
theorem d_Mo_meet_34 : decode y_Mo_meet.2.2.1 34 = .ok (.iload_n 2, 1) := mj_d (q := (34, .iload_n 2, 1)) k_Mo_meet 22 rfl
theorem d_Mo_meet_35 : decode y_Mo_meet.2.2.1 35 = .ok (.iload_n 3, 1) := mj_d (q := (35, .iload_n 3, 1)) k_Mo_meet 23 rfl
theorem d_Mo_meet_36 : decode y_Mo_meet.2.2.1 36 = .ok (.invokevirtual 123, 3) := mj_d (q := (36, .invokevirtual 123, 3)) k_Mo_meet 24 rfl
theorem d_Mo_meet_39 : decode y_Mo_meet.2.2.1 39 = .ok (.istore 7, 2) := mj_d (q := (39, .istore 7, 2)) k_Mo_meet 25 rfl
theorem d_Mo_meet_41 : decode y_Mo_meet.2.2.1 41 = .ok (.aload_n 0, 1) := mj_d (q := (41, .aload_n 0, 1)) k_Mo_meet 26 rfl
theorem d_Mo_meet_42 : decode y_Mo_meet.2.2.1 42 = .ok (.iload_n 1, 1) := mj_d (q := (42, .iload_n 1, 1)) k_Mo_meet 27 rfl
theorem d_Mo_meet_43 : decode y_Mo_meet.2.2.1 43 = .ok (.iload 5, 2) := mj_d (q := (43, .iload 5, 2)) k_Mo_meet 28 rfl
theorem d_Mo_meet_45 : decode y_Mo_meet.2.2.1 45 = .ok (.iconst 1, 1) := mj_d (q := (45, .iconst 1, 1)) k_Mo_meet 29 rfl
theorem d_Mo_meet_46 : decode y_Mo_meet.2.2.1 46 = .ok (.iadd, 1) := mj_d (q := (46, .iadd, 1)) k_Mo_meet 30 rfl
theorem d_Mo_meet_47 : decode y_Mo_meet.2.2.1 47 = .ok (.iload_n 2, 1) := mj_d (q := (47, .iload_n 2, 1)) k_Mo_meet 31 rfl
theorem d_Mo_meet_48 : decode y_Mo_meet.2.2.1 48 = .ok (.iload_n 3, 1) := mj_d (q := (48, .iload_n 3, 1)) k_Mo_meet 32 rfl
theorem d_Mo_meet_49 : decode y_Mo_meet.2.2.1 49 = .ok (.invokevirtual 123, 3) := mj_d (q := (49, .invokevirtual 123, 3)) k_Mo_meet 33 rfl
theorem d_Mo_meet_52 : decode y_Mo_meet.2.2.1 52 = .ok (.istore 8, 2) := mj_d (q := (52, .istore 8, 2)) k_Mo_meet 34 rfl
theorem d_Mo_meet_54 : decode y_Mo_meet.2.2.1 54 = .ok (.iload 6, 2) := mj_d (q := (54, .iload 6, 2)) k_Mo_meet 35 rfl
theorem d_Mo_meet_56 : decode y_Mo_meet.2.2.1 56 = .ok (.bipush 8, 2) := mj_d (q := (56, .bipush 8, 2)) k_Mo_meet 36 rfl
theorem d_Mo_meet_58 : decode y_Mo_meet.2.2.1 58 = .ok (.if_icmp .ge 38, 3) := mj_d (q := (58, .if_icmp .ge 38, 3)) k_Mo_meet 37 rfl
theorem d_Mo_meet_61 : decode y_Mo_meet.2.2.1 61 = .ok (.aload_n 0, 1) := mj_d (q := (61, .aload_n 0, 1)) k_Mo_meet 38 rfl
theorem d_Mo_meet_62 : decode y_Mo_meet.2.2.1 62 = .ok (.getfield 36, 3) := mj_d (q := (62, .getfield 36, 3)) k_Mo_meet 39 rfl
theorem d_Mo_meet_65 : decode y_Mo_meet.2.2.1 65 = .ok (.iload 6, 2) := mj_d (q := (65, .iload 6, 2)) k_Mo_meet 40 rfl
theorem d_Mo_meet_67 : decode y_Mo_meet.2.2.1 67 = .ok (.iload 7, 2) := mj_d (q := (67, .iload 7, 2)) k_Mo_meet 41 rfl
theorem d_Mo_meet_69 : decode y_Mo_meet.2.2.1 69 = .ok (.iload 8, 2) := mj_d (q := (69, .iload 8, 2)) k_Mo_meet 42 rfl
theorem d_Mo_meet_71 : decode y_Mo_meet.2.2.1 71 = .ok (.invokestatic 113, 3) := mj_d (q := (71, .invokestatic 113, 3)) k_Mo_meet 43 rfl
theorem d_Mo_meet_74 : decode y_Mo_meet.2.2.1 74 = .ok (.baload, 1) := mj_d (q := (74, .baload, 1)) k_Mo_meet 44 rfl
theorem d_Mo_meet_75 : decode y_Mo_meet.2.2.1 75 = .ok (.ifCond .ne 21, 3) := mj_d (q := (75, .ifCond .ne 21, 3)) k_Mo_meet 45 rfl
theorem d_Mo_meet_78 : decode y_Mo_meet.2.2.1 78 = .ok (.aload_n 0, 1) := mj_d (q := (78, .aload_n 0, 1)) k_Mo_meet 46 rfl
theorem d_Mo_meet_79 : decode y_Mo_meet.2.2.1 79 = .ok (.getfield 36, 3) := mj_d (q := (79, .getfield 36, 3)) k_Mo_meet 47 rfl
theorem d_Mo_meet_82 : decode y_Mo_meet.2.2.1 82 = .ok (.iload 6, 2) := mj_d (q := (82, .iload 6, 2)) k_Mo_meet 48 rfl
theorem d_Mo_meet_84 : decode y_Mo_meet.2.2.1 84 = .ok (.iload 7, 2) := mj_d (q := (84, .iload 7, 2)) k_Mo_meet 49 rfl
theorem d_Mo_meet_86 : decode y_Mo_meet.2.2.1 86 = .ok (.iload 8, 2) := mj_d (q := (86, .iload 8, 2)) k_Mo_meet 50 rfl
theorem d_Mo_meet_88 : decode y_Mo_meet.2.2.1 88 = .ok (.invokestatic 113, 3) := mj_d (q := (88, .invokestatic 113, 3)) k_Mo_meet 51 rfl
theorem d_Mo_meet_91 : decode y_Mo_meet.2.2.1 91 = .ok (.iconst 1, 1) := mj_d (q := (91, .iconst 1, 1)) k_Mo_meet 52 rfl
theorem d_Mo_meet_92 : decode y_Mo_meet.2.2.1 92 = .ok (.bastore, 1) := mj_d (q := (92, .bastore, 1)) k_Mo_meet 53 rfl
theorem d_Mo_meet_93 : decode y_Mo_meet.2.2.1 93 = .ok (.iconst 1, 1) := mj_d (q := (93, .iconst 1, 1)) k_Mo_meet 54 rfl
theorem d_Mo_meet_94 : decode y_Mo_meet.2.2.1 94 = .ok (.istore 4, 2) := mj_d (q := (94, .istore 4, 2)) k_Mo_meet 55 rfl
theorem d_Mo_meet_96 : decode y_Mo_meet.2.2.1 96 = .ok (.iinc 5 1, 3) := mj_d (q := (96, .iinc 5 1, 3)) k_Mo_meet 56 rfl
theorem d_Mo_meet_99 : decode y_Mo_meet.2.2.1 99 = .ok (.goto (-93), 3) := mj_d (q := (99, .goto (-93), 3)) k_Mo_meet 57 rfl
theorem d_Mo_meet_102 : decode y_Mo_meet.2.2.1 102 = .ok (.iload 4, 2) := mj_d (q := (102, .iload 4, 2)) k_Mo_meet 58 rfl
theorem d_Mo_meet_104 : decode y_Mo_meet.2.2.1 104 = .ok (.ireturn, 1) := mj_d (q := (104, .ireturn, 1)) k_Mo_meet 59 rfl
theorem d_Mo_tree_0 : decode y_Mo_tree.2.2.1 0 = .ok (.aload_n 0, 1) := mj_d (q := (0, .aload_n 0, 1)) k_Mo_tree 0 rfl
theorem d_Mo_tree_1 : decode y_Mo_tree.2.2.1 1 = .ok (.iconst 0, 1) := mj_d (q := (1, .iconst 0, 1)) k_Mo_tree 1 rfl
theorem d_Mo_tree_2 : decode y_Mo_tree.2.2.1 2 = .ok (.putfield 53, 3) := mj_d (q := (2, .putfield 53, 3)) k_Mo_tree 2 rfl
theorem d_Mo_tree_5 : decode y_Mo_tree.2.2.1 5 = .ok (.aload_n 0, 1) := mj_d (q := (5, .aload_n 0, 1)) k_Mo_tree 3 rfl
theorem d_Mo_tree_6 : decode y_Mo_tree.2.2.1 6 = .ok (.invokevirtual 164, 3) := mj_d (q := (6, .invokevirtual 164, 3)) k_Mo_tree 4 rfl
theorem d_Mo_tree_9 : decode y_Mo_tree.2.2.1 9 = .ok (.aload_n 0, 1) := mj_d (q := (9, .aload_n 0, 1)) k_Mo_tree 5 rfl
theorem d_Mo_tree_10 : decode y_Mo_tree.2.2.1 10 = .ok (.iconst 0, 1) := mj_d (q := (10, .iconst 0, 1)) k_Mo_tree 6 rfl
theorem d_Mo_tree_11 : decode y_Mo_tree.2.2.1 11 = .ok (.iconst 0, 1) := mj_d (q := (11, .iconst 0, 1)) k_Mo_tree 7 rfl
theorem d_Mo_tree_12 : decode y_Mo_tree.2.2.1 12 = .ok (.aload_n 0, 1) := mj_d (q := (12, .aload_n 0, 1)) k_Mo_tree 8 rfl
theorem d_Mo_tree_13 : decode y_Mo_tree.2.2.1 13 = .ok (.getfield 97, 3) := mj_d (q := (13, .getfield 97, 3)) k_Mo_tree 9 rfl
theorem d_Mo_tree_16 : decode y_Mo_tree.2.2.1 16 = .ok (.invokevirtual 167, 3) := mj_d (q := (16, .invokevirtual 167, 3)) k_Mo_tree 10 rfl
theorem d_Mo_tree_19 : decode y_Mo_tree.2.2.1 19 = .ok (.lstore 4, 2) := mj_d (q := (19, .lstore 4, 2)) k_Mo_tree 11 rfl
theorem d_Mo_tree_21 : decode y_Mo_tree.2.2.1 21 = .ok (.lload 4, 2) := mj_d (q := (21, .lload 4, 2)) k_Mo_tree 12 rfl
theorem d_Mo_tree_23 : decode y_Mo_tree.2.2.1 23 = .ok (.lconst 0, 1) := mj_d (q := (23, .lconst 0, 1)) k_Mo_tree 13 rfl
theorem d_Mo_tree_24 : decode y_Mo_tree.2.2.1 24 = .ok (.lcmp, 1) := mj_d (q := (24, .lcmp, 1)) k_Mo_tree 14 rfl
theorem d_Mo_tree_25 : decode y_Mo_tree.2.2.1 25 = .ok (.ifCond .lt 29, 3) := mj_d (q := (25, .ifCond .lt 29, 3)) k_Mo_tree 15 rfl
theorem d_Mo_tree_28 : decode y_Mo_tree.2.2.1 28 = .ok (.lload 4, 2) := mj_d (q := (28, .lload 4, 2)) k_Mo_tree 16 rfl
theorem d_Mo_tree_30 : decode y_Mo_tree.2.2.1 30 = .ok (.ldc2_w 143, 3) := mj_d (q := (30, .ldc2_w 143, 3)) k_Mo_tree 17 rfl
theorem d_Mo_tree_33 : decode y_Mo_tree.2.2.1 33 = .ok (.lcmp, 1) := mj_d (q := (33, .lcmp, 1)) k_Mo_tree 18 rfl
theorem d_Mo_tree_34 : decode y_Mo_tree.2.2.1 34 = .ok (.ifCond .ge 20, 3) := mj_d (q := (34, .ifCond .ge 20, 3)) k_Mo_tree 19 rfl
theorem d_Mo_tree_37 : decode y_Mo_tree.2.2.1 37 = .ok (.lload_n 1, 1) := mj_d (q := (37, .lload_n 1, 1)) k_Mo_tree 20 rfl
theorem d_Mo_tree_38 : decode y_Mo_tree.2.2.1 38 = .ok (.lconst 0, 1) := mj_d (q := (38, .lconst 0, 1)) k_Mo_tree 21 rfl
theorem d_Mo_tree_39 : decode y_Mo_tree.2.2.1 39 = .ok (.lcmp, 1) := mj_d (q := (39, .lcmp, 1)) k_Mo_tree 22 rfl
theorem d_Mo_tree_40 : decode y_Mo_tree.2.2.1 40 = .ok (.ifCond .lt 14, 3) := mj_d (q := (40, .ifCond .lt 14, 3)) k_Mo_tree 23 rfl
theorem d_Mo_tree_43 : decode y_Mo_tree.2.2.1 43 = .ok (.lload_n 1, 1) := mj_d (q := (43, .lload_n 1, 1)) k_Mo_tree 24 rfl
theorem d_Mo_tree_44 : decode y_Mo_tree.2.2.1 44 = .ok (.lload 4, 2) := mj_d (q := (44, .lload 4, 2)) k_Mo_tree 25 rfl
theorem d_Mo_tree_46 : decode y_Mo_tree.2.2.1 46 = .ok (.lcmp, 1) := mj_d (q := (46, .lcmp, 1)) k_Mo_tree 26 rfl
theorem d_Mo_tree_47 : decode y_Mo_tree.2.2.1 47 = .ok (.ifCond .ge 7, 3) := mj_d (q := (47, .ifCond .ge 7, 3)) k_Mo_tree 27 rfl
theorem d_Mo_tree_50 : decode y_Mo_tree.2.2.1 50 = .ok (.iload_n 3, 1) := mj_d (q := (50, .iload_n 3, 1)) k_Mo_tree 28 rfl
theorem d_Mo_tree_51 : decode y_Mo_tree.2.2.1 51 = .ok (.ifCond .ge 9, 3) := mj_d (q := (51, .ifCond .ge 9, 3)) k_Mo_tree 29 rfl
theorem d_Mo_tree_54 : decode y_Mo_tree.2.2.1 54 = .ok (.aload_n 0, 1) := mj_d (q := (54, .aload_n 0, 1)) k_Mo_tree 30 rfl
theorem d_Mo_tree_55 : decode y_Mo_tree.2.2.1 55 = .ok (.iconst 1, 1) := mj_d (q := (55, .iconst 1, 1)) k_Mo_tree 31 rfl
theorem d_Mo_tree_56 : decode y_Mo_tree.2.2.1 56 = .ok (.invokevirtual 91, 3) := mj_d (q := (56, .invokevirtual 91, 3)) k_Mo_tree 32 rfl
theorem d_Mo_tree_59 : decode y_Mo_tree.2.2.1 59 = .ok (.ireturn, 1) := mj_d (q := (59, .ireturn, 1)) k_Mo_tree 33 rfl
theorem d_Mo_tree_60 : decode y_Mo_tree.2.2.1 60 = .ok (.aload_n 0, 1) := mj_d (q := (60, .aload_n 0, 1)) k_Mo_tree 34 rfl
theorem d_Mo_tree_61 : decode y_Mo_tree.2.2.1 61 = .ok (.iconst 0, 1) := mj_d (q := (61, .iconst 0, 1)) k_Mo_tree 35 rfl
theorem d_Mo_tree_62 : decode y_Mo_tree.2.2.1 62 = .ok (.putfield 176, 3) := mj_d (q := (62, .putfield 176, 3)) k_Mo_tree 36 rfl
theorem d_Mo_tree_65 : decode y_Mo_tree.2.2.1 65 = .ok (.aload_n 0, 1) := mj_d (q := (65, .aload_n 0, 1)) k_Mo_tree 37 rfl
theorem d_Mo_tree_66 : decode y_Mo_tree.2.2.1 66 = .ok (.iconst 0, 1) := mj_d (q := (66, .iconst 0, 1)) k_Mo_tree 38 rfl
theorem d_Mo_tree_67 : decode y_Mo_tree.2.2.1 67 = .ok (.iconst 0, 1) := mj_d (q := (67, .iconst 0, 1)) k_Mo_tree 39 rfl
theorem d_Mo_tree_68 : decode y_Mo_tree.2.2.1 68 = .ok (.aload_n 0, 1) := mj_d (q := (68, .aload_n 0, 1)) k_Mo_tree 40 rfl
theorem d_Mo_tree_69 : decode y_Mo_tree.2.2.1 69 = .ok (.getfield 97, 3) := mj_d (q := (69, .getfield 97, 3)) k_Mo_tree 41 rfl
theorem d_Mo_tree_72 : decode y_Mo_tree.2.2.1 72 = .ok (.invokestatic 113, 3) := mj_d (q := (72, .invokestatic 113, 3)) k_Mo_tree 42 rfl
theorem d_Mo_tree_75 : decode y_Mo_tree.2.2.1 75 = .ok (.lload_n 1, 1) := mj_d (q := (75, .lload_n 1, 1)) k_Mo_tree 43 rfl
theorem d_Mo_tree_76 : decode y_Mo_tree.2.2.1 76 = .ok (.invokevirtual 179, 3) := mj_d (q := (76, .invokevirtual 179, 3)) k_Mo_tree 44 rfl
theorem d_Mo_tree_79 : decode y_Mo_tree.2.2.1 79 = .ok (.iconst 0, 1) := mj_d (q := (79, .iconst 0, 1)) k_Mo_tree 45 rfl
theorem d_Mo_tree_80 : decode y_Mo_tree.2.2.1 80 = .ok (.istore 6, 2) := mj_d (q := (80, .istore 6, 2)) k_Mo_tree 46 rfl
theorem d_Mo_tree_82 : decode y_Mo_tree.2.2.1 82 = .ok (.aload_n 0, 1) := mj_d (q := (82, .aload_n 0, 1)) k_Mo_tree 47 rfl
theorem d_Mo_tree_83 : decode y_Mo_tree.2.2.1 83 = .ok (.getfield 176, 3) := mj_d (q := (83, .getfield 176, 3)) k_Mo_tree 48 rfl
theorem d_Mo_tree_86 : decode y_Mo_tree.2.2.1 86 = .ok (.ifCond .le 52, 3) := mj_d (q := (86, .ifCond .le 52, 3)) k_Mo_tree 49 rfl
theorem d_Mo_tree_89 : decode y_Mo_tree.2.2.1 89 = .ok (.aload_n 0, 1) := mj_d (q := (89, .aload_n 0, 1)) k_Mo_tree 50 rfl
theorem d_Mo_tree_90 : decode y_Mo_tree.2.2.1 90 = .ok (.dup, 1) := mj_d (q := (90, .dup, 1)) k_Mo_tree 51 rfl
theorem d_Mo_tree_91 : decode y_Mo_tree.2.2.1 91 = .ok (.getfield 176, 3) := mj_d (q := (91, .getfield 176, 3)) k_Mo_tree 52 rfl
theorem d_Mo_tree_94 : decode y_Mo_tree.2.2.1 94 = .ok (.iconst 1, 1) := mj_d (q := (94, .iconst 1, 1)) k_Mo_tree 53 rfl
theorem d_Mo_tree_95 : decode y_Mo_tree.2.2.1 95 = .ok (.isub, 1) := mj_d (q := (95, .isub, 1)) k_Mo_tree 54 rfl
theorem d_Mo_tree_96 : decode y_Mo_tree.2.2.1 96 = .ok (.putfield 176, 3) := mj_d (q := (96, .putfield 176, 3)) k_Mo_tree 55 rfl
theorem d_Mo_tree_99 : decode y_Mo_tree.2.2.1 99 = .ok (.aload_n 0, 1) := mj_d (q := (99, .aload_n 0, 1)) k_Mo_tree 56 rfl
theorem d_Mo_tree_100 : decode y_Mo_tree.2.2.1 100 = .ok (.aload_n 0, 1) := mj_d (q := (100, .aload_n 0, 1)) k_Mo_tree 57 rfl
theorem d_Mo_tree_101 : decode y_Mo_tree.2.2.1 101 = .ok (.getfield 39, 3) := mj_d (q := (101, .getfield 39, 3)) k_Mo_tree 58 rfl
theorem d_Mo_tree_104 : decode y_Mo_tree.2.2.1 104 = .ok (.aload_n 0, 1) := mj_d (q := (104, .aload_n 0, 1)) k_Mo_tree 59 rfl
theorem d_Mo_tree_105 : decode y_Mo_tree.2.2.1 105 = .ok (.getfield 176, 3) := mj_d (q := (105, .getfield 176, 3)) k_Mo_tree 60 rfl
theorem d_Mo_tree_108 : decode y_Mo_tree.2.2.1 108 = .ok (.iaload, 1) := mj_d (q := (108, .iaload, 1)) k_Mo_tree 61 rfl
theorem d_Mo_tree_109 : decode y_Mo_tree.2.2.1 109 = .ok (.aload_n 0, 1) := mj_d (q := (109, .aload_n 0, 1)) k_Mo_tree 62 rfl
theorem d_Mo_tree_110 : decode y_Mo_tree.2.2.1 110 = .ok (.getfield 42, 3) := mj_d (q := (110, .getfield 42, 3)) k_Mo_tree 63 rfl
theorem d_Mo_tree_113 : decode y_Mo_tree.2.2.1 113 = .ok (.aload_n 0, 1) := mj_d (q := (113, .aload_n 0, 1)) k_Mo_tree 64 rfl
theorem d_Mo_tree_114 : decode y_Mo_tree.2.2.1 114 = .ok (.getfield 176, 3) := mj_d (q := (114, .getfield 176, 3)) k_Mo_tree 65 rfl
theorem d_Mo_tree_117 : decode y_Mo_tree.2.2.1 117 = .ok (.laload, 1) := mj_d (q := (117, .laload, 1)) k_Mo_tree 66 rfl
theorem d_Mo_tree_118 : decode y_Mo_tree.2.2.1 118 = .ok (.invokevirtual 187, 3) := mj_d (q := (118, .invokevirtual 187, 3)) k_Mo_tree 67 rfl
theorem d_Mo_tree_121 : decode y_Mo_tree.2.2.1 121 = .ok (.istore 7, 2) := mj_d (q := (121, .istore 7, 2)) k_Mo_tree 68 rfl
theorem d_Mo_tree_123 : decode y_Mo_tree.2.2.1 123 = .ok (.iload 6, 2) := mj_d (q := (123, .iload 6, 2)) k_Mo_tree 69 rfl
theorem d_Mo_tree_125 : decode y_Mo_tree.2.2.1 125 = .ok (.iload_n 3, 1) := mj_d (q := (125, .iload_n 3, 1)) k_Mo_tree 70 rfl
theorem d_Mo_tree_126 : decode y_Mo_tree.2.2.1 126 = .ok (.if_icmp .ne 6, 3) := mj_d (q := (126, .if_icmp .ne 6, 3)) k_Mo_tree 71 rfl
theorem d_Mo_tree_129 : decode y_Mo_tree.2.2.1 129 = .ok (.iload 7, 2) := mj_d (q := (129, .iload 7, 2)) k_Mo_tree 72 rfl
theorem d_Mo_tree_131 : decode y_Mo_tree.2.2.1 131 = .ok (.ireturn, 1) := mj_d (q := (131, .ireturn, 1)) k_Mo_tree 73 rfl
theorem d_Mo_tree_132 : decode y_Mo_tree.2.2.1 132 = .ok (.iinc 6 1, 3) := mj_d (q := (132, .iinc 6 1, 3)) k_Mo_tree 74 rfl
theorem d_Mo_tree_135 : decode y_Mo_tree.2.2.1 135 = .ok (.goto (-53), 3) := mj_d (q := (135, .goto (-53), 3)) k_Mo_tree 75 rfl
theorem d_Mo_tree_138 : decode y_Mo_tree.2.2.1 138 = .ok (.aload_n 0, 1) := mj_d (q := (138, .aload_n 0, 1)) k_Mo_tree 76 rfl
theorem d_Mo_tree_139 : decode y_Mo_tree.2.2.1 139 = .ok (.iconst 1, 1) := mj_d (q := (139, .iconst 1, 1)) k_Mo_tree 77 rfl
theorem d_Mo_tree_140 : decode y_Mo_tree.2.2.1 140 = .ok (.invokevirtual 91, 3) := mj_d (q := (140, .invokevirtual 91, 3)) k_Mo_tree 78 rfl
theorem d_Mo_tree_143 : decode y_Mo_tree.2.2.1 143 = .ok (.ireturn, 1) := mj_d (q := (143, .ireturn, 1)) k_Mo_tree 79 rfl
theorem d_Mo_come_0 : decode y_Mo_come.2.2.1 0 = .ok (.aload_n 0, 1) := mj_d (q := (0, .aload_n 0, 1)) k_Mo_come 0 rfl
theorem d_Mo_come_1 : decode y_Mo_come.2.2.1 1 = .ok (.getfield 39, 3) := mj_d (q := (1, .getfield 39, 3)) k_Mo_come 1 rfl
theorem d_Mo_come_4 : decode y_Mo_come.2.2.1 4 = .ok (.aload_n 0, 1) := mj_d (q := (4, .aload_n 0, 1)) k_Mo_come 2 rfl
theorem d_Mo_come_5 : decode y_Mo_come.2.2.1 5 = .ok (.getfield 176, 3) := mj_d (q := (5, .getfield 176, 3)) k_Mo_come 3 rfl
theorem d_Mo_come_8 : decode y_Mo_come.2.2.1 8 = .ok (.iload_n 1, 1) := mj_d (q := (8, .iload_n 1, 1)) k_Mo_come 4 rfl
theorem d_Mo_come_9 : decode y_Mo_come.2.2.1 9 = .ok (.iastore, 1) := mj_d (q := (9, .iastore, 1)) k_Mo_come 5 rfl
theorem d_Mo_come_10 : decode y_Mo_come.2.2.1 10 = .ok (.aload_n 0, 1) := mj_d (q := (10, .aload_n 0, 1)) k_Mo_come 6 rfl
theorem d_Mo_come_11 : decode y_Mo_come.2.2.1 11 = .ok (.getfield 42, 3) := mj_d (q := (11, .getfield 42, 3)) k_Mo_come 7 rfl
theorem d_Mo_come_14 : decode y_Mo_come.2.2.1 14 = .ok (.aload_n 0, 1) := mj_d (q := (14, .aload_n 0, 1)) k_Mo_come 8 rfl
theorem d_Mo_come_15 : decode y_Mo_come.2.2.1 15 = .ok (.getfield 176, 3) := mj_d (q := (15, .getfield 176, 3)) k_Mo_come 9 rfl
theorem d_Mo_come_18 : decode y_Mo_come.2.2.1 18 = .ok (.lload_n 2, 1) := mj_d (q := (18, .lload_n 2, 1)) k_Mo_come 10 rfl
theorem d_Mo_come_19 : decode y_Mo_come.2.2.1 19 = .ok (.lastore, 1) := mj_d (q := (19, .lastore, 1)) k_Mo_come 11 rfl
theorem d_Mo_come_20 : decode y_Mo_come.2.2.1 20 = .ok (.aload_n 0, 1) := mj_d (q := (20, .aload_n 0, 1)) k_Mo_come 12 rfl
theorem d_Mo_come_21 : decode y_Mo_come.2.2.1 21 = .ok (.dup, 1) := mj_d (q := (21, .dup, 1)) k_Mo_come 13 rfl
theorem d_Mo_come_22 : decode y_Mo_come.2.2.1 22 = .ok (.getfield 176, 3) := mj_d (q := (22, .getfield 176, 3)) k_Mo_come 14 rfl
theorem d_Mo_come_25 : decode y_Mo_come.2.2.1 25 = .ok (.iconst 1, 1) := mj_d (q := (25, .iconst 1, 1)) k_Mo_come 15 rfl
theorem d_Mo_come_26 : decode y_Mo_come.2.2.1 26 = .ok (.iadd, 1) := mj_d (q := (26, .iadd, 1)) k_Mo_come 16 rfl
theorem d_Mo_come_27 : decode y_Mo_come.2.2.1 27 = .ok (.putfield 176, 3) := mj_d (q := (27, .putfield 176, 3)) k_Mo_come 17 rfl
theorem d_Mo_come_30 : decode y_Mo_come.2.2.1 30 = .ok (.return_, 1) := mj_d (q := (30, .return_, 1)) k_Mo_come 18 rfl
theorem d_Mo_takeRoot_0 : decode y_Mo_takeRoot.2.2.1 0 = .ok (.iload_n 1, 1) := mj_d (q := (0, .iload_n 1, 1)) k_Mo_takeRoot 0 rfl
theorem d_Mo_takeRoot_1 : decode y_Mo_takeRoot.2.2.1 1 = .ok (.sipush 169, 3) := mj_d (q := (1, .sipush 169, 3)) k_Mo_takeRoot 1 rfl
theorem d_Mo_takeRoot_4 : decode y_Mo_takeRoot.2.2.1 4 = .ok (.idiv, 1) := mj_d (q := (4, .idiv, 1)) k_Mo_takeRoot 2 rfl
theorem d_Mo_takeRoot_5 : decode y_Mo_takeRoot.2.2.1 5 = .ok (.istore 4, 2) := mj_d (q := (5, .istore 4, 2)) k_Mo_takeRoot 3 rfl
theorem d_Mo_takeRoot_7 : decode y_Mo_takeRoot.2.2.1 7 = .ok (.iload_n 1, 1) := mj_d (q := (7, .iload_n 1, 1)) k_Mo_takeRoot 4 rfl
theorem d_Mo_takeRoot_8 : decode y_Mo_takeRoot.2.2.1 8 = .ok (.sipush 169, 3) := mj_d (q := (8, .sipush 169, 3)) k_Mo_takeRoot 5 rfl
theorem d_Mo_takeRoot_11 : decode y_Mo_takeRoot.2.2.1 11 = .ok (.irem, 1) := mj_d (q := (11, .irem, 1)) k_Mo_takeRoot 6 rfl
theorem d_Mo_takeRoot_12 : decode y_Mo_takeRoot.2.2.1 12 = .ok (.bipush 13, 2) := mj_d (q := (12, .bipush 13, 2)) k_Mo_takeRoot 7 rfl
theorem d_Mo_takeRoot_14 : decode y_Mo_takeRoot.2.2.1 14 = .ok (.idiv, 1) := mj_d (q := (14, .idiv, 1)) k_Mo_takeRoot 8 rfl
theorem d_Mo_takeRoot_15 : decode y_Mo_takeRoot.2.2.1 15 = .ok (.istore 5, 2) := mj_d (q := (15, .istore 5, 2)) k_Mo_takeRoot 9 rfl
theorem d_Mo_takeRoot_17 : decode y_Mo_takeRoot.2.2.1 17 = .ok (.iload_n 1, 1) := mj_d (q := (17, .iload_n 1, 1)) k_Mo_takeRoot 10 rfl
theorem d_Mo_takeRoot_18 : decode y_Mo_takeRoot.2.2.1 18 = .ok (.bipush 13, 2) := mj_d (q := (18, .bipush 13, 2)) k_Mo_takeRoot 11 rfl
theorem d_Mo_takeRoot_20 : decode y_Mo_takeRoot.2.2.1 20 = .ok (.irem, 1) := mj_d (q := (20, .irem, 1)) k_Mo_takeRoot 12 rfl
theorem d_Mo_takeRoot_21 : decode y_Mo_takeRoot.2.2.1 21 = .ok (.istore 6, 2) := mj_d (q := (21, .istore 6, 2)) k_Mo_takeRoot 13 rfl
theorem d_Mo_takeRoot_23 : decode y_Mo_takeRoot.2.2.1 23 = .ok (.lload_n 2, 1) := mj_d (q := (23, .lload_n 2, 1)) k_Mo_takeRoot 14 rfl
theorem d_Mo_takeRoot_24 : decode y_Mo_takeRoot.2.2.1 24 = .ok (.lstore 7, 2) := mj_d (q := (24, .lstore 7, 2)) k_Mo_takeRoot 15 rfl
theorem d_Mo_takeRoot_26 : decode y_Mo_takeRoot.2.2.1 26 = .ok (.iconst 0, 1) := mj_d (q := (26, .iconst 0, 1)) k_Mo_takeRoot 16 rfl
theorem d_Mo_takeRoot_27 : decode y_Mo_takeRoot.2.2.1 27 = .ok (.istore 9, 2) := mj_d (q := (27, .istore 9, 2)) k_Mo_takeRoot 17 rfl
theorem d_Mo_takeRoot_29 : decode y_Mo_takeRoot.2.2.1 29 = .ok (.iload 9, 2) := mj_d (q := (29, .iload 9, 2)) k_Mo_takeRoot 18 rfl
theorem d_Mo_takeRoot_31 : decode y_Mo_takeRoot.2.2.1 31 = .ok (.aload_n 0, 1) := mj_d (q := (31, .aload_n 0, 1)) k_Mo_takeRoot 19 rfl
theorem d_Mo_takeRoot_32 : decode y_Mo_takeRoot.2.2.1 32 = .ok (.getfield 73, 3) := mj_d (q := (32, .getfield 73, 3)) k_Mo_takeRoot 20 rfl
theorem d_Mo_takeRoot_35 : decode y_Mo_takeRoot.2.2.1 35 = .ok (.if_icmp .ge 107, 3) := mj_d (q := (35, .if_icmp .ge 107, 3)) k_Mo_takeRoot 21 rfl
theorem d_Mo_takeRoot_38 : decode y_Mo_takeRoot.2.2.1 38 = .ok (.aload_n 0, 1) := mj_d (q := (38, .aload_n 0, 1)) k_Mo_takeRoot 22 rfl
theorem d_Mo_takeRoot_39 : decode y_Mo_takeRoot.2.2.1 39 = .ok (.getfield 7, 3) := mj_d (q := (39, .getfield 7, 3)) k_Mo_takeRoot 23 rfl
theorem d_Mo_takeRoot_42 : decode y_Mo_takeRoot.2.2.1 42 = .ok (.iload 9, 2) := mj_d (q := (42, .iload 9, 2)) k_Mo_takeRoot 24 rfl
theorem d_Mo_takeRoot_44 : decode y_Mo_takeRoot.2.2.1 44 = .ok (.iaload, 1) := mj_d (q := (44, .iaload, 1)) k_Mo_takeRoot 25 rfl
theorem d_Mo_takeRoot_45 : decode y_Mo_takeRoot.2.2.1 45 = .ok (.iload 4, 2) := mj_d (q := (45, .iload 4, 2)) k_Mo_takeRoot 26 rfl
theorem d_Mo_takeRoot_47 : decode y_Mo_takeRoot.2.2.1 47 = .ok (.if_icmp .ne 7, 3) := mj_d (q := (47, .if_icmp .ne 7, 3)) k_Mo_takeRoot 27 rfl
theorem d_Mo_takeRoot_50 : decode y_Mo_takeRoot.2.2.1 50 = .ok (.iconst 1, 1) := mj_d (q := (50, .iconst 1, 1)) k_Mo_takeRoot 28 rfl
theorem d_Mo_takeRoot_51 : decode y_Mo_takeRoot.2.2.1 51 = .ok (.goto 4, 3) := mj_d (q := (51, .goto 4, 3)) k_Mo_takeRoot 29 rfl
theorem d_Mo_takeRoot_54 : decode y_Mo_takeRoot.2.2.1 54 = .ok (.iconst 0, 1) := mj_d (q := (54, .iconst 0, 1)) k_Mo_takeRoot 30 rfl
theorem d_Mo_takeRoot_55 : decode y_Mo_takeRoot.2.2.1 55 = .ok (.istore 10, 2) := mj_d (q := (55, .istore 10, 2)) k_Mo_takeRoot 31 rfl
theorem d_Mo_takeRoot_57 : decode y_Mo_takeRoot.2.2.1 57 = .ok (.aload_n 0, 1) := mj_d (q := (57, .aload_n 0, 1)) k_Mo_takeRoot 32 rfl
theorem d_Mo_takeRoot_58 : decode y_Mo_takeRoot.2.2.1 58 = .ok (.iload 5, 2) := mj_d (q := (58, .iload 5, 2)) k_Mo_takeRoot 33 rfl
theorem d_Mo_takeRoot_60 : decode y_Mo_takeRoot.2.2.1 60 = .ok (.invokevirtual 130, 3) := mj_d (q := (60, .invokevirtual 130, 3)) k_Mo_takeRoot 34 rfl
theorem d_Mo_takeRoot_63 : decode y_Mo_takeRoot.2.2.1 63 = .ok (.iload 10, 2) := mj_d (q := (63, .iload 10, 2)) k_Mo_takeRoot 35 rfl
theorem d_Mo_takeRoot_65 : decode y_Mo_takeRoot.2.2.1 65 = .ok (.ifCond .eq 71, 3) := mj_d (q := (65, .ifCond .eq 71, 3)) k_Mo_takeRoot 36 rfl
theorem d_Mo_takeRoot_68 : decode y_Mo_takeRoot.2.2.1 68 = .ok (.aload_n 0, 1) := mj_d (q := (68, .aload_n 0, 1)) k_Mo_takeRoot 37 rfl
theorem d_Mo_takeRoot_69 : decode y_Mo_takeRoot.2.2.1 69 = .ok (.iload 9, 2) := mj_d (q := (69, .iload 9, 2)) k_Mo_takeRoot 38 rfl
theorem d_Mo_takeRoot_71 : decode y_Mo_takeRoot.2.2.1 71 = .ok (.iload 5, 2) := mj_d (q := (71, .iload 5, 2)) k_Mo_takeRoot 39 rfl
theorem d_Mo_takeRoot_73 : decode y_Mo_takeRoot.2.2.1 73 = .ok (.iload 6, 2) := mj_d (q := (73, .iload 6, 2)) k_Mo_takeRoot 40 rfl
theorem d_Mo_takeRoot_75 : decode y_Mo_takeRoot.2.2.1 75 = .ok (.invokevirtual 133, 3) := mj_d (q := (75, .invokevirtual 133, 3)) k_Mo_takeRoot 41 rfl
theorem d_Mo_takeRoot_78 : decode y_Mo_takeRoot.2.2.1 78 = .ok (.ifCond .eq 45, 3) := mj_d (q := (78, .ifCond .eq 45, 3)) k_Mo_takeRoot 42 rfl
theorem d_Mo_takeRoot_81 : decode y_Mo_takeRoot.2.2.1 81 = .ok (.aload_n 0, 1) := mj_d (q := (81, .aload_n 0, 1)) k_Mo_takeRoot 43 rfl
theorem d_Mo_takeRoot_82 : decode y_Mo_takeRoot.2.2.1 82 = .ok (.iload 9, 2) := mj_d (q := (82, .iload 9, 2)) k_Mo_takeRoot 44 rfl
theorem d_Mo_takeRoot_84 : decode y_Mo_takeRoot.2.2.1 84 = .ok (.iload 5, 2) := mj_d (q := (84, .iload 5, 2)) k_Mo_takeRoot 45 rfl
theorem d_Mo_takeRoot_86 : decode y_Mo_takeRoot.2.2.1 86 = .ok (.iload 6, 2) := mj_d (q := (86, .iload 6, 2)) k_Mo_takeRoot 46 rfl
theorem d_Mo_takeRoot_88 : decode y_Mo_takeRoot.2.2.1 88 = .ok (.invokevirtual 151, 3) := mj_d (q := (88, .invokevirtual 151, 3)) k_Mo_takeRoot 47 rfl
theorem d_Mo_takeRoot_91 : decode y_Mo_takeRoot.2.2.1 91 = .ok (.lstore 11, 2) := mj_d (q := (91, .lstore 11, 2)) k_Mo_takeRoot 48 rfl
theorem d_Mo_takeRoot_93 : decode y_Mo_takeRoot.2.2.1 93 = .ok (.lload 7, 2) := mj_d (q := (93, .lload 7, 2)) k_Mo_takeRoot 49 rfl
theorem d_Mo_takeRoot_95 : decode y_Mo_takeRoot.2.2.1 95 = .ok (.lload 11, 2) := mj_d (q := (95, .lload 11, 2)) k_Mo_takeRoot 50 rfl
theorem d_Mo_takeRoot_97 : decode y_Mo_takeRoot.2.2.1 97 = .ok (.lcmp, 1) := mj_d (q := (97, .lcmp, 1)) k_Mo_takeRoot 51 rfl
theorem d_Mo_takeRoot_98 : decode y_Mo_takeRoot.2.2.1 98 = .ok (.ifCond .ge 18, 3) := mj_d (q := (98, .ifCond .ge 18, 3)) k_Mo_takeRoot 52 rfl
theorem d_Mo_takeRoot_101 : decode y_Mo_takeRoot.2.2.1 101 = .ok (.aload_n 0, 1) := mj_d (q := (101, .aload_n 0, 1)) k_Mo_takeRoot 53 rfl
theorem d_Mo_takeRoot_102 : decode y_Mo_takeRoot.2.2.1 102 = .ok (.iload 9, 2) := mj_d (q := (102, .iload 9, 2)) k_Mo_takeRoot 54 rfl
theorem d_Mo_takeRoot_104 : decode y_Mo_takeRoot.2.2.1 104 = .ok (.iload 5, 2) := mj_d (q := (104, .iload 5, 2)) k_Mo_takeRoot 55 rfl
theorem d_Mo_takeRoot_106 : decode y_Mo_takeRoot.2.2.1 106 = .ok (.iload 6, 2) := mj_d (q := (106, .iload 6, 2)) k_Mo_takeRoot 56 rfl
theorem d_Mo_takeRoot_108 : decode y_Mo_takeRoot.2.2.1 108 = .ok (.lload 7, 2) := mj_d (q := (108, .lload 7, 2)) k_Mo_takeRoot 57 rfl
theorem d_Mo_takeRoot_110 : decode y_Mo_takeRoot.2.2.1 110 = .ok (.invokevirtual 183, 3) := mj_d (q := (110, .invokevirtual 183, 3)) k_Mo_takeRoot 58 rfl
theorem d_Mo_takeRoot_113 : decode y_Mo_takeRoot.2.2.1 113 = .ok (.iload 9, 2) := mj_d (q := (113, .iload 9, 2)) k_Mo_takeRoot 59 rfl
theorem d_Mo_takeRoot_115 : decode y_Mo_takeRoot.2.2.1 115 = .ok (.ireturn, 1) := mj_d (q := (115, .ireturn, 1)) k_Mo_takeRoot 60 rfl
theorem d_Mo_takeRoot_116 : decode y_Mo_takeRoot.2.2.1 116 = .ok (.lload 7, 2) := mj_d (q := (116, .lload 7, 2)) k_Mo_takeRoot 61 rfl
theorem d_Mo_takeRoot_118 : decode y_Mo_takeRoot.2.2.1 118 = .ok (.lload 11, 2) := mj_d (q := (118, .lload 11, 2)) k_Mo_takeRoot 62 rfl
theorem d_Mo_takeRoot_120 : decode y_Mo_takeRoot.2.2.1 120 = .ok (.lsub, 1) := mj_d (q := (120, .lsub, 1)) k_Mo_takeRoot 63 rfl
theorem d_Mo_takeRoot_121 : decode y_Mo_takeRoot.2.2.1 121 = .ok (.lstore 7, 2) := mj_d (q := (121, .lstore 7, 2)) k_Mo_takeRoot 64 rfl
theorem d_Mo_takeRoot_123 : decode y_Mo_takeRoot.2.2.1 123 = .ok (.aload_n 0, 1) := mj_d (q := (123, .aload_n 0, 1)) k_Mo_takeRoot 65 rfl
theorem d_Mo_takeRoot_124 : decode y_Mo_takeRoot.2.2.1 124 = .ok (.iload 9, 2) := mj_d (q := (124, .iload 9, 2)) k_Mo_takeRoot 66 rfl
theorem d_Mo_takeRoot_126 : decode y_Mo_takeRoot.2.2.1 126 = .ok (.iload 6, 2) := mj_d (q := (126, .iload 6, 2)) k_Mo_takeRoot 67 rfl
theorem d_Mo_takeRoot_128 : decode y_Mo_takeRoot.2.2.1 128 = .ok (.invokevirtual 136, 3) := mj_d (q := (128, .invokevirtual 136, 3)) k_Mo_takeRoot 68 rfl
theorem d_Mo_takeRoot_131 : decode y_Mo_takeRoot.2.2.1 131 = .ok (.istore 10, 2) := mj_d (q := (131, .istore 10, 2)) k_Mo_takeRoot 69 rfl
theorem d_Mo_takeRoot_133 : decode y_Mo_takeRoot.2.2.1 133 = .ok (.goto (-70), 3) := mj_d (q := (133, .goto (-70), 3)) k_Mo_takeRoot 70 rfl
theorem d_Mo_takeRoot_136 : decode y_Mo_takeRoot.2.2.1 136 = .ok (.iinc 9 1, 3) := mj_d (q := (136, .iinc 9 1, 3)) k_Mo_takeRoot 71 rfl
theorem d_Mo_takeRoot_139 : decode y_Mo_takeRoot.2.2.1 139 = .ok (.goto (-110), 3) := mj_d (q := (139, .goto (-110), 3)) k_Mo_takeRoot 72 rfl
theorem d_Mo_takeRoot_142 : decode y_Mo_takeRoot.2.2.1 142 = .ok (.iconst (-1), 1) := mj_d (q := (142, .iconst (-1), 1)) k_Mo_takeRoot 73 rfl
theorem d_Mo_takeRoot_143 : decode y_Mo_takeRoot.2.2.1 143 = .ok (.ireturn, 1) := mj_d (q := (143, .ireturn, 1)) k_Mo_takeRoot 74 rfl
theorem d_Mo_comeAll_0 : decode y_Mo_comeAll.2.2.1 0 = .ok (.lload 4, 2) := mj_d (q := (0, .lload 4, 2)) k_Mo_comeAll 0 rfl
theorem d_Mo_comeAll_2 : decode y_Mo_comeAll.2.2.1 2 = .ok (.lstore 6, 2) := mj_d (q := (2, .lstore 6, 2)) k_Mo_comeAll 1 rfl
theorem d_Mo_comeAll_4 : decode y_Mo_comeAll.2.2.1 4 = .ok (.aload_n 0, 1) := mj_d (q := (4, .aload_n 0, 1)) k_Mo_comeAll 2 rfl
theorem d_Mo_comeAll_5 : decode y_Mo_comeAll.2.2.1 5 = .ok (.getfield 13, 3) := mj_d (q := (5, .getfield 13, 3)) k_Mo_comeAll 3 rfl
theorem d_Mo_comeAll_8 : decode y_Mo_comeAll.2.2.1 8 = .ok (.iload_n 1, 1) := mj_d (q := (8, .iload_n 1, 1)) k_Mo_comeAll 4 rfl
theorem d_Mo_comeAll_9 : decode y_Mo_comeAll.2.2.1 9 = .ok (.iaload, 1) := mj_d (q := (9, .iaload, 1)) k_Mo_comeAll 5 rfl
theorem d_Mo_comeAll_10 : decode y_Mo_comeAll.2.2.1 10 = .ok (.iconst 1, 1) := mj_d (q := (10, .iconst 1, 1)) k_Mo_comeAll 6 rfl
theorem d_Mo_comeAll_11 : decode y_Mo_comeAll.2.2.1 11 = .ok (.isub, 1) := mj_d (q := (11, .isub, 1)) k_Mo_comeAll 7 rfl
theorem d_Mo_comeAll_12 : decode y_Mo_comeAll.2.2.1 12 = .ok (.istore 8, 2) := mj_d (q := (12, .istore 8, 2)) k_Mo_comeAll 8 rfl
theorem d_Mo_comeAll_14 : decode y_Mo_comeAll.2.2.1 14 = .ok (.iload 8, 2) := mj_d (q := (14, .iload 8, 2)) k_Mo_comeAll 9 rfl
theorem d_Mo_comeAll_16 : decode y_Mo_comeAll.2.2.1 16 = .ok (.ifCond .lt 84, 3) := mj_d (q := (16, .ifCond .lt 84, 3)) k_Mo_comeAll 10 rfl
theorem d_Mo_comeAll_19 : decode y_Mo_comeAll.2.2.1 19 = .ok (.aload_n 0, 1) := mj_d (q := (19, .aload_n 0, 1)) k_Mo_comeAll 11 rfl
theorem d_Mo_comeAll_20 : decode y_Mo_comeAll.2.2.1 20 = .ok (.getfield 16, 3) := mj_d (q := (20, .getfield 16, 3)) k_Mo_comeAll 12 rfl
theorem d_Mo_comeAll_23 : decode y_Mo_comeAll.2.2.1 23 = .ok (.iconst 3, 1) := mj_d (q := (23, .iconst 3, 1)) k_Mo_comeAll 13 rfl
theorem d_Mo_comeAll_24 : decode y_Mo_comeAll.2.2.1 24 = .ok (.iload_n 1, 1) := mj_d (q := (24, .iload_n 1, 1)) k_Mo_comeAll 14 rfl
theorem d_Mo_comeAll_25 : decode y_Mo_comeAll.2.2.1 25 = .ok (.imul, 1) := mj_d (q := (25, .imul, 1)) k_Mo_comeAll 15 rfl
theorem d_Mo_comeAll_26 : decode y_Mo_comeAll.2.2.1 26 = .ok (.iload 8, 2) := mj_d (q := (26, .iload 8, 2)) k_Mo_comeAll 16 rfl
theorem d_Mo_comeAll_28 : decode y_Mo_comeAll.2.2.1 28 = .ok (.iadd, 1) := mj_d (q := (28, .iadd, 1)) k_Mo_comeAll 17 rfl
theorem d_Mo_comeAll_29 : decode y_Mo_comeAll.2.2.1 29 = .ok (.iaload, 1) := mj_d (q := (29, .iaload, 1)) k_Mo_comeAll 18 rfl
theorem d_Mo_comeAll_30 : decode y_Mo_comeAll.2.2.1 30 = .ok (.istore 9, 2) := mj_d (q := (30, .istore 9, 2)) k_Mo_comeAll 19 rfl
theorem d_Mo_comeAll_32 : decode y_Mo_comeAll.2.2.1 32 = .ok (.iload 9, 2) := mj_d (q := (32, .iload 9, 2)) k_Mo_comeAll 20 rfl
theorem d_Mo_comeAll_34 : decode y_Mo_comeAll.2.2.1 34 = .ok (.bipush 8, 2) := mj_d (q := (34, .bipush 8, 2)) k_Mo_comeAll 21 rfl
theorem d_Mo_comeAll_36 : decode y_Mo_comeAll.2.2.1 36 = .ok (.if_icmp .ge 58, 3) := mj_d (q := (36, .if_icmp .ge 58, 3)) k_Mo_comeAll 22 rfl
theorem d_Mo_comeAll_39 : decode y_Mo_comeAll.2.2.1 39 = .ok (.iload 9, 2) := mj_d (q := (39, .iload 9, 2)) k_Mo_comeAll 23 rfl
theorem d_Mo_comeAll_41 : decode y_Mo_comeAll.2.2.1 41 = .ok (.aload_n 0, 1) := mj_d (q := (41, .aload_n 0, 1)) k_Mo_comeAll 24 rfl
theorem d_Mo_comeAll_42 : decode y_Mo_comeAll.2.2.1 42 = .ok (.iload_n 1, 1) := mj_d (q := (42, .iload_n 1, 1)) k_Mo_comeAll 25 rfl
theorem d_Mo_comeAll_43 : decode y_Mo_comeAll.2.2.1 43 = .ok (.iload 8, 2) := mj_d (q := (43, .iload 8, 2)) k_Mo_comeAll 26 rfl
theorem d_Mo_comeAll_45 : decode y_Mo_comeAll.2.2.1 45 = .ok (.iload_n 2, 1) := mj_d (q := (45, .iload_n 2, 1)) k_Mo_comeAll 27 rfl
theorem d_Mo_comeAll_46 : decode y_Mo_comeAll.2.2.1 46 = .ok (.iload_n 3, 1) := mj_d (q := (46, .iload_n 3, 1)) k_Mo_comeAll 28 rfl
theorem d_Mo_comeAll_47 : decode y_Mo_comeAll.2.2.1 47 = .ok (.invokevirtual 123, 3) := mj_d (q := (47, .invokevirtual 123, 3)) k_Mo_comeAll 29 rfl
theorem d_Mo_comeAll_50 : decode y_Mo_comeAll.2.2.1 50 = .ok (.aload_n 0, 1) := mj_d (q := (50, .aload_n 0, 1)) k_Mo_comeAll 30 rfl
theorem d_Mo_comeAll_51 : decode y_Mo_comeAll.2.2.1 51 = .ok (.iload_n 1, 1) := mj_d (q := (51, .iload_n 1, 1)) k_Mo_comeAll 31 rfl
theorem d_Mo_comeAll_52 : decode y_Mo_comeAll.2.2.1 52 = .ok (.iload 8, 2) := mj_d (q := (52, .iload 8, 2)) k_Mo_comeAll 32 rfl
theorem d_Mo_comeAll_54 : decode y_Mo_comeAll.2.2.1 54 = .ok (.iconst 1, 1) := mj_d (q := (54, .iconst 1, 1)) k_Mo_comeAll 33 rfl
theorem d_Mo_comeAll_55 : decode y_Mo_comeAll.2.2.1 55 = .ok (.iadd, 1) := mj_d (q := (55, .iadd, 1)) k_Mo_comeAll 34 rfl
theorem d_Mo_comeAll_56 : decode y_Mo_comeAll.2.2.1 56 = .ok (.iload_n 2, 1) := mj_d (q := (56, .iload_n 2, 1)) k_Mo_comeAll 35 rfl
theorem d_Mo_comeAll_57 : decode y_Mo_comeAll.2.2.1 57 = .ok (.iload_n 3, 1) := mj_d (q := (57, .iload_n 3, 1)) k_Mo_comeAll 36 rfl
theorem d_Mo_comeAll_58 : decode y_Mo_comeAll.2.2.1 58 = .ok (.invokevirtual 123, 3) := mj_d (q := (58, .invokevirtual 123, 3)) k_Mo_comeAll 37 rfl
theorem d_Mo_comeAll_61 : decode y_Mo_comeAll.2.2.1 61 = .ok (.invokestatic 113, 3) := mj_d (q := (61, .invokestatic 113, 3)) k_Mo_comeAll 38 rfl
theorem d_Mo_comeAll_64 : decode y_Mo_comeAll.2.2.1 64 = .ok (.istore 10, 2) := mj_d (q := (64, .istore 10, 2)) k_Mo_comeAll 39 rfl
theorem d_Mo_comeAll_66 : decode y_Mo_comeAll.2.2.1 66 = .ok (.aload_n 0, 1) := mj_d (q := (66, .aload_n 0, 1)) k_Mo_comeAll 40 rfl
theorem d_Mo_comeAll_67 : decode y_Mo_comeAll.2.2.1 67 = .ok (.iload 10, 2) := mj_d (q := (67, .iload 10, 2)) k_Mo_comeAll 41 rfl
theorem d_Mo_comeAll_69 : decode y_Mo_comeAll.2.2.1 69 = .ok (.lload 6, 2) := mj_d (q := (69, .lload 6, 2)) k_Mo_comeAll 42 rfl
theorem d_Mo_comeAll_71 : decode y_Mo_comeAll.2.2.1 71 = .ok (.aload_n 0, 1) := mj_d (q := (71, .aload_n 0, 1)) k_Mo_comeAll 43 rfl
theorem d_Mo_comeAll_72 : decode y_Mo_comeAll.2.2.1 72 = .ok (.getfield 32, 3) := mj_d (q := (72, .getfield 32, 3)) k_Mo_comeAll 44 rfl
theorem d_Mo_comeAll_75 : decode y_Mo_comeAll.2.2.1 75 = .ok (.iload 10, 2) := mj_d (q := (75, .iload 10, 2)) k_Mo_comeAll 45 rfl
theorem d_Mo_comeAll_77 : decode y_Mo_comeAll.2.2.1 77 = .ok (.laload, 1) := mj_d (q := (77, .laload, 1)) k_Mo_comeAll 46 rfl
theorem d_Mo_comeAll_78 : decode y_Mo_comeAll.2.2.1 78 = .ok (.lrem, 1) := mj_d (q := (78, .lrem, 1)) k_Mo_comeAll 47 rfl
theorem d_Mo_comeAll_79 : decode y_Mo_comeAll.2.2.1 79 = .ok (.invokevirtual 179, 3) := mj_d (q := (79, .invokevirtual 179, 3)) k_Mo_comeAll 48 rfl
theorem d_Mo_comeAll_82 : decode y_Mo_comeAll.2.2.1 82 = .ok (.lload 6, 2) := mj_d (q := (82, .lload 6, 2)) k_Mo_comeAll 49 rfl
theorem d_Mo_comeAll_84 : decode y_Mo_comeAll.2.2.1 84 = .ok (.aload_n 0, 1) := mj_d (q := (84, .aload_n 0, 1)) k_Mo_comeAll 50 rfl
theorem d_Mo_comeAll_85 : decode y_Mo_comeAll.2.2.1 85 = .ok (.getfield 32, 3) := mj_d (q := (85, .getfield 32, 3)) k_Mo_comeAll 51 rfl
theorem d_Mo_comeAll_88 : decode y_Mo_comeAll.2.2.1 88 = .ok (.iload 10, 2) := mj_d (q := (88, .iload 10, 2)) k_Mo_comeAll 52 rfl
theorem d_Mo_comeAll_90 : decode y_Mo_comeAll.2.2.1 90 = .ok (.laload, 1) := mj_d (q := (90, .laload, 1)) k_Mo_comeAll 53 rfl
theorem d_Mo_comeAll_91 : decode y_Mo_comeAll.2.2.1 91 = .ok (.ldiv, 1) := mj_d (q := (91, .ldiv, 1)) k_Mo_comeAll 54 rfl
theorem d_Mo_comeAll_92 : decode y_Mo_comeAll.2.2.1 92 = .ok (.lstore 6, 2) := mj_d (q := (92, .lstore 6, 2)) k_Mo_comeAll 55 rfl
theorem d_Mo_comeAll_94 : decode y_Mo_comeAll.2.2.1 94 = .ok (.iinc 8 (-1), 3) := mj_d (q := (94, .iinc 8 (-1), 3)) k_Mo_comeAll 56 rfl
theorem d_Mo_comeAll_97 : decode y_Mo_comeAll.2.2.1 97 = .ok (.goto (-83), 3) := mj_d (q := (97, .goto (-83), 3)) k_Mo_comeAll 57 rfl
theorem d_Mo_comeAll_100 : decode y_Mo_comeAll.2.2.1 100 = .ok (.return_, 1) := mj_d (q := (100, .return_, 1)) k_Mo_comeAll 58 rfl
