/-! ===== the law's own rows (by program) ===== -/
abbrev y_La_law : mj_Y := ("ChartForestLaw", ⟨"ChartForestLaw", "law", "([I)Z"⟩, code, 8, some .boolean)
theorem k_La_law_0 : mj_dec y_La_law.2.2.1 [(0, .new 8, 3), (3, .dup, 1), (4, .aload_n 0, 1), (5, .iconst 0, 1), (6, .invokestatic 50, 3), (9, .invokespecial 56, 3), (12, .astore_n 1, 1), (13, .new 59, 3), (16, .dup, 1), (17, .aload_n 0, 1), (18, .iconst 0, 1), (19, .invokestatic 50, 3), (22, .invokespecial 61, 3), (25, .astore_n 2, 1), (26, .iconst 1, 1), (27, .newarray .long, 2), (29, .astore_n 3, 1), (30, .iconst 1, 1), (31, .istore 4, 2), (33, .iload 4, 2), (35, .aload_n 0, 1), (36, .arraylength, 1), (37, .iconst 5, 1), (38, .isub, 1), (39, .if_icmp .gt 809, 3)] = true := by decide +kernel
theorem d_La_law_0 : decode y_La_law.2.2.1 0 = .ok (.new 8, 3) := mj_d (q := (0, .new 8, 3)) k_La_law_0 0 rfl
theorem d_La_law_3 : decode y_La_law.2.2.1 3 = .ok (.dup, 1) := mj_d (q := (3, .dup, 1)) k_La_law_0 1 rfl
theorem d_La_law_4 : decode y_La_law.2.2.1 4 = .ok (.aload_n 0, 1) := mj_d (q := (4, .aload_n 0, 1)) k_La_law_0 2 rfl
theorem d_La_law_5 : decode y_La_law.2.2.1 5 = .ok (.iconst 0, 1) := mj_d (q := (5, .iconst 0, 1)) k_La_law_0 3 rfl
theorem d_La_law_6 : decode y_La_law.2.2.1 6 = .ok (.invokestatic 50, 3) := mj_d (q := (6, .invokestatic 50, 3)) k_La_law_0 4 rfl
theorem d_La_law_9 : decode y_La_law.2.2.1 9 = .ok (.invokespecial 56, 3) := mj_d (q := (9, .invokespecial 56, 3)) k_La_law_0 5 rfl
theorem d_La_law_12 : decode y_La_law.2.2.1 12 = .ok (.astore_n 1, 1) := mj_d (q := (12, .astore_n 1, 1)) k_La_law_0 6 rfl
theorem d_La_law_13 : decode y_La_law.2.2.1 13 = .ok (.new 59, 3) := mj_d (q := (13, .new 59, 3)) k_La_law_0 7 rfl
theorem d_La_law_16 : decode y_La_law.2.2.1 16 = .ok (.dup, 1) := mj_d (q := (16, .dup, 1)) k_La_law_0 8 rfl
theorem d_La_law_17 : decode y_La_law.2.2.1 17 = .ok (.aload_n 0, 1) := mj_d (q := (17, .aload_n 0, 1)) k_La_law_0 9 rfl
theorem d_La_law_18 : decode y_La_law.2.2.1 18 = .ok (.iconst 0, 1) := mj_d (q := (18, .iconst 0, 1)) k_La_law_0 10 rfl
theorem d_La_law_19 : decode y_La_law.2.2.1 19 = .ok (.invokestatic 50, 3) := mj_d (q := (19, .invokestatic 50, 3)) k_La_law_0 11 rfl
theorem d_La_law_22 : decode y_La_law.2.2.1 22 = .ok (.invokespecial 61, 3) := mj_d (q := (22, .invokespecial 61, 3)) k_La_law_0 12 rfl
theorem d_La_law_25 : decode y_La_law.2.2.1 25 = .ok (.astore_n 2, 1) := mj_d (q := (25, .astore_n 2, 1)) k_La_law_0 13 rfl
theorem d_La_law_26 : decode y_La_law.2.2.1 26 = .ok (.iconst 1, 1) := mj_d (q := (26, .iconst 1, 1)) k_La_law_0 14 rfl
theorem d_La_law_27 : decode y_La_law.2.2.1 27 = .ok (.newarray .long, 2) := mj_d (q := (27, .newarray .long, 2)) k_La_law_0 15 rfl
theorem d_La_law_29 : decode y_La_law.2.2.1 29 = .ok (.astore_n 3, 1) := mj_d (q := (29, .astore_n 3, 1)) k_La_law_0 16 rfl
theorem d_La_law_30 : decode y_La_law.2.2.1 30 = .ok (.iconst 1, 1) := mj_d (q := (30, .iconst 1, 1)) k_La_law_0 17 rfl
theorem d_La_law_31 : decode y_La_law.2.2.1 31 = .ok (.istore 4, 2) := mj_d (q := (31, .istore 4, 2)) k_La_law_0 18 rfl
theorem d_La_law_33 : decode y_La_law.2.2.1 33 = .ok (.iload 4, 2) := mj_d (q := (33, .iload 4, 2)) k_La_law_0 19 rfl
theorem d_La_law_35 : decode y_La_law.2.2.1 35 = .ok (.aload_n 0, 1) := mj_d (q := (35, .aload_n 0, 1)) k_La_law_0 20 rfl
theorem d_La_law_36 : decode y_La_law.2.2.1 36 = .ok (.arraylength, 1) := mj_d (q := (36, .arraylength, 1)) k_La_law_0 21 rfl
theorem d_La_law_37 : decode y_La_law.2.2.1 37 = .ok (.iconst 5, 1) := mj_d (q := (37, .iconst 5, 1)) k_La_law_0 22 rfl
theorem d_La_law_38 : decode y_La_law.2.2.1 38 = .ok (.isub, 1) := mj_d (q := (38, .isub, 1)) k_La_law_0 23 rfl
theorem d_La_law_39 : decode y_La_law.2.2.1 39 = .ok (.if_icmp .gt 809, 3) := mj_d (q := (39, .if_icmp .gt 809, 3)) k_La_law_0 24 rfl
theorem k_La_law_25 : mj_dec y_La_law.2.2.1 [(42, .aload_n 0, 1), (43, .iload 4, 2), (45, .iaload, 1), (46, .bipush 15, 2), (48, .iand, 1), (49, .tableswitch 793 0 12 #[67, 147, 203, 259, 272, 285, 298, 354, 453, 521, 601, 680, 693], 67), (116, .aload_n 1, 1), (117, .aload_n 0, 1), (118, .iload 4, 2), (120, .iconst 1, 1), (121, .iadd, 1), (122, .iaload, 1), (123, .aload_n 0, 1), (124, .iload 4, 2), (126, .iconst 2, 1), (127, .iadd, 1), (128, .iaload, 1), (129, .aload_n 0, 1), (130, .iload 4, 2), (132, .iconst 3, 1), (133, .iadd, 1), (134, .iaload, 1), (135, .aload_n 3, 1), (136, .invokestatic 62, 3), (139, .istore 5, 2)] = true := by decide +kernel
theorem d_La_law_42 : decode y_La_law.2.2.1 42 = .ok (.aload_n 0, 1) := mj_d (q := (42, .aload_n 0, 1)) k_La_law_25 0 rfl
theorem d_La_law_43 : decode y_La_law.2.2.1 43 = .ok (.iload 4, 2) := mj_d (q := (43, .iload 4, 2)) k_La_law_25 1 rfl
theorem d_La_law_45 : decode y_La_law.2.2.1 45 = .ok (.iaload, 1) := mj_d (q := (45, .iaload, 1)) k_La_law_25 2 rfl
theorem d_La_law_46 : decode y_La_law.2.2.1 46 = .ok (.bipush 15, 2) := mj_d (q := (46, .bipush 15, 2)) k_La_law_25 3 rfl
theorem d_La_law_48 : decode y_La_law.2.2.1 48 = .ok (.iand, 1) := mj_d (q := (48, .iand, 1)) k_La_law_25 4 rfl
theorem d_La_law_49 : decode y_La_law.2.2.1 49 = .ok (.tableswitch 793 0 12 #[67, 147, 203, 259, 272, 285, 298, 354, 453, 521, 601, 680, 693], 67) := mj_d (q := (49, .tableswitch 793 0 12 #[67, 147, 203, 259, 272, 285, 298, 354, 453, 521, 601, 680, 693], 67)) k_La_law_25 5 rfl
theorem d_La_law_116 : decode y_La_law.2.2.1 116 = .ok (.aload_n 1, 1) := mj_d (q := (116, .aload_n 1, 1)) k_La_law_25 6 rfl
theorem d_La_law_117 : decode y_La_law.2.2.1 117 = .ok (.aload_n 0, 1) := mj_d (q := (117, .aload_n 0, 1)) k_La_law_25 7 rfl
theorem d_La_law_118 : decode y_La_law.2.2.1 118 = .ok (.iload 4, 2) := mj_d (q := (118, .iload 4, 2)) k_La_law_25 8 rfl
theorem d_La_law_120 : decode y_La_law.2.2.1 120 = .ok (.iconst 1, 1) := mj_d (q := (120, .iconst 1, 1)) k_La_law_25 9 rfl
theorem d_La_law_121 : decode y_La_law.2.2.1 121 = .ok (.iadd, 1) := mj_d (q := (121, .iadd, 1)) k_La_law_25 10 rfl
theorem d_La_law_122 : decode y_La_law.2.2.1 122 = .ok (.iaload, 1) := mj_d (q := (122, .iaload, 1)) k_La_law_25 11 rfl
theorem d_La_law_123 : decode y_La_law.2.2.1 123 = .ok (.aload_n 0, 1) := mj_d (q := (123, .aload_n 0, 1)) k_La_law_25 12 rfl
theorem d_La_law_124 : decode y_La_law.2.2.1 124 = .ok (.iload 4, 2) := mj_d (q := (124, .iload 4, 2)) k_La_law_25 13 rfl
theorem d_La_law_126 : decode y_La_law.2.2.1 126 = .ok (.iconst 2, 1) := mj_d (q := (126, .iconst 2, 1)) k_La_law_25 14 rfl
theorem d_La_law_127 : decode y_La_law.2.2.1 127 = .ok (.iadd, 1) := mj_d (q := (127, .iadd, 1)) k_La_law_25 15 rfl
theorem d_La_law_128 : decode y_La_law.2.2.1 128 = .ok (.iaload, 1) := mj_d (q := (128, .iaload, 1)) k_La_law_25 16 rfl
theorem d_La_law_129 : decode y_La_law.2.2.1 129 = .ok (.aload_n 0, 1) := mj_d (q := (129, .aload_n 0, 1)) k_La_law_25 17 rfl
theorem d_La_law_130 : decode y_La_law.2.2.1 130 = .ok (.iload 4, 2) := mj_d (q := (130, .iload 4, 2)) k_La_law_25 18 rfl
theorem d_La_law_132 : decode y_La_law.2.2.1 132 = .ok (.iconst 3, 1) := mj_d (q := (132, .iconst 3, 1)) k_La_law_25 19 rfl
theorem d_La_law_133 : decode y_La_law.2.2.1 133 = .ok (.iadd, 1) := mj_d (q := (133, .iadd, 1)) k_La_law_25 20 rfl
theorem d_La_law_134 : decode y_La_law.2.2.1 134 = .ok (.iaload, 1) := mj_d (q := (134, .iaload, 1)) k_La_law_25 21 rfl
theorem d_La_law_135 : decode y_La_law.2.2.1 135 = .ok (.aload_n 3, 1) := mj_d (q := (135, .aload_n 3, 1)) k_La_law_25 22 rfl
theorem d_La_law_136 : decode y_La_law.2.2.1 136 = .ok (.invokestatic 62, 3) := mj_d (q := (136, .invokestatic 62, 3)) k_La_law_25 23 rfl
theorem d_La_law_139 : decode y_La_law.2.2.1 139 = .ok (.istore 5, 2) := mj_d (q := (139, .istore 5, 2)) k_La_law_25 24 rfl
theorem k_La_law_50 : mj_dec y_La_law.2.2.1 [(141, .aload_n 2, 1), (142, .aload_n 0, 1), (143, .iload 4, 2), (145, .iconst 1, 1), (146, .iadd, 1), (147, .iaload, 1), (148, .aload_n 0, 1), (149, .iload 4, 2), (151, .iconst 2, 1), (152, .iadd, 1), (153, .iaload, 1), (154, .aload_n 0, 1), (155, .iload 4, 2), (157, .iconst 3, 1), (158, .iadd, 1), (159, .iaload, 1), (160, .invokevirtual 65, 3), (163, .istore 6, 2), (165, .aload_n 2, 1), (166, .invokevirtual 66, 3), (169, .iload 5, 2), (171, .if_icmp .eq 5, 3), (174, .iconst 0, 1), (175, .ireturn, 1), (176, .iload 5, 2)] = true := by decide +kernel
theorem d_La_law_141 : decode y_La_law.2.2.1 141 = .ok (.aload_n 2, 1) := mj_d (q := (141, .aload_n 2, 1)) k_La_law_50 0 rfl
theorem d_La_law_142 : decode y_La_law.2.2.1 142 = .ok (.aload_n 0, 1) := mj_d (q := (142, .aload_n 0, 1)) k_La_law_50 1 rfl
theorem d_La_law_143 : decode y_La_law.2.2.1 143 = .ok (.iload 4, 2) := mj_d (q := (143, .iload 4, 2)) k_La_law_50 2 rfl
theorem d_La_law_145 : decode y_La_law.2.2.1 145 = .ok (.iconst 1, 1) := mj_d (q := (145, .iconst 1, 1)) k_La_law_50 3 rfl
theorem d_La_law_146 : decode y_La_law.2.2.1 146 = .ok (.iadd, 1) := mj_d (q := (146, .iadd, 1)) k_La_law_50 4 rfl
theorem d_La_law_147 : decode y_La_law.2.2.1 147 = .ok (.iaload, 1) := mj_d (q := (147, .iaload, 1)) k_La_law_50 5 rfl
theorem d_La_law_148 : decode y_La_law.2.2.1 148 = .ok (.aload_n 0, 1) := mj_d (q := (148, .aload_n 0, 1)) k_La_law_50 6 rfl
theorem d_La_law_149 : decode y_La_law.2.2.1 149 = .ok (.iload 4, 2) := mj_d (q := (149, .iload 4, 2)) k_La_law_50 7 rfl
theorem d_La_law_151 : decode y_La_law.2.2.1 151 = .ok (.iconst 2, 1) := mj_d (q := (151, .iconst 2, 1)) k_La_law_50 8 rfl
theorem d_La_law_152 : decode y_La_law.2.2.1 152 = .ok (.iadd, 1) := mj_d (q := (152, .iadd, 1)) k_La_law_50 9 rfl
theorem d_La_law_153 : decode y_La_law.2.2.1 153 = .ok (.iaload, 1) := mj_d (q := (153, .iaload, 1)) k_La_law_50 10 rfl
theorem d_La_law_154 : decode y_La_law.2.2.1 154 = .ok (.aload_n 0, 1) := mj_d (q := (154, .aload_n 0, 1)) k_La_law_50 11 rfl
theorem d_La_law_155 : decode y_La_law.2.2.1 155 = .ok (.iload 4, 2) := mj_d (q := (155, .iload 4, 2)) k_La_law_50 12 rfl
theorem d_La_law_157 : decode y_La_law.2.2.1 157 = .ok (.iconst 3, 1) := mj_d (q := (157, .iconst 3, 1)) k_La_law_50 13 rfl
theorem d_La_law_158 : decode y_La_law.2.2.1 158 = .ok (.iadd, 1) := mj_d (q := (158, .iadd, 1)) k_La_law_50 14 rfl
theorem d_La_law_159 : decode y_La_law.2.2.1 159 = .ok (.iaload, 1) := mj_d (q := (159, .iaload, 1)) k_La_law_50 15 rfl
theorem d_La_law_160 : decode y_La_law.2.2.1 160 = .ok (.invokevirtual 65, 3) := mj_d (q := (160, .invokevirtual 65, 3)) k_La_law_50 16 rfl
theorem d_La_law_163 : decode y_La_law.2.2.1 163 = .ok (.istore 6, 2) := mj_d (q := (163, .istore 6, 2)) k_La_law_50 17 rfl
theorem d_La_law_165 : decode y_La_law.2.2.1 165 = .ok (.aload_n 2, 1) := mj_d (q := (165, .aload_n 2, 1)) k_La_law_50 18 rfl
theorem d_La_law_166 : decode y_La_law.2.2.1 166 = .ok (.invokevirtual 66, 3) := mj_d (q := (166, .invokevirtual 66, 3)) k_La_law_50 19 rfl
theorem d_La_law_169 : decode y_La_law.2.2.1 169 = .ok (.iload 5, 2) := mj_d (q := (169, .iload 5, 2)) k_La_law_50 20 rfl
theorem d_La_law_171 : decode y_La_law.2.2.1 171 = .ok (.if_icmp .eq 5, 3) := mj_d (q := (171, .if_icmp .eq 5, 3)) k_La_law_50 21 rfl
theorem d_La_law_174 : decode y_La_law.2.2.1 174 = .ok (.iconst 0, 1) := mj_d (q := (174, .iconst 0, 1)) k_La_law_50 22 rfl
theorem d_La_law_175 : decode y_La_law.2.2.1 175 = .ok (.ireturn, 1) := mj_d (q := (175, .ireturn, 1)) k_La_law_50 23 rfl
theorem d_La_law_176 : decode y_La_law.2.2.1 176 = .ok (.iload 5, 2) := mj_d (q := (176, .iload 5, 2)) k_La_law_50 24 rfl
theorem k_La_law_75 : mj_dec y_La_law.2.2.1 [(178, .ifCond .ne 15, 3), (181, .aload_n 3, 1), (182, .iconst 0, 1), (183, .laload, 1), (184, .iload 6, 2), (186, .i2l, 1), (187, .lcmp, 1), (188, .ifCond .eq 5, 3), (191, .iconst 0, 1), (192, .ireturn, 1), (193, .goto 649, 3), (196, .aload_n 1, 1), (197, .aload_n 0, 1), (198, .iload 4, 2), (200, .iconst 1, 1), (201, .iadd, 1), (202, .iaload, 1), (203, .aload_n 3, 1), (204, .invokestatic 70, 3), (207, .istore 5, 2), (209, .aload_n 2, 1), (210, .aload_n 0, 1), (211, .iload 4, 2), (213, .iconst 1, 1), (214, .iadd, 1)] = true := by decide +kernel
theorem d_La_law_178 : decode y_La_law.2.2.1 178 = .ok (.ifCond .ne 15, 3) := mj_d (q := (178, .ifCond .ne 15, 3)) k_La_law_75 0 rfl
theorem d_La_law_181 : decode y_La_law.2.2.1 181 = .ok (.aload_n 3, 1) := mj_d (q := (181, .aload_n 3, 1)) k_La_law_75 1 rfl
theorem d_La_law_182 : decode y_La_law.2.2.1 182 = .ok (.iconst 0, 1) := mj_d (q := (182, .iconst 0, 1)) k_La_law_75 2 rfl
theorem d_La_law_183 : decode y_La_law.2.2.1 183 = .ok (.laload, 1) := mj_d (q := (183, .laload, 1)) k_La_law_75 3 rfl
theorem d_La_law_184 : decode y_La_law.2.2.1 184 = .ok (.iload 6, 2) := mj_d (q := (184, .iload 6, 2)) k_La_law_75 4 rfl
theorem d_La_law_186 : decode y_La_law.2.2.1 186 = .ok (.i2l, 1) := mj_d (q := (186, .i2l, 1)) k_La_law_75 5 rfl
theorem d_La_law_187 : decode y_La_law.2.2.1 187 = .ok (.lcmp, 1) := mj_d (q := (187, .lcmp, 1)) k_La_law_75 6 rfl
theorem d_La_law_188 : decode y_La_law.2.2.1 188 = .ok (.ifCond .eq 5, 3) := mj_d (q := (188, .ifCond .eq 5, 3)) k_La_law_75 7 rfl
theorem d_La_law_191 : decode y_La_law.2.2.1 191 = .ok (.iconst 0, 1) := mj_d (q := (191, .iconst 0, 1)) k_La_law_75 8 rfl
theorem d_La_law_192 : decode y_La_law.2.2.1 192 = .ok (.ireturn, 1) := mj_d (q := (192, .ireturn, 1)) k_La_law_75 9 rfl
theorem d_La_law_193 : decode y_La_law.2.2.1 193 = .ok (.goto 649, 3) := mj_d (q := (193, .goto 649, 3)) k_La_law_75 10 rfl
theorem d_La_law_196 : decode y_La_law.2.2.1 196 = .ok (.aload_n 1, 1) := mj_d (q := (196, .aload_n 1, 1)) k_La_law_75 11 rfl
theorem d_La_law_197 : decode y_La_law.2.2.1 197 = .ok (.aload_n 0, 1) := mj_d (q := (197, .aload_n 0, 1)) k_La_law_75 12 rfl
theorem d_La_law_198 : decode y_La_law.2.2.1 198 = .ok (.iload 4, 2) := mj_d (q := (198, .iload 4, 2)) k_La_law_75 13 rfl
theorem d_La_law_200 : decode y_La_law.2.2.1 200 = .ok (.iconst 1, 1) := mj_d (q := (200, .iconst 1, 1)) k_La_law_75 14 rfl
theorem d_La_law_201 : decode y_La_law.2.2.1 201 = .ok (.iadd, 1) := mj_d (q := (201, .iadd, 1)) k_La_law_75 15 rfl
theorem d_La_law_202 : decode y_La_law.2.2.1 202 = .ok (.iaload, 1) := mj_d (q := (202, .iaload, 1)) k_La_law_75 16 rfl
theorem d_La_law_203 : decode y_La_law.2.2.1 203 = .ok (.aload_n 3, 1) := mj_d (q := (203, .aload_n 3, 1)) k_La_law_75 17 rfl
theorem d_La_law_204 : decode y_La_law.2.2.1 204 = .ok (.invokestatic 70, 3) := mj_d (q := (204, .invokestatic 70, 3)) k_La_law_75 18 rfl
theorem d_La_law_207 : decode y_La_law.2.2.1 207 = .ok (.istore 5, 2) := mj_d (q := (207, .istore 5, 2)) k_La_law_75 19 rfl
theorem d_La_law_209 : decode y_La_law.2.2.1 209 = .ok (.aload_n 2, 1) := mj_d (q := (209, .aload_n 2, 1)) k_La_law_75 20 rfl
theorem d_La_law_210 : decode y_La_law.2.2.1 210 = .ok (.aload_n 0, 1) := mj_d (q := (210, .aload_n 0, 1)) k_La_law_75 21 rfl
theorem d_La_law_211 : decode y_La_law.2.2.1 211 = .ok (.iload 4, 2) := mj_d (q := (211, .iload 4, 2)) k_La_law_75 22 rfl
theorem d_La_law_213 : decode y_La_law.2.2.1 213 = .ok (.iconst 1, 1) := mj_d (q := (213, .iconst 1, 1)) k_La_law_75 23 rfl
theorem d_La_law_214 : decode y_La_law.2.2.1 214 = .ok (.iadd, 1) := mj_d (q := (214, .iadd, 1)) k_La_law_75 24 rfl
theorem k_La_law_100 : mj_dec y_La_law.2.2.1 [(215, .iaload, 1), (216, .invokevirtual 73, 3), (219, .istore 6, 2), (221, .aload_n 2, 1), (222, .invokevirtual 66, 3), (225, .iload 5, 2), (227, .if_icmp .eq 5, 3), (230, .iconst 0, 1), (231, .ireturn, 1), (232, .iload 5, 2), (234, .ifCond .ne 15, 3), (237, .aload_n 3, 1), (238, .iconst 0, 1), (239, .laload, 1), (240, .iload 6, 2), (242, .i2l, 1), (243, .lcmp, 1), (244, .ifCond .eq 5, 3), (247, .iconst 0, 1), (248, .ireturn, 1), (249, .goto 593, 3), (252, .aload_n 1, 1), (253, .aload_n 0, 1), (254, .iload 4, 2), (256, .iconst 1, 1)] = true := by decide +kernel
theorem d_La_law_215 : decode y_La_law.2.2.1 215 = .ok (.iaload, 1) := mj_d (q := (215, .iaload, 1)) k_La_law_100 0 rfl
theorem d_La_law_216 : decode y_La_law.2.2.1 216 = .ok (.invokevirtual 73, 3) := mj_d (q := (216, .invokevirtual 73, 3)) k_La_law_100 1 rfl
theorem d_La_law_219 : decode y_La_law.2.2.1 219 = .ok (.istore 6, 2) := mj_d (q := (219, .istore 6, 2)) k_La_law_100 2 rfl
theorem d_La_law_221 : decode y_La_law.2.2.1 221 = .ok (.aload_n 2, 1) := mj_d (q := (221, .aload_n 2, 1)) k_La_law_100 3 rfl
theorem d_La_law_222 : decode y_La_law.2.2.1 222 = .ok (.invokevirtual 66, 3) := mj_d (q := (222, .invokevirtual 66, 3)) k_La_law_100 4 rfl
theorem d_La_law_225 : decode y_La_law.2.2.1 225 = .ok (.iload 5, 2) := mj_d (q := (225, .iload 5, 2)) k_La_law_100 5 rfl
theorem d_La_law_227 : decode y_La_law.2.2.1 227 = .ok (.if_icmp .eq 5, 3) := mj_d (q := (227, .if_icmp .eq 5, 3)) k_La_law_100 6 rfl
theorem d_La_law_230 : decode y_La_law.2.2.1 230 = .ok (.iconst 0, 1) := mj_d (q := (230, .iconst 0, 1)) k_La_law_100 7 rfl
theorem d_La_law_231 : decode y_La_law.2.2.1 231 = .ok (.ireturn, 1) := mj_d (q := (231, .ireturn, 1)) k_La_law_100 8 rfl
theorem d_La_law_232 : decode y_La_law.2.2.1 232 = .ok (.iload 5, 2) := mj_d (q := (232, .iload 5, 2)) k_La_law_100 9 rfl
theorem d_La_law_234 : decode y_La_law.2.2.1 234 = .ok (.ifCond .ne 15, 3) := mj_d (q := (234, .ifCond .ne 15, 3)) k_La_law_100 10 rfl
theorem d_La_law_237 : decode y_La_law.2.2.1 237 = .ok (.aload_n 3, 1) := mj_d (q := (237, .aload_n 3, 1)) k_La_law_100 11 rfl
theorem d_La_law_238 : decode y_La_law.2.2.1 238 = .ok (.iconst 0, 1) := mj_d (q := (238, .iconst 0, 1)) k_La_law_100 12 rfl
theorem d_La_law_239 : decode y_La_law.2.2.1 239 = .ok (.laload, 1) := mj_d (q := (239, .laload, 1)) k_La_law_100 13 rfl
theorem d_La_law_240 : decode y_La_law.2.2.1 240 = .ok (.iload 6, 2) := mj_d (q := (240, .iload 6, 2)) k_La_law_100 14 rfl
theorem d_La_law_242 : decode y_La_law.2.2.1 242 = .ok (.i2l, 1) := mj_d (q := (242, .i2l, 1)) k_La_law_100 15 rfl
theorem d_La_law_243 : decode y_La_law.2.2.1 243 = .ok (.lcmp, 1) := mj_d (q := (243, .lcmp, 1)) k_La_law_100 16 rfl
theorem d_La_law_244 : decode y_La_law.2.2.1 244 = .ok (.ifCond .eq 5, 3) := mj_d (q := (244, .ifCond .eq 5, 3)) k_La_law_100 17 rfl
theorem d_La_law_247 : decode y_La_law.2.2.1 247 = .ok (.iconst 0, 1) := mj_d (q := (247, .iconst 0, 1)) k_La_law_100 18 rfl
theorem d_La_law_248 : decode y_La_law.2.2.1 248 = .ok (.ireturn, 1) := mj_d (q := (248, .ireturn, 1)) k_La_law_100 19 rfl
theorem d_La_law_249 : decode y_La_law.2.2.1 249 = .ok (.goto 593, 3) := mj_d (q := (249, .goto 593, 3)) k_La_law_100 20 rfl
theorem d_La_law_252 : decode y_La_law.2.2.1 252 = .ok (.aload_n 1, 1) := mj_d (q := (252, .aload_n 1, 1)) k_La_law_100 21 rfl
theorem d_La_law_253 : decode y_La_law.2.2.1 253 = .ok (.aload_n 0, 1) := mj_d (q := (253, .aload_n 0, 1)) k_La_law_100 22 rfl
theorem d_La_law_254 : decode y_La_law.2.2.1 254 = .ok (.iload 4, 2) := mj_d (q := (254, .iload 4, 2)) k_La_law_100 23 rfl
theorem d_La_law_256 : decode y_La_law.2.2.1 256 = .ok (.iconst 1, 1) := mj_d (q := (256, .iconst 1, 1)) k_La_law_100 24 rfl
theorem k_La_law_125 : mj_dec y_La_law.2.2.1 [(257, .iadd, 1), (258, .iaload, 1), (259, .aload_n 3, 1), (260, .invokestatic 74, 3), (263, .istore 5, 2), (265, .aload_n 2, 1), (266, .aload_n 0, 1), (267, .iload 4, 2), (269, .iconst 1, 1), (270, .iadd, 1), (271, .iaload, 1), (272, .invokevirtual 76, 3), (275, .istore 6, 2), (277, .aload_n 2, 1), (278, .invokevirtual 66, 3), (281, .iload 5, 2), (283, .if_icmp .eq 5, 3), (286, .iconst 0, 1), (287, .ireturn, 1), (288, .iload 5, 2), (290, .ifCond .ne 15, 3), (293, .aload_n 3, 1), (294, .iconst 0, 1), (295, .laload, 1), (296, .iload 6, 2)] = true := by decide +kernel
theorem d_La_law_257 : decode y_La_law.2.2.1 257 = .ok (.iadd, 1) := mj_d (q := (257, .iadd, 1)) k_La_law_125 0 rfl
theorem d_La_law_258 : decode y_La_law.2.2.1 258 = .ok (.iaload, 1) := mj_d (q := (258, .iaload, 1)) k_La_law_125 1 rfl
theorem d_La_law_259 : decode y_La_law.2.2.1 259 = .ok (.aload_n 3, 1) := mj_d (q := (259, .aload_n 3, 1)) k_La_law_125 2 rfl
theorem d_La_law_260 : decode y_La_law.2.2.1 260 = .ok (.invokestatic 74, 3) := mj_d (q := (260, .invokestatic 74, 3)) k_La_law_125 3 rfl
theorem d_La_law_263 : decode y_La_law.2.2.1 263 = .ok (.istore 5, 2) := mj_d (q := (263, .istore 5, 2)) k_La_law_125 4 rfl
theorem d_La_law_265 : decode y_La_law.2.2.1 265 = .ok (.aload_n 2, 1) := mj_d (q := (265, .aload_n 2, 1)) k_La_law_125 5 rfl
theorem d_La_law_266 : decode y_La_law.2.2.1 266 = .ok (.aload_n 0, 1) := mj_d (q := (266, .aload_n 0, 1)) k_La_law_125 6 rfl
theorem d_La_law_267 : decode y_La_law.2.2.1 267 = .ok (.iload 4, 2) := mj_d (q := (267, .iload 4, 2)) k_La_law_125 7 rfl
theorem d_La_law_269 : decode y_La_law.2.2.1 269 = .ok (.iconst 1, 1) := mj_d (q := (269, .iconst 1, 1)) k_La_law_125 8 rfl
theorem d_La_law_270 : decode y_La_law.2.2.1 270 = .ok (.iadd, 1) := mj_d (q := (270, .iadd, 1)) k_La_law_125 9 rfl
theorem d_La_law_271 : decode y_La_law.2.2.1 271 = .ok (.iaload, 1) := mj_d (q := (271, .iaload, 1)) k_La_law_125 10 rfl
theorem d_La_law_272 : decode y_La_law.2.2.1 272 = .ok (.invokevirtual 76, 3) := mj_d (q := (272, .invokevirtual 76, 3)) k_La_law_125 11 rfl
theorem d_La_law_275 : decode y_La_law.2.2.1 275 = .ok (.istore 6, 2) := mj_d (q := (275, .istore 6, 2)) k_La_law_125 12 rfl
theorem d_La_law_277 : decode y_La_law.2.2.1 277 = .ok (.aload_n 2, 1) := mj_d (q := (277, .aload_n 2, 1)) k_La_law_125 13 rfl
theorem d_La_law_278 : decode y_La_law.2.2.1 278 = .ok (.invokevirtual 66, 3) := mj_d (q := (278, .invokevirtual 66, 3)) k_La_law_125 14 rfl
theorem d_La_law_281 : decode y_La_law.2.2.1 281 = .ok (.iload 5, 2) := mj_d (q := (281, .iload 5, 2)) k_La_law_125 15 rfl
theorem d_La_law_283 : decode y_La_law.2.2.1 283 = .ok (.if_icmp .eq 5, 3) := mj_d (q := (283, .if_icmp .eq 5, 3)) k_La_law_125 16 rfl
theorem d_La_law_286 : decode y_La_law.2.2.1 286 = .ok (.iconst 0, 1) := mj_d (q := (286, .iconst 0, 1)) k_La_law_125 17 rfl
theorem d_La_law_287 : decode y_La_law.2.2.1 287 = .ok (.ireturn, 1) := mj_d (q := (287, .ireturn, 1)) k_La_law_125 18 rfl
theorem d_La_law_288 : decode y_La_law.2.2.1 288 = .ok (.iload 5, 2) := mj_d (q := (288, .iload 5, 2)) k_La_law_125 19 rfl
theorem d_La_law_290 : decode y_La_law.2.2.1 290 = .ok (.ifCond .ne 15, 3) := mj_d (q := (290, .ifCond .ne 15, 3)) k_La_law_125 20 rfl
theorem d_La_law_293 : decode y_La_law.2.2.1 293 = .ok (.aload_n 3, 1) := mj_d (q := (293, .aload_n 3, 1)) k_La_law_125 21 rfl
theorem d_La_law_294 : decode y_La_law.2.2.1 294 = .ok (.iconst 0, 1) := mj_d (q := (294, .iconst 0, 1)) k_La_law_125 22 rfl
theorem d_La_law_295 : decode y_La_law.2.2.1 295 = .ok (.laload, 1) := mj_d (q := (295, .laload, 1)) k_La_law_125 23 rfl
theorem d_La_law_296 : decode y_La_law.2.2.1 296 = .ok (.iload 6, 2) := mj_d (q := (296, .iload 6, 2)) k_La_law_125 24 rfl
theorem k_La_law_150 : mj_dec y_La_law.2.2.1 [(298, .i2l, 1), (299, .lcmp, 1), (300, .ifCond .eq 5, 3), (303, .iconst 0, 1), (304, .ireturn, 1), (305, .goto 537, 3), (308, .aload_n 1, 1), (309, .invokevirtual 77, 3), (312, .aload_n 2, 1), (313, .invokevirtual 80, 3), (316, .if_icmp .eq 526, 3), (319, .iconst 0, 1), (320, .ireturn, 1), (321, .aload_n 1, 1), (322, .invokevirtual 81, 3), (325, .aload_n 2, 1), (326, .invokevirtual 85, 3), (329, .if_icmp .eq 513, 3), (332, .iconst 0, 1), (333, .ireturn, 1), (334, .aload_n 1, 1), (335, .invokevirtual 86, 3), (338, .aload_n 2, 1), (339, .invokevirtual 89, 3), (342, .if_icmp .eq 500, 3)] = true := by decide +kernel
theorem d_La_law_298 : decode y_La_law.2.2.1 298 = .ok (.i2l, 1) := mj_d (q := (298, .i2l, 1)) k_La_law_150 0 rfl
theorem d_La_law_299 : decode y_La_law.2.2.1 299 = .ok (.lcmp, 1) := mj_d (q := (299, .lcmp, 1)) k_La_law_150 1 rfl
theorem d_La_law_300 : decode y_La_law.2.2.1 300 = .ok (.ifCond .eq 5, 3) := mj_d (q := (300, .ifCond .eq 5, 3)) k_La_law_150 2 rfl
theorem d_La_law_303 : decode y_La_law.2.2.1 303 = .ok (.iconst 0, 1) := mj_d (q := (303, .iconst 0, 1)) k_La_law_150 3 rfl
theorem d_La_law_304 : decode y_La_law.2.2.1 304 = .ok (.ireturn, 1) := mj_d (q := (304, .ireturn, 1)) k_La_law_150 4 rfl
theorem d_La_law_305 : decode y_La_law.2.2.1 305 = .ok (.goto 537, 3) := mj_d (q := (305, .goto 537, 3)) k_La_law_150 5 rfl
theorem d_La_law_308 : decode y_La_law.2.2.1 308 = .ok (.aload_n 1, 1) := mj_d (q := (308, .aload_n 1, 1)) k_La_law_150 6 rfl
theorem d_La_law_309 : decode y_La_law.2.2.1 309 = .ok (.invokevirtual 77, 3) := mj_d (q := (309, .invokevirtual 77, 3)) k_La_law_150 7 rfl
theorem d_La_law_312 : decode y_La_law.2.2.1 312 = .ok (.aload_n 2, 1) := mj_d (q := (312, .aload_n 2, 1)) k_La_law_150 8 rfl
theorem d_La_law_313 : decode y_La_law.2.2.1 313 = .ok (.invokevirtual 80, 3) := mj_d (q := (313, .invokevirtual 80, 3)) k_La_law_150 9 rfl
theorem d_La_law_316 : decode y_La_law.2.2.1 316 = .ok (.if_icmp .eq 526, 3) := mj_d (q := (316, .if_icmp .eq 526, 3)) k_La_law_150 10 rfl
theorem d_La_law_319 : decode y_La_law.2.2.1 319 = .ok (.iconst 0, 1) := mj_d (q := (319, .iconst 0, 1)) k_La_law_150 11 rfl
theorem d_La_law_320 : decode y_La_law.2.2.1 320 = .ok (.ireturn, 1) := mj_d (q := (320, .ireturn, 1)) k_La_law_150 12 rfl
theorem d_La_law_321 : decode y_La_law.2.2.1 321 = .ok (.aload_n 1, 1) := mj_d (q := (321, .aload_n 1, 1)) k_La_law_150 13 rfl
theorem d_La_law_322 : decode y_La_law.2.2.1 322 = .ok (.invokevirtual 81, 3) := mj_d (q := (322, .invokevirtual 81, 3)) k_La_law_150 14 rfl
theorem d_La_law_325 : decode y_La_law.2.2.1 325 = .ok (.aload_n 2, 1) := mj_d (q := (325, .aload_n 2, 1)) k_La_law_150 15 rfl
theorem d_La_law_326 : decode y_La_law.2.2.1 326 = .ok (.invokevirtual 85, 3) := mj_d (q := (326, .invokevirtual 85, 3)) k_La_law_150 16 rfl
theorem d_La_law_329 : decode y_La_law.2.2.1 329 = .ok (.if_icmp .eq 513, 3) := mj_d (q := (329, .if_icmp .eq 513, 3)) k_La_law_150 17 rfl
theorem d_La_law_332 : decode y_La_law.2.2.1 332 = .ok (.iconst 0, 1) := mj_d (q := (332, .iconst 0, 1)) k_La_law_150 18 rfl
theorem d_La_law_333 : decode y_La_law.2.2.1 333 = .ok (.ireturn, 1) := mj_d (q := (333, .ireturn, 1)) k_La_law_150 19 rfl
theorem d_La_law_334 : decode y_La_law.2.2.1 334 = .ok (.aload_n 1, 1) := mj_d (q := (334, .aload_n 1, 1)) k_La_law_150 20 rfl
theorem d_La_law_335 : decode y_La_law.2.2.1 335 = .ok (.invokevirtual 86, 3) := mj_d (q := (335, .invokevirtual 86, 3)) k_La_law_150 21 rfl
theorem d_La_law_338 : decode y_La_law.2.2.1 338 = .ok (.aload_n 2, 1) := mj_d (q := (338, .aload_n 2, 1)) k_La_law_150 22 rfl
theorem d_La_law_339 : decode y_La_law.2.2.1 339 = .ok (.invokevirtual 89, 3) := mj_d (q := (339, .invokevirtual 89, 3)) k_La_law_150 23 rfl
theorem d_La_law_342 : decode y_La_law.2.2.1 342 = .ok (.if_icmp .eq 500, 3) := mj_d (q := (342, .if_icmp .eq 500, 3)) k_La_law_150 24 rfl
theorem k_La_law_175 : mj_dec y_La_law.2.2.1 [(345, .iconst 0, 1), (346, .ireturn, 1), (347, .aload_n 1, 1), (348, .aload_n 0, 1), (349, .iload 4, 2), (351, .iconst 1, 1), (352, .iadd, 1), (353, .iaload, 1), (354, .aload_n 3, 1), (355, .invokestatic 90, 3), (358, .istore 5, 2), (360, .aload_n 2, 1), (361, .aload_n 0, 1), (362, .iload 4, 2), (364, .iconst 1, 1), (365, .iadd, 1), (366, .iaload, 1), (367, .invokevirtual 92, 3), (370, .istore 6, 2), (372, .aload_n 2, 1), (373, .invokevirtual 66, 3), (376, .iload 5, 2), (378, .if_icmp .eq 5, 3), (381, .iconst 0, 1), (382, .ireturn, 1)] = true := by decide +kernel
theorem d_La_law_345 : decode y_La_law.2.2.1 345 = .ok (.iconst 0, 1) := mj_d (q := (345, .iconst 0, 1)) k_La_law_175 0 rfl
theorem d_La_law_346 : decode y_La_law.2.2.1 346 = .ok (.ireturn, 1) := mj_d (q := (346, .ireturn, 1)) k_La_law_175 1 rfl
theorem d_La_law_347 : decode y_La_law.2.2.1 347 = .ok (.aload_n 1, 1) := mj_d (q := (347, .aload_n 1, 1)) k_La_law_175 2 rfl
theorem d_La_law_348 : decode y_La_law.2.2.1 348 = .ok (.aload_n 0, 1) := mj_d (q := (348, .aload_n 0, 1)) k_La_law_175 3 rfl
theorem d_La_law_349 : decode y_La_law.2.2.1 349 = .ok (.iload 4, 2) := mj_d (q := (349, .iload 4, 2)) k_La_law_175 4 rfl
theorem d_La_law_351 : decode y_La_law.2.2.1 351 = .ok (.iconst 1, 1) := mj_d (q := (351, .iconst 1, 1)) k_La_law_175 5 rfl
theorem d_La_law_352 : decode y_La_law.2.2.1 352 = .ok (.iadd, 1) := mj_d (q := (352, .iadd, 1)) k_La_law_175 6 rfl
theorem d_La_law_353 : decode y_La_law.2.2.1 353 = .ok (.iaload, 1) := mj_d (q := (353, .iaload, 1)) k_La_law_175 7 rfl
theorem d_La_law_354 : decode y_La_law.2.2.1 354 = .ok (.aload_n 3, 1) := mj_d (q := (354, .aload_n 3, 1)) k_La_law_175 8 rfl
theorem d_La_law_355 : decode y_La_law.2.2.1 355 = .ok (.invokestatic 90, 3) := mj_d (q := (355, .invokestatic 90, 3)) k_La_law_175 9 rfl
theorem d_La_law_358 : decode y_La_law.2.2.1 358 = .ok (.istore 5, 2) := mj_d (q := (358, .istore 5, 2)) k_La_law_175 10 rfl
theorem d_La_law_360 : decode y_La_law.2.2.1 360 = .ok (.aload_n 2, 1) := mj_d (q := (360, .aload_n 2, 1)) k_La_law_175 11 rfl
theorem d_La_law_361 : decode y_La_law.2.2.1 361 = .ok (.aload_n 0, 1) := mj_d (q := (361, .aload_n 0, 1)) k_La_law_175 12 rfl
theorem d_La_law_362 : decode y_La_law.2.2.1 362 = .ok (.iload 4, 2) := mj_d (q := (362, .iload 4, 2)) k_La_law_175 13 rfl
theorem d_La_law_364 : decode y_La_law.2.2.1 364 = .ok (.iconst 1, 1) := mj_d (q := (364, .iconst 1, 1)) k_La_law_175 14 rfl
theorem d_La_law_365 : decode y_La_law.2.2.1 365 = .ok (.iadd, 1) := mj_d (q := (365, .iadd, 1)) k_La_law_175 15 rfl
theorem d_La_law_366 : decode y_La_law.2.2.1 366 = .ok (.iaload, 1) := mj_d (q := (366, .iaload, 1)) k_La_law_175 16 rfl
theorem d_La_law_367 : decode y_La_law.2.2.1 367 = .ok (.invokevirtual 92, 3) := mj_d (q := (367, .invokevirtual 92, 3)) k_La_law_175 17 rfl
theorem d_La_law_370 : decode y_La_law.2.2.1 370 = .ok (.istore 6, 2) := mj_d (q := (370, .istore 6, 2)) k_La_law_175 18 rfl
theorem d_La_law_372 : decode y_La_law.2.2.1 372 = .ok (.aload_n 2, 1) := mj_d (q := (372, .aload_n 2, 1)) k_La_law_175 19 rfl
theorem d_La_law_373 : decode y_La_law.2.2.1 373 = .ok (.invokevirtual 66, 3) := mj_d (q := (373, .invokevirtual 66, 3)) k_La_law_175 20 rfl
theorem d_La_law_376 : decode y_La_law.2.2.1 376 = .ok (.iload 5, 2) := mj_d (q := (376, .iload 5, 2)) k_La_law_175 21 rfl
theorem d_La_law_378 : decode y_La_law.2.2.1 378 = .ok (.if_icmp .eq 5, 3) := mj_d (q := (378, .if_icmp .eq 5, 3)) k_La_law_175 22 rfl
theorem d_La_law_381 : decode y_La_law.2.2.1 381 = .ok (.iconst 0, 1) := mj_d (q := (381, .iconst 0, 1)) k_La_law_175 23 rfl
theorem d_La_law_382 : decode y_La_law.2.2.1 382 = .ok (.ireturn, 1) := mj_d (q := (382, .ireturn, 1)) k_La_law_175 24 rfl
theorem k_La_law_200 : mj_dec y_La_law.2.2.1 [(383, .iload 5, 2), (385, .ifCond .ne 15, 3), (388, .aload_n 3, 1), (389, .iconst 0, 1), (390, .laload, 1), (391, .iload 6, 2), (393, .i2l, 1), (394, .lcmp, 1), (395, .ifCond .eq 5, 3), (398, .iconst 0, 1), (399, .ireturn, 1), (400, .goto 442, 3), (403, .aload_n 1, 1), (404, .aload_n 0, 1), (405, .iload 4, 2), (407, .iconst 1, 1), (408, .iadd, 1), (409, .iaload, 1), (410, .aload_n 0, 1), (411, .iload 4, 2), (413, .iconst 2, 1), (414, .iadd, 1), (415, .iaload, 1), (416, .aload_n 0, 1), (417, .iload 4, 2)] = true := by decide +kernel
theorem d_La_law_383 : decode y_La_law.2.2.1 383 = .ok (.iload 5, 2) := mj_d (q := (383, .iload 5, 2)) k_La_law_200 0 rfl
theorem d_La_law_385 : decode y_La_law.2.2.1 385 = .ok (.ifCond .ne 15, 3) := mj_d (q := (385, .ifCond .ne 15, 3)) k_La_law_200 1 rfl
theorem d_La_law_388 : decode y_La_law.2.2.1 388 = .ok (.aload_n 3, 1) := mj_d (q := (388, .aload_n 3, 1)) k_La_law_200 2 rfl
theorem d_La_law_389 : decode y_La_law.2.2.1 389 = .ok (.iconst 0, 1) := mj_d (q := (389, .iconst 0, 1)) k_La_law_200 3 rfl
theorem d_La_law_390 : decode y_La_law.2.2.1 390 = .ok (.laload, 1) := mj_d (q := (390, .laload, 1)) k_La_law_200 4 rfl
theorem d_La_law_391 : decode y_La_law.2.2.1 391 = .ok (.iload 6, 2) := mj_d (q := (391, .iload 6, 2)) k_La_law_200 5 rfl
theorem d_La_law_393 : decode y_La_law.2.2.1 393 = .ok (.i2l, 1) := mj_d (q := (393, .i2l, 1)) k_La_law_200 6 rfl
theorem d_La_law_394 : decode y_La_law.2.2.1 394 = .ok (.lcmp, 1) := mj_d (q := (394, .lcmp, 1)) k_La_law_200 7 rfl
theorem d_La_law_395 : decode y_La_law.2.2.1 395 = .ok (.ifCond .eq 5, 3) := mj_d (q := (395, .ifCond .eq 5, 3)) k_La_law_200 8 rfl
theorem d_La_law_398 : decode y_La_law.2.2.1 398 = .ok (.iconst 0, 1) := mj_d (q := (398, .iconst 0, 1)) k_La_law_200 9 rfl
theorem d_La_law_399 : decode y_La_law.2.2.1 399 = .ok (.ireturn, 1) := mj_d (q := (399, .ireturn, 1)) k_La_law_200 10 rfl
theorem d_La_law_400 : decode y_La_law.2.2.1 400 = .ok (.goto 442, 3) := mj_d (q := (400, .goto 442, 3)) k_La_law_200 11 rfl
theorem d_La_law_403 : decode y_La_law.2.2.1 403 = .ok (.aload_n 1, 1) := mj_d (q := (403, .aload_n 1, 1)) k_La_law_200 12 rfl
theorem d_La_law_404 : decode y_La_law.2.2.1 404 = .ok (.aload_n 0, 1) := mj_d (q := (404, .aload_n 0, 1)) k_La_law_200 13 rfl
theorem d_La_law_405 : decode y_La_law.2.2.1 405 = .ok (.iload 4, 2) := mj_d (q := (405, .iload 4, 2)) k_La_law_200 14 rfl
theorem d_La_law_407 : decode y_La_law.2.2.1 407 = .ok (.iconst 1, 1) := mj_d (q := (407, .iconst 1, 1)) k_La_law_200 15 rfl
theorem d_La_law_408 : decode y_La_law.2.2.1 408 = .ok (.iadd, 1) := mj_d (q := (408, .iadd, 1)) k_La_law_200 16 rfl
theorem d_La_law_409 : decode y_La_law.2.2.1 409 = .ok (.iaload, 1) := mj_d (q := (409, .iaload, 1)) k_La_law_200 17 rfl
theorem d_La_law_410 : decode y_La_law.2.2.1 410 = .ok (.aload_n 0, 1) := mj_d (q := (410, .aload_n 0, 1)) k_La_law_200 18 rfl
theorem d_La_law_411 : decode y_La_law.2.2.1 411 = .ok (.iload 4, 2) := mj_d (q := (411, .iload 4, 2)) k_La_law_200 19 rfl
theorem d_La_law_413 : decode y_La_law.2.2.1 413 = .ok (.iconst 2, 1) := mj_d (q := (413, .iconst 2, 1)) k_La_law_200 20 rfl
theorem d_La_law_414 : decode y_La_law.2.2.1 414 = .ok (.iadd, 1) := mj_d (q := (414, .iadd, 1)) k_La_law_200 21 rfl
theorem d_La_law_415 : decode y_La_law.2.2.1 415 = .ok (.iaload, 1) := mj_d (q := (415, .iaload, 1)) k_La_law_200 22 rfl
theorem d_La_law_416 : decode y_La_law.2.2.1 416 = .ok (.aload_n 0, 1) := mj_d (q := (416, .aload_n 0, 1)) k_La_law_200 23 rfl
theorem d_La_law_417 : decode y_La_law.2.2.1 417 = .ok (.iload 4, 2) := mj_d (q := (417, .iload 4, 2)) k_La_law_200 24 rfl
theorem k_La_law_225 : mj_dec y_La_law.2.2.1 [(419, .iconst 3, 1), (420, .iadd, 1), (421, .iaload, 1), (422, .aload_n 0, 1), (423, .iload 4, 2), (425, .iconst 4, 1), (426, .iadd, 1), (427, .iaload, 1), (428, .aload_n 3, 1), (429, .invokestatic 93, 3), (432, .istore 5, 2), (434, .aload_n 2, 1), (435, .aload_n 0, 1), (436, .iload 4, 2), (438, .iconst 1, 1), (439, .iadd, 1), (440, .iaload, 1), (441, .aload_n 0, 1), (442, .iload 4, 2), (444, .iconst 2, 1), (445, .iadd, 1), (446, .iaload, 1), (447, .aload_n 0, 1), (448, .iload 4, 2), (450, .iconst 3, 1)] = true := by decide +kernel
theorem d_La_law_419 : decode y_La_law.2.2.1 419 = .ok (.iconst 3, 1) := mj_d (q := (419, .iconst 3, 1)) k_La_law_225 0 rfl
theorem d_La_law_420 : decode y_La_law.2.2.1 420 = .ok (.iadd, 1) := mj_d (q := (420, .iadd, 1)) k_La_law_225 1 rfl
theorem d_La_law_421 : decode y_La_law.2.2.1 421 = .ok (.iaload, 1) := mj_d (q := (421, .iaload, 1)) k_La_law_225 2 rfl
theorem d_La_law_422 : decode y_La_law.2.2.1 422 = .ok (.aload_n 0, 1) := mj_d (q := (422, .aload_n 0, 1)) k_La_law_225 3 rfl
theorem d_La_law_423 : decode y_La_law.2.2.1 423 = .ok (.iload 4, 2) := mj_d (q := (423, .iload 4, 2)) k_La_law_225 4 rfl
theorem d_La_law_425 : decode y_La_law.2.2.1 425 = .ok (.iconst 4, 1) := mj_d (q := (425, .iconst 4, 1)) k_La_law_225 5 rfl
theorem d_La_law_426 : decode y_La_law.2.2.1 426 = .ok (.iadd, 1) := mj_d (q := (426, .iadd, 1)) k_La_law_225 6 rfl
theorem d_La_law_427 : decode y_La_law.2.2.1 427 = .ok (.iaload, 1) := mj_d (q := (427, .iaload, 1)) k_La_law_225 7 rfl
theorem d_La_law_428 : decode y_La_law.2.2.1 428 = .ok (.aload_n 3, 1) := mj_d (q := (428, .aload_n 3, 1)) k_La_law_225 8 rfl
theorem d_La_law_429 : decode y_La_law.2.2.1 429 = .ok (.invokestatic 93, 3) := mj_d (q := (429, .invokestatic 93, 3)) k_La_law_225 9 rfl
theorem d_La_law_432 : decode y_La_law.2.2.1 432 = .ok (.istore 5, 2) := mj_d (q := (432, .istore 5, 2)) k_La_law_225 10 rfl
theorem d_La_law_434 : decode y_La_law.2.2.1 434 = .ok (.aload_n 2, 1) := mj_d (q := (434, .aload_n 2, 1)) k_La_law_225 11 rfl
theorem d_La_law_435 : decode y_La_law.2.2.1 435 = .ok (.aload_n 0, 1) := mj_d (q := (435, .aload_n 0, 1)) k_La_law_225 12 rfl
theorem d_La_law_436 : decode y_La_law.2.2.1 436 = .ok (.iload 4, 2) := mj_d (q := (436, .iload 4, 2)) k_La_law_225 13 rfl
theorem d_La_law_438 : decode y_La_law.2.2.1 438 = .ok (.iconst 1, 1) := mj_d (q := (438, .iconst 1, 1)) k_La_law_225 14 rfl
theorem d_La_law_439 : decode y_La_law.2.2.1 439 = .ok (.iadd, 1) := mj_d (q := (439, .iadd, 1)) k_La_law_225 15 rfl
theorem d_La_law_440 : decode y_La_law.2.2.1 440 = .ok (.iaload, 1) := mj_d (q := (440, .iaload, 1)) k_La_law_225 16 rfl
theorem d_La_law_441 : decode y_La_law.2.2.1 441 = .ok (.aload_n 0, 1) := mj_d (q := (441, .aload_n 0, 1)) k_La_law_225 17 rfl
theorem d_La_law_442 : decode y_La_law.2.2.1 442 = .ok (.iload 4, 2) := mj_d (q := (442, .iload 4, 2)) k_La_law_225 18 rfl
theorem d_La_law_444 : decode y_La_law.2.2.1 444 = .ok (.iconst 2, 1) := mj_d (q := (444, .iconst 2, 1)) k_La_law_225 19 rfl
theorem d_La_law_445 : decode y_La_law.2.2.1 445 = .ok (.iadd, 1) := mj_d (q := (445, .iadd, 1)) k_La_law_225 20 rfl
theorem d_La_law_446 : decode y_La_law.2.2.1 446 = .ok (.iaload, 1) := mj_d (q := (446, .iaload, 1)) k_La_law_225 21 rfl
theorem d_La_law_447 : decode y_La_law.2.2.1 447 = .ok (.aload_n 0, 1) := mj_d (q := (447, .aload_n 0, 1)) k_La_law_225 22 rfl
theorem d_La_law_448 : decode y_La_law.2.2.1 448 = .ok (.iload 4, 2) := mj_d (q := (448, .iload 4, 2)) k_La_law_225 23 rfl
theorem d_La_law_450 : decode y_La_law.2.2.1 450 = .ok (.iconst 3, 1) := mj_d (q := (450, .iconst 3, 1)) k_La_law_225 24 rfl
theorem k_La_law_250 : mj_dec y_La_law.2.2.1 [(451, .iadd, 1), (452, .iaload, 1), (453, .aload_n 0, 1), (454, .iload 4, 2), (456, .iconst 4, 1), (457, .iadd, 1), (458, .iaload, 1), (459, .invokevirtual 96, 3), (462, .istore 6, 2), (464, .aload_n 2, 1), (465, .invokevirtual 66, 3), (468, .iload 5, 2), (470, .if_icmp .eq 5, 3), (473, .iconst 0, 1), (474, .ireturn, 1), (475, .iload 5, 2), (477, .ifCond .ne 22, 3), (480, .aload_n 3, 1), (481, .iconst 0, 1), (482, .laload, 1), (483, .iload 6, 2), (485, .ifCond .eq 7, 3), (488, .lconst 1, 1), (489, .goto 4, 3), (492, .lconst 0, 1)] = true := by decide +kernel
theorem d_La_law_451 : decode y_La_law.2.2.1 451 = .ok (.iadd, 1) := mj_d (q := (451, .iadd, 1)) k_La_law_250 0 rfl
theorem d_La_law_452 : decode y_La_law.2.2.1 452 = .ok (.iaload, 1) := mj_d (q := (452, .iaload, 1)) k_La_law_250 1 rfl
theorem d_La_law_453 : decode y_La_law.2.2.1 453 = .ok (.aload_n 0, 1) := mj_d (q := (453, .aload_n 0, 1)) k_La_law_250 2 rfl
theorem d_La_law_454 : decode y_La_law.2.2.1 454 = .ok (.iload 4, 2) := mj_d (q := (454, .iload 4, 2)) k_La_law_250 3 rfl
theorem d_La_law_456 : decode y_La_law.2.2.1 456 = .ok (.iconst 4, 1) := mj_d (q := (456, .iconst 4, 1)) k_La_law_250 4 rfl
theorem d_La_law_457 : decode y_La_law.2.2.1 457 = .ok (.iadd, 1) := mj_d (q := (457, .iadd, 1)) k_La_law_250 5 rfl
theorem d_La_law_458 : decode y_La_law.2.2.1 458 = .ok (.iaload, 1) := mj_d (q := (458, .iaload, 1)) k_La_law_250 6 rfl
theorem d_La_law_459 : decode y_La_law.2.2.1 459 = .ok (.invokevirtual 96, 3) := mj_d (q := (459, .invokevirtual 96, 3)) k_La_law_250 7 rfl
theorem d_La_law_462 : decode y_La_law.2.2.1 462 = .ok (.istore 6, 2) := mj_d (q := (462, .istore 6, 2)) k_La_law_250 8 rfl
theorem d_La_law_464 : decode y_La_law.2.2.1 464 = .ok (.aload_n 2, 1) := mj_d (q := (464, .aload_n 2, 1)) k_La_law_250 9 rfl
theorem d_La_law_465 : decode y_La_law.2.2.1 465 = .ok (.invokevirtual 66, 3) := mj_d (q := (465, .invokevirtual 66, 3)) k_La_law_250 10 rfl
theorem d_La_law_468 : decode y_La_law.2.2.1 468 = .ok (.iload 5, 2) := mj_d (q := (468, .iload 5, 2)) k_La_law_250 11 rfl
theorem d_La_law_470 : decode y_La_law.2.2.1 470 = .ok (.if_icmp .eq 5, 3) := mj_d (q := (470, .if_icmp .eq 5, 3)) k_La_law_250 12 rfl
theorem d_La_law_473 : decode y_La_law.2.2.1 473 = .ok (.iconst 0, 1) := mj_d (q := (473, .iconst 0, 1)) k_La_law_250 13 rfl
theorem d_La_law_474 : decode y_La_law.2.2.1 474 = .ok (.ireturn, 1) := mj_d (q := (474, .ireturn, 1)) k_La_law_250 14 rfl
theorem d_La_law_475 : decode y_La_law.2.2.1 475 = .ok (.iload 5, 2) := mj_d (q := (475, .iload 5, 2)) k_La_law_250 15 rfl
theorem d_La_law_477 : decode y_La_law.2.2.1 477 = .ok (.ifCond .ne 22, 3) := mj_d (q := (477, .ifCond .ne 22, 3)) k_La_law_250 16 rfl
theorem d_La_law_480 : decode y_La_law.2.2.1 480 = .ok (.aload_n 3, 1) := mj_d (q := (480, .aload_n 3, 1)) k_La_law_250 17 rfl
theorem d_La_law_481 : decode y_La_law.2.2.1 481 = .ok (.iconst 0, 1) := mj_d (q := (481, .iconst 0, 1)) k_La_law_250 18 rfl
theorem d_La_law_482 : decode y_La_law.2.2.1 482 = .ok (.laload, 1) := mj_d (q := (482, .laload, 1)) k_La_law_250 19 rfl
theorem d_La_law_483 : decode y_La_law.2.2.1 483 = .ok (.iload 6, 2) := mj_d (q := (483, .iload 6, 2)) k_La_law_250 20 rfl
theorem d_La_law_485 : decode y_La_law.2.2.1 485 = .ok (.ifCond .eq 7, 3) := mj_d (q := (485, .ifCond .eq 7, 3)) k_La_law_250 21 rfl
theorem d_La_law_488 : decode y_La_law.2.2.1 488 = .ok (.lconst 1, 1) := mj_d (q := (488, .lconst 1, 1)) k_La_law_250 22 rfl
theorem d_La_law_489 : decode y_La_law.2.2.1 489 = .ok (.goto 4, 3) := mj_d (q := (489, .goto 4, 3)) k_La_law_250 23 rfl
theorem d_La_law_492 : decode y_La_law.2.2.1 492 = .ok (.lconst 0, 1) := mj_d (q := (492, .lconst 0, 1)) k_La_law_250 24 rfl
theorem k_La_law_275 : mj_dec y_La_law.2.2.1 [(493, .lcmp, 1), (494, .ifCond .eq 5, 3), (497, .iconst 0, 1), (498, .ireturn, 1), (499, .goto 343, 3), (502, .aload_n 1, 1), (503, .aload_n 0, 1), (504, .iload 4, 2), (506, .iconst 1, 1), (507, .iadd, 1), (508, .iaload, 1), (509, .aload_n 0, 1), (510, .iload 4, 2), (512, .iconst 2, 1), (513, .iadd, 1), (514, .iaload, 1), (515, .aload_n 3, 1), (516, .invokestatic 97, 3), (519, .istore 5, 2), (521, .aload_n 2, 1), (522, .aload_n 0, 1), (523, .iload 4, 2), (525, .iconst 1, 1), (526, .iadd, 1), (527, .iaload, 1)] = true := by decide +kernel
theorem d_La_law_493 : decode y_La_law.2.2.1 493 = .ok (.lcmp, 1) := mj_d (q := (493, .lcmp, 1)) k_La_law_275 0 rfl
theorem d_La_law_494 : decode y_La_law.2.2.1 494 = .ok (.ifCond .eq 5, 3) := mj_d (q := (494, .ifCond .eq 5, 3)) k_La_law_275 1 rfl
theorem d_La_law_497 : decode y_La_law.2.2.1 497 = .ok (.iconst 0, 1) := mj_d (q := (497, .iconst 0, 1)) k_La_law_275 2 rfl
theorem d_La_law_498 : decode y_La_law.2.2.1 498 = .ok (.ireturn, 1) := mj_d (q := (498, .ireturn, 1)) k_La_law_275 3 rfl
theorem d_La_law_499 : decode y_La_law.2.2.1 499 = .ok (.goto 343, 3) := mj_d (q := (499, .goto 343, 3)) k_La_law_275 4 rfl
theorem d_La_law_502 : decode y_La_law.2.2.1 502 = .ok (.aload_n 1, 1) := mj_d (q := (502, .aload_n 1, 1)) k_La_law_275 5 rfl
theorem d_La_law_503 : decode y_La_law.2.2.1 503 = .ok (.aload_n 0, 1) := mj_d (q := (503, .aload_n 0, 1)) k_La_law_275 6 rfl
theorem d_La_law_504 : decode y_La_law.2.2.1 504 = .ok (.iload 4, 2) := mj_d (q := (504, .iload 4, 2)) k_La_law_275 7 rfl
theorem d_La_law_506 : decode y_La_law.2.2.1 506 = .ok (.iconst 1, 1) := mj_d (q := (506, .iconst 1, 1)) k_La_law_275 8 rfl
theorem d_La_law_507 : decode y_La_law.2.2.1 507 = .ok (.iadd, 1) := mj_d (q := (507, .iadd, 1)) k_La_law_275 9 rfl
theorem d_La_law_508 : decode y_La_law.2.2.1 508 = .ok (.iaload, 1) := mj_d (q := (508, .iaload, 1)) k_La_law_275 10 rfl
theorem d_La_law_509 : decode y_La_law.2.2.1 509 = .ok (.aload_n 0, 1) := mj_d (q := (509, .aload_n 0, 1)) k_La_law_275 11 rfl
theorem d_La_law_510 : decode y_La_law.2.2.1 510 = .ok (.iload 4, 2) := mj_d (q := (510, .iload 4, 2)) k_La_law_275 12 rfl
theorem d_La_law_512 : decode y_La_law.2.2.1 512 = .ok (.iconst 2, 1) := mj_d (q := (512, .iconst 2, 1)) k_La_law_275 13 rfl
theorem d_La_law_513 : decode y_La_law.2.2.1 513 = .ok (.iadd, 1) := mj_d (q := (513, .iadd, 1)) k_La_law_275 14 rfl
theorem d_La_law_514 : decode y_La_law.2.2.1 514 = .ok (.iaload, 1) := mj_d (q := (514, .iaload, 1)) k_La_law_275 15 rfl
theorem d_La_law_515 : decode y_La_law.2.2.1 515 = .ok (.aload_n 3, 1) := mj_d (q := (515, .aload_n 3, 1)) k_La_law_275 16 rfl
theorem d_La_law_516 : decode y_La_law.2.2.1 516 = .ok (.invokestatic 97, 3) := mj_d (q := (516, .invokestatic 97, 3)) k_La_law_275 17 rfl
theorem d_La_law_519 : decode y_La_law.2.2.1 519 = .ok (.istore 5, 2) := mj_d (q := (519, .istore 5, 2)) k_La_law_275 18 rfl
theorem d_La_law_521 : decode y_La_law.2.2.1 521 = .ok (.aload_n 2, 1) := mj_d (q := (521, .aload_n 2, 1)) k_La_law_275 19 rfl
theorem d_La_law_522 : decode y_La_law.2.2.1 522 = .ok (.aload_n 0, 1) := mj_d (q := (522, .aload_n 0, 1)) k_La_law_275 20 rfl
theorem d_La_law_523 : decode y_La_law.2.2.1 523 = .ok (.iload 4, 2) := mj_d (q := (523, .iload 4, 2)) k_La_law_275 21 rfl
theorem d_La_law_525 : decode y_La_law.2.2.1 525 = .ok (.iconst 1, 1) := mj_d (q := (525, .iconst 1, 1)) k_La_law_275 22 rfl
theorem d_La_law_526 : decode y_La_law.2.2.1 526 = .ok (.iadd, 1) := mj_d (q := (526, .iadd, 1)) k_La_law_275 23 rfl
theorem d_La_law_527 : decode y_La_law.2.2.1 527 = .ok (.iaload, 1) := mj_d (q := (527, .iaload, 1)) k_La_law_275 24 rfl
theorem k_La_law_300 : mj_dec y_La_law.2.2.1 [(528, .aload_n 0, 1), (529, .iload 4, 2), (531, .iconst 2, 1), (532, .iadd, 1), (533, .iaload, 1), (534, .invokevirtual 100, 3), (537, .istore 6, 2), (539, .aload_n 2, 1), (540, .invokevirtual 66, 3), (543, .iload 5, 2), (545, .if_icmp .eq 5, 3), (548, .iconst 0, 1), (549, .ireturn, 1), (550, .iload 5, 2), (552, .ifCond .ne 15, 3), (555, .aload_n 3, 1), (556, .iconst 0, 1), (557, .laload, 1), (558, .iload 6, 2), (560, .i2l, 1), (561, .lcmp, 1), (562, .ifCond .eq 5, 3), (565, .iconst 0, 1), (566, .ireturn, 1), (567, .goto 275, 3)] = true := by decide +kernel
theorem d_La_law_528 : decode y_La_law.2.2.1 528 = .ok (.aload_n 0, 1) := mj_d (q := (528, .aload_n 0, 1)) k_La_law_300 0 rfl
theorem d_La_law_529 : decode y_La_law.2.2.1 529 = .ok (.iload 4, 2) := mj_d (q := (529, .iload 4, 2)) k_La_law_300 1 rfl
theorem d_La_law_531 : decode y_La_law.2.2.1 531 = .ok (.iconst 2, 1) := mj_d (q := (531, .iconst 2, 1)) k_La_law_300 2 rfl
theorem d_La_law_532 : decode y_La_law.2.2.1 532 = .ok (.iadd, 1) := mj_d (q := (532, .iadd, 1)) k_La_law_300 3 rfl
theorem d_La_law_533 : decode y_La_law.2.2.1 533 = .ok (.iaload, 1) := mj_d (q := (533, .iaload, 1)) k_La_law_300 4 rfl
theorem d_La_law_534 : decode y_La_law.2.2.1 534 = .ok (.invokevirtual 100, 3) := mj_d (q := (534, .invokevirtual 100, 3)) k_La_law_300 5 rfl
theorem d_La_law_537 : decode y_La_law.2.2.1 537 = .ok (.istore 6, 2) := mj_d (q := (537, .istore 6, 2)) k_La_law_300 6 rfl
theorem d_La_law_539 : decode y_La_law.2.2.1 539 = .ok (.aload_n 2, 1) := mj_d (q := (539, .aload_n 2, 1)) k_La_law_300 7 rfl
theorem d_La_law_540 : decode y_La_law.2.2.1 540 = .ok (.invokevirtual 66, 3) := mj_d (q := (540, .invokevirtual 66, 3)) k_La_law_300 8 rfl
theorem d_La_law_543 : decode y_La_law.2.2.1 543 = .ok (.iload 5, 2) := mj_d (q := (543, .iload 5, 2)) k_La_law_300 9 rfl
theorem d_La_law_545 : decode y_La_law.2.2.1 545 = .ok (.if_icmp .eq 5, 3) := mj_d (q := (545, .if_icmp .eq 5, 3)) k_La_law_300 10 rfl
theorem d_La_law_548 : decode y_La_law.2.2.1 548 = .ok (.iconst 0, 1) := mj_d (q := (548, .iconst 0, 1)) k_La_law_300 11 rfl
theorem d_La_law_549 : decode y_La_law.2.2.1 549 = .ok (.ireturn, 1) := mj_d (q := (549, .ireturn, 1)) k_La_law_300 12 rfl
theorem d_La_law_550 : decode y_La_law.2.2.1 550 = .ok (.iload 5, 2) := mj_d (q := (550, .iload 5, 2)) k_La_law_300 13 rfl
theorem d_La_law_552 : decode y_La_law.2.2.1 552 = .ok (.ifCond .ne 15, 3) := mj_d (q := (552, .ifCond .ne 15, 3)) k_La_law_300 14 rfl
theorem d_La_law_555 : decode y_La_law.2.2.1 555 = .ok (.aload_n 3, 1) := mj_d (q := (555, .aload_n 3, 1)) k_La_law_300 15 rfl
theorem d_La_law_556 : decode y_La_law.2.2.1 556 = .ok (.iconst 0, 1) := mj_d (q := (556, .iconst 0, 1)) k_La_law_300 16 rfl
theorem d_La_law_557 : decode y_La_law.2.2.1 557 = .ok (.laload, 1) := mj_d (q := (557, .laload, 1)) k_La_law_300 17 rfl
theorem d_La_law_558 : decode y_La_law.2.2.1 558 = .ok (.iload 6, 2) := mj_d (q := (558, .iload 6, 2)) k_La_law_300 18 rfl
theorem d_La_law_560 : decode y_La_law.2.2.1 560 = .ok (.i2l, 1) := mj_d (q := (560, .i2l, 1)) k_La_law_300 19 rfl
theorem d_La_law_561 : decode y_La_law.2.2.1 561 = .ok (.lcmp, 1) := mj_d (q := (561, .lcmp, 1)) k_La_law_300 20 rfl
theorem d_La_law_562 : decode y_La_law.2.2.1 562 = .ok (.ifCond .eq 5, 3) := mj_d (q := (562, .ifCond .eq 5, 3)) k_La_law_300 21 rfl
theorem d_La_law_565 : decode y_La_law.2.2.1 565 = .ok (.iconst 0, 1) := mj_d (q := (565, .iconst 0, 1)) k_La_law_300 22 rfl
theorem d_La_law_566 : decode y_La_law.2.2.1 566 = .ok (.ireturn, 1) := mj_d (q := (566, .ireturn, 1)) k_La_law_300 23 rfl
theorem d_La_law_567 : decode y_La_law.2.2.1 567 = .ok (.goto 275, 3) := mj_d (q := (567, .goto 275, 3)) k_La_law_300 24 rfl
theorem k_La_law_325 : mj_dec y_La_law.2.2.1 [(570, .aload_n 1, 1), (571, .aload_n 0, 1), (572, .iload 4, 2), (574, .iconst 1, 1), (575, .iadd, 1), (576, .iaload, 1), (577, .aload_n 0, 1), (578, .iload 4, 2), (580, .iconst 2, 1), (581, .iadd, 1), (582, .iaload, 1), (583, .aload_n 0, 1), (584, .iload 4, 2), (586, .iconst 3, 1), (587, .iadd, 1), (588, .iaload, 1), (589, .aload_n 3, 1), (590, .invokestatic 101, 3), (593, .istore 5, 2), (595, .aload_n 2, 1), (596, .aload_n 0, 1), (597, .iload 4, 2), (599, .iconst 1, 1), (600, .iadd, 1), (601, .iaload, 1)] = true := by decide +kernel
theorem d_La_law_570 : decode y_La_law.2.2.1 570 = .ok (.aload_n 1, 1) := mj_d (q := (570, .aload_n 1, 1)) k_La_law_325 0 rfl
theorem d_La_law_571 : decode y_La_law.2.2.1 571 = .ok (.aload_n 0, 1) := mj_d (q := (571, .aload_n 0, 1)) k_La_law_325 1 rfl
theorem d_La_law_572 : decode y_La_law.2.2.1 572 = .ok (.iload 4, 2) := mj_d (q := (572, .iload 4, 2)) k_La_law_325 2 rfl
theorem d_La_law_574 : decode y_La_law.2.2.1 574 = .ok (.iconst 1, 1) := mj_d (q := (574, .iconst 1, 1)) k_La_law_325 3 rfl
theorem d_La_law_575 : decode y_La_law.2.2.1 575 = .ok (.iadd, 1) := mj_d (q := (575, .iadd, 1)) k_La_law_325 4 rfl
theorem d_La_law_576 : decode y_La_law.2.2.1 576 = .ok (.iaload, 1) := mj_d (q := (576, .iaload, 1)) k_La_law_325 5 rfl
theorem d_La_law_577 : decode y_La_law.2.2.1 577 = .ok (.aload_n 0, 1) := mj_d (q := (577, .aload_n 0, 1)) k_La_law_325 6 rfl
theorem d_La_law_578 : decode y_La_law.2.2.1 578 = .ok (.iload 4, 2) := mj_d (q := (578, .iload 4, 2)) k_La_law_325 7 rfl
theorem d_La_law_580 : decode y_La_law.2.2.1 580 = .ok (.iconst 2, 1) := mj_d (q := (580, .iconst 2, 1)) k_La_law_325 8 rfl
theorem d_La_law_581 : decode y_La_law.2.2.1 581 = .ok (.iadd, 1) := mj_d (q := (581, .iadd, 1)) k_La_law_325 9 rfl
theorem d_La_law_582 : decode y_La_law.2.2.1 582 = .ok (.iaload, 1) := mj_d (q := (582, .iaload, 1)) k_La_law_325 10 rfl
theorem d_La_law_583 : decode y_La_law.2.2.1 583 = .ok (.aload_n 0, 1) := mj_d (q := (583, .aload_n 0, 1)) k_La_law_325 11 rfl
theorem d_La_law_584 : decode y_La_law.2.2.1 584 = .ok (.iload 4, 2) := mj_d (q := (584, .iload 4, 2)) k_La_law_325 12 rfl
theorem d_La_law_586 : decode y_La_law.2.2.1 586 = .ok (.iconst 3, 1) := mj_d (q := (586, .iconst 3, 1)) k_La_law_325 13 rfl
theorem d_La_law_587 : decode y_La_law.2.2.1 587 = .ok (.iadd, 1) := mj_d (q := (587, .iadd, 1)) k_La_law_325 14 rfl
theorem d_La_law_588 : decode y_La_law.2.2.1 588 = .ok (.iaload, 1) := mj_d (q := (588, .iaload, 1)) k_La_law_325 15 rfl
theorem d_La_law_589 : decode y_La_law.2.2.1 589 = .ok (.aload_n 3, 1) := mj_d (q := (589, .aload_n 3, 1)) k_La_law_325 16 rfl
theorem d_La_law_590 : decode y_La_law.2.2.1 590 = .ok (.invokestatic 101, 3) := mj_d (q := (590, .invokestatic 101, 3)) k_La_law_325 17 rfl
theorem d_La_law_593 : decode y_La_law.2.2.1 593 = .ok (.istore 5, 2) := mj_d (q := (593, .istore 5, 2)) k_La_law_325 18 rfl
theorem d_La_law_595 : decode y_La_law.2.2.1 595 = .ok (.aload_n 2, 1) := mj_d (q := (595, .aload_n 2, 1)) k_La_law_325 19 rfl
theorem d_La_law_596 : decode y_La_law.2.2.1 596 = .ok (.aload_n 0, 1) := mj_d (q := (596, .aload_n 0, 1)) k_La_law_325 20 rfl
theorem d_La_law_597 : decode y_La_law.2.2.1 597 = .ok (.iload 4, 2) := mj_d (q := (597, .iload 4, 2)) k_La_law_325 21 rfl
theorem d_La_law_599 : decode y_La_law.2.2.1 599 = .ok (.iconst 1, 1) := mj_d (q := (599, .iconst 1, 1)) k_La_law_325 22 rfl
theorem d_La_law_600 : decode y_La_law.2.2.1 600 = .ok (.iadd, 1) := mj_d (q := (600, .iadd, 1)) k_La_law_325 23 rfl
theorem d_La_law_601 : decode y_La_law.2.2.1 601 = .ok (.iaload, 1) := mj_d (q := (601, .iaload, 1)) k_La_law_325 24 rfl
theorem k_La_law_350 : mj_dec y_La_law.2.2.1 [(602, .aload_n 0, 1), (603, .iload 4, 2), (605, .iconst 2, 1), (606, .iadd, 1), (607, .iaload, 1), (608, .aload_n 0, 1), (609, .iload 4, 2), (611, .iconst 3, 1), (612, .iadd, 1), (613, .iaload, 1), (614, .invokevirtual 103, 3), (617, .istore 6, 2), (619, .aload_n 2, 1), (620, .invokevirtual 66, 3), (623, .iload 5, 2), (625, .if_icmp .eq 5, 3), (628, .iconst 0, 1), (629, .ireturn, 1), (630, .iload 5, 2), (632, .ifCond .ne 15, 3), (635, .aload_n 3, 1), (636, .iconst 0, 1), (637, .laload, 1), (638, .iload 6, 2), (640, .i2l, 1)] = true := by decide +kernel
theorem d_La_law_602 : decode y_La_law.2.2.1 602 = .ok (.aload_n 0, 1) := mj_d (q := (602, .aload_n 0, 1)) k_La_law_350 0 rfl
theorem d_La_law_603 : decode y_La_law.2.2.1 603 = .ok (.iload 4, 2) := mj_d (q := (603, .iload 4, 2)) k_La_law_350 1 rfl
theorem d_La_law_605 : decode y_La_law.2.2.1 605 = .ok (.iconst 2, 1) := mj_d (q := (605, .iconst 2, 1)) k_La_law_350 2 rfl
theorem d_La_law_606 : decode y_La_law.2.2.1 606 = .ok (.iadd, 1) := mj_d (q := (606, .iadd, 1)) k_La_law_350 3 rfl
theorem d_La_law_607 : decode y_La_law.2.2.1 607 = .ok (.iaload, 1) := mj_d (q := (607, .iaload, 1)) k_La_law_350 4 rfl
theorem d_La_law_608 : decode y_La_law.2.2.1 608 = .ok (.aload_n 0, 1) := mj_d (q := (608, .aload_n 0, 1)) k_La_law_350 5 rfl
theorem d_La_law_609 : decode y_La_law.2.2.1 609 = .ok (.iload 4, 2) := mj_d (q := (609, .iload 4, 2)) k_La_law_350 6 rfl
theorem d_La_law_611 : decode y_La_law.2.2.1 611 = .ok (.iconst 3, 1) := mj_d (q := (611, .iconst 3, 1)) k_La_law_350 7 rfl
theorem d_La_law_612 : decode y_La_law.2.2.1 612 = .ok (.iadd, 1) := mj_d (q := (612, .iadd, 1)) k_La_law_350 8 rfl
theorem d_La_law_613 : decode y_La_law.2.2.1 613 = .ok (.iaload, 1) := mj_d (q := (613, .iaload, 1)) k_La_law_350 9 rfl
theorem d_La_law_614 : decode y_La_law.2.2.1 614 = .ok (.invokevirtual 103, 3) := mj_d (q := (614, .invokevirtual 103, 3)) k_La_law_350 10 rfl
theorem d_La_law_617 : decode y_La_law.2.2.1 617 = .ok (.istore 6, 2) := mj_d (q := (617, .istore 6, 2)) k_La_law_350 11 rfl
theorem d_La_law_619 : decode y_La_law.2.2.1 619 = .ok (.aload_n 2, 1) := mj_d (q := (619, .aload_n 2, 1)) k_La_law_350 12 rfl
theorem d_La_law_620 : decode y_La_law.2.2.1 620 = .ok (.invokevirtual 66, 3) := mj_d (q := (620, .invokevirtual 66, 3)) k_La_law_350 13 rfl
theorem d_La_law_623 : decode y_La_law.2.2.1 623 = .ok (.iload 5, 2) := mj_d (q := (623, .iload 5, 2)) k_La_law_350 14 rfl
theorem d_La_law_625 : decode y_La_law.2.2.1 625 = .ok (.if_icmp .eq 5, 3) := mj_d (q := (625, .if_icmp .eq 5, 3)) k_La_law_350 15 rfl
theorem d_La_law_628 : decode y_La_law.2.2.1 628 = .ok (.iconst 0, 1) := mj_d (q := (628, .iconst 0, 1)) k_La_law_350 16 rfl
theorem d_La_law_629 : decode y_La_law.2.2.1 629 = .ok (.ireturn, 1) := mj_d (q := (629, .ireturn, 1)) k_La_law_350 17 rfl
theorem d_La_law_630 : decode y_La_law.2.2.1 630 = .ok (.iload 5, 2) := mj_d (q := (630, .iload 5, 2)) k_La_law_350 18 rfl
theorem d_La_law_632 : decode y_La_law.2.2.1 632 = .ok (.ifCond .ne 15, 3) := mj_d (q := (632, .ifCond .ne 15, 3)) k_La_law_350 19 rfl
theorem d_La_law_635 : decode y_La_law.2.2.1 635 = .ok (.aload_n 3, 1) := mj_d (q := (635, .aload_n 3, 1)) k_La_law_350 20 rfl
theorem d_La_law_636 : decode y_La_law.2.2.1 636 = .ok (.iconst 0, 1) := mj_d (q := (636, .iconst 0, 1)) k_La_law_350 21 rfl
theorem d_La_law_637 : decode y_La_law.2.2.1 637 = .ok (.laload, 1) := mj_d (q := (637, .laload, 1)) k_La_law_350 22 rfl
theorem d_La_law_638 : decode y_La_law.2.2.1 638 = .ok (.iload 6, 2) := mj_d (q := (638, .iload 6, 2)) k_La_law_350 23 rfl
theorem d_La_law_640 : decode y_La_law.2.2.1 640 = .ok (.i2l, 1) := mj_d (q := (640, .i2l, 1)) k_La_law_350 24 rfl
theorem k_La_law_375 : mj_dec y_La_law.2.2.1 [(641, .lcmp, 1), (642, .ifCond .eq 5, 3), (645, .iconst 0, 1), (646, .ireturn, 1), (647, .goto 195, 3), (650, .aload_n 1, 1), (651, .aload_n 0, 1), (652, .iload 4, 2), (654, .iconst 1, 1), (655, .iadd, 1), (656, .iaload, 1), (657, .aload_n 0, 1), (658, .iload 4, 2), (660, .iconst 2, 1), (661, .iadd, 1), (662, .iaload, 1), (663, .aload_n 0, 1), (664, .iload 4, 2), (666, .iconst 3, 1), (667, .iadd, 1), (668, .iaload, 1), (669, .aload_n 3, 1), (670, .invokestatic 104, 3), (673, .istore 5, 2), (675, .aload_n 2, 1)] = true := by decide +kernel
theorem d_La_law_641 : decode y_La_law.2.2.1 641 = .ok (.lcmp, 1) := mj_d (q := (641, .lcmp, 1)) k_La_law_375 0 rfl
theorem d_La_law_642 : decode y_La_law.2.2.1 642 = .ok (.ifCond .eq 5, 3) := mj_d (q := (642, .ifCond .eq 5, 3)) k_La_law_375 1 rfl
theorem d_La_law_645 : decode y_La_law.2.2.1 645 = .ok (.iconst 0, 1) := mj_d (q := (645, .iconst 0, 1)) k_La_law_375 2 rfl
theorem d_La_law_646 : decode y_La_law.2.2.1 646 = .ok (.ireturn, 1) := mj_d (q := (646, .ireturn, 1)) k_La_law_375 3 rfl
theorem d_La_law_647 : decode y_La_law.2.2.1 647 = .ok (.goto 195, 3) := mj_d (q := (647, .goto 195, 3)) k_La_law_375 4 rfl
theorem d_La_law_650 : decode y_La_law.2.2.1 650 = .ok (.aload_n 1, 1) := mj_d (q := (650, .aload_n 1, 1)) k_La_law_375 5 rfl
theorem d_La_law_651 : decode y_La_law.2.2.1 651 = .ok (.aload_n 0, 1) := mj_d (q := (651, .aload_n 0, 1)) k_La_law_375 6 rfl
theorem d_La_law_652 : decode y_La_law.2.2.1 652 = .ok (.iload 4, 2) := mj_d (q := (652, .iload 4, 2)) k_La_law_375 7 rfl
theorem d_La_law_654 : decode y_La_law.2.2.1 654 = .ok (.iconst 1, 1) := mj_d (q := (654, .iconst 1, 1)) k_La_law_375 8 rfl
theorem d_La_law_655 : decode y_La_law.2.2.1 655 = .ok (.iadd, 1) := mj_d (q := (655, .iadd, 1)) k_La_law_375 9 rfl
theorem d_La_law_656 : decode y_La_law.2.2.1 656 = .ok (.iaload, 1) := mj_d (q := (656, .iaload, 1)) k_La_law_375 10 rfl
theorem d_La_law_657 : decode y_La_law.2.2.1 657 = .ok (.aload_n 0, 1) := mj_d (q := (657, .aload_n 0, 1)) k_La_law_375 11 rfl
theorem d_La_law_658 : decode y_La_law.2.2.1 658 = .ok (.iload 4, 2) := mj_d (q := (658, .iload 4, 2)) k_La_law_375 12 rfl
theorem d_La_law_660 : decode y_La_law.2.2.1 660 = .ok (.iconst 2, 1) := mj_d (q := (660, .iconst 2, 1)) k_La_law_375 13 rfl
theorem d_La_law_661 : decode y_La_law.2.2.1 661 = .ok (.iadd, 1) := mj_d (q := (661, .iadd, 1)) k_La_law_375 14 rfl
theorem d_La_law_662 : decode y_La_law.2.2.1 662 = .ok (.iaload, 1) := mj_d (q := (662, .iaload, 1)) k_La_law_375 15 rfl
theorem d_La_law_663 : decode y_La_law.2.2.1 663 = .ok (.aload_n 0, 1) := mj_d (q := (663, .aload_n 0, 1)) k_La_law_375 16 rfl
theorem d_La_law_664 : decode y_La_law.2.2.1 664 = .ok (.iload 4, 2) := mj_d (q := (664, .iload 4, 2)) k_La_law_375 17 rfl
theorem d_La_law_666 : decode y_La_law.2.2.1 666 = .ok (.iconst 3, 1) := mj_d (q := (666, .iconst 3, 1)) k_La_law_375 18 rfl
theorem d_La_law_667 : decode y_La_law.2.2.1 667 = .ok (.iadd, 1) := mj_d (q := (667, .iadd, 1)) k_La_law_375 19 rfl
theorem d_La_law_668 : decode y_La_law.2.2.1 668 = .ok (.iaload, 1) := mj_d (q := (668, .iaload, 1)) k_La_law_375 20 rfl
theorem d_La_law_669 : decode y_La_law.2.2.1 669 = .ok (.aload_n 3, 1) := mj_d (q := (669, .aload_n 3, 1)) k_La_law_375 21 rfl
theorem d_La_law_670 : decode y_La_law.2.2.1 670 = .ok (.invokestatic 104, 3) := mj_d (q := (670, .invokestatic 104, 3)) k_La_law_375 22 rfl
theorem d_La_law_673 : decode y_La_law.2.2.1 673 = .ok (.istore 5, 2) := mj_d (q := (673, .istore 5, 2)) k_La_law_375 23 rfl
theorem d_La_law_675 : decode y_La_law.2.2.1 675 = .ok (.aload_n 2, 1) := mj_d (q := (675, .aload_n 2, 1)) k_La_law_375 24 rfl
theorem k_La_law_400 : mj_dec y_La_law.2.2.1 [(676, .aload_n 0, 1), (677, .iload 4, 2), (679, .iconst 1, 1), (680, .iadd, 1), (681, .iaload, 1), (682, .aload_n 0, 1), (683, .iload 4, 2), (685, .iconst 2, 1), (686, .iadd, 1), (687, .iaload, 1), (688, .aload_n 0, 1), (689, .iload 4, 2), (691, .iconst 3, 1), (692, .iadd, 1), (693, .iaload, 1), (694, .invokevirtual 106, 3), (697, .lstore 6, 2), (699, .aload_n 2, 1), (700, .invokevirtual 66, 3), (703, .iload 5, 2), (705, .if_icmp .eq 5, 3), (708, .iconst 0, 1), (709, .ireturn, 1), (710, .iload 5, 2), (712, .ifCond .ne 14, 3)] = true := by decide +kernel
theorem d_La_law_676 : decode y_La_law.2.2.1 676 = .ok (.aload_n 0, 1) := mj_d (q := (676, .aload_n 0, 1)) k_La_law_400 0 rfl
theorem d_La_law_677 : decode y_La_law.2.2.1 677 = .ok (.iload 4, 2) := mj_d (q := (677, .iload 4, 2)) k_La_law_400 1 rfl
theorem d_La_law_679 : decode y_La_law.2.2.1 679 = .ok (.iconst 1, 1) := mj_d (q := (679, .iconst 1, 1)) k_La_law_400 2 rfl
theorem d_La_law_680 : decode y_La_law.2.2.1 680 = .ok (.iadd, 1) := mj_d (q := (680, .iadd, 1)) k_La_law_400 3 rfl
theorem d_La_law_681 : decode y_La_law.2.2.1 681 = .ok (.iaload, 1) := mj_d (q := (681, .iaload, 1)) k_La_law_400 4 rfl
theorem d_La_law_682 : decode y_La_law.2.2.1 682 = .ok (.aload_n 0, 1) := mj_d (q := (682, .aload_n 0, 1)) k_La_law_400 5 rfl
theorem d_La_law_683 : decode y_La_law.2.2.1 683 = .ok (.iload 4, 2) := mj_d (q := (683, .iload 4, 2)) k_La_law_400 6 rfl
theorem d_La_law_685 : decode y_La_law.2.2.1 685 = .ok (.iconst 2, 1) := mj_d (q := (685, .iconst 2, 1)) k_La_law_400 7 rfl
theorem d_La_law_686 : decode y_La_law.2.2.1 686 = .ok (.iadd, 1) := mj_d (q := (686, .iadd, 1)) k_La_law_400 8 rfl
theorem d_La_law_687 : decode y_La_law.2.2.1 687 = .ok (.iaload, 1) := mj_d (q := (687, .iaload, 1)) k_La_law_400 9 rfl
theorem d_La_law_688 : decode y_La_law.2.2.1 688 = .ok (.aload_n 0, 1) := mj_d (q := (688, .aload_n 0, 1)) k_La_law_400 10 rfl
theorem d_La_law_689 : decode y_La_law.2.2.1 689 = .ok (.iload 4, 2) := mj_d (q := (689, .iload 4, 2)) k_La_law_400 11 rfl
theorem d_La_law_691 : decode y_La_law.2.2.1 691 = .ok (.iconst 3, 1) := mj_d (q := (691, .iconst 3, 1)) k_La_law_400 12 rfl
theorem d_La_law_692 : decode y_La_law.2.2.1 692 = .ok (.iadd, 1) := mj_d (q := (692, .iadd, 1)) k_La_law_400 13 rfl
theorem d_La_law_693 : decode y_La_law.2.2.1 693 = .ok (.iaload, 1) := mj_d (q := (693, .iaload, 1)) k_La_law_400 14 rfl
theorem d_La_law_694 : decode y_La_law.2.2.1 694 = .ok (.invokevirtual 106, 3) := mj_d (q := (694, .invokevirtual 106, 3)) k_La_law_400 15 rfl
theorem d_La_law_697 : decode y_La_law.2.2.1 697 = .ok (.lstore 6, 2) := mj_d (q := (697, .lstore 6, 2)) k_La_law_400 16 rfl
theorem d_La_law_699 : decode y_La_law.2.2.1 699 = .ok (.aload_n 2, 1) := mj_d (q := (699, .aload_n 2, 1)) k_La_law_400 17 rfl
theorem d_La_law_700 : decode y_La_law.2.2.1 700 = .ok (.invokevirtual 66, 3) := mj_d (q := (700, .invokevirtual 66, 3)) k_La_law_400 18 rfl
theorem d_La_law_703 : decode y_La_law.2.2.1 703 = .ok (.iload 5, 2) := mj_d (q := (703, .iload 5, 2)) k_La_law_400 19 rfl
theorem d_La_law_705 : decode y_La_law.2.2.1 705 = .ok (.if_icmp .eq 5, 3) := mj_d (q := (705, .if_icmp .eq 5, 3)) k_La_law_400 20 rfl
theorem d_La_law_708 : decode y_La_law.2.2.1 708 = .ok (.iconst 0, 1) := mj_d (q := (708, .iconst 0, 1)) k_La_law_400 21 rfl
theorem d_La_law_709 : decode y_La_law.2.2.1 709 = .ok (.ireturn, 1) := mj_d (q := (709, .ireturn, 1)) k_La_law_400 22 rfl
theorem d_La_law_710 : decode y_La_law.2.2.1 710 = .ok (.iload 5, 2) := mj_d (q := (710, .iload 5, 2)) k_La_law_400 23 rfl
theorem d_La_law_712 : decode y_La_law.2.2.1 712 = .ok (.ifCond .ne 14, 3) := mj_d (q := (712, .ifCond .ne 14, 3)) k_La_law_400 24 rfl
theorem k_La_law_425 : mj_dec y_La_law.2.2.1 [(715, .aload_n 3, 1), (716, .iconst 0, 1), (717, .laload, 1), (718, .lload 6, 2), (720, .lcmp, 1), (721, .ifCond .eq 5, 3), (724, .iconst 0, 1), (725, .ireturn, 1), (726, .goto 116, 3), (729, .aload_n 1, 1), (730, .invokevirtual 107, 3), (733, .aload_n 2, 1), (734, .invokevirtual 110, 3), (737, .if_icmp .eq 105, 3), (740, .iconst 0, 1), (741, .ireturn, 1), (742, .aload_n 1, 1), (743, .aload_n 0, 1), (744, .iload 4, 2), (746, .iconst 1, 1), (747, .iadd, 1), (748, .iaload, 1), (749, .i2l, 1), (750, .bipush 32, 2), (752, .lshl, 1)] = true := by decide +kernel
theorem d_La_law_715 : decode y_La_law.2.2.1 715 = .ok (.aload_n 3, 1) := mj_d (q := (715, .aload_n 3, 1)) k_La_law_425 0 rfl
theorem d_La_law_716 : decode y_La_law.2.2.1 716 = .ok (.iconst 0, 1) := mj_d (q := (716, .iconst 0, 1)) k_La_law_425 1 rfl
theorem d_La_law_717 : decode y_La_law.2.2.1 717 = .ok (.laload, 1) := mj_d (q := (717, .laload, 1)) k_La_law_425 2 rfl
theorem d_La_law_718 : decode y_La_law.2.2.1 718 = .ok (.lload 6, 2) := mj_d (q := (718, .lload 6, 2)) k_La_law_425 3 rfl
theorem d_La_law_720 : decode y_La_law.2.2.1 720 = .ok (.lcmp, 1) := mj_d (q := (720, .lcmp, 1)) k_La_law_425 4 rfl
theorem d_La_law_721 : decode y_La_law.2.2.1 721 = .ok (.ifCond .eq 5, 3) := mj_d (q := (721, .ifCond .eq 5, 3)) k_La_law_425 5 rfl
theorem d_La_law_724 : decode y_La_law.2.2.1 724 = .ok (.iconst 0, 1) := mj_d (q := (724, .iconst 0, 1)) k_La_law_425 6 rfl
theorem d_La_law_725 : decode y_La_law.2.2.1 725 = .ok (.ireturn, 1) := mj_d (q := (725, .ireturn, 1)) k_La_law_425 7 rfl
theorem d_La_law_726 : decode y_La_law.2.2.1 726 = .ok (.goto 116, 3) := mj_d (q := (726, .goto 116, 3)) k_La_law_425 8 rfl
theorem d_La_law_729 : decode y_La_law.2.2.1 729 = .ok (.aload_n 1, 1) := mj_d (q := (729, .aload_n 1, 1)) k_La_law_425 9 rfl
theorem d_La_law_730 : decode y_La_law.2.2.1 730 = .ok (.invokevirtual 107, 3) := mj_d (q := (730, .invokevirtual 107, 3)) k_La_law_425 10 rfl
theorem d_La_law_733 : decode y_La_law.2.2.1 733 = .ok (.aload_n 2, 1) := mj_d (q := (733, .aload_n 2, 1)) k_La_law_425 11 rfl
theorem d_La_law_734 : decode y_La_law.2.2.1 734 = .ok (.invokevirtual 110, 3) := mj_d (q := (734, .invokevirtual 110, 3)) k_La_law_425 12 rfl
theorem d_La_law_737 : decode y_La_law.2.2.1 737 = .ok (.if_icmp .eq 105, 3) := mj_d (q := (737, .if_icmp .eq 105, 3)) k_La_law_425 13 rfl
theorem d_La_law_740 : decode y_La_law.2.2.1 740 = .ok (.iconst 0, 1) := mj_d (q := (740, .iconst 0, 1)) k_La_law_425 14 rfl
theorem d_La_law_741 : decode y_La_law.2.2.1 741 = .ok (.ireturn, 1) := mj_d (q := (741, .ireturn, 1)) k_La_law_425 15 rfl
theorem d_La_law_742 : decode y_La_law.2.2.1 742 = .ok (.aload_n 1, 1) := mj_d (q := (742, .aload_n 1, 1)) k_La_law_425 16 rfl
theorem d_La_law_743 : decode y_La_law.2.2.1 743 = .ok (.aload_n 0, 1) := mj_d (q := (743, .aload_n 0, 1)) k_La_law_425 17 rfl
theorem d_La_law_744 : decode y_La_law.2.2.1 744 = .ok (.iload 4, 2) := mj_d (q := (744, .iload 4, 2)) k_La_law_425 18 rfl
theorem d_La_law_746 : decode y_La_law.2.2.1 746 = .ok (.iconst 1, 1) := mj_d (q := (746, .iconst 1, 1)) k_La_law_425 19 rfl
theorem d_La_law_747 : decode y_La_law.2.2.1 747 = .ok (.iadd, 1) := mj_d (q := (747, .iadd, 1)) k_La_law_425 20 rfl
theorem d_La_law_748 : decode y_La_law.2.2.1 748 = .ok (.iaload, 1) := mj_d (q := (748, .iaload, 1)) k_La_law_425 21 rfl
theorem d_La_law_749 : decode y_La_law.2.2.1 749 = .ok (.i2l, 1) := mj_d (q := (749, .i2l, 1)) k_La_law_425 22 rfl
theorem d_La_law_750 : decode y_La_law.2.2.1 750 = .ok (.bipush 32, 2) := mj_d (q := (750, .bipush 32, 2)) k_La_law_425 23 rfl
theorem d_La_law_752 : decode y_La_law.2.2.1 752 = .ok (.lshl, 1) := mj_d (q := (752, .lshl, 1)) k_La_law_425 24 rfl
theorem k_La_law_450 : mj_dec y_La_law.2.2.1 [(753, .aload_n 0, 1), (754, .iload 4, 2), (756, .iconst 2, 1), (757, .iadd, 1), (758, .iaload, 1), (759, .i2l, 1), (760, .ldc2_w 111, 3), (763, .land, 1), (764, .lor, 1), (765, .aload_n 0, 1), (766, .iload 4, 2), (768, .iconst 3, 1), (769, .iadd, 1), (770, .iaload, 1), (771, .aload_n 3, 1), (772, .invokestatic 113, 3), (775, .istore 5, 2), (777, .aload_n 2, 1), (778, .aload_n 0, 1), (779, .iload 4, 2), (781, .iconst 1, 1), (782, .iadd, 1), (783, .iaload, 1), (784, .i2l, 1), (785, .bipush 32, 2)] = true := by decide +kernel
theorem d_La_law_753 : decode y_La_law.2.2.1 753 = .ok (.aload_n 0, 1) := mj_d (q := (753, .aload_n 0, 1)) k_La_law_450 0 rfl
theorem d_La_law_754 : decode y_La_law.2.2.1 754 = .ok (.iload 4, 2) := mj_d (q := (754, .iload 4, 2)) k_La_law_450 1 rfl
theorem d_La_law_756 : decode y_La_law.2.2.1 756 = .ok (.iconst 2, 1) := mj_d (q := (756, .iconst 2, 1)) k_La_law_450 2 rfl
theorem d_La_law_757 : decode y_La_law.2.2.1 757 = .ok (.iadd, 1) := mj_d (q := (757, .iadd, 1)) k_La_law_450 3 rfl
theorem d_La_law_758 : decode y_La_law.2.2.1 758 = .ok (.iaload, 1) := mj_d (q := (758, .iaload, 1)) k_La_law_450 4 rfl
theorem d_La_law_759 : decode y_La_law.2.2.1 759 = .ok (.i2l, 1) := mj_d (q := (759, .i2l, 1)) k_La_law_450 5 rfl
theorem d_La_law_760 : decode y_La_law.2.2.1 760 = .ok (.ldc2_w 111, 3) := mj_d (q := (760, .ldc2_w 111, 3)) k_La_law_450 6 rfl
theorem d_La_law_763 : decode y_La_law.2.2.1 763 = .ok (.land, 1) := mj_d (q := (763, .land, 1)) k_La_law_450 7 rfl
theorem d_La_law_764 : decode y_La_law.2.2.1 764 = .ok (.lor, 1) := mj_d (q := (764, .lor, 1)) k_La_law_450 8 rfl
theorem d_La_law_765 : decode y_La_law.2.2.1 765 = .ok (.aload_n 0, 1) := mj_d (q := (765, .aload_n 0, 1)) k_La_law_450 9 rfl
theorem d_La_law_766 : decode y_La_law.2.2.1 766 = .ok (.iload 4, 2) := mj_d (q := (766, .iload 4, 2)) k_La_law_450 10 rfl
theorem d_La_law_768 : decode y_La_law.2.2.1 768 = .ok (.iconst 3, 1) := mj_d (q := (768, .iconst 3, 1)) k_La_law_450 11 rfl
theorem d_La_law_769 : decode y_La_law.2.2.1 769 = .ok (.iadd, 1) := mj_d (q := (769, .iadd, 1)) k_La_law_450 12 rfl
theorem d_La_law_770 : decode y_La_law.2.2.1 770 = .ok (.iaload, 1) := mj_d (q := (770, .iaload, 1)) k_La_law_450 13 rfl
theorem d_La_law_771 : decode y_La_law.2.2.1 771 = .ok (.aload_n 3, 1) := mj_d (q := (771, .aload_n 3, 1)) k_La_law_450 14 rfl
theorem d_La_law_772 : decode y_La_law.2.2.1 772 = .ok (.invokestatic 113, 3) := mj_d (q := (772, .invokestatic 113, 3)) k_La_law_450 15 rfl
theorem d_La_law_775 : decode y_La_law.2.2.1 775 = .ok (.istore 5, 2) := mj_d (q := (775, .istore 5, 2)) k_La_law_450 16 rfl
theorem d_La_law_777 : decode y_La_law.2.2.1 777 = .ok (.aload_n 2, 1) := mj_d (q := (777, .aload_n 2, 1)) k_La_law_450 17 rfl
theorem d_La_law_778 : decode y_La_law.2.2.1 778 = .ok (.aload_n 0, 1) := mj_d (q := (778, .aload_n 0, 1)) k_La_law_450 18 rfl
theorem d_La_law_779 : decode y_La_law.2.2.1 779 = .ok (.iload 4, 2) := mj_d (q := (779, .iload 4, 2)) k_La_law_450 19 rfl
theorem d_La_law_781 : decode y_La_law.2.2.1 781 = .ok (.iconst 1, 1) := mj_d (q := (781, .iconst 1, 1)) k_La_law_450 20 rfl
theorem d_La_law_782 : decode y_La_law.2.2.1 782 = .ok (.iadd, 1) := mj_d (q := (782, .iadd, 1)) k_La_law_450 21 rfl
theorem d_La_law_783 : decode y_La_law.2.2.1 783 = .ok (.iaload, 1) := mj_d (q := (783, .iaload, 1)) k_La_law_450 22 rfl
theorem d_La_law_784 : decode y_La_law.2.2.1 784 = .ok (.i2l, 1) := mj_d (q := (784, .i2l, 1)) k_La_law_450 23 rfl
theorem d_La_law_785 : decode y_La_law.2.2.1 785 = .ok (.bipush 32, 2) := mj_d (q := (785, .bipush 32, 2)) k_La_law_450 24 rfl
theorem k_La_law_475 : mj_dec y_La_law.2.2.1 [(787, .lshl, 1), (788, .aload_n 0, 1), (789, .iload 4, 2), (791, .iconst 2, 1), (792, .iadd, 1), (793, .iaload, 1), (794, .i2l, 1), (795, .ldc2_w 111, 3), (798, .land, 1), (799, .lor, 1), (800, .aload_n 0, 1), (801, .iload 4, 2), (803, .iconst 3, 1), (804, .iadd, 1), (805, .iaload, 1), (806, .invokevirtual 116, 3), (809, .istore 6, 2), (811, .aload_n 2, 1), (812, .invokevirtual 66, 3), (815, .iload 5, 2), (817, .if_icmp .eq 5, 3), (820, .iconst 0, 1), (821, .ireturn, 1), (822, .iload 5, 2), (824, .ifCond .ne 15, 3)] = true := by decide +kernel
theorem d_La_law_787 : decode y_La_law.2.2.1 787 = .ok (.lshl, 1) := mj_d (q := (787, .lshl, 1)) k_La_law_475 0 rfl
theorem d_La_law_788 : decode y_La_law.2.2.1 788 = .ok (.aload_n 0, 1) := mj_d (q := (788, .aload_n 0, 1)) k_La_law_475 1 rfl
theorem d_La_law_789 : decode y_La_law.2.2.1 789 = .ok (.iload 4, 2) := mj_d (q := (789, .iload 4, 2)) k_La_law_475 2 rfl
theorem d_La_law_791 : decode y_La_law.2.2.1 791 = .ok (.iconst 2, 1) := mj_d (q := (791, .iconst 2, 1)) k_La_law_475 3 rfl
theorem d_La_law_792 : decode y_La_law.2.2.1 792 = .ok (.iadd, 1) := mj_d (q := (792, .iadd, 1)) k_La_law_475 4 rfl
theorem d_La_law_793 : decode y_La_law.2.2.1 793 = .ok (.iaload, 1) := mj_d (q := (793, .iaload, 1)) k_La_law_475 5 rfl
theorem d_La_law_794 : decode y_La_law.2.2.1 794 = .ok (.i2l, 1) := mj_d (q := (794, .i2l, 1)) k_La_law_475 6 rfl
theorem d_La_law_795 : decode y_La_law.2.2.1 795 = .ok (.ldc2_w 111, 3) := mj_d (q := (795, .ldc2_w 111, 3)) k_La_law_475 7 rfl
theorem d_La_law_798 : decode y_La_law.2.2.1 798 = .ok (.land, 1) := mj_d (q := (798, .land, 1)) k_La_law_475 8 rfl
theorem d_La_law_799 : decode y_La_law.2.2.1 799 = .ok (.lor, 1) := mj_d (q := (799, .lor, 1)) k_La_law_475 9 rfl
theorem d_La_law_800 : decode y_La_law.2.2.1 800 = .ok (.aload_n 0, 1) := mj_d (q := (800, .aload_n 0, 1)) k_La_law_475 10 rfl
theorem d_La_law_801 : decode y_La_law.2.2.1 801 = .ok (.iload 4, 2) := mj_d (q := (801, .iload 4, 2)) k_La_law_475 11 rfl
theorem d_La_law_803 : decode y_La_law.2.2.1 803 = .ok (.iconst 3, 1) := mj_d (q := (803, .iconst 3, 1)) k_La_law_475 12 rfl
theorem d_La_law_804 : decode y_La_law.2.2.1 804 = .ok (.iadd, 1) := mj_d (q := (804, .iadd, 1)) k_La_law_475 13 rfl
theorem d_La_law_805 : decode y_La_law.2.2.1 805 = .ok (.iaload, 1) := mj_d (q := (805, .iaload, 1)) k_La_law_475 14 rfl
theorem d_La_law_806 : decode y_La_law.2.2.1 806 = .ok (.invokevirtual 116, 3) := mj_d (q := (806, .invokevirtual 116, 3)) k_La_law_475 15 rfl
theorem d_La_law_809 : decode y_La_law.2.2.1 809 = .ok (.istore 6, 2) := mj_d (q := (809, .istore 6, 2)) k_La_law_475 16 rfl
theorem d_La_law_811 : decode y_La_law.2.2.1 811 = .ok (.aload_n 2, 1) := mj_d (q := (811, .aload_n 2, 1)) k_La_law_475 17 rfl
theorem d_La_law_812 : decode y_La_law.2.2.1 812 = .ok (.invokevirtual 66, 3) := mj_d (q := (812, .invokevirtual 66, 3)) k_La_law_475 18 rfl
theorem d_La_law_815 : decode y_La_law.2.2.1 815 = .ok (.iload 5, 2) := mj_d (q := (815, .iload 5, 2)) k_La_law_475 19 rfl
theorem d_La_law_817 : decode y_La_law.2.2.1 817 = .ok (.if_icmp .eq 5, 3) := mj_d (q := (817, .if_icmp .eq 5, 3)) k_La_law_475 20 rfl
theorem d_La_law_820 : decode y_La_law.2.2.1 820 = .ok (.iconst 0, 1) := mj_d (q := (820, .iconst 0, 1)) k_La_law_475 21 rfl
theorem d_La_law_821 : decode y_La_law.2.2.1 821 = .ok (.ireturn, 1) := mj_d (q := (821, .ireturn, 1)) k_La_law_475 22 rfl
theorem d_La_law_822 : decode y_La_law.2.2.1 822 = .ok (.iload 5, 2) := mj_d (q := (822, .iload 5, 2)) k_La_law_475 23 rfl
theorem d_La_law_824 : decode y_La_law.2.2.1 824 = .ok (.ifCond .ne 15, 3) := mj_d (q := (824, .ifCond .ne 15, 3)) k_La_law_475 24 rfl
theorem k_La_law_500 : mj_dec y_La_law.2.2.1 [(827, .aload_n 3, 1), (828, .iconst 0, 1), (829, .laload, 1), (830, .iload 6, 2), (832, .i2l, 1), (833, .lcmp, 1), (834, .ifCond .eq 5, 3), (837, .iconst 0, 1), (838, .ireturn, 1), (839, .goto 3, 3), (842, .iinc 4 5, 3), (845, .goto (-812), 3), (848, .iconst 1, 1), (849, .ireturn, 1)] = true := by decide +kernel
theorem d_La_law_827 : decode y_La_law.2.2.1 827 = .ok (.aload_n 3, 1) := mj_d (q := (827, .aload_n 3, 1)) k_La_law_500 0 rfl
theorem d_La_law_828 : decode y_La_law.2.2.1 828 = .ok (.iconst 0, 1) := mj_d (q := (828, .iconst 0, 1)) k_La_law_500 1 rfl
theorem d_La_law_829 : decode y_La_law.2.2.1 829 = .ok (.laload, 1) := mj_d (q := (829, .laload, 1)) k_La_law_500 2 rfl
theorem d_La_law_830 : decode y_La_law.2.2.1 830 = .ok (.iload 6, 2) := mj_d (q := (830, .iload 6, 2)) k_La_law_500 3 rfl
theorem d_La_law_832 : decode y_La_law.2.2.1 832 = .ok (.i2l, 1) := mj_d (q := (832, .i2l, 1)) k_La_law_500 4 rfl
theorem d_La_law_833 : decode y_La_law.2.2.1 833 = .ok (.lcmp, 1) := mj_d (q := (833, .lcmp, 1)) k_La_law_500 5 rfl
theorem d_La_law_834 : decode y_La_law.2.2.1 834 = .ok (.ifCond .eq 5, 3) := mj_d (q := (834, .ifCond .eq 5, 3)) k_La_law_500 6 rfl
theorem d_La_law_837 : decode y_La_law.2.2.1 837 = .ok (.iconst 0, 1) := mj_d (q := (837, .iconst 0, 1)) k_La_law_500 7 rfl
theorem d_La_law_838 : decode y_La_law.2.2.1 838 = .ok (.ireturn, 1) := mj_d (q := (838, .ireturn, 1)) k_La_law_500 8 rfl
theorem d_La_law_839 : decode y_La_law.2.2.1 839 = .ok (.goto 3, 3) := mj_d (q := (839, .goto 3, 3)) k_La_law_500 9 rfl
theorem d_La_law_842 : decode y_La_law.2.2.1 842 = .ok (.iinc 4 5, 3) := mj_d (q := (842, .iinc 4 5, 3)) k_La_law_500 10 rfl
theorem d_La_law_845 : decode y_La_law.2.2.1 845 = .ok (.goto (-812), 3) := mj_d (q := (845, .goto (-812), 3)) k_La_law_500 11 rfl
theorem d_La_law_848 : decode y_La_law.2.2.1 848 = .ok (.iconst 1, 1) := mj_d (q := (848, .iconst 1, 1)) k_La_law_500 12 rfl
theorem d_La_law_849 : decode y_La_law.2.2.1 849 = .ok (.ireturn, 1) := mj_d (q := (849, .ireturn, 1)) k_La_law_500 13 rfl
