/-! ===== the law's small methods (by program) ===== -/
abbrev y_La_cell : mj_Y := ("ChartForestLaw", ⟨"ChartForestLaw", "cell", "([II)I"⟩, method_2_code, 2, some .int)
theorem k_La_cell : mj_dec y_La_cell.2.2.1 [(0, .iload_n 1, 1), (1, .aload_n 0, 1), (2, .arraylength, 1), (3, .if_icmp .ge 9, 3), (6, .aload_n 0, 1), (7, .iload_n 1, 1), (8, .iaload, 1), (9, .goto 4, 3), (12, .iconst 0, 1), (13, .ireturn, 1)] = true := by decide +kernel
theorem h_La_cell : mj_yk y_La_cell 2 := ⟨mw_408, mw_52, ⟨rfl, by decide +kernel, by decide +kernel, by decide +kernel⟩, by decide, by decide +kernel⟩
theorem d_La_cell_0 : decode y_La_cell.2.2.1 0 = .ok (.iload_n 1, 1) := mj_d (q := (0, .iload_n 1, 1)) k_La_cell 0 rfl
theorem d_La_cell_1 : decode y_La_cell.2.2.1 1 = .ok (.aload_n 0, 1) := mj_d (q := (1, .aload_n 0, 1)) k_La_cell 1 rfl
theorem d_La_cell_2 : decode y_La_cell.2.2.1 2 = .ok (.arraylength, 1) := mj_d (q := (2, .arraylength, 1)) k_La_cell 2 rfl
theorem d_La_cell_3 : decode y_La_cell.2.2.1 3 = .ok (.if_icmp .ge 9, 3) := mj_d (q := (3, .if_icmp .ge 9, 3)) k_La_cell 3 rfl
theorem d_La_cell_6 : decode y_La_cell.2.2.1 6 = .ok (.aload_n 0, 1) := mj_d (q := (6, .aload_n 0, 1)) k_La_cell 4 rfl
theorem d_La_cell_7 : decode y_La_cell.2.2.1 7 = .ok (.iload_n 1, 1) := mj_d (q := (7, .iload_n 1, 1)) k_La_cell 5 rfl
theorem d_La_cell_8 : decode y_La_cell.2.2.1 8 = .ok (.iaload, 1) := mj_d (q := (8, .iaload, 1)) k_La_cell 6 rfl
theorem d_La_cell_9 : decode y_La_cell.2.2.1 9 = .ok (.goto 4, 3) := mj_d (q := (9, .goto 4, 3)) k_La_cell 7 rfl
theorem d_La_cell_12 : decode y_La_cell.2.2.1 12 = .ok (.iconst 0, 1) := mj_d (q := (12, .iconst 0, 1)) k_La_cell 8 rfl
theorem d_La_cell_13 : decode y_La_cell.2.2.1 13 = .ok (.ireturn, 1) := mj_d (q := (13, .ireturn, 1)) k_La_cell 9 rfl
theorem v_La_cell_0 {g : mj_G} {nn d : Nat} {xs : mj_M} {Post : Option mj_V → mj_w → Prop} (hn : 34 ≤ nn) {w : mj_w} {l1 : Int}
    (h : mj_i l1 ∧ mj_i (g.2.2.2.2.1 : Int) ∧ (l1 < (g.2.2.2.2.1 : Int) → (0 ≤ l1 ∧ l1 < (g.2.2.2.2.1 : Int) ∧ Post (some (.inl ((g.2.2.2.2.2 (l1).toNat).toInt))) w)) ∧ (¬ l1 < (g.2.2.2.2.1 : Int) → (Post (some (.inl 0)) w))) :
    mj_J g y_La_cell d 0 0 (0, [some (.inr (.inr (.inr ()))), some (.inl l1)], [], mj_mem nn xs w) (mj_P nn xs Post) := by
  refine mj_r_iload_n d_La_cell_0 rfl ?_
  refine mj_r_aload_nS d_La_cell_1 rfl ?_
  refine mj_r_slen d_La_cell_2 ?_
  obtain ⟨q1, h⟩ := h
  obtain ⟨q2, h⟩ := h
  refine mj_s_icmp_ge (tgt := 12) d_La_cell_3 (by decide) q1 q2 (fun q3 => ?_) (fun q3 => ?_)
  · have h := h.1 q3
    refine mj_r_aload_nS d_La_cell_6 rfl ?_
    refine mj_r_iload_n d_La_cell_7 rfl ?_
    obtain ⟨q4, h⟩ := h
    obtain ⟨q5, h⟩ := h
    refine mj_r_sald d_La_cell_8 q1 q4 q5 ?_
    refine mj_r_goto (tgt := 13) d_La_cell_9 (by decide) ?_
    exact mj_r_iret d_La_cell_13 rfl (mj_q_ret h)
  · have h := h.2 q3
    refine mj_r_iconst (x := 0) d_La_cell_12 rfl ?_
    exact mj_r_iret d_La_cell_13 rfl (mj_q_ret h)
abbrev y_La_rule : mj_Y := ("ChartForestLaw", ⟨"ChartForestLaw", "rule", "(LChartForest;III[J)I"⟩, method_3_code, 6, some .int)
theorem k_La_rule : mj_dec y_La_rule.2.2.1 [(0, .aload 4, 2), (2, .iconst 0, 1), (3, .aload_n 0, 1), (4, .iload_n 1, 1), (5, .iload_n 2, 1), (6, .iload_n 3, 1), (7, .invokevirtual 7, 3), (10, .i2l, 1), (11, .lastore, 1), (12, .goto 11, 3), (15, .astore 5, 2), (17, .iconst 1, 1), (18, .ireturn, 1), (19, .astore 5, 2), (21, .iconst 2, 1), (22, .ireturn, 1), (23, .iconst 0, 1), (24, .ireturn, 1)] = true := by decide +kernel
theorem h_La_rule : mj_yw y_La_rule 5 [(0, 12, 15, 13), (0, 12, 19, 15)] := ⟨mw_411, mw_52, ⟨rfl, by decide +kernel, by decide +kernel, by decide +kernel⟩, by decide, by decide +kernel⟩
theorem hf_La_rule_8 : mj_hf "ChartForestLaw" 7 "java/lang/IllegalArgumentException" 15 [(0, 12, 15, 13), (0, 12, 19, 15)] := ⟨⟨by decide, by decide, by decide⟩, _, mw_412, .inl ⟨rfl, mw_428, rfl⟩⟩
theorem hf_La_rule_9 : mj_hf "ChartForestLaw" 7 "java/lang/IllegalStateException" 19 [(0, 12, 15, 13), (0, 12, 19, 15)] := ⟨⟨by decide, by decide, by decide⟩, _, mw_412, .inr ⟨fun a s h => flat_of_before _ h _ (by decide +kernel), ⟨⟨by decide, by decide, by decide⟩, _, mw_413, .inl ⟨rfl, mw_492, rfl⟩⟩⟩⟩
theorem d_La_rule_0 : decode y_La_rule.2.2.1 0 = .ok (.aload 4, 2) := mj_d (q := (0, .aload 4, 2)) k_La_rule 0 rfl
theorem d_La_rule_2 : decode y_La_rule.2.2.1 2 = .ok (.iconst 0, 1) := mj_d (q := (2, .iconst 0, 1)) k_La_rule 1 rfl
theorem d_La_rule_3 : decode y_La_rule.2.2.1 3 = .ok (.aload_n 0, 1) := mj_d (q := (3, .aload_n 0, 1)) k_La_rule 2 rfl
theorem d_La_rule_4 : decode y_La_rule.2.2.1 4 = .ok (.iload_n 1, 1) := mj_d (q := (4, .iload_n 1, 1)) k_La_rule 3 rfl
theorem d_La_rule_5 : decode y_La_rule.2.2.1 5 = .ok (.iload_n 2, 1) := mj_d (q := (5, .iload_n 2, 1)) k_La_rule 4 rfl
theorem d_La_rule_6 : decode y_La_rule.2.2.1 6 = .ok (.iload_n 3, 1) := mj_d (q := (6, .iload_n 3, 1)) k_La_rule 5 rfl
theorem d_La_rule_7 : decode y_La_rule.2.2.1 7 = .ok (.invokevirtual 7, 3) := mj_d (q := (7, .invokevirtual 7, 3)) k_La_rule 6 rfl
theorem d_La_rule_10 : decode y_La_rule.2.2.1 10 = .ok (.i2l, 1) := mj_d (q := (10, .i2l, 1)) k_La_rule 7 rfl
theorem d_La_rule_11 : decode y_La_rule.2.2.1 11 = .ok (.lastore, 1) := mj_d (q := (11, .lastore, 1)) k_La_rule 8 rfl
theorem d_La_rule_12 : decode y_La_rule.2.2.1 12 = .ok (.goto 11, 3) := mj_d (q := (12, .goto 11, 3)) k_La_rule 9 rfl
theorem d_La_rule_15 : decode y_La_rule.2.2.1 15 = .ok (.astore 5, 2) := mj_d (q := (15, .astore 5, 2)) k_La_rule 10 rfl
theorem d_La_rule_17 : decode y_La_rule.2.2.1 17 = .ok (.iconst 1, 1) := mj_d (q := (17, .iconst 1, 1)) k_La_rule 11 rfl
theorem d_La_rule_18 : decode y_La_rule.2.2.1 18 = .ok (.ireturn, 1) := mj_d (q := (18, .ireturn, 1)) k_La_rule 12 rfl
theorem d_La_rule_19 : decode y_La_rule.2.2.1 19 = .ok (.astore 5, 2) := mj_d (q := (19, .astore 5, 2)) k_La_rule 13 rfl
theorem d_La_rule_21 : decode y_La_rule.2.2.1 21 = .ok (.iconst 2, 1) := mj_d (q := (21, .iconst 2, 1)) k_La_rule 14 rfl
theorem d_La_rule_22 : decode y_La_rule.2.2.1 22 = .ok (.ireturn, 1) := mj_d (q := (22, .ireturn, 1)) k_La_rule 15 rfl
theorem d_La_rule_23 : decode y_La_rule.2.2.1 23 = .ok (.iconst 0, 1) := mj_d (q := (23, .iconst 0, 1)) k_La_rule 16 rfl
theorem d_La_rule_24 : decode y_La_rule.2.2.1 24 = .ok (.ireturn, 1) := mj_d (q := (24, .ireturn, 1)) k_La_rule 17 rfl
theorem v_La_rule_0 {g : mj_G} {nn d : Nat} {xs : mj_M} {Post : Option mj_V → mj_w → Prop} (hn : 34 ≤ nn) {w : mj_w} {l1 l2 l3 : Int}
    (h : mj_J g y_CF_rule (d + 6) 1 6 (0, [some (mj_R 0), some (.inl l1), some (.inl l2), some (.inl l3)], [], mj_mem nn xs w) (mj_PT nn xs (fun r w1 => (∃ x2 : Int, r = .inl (some (.inl x2)) ∧ (mj_i x2 ∧ (∀ w4, w4 = mj_wu w1 33 0 0 x2 → Post (some (.inl 0)) w4))) ∨ (r = .inr 8 ∧ (Post (some (.inl 1)) w1)) ∨ (r = .inr 9 ∧ (Post (some (.inl 2)) w1))))) :
    mj_J g y_La_rule (d + 7) 1 6 (0, [some (mj_R 0), some (.inl l1), some (.inl l2), some (.inl l3), some (mj_R 33), none], [], mj_mem nn xs w) (mj_PX nn xs Post) := by
  refine mj_r_aload d_La_rule_0 rfl ?_
  refine mj_r_iconst (x := 0) d_La_rule_2 rfl ?_
  refine mj_r_aload_n d_La_rule_3 rfl ?_
  refine mj_r_iload_n d_La_rule_4 rfl ?_
  refine mj_r_iload_n d_La_rule_5 rfl ?_
  refine mj_r_iload_n d_La_rule_6 rfl ?_
  refine mj_q_VT3i (kc := 0) (ks := 0) d_La_rule_7 h_CF_rule mw_414 mw_415 mw_416 mw_411 rfl rfl rfl hn rfl rfl (mj_wkT h (fun r w1 h => ?_))
  rcases h with ⟨x2, rfl, h⟩ | ⟨rfl, h⟩ | ⟨rfl, h⟩
  · refine .inl ⟨x2, rfl, ?_⟩
    obtain ⟨q3, h⟩ := h
    refine mj_r_i2l d_La_rule_10 q3 ?_
    refine mj_q_last d_La_rule_11 rfl rfl hn rfl (by decide) (by decide) (fun w4 e5 => ?_)
    have h := h w4 e5
    refine mj_r_goto (tgt := 23) d_La_rule_12 (by decide) ?_
    refine mj_r_iconst (x := 0) d_La_rule_23 rfl ?_
    exact mj_r_iret d_La_rule_24 rfl (mj_q_retX h)
  · refine .inr ⟨8, _, 15, rfl, rfl, hf_La_rule_8, ?_⟩
    refine mj_e_astore (lv' := [some (mj_R 0), some (.inl l1), some (.inl l2), some (.inl l3), some (mj_R 33), some (mj_R (nn + xs.length))]) d_La_rule_15 rfl rfl ?_
    refine mj_r_iconst (x := 1) d_La_rule_17 rfl ?_
    exact mj_r_iret d_La_rule_18 rfl (mj_q_retX1 h)
  · refine .inr ⟨9, _, 19, rfl, rfl, hf_La_rule_9, ?_⟩
    refine mj_e_astore (lv' := [some (mj_R 0), some (.inl l1), some (.inl l2), some (.inl l3), some (mj_R 33), some (mj_R (nn + xs.length))]) d_La_rule_19 rfl rfl ?_
    refine mj_r_iconst (x := 2) d_La_rule_21 rfl ?_
    exact mj_r_iret d_La_rule_22 rfl (mj_q_retX1 h)
abbrev y_La_feed : mj_Y := ("ChartForestLaw", ⟨"ChartForestLaw", "feed", "(LChartForest;I[J)I"⟩, method_4_code, 4, some .int)
theorem k_La_feed : mj_dec y_La_feed.2.2.1 [(0, .aload_n 2, 1), (1, .iconst 0, 1), (2, .aload_n 0, 1), (3, .iload_n 1, 1), (4, .invokevirtual 17, 3), (7, .i2l, 1), (8, .lastore, 1), (9, .goto 12, 3), (12, .astore_n 3, 1), (13, .iconst 1, 1), (14, .ireturn, 1), (15, .astore_n 3, 1), (16, .iconst 2, 1), (17, .ireturn, 1), (18, .astore_n 3, 1), (19, .iconst 3, 1), (20, .ireturn, 1), (21, .iconst 0, 1), (22, .ireturn, 1)] = true := by decide +kernel
theorem h_La_feed : mj_yw y_La_feed 3 [(0, 9, 12, 13), (0, 9, 15, 15), (0, 9, 18, 21)] := ⟨mw_519, mw_52, ⟨rfl, by decide +kernel, by decide +kernel, by decide +kernel⟩, by decide, by decide +kernel⟩
theorem hf_La_feed_8 : mj_hf "ChartForestLaw" 4 "java/lang/IllegalArgumentException" 12 [(0, 9, 12, 13), (0, 9, 15, 15), (0, 9, 18, 21)] := ⟨⟨by decide, by decide, by decide⟩, _, mw_412, .inl ⟨rfl, mw_428, rfl⟩⟩
theorem hf_La_feed_9 : mj_hf "ChartForestLaw" 4 "java/lang/IllegalStateException" 15 [(0, 9, 12, 13), (0, 9, 15, 15), (0, 9, 18, 21)] := ⟨⟨by decide, by decide, by decide⟩, _, mw_412, .inr ⟨fun a s h => flat_of_before _ h _ (by decide +kernel), ⟨⟨by decide, by decide, by decide⟩, _, mw_413, .inl ⟨rfl, mw_492, rfl⟩⟩⟩⟩
theorem hf_La_feed_11 : mj_hf "ChartForestLaw" 4 "java/util/NoSuchElementException" 18 [(0, 9, 12, 13), (0, 9, 15, 15), (0, 9, 18, 21)] := ⟨⟨by decide, by decide, by decide⟩, _, mw_412, .inr ⟨fun a s h => flat_of_before _ h _ (by decide +kernel), ⟨⟨by decide, by decide, by decide⟩, _, mw_413, .inr ⟨fun a s h => flat_of_before _ h _ (by decide +kernel), ⟨⟨by decide, by decide, by decide⟩, _, mw_520, .inl ⟨rfl, mw_528, rfl⟩⟩⟩⟩⟩⟩
theorem d_La_feed_0 : decode y_La_feed.2.2.1 0 = .ok (.aload_n 2, 1) := mj_d (q := (0, .aload_n 2, 1)) k_La_feed 0 rfl
theorem d_La_feed_1 : decode y_La_feed.2.2.1 1 = .ok (.iconst 0, 1) := mj_d (q := (1, .iconst 0, 1)) k_La_feed 1 rfl
theorem d_La_feed_2 : decode y_La_feed.2.2.1 2 = .ok (.aload_n 0, 1) := mj_d (q := (2, .aload_n 0, 1)) k_La_feed 2 rfl
theorem d_La_feed_3 : decode y_La_feed.2.2.1 3 = .ok (.iload_n 1, 1) := mj_d (q := (3, .iload_n 1, 1)) k_La_feed 3 rfl
theorem d_La_feed_4 : decode y_La_feed.2.2.1 4 = .ok (.invokevirtual 17, 3) := mj_d (q := (4, .invokevirtual 17, 3)) k_La_feed 4 rfl
theorem d_La_feed_7 : decode y_La_feed.2.2.1 7 = .ok (.i2l, 1) := mj_d (q := (7, .i2l, 1)) k_La_feed 5 rfl
theorem d_La_feed_8 : decode y_La_feed.2.2.1 8 = .ok (.lastore, 1) := mj_d (q := (8, .lastore, 1)) k_La_feed 6 rfl
theorem d_La_feed_9 : decode y_La_feed.2.2.1 9 = .ok (.goto 12, 3) := mj_d (q := (9, .goto 12, 3)) k_La_feed 7 rfl
theorem d_La_feed_12 : decode y_La_feed.2.2.1 12 = .ok (.astore_n 3, 1) := mj_d (q := (12, .astore_n 3, 1)) k_La_feed 8 rfl
theorem d_La_feed_13 : decode y_La_feed.2.2.1 13 = .ok (.iconst 1, 1) := mj_d (q := (13, .iconst 1, 1)) k_La_feed 9 rfl
theorem d_La_feed_14 : decode y_La_feed.2.2.1 14 = .ok (.ireturn, 1) := mj_d (q := (14, .ireturn, 1)) k_La_feed 10 rfl
theorem d_La_feed_15 : decode y_La_feed.2.2.1 15 = .ok (.astore_n 3, 1) := mj_d (q := (15, .astore_n 3, 1)) k_La_feed 11 rfl
theorem d_La_feed_16 : decode y_La_feed.2.2.1 16 = .ok (.iconst 2, 1) := mj_d (q := (16, .iconst 2, 1)) k_La_feed 12 rfl
theorem d_La_feed_17 : decode y_La_feed.2.2.1 17 = .ok (.ireturn, 1) := mj_d (q := (17, .ireturn, 1)) k_La_feed 13 rfl
theorem d_La_feed_18 : decode y_La_feed.2.2.1 18 = .ok (.astore_n 3, 1) := mj_d (q := (18, .astore_n 3, 1)) k_La_feed 14 rfl
theorem d_La_feed_19 : decode y_La_feed.2.2.1 19 = .ok (.iconst 3, 1) := mj_d (q := (19, .iconst 3, 1)) k_La_feed 15 rfl
theorem d_La_feed_20 : decode y_La_feed.2.2.1 20 = .ok (.ireturn, 1) := mj_d (q := (20, .ireturn, 1)) k_La_feed 16 rfl
theorem d_La_feed_21 : decode y_La_feed.2.2.1 21 = .ok (.iconst 0, 1) := mj_d (q := (21, .iconst 0, 1)) k_La_feed 17 rfl
theorem d_La_feed_22 : decode y_La_feed.2.2.1 22 = .ok (.ireturn, 1) := mj_d (q := (22, .ireturn, 1)) k_La_feed 18 rfl
theorem v_La_feed_0 {g : mj_G} {nn d : Nat} {xs : mj_M} {Post : Option mj_V → mj_w → Prop} (hn : 34 ≤ nn) {w : mj_w} {l1 : Int}
    (h : mj_J g y_CF_feed (d + 6) 1 6 (0, [some (mj_R 0), some (.inl l1)], [], mj_mem nn xs w) (mj_PT nn xs (fun r w1 => (∃ x2 : Int, r = .inl (some (.inl x2)) ∧ (mj_i x2 ∧ (∀ w4, w4 = mj_wu w1 33 0 0 x2 → Post (some (.inl 0)) w4))) ∨ (r = .inr 8 ∧ (Post (some (.inl 1)) w1)) ∨ (r = .inr 9 ∧ (Post (some (.inl 2)) w1)) ∨ (r = .inr 11 ∧ (Post (some (.inl 3)) w1))))) :
    mj_J g y_La_feed (d + 7) 1 6 (0, [some (mj_R 0), some (.inl l1), some (mj_R 33), none], [], mj_mem nn xs w) (mj_PX nn xs Post) := by
  refine mj_r_aload_n d_La_feed_0 rfl ?_
  refine mj_r_iconst (x := 0) d_La_feed_1 rfl ?_
  refine mj_r_aload_n d_La_feed_2 rfl ?_
  refine mj_r_iload_n d_La_feed_3 rfl ?_
  refine mj_q_VT1i (kc := 0) (ks := 0) d_La_feed_4 h_CF_feed mw_521 mw_522 mw_523 mw_519 rfl rfl rfl hn rfl rfl (mj_wkT h (fun r w1 h => ?_))
  rcases h with ⟨x2, rfl, h⟩ | ⟨rfl, h⟩ | ⟨rfl, h⟩ | ⟨rfl, h⟩
  · refine .inl ⟨x2, rfl, ?_⟩
    obtain ⟨q3, h⟩ := h
    refine mj_r_i2l d_La_feed_7 q3 ?_
    refine mj_q_last d_La_feed_8 rfl rfl hn rfl (by decide) (by decide) (fun w4 e5 => ?_)
    have h := h w4 e5
    refine mj_r_goto (tgt := 21) d_La_feed_9 (by decide) ?_
    refine mj_r_iconst (x := 0) d_La_feed_21 rfl ?_
    exact mj_r_iret d_La_feed_22 rfl (mj_q_retX h)
  · refine .inr ⟨8, _, 12, rfl, rfl, hf_La_feed_8, ?_⟩
    refine mj_e_astore_n (lv' := [some (mj_R 0), some (.inl l1), some (mj_R 33), some (mj_R (nn + xs.length))]) d_La_feed_12 rfl rfl ?_
    refine mj_r_iconst (x := 1) d_La_feed_13 rfl ?_
    exact mj_r_iret d_La_feed_14 rfl (mj_q_retX1 h)
  · refine .inr ⟨9, _, 15, rfl, rfl, hf_La_feed_9, ?_⟩
    refine mj_e_astore_n (lv' := [some (mj_R 0), some (.inl l1), some (mj_R 33), some (mj_R (nn + xs.length))]) d_La_feed_15 rfl rfl ?_
    refine mj_r_iconst (x := 2) d_La_feed_16 rfl ?_
    exact mj_r_iret d_La_feed_17 rfl (mj_q_retX1 h)
  · refine .inr ⟨11, _, 18, rfl, rfl, hf_La_feed_11, ?_⟩
    refine mj_e_astore_n (lv' := [some (mj_R 0), some (.inl l1), some (mj_R 33), some (mj_R (nn + xs.length))]) d_La_feed_18 rfl rfl ?_
    refine mj_r_iconst (x := 3) d_La_feed_19 rfl ?_
    exact mj_r_iret d_La_feed_20 rfl (mj_q_retX1 h)
abbrev y_La_back : mj_Y := ("ChartForestLaw", ⟨"ChartForestLaw", "back", "(LChartForest;I[J)I"⟩, method_5_code, 4, some .int)
theorem k_La_back : mj_dec y_La_back.2.2.1 [(0, .aload_n 2, 1), (1, .iconst 0, 1), (2, .aload_n 0, 1), (3, .iload_n 1, 1), (4, .invokevirtual 23, 3), (7, .i2l, 1), (8, .lastore, 1), (9, .goto 6, 3), (12, .astore_n 3, 1), (13, .iconst 1, 1), (14, .ireturn, 1), (15, .iconst 0, 1), (16, .ireturn, 1)] = true := by decide +kernel
theorem h_La_back : mj_yw y_La_back 3 [(0, 9, 12, 13)] := ⟨mw_569, mw_52, ⟨rfl, by decide +kernel, by decide +kernel, by decide +kernel⟩, by decide, by decide +kernel⟩
theorem hf_La_back_8 : mj_hf "ChartForestLaw" 4 "java/lang/IllegalArgumentException" 12 [(0, 9, 12, 13)] := ⟨⟨by decide, by decide, by decide⟩, _, mw_412, .inl ⟨rfl, mw_428, rfl⟩⟩
theorem d_La_back_0 : decode y_La_back.2.2.1 0 = .ok (.aload_n 2, 1) := mj_d (q := (0, .aload_n 2, 1)) k_La_back 0 rfl
theorem d_La_back_1 : decode y_La_back.2.2.1 1 = .ok (.iconst 0, 1) := mj_d (q := (1, .iconst 0, 1)) k_La_back 1 rfl
theorem d_La_back_2 : decode y_La_back.2.2.1 2 = .ok (.aload_n 0, 1) := mj_d (q := (2, .aload_n 0, 1)) k_La_back 2 rfl
theorem d_La_back_3 : decode y_La_back.2.2.1 3 = .ok (.iload_n 1, 1) := mj_d (q := (3, .iload_n 1, 1)) k_La_back 3 rfl
theorem d_La_back_4 : decode y_La_back.2.2.1 4 = .ok (.invokevirtual 23, 3) := mj_d (q := (4, .invokevirtual 23, 3)) k_La_back 4 rfl
theorem d_La_back_7 : decode y_La_back.2.2.1 7 = .ok (.i2l, 1) := mj_d (q := (7, .i2l, 1)) k_La_back 5 rfl
theorem d_La_back_8 : decode y_La_back.2.2.1 8 = .ok (.lastore, 1) := mj_d (q := (8, .lastore, 1)) k_La_back 6 rfl
theorem d_La_back_9 : decode y_La_back.2.2.1 9 = .ok (.goto 6, 3) := mj_d (q := (9, .goto 6, 3)) k_La_back 7 rfl
theorem d_La_back_12 : decode y_La_back.2.2.1 12 = .ok (.astore_n 3, 1) := mj_d (q := (12, .astore_n 3, 1)) k_La_back 8 rfl
theorem d_La_back_13 : decode y_La_back.2.2.1 13 = .ok (.iconst 1, 1) := mj_d (q := (13, .iconst 1, 1)) k_La_back 9 rfl
theorem d_La_back_14 : decode y_La_back.2.2.1 14 = .ok (.ireturn, 1) := mj_d (q := (14, .ireturn, 1)) k_La_back 10 rfl
theorem d_La_back_15 : decode y_La_back.2.2.1 15 = .ok (.iconst 0, 1) := mj_d (q := (15, .iconst 0, 1)) k_La_back 11 rfl
theorem d_La_back_16 : decode y_La_back.2.2.1 16 = .ok (.ireturn, 1) := mj_d (q := (16, .ireturn, 1)) k_La_back 12 rfl
theorem v_La_back_0 {g : mj_G} {nn d : Nat} {xs : mj_M} {Post : Option mj_V → mj_w → Prop} (hn : 34 ≤ nn) {w : mj_w} {l1 : Int}
    (h : mj_J g y_CF_back (d + 6) 1 6 (0, [some (mj_R 0), some (.inl l1)], [], mj_mem nn xs w) (mj_PT nn xs (fun r w1 => (∃ x2 : Int, r = .inl (some (.inl x2)) ∧ (mj_i x2 ∧ (∀ w4, w4 = mj_wu w1 33 0 0 x2 → Post (some (.inl 0)) w4))) ∨ (r = .inr 8 ∧ (Post (some (.inl 1)) w1))))) :
    mj_J g y_La_back (d + 7) 1 6 (0, [some (mj_R 0), some (.inl l1), some (mj_R 33), none], [], mj_mem nn xs w) (mj_PX nn xs Post) := by
  refine mj_r_aload_n d_La_back_0 rfl ?_
  refine mj_r_iconst (x := 0) d_La_back_1 rfl ?_
  refine mj_r_aload_n d_La_back_2 rfl ?_
  refine mj_r_iload_n d_La_back_3 rfl ?_
  refine mj_q_VT1i (kc := 0) (ks := 0) d_La_back_4 h_CF_back mw_570 mw_571 mw_572 mw_569 rfl rfl rfl hn rfl rfl (mj_wkT h (fun r w1 h => ?_))
  rcases h with ⟨x2, rfl, h⟩ | ⟨rfl, h⟩
  · refine .inl ⟨x2, rfl, ?_⟩
    obtain ⟨q3, h⟩ := h
    refine mj_r_i2l d_La_back_7 q3 ?_
    refine mj_q_last d_La_back_8 rfl rfl hn rfl (by decide) (by decide) (fun w4 e5 => ?_)
    have h := h w4 e5
    refine mj_r_goto (tgt := 15) d_La_back_9 (by decide) ?_
    refine mj_r_iconst (x := 0) d_La_back_15 rfl ?_
    exact mj_r_iret d_La_back_16 rfl (mj_q_retX h)
  · refine .inr ⟨8, _, 12, rfl, rfl, hf_La_back_8, ?_⟩
    refine mj_e_astore_n (lv' := [some (mj_R 0), some (.inl l1), some (mj_R 33), some (mj_R (nn + xs.length))]) d_La_back_12 rfl rfl ?_
    refine mj_r_iconst (x := 1) d_La_back_13 rfl ?_
    exact mj_r_iret d_La_back_14 rfl (mj_q_retX1 h)
abbrev y_La_items : mj_Y := ("ChartForestLaw", ⟨"ChartForestLaw", "items", "(LChartForest;I[J)I"⟩, method_6_code, 4, some .int)
theorem k_La_items : mj_dec y_La_items.2.2.1 [(0, .aload_n 2, 1), (1, .iconst 0, 1), (2, .aload_n 0, 1), (3, .iload_n 1, 1), (4, .invokevirtual 26, 3), (7, .i2l, 1), (8, .lastore, 1), (9, .goto 6, 3), (12, .astore_n 3, 1), (13, .iconst 1, 1), (14, .ireturn, 1), (15, .iconst 0, 1), (16, .ireturn, 1)] = true := by decide +kernel
theorem h_La_items : mj_yw y_La_items 3 [(0, 9, 12, 29)] := ⟨mw_576, mw_52, ⟨rfl, by decide +kernel, by decide +kernel, by decide +kernel⟩, by decide, by decide +kernel⟩
theorem hf_La_items_10 : mj_hf "ChartForestLaw" 4 "java/lang/IndexOutOfBoundsException" 12 [(0, 9, 12, 29)] := ⟨⟨by decide, by decide, by decide⟩, _, mw_577, .inl ⟨rfl, mw_588, rfl⟩⟩
theorem d_La_items_0 : decode y_La_items.2.2.1 0 = .ok (.aload_n 2, 1) := mj_d (q := (0, .aload_n 2, 1)) k_La_items 0 rfl
theorem d_La_items_1 : decode y_La_items.2.2.1 1 = .ok (.iconst 0, 1) := mj_d (q := (1, .iconst 0, 1)) k_La_items 1 rfl
theorem d_La_items_2 : decode y_La_items.2.2.1 2 = .ok (.aload_n 0, 1) := mj_d (q := (2, .aload_n 0, 1)) k_La_items 2 rfl
theorem d_La_items_3 : decode y_La_items.2.2.1 3 = .ok (.iload_n 1, 1) := mj_d (q := (3, .iload_n 1, 1)) k_La_items 3 rfl
theorem d_La_items_4 : decode y_La_items.2.2.1 4 = .ok (.invokevirtual 26, 3) := mj_d (q := (4, .invokevirtual 26, 3)) k_La_items 4 rfl
theorem d_La_items_7 : decode y_La_items.2.2.1 7 = .ok (.i2l, 1) := mj_d (q := (7, .i2l, 1)) k_La_items 5 rfl
theorem d_La_items_8 : decode y_La_items.2.2.1 8 = .ok (.lastore, 1) := mj_d (q := (8, .lastore, 1)) k_La_items 6 rfl
theorem d_La_items_9 : decode y_La_items.2.2.1 9 = .ok (.goto 6, 3) := mj_d (q := (9, .goto 6, 3)) k_La_items 7 rfl
theorem d_La_items_12 : decode y_La_items.2.2.1 12 = .ok (.astore_n 3, 1) := mj_d (q := (12, .astore_n 3, 1)) k_La_items 8 rfl
theorem d_La_items_13 : decode y_La_items.2.2.1 13 = .ok (.iconst 1, 1) := mj_d (q := (13, .iconst 1, 1)) k_La_items 9 rfl
theorem d_La_items_14 : decode y_La_items.2.2.1 14 = .ok (.ireturn, 1) := mj_d (q := (14, .ireturn, 1)) k_La_items 10 rfl
theorem d_La_items_15 : decode y_La_items.2.2.1 15 = .ok (.iconst 0, 1) := mj_d (q := (15, .iconst 0, 1)) k_La_items 11 rfl
theorem d_La_items_16 : decode y_La_items.2.2.1 16 = .ok (.ireturn, 1) := mj_d (q := (16, .ireturn, 1)) k_La_items 12 rfl
theorem v_La_items_0 {g : mj_G} {nn d : Nat} {xs : mj_M} {Post : Option mj_V → mj_w → Prop} (hn : 34 ≤ nn) {w : mj_w} {l1 : Int}
    (h : mj_J g y_CF_items (d + 6) 1 6 (0, [some (mj_R 0), some (.inl l1)], [], mj_mem nn xs w) (mj_PT nn xs (fun r w1 => (∃ x2 : Int, r = .inl (some (.inl x2)) ∧ (mj_i x2 ∧ (∀ w4, w4 = mj_wu w1 33 0 0 x2 → Post (some (.inl 0)) w4))) ∨ (r = .inr 10 ∧ (Post (some (.inl 1)) w1))))) :
    mj_J g y_La_items (d + 7) 1 6 (0, [some (mj_R 0), some (.inl l1), some (mj_R 33), none], [], mj_mem nn xs w) (mj_PX nn xs Post) := by
  refine mj_r_aload_n d_La_items_0 rfl ?_
  refine mj_r_iconst (x := 0) d_La_items_1 rfl ?_
  refine mj_r_aload_n d_La_items_2 rfl ?_
  refine mj_r_iload_n d_La_items_3 rfl ?_
  refine mj_q_VT1i (kc := 0) (ks := 0) d_La_items_4 h_CF_items mw_578 mw_579 mw_580 mw_576 rfl rfl rfl hn rfl rfl (mj_wkT h (fun r w1 h => ?_))
  rcases h with ⟨x2, rfl, h⟩ | ⟨rfl, h⟩
  · refine .inl ⟨x2, rfl, ?_⟩
    obtain ⟨q3, h⟩ := h
    refine mj_r_i2l d_La_items_7 q3 ?_
    refine mj_q_last d_La_items_8 rfl rfl hn rfl (by decide) (by decide) (fun w4 e5 => ?_)
    have h := h w4 e5
    refine mj_r_goto (tgt := 15) d_La_items_9 (by decide) ?_
    refine mj_r_iconst (x := 0) d_La_items_15 rfl ?_
    exact mj_r_iret d_La_items_16 rfl (mj_q_retX h)
  · refine .inr ⟨10, _, 12, rfl, rfl, hf_La_items_10, ?_⟩
    refine mj_e_astore_n (lv' := [some (mj_R 0), some (.inl l1), some (mj_R 33), some (mj_R (nn + xs.length))]) d_La_items_12 rfl rfl ?_
    refine mj_r_iconst (x := 1) d_La_items_13 rfl ?_
    exact mj_r_iret d_La_items_14 rfl (mj_q_retX1 h)
abbrev y_La_has : mj_Y := ("ChartForestLaw", ⟨"ChartForestLaw", "has", "(LChartForest;IIII[J)I"⟩, method_7_code, 7, some .int)
theorem k_La_has : mj_dec y_La_has.2.2.1 [(0, .aload 5, 2), (2, .iconst 0, 1), (3, .aload_n 0, 1), (4, .iload_n 1, 1), (5, .iload_n 2, 1), (6, .iload_n 3, 1), (7, .iload 4, 2), (9, .invokevirtual 31, 3), (12, .ifCond .eq 7, 3), (15, .lconst 1, 1), (16, .goto 4, 3), (19, .lconst 0, 1), (20, .lastore, 1), (21, .goto 7, 3), (24, .astore 6, 2), (26, .iconst 1, 1), (27, .ireturn, 1), (28, .iconst 0, 1), (29, .ireturn, 1)] = true := by decide +kernel
theorem h_La_has : mj_yw y_La_has 6 [(0, 21, 24, 29)] := ⟨mw_603, mw_52, ⟨rfl, by decide +kernel, by decide +kernel, by decide +kernel⟩, by decide, by decide +kernel⟩
theorem hf_La_has_10 : mj_hf "ChartForestLaw" 9 "java/lang/IndexOutOfBoundsException" 24 [(0, 21, 24, 29)] := ⟨⟨by decide, by decide, by decide⟩, _, mw_577, .inl ⟨rfl, mw_588, rfl⟩⟩
theorem d_La_has_0 : decode y_La_has.2.2.1 0 = .ok (.aload 5, 2) := mj_d (q := (0, .aload 5, 2)) k_La_has 0 rfl
theorem d_La_has_2 : decode y_La_has.2.2.1 2 = .ok (.iconst 0, 1) := mj_d (q := (2, .iconst 0, 1)) k_La_has 1 rfl
theorem d_La_has_3 : decode y_La_has.2.2.1 3 = .ok (.aload_n 0, 1) := mj_d (q := (3, .aload_n 0, 1)) k_La_has 2 rfl
theorem d_La_has_4 : decode y_La_has.2.2.1 4 = .ok (.iload_n 1, 1) := mj_d (q := (4, .iload_n 1, 1)) k_La_has 3 rfl
theorem d_La_has_5 : decode y_La_has.2.2.1 5 = .ok (.iload_n 2, 1) := mj_d (q := (5, .iload_n 2, 1)) k_La_has 4 rfl
theorem d_La_has_6 : decode y_La_has.2.2.1 6 = .ok (.iload_n 3, 1) := mj_d (q := (6, .iload_n 3, 1)) k_La_has 5 rfl
theorem d_La_has_7 : decode y_La_has.2.2.1 7 = .ok (.iload 4, 2) := mj_d (q := (7, .iload 4, 2)) k_La_has 6 rfl
theorem d_La_has_9 : decode y_La_has.2.2.1 9 = .ok (.invokevirtual 31, 3) := mj_d (q := (9, .invokevirtual 31, 3)) k_La_has 7 rfl
theorem d_La_has_12 : decode y_La_has.2.2.1 12 = .ok (.ifCond .eq 7, 3) := mj_d (q := (12, .ifCond .eq 7, 3)) k_La_has 8 rfl
theorem d_La_has_15 : decode y_La_has.2.2.1 15 = .ok (.lconst 1, 1) := mj_d (q := (15, .lconst 1, 1)) k_La_has 9 rfl
theorem d_La_has_16 : decode y_La_has.2.2.1 16 = .ok (.goto 4, 3) := mj_d (q := (16, .goto 4, 3)) k_La_has 10 rfl
theorem d_La_has_19 : decode y_La_has.2.2.1 19 = .ok (.lconst 0, 1) := mj_d (q := (19, .lconst 0, 1)) k_La_has 11 rfl
theorem d_La_has_20 : decode y_La_has.2.2.1 20 = .ok (.lastore, 1) := mj_d (q := (20, .lastore, 1)) k_La_has 12 rfl
theorem d_La_has_21 : decode y_La_has.2.2.1 21 = .ok (.goto 7, 3) := mj_d (q := (21, .goto 7, 3)) k_La_has 13 rfl
theorem d_La_has_24 : decode y_La_has.2.2.1 24 = .ok (.astore 6, 2) := mj_d (q := (24, .astore 6, 2)) k_La_has 14 rfl
theorem d_La_has_26 : decode y_La_has.2.2.1 26 = .ok (.iconst 1, 1) := mj_d (q := (26, .iconst 1, 1)) k_La_has 15 rfl
theorem d_La_has_27 : decode y_La_has.2.2.1 27 = .ok (.ireturn, 1) := mj_d (q := (27, .ireturn, 1)) k_La_has 16 rfl
theorem d_La_has_28 : decode y_La_has.2.2.1 28 = .ok (.iconst 0, 1) := mj_d (q := (28, .iconst 0, 1)) k_La_has 17 rfl
theorem d_La_has_29 : decode y_La_has.2.2.1 29 = .ok (.ireturn, 1) := mj_d (q := (29, .ireturn, 1)) k_La_has 18 rfl
theorem v_La_has_0 {g : mj_G} {nn d : Nat} {xs : mj_M} {Post : Option mj_V → mj_w → Prop} (hn : 34 ≤ nn) {w : mj_w} {l1 l2 l3 l4 : Int}
    (h : mj_J g y_CF_has (d + 6) 1 6 (0, [some (mj_R 0), some (.inl l1), some (.inl l2), some (.inl l3), some (.inl l4)], [], mj_mem nn xs w) (mj_PT nn xs (fun r w1 => (∃ x2 : Int, r = .inl (some (.inl x2)) ∧ (mj_i x2 ∧ (x2 = 0 → (∀ w5, w5 = mj_wu w1 33 0 0 0 → Post (some (.inl 0)) w5)) ∧ (¬ x2 = 0 → (∀ w7, w7 = mj_wu w1 33 0 0 1 → Post (some (.inl 0)) w7)))) ∨ (r = .inr 10 ∧ (Post (some (.inl 1)) w1))))) :
    mj_J g y_La_has (d + 7) 1 6 (0, [some (mj_R 0), some (.inl l1), some (.inl l2), some (.inl l3), some (.inl l4), some (mj_R 33), none], [], mj_mem nn xs w) (mj_PX nn xs Post) := by
  refine mj_r_aload d_La_has_0 rfl ?_
  refine mj_r_iconst (x := 0) d_La_has_2 rfl ?_
  refine mj_r_aload_n d_La_has_3 rfl ?_
  refine mj_r_iload_n d_La_has_4 rfl ?_
  refine mj_r_iload_n d_La_has_5 rfl ?_
  refine mj_r_iload_n d_La_has_6 rfl ?_
  refine mj_r_iload d_La_has_7 rfl ?_
  refine mj_q_VT4i (kc := 0) (ks := 0) d_La_has_9 h_CF_has mw_604 mw_605 mw_606 mw_603 rfl rfl rfl hn rfl rfl (mj_wkT h (fun r w1 h => ?_))
  rcases h with ⟨x2, rfl, h⟩ | ⟨rfl, h⟩
  · refine .inl ⟨x2, rfl, ?_⟩
    obtain ⟨q3, h⟩ := h
    refine mj_s_if_eq (tgt := 19) d_La_has_12 (by decide) q3 (fun q4 => ?_) (fun q4 => ?_)
    · have h := h.1 q4
      refine mj_r_lconst (x := 0) d_La_has_19 rfl ?_
      refine mj_q_last d_La_has_20 rfl rfl hn rfl (by decide) (by decide) (fun w5 e6 => ?_)
      have h := h w5 e6
      refine mj_r_goto (tgt := 28) d_La_has_21 (by decide) ?_
      refine mj_r_iconst (x := 0) d_La_has_28 rfl ?_
      exact mj_r_iret d_La_has_29 rfl (mj_q_retX h)
    · have h := h.2 q4
      refine mj_r_lconst (x := 1) d_La_has_15 rfl ?_
      refine mj_r_goto (tgt := 20) d_La_has_16 (by decide) ?_
      refine mj_q_last d_La_has_20 rfl rfl hn rfl (by decide) (by decide) (fun w7 e8 => ?_)
      have h := h w7 e8
      refine mj_r_goto (tgt := 28) d_La_has_21 (by decide) ?_
      refine mj_r_iconst (x := 0) d_La_has_28 rfl ?_
      exact mj_r_iret d_La_has_29 rfl (mj_q_retX h)
  · refine .inr ⟨10, _, 24, rfl, rfl, hf_La_has_10, ?_⟩
    refine mj_e_astore (lv' := [some (mj_R 0), some (.inl l1), some (.inl l2), some (.inl l3), some (.inl l4), some (mj_R 33), some (mj_R (nn + xs.length))]) d_La_has_24 rfl rfl ?_
    refine mj_r_iconst (x := 1) d_La_has_26 rfl ?_
    exact mj_r_iret d_La_has_27 rfl (mj_q_retX1 h)
abbrev y_La_leap : mj_Y := ("ChartForestLaw", ⟨"ChartForestLaw", "leap", "(LChartForest;II[J)I"⟩, method_8_code, 5, some .int)
theorem k_La_leap : mj_dec y_La_leap.2.2.1 [(0, .aload_n 3, 1), (1, .iconst 0, 1), (2, .aload_n 0, 1), (3, .iload_n 1, 1), (4, .iload_n 2, 1), (5, .invokevirtual 35, 3), (8, .i2l, 1), (9, .lastore, 1), (10, .goto 7, 3), (13, .astore 4, 2), (15, .iconst 1, 1), (16, .ireturn, 1), (17, .iconst 0, 1), (18, .ireturn, 1)] = true := by decide +kernel
theorem h_La_leap : mj_yw y_La_leap 4 [(0, 10, 13, 29)] := ⟨mw_610, mw_52, ⟨rfl, by decide +kernel, by decide +kernel, by decide +kernel⟩, by decide, by decide +kernel⟩
theorem hf_La_leap_10 : mj_hf "ChartForestLaw" 5 "java/lang/IndexOutOfBoundsException" 13 [(0, 10, 13, 29)] := ⟨⟨by decide, by decide, by decide⟩, _, mw_577, .inl ⟨rfl, mw_588, rfl⟩⟩
theorem d_La_leap_0 : decode y_La_leap.2.2.1 0 = .ok (.aload_n 3, 1) := mj_d (q := (0, .aload_n 3, 1)) k_La_leap 0 rfl
theorem d_La_leap_1 : decode y_La_leap.2.2.1 1 = .ok (.iconst 0, 1) := mj_d (q := (1, .iconst 0, 1)) k_La_leap 1 rfl
theorem d_La_leap_2 : decode y_La_leap.2.2.1 2 = .ok (.aload_n 0, 1) := mj_d (q := (2, .aload_n 0, 1)) k_La_leap 2 rfl
theorem d_La_leap_3 : decode y_La_leap.2.2.1 3 = .ok (.iload_n 1, 1) := mj_d (q := (3, .iload_n 1, 1)) k_La_leap 3 rfl
theorem d_La_leap_4 : decode y_La_leap.2.2.1 4 = .ok (.iload_n 2, 1) := mj_d (q := (4, .iload_n 2, 1)) k_La_leap 4 rfl
theorem d_La_leap_5 : decode y_La_leap.2.2.1 5 = .ok (.invokevirtual 35, 3) := mj_d (q := (5, .invokevirtual 35, 3)) k_La_leap 5 rfl
theorem d_La_leap_8 : decode y_La_leap.2.2.1 8 = .ok (.i2l, 1) := mj_d (q := (8, .i2l, 1)) k_La_leap 6 rfl
theorem d_La_leap_9 : decode y_La_leap.2.2.1 9 = .ok (.lastore, 1) := mj_d (q := (9, .lastore, 1)) k_La_leap 7 rfl
theorem d_La_leap_10 : decode y_La_leap.2.2.1 10 = .ok (.goto 7, 3) := mj_d (q := (10, .goto 7, 3)) k_La_leap 8 rfl
theorem d_La_leap_13 : decode y_La_leap.2.2.1 13 = .ok (.astore 4, 2) := mj_d (q := (13, .astore 4, 2)) k_La_leap 9 rfl
theorem d_La_leap_15 : decode y_La_leap.2.2.1 15 = .ok (.iconst 1, 1) := mj_d (q := (15, .iconst 1, 1)) k_La_leap 10 rfl
theorem d_La_leap_16 : decode y_La_leap.2.2.1 16 = .ok (.ireturn, 1) := mj_d (q := (16, .ireturn, 1)) k_La_leap 11 rfl
theorem d_La_leap_17 : decode y_La_leap.2.2.1 17 = .ok (.iconst 0, 1) := mj_d (q := (17, .iconst 0, 1)) k_La_leap 12 rfl
theorem d_La_leap_18 : decode y_La_leap.2.2.1 18 = .ok (.ireturn, 1) := mj_d (q := (18, .ireturn, 1)) k_La_leap 13 rfl
theorem v_La_leap_0 {g : mj_G} {nn d : Nat} {xs : mj_M} {Post : Option mj_V → mj_w → Prop} (hn : 34 ≤ nn) {w : mj_w} {l1 l2 : Int}
    (h : mj_J g y_CF_leap (d + 6) 1 6 (0, [some (mj_R 0), some (.inl l1), some (.inl l2)], [], mj_mem nn xs w) (mj_PT nn xs (fun r w1 => (∃ x2 : Int, r = .inl (some (.inl x2)) ∧ (mj_i x2 ∧ (∀ w4, w4 = mj_wu w1 33 0 0 x2 → Post (some (.inl 0)) w4))) ∨ (r = .inr 10 ∧ (Post (some (.inl 1)) w1))))) :
    mj_J g y_La_leap (d + 7) 1 6 (0, [some (mj_R 0), some (.inl l1), some (.inl l2), some (mj_R 33), none], [], mj_mem nn xs w) (mj_PX nn xs Post) := by
  refine mj_r_aload_n d_La_leap_0 rfl ?_
  refine mj_r_iconst (x := 0) d_La_leap_1 rfl ?_
  refine mj_r_aload_n d_La_leap_2 rfl ?_
  refine mj_r_iload_n d_La_leap_3 rfl ?_
  refine mj_r_iload_n d_La_leap_4 rfl ?_
  refine mj_q_VT2i (kc := 0) (ks := 0) d_La_leap_5 h_CF_leap mw_611 mw_612 mw_613 mw_610 rfl rfl rfl hn rfl rfl (mj_wkT h (fun r w1 h => ?_))
  rcases h with ⟨x2, rfl, h⟩ | ⟨rfl, h⟩
  · refine .inl ⟨x2, rfl, ?_⟩
    obtain ⟨q3, h⟩ := h
    refine mj_r_i2l d_La_leap_8 q3 ?_
    refine mj_q_last d_La_leap_9 rfl rfl hn rfl (by decide) (by decide) (fun w4 e5 => ?_)
    have h := h w4 e5
    refine mj_r_goto (tgt := 17) d_La_leap_10 (by decide) ?_
    refine mj_r_iconst (x := 0) d_La_leap_17 rfl ?_
    exact mj_r_iret d_La_leap_18 rfl (mj_q_retX h)
  · refine .inr ⟨10, _, 13, rfl, rfl, hf_La_leap_10, ?_⟩
    refine mj_e_astore (lv' := [some (mj_R 0), some (.inl l1), some (.inl l2), some (mj_R 33), some (mj_R (nn + xs.length))]) d_La_leap_13 rfl rfl ?_
    refine mj_r_iconst (x := 1) d_La_leap_15 rfl ?_
    exact mj_r_iret d_La_leap_16 rfl (mj_q_retX1 h)
abbrev y_La_ways : mj_Y := ("ChartForestLaw", ⟨"ChartForestLaw", "ways", "(LChartForest;III[J)I"⟩, method_9_code, 6, some .int)
theorem k_La_ways : mj_dec y_La_ways.2.2.1 [(0, .aload 4, 2), (2, .iconst 0, 1), (3, .aload_n 0, 1), (4, .iload_n 1, 1), (5, .iload_n 2, 1), (6, .iload_n 3, 1), (7, .invokevirtual 39, 3), (10, .i2l, 1), (11, .lastore, 1), (12, .goto 7, 3), (15, .astore 5, 2), (17, .iconst 1, 1), (18, .ireturn, 1), (19, .iconst 0, 1), (20, .ireturn, 1)] = true := by decide +kernel
theorem h_La_ways : mj_yw y_La_ways 5 [(0, 12, 15, 29)] := ⟨mw_621, mw_52, ⟨rfl, by decide +kernel, by decide +kernel, by decide +kernel⟩, by decide, by decide +kernel⟩
theorem hf_La_ways_10 : mj_hf "ChartForestLaw" 7 "java/lang/IndexOutOfBoundsException" 15 [(0, 12, 15, 29)] := ⟨⟨by decide, by decide, by decide⟩, _, mw_577, .inl ⟨rfl, mw_588, rfl⟩⟩
theorem d_La_ways_0 : decode y_La_ways.2.2.1 0 = .ok (.aload 4, 2) := mj_d (q := (0, .aload 4, 2)) k_La_ways 0 rfl
theorem d_La_ways_2 : decode y_La_ways.2.2.1 2 = .ok (.iconst 0, 1) := mj_d (q := (2, .iconst 0, 1)) k_La_ways 1 rfl
theorem d_La_ways_3 : decode y_La_ways.2.2.1 3 = .ok (.aload_n 0, 1) := mj_d (q := (3, .aload_n 0, 1)) k_La_ways 2 rfl
theorem d_La_ways_4 : decode y_La_ways.2.2.1 4 = .ok (.iload_n 1, 1) := mj_d (q := (4, .iload_n 1, 1)) k_La_ways 3 rfl
theorem d_La_ways_5 : decode y_La_ways.2.2.1 5 = .ok (.iload_n 2, 1) := mj_d (q := (5, .iload_n 2, 1)) k_La_ways 4 rfl
theorem d_La_ways_6 : decode y_La_ways.2.2.1 6 = .ok (.iload_n 3, 1) := mj_d (q := (6, .iload_n 3, 1)) k_La_ways 5 rfl
theorem d_La_ways_7 : decode y_La_ways.2.2.1 7 = .ok (.invokevirtual 39, 3) := mj_d (q := (7, .invokevirtual 39, 3)) k_La_ways 6 rfl
theorem d_La_ways_10 : decode y_La_ways.2.2.1 10 = .ok (.i2l, 1) := mj_d (q := (10, .i2l, 1)) k_La_ways 7 rfl
theorem d_La_ways_11 : decode y_La_ways.2.2.1 11 = .ok (.lastore, 1) := mj_d (q := (11, .lastore, 1)) k_La_ways 8 rfl
theorem d_La_ways_12 : decode y_La_ways.2.2.1 12 = .ok (.goto 7, 3) := mj_d (q := (12, .goto 7, 3)) k_La_ways 9 rfl
theorem d_La_ways_15 : decode y_La_ways.2.2.1 15 = .ok (.astore 5, 2) := mj_d (q := (15, .astore 5, 2)) k_La_ways 10 rfl
theorem d_La_ways_17 : decode y_La_ways.2.2.1 17 = .ok (.iconst 1, 1) := mj_d (q := (17, .iconst 1, 1)) k_La_ways 11 rfl
theorem d_La_ways_18 : decode y_La_ways.2.2.1 18 = .ok (.ireturn, 1) := mj_d (q := (18, .ireturn, 1)) k_La_ways 12 rfl
theorem d_La_ways_19 : decode y_La_ways.2.2.1 19 = .ok (.iconst 0, 1) := mj_d (q := (19, .iconst 0, 1)) k_La_ways 13 rfl
theorem d_La_ways_20 : decode y_La_ways.2.2.1 20 = .ok (.ireturn, 1) := mj_d (q := (20, .ireturn, 1)) k_La_ways 14 rfl
theorem v_La_ways_0 {g : mj_G} {nn d : Nat} {xs : mj_M} {Post : Option mj_V → mj_w → Prop} (hn : 34 ≤ nn) {w : mj_w} {l1 l2 l3 : Int}
    (h : mj_J g y_CF_ways (d + 6) 1 6 (0, [some (mj_R 0), some (.inl l1), some (.inl l2), some (.inl l3)], [], mj_mem nn xs w) (mj_PT nn xs (fun r w1 => (∃ x2 : Int, r = .inl (some (.inl x2)) ∧ (mj_i x2 ∧ (∀ w4, w4 = mj_wu w1 33 0 0 x2 → Post (some (.inl 0)) w4))) ∨ (r = .inr 10 ∧ (Post (some (.inl 1)) w1))))) :
    mj_J g y_La_ways (d + 7) 1 6 (0, [some (mj_R 0), some (.inl l1), some (.inl l2), some (.inl l3), some (mj_R 33), none], [], mj_mem nn xs w) (mj_PX nn xs Post) := by
  refine mj_r_aload d_La_ways_0 rfl ?_
  refine mj_r_iconst (x := 0) d_La_ways_2 rfl ?_
  refine mj_r_aload_n d_La_ways_3 rfl ?_
  refine mj_r_iload_n d_La_ways_4 rfl ?_
  refine mj_r_iload_n d_La_ways_5 rfl ?_
  refine mj_r_iload_n d_La_ways_6 rfl ?_
  refine mj_q_VT3i (kc := 0) (ks := 0) d_La_ways_7 h_CF_ways mw_622 mw_623 mw_624 mw_621 rfl rfl rfl hn rfl rfl (mj_wkT h (fun r w1 h => ?_))
  rcases h with ⟨x2, rfl, h⟩ | ⟨rfl, h⟩
  · refine .inl ⟨x2, rfl, ?_⟩
    obtain ⟨q3, h⟩ := h
    refine mj_r_i2l d_La_ways_10 q3 ?_
    refine mj_q_last d_La_ways_11 rfl rfl hn rfl (by decide) (by decide) (fun w4 e5 => ?_)
    have h := h w4 e5
    refine mj_r_goto (tgt := 19) d_La_ways_12 (by decide) ?_
    refine mj_r_iconst (x := 0) d_La_ways_19 rfl ?_
    exact mj_r_iret d_La_ways_20 rfl (mj_q_retX h)
  · refine .inr ⟨10, _, 15, rfl, rfl, hf_La_ways_10, ?_⟩
    refine mj_e_astore (lv' := [some (mj_R 0), some (.inl l1), some (.inl l2), some (.inl l3), some (mj_R 33), some (mj_R (nn + xs.length))]) d_La_ways_15 rfl rfl ?_
    refine mj_r_iconst (x := 1) d_La_ways_17 rfl ?_
    exact mj_r_iret d_La_ways_18 rfl (mj_q_retX1 h)
abbrev y_La_trees : mj_Y := ("ChartForestLaw", ⟨"ChartForestLaw", "trees", "(LChartForest;III[J)I"⟩, method_10_code, 6, some .int)
theorem k_La_trees : mj_dec y_La_trees.2.2.1 [(0, .aload 4, 2), (2, .iconst 0, 1), (3, .aload_n 0, 1), (4, .iload_n 1, 1), (5, .iload_n 2, 1), (6, .iload_n 3, 1), (7, .invokevirtual 42, 3), (10, .lastore, 1), (11, .goto 7, 3), (14, .astore 5, 2), (16, .iconst 1, 1), (17, .ireturn, 1), (18, .iconst 0, 1), (19, .ireturn, 1)] = true := by decide +kernel
theorem h_La_trees : mj_yw y_La_trees 5 [(0, 11, 14, 29)] := ⟨mw_636, mw_52, ⟨rfl, by decide +kernel, by decide +kernel, by decide +kernel⟩, by decide, by decide +kernel⟩
theorem hf_La_trees_10 : mj_hf "ChartForestLaw" 7 "java/lang/IndexOutOfBoundsException" 14 [(0, 11, 14, 29)] := ⟨⟨by decide, by decide, by decide⟩, _, mw_577, .inl ⟨rfl, mw_588, rfl⟩⟩
theorem d_La_trees_0 : decode y_La_trees.2.2.1 0 = .ok (.aload 4, 2) := mj_d (q := (0, .aload 4, 2)) k_La_trees 0 rfl
theorem d_La_trees_2 : decode y_La_trees.2.2.1 2 = .ok (.iconst 0, 1) := mj_d (q := (2, .iconst 0, 1)) k_La_trees 1 rfl
theorem d_La_trees_3 : decode y_La_trees.2.2.1 3 = .ok (.aload_n 0, 1) := mj_d (q := (3, .aload_n 0, 1)) k_La_trees 2 rfl
theorem d_La_trees_4 : decode y_La_trees.2.2.1 4 = .ok (.iload_n 1, 1) := mj_d (q := (4, .iload_n 1, 1)) k_La_trees 3 rfl
theorem d_La_trees_5 : decode y_La_trees.2.2.1 5 = .ok (.iload_n 2, 1) := mj_d (q := (5, .iload_n 2, 1)) k_La_trees 4 rfl
theorem d_La_trees_6 : decode y_La_trees.2.2.1 6 = .ok (.iload_n 3, 1) := mj_d (q := (6, .iload_n 3, 1)) k_La_trees 5 rfl
theorem d_La_trees_7 : decode y_La_trees.2.2.1 7 = .ok (.invokevirtual 42, 3) := mj_d (q := (7, .invokevirtual 42, 3)) k_La_trees 6 rfl
theorem d_La_trees_10 : decode y_La_trees.2.2.1 10 = .ok (.lastore, 1) := mj_d (q := (10, .lastore, 1)) k_La_trees 7 rfl
theorem d_La_trees_11 : decode y_La_trees.2.2.1 11 = .ok (.goto 7, 3) := mj_d (q := (11, .goto 7, 3)) k_La_trees 8 rfl
theorem d_La_trees_14 : decode y_La_trees.2.2.1 14 = .ok (.astore 5, 2) := mj_d (q := (14, .astore 5, 2)) k_La_trees 9 rfl
theorem d_La_trees_16 : decode y_La_trees.2.2.1 16 = .ok (.iconst 1, 1) := mj_d (q := (16, .iconst 1, 1)) k_La_trees 10 rfl
theorem d_La_trees_17 : decode y_La_trees.2.2.1 17 = .ok (.ireturn, 1) := mj_d (q := (17, .ireturn, 1)) k_La_trees 11 rfl
theorem d_La_trees_18 : decode y_La_trees.2.2.1 18 = .ok (.iconst 0, 1) := mj_d (q := (18, .iconst 0, 1)) k_La_trees 12 rfl
theorem d_La_trees_19 : decode y_La_trees.2.2.1 19 = .ok (.ireturn, 1) := mj_d (q := (19, .ireturn, 1)) k_La_trees 13 rfl
theorem v_La_trees_0 {g : mj_G} {nn d : Nat} {xs : mj_M} {Post : Option mj_V → mj_w → Prop} (hn : 34 ≤ nn) {w : mj_w} {l1 l2 l3 : Int}
    (h : mj_J g y_CF_trees (d + 6) 1 6 (0, [some (mj_R 0), some (.inl l1), some (.inl l2), some (.inl l3)], [], mj_mem nn xs w) (mj_PT nn xs (fun r w1 => (∃ x2 : Int, r = .inl (some (.inr (.inl x2))) ∧ (∀ w3, w3 = mj_wu w1 33 0 0 x2 → Post (some (.inl 0)) w3)) ∨ (r = .inr 10 ∧ (Post (some (.inl 1)) w1))))) :
    mj_J g y_La_trees (d + 7) 1 6 (0, [some (mj_R 0), some (.inl l1), some (.inl l2), some (.inl l3), some (mj_R 33), none], [], mj_mem nn xs w) (mj_PX nn xs Post) := by
  refine mj_r_aload d_La_trees_0 rfl ?_
  refine mj_r_iconst (x := 0) d_La_trees_2 rfl ?_
  refine mj_r_aload_n d_La_trees_3 rfl ?_
  refine mj_r_iload_n d_La_trees_4 rfl ?_
  refine mj_r_iload_n d_La_trees_5 rfl ?_
  refine mj_r_iload_n d_La_trees_6 rfl ?_
  refine mj_q_VT3l (kc := 0) (ks := 0) d_La_trees_7 h_CF_trees mw_637 mw_638 mw_639 mw_636 rfl rfl rfl hn rfl rfl (mj_wkT h (fun r w1 h => ?_))
  rcases h with ⟨x2, rfl, h⟩ | ⟨rfl, h⟩
  · refine .inl ⟨x2, rfl, ?_⟩
    refine mj_q_last d_La_trees_10 rfl rfl hn rfl (by decide) (by decide) (fun w3 e4 => ?_)
    have h := h w3 e4
    refine mj_r_goto (tgt := 18) d_La_trees_11 (by decide) ?_
    refine mj_r_iconst (x := 0) d_La_trees_18 rfl ?_
    exact mj_r_iret d_La_trees_19 rfl (mj_q_retX h)
  · refine .inr ⟨10, _, 14, rfl, rfl, hf_La_trees_10, ?_⟩
    refine mj_e_astore (lv' := [some (mj_R 0), some (.inl l1), some (.inl l2), some (.inl l3), some (mj_R 33), some (mj_R (nn + xs.length))]) d_La_trees_14 rfl rfl ?_
    refine mj_r_iconst (x := 1) d_La_trees_16 rfl ?_
    exact mj_r_iret d_La_trees_17 rfl (mj_q_retX1 h)
abbrev y_La_tree : mj_Y := ("ChartForestLaw", ⟨"ChartForestLaw", "tree", "(LChartForest;JI[J)I"⟩, method_11_code, 6, some .int)
theorem k_La_tree : mj_dec y_La_tree.2.2.1 [(0, .aload 4, 2), (2, .iconst 0, 1), (3, .aload_n 0, 1), (4, .lload_n 1, 1), (5, .iload_n 3, 1), (6, .invokevirtual 46, 3), (9, .i2l, 1), (10, .lastore, 1), (11, .goto 7, 3), (14, .astore 5, 2), (16, .iconst 1, 1), (17, .ireturn, 1), (18, .iconst 0, 1), (19, .ireturn, 1)] = true := by decide +kernel
theorem h_La_tree : mj_yw y_La_tree 4 [(0, 11, 14, 21)] := ⟨mw_644, mw_52, ⟨rfl, by decide +kernel, by decide +kernel, by decide +kernel⟩, by decide, by decide +kernel⟩
theorem hf_La_tree_11 : mj_hf "ChartForestLaw" 6 "java/util/NoSuchElementException" 14 [(0, 11, 14, 21)] := ⟨⟨by decide, by decide, by decide⟩, _, mw_520, .inl ⟨rfl, mw_528, rfl⟩⟩
theorem d_La_tree_0 : decode y_La_tree.2.2.1 0 = .ok (.aload 4, 2) := mj_d (q := (0, .aload 4, 2)) k_La_tree 0 rfl
theorem d_La_tree_2 : decode y_La_tree.2.2.1 2 = .ok (.iconst 0, 1) := mj_d (q := (2, .iconst 0, 1)) k_La_tree 1 rfl
theorem d_La_tree_3 : decode y_La_tree.2.2.1 3 = .ok (.aload_n 0, 1) := mj_d (q := (3, .aload_n 0, 1)) k_La_tree 2 rfl
theorem d_La_tree_4 : decode y_La_tree.2.2.1 4 = .ok (.lload_n 1, 1) := mj_d (q := (4, .lload_n 1, 1)) k_La_tree 3 rfl
theorem d_La_tree_5 : decode y_La_tree.2.2.1 5 = .ok (.iload_n 3, 1) := mj_d (q := (5, .iload_n 3, 1)) k_La_tree 4 rfl
theorem d_La_tree_6 : decode y_La_tree.2.2.1 6 = .ok (.invokevirtual 46, 3) := mj_d (q := (6, .invokevirtual 46, 3)) k_La_tree 5 rfl
theorem d_La_tree_9 : decode y_La_tree.2.2.1 9 = .ok (.i2l, 1) := mj_d (q := (9, .i2l, 1)) k_La_tree 6 rfl
theorem d_La_tree_10 : decode y_La_tree.2.2.1 10 = .ok (.lastore, 1) := mj_d (q := (10, .lastore, 1)) k_La_tree 7 rfl
theorem d_La_tree_11 : decode y_La_tree.2.2.1 11 = .ok (.goto 7, 3) := mj_d (q := (11, .goto 7, 3)) k_La_tree 8 rfl
theorem d_La_tree_14 : decode y_La_tree.2.2.1 14 = .ok (.astore 5, 2) := mj_d (q := (14, .astore 5, 2)) k_La_tree 9 rfl
theorem d_La_tree_16 : decode y_La_tree.2.2.1 16 = .ok (.iconst 1, 1) := mj_d (q := (16, .iconst 1, 1)) k_La_tree 10 rfl
theorem d_La_tree_17 : decode y_La_tree.2.2.1 17 = .ok (.ireturn, 1) := mj_d (q := (17, .ireturn, 1)) k_La_tree 11 rfl
theorem d_La_tree_18 : decode y_La_tree.2.2.1 18 = .ok (.iconst 0, 1) := mj_d (q := (18, .iconst 0, 1)) k_La_tree 12 rfl
theorem d_La_tree_19 : decode y_La_tree.2.2.1 19 = .ok (.ireturn, 1) := mj_d (q := (19, .ireturn, 1)) k_La_tree 13 rfl
theorem v_La_tree_0 {g : mj_G} {nn d : Nat} {xs : mj_M} {Post : Option mj_V → mj_w → Prop} (hn : 34 ≤ nn) {w : mj_w} {l1 l3 : Int}
    (h : mj_J g y_CF_tree (d + 6) 1 6 (0, [some (mj_R 0), some (.inr (.inl l1)), none, some (.inl l3), none, none, none], [], mj_mem nn xs w) (mj_PT nn xs (fun r w1 => (∃ x2 : Int, r = .inl (some (.inl x2)) ∧ (mj_i x2 ∧ (∀ w4, w4 = mj_wu w1 33 0 0 x2 → Post (some (.inl 0)) w4))) ∨ (r = .inr 11 ∧ (Post (some (.inl 1)) w1))))) :
    mj_J g y_La_tree (d + 7) 1 6 (0, [some (mj_R 0), some (.inr (.inl l1)), none, some (.inl l3), some (mj_R 33), none], [], mj_mem nn xs w) (mj_PX nn xs Post) := by
  refine mj_r_aload d_La_tree_0 rfl ?_
  refine mj_r_iconst (x := 0) d_La_tree_2 rfl ?_
  refine mj_r_aload_n d_La_tree_3 rfl ?_
  refine mj_r_lload_n d_La_tree_4 rfl ?_
  refine mj_r_iload_n d_La_tree_5 rfl ?_
  refine mj_q_VT2i (kc := 0) (ks := 0) d_La_tree_6 h_CF_tree mw_645 mw_646 mw_647 mw_644 rfl rfl rfl hn rfl rfl (mj_wkT h (fun r w1 h => ?_))
  rcases h with ⟨x2, rfl, h⟩ | ⟨rfl, h⟩
  · refine .inl ⟨x2, rfl, ?_⟩
    obtain ⟨q3, h⟩ := h
    refine mj_r_i2l d_La_tree_9 q3 ?_
    refine mj_q_last d_La_tree_10 rfl rfl hn rfl (by decide) (by decide) (fun w4 e5 => ?_)
    have h := h w4 e5
    refine mj_r_goto (tgt := 18) d_La_tree_11 (by decide) ?_
    refine mj_r_iconst (x := 0) d_La_tree_18 rfl ?_
    exact mj_r_iret d_La_tree_19 rfl (mj_q_retX h)
  · refine .inr ⟨11, _, 14, rfl, rfl, hf_La_tree_11, ?_⟩
    refine mj_e_astore (lv' := [some (mj_R 0), some (.inr (.inl l1)), none, some (.inl l3), some (mj_R 33), some (mj_R (nn + xs.length))]) d_La_tree_14 rfl rfl ?_
    refine mj_r_iconst (x := 1) d_La_tree_16 rfl ?_
    exact mj_r_iret d_La_tree_17 rfl (mj_q_retX1 h)
