/-! ===== verification rows (by program) ===== -/
theorem v_CF_rule_0 {g : mj_G} {nn d : Nat} {xs : mj_M} {Post : Option mj_V ⊕ Nat → mj_w → Prop} (hn : 21 ≤ nn) {w : mj_w} {l1 l2 l3 : Int}
    (h : mj_J g y_CF_isNonterminal (d + 5) 0 0 (0, [some (.inl l1)], [], mj_mem nn xs w) (mj_P nn xs (fun v w1 => ∃ x2 : Int, v = some (.inl x2) ∧ (mj_i x2 ∧ (x2 = 0 → (Post (.inr 8) w1)) ∧ (¬ x2 = 0 → (mj_J g y_CF_isBody (d + 5) 0 0 (0, [some (.inl l2), some (.inl l3), none, none], [], mj_mem nn xs w1) (mj_P nn xs (fun v w5 => ∃ x6 : Int, v = some (.inl x6) ∧ (mj_i x6 ∧ (x6 = 0 → (Post (.inr 8) w5)) ∧ (¬ x6 = 0 → (mj_i (w5 1 0 0) ∧ ((w5 1 0 0) < 10 → (mj_i (w5 4 0 0) ∧ (0 < (w5 4 0 0) → (Post (.inr 9) w5)) ∧ (¬ 0 < (w5 4 0 0) → (mj_J g y_Gr_append (d + 5) 0 0 (0, [some (mj_R 1), some (.inl l1), some (.inl l2), some (.inl l3), none], [], mj_mem nn xs w5) (mj_P nn xs (fun v w13 => v = none ∧ (mj_J g y_Ch_openFirst (d + 5) 0 0 (0, [some (mj_R 6)], [], mj_mem nn xs w13) (mj_P nn xs (fun v w15 => v = none ∧ (mj_J g y_Fo_forgetBehind (d + 5) 0 0 (0, [some (mj_R 11), some (.inl ((-1)))], [], mj_mem nn xs w15) (mj_P nn xs (fun v w17 => v = none ∧ (Post (.inl (some (.inl ((w17 1 0 0) - 1)))) w17))))))))))))) ∧ (¬ (w5 1 0 0) < 10 → (Post (.inr 9) w5))))))))))))) :
    mj_J g y_CF_rule (d + 6) 1 6 (0, [some (mj_R 0), some (.inl l1), some (.inl l2), some (.inl l3)], [], mj_mem nn xs w) (mj_PT nn xs Post) := by
  refine mj_r_iload_n d_CF_rule_0 rfl ?_
  refine mj_q_S1i d_CF_rule_1 h_CF_isNonterminal (.inl mw_418) mw_271 rfl rfl (mj_wk h (fun v w1 h => ?_))
  obtain ⟨x2, rfl, h⟩ := h
  refine ⟨x2, rfl, ?_⟩
  obtain ⟨q3, h⟩ := h
  refine mj_s_if_eq (tgt := 15) d_CF_rule_4 (by decide) q3 (fun q4 => ?_) (fun q4 => ?_)
  · have h := h.1 q4
    exact mj_q_throw d_CF_rule_15 d_CF_rule_18 d_CF_rule_19 d_CF_rule_22 mj_x8 mw_426 mj_at_54_8 h_CF_rule hn h
  · have h := h.2 q4
    refine mj_r_iload_n d_CF_rule_7 rfl ?_
    refine mj_r_iload_n d_CF_rule_8 rfl ?_
    refine mj_q_S2i d_CF_rule_9 h_CF_isBody (.inl mw_419) mw_420 rfl rfl (mj_wk h (fun v w5 h => ?_))
    obtain ⟨x6, rfl, h⟩ := h
    refine ⟨x6, rfl, ?_⟩
    obtain ⟨q7, h⟩ := h
    refine mj_s_if_ne (tgt := 23) d_CF_rule_12 (by decide) q7 (fun q8 => ?_) (fun q8 => ?_)
    · have h := h.1 q8
      exact mj_q_throw d_CF_rule_15 d_CF_rule_18 d_CF_rule_19 d_CF_rule_22 mj_x8 mw_426 mj_at_54_8 h_CF_rule hn h
    · have h := h.2 q8
      refine mj_r_aload_n d_CF_rule_23 rfl ?_
      refine mj_q_getr d_CF_rule_24 f_0_0 (.inl mw_277) rfl hn ?_
      refine mj_q_geti d_CF_rule_27 f_1_0 (.inr mw_89) rfl hn ?_
      refine mj_r_bipush (x := 10) d_CF_rule_30 (by decide) ?_
      obtain ⟨q9, h⟩ := h
      refine mj_s_icmp_ge (tgt := 45) d_CF_rule_32 (by decide) q9 (mj_ik (by decide)) (fun q10 => ?_) (fun q10 => ?_)
      · have h := h.1 q10
        refine mj_r_aload_n d_CF_rule_35 rfl ?_
        refine mj_q_getr d_CF_rule_36 f_0_1 (.inl mw_278) rfl hn ?_
        refine mj_q_geti d_CF_rule_39 f_4_0 (.inr mw_110) rfl hn ?_
        obtain ⟨q11, h⟩ := h
        refine mj_s_if_le (tgt := 53) d_CF_rule_42 (by decide) q11 (fun q12 => ?_) (fun q12 => ?_)
        · have h := h.1 q12
          exact mj_q_throw d_CF_rule_45 d_CF_rule_48 d_CF_rule_49 d_CF_rule_52 mj_x9 mw_490 mj_at_64_9 h_CF_rule hn h
        · have h := h.2 q12
          refine mj_r_aload_n d_CF_rule_53 rfl ?_
          refine mj_q_getr d_CF_rule_54 f_0_0 (.inl mw_277) rfl hn ?_
          refine mj_r_iload_n d_CF_rule_57 rfl ?_
          refine mj_r_iload_n d_CF_rule_58 rfl ?_
          refine mj_r_iload_n d_CF_rule_59 rfl ?_
          refine mj_q_V3v d_CF_rule_60 h_Gr_append (.inl mw_505) mw_506 mw_507 rfl rfl rfl hn rfl rfl (mj_wk h (fun v w13 h => ?_))
          obtain ⟨rfl, h⟩ := h
          refine ⟨rfl, ?_⟩
          refine mj_r_aload_n d_CF_rule_63 rfl ?_
          refine mj_q_getr d_CF_rule_64 f_0_2 (.inl mw_279) rfl hn ?_
          refine mj_q_V0v d_CF_rule_67 h_Ch_openFirst (.inl mw_233) mw_234 mw_235 rfl rfl rfl hn rfl rfl (mj_wk h (fun v w15 h => ?_))
          obtain ⟨rfl, h⟩ := h
          refine ⟨rfl, ?_⟩
          refine mj_r_aload_n d_CF_rule_70 rfl ?_
          refine mj_q_getr d_CF_rule_71 f_0_3 (.inl mw_280) rfl hn ?_
          refine mj_r_iconst (x := (-1)) d_CF_rule_74 rfl ?_
          refine mj_q_V1v d_CF_rule_75 h_Fo_forgetBehind (.inl mw_510) mw_511 mw_512 rfl rfl rfl hn rfl rfl (mj_wk h (fun v w17 h => ?_))
          obtain ⟨rfl, h⟩ := h
          refine ⟨rfl, ?_⟩
          refine mj_r_aload_n d_CF_rule_78 rfl ?_
          refine mj_q_getr d_CF_rule_79 f_0_0 (.inl mw_277) rfl hn ?_
          refine mj_q_geti d_CF_rule_82 f_1_0 (.inr mw_89) rfl hn ?_
          refine mj_r_iconst (x := 1) d_CF_rule_85 rfl ?_
          refine mj_r_isub d_CF_rule_86 ?_
          exact mj_r_iret d_CF_rule_87 rfl (mj_qt_ret h)
      · have h := h.2 q10
        exact mj_q_throw d_CF_rule_45 d_CF_rule_48 d_CF_rule_49 d_CF_rule_52 mj_x9 mw_490 mj_at_64_9 h_CF_rule hn h
theorem v_CF_feed_0 {g : mj_G} {nn d : Nat} {xs : mj_M} {Post : Option mj_V ⊕ Nat → mj_w → Prop} (hn : 21 ≤ nn) {w : mj_w} {l1 : Int}
    (h : mj_J g y_CF_isTerminal (d + 5) 0 0 (0, [some (.inl l1)], [], mj_mem nn xs w) (mj_P nn xs (fun v w1 => ∃ x2 : Int, v = some (.inl x2) ∧ (mj_i x2 ∧ (x2 = 0 → (Post (.inr 8) w1)) ∧ (¬ x2 = 0 → (mj_i (w1 4 0 0) ∧ ((w1 4 0 0) < 12 → (mj_J g y_Ch_terminalsBehindDots (d + 5) 0 0 (0, [some (mj_R 6), some (.inl (w1 4 0 0)), none, none, none], [], mj_mem nn xs w1) (mj_P nn xs (fun v w7 => ∃ x8 : Int, v = some (.inl x8) ∧ (mj_J g y_CF_terminalBit (d + 5) 0 0 (0, [some (.inl l1)], [], mj_mem nn xs w7) (mj_P nn xs (fun v w9 => ∃ x10 : Int, v = some (.inl x10) ∧ (mj_i (mj_and x8 x10) ∧ ((mj_and x8 x10) = 0 → (Post (.inr 11) w9)) ∧ (¬ (mj_and x8 x10) = 0 → (mj_J g y_Ta_append (d + 5) 0 0 (0, [some (mj_R 4), some (.inl l1)], [], mj_mem nn xs w9) (mj_P nn xs (fun v w13 => v = none ∧ (mj_J g y_Ch_openNext (d + 5) 0 0 (0, [some (mj_R 6), some (.inl (w13 4 0 0)), some (.inl l1)], [], mj_mem nn xs w13) (mj_P nn xs (fun v w15 => v = none ∧ (0 ≤ (w15 4 0 0) ∧ (w15 4 0 0) < 13 ∧ Post (.inl (some (.inl (w15 8 (w15 4 0 0) 0)))) w15)))))))))))))))) ∧ (¬ (w1 4 0 0) < 12 → (Post (.inr 9) w1)))))))) :
    mj_J g y_CF_feed (d + 6) 1 6 (0, [some (mj_R 0), some (.inl l1)], [], mj_mem nn xs w) (mj_PT nn xs Post) := by
  refine mj_r_iload_n d_CF_feed_0 rfl ?_
  refine mj_q_S1i d_CF_feed_1 h_CF_isTerminal (.inl mw_425) mw_309 rfl rfl (mj_wk h (fun v w1 h => ?_))
  obtain ⟨x2, rfl, h⟩ := h
  refine ⟨x2, rfl, ?_⟩
  obtain ⟨q3, h⟩ := h
  refine mj_s_if_ne (tgt := 15) d_CF_feed_4 (by decide) q3 (fun q4 => ?_) (fun q4 => ?_)
  · have h := h.1 q4
    exact mj_q_throw d_CF_feed_7 d_CF_feed_10 d_CF_feed_11 d_CF_feed_14 mj_x8 mw_426 mj_at_54_8 h_CF_feed hn h
  · have h := h.2 q4
    refine mj_r_aload_n d_CF_feed_15 rfl ?_
    refine mj_q_getr d_CF_feed_16 f_0_1 (.inl mw_278) rfl hn ?_
    refine mj_q_geti d_CF_feed_19 f_4_0 (.inr mw_110) rfl hn ?_
    refine mj_r_bipush (x := 12) d_CF_feed_22 (by decide) ?_
    obtain ⟨q5, h⟩ := h
    refine mj_s_icmp_lt (tgt := 35) d_CF_feed_24 (by decide) q5 (mj_ik (by decide)) (fun q6 => ?_) (fun q6 => ?_)
    · have h := h.1 q6
      refine mj_r_aload_n d_CF_feed_35 rfl ?_
      refine mj_q_getr d_CF_feed_36 f_0_2 (.inl mw_279) rfl hn ?_
      refine mj_r_aload_n d_CF_feed_39 rfl ?_
      refine mj_q_getr d_CF_feed_40 f_0_1 (.inl mw_278) rfl hn ?_
      refine mj_q_geti d_CF_feed_43 f_4_0 (.inr mw_110) rfl hn ?_
      refine mj_q_V1i d_CF_feed_46 h_Ch_terminalsBehindDots (.inl mw_304) mw_305 mw_306 rfl rfl rfl hn rfl rfl (mj_wk h (fun v w7 h => ?_))
      obtain ⟨x8, rfl, h⟩ := h
      refine ⟨x8, rfl, ?_⟩
      refine mj_r_iload_n d_CF_feed_49 rfl ?_
      refine mj_q_S1i d_CF_feed_50 h_CF_terminalBit (.inl mw_525) mw_312 rfl rfl (mj_wk h (fun v w9 h => ?_))
      obtain ⟨x10, rfl, h⟩ := h
      refine ⟨x10, rfl, ?_⟩
      refine mj_r_iand d_CF_feed_53 ?_
      obtain ⟨q11, h⟩ := h
      refine mj_s_if_ne (tgt := 65) d_CF_feed_54 (by decide) q11 (fun q12 => ?_) (fun q12 => ?_)
      · have h := h.1 q12
        exact mj_q_throw d_CF_feed_57 d_CF_feed_60 d_CF_feed_61 d_CF_feed_64 mj_x11 mw_526 mj_at_85_11 h_CF_feed hn h
      · have h := h.2 q12
        refine mj_r_aload_n d_CF_feed_65 rfl ?_
        refine mj_q_getr d_CF_feed_66 f_0_1 (.inl mw_278) rfl hn ?_
        refine mj_r_iload_n d_CF_feed_69 rfl ?_
        refine mj_q_V1v d_CF_feed_70 h_Ta_append (.inl mw_541) mw_542 mw_543 rfl rfl rfl hn rfl rfl (mj_wk h (fun v w13 h => ?_))
        obtain ⟨rfl, h⟩ := h
        refine ⟨rfl, ?_⟩
        refine mj_r_aload_n d_CF_feed_73 rfl ?_
        refine mj_q_getr d_CF_feed_74 f_0_2 (.inl mw_279) rfl hn ?_
        refine mj_r_aload_n d_CF_feed_77 rfl ?_
        refine mj_q_getr d_CF_feed_78 f_0_1 (.inl mw_278) rfl hn ?_
        refine mj_q_geti d_CF_feed_81 f_4_0 (.inr mw_110) rfl hn ?_
        refine mj_r_iload_n d_CF_feed_84 rfl ?_
        refine mj_q_V2v d_CF_feed_85 h_Ch_openNext (.inl mw_545) mw_546 mw_547 rfl rfl rfl hn rfl rfl (mj_wk h (fun v w15 h => ?_))
        obtain ⟨rfl, h⟩ := h
        refine ⟨rfl, ?_⟩
        refine mj_r_aload_n d_CF_feed_88 rfl ?_
        refine mj_q_getr d_CF_feed_89 f_0_2 (.inl mw_279) rfl hn ?_
        refine mj_q_getr d_CF_feed_92 f_6_3 (.inr mw_130) rfl hn ?_
        refine mj_r_aload_n d_CF_feed_95 rfl ?_
        refine mj_q_getr d_CF_feed_96 f_0_1 (.inl mw_278) rfl hn ?_
        refine mj_q_geti d_CF_feed_99 f_4_0 (.inr mw_110) rfl hn ?_
        obtain ⟨q17, h⟩ := h
        obtain ⟨q18, h⟩ := h
        refine mj_q_iald d_CF_feed_102 rfl rfl hn rfl q17 q18 ?_
        exact mj_r_iret d_CF_feed_103 rfl (mj_qt_ret h)
    · have h := h.2 q6
      exact mj_q_throw d_CF_feed_27 d_CF_feed_30 d_CF_feed_31 d_CF_feed_34 mj_x9 mw_490 mj_at_64_9 h_CF_feed hn h
theorem v_CF_back_0 {g : mj_G} {nn d : Nat} {xs : mj_M} {Post : Option mj_V ⊕ Nat → mj_w → Prop} (hn : 21 ≤ nn) {w : mj_w} {l1 : Int}
    (h : mj_i l1 ∧ (l1 < 0 → (Post (.inr 8) w)) ∧ (¬ l1 < 0 → (mj_i (w 4 0 0) ∧ ((w 4 0 0) < l1 → (Post (.inr 8) w)) ∧ (¬ (w 4 0 0) < l1 → (∀ w5, w5 = mj_wu w 4 0 0 ((w 4 0 0) - l1) → mj_J g y_Fo_forgetBehind (d + 5) 0 0 (0, [some (mj_R 11), some (.inl (w5 4 0 0))], [], mj_mem nn xs w5) (mj_P nn xs (fun v w7 => v = none ∧ (Post (.inl (some (.inl (w7 4 0 0)))) w7)))))))) :
    mj_J g y_CF_back (d + 6) 1 6 (0, [some (mj_R 0), some (.inl l1)], [], mj_mem nn xs w) (mj_PT nn xs Post) := by
  refine mj_r_iload_n d_CF_back_0 rfl ?_
  obtain ⟨q1, h⟩ := h
  refine mj_s_if_lt (tgt := 15) d_CF_back_1 (by decide) q1 (fun q2 => ?_) (fun q2 => ?_)
  · have h := h.1 q2
    exact mj_q_throw d_CF_back_15 d_CF_back_18 d_CF_back_19 d_CF_back_22 mj_x8 mw_426 mj_at_54_8 h_CF_back hn h
  · have h := h.2 q2
    refine mj_r_iload_n d_CF_back_4 rfl ?_
    refine mj_r_aload_n d_CF_back_5 rfl ?_
    refine mj_q_getr d_CF_back_6 f_0_1 (.inl mw_278) rfl hn ?_
    refine mj_q_geti d_CF_back_9 f_4_0 (.inr mw_110) rfl hn ?_
    obtain ⟨q3, h⟩ := h
    refine mj_s_icmp_le (tgt := 23) d_CF_back_12 (by decide) q1 q3 (fun q4 => ?_) (fun q4 => ?_)
    · have h := h.1 q4
      exact mj_q_throw d_CF_back_15 d_CF_back_18 d_CF_back_19 d_CF_back_22 mj_x8 mw_426 mj_at_54_8 h_CF_back hn h
    · have h := h.2 q4
      refine mj_r_aload_n d_CF_back_23 rfl ?_
      refine mj_q_getr d_CF_back_24 f_0_1 (.inl mw_278) rfl hn ?_
      refine mj_r_dup d_CF_back_27 rfl ?_
      refine mj_q_geti d_CF_back_28 f_4_0 (.inr mw_110) rfl hn ?_
      refine mj_r_iload_n d_CF_back_31 rfl ?_
      refine mj_r_isub d_CF_back_32 ?_
      refine mj_q_put d_CF_back_33 f_4_0 (mj_fit_I _) (.inr mw_110) rfl hn (fun w5 e6 => ?_)
      have h := h w5 e6
      refine mj_r_aload_n d_CF_back_36 rfl ?_
      refine mj_q_getr d_CF_back_37 f_0_3 (.inl mw_280) rfl hn ?_
      refine mj_r_aload_n d_CF_back_40 rfl ?_
      refine mj_q_getr d_CF_back_41 f_0_1 (.inl mw_278) rfl hn ?_
      refine mj_q_geti d_CF_back_44 f_4_0 (.inr mw_110) rfl hn ?_
      refine mj_q_V1v d_CF_back_47 h_Fo_forgetBehind (.inl mw_510) mw_511 mw_512 rfl rfl rfl hn rfl rfl (mj_wk h (fun v w7 h => ?_))
      obtain ⟨rfl, h⟩ := h
      refine ⟨rfl, ?_⟩
      refine mj_r_aload_n d_CF_back_50 rfl ?_
      refine mj_q_getr d_CF_back_51 f_0_1 (.inl mw_278) rfl hn ?_
      refine mj_q_geti d_CF_back_54 f_4_0 (.inr mw_110) rfl hn ?_
      exact mj_r_iret d_CF_back_57 rfl (mj_qt_ret h)
theorem v_CF_items_0 {g : mj_G} {nn d : Nat} {xs : mj_M} {Post : Option mj_V ⊕ Nat → mj_w → Prop} (hn : 21 ≤ nn) {w : mj_w} {l1 : Int}
    (h : mj_J g y_CF_isSet (d + 5) 0 0 (0, [some (mj_R 0), some (.inl l1)], [], mj_mem nn xs w) (mj_P nn xs (fun v w1 => ∃ x2 : Int, v = some (.inl x2) ∧ (mj_i x2 ∧ (x2 = 0 → (Post (.inr 10) w1)) ∧ (¬ x2 = 0 → (0 ≤ l1 ∧ l1 < 13 ∧ Post (.inl (some (.inl (w1 8 l1 0)))) w1)))))) :
    mj_J g y_CF_items (d + 6) 1 6 (0, [some (mj_R 0), some (.inl l1)], [], mj_mem nn xs w) (mj_PT nn xs Post) := by
  refine mj_r_aload_n d_CF_items_0 rfl ?_
  refine mj_r_iload_n d_CF_items_1 rfl ?_
  refine mj_q_V1i d_CF_items_2 h_CF_isSet (.inl mw_582) mw_584 mw_19 rfl rfl rfl hn rfl rfl (mj_wk h (fun v w1 h => ?_))
  obtain ⟨x2, rfl, h⟩ := h
  refine ⟨x2, rfl, ?_⟩
  obtain ⟨q3, h⟩ := h
  refine mj_s_if_ne (tgt := 16) d_CF_items_5 (by decide) q3 (fun q4 => ?_) (fun q4 => ?_)
  · have h := h.1 q4
    exact mj_q_throw d_CF_items_8 d_CF_items_11 d_CF_items_12 d_CF_items_15 mj_x10 mw_586 mj_at_109_10 h_CF_items hn h
  · have h := h.2 q4
    refine mj_r_aload_n d_CF_items_16 rfl ?_
    refine mj_q_getr d_CF_items_17 f_0_2 (.inl mw_279) rfl hn ?_
    refine mj_q_getr d_CF_items_20 f_6_3 (.inr mw_130) rfl hn ?_
    refine mj_r_iload_n d_CF_items_23 rfl ?_
    obtain ⟨q5, h⟩ := h
    obtain ⟨q6, h⟩ := h
    refine mj_q_iald d_CF_items_24 rfl rfl hn rfl q5 q6 ?_
    exact mj_r_iret d_CF_items_25 rfl (mj_qt_ret h)
theorem v_CF_has_0 {g : mj_G} {nn d : Nat} {xs : mj_M} {Post : Option mj_V ⊕ Nat → mj_w → Prop} (hn : 21 ≤ nn) {w : mj_w} {l1 l2 l3 l4 : Int}
    (h : mj_J g y_CF_isSet (d + 5) 0 0 (0, [some (mj_R 0), some (.inl l1)], [], mj_mem nn xs w) (mj_P nn xs (fun v w1 => ∃ x2 : Int, v = some (.inl x2) ∧ (mj_i x2 ∧ (x2 = 0 → (Post (.inr 10) w1)) ∧ (¬ x2 = 0 → (mj_i l2 ∧ (l2 < (-1) → (Post (.inl (some (.inl 0))) w1)) ∧ (¬ l2 < (-1) → (mj_i (w1 1 0 0) ∧ (l2 < (w1 1 0 0) → (mj_i l3 ∧ (l3 < 0 → (Post (.inl (some (.inl 0))) w1)) ∧ (¬ l3 < 0 → ((l3 < 4 → (mj_J g y_CF_isSet (d + 5) 0 0 (0, [some (mj_R 0), some (.inl l4)], [], mj_mem nn xs w1) (mj_P nn xs (fun v w12 => ∃ x13 : Int, v = some (.inl x13) ∧ (mj_i x13 ∧ (x13 = 0 → (Post (.inl (some (.inl 0))) w12)) ∧ (¬ x13 = 0 → (mj_J g y_CF_slotOf (d + 5) 0 0 (0, [some (.inl l2), some (.inl l3)], [], mj_mem nn xs w12) (mj_P nn xs (fun v w16 => ∃ x17 : Int, v = some (.inl x17) ∧ (mj_J g y_Ch_holds (d + 5) 0 0 (0, [some (mj_R 6), some (.inl l1), some (.inl x17), some (.inl l4)], [], mj_mem nn xs w16) (mj_P nn xs (fun v w18 => ∃ x19 : Int, v = some (.inl x19) ∧ ((x19 = 0 ∨ x19 = 1) ∧ Post (.inl (some (.inl x19))) w18))))))))))))) ∧ (¬ l3 < 4 → (Post (.inl (some (.inl 0))) w1)))))) ∧ (¬ l2 < (w1 1 0 0) → (Post (.inl (some (.inl 0))) w1)))))))))) :
    mj_J g y_CF_has (d + 6) 1 6 (0, [some (mj_R 0), some (.inl l1), some (.inl l2), some (.inl l3), some (.inl l4)], [], mj_mem nn xs w) (mj_PT nn xs Post) := by
  refine mj_r_aload_n d_CF_has_0 rfl ?_
  refine mj_r_iload_n d_CF_has_1 rfl ?_
  refine mj_q_V1i d_CF_has_2 h_CF_isSet (.inl mw_582) mw_584 mw_19 rfl rfl rfl hn rfl rfl (mj_wk h (fun v w1 h => ?_))
  obtain ⟨x2, rfl, h⟩ := h
  refine ⟨x2, rfl, ?_⟩
  obtain ⟨q3, h⟩ := h
  refine mj_s_if_ne (tgt := 16) d_CF_has_5 (by decide) q3 (fun q4 => ?_) (fun q4 => ?_)
  · have h := h.1 q4
    exact mj_q_throw d_CF_has_8 d_CF_has_11 d_CF_has_12 d_CF_has_15 mj_x10 mw_586 mj_at_109_10 h_CF_has hn h
  · have h := h.2 q4
    refine mj_r_iload_n d_CF_has_16 rfl ?_
    refine mj_r_iconst (x := (-1)) d_CF_has_17 rfl ?_
    obtain ⟨q5, h⟩ := h
    refine mj_s_icmp_lt (tgt := 50) d_CF_has_18 (by decide) q5 (mj_ik (by decide)) (fun q6 => ?_) (fun q6 => ?_)
    · have h := h.1 q6
      refine mj_r_iconst (x := 0) d_CF_has_50 rfl ?_
      exact mj_r_zret d_CF_has_51 rfl (by decide) (mj_qt_ret h)
    · have h := h.2 q6
      refine mj_r_iload_n d_CF_has_21 rfl ?_
      refine mj_r_aload_n d_CF_has_22 rfl ?_
      refine mj_q_getr d_CF_has_23 f_0_0 (.inl mw_277) rfl hn ?_
      refine mj_q_geti d_CF_has_26 f_1_0 (.inr mw_89) rfl hn ?_
      obtain ⟨q7, h⟩ := h
      refine mj_s_icmp_ge (tgt := 50) d_CF_has_29 (by decide) q5 q7 (fun q8 => ?_) (fun q8 => ?_)
      · have h := h.1 q8
        refine mj_r_iload_n d_CF_has_32 rfl ?_
        obtain ⟨q9, h⟩ := h
        refine mj_s_if_lt (tgt := 50) d_CF_has_33 (by decide) q9 (fun q10 => ?_) (fun q10 => ?_)
        · have h := h.1 q10
          refine mj_r_iconst (x := 0) d_CF_has_50 rfl ?_
          exact mj_r_zret d_CF_has_51 rfl (by decide) (mj_qt_ret h)
        · have h := h.2 q10
          refine mj_r_iload_n d_CF_has_36 rfl ?_
          refine mj_r_iconst (x := 4) d_CF_has_37 rfl ?_
          refine mj_s_icmp_ge (tgt := 50) d_CF_has_38 (by decide) q9 (mj_ik (by decide)) (fun q11 => ?_) (fun q11 => ?_)
          · have h := h.1 q11
            refine mj_r_aload_n d_CF_has_41 rfl ?_
            refine mj_r_iload d_CF_has_42 rfl ?_
            refine mj_q_V1i d_CF_has_44 h_CF_isSet (.inl mw_582) mw_584 mw_19 rfl rfl rfl hn rfl rfl (mj_wk h (fun v w12 h => ?_))
            obtain ⟨x13, rfl, h⟩ := h
            refine ⟨x13, rfl, ?_⟩
            obtain ⟨q14, h⟩ := h
            refine mj_s_if_ne (tgt := 52) d_CF_has_47 (by decide) q14 (fun q15 => ?_) (fun q15 => ?_)
            · have h := h.1 q15
              refine mj_r_iconst (x := 0) d_CF_has_50 rfl ?_
              exact mj_r_zret d_CF_has_51 rfl (by decide) (mj_qt_ret h)
            · have h := h.2 q15
              refine mj_r_aload_n d_CF_has_52 rfl ?_
              refine mj_q_getr d_CF_has_53 f_0_2 (.inl mw_279) rfl hn ?_
              refine mj_r_iload_n d_CF_has_56 rfl ?_
              refine mj_r_iload_n d_CF_has_57 rfl ?_
              refine mj_r_iload_n d_CF_has_58 rfl ?_
              refine mj_q_S2i d_CF_has_59 h_CF_slotOf (.inl mw_298) mw_85 rfl rfl (mj_wk h (fun v w16 h => ?_))
              obtain ⟨x17, rfl, h⟩ := h
              refine ⟨x17, rfl, ?_⟩
              refine mj_r_iload d_CF_has_62 rfl ?_
              refine mj_q_V3i d_CF_has_64 h_Ch_holds (.inl mw_299) mw_247 mw_248 rfl rfl rfl hn rfl rfl (mj_wk h (fun v w18 h => ?_))
              obtain ⟨x19, rfl, h⟩ := h
              refine ⟨x19, rfl, ?_⟩
              obtain ⟨q20, h⟩ := h
              exact mj_r_zret d_CF_has_67 rfl q20 (mj_qt_ret h)
          · have h := h.2 q11
            refine mj_r_iconst (x := 0) d_CF_has_50 rfl ?_
            exact mj_r_zret d_CF_has_51 rfl (by decide) (mj_qt_ret h)
      · have h := h.2 q8
        refine mj_r_iconst (x := 0) d_CF_has_50 rfl ?_
        exact mj_r_zret d_CF_has_51 rfl (by decide) (mj_qt_ret h)
theorem v_CF_leap_0 {g : mj_G} {nn d : Nat} {xs : mj_M} {Post : Option mj_V ⊕ Nat → mj_w → Prop} (hn : 21 ≤ nn) {w : mj_w} {l1 l2 : Int}
    (h : mj_J g y_CF_isSet (d + 5) 0 0 (0, [some (mj_R 0), some (.inl l1)], [], mj_mem nn xs w) (mj_P nn xs (fun v w1 => ∃ x2 : Int, v = some (.inl x2) ∧ (mj_i x2 ∧ (x2 = 0 → (Post (.inr 10) w1)) ∧ (¬ x2 = 0 → (mj_J g y_CF_isNonterminal (d + 5) 0 0 (0, [some (.inl l2)], [], mj_mem nn xs w1) (mj_P nn xs (fun v w5 => ∃ x6 : Int, v = some (.inl x6) ∧ (mj_i x6 ∧ (x6 = 0 → (Post (.inr 10) w5)) ∧ (¬ x6 = 0 → (mj_i l1 ∧ mj_i (w5 4 0 0) ∧ (l1 = (w5 4 0 0) → (Post (.inl (some (.inl ((-1))))) w5)) ∧ (¬ l1 = (w5 4 0 0) → (mj_J g y_Ch_writtenLeap (d + 5) 0 0 (0, [some (mj_R 6), some (.inl l1), some (.inl l2), none, none], [], mj_mem nn xs w5) (mj_P nn xs (fun v w12 => ∃ x13 : Int, v = some (.inl x13) ∧ (Post (.inl (some (.inl x13))) w12)))))))))))))))) :
    mj_J g y_CF_leap (d + 6) 1 6 (0, [some (mj_R 0), some (.inl l1), some (.inl l2)], [], mj_mem nn xs w) (mj_PT nn xs Post) := by
  refine mj_r_aload_n d_CF_leap_0 rfl ?_
  refine mj_r_iload_n d_CF_leap_1 rfl ?_
  refine mj_q_V1i d_CF_leap_2 h_CF_isSet (.inl mw_582) mw_584 mw_19 rfl rfl rfl hn rfl rfl (mj_wk h (fun v w1 h => ?_))
  obtain ⟨x2, rfl, h⟩ := h
  refine ⟨x2, rfl, ?_⟩
  obtain ⟨q3, h⟩ := h
  refine mj_s_if_eq (tgt := 15) d_CF_leap_5 (by decide) q3 (fun q4 => ?_) (fun q4 => ?_)
  · have h := h.1 q4
    exact mj_q_throw d_CF_leap_15 d_CF_leap_18 d_CF_leap_19 d_CF_leap_22 mj_x10 mw_586 mj_at_109_10 h_CF_leap hn h
  · have h := h.2 q4
    refine mj_r_iload_n d_CF_leap_8 rfl ?_
    refine mj_q_S1i d_CF_leap_9 h_CF_isNonterminal (.inl mw_418) mw_271 rfl rfl (mj_wk h (fun v w5 h => ?_))
    obtain ⟨x6, rfl, h⟩ := h
    refine ⟨x6, rfl, ?_⟩
    obtain ⟨q7, h⟩ := h
    refine mj_s_if_ne (tgt := 23) d_CF_leap_12 (by decide) q7 (fun q8 => ?_) (fun q8 => ?_)
    · have h := h.1 q8
      exact mj_q_throw d_CF_leap_15 d_CF_leap_18 d_CF_leap_19 d_CF_leap_22 mj_x10 mw_586 mj_at_109_10 h_CF_leap hn h
    · have h := h.2 q8
      refine mj_r_iload_n d_CF_leap_23 rfl ?_
      refine mj_r_aload_n d_CF_leap_24 rfl ?_
      refine mj_q_getr d_CF_leap_25 f_0_1 (.inl mw_278) rfl hn ?_
      refine mj_q_geti d_CF_leap_28 f_4_0 (.inr mw_110) rfl hn ?_
      obtain ⟨q9, h⟩ := h
      obtain ⟨q10, h⟩ := h
      refine mj_s_icmp_ne (tgt := 36) d_CF_leap_31 (by decide) q9 q10 (fun q11 => ?_) (fun q11 => ?_)
      · have h := h.1 q11
        refine mj_r_iconst (x := (-1)) d_CF_leap_34 rfl ?_
        exact mj_r_iret d_CF_leap_35 rfl (mj_qt_ret h)
      · have h := h.2 q11
        refine mj_r_aload_n d_CF_leap_36 rfl ?_
        refine mj_q_getr d_CF_leap_37 f_0_2 (.inl mw_279) rfl hn ?_
        refine mj_r_iload_n d_CF_leap_40 rfl ?_
        refine mj_r_iload_n d_CF_leap_41 rfl ?_
        refine mj_q_V2i d_CF_leap_42 h_Ch_writtenLeap (.inl mw_615) mw_616 mw_617 rfl rfl rfl hn rfl rfl (mj_wk h (fun v w12 h => ?_))
        obtain ⟨x13, rfl, h⟩ := h
        refine ⟨x13, rfl, ?_⟩
        exact mj_r_iret d_CF_leap_45 rfl (mj_qt_ret h)
theorem v_CF_ways_0 {g : mj_G} {nn d : Nat} {xs : mj_M} {Post : Option mj_V ⊕ Nat → mj_w → Prop} (hn : 21 ≤ nn) {w : mj_w} {l1 l2 l3 : Int}
    (h : mj_J g y_CF_isNonterminal (d + 5) 0 0 (0, [some (.inl l1)], [], mj_mem nn xs w) (mj_P nn xs (fun v w1 => ∃ x2 : Int, v = some (.inl x2) ∧ (mj_i x2 ∧ (x2 = 0 → (Post (.inr 10) w1)) ∧ (¬ x2 = 0 → (mj_J g y_CF_isStretch (d + 5) 0 0 (0, [some (mj_R 0), some (.inl l2), some (.inl l3)], [], mj_mem nn xs w1) (mj_P nn xs (fun v w5 => ∃ x6 : Int, v = some (.inl x6) ∧ (mj_i x6 ∧ (x6 = 0 → (Post (.inr 10) w5)) ∧ (¬ x6 = 0 → (mj_J g y_Fo_makeReady (d + 5) 0 0 (0, [some (mj_R 11), none, none], [], mj_mem nn xs w5) (mj_P nn xs (fun v w9 => v = none ∧ (mj_J g y_Fo_waysOver (d + 5) 0 0 (0, [some (mj_R 11), some (.inl l1), some (.inl l2), some (.inl l3)], [], mj_mem nn xs w9) (mj_P nn xs (fun v w11 => ∃ x12 : Int, v = some (.inl x12) ∧ (Post (.inl (some (.inl x12))) w11))))))))))))))))) :
    mj_J g y_CF_ways (d + 6) 1 6 (0, [some (mj_R 0), some (.inl l1), some (.inl l2), some (.inl l3)], [], mj_mem nn xs w) (mj_PT nn xs Post) := by
  refine mj_r_iload_n d_CF_ways_0 rfl ?_
  refine mj_q_S1i d_CF_ways_1 h_CF_isNonterminal (.inl mw_418) mw_271 rfl rfl (mj_wk h (fun v w1 h => ?_))
  obtain ⟨x2, rfl, h⟩ := h
  refine ⟨x2, rfl, ?_⟩
  obtain ⟨q3, h⟩ := h
  refine mj_s_if_eq (tgt := 16) d_CF_ways_4 (by decide) q3 (fun q4 => ?_) (fun q4 => ?_)
  · have h := h.1 q4
    exact mj_q_throw d_CF_ways_16 d_CF_ways_19 d_CF_ways_20 d_CF_ways_23 mj_x10 mw_586 mj_at_109_10 h_CF_ways hn h
  · have h := h.2 q4
    refine mj_r_aload_n d_CF_ways_7 rfl ?_
    refine mj_r_iload_n d_CF_ways_8 rfl ?_
    refine mj_r_iload_n d_CF_ways_9 rfl ?_
    refine mj_q_V2i d_CF_ways_10 h_CF_isStretch (.inl mw_626) mw_628 mw_20 rfl rfl rfl hn rfl rfl (mj_wk h (fun v w5 h => ?_))
    obtain ⟨x6, rfl, h⟩ := h
    refine ⟨x6, rfl, ?_⟩
    obtain ⟨q7, h⟩ := h
    refine mj_s_if_ne (tgt := 24) d_CF_ways_13 (by decide) q7 (fun q8 => ?_) (fun q8 => ?_)
    · have h := h.1 q8
      exact mj_q_throw d_CF_ways_16 d_CF_ways_19 d_CF_ways_20 d_CF_ways_23 mj_x10 mw_586 mj_at_109_10 h_CF_ways hn h
    · have h := h.2 q8
      refine mj_r_aload_n d_CF_ways_24 rfl ?_
      refine mj_q_getr d_CF_ways_25 f_0_3 (.inl mw_280) rfl hn ?_
      refine mj_q_V0v d_CF_ways_28 h_Fo_makeReady (.inl mw_318) mw_319 mw_320 rfl rfl rfl hn rfl rfl (mj_wk h (fun v w9 h => ?_))
      obtain ⟨rfl, h⟩ := h
      refine ⟨rfl, ?_⟩
      refine mj_r_aload_n d_CF_ways_31 rfl ?_
      refine mj_q_getr d_CF_ways_32 f_0_3 (.inl mw_280) rfl hn ?_
      refine mj_r_iload_n d_CF_ways_35 rfl ?_
      refine mj_r_iload_n d_CF_ways_36 rfl ?_
      refine mj_r_iload_n d_CF_ways_37 rfl ?_
      refine mj_q_V3i d_CF_ways_38 h_Fo_waysOver (.inl mw_630) mw_631 mw_632 rfl rfl rfl hn rfl rfl (mj_wk h (fun v w11 h => ?_))
      obtain ⟨x12, rfl, h⟩ := h
      refine ⟨x12, rfl, ?_⟩
      exact mj_r_iret d_CF_ways_41 rfl (mj_qt_ret h)
theorem v_CF_trees_0 {g : mj_G} {nn d : Nat} {xs : mj_M} {Post : Option mj_V ⊕ Nat → mj_w → Prop} (hn : 21 ≤ nn) {w : mj_w} {l1 l2 l3 : Int}
    (h : mj_J g y_CF_isNonterminal (d + 5) 0 0 (0, [some (.inl l1)], [], mj_mem nn xs w) (mj_P nn xs (fun v w1 => ∃ x2 : Int, v = some (.inl x2) ∧ (mj_i x2 ∧ (x2 = 0 → (Post (.inr 10) w1)) ∧ (¬ x2 = 0 → (mj_J g y_CF_isStretch (d + 5) 0 0 (0, [some (mj_R 0), some (.inl l2), some (.inl l3)], [], mj_mem nn xs w1) (mj_P nn xs (fun v w5 => ∃ x6 : Int, v = some (.inl x6) ∧ (mj_i x6 ∧ (x6 = 0 → (Post (.inr 10) w5)) ∧ (¬ x6 = 0 → (mj_J g y_Fo_makeReady (d + 5) 0 0 (0, [some (mj_R 11), none, none], [], mj_mem nn xs w5) (mj_P nn xs (fun v w9 => v = none ∧ (mj_J g y_Fo_treesOver (d + 5) 0 0 (0, [some (mj_R 11), some (.inl l1), some (.inl l2), some (.inl l3)], [], mj_mem nn xs w9) (mj_P nn xs (fun v w11 => ∃ x12 : Int, v = some (.inr (.inl x12)) ∧ (Post (.inl (some (.inr (.inl x12)))) w11))))))))))))))))) :
    mj_J g y_CF_trees (d + 6) 1 6 (0, [some (mj_R 0), some (.inl l1), some (.inl l2), some (.inl l3)], [], mj_mem nn xs w) (mj_PT nn xs Post) := by
  refine mj_r_iload_n d_CF_trees_0 rfl ?_
  refine mj_q_S1i d_CF_trees_1 h_CF_isNonterminal (.inl mw_418) mw_271 rfl rfl (mj_wk h (fun v w1 h => ?_))
  obtain ⟨x2, rfl, h⟩ := h
  refine ⟨x2, rfl, ?_⟩
  obtain ⟨q3, h⟩ := h
  refine mj_s_if_eq (tgt := 16) d_CF_trees_4 (by decide) q3 (fun q4 => ?_) (fun q4 => ?_)
  · have h := h.1 q4
    exact mj_q_throw d_CF_trees_16 d_CF_trees_19 d_CF_trees_20 d_CF_trees_23 mj_x10 mw_586 mj_at_109_10 h_CF_trees hn h
  · have h := h.2 q4
    refine mj_r_aload_n d_CF_trees_7 rfl ?_
    refine mj_r_iload_n d_CF_trees_8 rfl ?_
    refine mj_r_iload_n d_CF_trees_9 rfl ?_
    refine mj_q_V2i d_CF_trees_10 h_CF_isStretch (.inl mw_626) mw_628 mw_20 rfl rfl rfl hn rfl rfl (mj_wk h (fun v w5 h => ?_))
    obtain ⟨x6, rfl, h⟩ := h
    refine ⟨x6, rfl, ?_⟩
    obtain ⟨q7, h⟩ := h
    refine mj_s_if_ne (tgt := 24) d_CF_trees_13 (by decide) q7 (fun q8 => ?_) (fun q8 => ?_)
    · have h := h.1 q8
      exact mj_q_throw d_CF_trees_16 d_CF_trees_19 d_CF_trees_20 d_CF_trees_23 mj_x10 mw_586 mj_at_109_10 h_CF_trees hn h
    · have h := h.2 q8
      refine mj_r_aload_n d_CF_trees_24 rfl ?_
      refine mj_q_getr d_CF_trees_25 f_0_3 (.inl mw_280) rfl hn ?_
      refine mj_q_V0v d_CF_trees_28 h_Fo_makeReady (.inl mw_318) mw_319 mw_320 rfl rfl rfl hn rfl rfl (mj_wk h (fun v w9 h => ?_))
      obtain ⟨rfl, h⟩ := h
      refine ⟨rfl, ?_⟩
      refine mj_r_aload_n d_CF_trees_31 rfl ?_
      refine mj_q_getr d_CF_trees_32 f_0_3 (.inl mw_280) rfl hn ?_
      refine mj_r_iload_n d_CF_trees_35 rfl ?_
      refine mj_r_iload_n d_CF_trees_36 rfl ?_
      refine mj_r_iload_n d_CF_trees_37 rfl ?_
      refine mj_q_V3l d_CF_trees_38 h_Fo_treesOver (.inl mw_641) mw_377 mw_378 rfl rfl rfl hn rfl rfl (mj_wk h (fun v w11 h => ?_))
      obtain ⟨x12, rfl, h⟩ := h
      refine ⟨x12, rfl, ?_⟩
      exact mj_r_lret d_CF_trees_41 rfl (mj_qt_ret h)
theorem v_CF_tree_0 {g : mj_G} {nn d : Nat} {xs : mj_M} {Post : Option mj_V ⊕ Nat → mj_w → Prop} (hn : 21 ≤ nn) {w : mj_w} {l1 l3 : Int}
    (h : mj_J g y_Fo_makeReady (d + 5) 0 0 (0, [some (mj_R 11), none, none], [], mj_mem nn xs w) (mj_P nn xs (fun v w1 => v = none ∧ (mj_J g y_Fo_treesOver (d + 5) 0 0 (0, [some (mj_R 11), some (.inl 0), some (.inl 0), some (.inl (w1 4 0 0))], [], mj_mem nn xs w1) (mj_P nn xs (fun v w3 => ∃ x4 : Int, v = some (.inr (.inl x4)) ∧ (mj_l x4 ∧ (x4 < 1000000000000 → (mj_l l1 ∧ (l1 < 0 → (Post (.inr 11) w3)) ∧ (¬ l1 < 0 → ((l1 < x4 → (mj_i l3 ∧ (l3 < 0 → (Post (.inr 11) w3)) ∧ (¬ l3 < 0 → (mj_J g y_Fo_ruleAt (d + 5) 0 0 (0, [some (mj_R 11), some (.inr (.inl l1)), none, some (.inl l3), none, none, none, none], [], mj_mem nn xs w3) (mj_P nn xs (fun v w12 => ∃ x13 : Int, v = some (.inl x13) ∧ (mj_i x13 ∧ (x13 = (-1) → (Post (.inr 11) w12)) ∧ (¬ x13 = (-1) → (Post (.inl (some (.inl x13))) w12))))))))) ∧ (¬ l1 < x4 → (Post (.inr 11) w3)))))) ∧ (¬ x4 < 1000000000000 → (Post (.inr 11) w3))))))))) :
    mj_J g y_CF_tree (d + 6) 1 6 (0, [some (mj_R 0), some (.inr (.inl l1)), none, some (.inl l3), none, none, none], [], mj_mem nn xs w) (mj_PT nn xs Post) := by
  refine mj_r_aload_n d_CF_tree_0 rfl ?_
  refine mj_q_getr d_CF_tree_1 f_0_3 (.inl mw_280) rfl hn ?_
  refine mj_q_V0v d_CF_tree_4 h_Fo_makeReady (.inl mw_318) mw_319 mw_320 rfl rfl rfl hn rfl rfl (mj_wk h (fun v w1 h => ?_))
  obtain ⟨rfl, h⟩ := h
  refine ⟨rfl, ?_⟩
  refine mj_r_aload_n d_CF_tree_7 rfl ?_
  refine mj_q_getr d_CF_tree_8 f_0_3 (.inl mw_280) rfl hn ?_
  refine mj_r_iconst (x := 0) d_CF_tree_11 rfl ?_
  refine mj_r_iconst (x := 0) d_CF_tree_12 rfl ?_
  refine mj_r_aload_n d_CF_tree_13 rfl ?_
  refine mj_q_getr d_CF_tree_14 f_0_1 (.inl mw_278) rfl hn ?_
  refine mj_q_geti d_CF_tree_17 f_4_0 (.inr mw_110) rfl hn ?_
  refine mj_q_V3l d_CF_tree_20 h_Fo_treesOver (.inl mw_641) mw_377 mw_378 rfl rfl rfl hn rfl rfl (mj_wk h (fun v w3 h => ?_))
  obtain ⟨x4, rfl, h⟩ := h
  refine ⟨x4, rfl, ?_⟩
  refine mj_e_lstore (lv' := [some (mj_R 0), some (.inr (.inl l1)), none, some (.inl l3), some (.inr (.inl x4)), none, none]) d_CF_tree_23 rfl rfl ?_
  refine mj_r_lload d_CF_tree_25 rfl ?_
  refine mj_r_ldc2v (x := 1000000000000) d_CF_tree_27 mw_352 (by decide) ?_
  obtain ⟨q5, h⟩ := h
  refine mj_s_l_ge (tgt := 51) d_CF_tree_30 d_CF_tree_31 (by decide) q5 (mj_lk (by decide)) (fun q6 => ?_) (fun q6 => ?_)
  · have h := h.1 q6
    refine mj_r_lload_n d_CF_tree_34 rfl ?_
    refine mj_r_lconst (x := 0) d_CF_tree_35 rfl ?_
    obtain ⟨q7, h⟩ := h
    refine mj_s_l_lt (tgt := 51) d_CF_tree_36 d_CF_tree_37 (by decide) q7 (mj_lk (by decide)) (fun q8 => ?_) (fun q8 => ?_)
    · have h := h.1 q8
      exact mj_q_throw d_CF_tree_51 d_CF_tree_54 d_CF_tree_55 d_CF_tree_58 mj_x11 mw_526 mj_at_85_11 h_CF_tree hn h
    · have h := h.2 q8
      refine mj_r_lload_n d_CF_tree_40 rfl ?_
      refine mj_r_lload d_CF_tree_41 rfl ?_
      refine mj_s_l_ge (tgt := 51) d_CF_tree_43 d_CF_tree_44 (by decide) q7 q5 (fun q9 => ?_) (fun q9 => ?_)
      · have h := h.1 q9
        refine mj_r_iload_n d_CF_tree_47 rfl ?_
        obtain ⟨q10, h⟩ := h
        refine mj_s_if_ge (tgt := 59) d_CF_tree_48 (by decide) q10 (fun q11 => ?_) (fun q11 => ?_)
        · have h := h.1 q11
          exact mj_q_throw d_CF_tree_51 d_CF_tree_54 d_CF_tree_55 d_CF_tree_58 mj_x11 mw_526 mj_at_85_11 h_CF_tree hn h
        · have h := h.2 q11
          refine mj_r_aload_n d_CF_tree_59 rfl ?_
          refine mj_q_getr d_CF_tree_60 f_0_3 (.inl mw_280) rfl hn ?_
          refine mj_r_lload_n d_CF_tree_63 rfl ?_
          refine mj_r_iload_n d_CF_tree_64 rfl ?_
          refine mj_q_V2i d_CF_tree_65 h_Fo_ruleAt (.inl mw_649) mw_650 mw_651 rfl rfl rfl hn rfl rfl (mj_wk h (fun v w12 h => ?_))
          obtain ⟨x13, rfl, h⟩ := h
          refine ⟨x13, rfl, ?_⟩
          refine mj_e_istore (lv' := [some (mj_R 0), some (.inr (.inl l1)), none, some (.inl l3), some (.inr (.inl x4)), none, some (.inl x13)]) d_CF_tree_68 rfl rfl ?_
          refine mj_r_iload d_CF_tree_70 rfl ?_
          refine mj_r_iconst (x := (-1)) d_CF_tree_72 rfl ?_
          obtain ⟨q14, h⟩ := h
          refine mj_s_icmp_ne (tgt := 84) d_CF_tree_73 (by decide) q14 (mj_ik (by decide)) (fun q15 => ?_) (fun q15 => ?_)
          · have h := h.1 q15
            exact mj_q_throw d_CF_tree_76 d_CF_tree_79 d_CF_tree_80 d_CF_tree_83 mj_x11 mw_526 mj_at_85_11 h_CF_tree hn h
          · have h := h.2 q15
            refine mj_r_iload d_CF_tree_84 rfl ?_
            exact mj_r_iret d_CF_tree_86 rfl (mj_qt_ret h)
      · have h := h.2 q9
        exact mj_q_throw d_CF_tree_51 d_CF_tree_54 d_CF_tree_55 d_CF_tree_58 mj_x11 mw_526 mj_at_85_11 h_CF_tree hn h
  · have h := h.2 q6
    exact mj_q_throw d_CF_tree_51 d_CF_tree_54 d_CF_tree_55 d_CF_tree_58 mj_x11 mw_526 mj_at_85_11 h_CF_tree hn h
