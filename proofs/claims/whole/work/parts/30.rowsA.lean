/-! ===== verification rows (by program) ===== -/
theorem v_CF_slotOf_0 {g : mj_G} {nn d : Nat} {xs : mj_M} {Post : Option mj_V → mj_w → Prop} (hn : 21 ≤ nn) {w : mj_w} {l0 l1 : Int}
    (h : Post (some (.inl (((l0 + 1) * 4) + l1))) w) :
    mj_J g y_CF_slotOf d 0 0 (0, [some (.inl l0), some (.inl l1)], [], mj_mem nn xs w) (mj_P nn xs Post) := by
  refine mj_r_iload_n d_CF_slotOf_0 rfl ?_
  refine mj_r_iconst (x := 1) d_CF_slotOf_1 rfl ?_
  refine mj_r_iadd d_CF_slotOf_2 ?_
  refine mj_r_iconst (x := 4) d_CF_slotOf_3 rfl ?_
  refine mj_r_imul d_CF_slotOf_4 ?_
  refine mj_r_iload_n d_CF_slotOf_5 rfl ?_
  refine mj_r_iadd d_CF_slotOf_6 ?_
  exact mj_r_iret d_CF_slotOf_7 rfl (mj_q_ret h)
theorem v_CF_isNonterminal_0 {g : mj_G} {nn d : Nat} {xs : mj_M} {Post : Option mj_V → mj_w → Prop} (hn : 21 ≤ nn) {w : mj_w} {l0 : Int}
    (h : mj_i l0 ∧ (l0 < 0 → (Post (some (.inl 0)) w)) ∧ (¬ l0 < 0 → ((l0 < 5 → (Post (some (.inl 1)) w)) ∧ (¬ l0 < 5 → (Post (some (.inl 0)) w))))) :
    mj_J g y_CF_isNonterminal d 0 0 (0, [some (.inl l0)], [], mj_mem nn xs w) (mj_P nn xs Post) := by
  refine mj_r_iload_n d_CF_isNonterminal_0 rfl ?_
  obtain ⟨q1, h⟩ := h
  refine mj_s_if_lt (tgt := 13) d_CF_isNonterminal_1 (by decide) q1 (fun q2 => ?_) (fun q2 => ?_)
  · have h := h.1 q2
    refine mj_r_iconst (x := 0) d_CF_isNonterminal_13 rfl ?_
    exact mj_r_zret d_CF_isNonterminal_14 rfl (by decide) (mj_q_ret h)
  · have h := h.2 q2
    refine mj_r_iload_n d_CF_isNonterminal_4 rfl ?_
    refine mj_r_iconst (x := 5) d_CF_isNonterminal_5 rfl ?_
    refine mj_s_icmp_ge (tgt := 13) d_CF_isNonterminal_6 (by decide) q1 (mj_ik (by decide)) (fun q3 => ?_) (fun q3 => ?_)
    · have h := h.1 q3
      refine mj_r_iconst (x := 1) d_CF_isNonterminal_9 rfl ?_
      refine mj_r_goto (tgt := 14) d_CF_isNonterminal_10 (by decide) ?_
      exact mj_r_zret d_CF_isNonterminal_14 rfl (by decide) (mj_q_ret h)
    · have h := h.2 q3
      refine mj_r_iconst (x := 0) d_CF_isNonterminal_13 rfl ?_
      exact mj_r_zret d_CF_isNonterminal_14 rfl (by decide) (mj_q_ret h)
theorem v_CF_isTerminal_0 {g : mj_G} {nn d : Nat} {xs : mj_M} {Post : Option mj_V → mj_w → Prop} (hn : 21 ≤ nn) {w : mj_w} {l0 : Int}
    (h : mj_i l0 ∧ (l0 < 8 → (Post (some (.inl 0)) w)) ∧ (¬ l0 < 8 → ((11 < l0 → (Post (some (.inl 0)) w)) ∧ (¬ 11 < l0 → (Post (some (.inl 1)) w))))) :
    mj_J g y_CF_isTerminal d 0 0 (0, [some (.inl l0)], [], mj_mem nn xs w) (mj_P nn xs Post) := by
  refine mj_r_iload_n d_CF_isTerminal_0 rfl ?_
  refine mj_r_bipush (x := 8) d_CF_isTerminal_1 (by decide) ?_
  obtain ⟨q1, h⟩ := h
  refine mj_s_icmp_lt (tgt := 16) d_CF_isTerminal_3 (by decide) q1 (mj_ik (by decide)) (fun q2 => ?_) (fun q2 => ?_)
  · have h := h.1 q2
    refine mj_r_iconst (x := 0) d_CF_isTerminal_16 rfl ?_
    exact mj_r_zret d_CF_isTerminal_17 rfl (by decide) (mj_q_ret h)
  · have h := h.2 q2
    refine mj_r_iload_n d_CF_isTerminal_6 rfl ?_
    refine mj_r_bipush (x := 11) d_CF_isTerminal_7 (by decide) ?_
    refine mj_s_icmp_gt (tgt := 16) d_CF_isTerminal_9 (by decide) q1 (mj_ik (by decide)) (fun q3 => ?_) (fun q3 => ?_)
    · have h := h.1 q3
      refine mj_r_iconst (x := 0) d_CF_isTerminal_16 rfl ?_
      exact mj_r_zret d_CF_isTerminal_17 rfl (by decide) (mj_q_ret h)
    · have h := h.2 q3
      refine mj_r_iconst (x := 1) d_CF_isTerminal_12 rfl ?_
      refine mj_r_goto (tgt := 17) d_CF_isTerminal_13 (by decide) ?_
      exact mj_r_zret d_CF_isTerminal_17 rfl (by decide) (mj_q_ret h)
theorem v_CF_terminalBit_0 {g : mj_G} {nn d : Nat} {xs : mj_M} {Post : Option mj_V → mj_w → Prop} (hn : 21 ≤ nn) {w : mj_w} {l0 : Int}
    (h : Post (some (.inl (mj_shl 1 (l0 - 8)))) w) :
    mj_J g y_CF_terminalBit d 0 0 (0, [some (.inl l0)], [], mj_mem nn xs w) (mj_P nn xs Post) := by
  refine mj_r_iconst (x := 1) d_CF_terminalBit_0 rfl ?_
  refine mj_r_iload_n d_CF_terminalBit_1 rfl ?_
  refine mj_r_bipush (x := 8) d_CF_terminalBit_2 (by decide) ?_
  refine mj_r_isub d_CF_terminalBit_4 ?_
  refine mj_r_ishl d_CF_terminalBit_5 ?_
  exact mj_r_iret d_CF_terminalBit_6 rfl (mj_q_ret h)
theorem v_CF_cellOf_0 {g : mj_G} {nn d : Nat} {xs : mj_M} {Post : Option mj_V → mj_w → Prop} (hn : 21 ≤ nn) {w : mj_w} {l0 l1 l2 : Int}
    (h : Post (some (.inl ((((l0 * 13) + l1) * 13) + l2))) w) :
    mj_J g y_CF_cellOf d 0 0 (0, [some (.inl l0), some (.inl l1), some (.inl l2)], [], mj_mem nn xs w) (mj_P nn xs Post) := by
  refine mj_r_iload_n d_CF_cellOf_0 rfl ?_
  refine mj_r_bipush (x := 13) d_CF_cellOf_1 (by decide) ?_
  refine mj_r_imul d_CF_cellOf_3 ?_
  refine mj_r_iload_n d_CF_cellOf_4 rfl ?_
  refine mj_r_iadd d_CF_cellOf_5 ?_
  refine mj_r_bipush (x := 13) d_CF_cellOf_6 (by decide) ?_
  refine mj_r_imul d_CF_cellOf_8 ?_
  refine mj_r_iload_n d_CF_cellOf_9 rfl ?_
  refine mj_r_iadd d_CF_cellOf_10 ?_
  exact mj_r_iret d_CF_cellOf_11 rfl (mj_q_ret h)
theorem v_CF_symbolIn_0 {g : mj_G} {nn d : Nat} {xs : mj_M} {Post : Option mj_V → mj_w → Prop} (hn : 21 ≤ nn) {w : mj_w} {l0 l1 : Int}
    (h : Post (some (.inl (mj_and (mj_ush l0 (4 * l1)) 15))) w) :
    mj_J g y_CF_symbolIn d 0 0 (0, [some (.inl l0), some (.inl l1)], [], mj_mem nn xs w) (mj_P nn xs Post) := by
  refine mj_r_iload_n d_CF_symbolIn_0 rfl ?_
  refine mj_r_iconst (x := 4) d_CF_symbolIn_1 rfl ?_
  refine mj_r_iload_n d_CF_symbolIn_2 rfl ?_
  refine mj_r_imul d_CF_symbolIn_3 ?_
  refine mj_r_iushr d_CF_symbolIn_4 ?_
  refine mj_r_bipush (x := 15) d_CF_symbolIn_5 (by decide) ?_
  refine mj_r_iand d_CF_symbolIn_7 ?_
  exact mj_r_iret d_CF_symbolIn_8 rfl (mj_q_ret h)
theorem v_Gr_leftOf_0 {g : mj_G} {nn d : Nat} {xs : mj_M} {Post : Option mj_V → mj_w → Prop} (hn : 21 ≤ nn) {w : mj_w} {l1 : Int}
    (h : mj_i l1 ∧ (l1 < 0 → (Post (some (.inl ((-1)))) w)) ∧ (¬ l1 < 0 → (mj_i (w 1 0 0) ∧ (l1 < (w 1 0 0) → (0 ≤ l1 ∧ l1 < 10 ∧ Post (some (.inl (w 2 l1 0))) w)) ∧ (¬ l1 < (w 1 0 0) → (Post (some (.inl ((-1)))) w))))) :
    mj_J g y_Gr_leftOf d 0 0 (0, [some (mj_R 1), some (.inl l1)], [], mj_mem nn xs w) (mj_P nn xs Post) := by
  refine mj_r_iload_n d_Gr_leftOf_0 rfl ?_
  obtain ⟨q1, h⟩ := h
  refine mj_s_if_lt (tgt := 21) d_Gr_leftOf_1 (by decide) q1 (fun q2 => ?_) (fun q2 => ?_)
  · have h := h.1 q2
    refine mj_r_iconst (x := (-1)) d_Gr_leftOf_21 rfl ?_
    exact mj_r_iret d_Gr_leftOf_22 rfl (mj_q_ret h)
  · have h := h.2 q2
    refine mj_r_iload_n d_Gr_leftOf_4 rfl ?_
    refine mj_r_aload_n d_Gr_leftOf_5 rfl ?_
    refine mj_q_geti d_Gr_leftOf_6 f_1_0 (.inl mw_87) rfl hn ?_
    obtain ⟨q3, h⟩ := h
    refine mj_s_icmp_ge (tgt := 21) d_Gr_leftOf_9 (by decide) q1 q3 (fun q4 => ?_) (fun q4 => ?_)
    · have h := h.1 q4
      refine mj_r_aload_n d_Gr_leftOf_12 rfl ?_
      refine mj_q_getr d_Gr_leftOf_13 f_1_1 (.inl mw_91) rfl hn ?_
      refine mj_r_iload_n d_Gr_leftOf_16 rfl ?_
      obtain ⟨q5, h⟩ := h
      obtain ⟨q6, h⟩ := h
      refine mj_q_iald d_Gr_leftOf_17 rfl rfl hn rfl q5 q6 ?_
      refine mj_r_goto (tgt := 22) d_Gr_leftOf_18 (by decide) ?_
      exact mj_r_iret d_Gr_leftOf_22 rfl (mj_q_ret h)
    · have h := h.2 q4
      refine mj_r_iconst (x := (-1)) d_Gr_leftOf_21 rfl ?_
      exact mj_r_iret d_Gr_leftOf_22 rfl (mj_q_ret h)
theorem v_Ch_holds_0 {g : mj_G} {nn d : Nat} {xs : mj_M} {Post : Option mj_V → mj_w → Prop} (hn : 21 ≤ nn) {w : mj_w} {l1 l2 l3 : Int}
    (h : 0 ≤ l1 ∧ l1 < 13 ∧ 0 ≤ l2 ∧ l2 < 44 ∧ mj_i (mj_and (mj_ush (w 7 l1 l2) l3) 1) ∧ ((mj_and (mj_ush (w 7 l1 l2) l3) 1) = 0 → (Post (some (.inl 0)) w)) ∧ (¬ (mj_and (mj_ush (w 7 l1 l2) l3) 1) = 0 → (Post (some (.inl 1)) w))) :
    mj_J g y_Ch_holds d 0 0 (0, [some (mj_R 6), some (.inl l1), some (.inl l2), some (.inl l3)], [], mj_mem nn xs w) (mj_P nn xs Post) := by
  refine mj_r_aload_n d_Ch_holds_0 rfl ?_
  refine mj_q_getr d_Ch_holds_1 f_6_2 (.inl mw_128) rfl hn ?_
  refine mj_r_iload_n d_Ch_holds_4 rfl ?_
  obtain ⟨q1, h⟩ := h
  obtain ⟨q2, h⟩ := h
  refine mj_q_aald d_Ch_holds_5 rfl rfl hn rfl q1 q2 ?_
  refine mj_r_iload_n d_Ch_holds_6 rfl ?_
  obtain ⟨q3, h⟩ := h
  obtain ⟨q4, h⟩ := h
  refine mj_q_gald d_Ch_holds_7 rfl rfl hn rfl q1 q2 q3 q4 ?_
  refine mj_r_iload_n d_Ch_holds_8 rfl ?_
  refine mj_r_iushr d_Ch_holds_9 ?_
  refine mj_r_iconst (x := 1) d_Ch_holds_10 rfl ?_
  refine mj_r_iand d_Ch_holds_11 ?_
  obtain ⟨q5, h⟩ := h
  refine mj_s_if_eq (tgt := 19) d_Ch_holds_12 (by decide) q5 (fun q6 => ?_) (fun q6 => ?_)
  · have h := h.1 q6
    refine mj_r_iconst (x := 0) d_Ch_holds_19 rfl ?_
    exact mj_r_zret d_Ch_holds_20 rfl (by decide) (mj_q_ret h)
  · have h := h.2 q6
    refine mj_r_iconst (x := 1) d_Ch_holds_15 rfl ?_
    refine mj_r_goto (tgt := 20) d_Ch_holds_16 (by decide) ?_
    exact mj_r_zret d_Ch_holds_20 rfl (by decide) (mj_q_ret h)
theorem v_Ch_put_0 {g : mj_G} {nn d : Nat} {xs : mj_M} {Post : Option mj_V → mj_w → Prop} (hn : 21 ≤ nn) {w : mj_w} {l1 l2 l3 : Int}
    (h : mj_J g y_Ch_holds d 0 0 (0, [some (mj_R 6), some (.inl l1), some (.inl l2), some (.inl l3)], [], mj_mem nn xs w) (mj_P nn xs (fun v w1 => ∃ x2 : Int, v = some (.inl x2) ∧ (mj_i x2 ∧ (x2 = 0 → (mj_i (w1 6 6 0) ∧ ((w1 6 6 0) < 572 → (0 ≤ l1 ∧ l1 < 13 ∧ 0 ≤ l2 ∧ l2 < 44 ∧ (∀ w11, w11 = mj_wu w1 7 l1 l2 (mj_ior (w1 7 l1 l2) (mj_shl 1 l3)) → ∀ w13, w13 = mj_wu w11 8 l1 0 ((w11 8 l1 0) + 1) → 0 ≤ (w13 6 6 0) ∧ (w13 6 6 0) < 572 ∧ (∀ w17, w17 = mj_wu w13 10 (w13 6 6 0) 0 ((l2 * 13) + l3) → ∀ w19, w19 = mj_wu w17 6 6 0 ((w17 6 6 0) + 1) → Post none w19)))) ∧ (¬ (w1 6 6 0) < 572 → (Post none w1)))) ∧ (¬ x2 = 0 → (Post none w1)))))) :
    mj_J g y_Ch_put (d + 1) 0 0 (0, [some (mj_R 6), some (.inl l1), some (.inl l2), some (.inl l3)], [], mj_mem nn xs w) (mj_P nn xs Post) := by
  refine mj_r_aload_n d_Ch_put_0 rfl ?_
  refine mj_r_iload_n d_Ch_put_1 rfl ?_
  refine mj_r_iload_n d_Ch_put_2 rfl ?_
  refine mj_r_iload_n d_Ch_put_3 rfl ?_
  refine mj_q_V3i d_Ch_put_4 h_Ch_holds (.inl mw_246) mw_247 mw_248 rfl rfl rfl hn rfl rfl (mj_wk h (fun v w1 h => ?_))
  obtain ⟨x2, rfl, h⟩ := h
  refine ⟨x2, rfl, ?_⟩
  obtain ⟨q3, h⟩ := h
  refine mj_s_if_ne (tgt := 71) d_Ch_put_7 (by decide) q3 (fun q4 => ?_) (fun q4 => ?_)
  · have h := h.1 q4
    refine mj_r_aload_n d_Ch_put_10 rfl ?_
    refine mj_q_geti d_Ch_put_11 f_6_6 (.inl mw_133) rfl hn ?_
    refine mj_r_aload_n d_Ch_put_14 rfl ?_
    refine mj_q_getr d_Ch_put_15 f_6_5 (.inl mw_132) rfl hn ?_
    refine mj_q_alen d_Ch_put_18 rfl rfl hn rfl ?_
    obtain ⟨q5, h⟩ := h
    refine mj_s_icmp_ge (tgt := 71) d_Ch_put_19 (by decide) q5 (mj_ik (by decide)) (fun q6 => ?_) (fun q6 => ?_)
    · have h := h.1 q6
      refine mj_r_aload_n d_Ch_put_22 rfl ?_
      refine mj_q_getr d_Ch_put_23 f_6_2 (.inl mw_128) rfl hn ?_
      refine mj_r_iload_n d_Ch_put_26 rfl ?_
      obtain ⟨q7, h⟩ := h
      obtain ⟨q8, h⟩ := h
      refine mj_q_aald d_Ch_put_27 rfl rfl hn rfl q7 q8 ?_
      refine mj_r_iload_n d_Ch_put_28 rfl ?_
      refine mj_r_dup2 d_Ch_put_29 rfl rfl ?_
      obtain ⟨q9, h⟩ := h
      obtain ⟨q10, h⟩ := h
      refine mj_q_gald d_Ch_put_30 rfl rfl hn rfl q7 q8 q9 q10 ?_
      refine mj_r_iconst (x := 1) d_Ch_put_31 rfl ?_
      refine mj_r_iload_n d_Ch_put_32 rfl ?_
      refine mj_r_ishl d_Ch_put_33 ?_
      refine mj_r_ior d_Ch_put_34 ?_
      refine mj_q_gast d_Ch_put_35 rfl rfl hn rfl q7 q8 q9 q10 (fun w11 e12 => ?_)
      have h := h w11 e12
      refine mj_r_aload_n d_Ch_put_36 rfl ?_
      refine mj_q_getr d_Ch_put_37 f_6_3 (.inl mw_129) rfl hn ?_
      refine mj_r_iload_n d_Ch_put_40 rfl ?_
      refine mj_r_dup2 d_Ch_put_41 rfl rfl ?_
      refine mj_q_iald d_Ch_put_42 rfl rfl hn rfl q7 q8 ?_
      refine mj_r_iconst (x := 1) d_Ch_put_43 rfl ?_
      refine mj_r_iadd d_Ch_put_44 ?_
      refine mj_q_iast d_Ch_put_45 rfl rfl hn rfl q7 q8 (fun w13 e14 => ?_)
      have h := h w13 e14
      refine mj_r_aload_n d_Ch_put_46 rfl ?_
      refine mj_q_getr d_Ch_put_47 f_6_5 (.inl mw_132) rfl hn ?_
      refine mj_r_aload_n d_Ch_put_50 rfl ?_
      refine mj_q_geti d_Ch_put_51 f_6_6 (.inl mw_133) rfl hn ?_
      refine mj_r_iload_n d_Ch_put_54 rfl ?_
      refine mj_r_bipush (x := 13) d_Ch_put_55 (by decide) ?_
      refine mj_r_imul d_Ch_put_57 ?_
      refine mj_r_iload_n d_Ch_put_58 rfl ?_
      refine mj_r_iadd d_Ch_put_59 ?_
      obtain ⟨q15, h⟩ := h
      obtain ⟨q16, h⟩ := h
      refine mj_q_iast d_Ch_put_60 rfl rfl hn rfl q15 q16 (fun w17 e18 => ?_)
      have h := h w17 e18
      refine mj_r_aload_n d_Ch_put_61 rfl ?_
      refine mj_r_dup d_Ch_put_62 rfl ?_
      refine mj_q_geti d_Ch_put_63 f_6_6 (.inl mw_133) rfl hn ?_
      refine mj_r_iconst (x := 1) d_Ch_put_66 rfl ?_
      refine mj_r_iadd d_Ch_put_67 ?_
      refine mj_q_put d_Ch_put_68 f_6_6 (mj_fit_I _) (.inl mw_133) rfl hn (fun w19 e20 => ?_)
      have h := h w19 e20
      exact mj_r_vret d_Ch_put_71 rfl (mj_q_ret h)
    · have h := h.2 q6
      exact mj_r_vret d_Ch_put_71 rfl (mj_q_ret h)
  · have h := h.2 q4
    exact mj_r_vret d_Ch_put_71 rfl (mj_q_ret h)
theorem v_Ch_empty_0 {g : mj_G} {nn d : Nat} {xs : mj_M} {Post : Option mj_V → mj_w → Prop} (hn : 21 ≤ nn) {w : mj_w} {l1 : Int}
    (h : mj_J g y_Ch_empty d 0 0 (2, [some (mj_R 6), some (.inl l1), some (.inl 0)], [], mj_mem nn xs w) (mj_P nn xs Post)) :
    mj_J g y_Ch_empty d 0 0 (0, [some (mj_R 6), some (.inl l1), none], [], mj_mem nn xs w) (mj_P nn xs Post) := by
  refine mj_r_iconst (x := 0) d_Ch_empty_0 rfl ?_
  refine mj_e_istore_n (lv' := [some (mj_R 6), some (.inl l1), some (.inl 0)]) d_Ch_empty_1 rfl rfl ?_
  exact h
theorem v_Ch_empty_2 {g : mj_G} {nn d : Nat} {xs : mj_M} {Post : Option mj_V → mj_w → Prop} (hn : 21 ≤ nn) {w : mj_w} {l1 l2 : Int}
    (h : mj_i l2 ∧ (l2 < 44 → (0 ≤ l1 ∧ l1 < 13 ∧ 0 ≤ l2 ∧ l2 < 44 ∧ (∀ w7, w7 = mj_wu w 7 l1 l2 0 → mj_J g y_Ch_empty d 0 0 (2, [some (mj_R 6), some (.inl l1), some (.inl (l2 + 1))], [], mj_mem nn xs w7) (mj_P nn xs Post)))) ∧ (¬ l2 < 44 → (0 ≤ l1 ∧ l1 < 13 ∧ (∀ w11, w11 = mj_wu w 8 l1 0 0 → ∀ w13, w13 = mj_wu w11 6 6 0 0 → ∀ w15, w15 = mj_wu w13 6 7 0 0 → Post none w15)))) :
    mj_J g y_Ch_empty d 0 0 (2, [some (mj_R 6), some (.inl l1), some (.inl l2)], [], mj_mem nn xs w) (mj_P nn xs Post) := by
  refine mj_r_iload_n d_Ch_empty_2 rfl ?_
  refine mj_r_bipush (x := 44) d_Ch_empty_3 (by decide) ?_
  obtain ⟨q1, h⟩ := h
  refine mj_s_icmp_ge (tgt := 23) d_Ch_empty_5 (by decide) q1 (mj_ik (by decide)) (fun q2 => ?_) (fun q2 => ?_)
  · have h := h.1 q2
    refine mj_r_aload_n d_Ch_empty_8 rfl ?_
    refine mj_q_getr d_Ch_empty_9 f_6_2 (.inl mw_128) rfl hn ?_
    refine mj_r_iload_n d_Ch_empty_12 rfl ?_
    obtain ⟨q3, h⟩ := h
    obtain ⟨q4, h⟩ := h
    refine mj_q_aald d_Ch_empty_13 rfl rfl hn rfl q3 q4 ?_
    refine mj_r_iload_n d_Ch_empty_14 rfl ?_
    refine mj_r_iconst (x := 0) d_Ch_empty_15 rfl ?_
    obtain ⟨q5, h⟩ := h
    obtain ⟨q6, h⟩ := h
    refine mj_q_gast d_Ch_empty_16 rfl rfl hn rfl q3 q4 q5 q6 (fun w7 e8 => ?_)
    have h := h w7 e8
    refine mj_e_iinc (lv' := [some (mj_R 6), some (.inl l1), some (.inl (l2 + 1))]) d_Ch_empty_17 rfl rfl ?_
    refine mj_r_goto (tgt := 2) d_Ch_empty_20 (by decide) ?_
    exact h
  · have h := h.2 q2
    refine mj_r_aload_n d_Ch_empty_23 rfl ?_
    refine mj_q_getr d_Ch_empty_24 f_6_3 (.inl mw_129) rfl hn ?_
    refine mj_r_iload_n d_Ch_empty_27 rfl ?_
    refine mj_r_iconst (x := 0) d_Ch_empty_28 rfl ?_
    obtain ⟨q9, h⟩ := h
    obtain ⟨q10, h⟩ := h
    refine mj_q_iast d_Ch_empty_29 rfl rfl hn rfl q9 q10 (fun w11 e12 => ?_)
    have h := h w11 e12
    refine mj_r_aload_n d_Ch_empty_30 rfl ?_
    refine mj_r_iconst (x := 0) d_Ch_empty_31 rfl ?_
    refine mj_q_put d_Ch_empty_32 f_6_6 (mj_fit_I _) (.inl mw_133) rfl hn (fun w13 e14 => ?_)
    have h := h w13 e14
    refine mj_r_aload_n d_Ch_empty_35 rfl ?_
    refine mj_r_iconst (x := 0) d_Ch_empty_36 rfl ?_
    refine mj_q_put d_Ch_empty_37 f_6_7 (mj_fit_I _) (.inl mw_134) rfl hn (fun w15 e16 => ?_)
    have h := h w15 e16
    exact mj_r_vret d_Ch_empty_40 rfl (mj_q_ret h)
theorem v_Ch_leftSide_0 {g : mj_G} {nn d : Nat} {xs : mj_M} {Post : Option mj_V → mj_w → Prop} (hn : 21 ≤ nn) {w : mj_w} {l1 : Int}
    (h : mj_i l1 ∧ 0 ≤ l1 ∧ mj_J g y_Gr_leftOf d 0 0 (0, [some (mj_R 1), some (.inl ((l1 / 4) - 1))], [], mj_mem nn xs w) (mj_P nn xs (fun v w3 => ∃ x4 : Int, v = some (.inl x4) ∧ (Post (some (.inl x4)) w3)))) :
    mj_J g y_Ch_leftSide (d + 1) 0 0 (0, [some (mj_R 6), some (.inl l1)], [], mj_mem nn xs w) (mj_P nn xs Post) := by
  refine mj_r_aload_n d_Ch_leftSide_0 rfl ?_
  refine mj_q_getr d_Ch_leftSide_1 f_6_0 (.inl mw_126) rfl hn ?_
  refine mj_r_iload_n d_Ch_leftSide_4 rfl ?_
  refine mj_r_iconst (x := 4) d_Ch_leftSide_5 rfl ?_
  obtain ⟨q1, h⟩ := h
  obtain ⟨q2, h⟩ := h
  refine mj_r_idiv d_Ch_leftSide_6 q1 (mj_ik (by decide)) q2 (by decide) ?_
  refine mj_r_iconst (x := 1) d_Ch_leftSide_7 rfl ?_
  refine mj_r_isub d_Ch_leftSide_8 ?_
  refine mj_q_V1i d_Ch_leftSide_9 h_Gr_leftOf (.inl mw_258) mw_259 mw_260 rfl rfl rfl hn rfl rfl (mj_wk h (fun v w3 h => ?_))
  obtain ⟨x4, rfl, h⟩ := h
  refine ⟨x4, rfl, ?_⟩
  exact mj_r_iret d_Ch_leftSide_12 rfl (mj_q_ret h)
theorem v_Ch_predict_0 {g : mj_G} {nn d : Nat} {xs : mj_M} {Post : Option mj_V → mj_w → Prop} (hn : 21 ≤ nn) {w : mj_w} {l1 l2 : Int}
    (h : mj_J g y_Ch_predict (d + 1) 0 0 (2, [some (mj_R 6), some (.inl l1), some (.inl l2), some (.inl 0)], [], mj_mem nn xs w) (mj_P nn xs Post)) :
    mj_J g y_Ch_predict (d + 1) 0 0 (0, [some (mj_R 6), some (.inl l1), some (.inl l2), none], [], mj_mem nn xs w) (mj_P nn xs Post) := by
  refine mj_r_iconst (x := 0) d_Ch_predict_0 rfl ?_
  refine mj_e_istore_n (lv' := [some (mj_R 6), some (.inl l1), some (.inl l2), some (.inl 0)]) d_Ch_predict_1 rfl rfl ?_
  exact h
theorem v_Ch_predict_2 {g : mj_G} {nn d : Nat} {xs : mj_M} {Post : Option mj_V → mj_w → Prop} (hn : 21 ≤ nn) {w : mj_w} {l1 l2 l3 : Int}
    (h : mj_i l3 ∧ mj_i (w 1 0 0) ∧ (l3 < (w 1 0 0) → (mj_J g y_Gr_leftOf d 0 0 (0, [some (mj_R 1), some (.inl l3)], [], mj_mem nn xs w) (mj_P nn xs (fun v w4 => ∃ x5 : Int, v = some (.inl x5) ∧ (mj_i x5 ∧ mj_i l2 ∧ (x5 = l2 → (mj_J g y_CF_slotOf d 0 0 (0, [some (.inl l3), some (.inl 0)], [], mj_mem nn xs w4) (mj_P nn xs (fun v w9 => ∃ x10 : Int, v = some (.inl x10) ∧ (mj_J g y_Ch_put d 0 0 (0, [some (mj_R 6), some (.inl l1), some (.inl x10), some (.inl l1)], [], mj_mem nn xs w9) (mj_P nn xs (fun v w11 => v = none ∧ (mj_J g y_Ch_predict (d + 1) 0 0 (2, [some (mj_R 6), some (.inl l1), some (.inl l2), some (.inl (l3 + 1))], [], mj_mem nn xs w11) (mj_P nn xs Post))))))))) ∧ (¬ x5 = l2 → (mj_J g y_Ch_predict (d + 1) 0 0 (2, [some (mj_R 6), some (.inl l1), some (.inl l2), some (.inl (l3 + 1))], [], mj_mem nn xs w4) (mj_P nn xs Post)))))))) ∧ (¬ l3 < (w 1 0 0) → (Post none w))) :
    mj_J g y_Ch_predict (d + 1) 0 0 (2, [some (mj_R 6), some (.inl l1), some (.inl l2), some (.inl l3)], [], mj_mem nn xs w) (mj_P nn xs Post) := by
  refine mj_r_iload_n d_Ch_predict_2 rfl ?_
  refine mj_r_aload_n d_Ch_predict_3 rfl ?_
  refine mj_q_getr d_Ch_predict_4 f_6_0 (.inl mw_126) rfl hn ?_
  refine mj_q_geti d_Ch_predict_7 f_1_0 (.inr mw_90) rfl hn ?_
  obtain ⟨q1, h⟩ := h
  obtain ⟨q2, h⟩ := h
  refine mj_s_icmp_ge (tgt := 42) d_Ch_predict_10 (by decide) q1 q2 (fun q3 => ?_) (fun q3 => ?_)
  · have h := h.1 q3
    refine mj_r_aload_n d_Ch_predict_13 rfl ?_
    refine mj_q_getr d_Ch_predict_14 f_6_0 (.inl mw_126) rfl hn ?_
    refine mj_r_iload_n d_Ch_predict_17 rfl ?_
    refine mj_q_V1i d_Ch_predict_18 h_Gr_leftOf (.inl mw_258) mw_259 mw_260 rfl rfl rfl hn rfl rfl (mj_wk h (fun v w4 h => ?_))
    obtain ⟨x5, rfl, h⟩ := h
    refine ⟨x5, rfl, ?_⟩
    refine mj_r_iload_n d_Ch_predict_21 rfl ?_
    obtain ⟨q6, h⟩ := h
    obtain ⟨q7, h⟩ := h
    refine mj_s_icmp_ne (tgt := 36) d_Ch_predict_22 (by decide) q6 q7 (fun q8 => ?_) (fun q8 => ?_)
    · have h := h.1 q8
      refine mj_r_aload_n d_Ch_predict_25 rfl ?_
      refine mj_r_iload_n d_Ch_predict_26 rfl ?_
      refine mj_r_iload_n d_Ch_predict_27 rfl ?_
      refine mj_r_iconst (x := 0) d_Ch_predict_28 rfl ?_
      refine mj_q_S2i d_Ch_predict_29 h_CF_slotOf (.inr mw_241) mw_85 rfl rfl (mj_wk h (fun v w9 h => ?_))
      obtain ⟨x10, rfl, h⟩ := h
      refine ⟨x10, rfl, ?_⟩
      refine mj_r_iload_n d_Ch_predict_32 rfl ?_
      refine mj_q_V3v d_Ch_predict_33 h_Ch_put (.inl mw_242) mw_244 mw_1 rfl rfl rfl hn rfl rfl (mj_wk h (fun v w11 h => ?_))
      obtain ⟨rfl, h⟩ := h
      refine ⟨rfl, ?_⟩
      refine mj_e_iinc (lv' := [some (mj_R 6), some (.inl l1), some (.inl l2), some (.inl (l3 + 1))]) d_Ch_predict_36 rfl rfl ?_
      refine mj_r_goto (tgt := 2) d_Ch_predict_39 (by decide) ?_
      exact h
    · have h := h.2 q8
      refine mj_e_iinc (lv' := [some (mj_R 6), some (.inl l1), some (.inl l2), some (.inl (l3 + 1))]) d_Ch_predict_36 rfl rfl ?_
      refine mj_r_goto (tgt := 2) d_Ch_predict_39 (by decide) ?_
      exact h
  · have h := h.2 q3
    exact mj_r_vret d_Ch_predict_42 rfl (mj_q_ret h)
theorem v_Ch_advance_0 {g : mj_G} {nn d : Nat} {xs : mj_M} {Post : Option mj_V → mj_w → Prop} (hn : 21 ≤ nn) {w : mj_w} {l1 l2 l3 : Int}
    (h : mj_J g y_Ch_advance (d + 1) 0 0 (3, [some (mj_R 6), some (.inl l1), some (.inl l2), some (.inl l3), some (.inl 0), none], [], mj_mem nn xs w) (mj_P nn xs Post)) :
    mj_J g y_Ch_advance (d + 1) 0 0 (0, [some (mj_R 6), some (.inl l1), some (.inl l2), some (.inl l3), none, none], [], mj_mem nn xs w) (mj_P nn xs Post) := by
  refine mj_r_iconst (x := 0) d_Ch_advance_0 rfl ?_
  refine mj_e_istore (lv' := [some (mj_R 6), some (.inl l1), some (.inl l2), some (.inl l3), some (.inl 0), none]) d_Ch_advance_1 rfl rfl ?_
  exact h
theorem v_Ch_advance_3 {g : mj_G} {nn d : Nat} {xs : mj_M} {Post : Option mj_V → mj_w → Prop} (hn : 21 ≤ nn) {w : mj_w} {l1 l2 l3 l4 : Int}
    (h : mj_i l4 ∧ (l4 < 44 → (0 ≤ l1 ∧ l1 < 13 ∧ 0 ≤ l4 ∧ l4 < 44 ∧ mj_i (w 7 l1 l4) ∧ ((w 7 l1 l4) = 0 → (mj_J g y_Ch_advance (d + 1) 0 0 (3, [some (mj_R 6), some (.inl l1), some (.inl l2), some (.inl l3), some (.inl (l4 + 1)), none], [], mj_mem nn xs w) (mj_P nn xs Post))) ∧ (¬ (w 7 l1 l4) = 0 → (mj_i (w 3 l4 0) ∧ mj_i l2 ∧ ((w 3 l4 0) = l2 → (mj_J g y_Ch_advance (d + 1) 0 0 (39, [some (mj_R 6), some (.inl l1), some (.inl l2), some (.inl l3), some (.inl l4), some (.inl 0)], [], mj_mem nn xs w) (mj_P nn xs Post))) ∧ (¬ (w 3 l4 0) = l2 → (mj_J g y_Ch_advance (d + 1) 0 0 (3, [some (mj_R 6), some (.inl l1), some (.inl l2), some (.inl l3), some (.inl (l4 + 1)), none], [], mj_mem nn xs w) (mj_P nn xs Post))))))) ∧ (¬ l4 < 44 → (Post none w))) :
    mj_J g y_Ch_advance (d + 1) 0 0 (3, [some (mj_R 6), some (.inl l1), some (.inl l2), some (.inl l3), some (.inl l4), none], [], mj_mem nn xs w) (mj_P nn xs Post) := by
  refine mj_r_iload d_Ch_advance_3 rfl ?_
  refine mj_r_bipush (x := 44) d_Ch_advance_5 (by decide) ?_
  obtain ⟨q1, h⟩ := h
  refine mj_s_icmp_ge (tgt := 80) d_Ch_advance_7 (by decide) q1 (mj_ik (by decide)) (fun q2 => ?_) (fun q2 => ?_)
  · have h := h.1 q2
    refine mj_r_aload_n d_Ch_advance_10 rfl ?_
    refine mj_q_getr d_Ch_advance_11 f_6_2 (.inl mw_128) rfl hn ?_
    refine mj_r_iload_n d_Ch_advance_14 rfl ?_
    obtain ⟨q3, h⟩ := h
    obtain ⟨q4, h⟩ := h
    refine mj_q_aald d_Ch_advance_15 rfl rfl hn rfl q3 q4 ?_
    refine mj_r_iload d_Ch_advance_16 rfl ?_
    obtain ⟨q5, h⟩ := h
    obtain ⟨q6, h⟩ := h
    refine mj_q_gald d_Ch_advance_18 rfl rfl hn rfl q3 q4 q5 q6 ?_
    obtain ⟨q7, h⟩ := h
    refine mj_s_if_eq (tgt := 74) d_Ch_advance_19 (by decide) q7 (fun q8 => ?_) (fun q8 => ?_)
    · have h := h.1 q8
      refine mj_e_iinc (lv' := [some (mj_R 6), some (.inl l1), some (.inl l2), some (.inl l3), some (.inl (l4 + 1)), none]) d_Ch_advance_74 rfl rfl ?_
      refine mj_r_goto (tgt := 3) d_Ch_advance_77 (by decide) ?_
      exact h
    · have h := h.2 q8
      refine mj_r_aload_n d_Ch_advance_22 rfl ?_
      refine mj_q_getr d_Ch_advance_23 f_6_0 (.inl mw_126) rfl hn ?_
      refine mj_q_getr d_Ch_advance_26 f_1_2 (.inr mw_94) rfl hn ?_
      refine mj_r_iload d_Ch_advance_29 rfl ?_
      refine mj_q_iald d_Ch_advance_31 rfl rfl hn rfl q5 q6 ?_
      refine mj_r_iload_n d_Ch_advance_32 rfl ?_
      obtain ⟨q9, h⟩ := h
      obtain ⟨q10, h⟩ := h
      refine mj_s_icmp_ne (tgt := 74) d_Ch_advance_33 (by decide) q9 q10 (fun q11 => ?_) (fun q11 => ?_)
      · have h := h.1 q11
        refine mj_r_iconst (x := 0) d_Ch_advance_36 rfl ?_
        refine mj_e_istore (lv' := [some (mj_R 6), some (.inl l1), some (.inl l2), some (.inl l3), some (.inl l4), some (.inl 0)]) d_Ch_advance_37 rfl rfl ?_
        exact h
      · have h := h.2 q11
        refine mj_e_iinc (lv' := [some (mj_R 6), some (.inl l1), some (.inl l2), some (.inl l3), some (.inl (l4 + 1)), none]) d_Ch_advance_74 rfl rfl ?_
        refine mj_r_goto (tgt := 3) d_Ch_advance_77 (by decide) ?_
        exact h
  · have h := h.2 q2
    exact mj_r_vret d_Ch_advance_80 rfl (mj_q_ret h)
theorem v_Ch_advance_39 {g : mj_G} {nn d : Nat} {xs : mj_M} {Post : Option mj_V → mj_w → Prop} (hn : 21 ≤ nn) {w : mj_w} {l1 l2 l3 l4 l5 : Int}
    (h : mj_i l5 ∧ mj_i l1 ∧ (l1 < l5 → (mj_J g y_Ch_advance (d + 1) 0 0 (3, [some (mj_R 6), some (.inl l1), some (.inl l2), some (.inl l3), some (.inl (l4 + 1)), none], [], mj_mem nn xs w) (mj_P nn xs Post))) ∧ (¬ l1 < l5 → (mj_J g y_Ch_holds d 0 0 (0, [some (mj_R 6), some (.inl l1), some (.inl l4), some (.inl l5)], [], mj_mem nn xs w) (mj_P nn xs (fun v w4 => ∃ x5 : Int, v = some (.inl x5) ∧ (mj_i x5 ∧ (x5 = 0 → (mj_J g y_Ch_advance (d + 1) 0 0 (39, [some (mj_R 6), some (.inl l1), some (.inl l2), some (.inl l3), some (.inl l4), some (.inl (l5 + 1))], [], mj_mem nn xs w4) (mj_P nn xs Post))) ∧ (¬ x5 = 0 → (mj_J g y_Ch_put d 0 0 (0, [some (mj_R 6), some (.inl l3), some (.inl (l4 + 1)), some (.inl l5)], [], mj_mem nn xs w4) (mj_P nn xs (fun v w8 => v = none ∧ (mj_J g y_Ch_advance (d + 1) 0 0 (39, [some (mj_R 6), some (.inl l1), some (.inl l2), some (.inl l3), some (.inl l4), some (.inl (l5 + 1))], [], mj_mem nn xs w8) (mj_P nn xs Post)))))))))))) :
    mj_J g y_Ch_advance (d + 1) 0 0 (39, [some (mj_R 6), some (.inl l1), some (.inl l2), some (.inl l3), some (.inl l4), some (.inl l5)], [], mj_mem nn xs w) (mj_P nn xs Post) := by
  refine mj_r_iload d_Ch_advance_39 rfl ?_
  refine mj_r_iload_n d_Ch_advance_41 rfl ?_
  obtain ⟨q1, h⟩ := h
  obtain ⟨q2, h⟩ := h
  refine mj_s_icmp_gt (tgt := 74) d_Ch_advance_42 (by decide) q1 q2 (fun q3 => ?_) (fun q3 => ?_)
  · have h := h.1 q3
    refine mj_e_iinc (lv' := [some (mj_R 6), some (.inl l1), some (.inl l2), some (.inl l3), some (.inl (l4 + 1)), some (.inl l5)]) d_Ch_advance_74 rfl rfl ?_
    refine mj_r_goto (tgt := 3) d_Ch_advance_77 (by decide) ?_
    refine mj_r_sub (lv' := [some (mj_R 6), some (.inl l1), some (.inl l2), some (.inl l3), some (.inl (l4 + 1)), none]) ⟨.inr rfl, .inr rfl, .inr rfl, .inr rfl, .inr rfl, .inl rfl, trivial⟩ ?_
    exact h
  · have h := h.2 q3
    refine mj_r_aload_n d_Ch_advance_45 rfl ?_
    refine mj_r_iload_n d_Ch_advance_46 rfl ?_
    refine mj_r_iload d_Ch_advance_47 rfl ?_
    refine mj_r_iload d_Ch_advance_49 rfl ?_
    refine mj_q_V3i d_Ch_advance_51 h_Ch_holds (.inl mw_246) mw_247 mw_248 rfl rfl rfl hn rfl rfl (mj_wk h (fun v w4 h => ?_))
    obtain ⟨x5, rfl, h⟩ := h
    refine ⟨x5, rfl, ?_⟩
    obtain ⟨q6, h⟩ := h
    refine mj_s_if_eq (tgt := 68) d_Ch_advance_54 (by decide) q6 (fun q7 => ?_) (fun q7 => ?_)
    · have h := h.1 q7
      refine mj_e_iinc (lv' := [some (mj_R 6), some (.inl l1), some (.inl l2), some (.inl l3), some (.inl l4), some (.inl (l5 + 1))]) d_Ch_advance_68 rfl rfl ?_
      refine mj_r_goto (tgt := 39) d_Ch_advance_71 (by decide) ?_
      exact h
    · have h := h.2 q7
      refine mj_r_aload_n d_Ch_advance_57 rfl ?_
      refine mj_r_iload_n d_Ch_advance_58 rfl ?_
      refine mj_r_iload d_Ch_advance_59 rfl ?_
      refine mj_r_iconst (x := 1) d_Ch_advance_61 rfl ?_
      refine mj_r_iadd d_Ch_advance_62 ?_
      refine mj_r_iload d_Ch_advance_63 rfl ?_
      refine mj_q_V3v d_Ch_advance_65 h_Ch_put (.inl mw_242) mw_244 mw_1 rfl rfl rfl hn rfl rfl (mj_wk h (fun v w8 h => ?_))
      obtain ⟨rfl, h⟩ := h
      refine ⟨rfl, ?_⟩
      refine mj_e_iinc (lv' := [some (mj_R 6), some (.inl l1), some (.inl l2), some (.inl l3), some (.inl l4), some (.inl (l5 + 1))]) d_Ch_advance_68 rfl rfl ?_
      refine mj_r_goto (tgt := 39) d_Ch_advance_71 (by decide) ?_
      exact h
theorem v_Ch_complete_0 {g : mj_G} {nn d : Nat} {xs : mj_M} {Post : Option mj_V → mj_w → Prop} (hn : 21 ≤ nn) {w : mj_w} {l1 l2 l3 : Int}
    (h : mj_i l2 ∧ (l2 = (-1) → (Post none w)) ∧ (¬ l2 = (-1) → (mj_i l3 ∧ mj_i l1 ∧ (l3 = l1 → (∀ w6, w6 = mj_wu w 6 7 0 (mj_ior (w 6 7 0) (mj_shl 1 l2)) → (l3 < l1 → (0 ≤ l3 ∧ l3 < 13 ∧ 0 ≤ l2 ∧ l2 < 5 ∧ mj_i (w6 9 l3 l2) ∧ ((w6 9 l3 l2) = (-1) → (mj_J g y_Ch_advance d 0 0 (0, [some (mj_R 6), some (.inl l3), some (.inl l2), some (.inl l1), none, none], [], mj_mem nn xs w6) (mj_P nn xs (fun v w15 => v = none ∧ (Post none w15))))) ∧ (¬ (w6 9 l3 l2) = (-1) → (0 ≤ (w6 9 l3 l2) ∧ mj_J g y_Ch_put d 0 0 (0, [some (mj_R 6), some (.inl l1), some (.inl ((w6 9 l3 l2) / 13)), some (.inl ((w6 9 l3 l2) % 13))], [], mj_mem nn xs w6) (mj_P nn xs (fun v w18 => v = none ∧ (Post none w18))))))) ∧ (¬ l3 < l1 → (mj_J g y_Ch_advance d 0 0 (0, [some (mj_R 6), some (.inl l3), some (.inl l2), some (.inl l1), none, none], [], mj_mem nn xs w6) (mj_P nn xs (fun v w20 => v = none ∧ (Post none w20))))))) ∧ (¬ l3 = l1 → ((l3 < l1 → (0 ≤ l3 ∧ l3 < 13 ∧ 0 ≤ l2 ∧ l2 < 5 ∧ mj_i (w 9 l3 l2) ∧ ((w 9 l3 l2) = (-1) → (mj_J g y_Ch_advance d 0 0 (0, [some (mj_R 6), some (.inl l3), some (.inl l2), some (.inl l1), none, none], [], mj_mem nn xs w) (mj_P nn xs (fun v w29 => v = none ∧ (Post none w29))))) ∧ (¬ (w 9 l3 l2) = (-1) → (0 ≤ (w 9 l3 l2) ∧ mj_J g y_Ch_put d 0 0 (0, [some (mj_R 6), some (.inl l1), some (.inl ((w 9 l3 l2) / 13)), some (.inl ((w 9 l3 l2) % 13))], [], mj_mem nn xs w) (mj_P nn xs (fun v w32 => v = none ∧ (Post none w32))))))) ∧ (¬ l3 < l1 → (mj_J g y_Ch_advance d 0 0 (0, [some (mj_R 6), some (.inl l3), some (.inl l2), some (.inl l1), none, none], [], mj_mem nn xs w) (mj_P nn xs (fun v w34 => v = none ∧ (Post none w34)))))))))) :
    mj_J g y_Ch_complete (d + 1) 0 0 (0, [some (mj_R 6), some (.inl l1), some (.inl l2), some (.inl l3)], [], mj_mem nn xs w) (mj_P nn xs Post) := by
  refine mj_r_iload_n d_Ch_complete_0 rfl ?_
  refine mj_r_iconst (x := (-1)) d_Ch_complete_1 rfl ?_
  obtain ⟨q1, h⟩ := h
  refine mj_s_icmp_ne (tgt := 6) d_Ch_complete_2 (by decide) q1 (mj_ik (by decide)) (fun q2 => ?_) (fun q2 => ?_)
  · have h := h.1 q2
    exact mj_r_vret d_Ch_complete_5 rfl (mj_q_ret h)
  · have h := h.2 q2
    refine mj_r_iload_n d_Ch_complete_6 rfl ?_
    refine mj_r_iload_n d_Ch_complete_7 rfl ?_
    obtain ⟨q3, h⟩ := h
    obtain ⟨q4, h⟩ := h
    refine mj_s_icmp_ne (tgt := 23) d_Ch_complete_8 (by decide) q3 q4 (fun q5 => ?_) (fun q5 => ?_)
    · have h := h.1 q5
      refine mj_r_aload_n d_Ch_complete_11 rfl ?_
      refine mj_r_dup d_Ch_complete_12 rfl ?_
      refine mj_q_geti d_Ch_complete_13 f_6_7 (.inl mw_134) rfl hn ?_
      refine mj_r_iconst (x := 1) d_Ch_complete_16 rfl ?_
      refine mj_r_iload_n d_Ch_complete_17 rfl ?_
      refine mj_r_ishl d_Ch_complete_18 ?_
      refine mj_r_ior d_Ch_complete_19 ?_
      refine mj_q_put d_Ch_complete_20 f_6_7 (mj_fit_I _) (.inl mw_134) rfl hn (fun w6 e7 => ?_)
      have h := h w6 e7
      refine mj_r_iload_n d_Ch_complete_23 rfl ?_
      refine mj_r_iload_n d_Ch_complete_24 rfl ?_
      refine mj_s_icmp_ge (tgt := 70) d_Ch_complete_25 (by decide) q3 q4 (fun q8 => ?_) (fun q8 => ?_)
      · have h := h.1 q8
        refine mj_r_aload_n d_Ch_complete_28 rfl ?_
        refine mj_q_getr d_Ch_complete_29 f_6_4 (.inl mw_131) rfl hn ?_
        refine mj_r_iload_n d_Ch_complete_32 rfl ?_
        obtain ⟨q9, h⟩ := h
        obtain ⟨q10, h⟩ := h
        refine mj_q_aald d_Ch_complete_33 rfl rfl hn rfl q9 q10 ?_
        refine mj_r_iload_n d_Ch_complete_34 rfl ?_
        obtain ⟨q11, h⟩ := h
        obtain ⟨q12, h⟩ := h
        refine mj_q_gald d_Ch_complete_35 rfl rfl hn rfl q9 q10 q11 q12 ?_
        refine mj_r_iconst (x := (-1)) d_Ch_complete_36 rfl ?_
        obtain ⟨q13, h⟩ := h
        refine mj_s_icmp_eq (tgt := 70) d_Ch_complete_37 (by decide) q13 (mj_ik (by decide)) (fun q14 => ?_) (fun q14 => ?_)
        · have h := h.1 q14
          refine mj_r_aload_n d_Ch_complete_70 rfl ?_
          refine mj_r_iload_n d_Ch_complete_71 rfl ?_
          refine mj_r_iload_n d_Ch_complete_72 rfl ?_
          refine mj_r_iload_n d_Ch_complete_73 rfl ?_
          refine mj_q_V3v d_Ch_complete_74 h_Ch_advance (.inl mw_266) mw_268 mw_5 rfl rfl rfl hn rfl rfl (mj_wk h (fun v w15 h => ?_))
          obtain ⟨rfl, h⟩ := h
          refine ⟨rfl, ?_⟩
          exact mj_r_vret d_Ch_complete_77 rfl (mj_q_ret h)
        · have h := h.2 q14
          refine mj_r_aload_n d_Ch_complete_40 rfl ?_
          refine mj_r_iload_n d_Ch_complete_41 rfl ?_
          refine mj_r_aload_n d_Ch_complete_42 rfl ?_
          refine mj_q_getr d_Ch_complete_43 f_6_4 (.inl mw_131) rfl hn ?_
          refine mj_r_iload_n d_Ch_complete_46 rfl ?_
          refine mj_q_aald d_Ch_complete_47 rfl rfl hn rfl q9 q10 ?_
          refine mj_r_iload_n d_Ch_complete_48 rfl ?_
          refine mj_q_gald d_Ch_complete_49 rfl rfl hn rfl q9 q10 q11 q12 ?_
          refine mj_r_bipush (x := 13) d_Ch_complete_50 (by decide) ?_
          obtain ⟨q17, h⟩ := h
          refine mj_r_idiv d_Ch_complete_52 q13 (mj_ik (by decide)) q17 (by decide) ?_
          refine mj_r_aload_n d_Ch_complete_53 rfl ?_
          refine mj_q_getr d_Ch_complete_54 f_6_4 (.inl mw_131) rfl hn ?_
          refine mj_r_iload_n d_Ch_complete_57 rfl ?_
          refine mj_q_aald d_Ch_complete_58 rfl rfl hn rfl q9 q10 ?_
          refine mj_r_iload_n d_Ch_complete_59 rfl ?_
          refine mj_q_gald d_Ch_complete_60 rfl rfl hn rfl q9 q10 q11 q12 ?_
          refine mj_r_bipush (x := 13) d_Ch_complete_61 (by decide) ?_
          refine mj_r_irem d_Ch_complete_63 q13 (mj_ik (by decide)) q17 (by decide) ?_
          refine mj_q_V3v d_Ch_complete_64 h_Ch_put (.inl mw_242) mw_244 mw_1 rfl rfl rfl hn rfl rfl (mj_wk h (fun v w18 h => ?_))
          obtain ⟨rfl, h⟩ := h
          refine ⟨rfl, ?_⟩
          refine mj_r_goto (tgt := 77) d_Ch_complete_67 (by decide) ?_
          exact mj_r_vret d_Ch_complete_77 rfl (mj_q_ret h)
      · have h := h.2 q8
        refine mj_r_aload_n d_Ch_complete_70 rfl ?_
        refine mj_r_iload_n d_Ch_complete_71 rfl ?_
        refine mj_r_iload_n d_Ch_complete_72 rfl ?_
        refine mj_r_iload_n d_Ch_complete_73 rfl ?_
        refine mj_q_V3v d_Ch_complete_74 h_Ch_advance (.inl mw_266) mw_268 mw_5 rfl rfl rfl hn rfl rfl (mj_wk h (fun v w20 h => ?_))
        obtain ⟨rfl, h⟩ := h
        refine ⟨rfl, ?_⟩
        exact mj_r_vret d_Ch_complete_77 rfl (mj_q_ret h)
    · have h := h.2 q5
      refine mj_r_iload_n d_Ch_complete_23 rfl ?_
      refine mj_r_iload_n d_Ch_complete_24 rfl ?_
      refine mj_s_icmp_ge (tgt := 70) d_Ch_complete_25 (by decide) q3 q4 (fun q22 => ?_) (fun q22 => ?_)
      · have h := h.1 q22
        refine mj_r_aload_n d_Ch_complete_28 rfl ?_
        refine mj_q_getr d_Ch_complete_29 f_6_4 (.inl mw_131) rfl hn ?_
        refine mj_r_iload_n d_Ch_complete_32 rfl ?_
        obtain ⟨q23, h⟩ := h
        obtain ⟨q24, h⟩ := h
        refine mj_q_aald d_Ch_complete_33 rfl rfl hn rfl q23 q24 ?_
        refine mj_r_iload_n d_Ch_complete_34 rfl ?_
        obtain ⟨q25, h⟩ := h
        obtain ⟨q26, h⟩ := h
        refine mj_q_gald d_Ch_complete_35 rfl rfl hn rfl q23 q24 q25 q26 ?_
        refine mj_r_iconst (x := (-1)) d_Ch_complete_36 rfl ?_
        obtain ⟨q27, h⟩ := h
        refine mj_s_icmp_eq (tgt := 70) d_Ch_complete_37 (by decide) q27 (mj_ik (by decide)) (fun q28 => ?_) (fun q28 => ?_)
        · have h := h.1 q28
          refine mj_r_aload_n d_Ch_complete_70 rfl ?_
          refine mj_r_iload_n d_Ch_complete_71 rfl ?_
          refine mj_r_iload_n d_Ch_complete_72 rfl ?_
          refine mj_r_iload_n d_Ch_complete_73 rfl ?_
          refine mj_q_V3v d_Ch_complete_74 h_Ch_advance (.inl mw_266) mw_268 mw_5 rfl rfl rfl hn rfl rfl (mj_wk h (fun v w29 h => ?_))
          obtain ⟨rfl, h⟩ := h
          refine ⟨rfl, ?_⟩
          exact mj_r_vret d_Ch_complete_77 rfl (mj_q_ret h)
        · have h := h.2 q28
          refine mj_r_aload_n d_Ch_complete_40 rfl ?_
          refine mj_r_iload_n d_Ch_complete_41 rfl ?_
          refine mj_r_aload_n d_Ch_complete_42 rfl ?_
          refine mj_q_getr d_Ch_complete_43 f_6_4 (.inl mw_131) rfl hn ?_
          refine mj_r_iload_n d_Ch_complete_46 rfl ?_
          refine mj_q_aald d_Ch_complete_47 rfl rfl hn rfl q23 q24 ?_
          refine mj_r_iload_n d_Ch_complete_48 rfl ?_
          refine mj_q_gald d_Ch_complete_49 rfl rfl hn rfl q23 q24 q25 q26 ?_
          refine mj_r_bipush (x := 13) d_Ch_complete_50 (by decide) ?_
          obtain ⟨q31, h⟩ := h
          refine mj_r_idiv d_Ch_complete_52 q27 (mj_ik (by decide)) q31 (by decide) ?_
          refine mj_r_aload_n d_Ch_complete_53 rfl ?_
          refine mj_q_getr d_Ch_complete_54 f_6_4 (.inl mw_131) rfl hn ?_
          refine mj_r_iload_n d_Ch_complete_57 rfl ?_
          refine mj_q_aald d_Ch_complete_58 rfl rfl hn rfl q23 q24 ?_
          refine mj_r_iload_n d_Ch_complete_59 rfl ?_
          refine mj_q_gald d_Ch_complete_60 rfl rfl hn rfl q23 q24 q25 q26 ?_
          refine mj_r_bipush (x := 13) d_Ch_complete_61 (by decide) ?_
          refine mj_r_irem d_Ch_complete_63 q27 (mj_ik (by decide)) q31 (by decide) ?_
          refine mj_q_V3v d_Ch_complete_64 h_Ch_put (.inl mw_242) mw_244 mw_1 rfl rfl rfl hn rfl rfl (mj_wk h (fun v w32 h => ?_))
          obtain ⟨rfl, h⟩ := h
          refine ⟨rfl, ?_⟩
          refine mj_r_goto (tgt := 77) d_Ch_complete_67 (by decide) ?_
          exact mj_r_vret d_Ch_complete_77 rfl (mj_q_ret h)
      · have h := h.2 q22
        refine mj_r_aload_n d_Ch_complete_70 rfl ?_
        refine mj_r_iload_n d_Ch_complete_71 rfl ?_
        refine mj_r_iload_n d_Ch_complete_72 rfl ?_
        refine mj_r_iload_n d_Ch_complete_73 rfl ?_
        refine mj_q_V3v d_Ch_complete_74 h_Ch_advance (.inl mw_266) mw_268 mw_5 rfl rfl rfl hn rfl rfl (mj_wk h (fun v w34 h => ?_))
        obtain ⟨rfl, h⟩ := h
        refine ⟨rfl, ?_⟩
        exact mj_r_vret d_Ch_complete_77 rfl (mj_q_ret h)
theorem v_Ch_close_0 {g : mj_G} {nn d : Nat} {xs : mj_M} {Post : Option mj_V → mj_w → Prop} (hn : 21 ≤ nn) {w : mj_w} {l1 : Int}
    (h : mj_J g y_Ch_close (d + 1) 0 0 (2, [some (mj_R 6), some (.inl l1), some (.inl 0), none, none, none], [], mj_mem nn xs w) (mj_P nn xs Post)) :
    mj_J g y_Ch_close (d + 1) 0 0 (0, [some (mj_R 6), some (.inl l1), none, none, none, none], [], mj_mem nn xs w) (mj_P nn xs Post) := by
  refine mj_r_iconst (x := 0) d_Ch_close_0 rfl ?_
  refine mj_e_istore_n (lv' := [some (mj_R 6), some (.inl l1), some (.inl 0), none, none, none]) d_Ch_close_1 rfl rfl ?_
  exact h
theorem v_Ch_close_2 {g : mj_G} {nn d : Nat} {xs : mj_M} {Post : Option mj_V → mj_w → Prop} (hn : 21 ≤ nn) {w : mj_w} {l1 l2 : Int}
    (h : mj_i l2 ∧ mj_i (w 6 6 0) ∧ (l2 < (w 6 6 0) → ((l2 < 572 → (0 ≤ l2 ∧ l2 < 572 ∧ mj_i (w 10 l2 0) ∧ 0 ≤ (w 10 l2 0) ∧ 0 ≤ ((w 10 l2 0) / 13) ∧ ((w 10 l2 0) / 13) < 44 ∧ mj_i (w 3 ((w 10 l2 0) / 13) 0) ∧ ((w 3 ((w 10 l2 0) / 13) 0) = (-1) → (mj_J g y_Ch_leftSide d 0 0 (0, [some (mj_R 6), some (.inl ((w 10 l2 0) / 13))], [], mj_mem nn xs w) (mj_P nn xs (fun v w13 => ∃ x14 : Int, v = some (.inl x14) ∧ (mj_J g y_Ch_complete d 0 0 (0, [some (mj_R 6), some (.inl l1), some (.inl x14), some (.inl ((w 10 l2 0) % 13))], [], mj_mem nn xs w13) (mj_P nn xs (fun v w15 => v = none ∧ (mj_J g y_Ch_close (d + 1) 0 0 (2, [some (mj_R 6), some (.inl l1), some (.inl (l2 + 1)), none, none, none], [], mj_mem nn xs w15) (mj_P nn xs Post))))))))) ∧ (¬ (w 3 ((w 10 l2 0) / 13) 0) = (-1) → (mj_J g y_CF_isNonterminal d 0 0 (0, [some (.inl (w 3 ((w 10 l2 0) / 13) 0))], [], mj_mem nn xs w) (mj_P nn xs (fun v w17 => ∃ x18 : Int, v = some (.inl x18) ∧ (mj_i x18 ∧ (x18 = 0 → (mj_J g y_Ch_close (d + 1) 0 0 (2, [some (mj_R 6), some (.inl l1), some (.inl (l2 + 1)), none, none, none], [], mj_mem nn xs w17) (mj_P nn xs Post))) ∧ (¬ x18 = 0 → (mj_J g y_Ch_predict d 0 0 (0, [some (mj_R 6), some (.inl l1), some (.inl (w 3 ((w 10 l2 0) / 13) 0)), none], [], mj_mem nn xs w17) (mj_P nn xs (fun v w21 => v = none ∧ (mj_i (mj_and (mj_ush (w21 6 7 0) (w 3 ((w 10 l2 0) / 13) 0)) 1) ∧ ((mj_and (mj_ush (w21 6 7 0) (w 3 ((w 10 l2 0) / 13) 0)) 1) = 0 → (mj_J g y_Ch_close (d + 1) 0 0 (2, [some (mj_R 6), some (.inl l1), some (.inl (l2 + 1)), none, none, none], [], mj_mem nn xs w21) (mj_P nn xs Post))) ∧ (¬ (mj_and (mj_ush (w21 6 7 0) (w 3 ((w 10 l2 0) / 13) 0)) 1) = 0 → (mj_J g y_Ch_put d 0 0 (0, [some (mj_R 6), some (.inl l1), some (.inl (((w 10 l2 0) / 13) + 1)), some (.inl ((w 10 l2 0) % 13))], [], mj_mem nn xs w21) (mj_P nn xs (fun v w25 => v = none ∧ (mj_J g y_Ch_close (d + 1) 0 0 (2, [some (mj_R 6), some (.inl l1), some (.inl (l2 + 1)), none, none, none], [], mj_mem nn xs w25) (mj_P nn xs Post)))))))))))))))))) ∧ (¬ l2 < 572 → (Post none w)))) ∧ (¬ l2 < (w 6 6 0) → (Post none w))) :
    mj_J g y_Ch_close (d + 1) 0 0 (2, [some (mj_R 6), some (.inl l1), some (.inl l2), none, none, none], [], mj_mem nn xs w) (mj_P nn xs Post) := by
  refine mj_r_iload_n d_Ch_close_2 rfl ?_
  refine mj_r_aload_n d_Ch_close_3 rfl ?_
  refine mj_q_geti d_Ch_close_4 f_6_6 (.inl mw_133) rfl hn ?_
  obtain ⟨q1, h⟩ := h
  obtain ⟨q2, h⟩ := h
  refine mj_s_icmp_ge (tgt := 115) d_Ch_close_7 (by decide) q1 q2 (fun q3 => ?_) (fun q3 => ?_)
  · have h := h.1 q3
    refine mj_r_iload_n d_Ch_close_10 rfl ?_
    refine mj_r_aload_n d_Ch_close_11 rfl ?_
    refine mj_q_getr d_Ch_close_12 f_6_5 (.inl mw_132) rfl hn ?_
    refine mj_q_alen d_Ch_close_15 rfl rfl hn rfl ?_
    refine mj_s_icmp_ge (tgt := 115) d_Ch_close_16 (by decide) q1 (mj_ik (by decide)) (fun q4 => ?_) (fun q4 => ?_)
    · have h := h.1 q4
      refine mj_r_aload_n d_Ch_close_19 rfl ?_
      refine mj_q_getr d_Ch_close_20 f_6_5 (.inl mw_132) rfl hn ?_
      refine mj_r_iload_n d_Ch_close_23 rfl ?_
      obtain ⟨q5, h⟩ := h
      obtain ⟨q6, h⟩ := h
      refine mj_q_iald d_Ch_close_24 rfl rfl hn rfl q5 q6 ?_
      refine mj_r_bipush (x := 13) d_Ch_close_25 (by decide) ?_
      obtain ⟨q7, h⟩ := h
      obtain ⟨q8, h⟩ := h
      refine mj_r_idiv d_Ch_close_27 q7 (mj_ik (by decide)) q8 (by decide) ?_
      refine mj_e_istore_n (lv' := [some (mj_R 6), some (.inl l1), some (.inl l2), some (.inl ((w 10 l2 0) / 13)), none, none]) d_Ch_close_28 rfl rfl ?_
      refine mj_r_aload_n d_Ch_close_29 rfl ?_
      refine mj_q_getr d_Ch_close_30 f_6_5 (.inl mw_132) rfl hn ?_
      refine mj_r_iload_n d_Ch_close_33 rfl ?_
      refine mj_q_iald d_Ch_close_34 rfl rfl hn rfl q5 q6 ?_
      refine mj_r_bipush (x := 13) d_Ch_close_35 (by decide) ?_
      refine mj_r_irem d_Ch_close_37 q7 (mj_ik (by decide)) q8 (by decide) ?_
      refine mj_e_istore (lv' := [some (mj_R 6), some (.inl l1), some (.inl l2), some (.inl ((w 10 l2 0) / 13)), some (.inl ((w 10 l2 0) % 13)), none]) d_Ch_close_38 rfl rfl ?_
      refine mj_r_aload_n d_Ch_close_40 rfl ?_
      refine mj_q_getr d_Ch_close_41 f_6_0 (.inl mw_126) rfl hn ?_
      refine mj_q_getr d_Ch_close_44 f_1_2 (.inr mw_94) rfl hn ?_
      refine mj_r_iload_n d_Ch_close_47 rfl ?_
      obtain ⟨q9, h⟩ := h
      obtain ⟨q10, h⟩ := h
      refine mj_q_iald d_Ch_close_48 rfl rfl hn rfl q9 q10 ?_
      refine mj_e_istore (lv' := [some (mj_R 6), some (.inl l1), some (.inl l2), some (.inl ((w 10 l2 0) / 13)), some (.inl ((w 10 l2 0) % 13)), some (.inl (w 3 ((w 10 l2 0) / 13) 0))]) d_Ch_close_49 rfl rfl ?_
      refine mj_r_iload d_Ch_close_51 rfl ?_
      refine mj_r_iconst (x := (-1)) d_Ch_close_53 rfl ?_
      obtain ⟨q11, h⟩ := h
      refine mj_s_icmp_ne (tgt := 72) d_Ch_close_54 (by decide) q11 (mj_ik (by decide)) (fun q12 => ?_) (fun q12 => ?_)
      · have h := h.1 q12
        refine mj_r_aload_n d_Ch_close_57 rfl ?_
        refine mj_r_iload_n d_Ch_close_58 rfl ?_
        refine mj_r_aload_n d_Ch_close_59 rfl ?_
        refine mj_r_iload_n d_Ch_close_60 rfl ?_
        refine mj_q_V1i d_Ch_close_61 h_Ch_leftSide (.inl mw_254) mw_256 mw_3 rfl rfl rfl hn rfl rfl (mj_wk h (fun v w13 h => ?_))
        obtain ⟨x14, rfl, h⟩ := h
        refine ⟨x14, rfl, ?_⟩
        refine mj_r_iload d_Ch_close_64 rfl ?_
        refine mj_q_V3v d_Ch_close_66 h_Ch_complete (.inl mw_262) mw_264 mw_4 rfl rfl rfl hn rfl rfl (mj_wk h (fun v w15 h => ?_))
        obtain ⟨rfl, h⟩ := h
        refine ⟨rfl, ?_⟩
        refine mj_r_goto (tgt := 109) d_Ch_close_69 (by decide) ?_
        refine mj_e_iinc (lv' := [some (mj_R 6), some (.inl l1), some (.inl (l2 + 1)), some (.inl ((w 10 l2 0) / 13)), some (.inl ((w 10 l2 0) % 13)), some (.inl (w 3 ((w 10 l2 0) / 13) 0))]) d_Ch_close_109 rfl rfl ?_
        refine mj_r_goto (tgt := 2) d_Ch_close_112 (by decide) ?_
        refine mj_r_sub (lv' := [some (mj_R 6), some (.inl l1), some (.inl (l2 + 1)), none, none, none]) ⟨.inr rfl, .inr rfl, .inr rfl, .inl rfl, .inl rfl, .inl rfl, trivial⟩ ?_
        exact h
      · have h := h.2 q12
        refine mj_r_iload d_Ch_close_72 rfl ?_
        refine mj_q_S1i d_Ch_close_74 h_CF_isNonterminal (.inr mw_270) mw_271 rfl rfl (mj_wk h (fun v w17 h => ?_))
        obtain ⟨x18, rfl, h⟩ := h
        refine ⟨x18, rfl, ?_⟩
        obtain ⟨q19, h⟩ := h
        refine mj_s_if_eq (tgt := 109) d_Ch_close_77 (by decide) q19 (fun q20 => ?_) (fun q20 => ?_)
        · have h := h.1 q20
          refine mj_e_iinc (lv' := [some (mj_R 6), some (.inl l1), some (.inl (l2 + 1)), some (.inl ((w 10 l2 0) / 13)), some (.inl ((w 10 l2 0) % 13)), some (.inl (w 3 ((w 10 l2 0) / 13) 0))]) d_Ch_close_109 rfl rfl ?_
          refine mj_r_goto (tgt := 2) d_Ch_close_112 (by decide) ?_
          refine mj_r_sub (lv' := [some (mj_R 6), some (.inl l1), some (.inl (l2 + 1)), none, none, none]) ⟨.inr rfl, .inr rfl, .inr rfl, .inl rfl, .inl rfl, .inl rfl, trivial⟩ ?_
          exact h
        · have h := h.2 q20
          refine mj_r_aload_n d_Ch_close_80 rfl ?_
          refine mj_r_iload_n d_Ch_close_81 rfl ?_
          refine mj_r_iload d_Ch_close_82 rfl ?_
          refine mj_q_V2v d_Ch_close_84 h_Ch_predict (.inl mw_273) mw_275 mw_6 rfl rfl rfl hn rfl rfl (mj_wk h (fun v w21 h => ?_))
          obtain ⟨rfl, h⟩ := h
          refine ⟨rfl, ?_⟩
          refine mj_r_aload_n d_Ch_close_87 rfl ?_
          refine mj_q_geti d_Ch_close_88 f_6_7 (.inl mw_134) rfl hn ?_
          refine mj_r_iload d_Ch_close_91 rfl ?_
          refine mj_r_iushr d_Ch_close_93 ?_
          refine mj_r_iconst (x := 1) d_Ch_close_94 rfl ?_
          refine mj_r_iand d_Ch_close_95 ?_
          obtain ⟨q23, h⟩ := h
          refine mj_s_if_eq (tgt := 109) d_Ch_close_96 (by decide) q23 (fun q24 => ?_) (fun q24 => ?_)
          · have h := h.1 q24
            refine mj_e_iinc (lv' := [some (mj_R 6), some (.inl l1), some (.inl (l2 + 1)), some (.inl ((w 10 l2 0) / 13)), some (.inl ((w 10 l2 0) % 13)), some (.inl (w 3 ((w 10 l2 0) / 13) 0))]) d_Ch_close_109 rfl rfl ?_
            refine mj_r_goto (tgt := 2) d_Ch_close_112 (by decide) ?_
            refine mj_r_sub (lv' := [some (mj_R 6), some (.inl l1), some (.inl (l2 + 1)), none, none, none]) ⟨.inr rfl, .inr rfl, .inr rfl, .inl rfl, .inl rfl, .inl rfl, trivial⟩ ?_
            exact h
          · have h := h.2 q24
            refine mj_r_aload_n d_Ch_close_99 rfl ?_
            refine mj_r_iload_n d_Ch_close_100 rfl ?_
            refine mj_r_iload_n d_Ch_close_101 rfl ?_
            refine mj_r_iconst (x := 1) d_Ch_close_102 rfl ?_
            refine mj_r_iadd d_Ch_close_103 ?_
            refine mj_r_iload d_Ch_close_104 rfl ?_
            refine mj_q_V3v d_Ch_close_106 h_Ch_put (.inl mw_242) mw_244 mw_1 rfl rfl rfl hn rfl rfl (mj_wk h (fun v w25 h => ?_))
            obtain ⟨rfl, h⟩ := h
            refine ⟨rfl, ?_⟩
            refine mj_e_iinc (lv' := [some (mj_R 6), some (.inl l1), some (.inl (l2 + 1)), some (.inl ((w 10 l2 0) / 13)), some (.inl ((w 10 l2 0) % 13)), some (.inl (w 3 ((w 10 l2 0) / 13) 0))]) d_Ch_close_109 rfl rfl ?_
            refine mj_r_goto (tgt := 2) d_Ch_close_112 (by decide) ?_
            refine mj_r_sub (lv' := [some (mj_R 6), some (.inl l1), some (.inl (l2 + 1)), none, none, none]) ⟨.inr rfl, .inr rfl, .inr rfl, .inl rfl, .inl rfl, .inl rfl, trivial⟩ ?_
            exact h
    · have h := h.2 q4
      exact mj_r_vret d_Ch_close_115 rfl (mj_q_ret h)
  · have h := h.2 q3
    exact mj_r_vret d_Ch_close_115 rfl (mj_q_ret h)
theorem v_Ch_openFirst_0 {g : mj_G} {nn d : Nat} {xs : mj_M} {Post : Option mj_V → mj_w → Prop} (hn : 21 ≤ nn) {w : mj_w}
    (h : mj_J g y_Ch_empty d 0 0 (0, [some (mj_R 6), some (.inl 0), none], [], mj_mem nn xs w) (mj_P nn xs (fun v w1 => v = none ∧ (mj_J g y_CF_slotOf d 0 0 (0, [some (.inl ((-1))), some (.inl 0)], [], mj_mem nn xs w1) (mj_P nn xs (fun v w3 => ∃ x4 : Int, v = some (.inl x4) ∧ (mj_J g y_Ch_put d 0 0 (0, [some (mj_R 6), some (.inl 0), some (.inl x4), some (.inl 0)], [], mj_mem nn xs w3) (mj_P nn xs (fun v w5 => v = none ∧ (mj_J g y_Ch_close d 0 0 (0, [some (mj_R 6), some (.inl 0), none, none, none, none], [], mj_mem nn xs w5) (mj_P nn xs (fun v w7 => v = none ∧ (Post none w7))))))))))))) :
    mj_J g y_Ch_openFirst (d + 1) 0 0 (0, [some (mj_R 6)], [], mj_mem nn xs w) (mj_P nn xs Post) := by
  refine mj_r_aload_n d_Ch_openFirst_0 rfl ?_
  refine mj_r_iconst (x := 0) d_Ch_openFirst_1 rfl ?_
  refine mj_q_V1v d_Ch_openFirst_2 h_Ch_empty (.inl mw_237) mw_239 mw_0 rfl rfl rfl hn rfl rfl (mj_wk h (fun v w1 h => ?_))
  obtain ⟨rfl, h⟩ := h
  refine ⟨rfl, ?_⟩
  refine mj_r_aload_n d_Ch_openFirst_5 rfl ?_
  refine mj_r_iconst (x := 0) d_Ch_openFirst_6 rfl ?_
  refine mj_r_iconst (x := (-1)) d_Ch_openFirst_7 rfl ?_
  refine mj_r_iconst (x := 0) d_Ch_openFirst_8 rfl ?_
  refine mj_q_S2i d_Ch_openFirst_9 h_CF_slotOf (.inr mw_241) mw_85 rfl rfl (mj_wk h (fun v w3 h => ?_))
  obtain ⟨x4, rfl, h⟩ := h
  refine ⟨x4, rfl, ?_⟩
  refine mj_r_iconst (x := 0) d_Ch_openFirst_12 rfl ?_
  refine mj_q_V3v d_Ch_openFirst_13 h_Ch_put (.inl mw_242) mw_244 mw_1 rfl rfl rfl hn rfl rfl (mj_wk h (fun v w5 h => ?_))
  obtain ⟨rfl, h⟩ := h
  refine ⟨rfl, ?_⟩
  refine mj_r_aload_n d_Ch_openFirst_16 rfl ?_
  refine mj_r_iconst (x := 0) d_Ch_openFirst_17 rfl ?_
  refine mj_q_V1v d_Ch_openFirst_18 h_Ch_close (.inl mw_250) mw_252 mw_2 rfl rfl rfl hn rfl rfl (mj_wk h (fun v w7 h => ?_))
  obtain ⟨rfl, h⟩ := h
  refine ⟨rfl, ?_⟩
  exact mj_r_vret d_Ch_openFirst_21 rfl (mj_q_ret h)
