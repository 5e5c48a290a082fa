/-! ===== verification rows (by program) ===== -/
theorem v_CF_fed_0 {g : mj_G} {nn d : Nat} {xs : mj_M} {Post : Option mj_V → mj_w → Prop} (hn : 21 ≤ nn) {w : mj_w}
    (h : Post (some (.inl (w 4 0 0))) w) :
    mj_J g y_CF_fed d 0 0 (0, [some (mj_R 0)], [], mj_mem nn xs w) (mj_P nn xs Post) := by
  refine mj_r_aload_n d_CF_fed_0 rfl ?_
  refine mj_q_getr d_CF_fed_1 f_0_1 (.inl mw_278) rfl hn ?_
  refine mj_q_geti d_CF_fed_4 f_4_0 (.inr mw_110) rfl hn ?_
  exact mj_r_iret d_CF_fed_7 rfl (mj_q_ret h)
theorem v_CF_accepts_0 {g : mj_G} {nn d : Nat} {xs : mj_M} {Post : Option mj_V → mj_w → Prop} (hn : 21 ≤ nn) {w : mj_w}
    (h : mj_J g y_CF_slotOf d 0 0 (0, [some (.inl ((-1))), some (.inl 1)], [], mj_mem nn xs w) (mj_P nn xs (fun v w1 => ∃ x2 : Int, v = some (.inl x2) ∧ (mj_J g y_Ch_holds d 0 0 (0, [some (mj_R 6), some (.inl (w 4 0 0)), some (.inl x2), some (.inl 0)], [], mj_mem nn xs w1) (mj_P nn xs (fun v w3 => ∃ x4 : Int, v = some (.inl x4) ∧ ((x4 = 0 ∨ x4 = 1) ∧ Post (some (.inl x4)) w3))))))) :
    mj_J g y_CF_accepts (d + 1) 0 0 (0, [some (mj_R 0)], [], mj_mem nn xs w) (mj_P nn xs Post) := by
  refine mj_r_aload_n d_CF_accepts_0 rfl ?_
  refine mj_q_getr d_CF_accepts_1 f_0_2 (.inl mw_279) rfl hn ?_
  refine mj_r_aload_n d_CF_accepts_4 rfl ?_
  refine mj_q_getr d_CF_accepts_5 f_0_1 (.inl mw_278) rfl hn ?_
  refine mj_q_geti d_CF_accepts_8 f_4_0 (.inr mw_110) rfl hn ?_
  refine mj_r_iconst (x := (-1)) d_CF_accepts_11 rfl ?_
  refine mj_r_iconst (x := 1) d_CF_accepts_12 rfl ?_
  refine mj_q_S2i d_CF_accepts_13 h_CF_slotOf (.inl mw_298) mw_85 rfl rfl (mj_wk h (fun v w1 h => ?_))
  obtain ⟨x2, rfl, h⟩ := h
  refine ⟨x2, rfl, ?_⟩
  refine mj_r_iconst (x := 0) d_CF_accepts_16 rfl ?_
  refine mj_q_V3i d_CF_accepts_17 h_Ch_holds (.inl mw_299) mw_247 mw_248 rfl rfl rfl hn rfl rfl (mj_wk h (fun v w3 h => ?_))
  obtain ⟨x4, rfl, h⟩ := h
  refine ⟨x4, rfl, ?_⟩
  obtain ⟨q5, h⟩ := h
  exact mj_r_zret d_CF_accepts_20 rfl q5 (mj_q_ret h)
theorem v_CF_expected_0 {g : mj_G} {nn d : Nat} {xs : mj_M} {Post : Option mj_V → mj_w → Prop} (hn : 21 ≤ nn) {w : mj_w}
    (h : mj_J g y_Ch_terminalsBehindDots d 0 0 (0, [some (mj_R 6), some (.inl (w 4 0 0)), none, none, none], [], mj_mem nn xs w) (mj_P nn xs (fun v w1 => ∃ x2 : Int, v = some (.inl x2) ∧ (Post (some (.inl x2)) w1)))) :
    mj_J g y_CF_expected (d + 1) 0 0 (0, [some (mj_R 0)], [], mj_mem nn xs w) (mj_P nn xs Post) := by
  refine mj_r_aload_n d_CF_expected_0 rfl ?_
  refine mj_q_getr d_CF_expected_1 f_0_2 (.inl mw_279) rfl hn ?_
  refine mj_r_aload_n d_CF_expected_4 rfl ?_
  refine mj_q_getr d_CF_expected_5 f_0_1 (.inl mw_278) rfl hn ?_
  refine mj_q_geti d_CF_expected_8 f_4_0 (.inr mw_110) rfl hn ?_
  refine mj_q_V1i d_CF_expected_11 h_Ch_terminalsBehindDots (.inl mw_304) mw_305 mw_306 rfl rfl rfl hn rfl rfl (mj_wk h (fun v w1 h => ?_))
  obtain ⟨x2, rfl, h⟩ := h
  refine ⟨x2, rfl, ?_⟩
  exact mj_r_iret d_CF_expected_14 rfl (mj_q_ret h)
theorem v_Ch_terminalsBehindDots_0 {g : mj_G} {nn d : Nat} {xs : mj_M} {Post : Option mj_V → mj_w → Prop} (hn : 21 ≤ nn) {w : mj_w} {l1 : Int}
    (h : mj_J g y_Ch_terminalsBehindDots (d + 1) 0 0 (4, [some (mj_R 6), some (.inl l1), some (.inl 0), some (.inl 0), none], [], mj_mem nn xs w) (mj_P nn xs Post)) :
    mj_J g y_Ch_terminalsBehindDots (d + 1) 0 0 (0, [some (mj_R 6), some (.inl l1), none, none, none], [], mj_mem nn xs w) (mj_P nn xs Post) := by
  refine mj_r_iconst (x := 0) d_Ch_terminalsBehindDots_0 rfl ?_
  refine mj_e_istore_n (lv' := [some (mj_R 6), some (.inl l1), some (.inl 0), none, none]) d_Ch_terminalsBehindDots_1 rfl rfl ?_
  refine mj_r_iconst (x := 0) d_Ch_terminalsBehindDots_2 rfl ?_
  refine mj_e_istore_n (lv' := [some (mj_R 6), some (.inl l1), some (.inl 0), some (.inl 0), none]) d_Ch_terminalsBehindDots_3 rfl rfl ?_
  exact h
theorem v_Ch_terminalsBehindDots_4 {g : mj_G} {nn d : Nat} {xs : mj_M} {Post : Option mj_V → mj_w → Prop} (hn : 21 ≤ nn) {w : mj_w} {l1 l2 l3 : Int}
    (h : mj_i l3 ∧ (l3 < 44 → (0 ≤ l3 ∧ l3 < 44 ∧ 0 ≤ l1 ∧ l1 < 13 ∧ mj_i (w 7 l1 l3) ∧ ((w 7 l1 l3) = 0 → (mj_J g y_Ch_terminalsBehindDots (d + 1) 0 0 (4, [some (mj_R 6), some (.inl l1), some (.inl l2), some (.inl (l3 + 1)), none], [], mj_mem nn xs w) (mj_P nn xs Post))) ∧ (¬ (w 7 l1 l3) = 0 → (mj_J g y_CF_isTerminal d 0 0 (0, [some (.inl (w 3 l3 0))], [], mj_mem nn xs w) (mj_P nn xs (fun v w9 => ∃ x10 : Int, v = some (.inl x10) ∧ (mj_i x10 ∧ (x10 = 0 → (mj_J g y_Ch_terminalsBehindDots (d + 1) 0 0 (4, [some (mj_R 6), some (.inl l1), some (.inl l2), some (.inl (l3 + 1)), none], [], mj_mem nn xs w9) (mj_P nn xs Post))) ∧ (¬ x10 = 0 → (mj_J g y_CF_terminalBit d 0 0 (0, [some (.inl (w 3 l3 0))], [], mj_mem nn xs w9) (mj_P nn xs (fun v w13 => ∃ x14 : Int, v = some (.inl x14) ∧ (mj_J g y_Ch_terminalsBehindDots (d + 1) 0 0 (4, [some (mj_R 6), some (.inl l1), some (.inl (mj_ior l2 x14)), some (.inl (l3 + 1)), none], [], mj_mem nn xs w13) (mj_P nn xs Post))))))))))))) ∧ (¬ l3 < 44 → (Post (some (.inl l2)) w))) :
    mj_J g y_Ch_terminalsBehindDots (d + 1) 0 0 (4, [some (mj_R 6), some (.inl l1), some (.inl l2), some (.inl l3), none], [], mj_mem nn xs w) (mj_P nn xs Post) := by
  refine mj_r_iload_n d_Ch_terminalsBehindDots_4 rfl ?_
  refine mj_r_bipush (x := 44) d_Ch_terminalsBehindDots_5 (by decide) ?_
  obtain ⟨q1, h⟩ := h
  refine mj_s_icmp_ge (tgt := 54) d_Ch_terminalsBehindDots_7 (by decide) q1 (mj_ik (by decide)) (fun q2 => ?_) (fun q2 => ?_)
  · have h := h.1 q2
    refine mj_r_aload_n d_Ch_terminalsBehindDots_10 rfl ?_
    refine mj_q_getr d_Ch_terminalsBehindDots_11 f_6_0 (.inl mw_126) rfl hn ?_
    refine mj_q_getr d_Ch_terminalsBehindDots_14 f_1_2 (.inr mw_94) rfl hn ?_
    refine mj_r_iload_n d_Ch_terminalsBehindDots_17 rfl ?_
    obtain ⟨q3, h⟩ := h
    obtain ⟨q4, h⟩ := h
    refine mj_q_iald d_Ch_terminalsBehindDots_18 rfl rfl hn rfl q3 q4 ?_
    refine mj_e_istore (lv' := [some (mj_R 6), some (.inl l1), some (.inl l2), some (.inl l3), some (.inl (w 3 l3 0))]) d_Ch_terminalsBehindDots_19 rfl rfl ?_
    refine mj_r_aload_n d_Ch_terminalsBehindDots_21 rfl ?_
    refine mj_q_getr d_Ch_terminalsBehindDots_22 f_6_2 (.inl mw_128) rfl hn ?_
    refine mj_r_iload_n d_Ch_terminalsBehindDots_25 rfl ?_
    obtain ⟨q5, h⟩ := h
    obtain ⟨q6, h⟩ := h
    refine mj_q_aald d_Ch_terminalsBehindDots_26 rfl rfl hn rfl q5 q6 ?_
    refine mj_r_iload_n d_Ch_terminalsBehindDots_27 rfl ?_
    refine mj_q_gald d_Ch_terminalsBehindDots_28 rfl rfl hn rfl q5 q6 q3 q4 ?_
    obtain ⟨q7, h⟩ := h
    refine mj_s_if_eq (tgt := 48) d_Ch_terminalsBehindDots_29 (by decide) q7 (fun q8 => ?_) (fun q8 => ?_)
    · have h := h.1 q8
      refine mj_e_iinc (lv' := [some (mj_R 6), some (.inl l1), some (.inl l2), some (.inl (l3 + 1)), some (.inl (w 3 l3 0))]) d_Ch_terminalsBehindDots_48 rfl rfl ?_
      refine mj_r_goto (tgt := 4) d_Ch_terminalsBehindDots_51 (by decide) ?_
      refine mj_r_sub (lv' := [some (mj_R 6), some (.inl l1), some (.inl l2), some (.inl (l3 + 1)), none]) ⟨.inr rfl, .inr rfl, .inr rfl, .inr rfl, .inl rfl, trivial⟩ ?_
      exact h
    · have h := h.2 q8
      refine mj_r_iload d_Ch_terminalsBehindDots_32 rfl ?_
      refine mj_q_S1i d_Ch_terminalsBehindDots_34 h_CF_isTerminal (.inr mw_308) mw_309 rfl rfl (mj_wk h (fun v w9 h => ?_))
      obtain ⟨x10, rfl, h⟩ := h
      refine ⟨x10, rfl, ?_⟩
      obtain ⟨q11, h⟩ := h
      refine mj_s_if_eq (tgt := 48) d_Ch_terminalsBehindDots_37 (by decide) q11 (fun q12 => ?_) (fun q12 => ?_)
      · have h := h.1 q12
        refine mj_e_iinc (lv' := [some (mj_R 6), some (.inl l1), some (.inl l2), some (.inl (l3 + 1)), some (.inl (w 3 l3 0))]) d_Ch_terminalsBehindDots_48 rfl rfl ?_
        refine mj_r_goto (tgt := 4) d_Ch_terminalsBehindDots_51 (by decide) ?_
        refine mj_r_sub (lv' := [some (mj_R 6), some (.inl l1), some (.inl l2), some (.inl (l3 + 1)), none]) ⟨.inr rfl, .inr rfl, .inr rfl, .inr rfl, .inl rfl, trivial⟩ ?_
        exact h
      · have h := h.2 q12
        refine mj_r_iload_n d_Ch_terminalsBehindDots_40 rfl ?_
        refine mj_r_iload d_Ch_terminalsBehindDots_41 rfl ?_
        refine mj_q_S1i d_Ch_terminalsBehindDots_43 h_CF_terminalBit (.inr mw_311) mw_312 rfl rfl (mj_wk h (fun v w13 h => ?_))
        obtain ⟨x14, rfl, h⟩ := h
        refine ⟨x14, rfl, ?_⟩
        refine mj_r_ior d_Ch_terminalsBehindDots_46 ?_
        refine mj_e_istore_n (lv' := [some (mj_R 6), some (.inl l1), some (.inl (mj_ior l2 x14)), some (.inl l3), some (.inl (w 3 l3 0))]) d_Ch_terminalsBehindDots_47 rfl rfl ?_
        refine mj_e_iinc (lv' := [some (mj_R 6), some (.inl l1), some (.inl (mj_ior l2 x14)), some (.inl (l3 + 1)), some (.inl (w 3 l3 0))]) d_Ch_terminalsBehindDots_48 rfl rfl ?_
        refine mj_r_goto (tgt := 4) d_Ch_terminalsBehindDots_51 (by decide) ?_
        refine mj_r_sub (lv' := [some (mj_R 6), some (.inl l1), some (.inl (mj_ior l2 x14)), some (.inl (l3 + 1)), none]) ⟨.inr rfl, .inr rfl, .inr rfl, .inr rfl, .inl rfl, trivial⟩ ?_
        exact h
  · have h := h.2 q2
    refine mj_r_iload_n d_Ch_terminalsBehindDots_54 rfl ?_
    exact mj_r_iret d_Ch_terminalsBehindDots_55 rfl (mj_q_ret h)
theorem v_CF_nodes_0 {g : mj_G} {nn d : Nat} {xs : mj_M} {Post : Option mj_V → mj_w → Prop} (hn : 21 ≤ nn) {w : mj_w}
    (h : mj_J g y_Fo_makeReady d 0 0 (0, [some (mj_R 11), none, none], [], mj_mem nn xs w) (mj_P nn xs (fun v w1 => v = none ∧ (mj_J g y_Fo_nodesMet d 0 0 (0, [some (mj_R 11), none, none], [], mj_mem nn xs w1) (mj_P nn xs (fun v w3 => ∃ x4 : Int, v = some (.inl x4) ∧ (Post (some (.inl x4)) w3))))))) :
    mj_J g y_CF_nodes (d + 1) 0 0 (0, [some (mj_R 0)], [], mj_mem nn xs w) (mj_P nn xs Post) := by
  refine mj_r_aload_n d_CF_nodes_0 rfl ?_
  refine mj_q_getr d_CF_nodes_1 f_0_3 (.inl mw_280) rfl hn ?_
  refine mj_q_V0v d_CF_nodes_4 h_Fo_makeReady (.inl mw_318) mw_319 mw_320 rfl rfl rfl hn rfl rfl (mj_wk h (fun v w1 h => ?_))
  obtain ⟨rfl, h⟩ := h
  refine ⟨rfl, ?_⟩
  refine mj_r_aload_n d_CF_nodes_7 rfl ?_
  refine mj_q_getr d_CF_nodes_8 f_0_3 (.inl mw_280) rfl hn ?_
  refine mj_q_V0i d_CF_nodes_11 h_Fo_nodesMet (.inl mw_372) mw_373 mw_374 rfl rfl rfl hn rfl rfl (mj_wk h (fun v w3 h => ?_))
  obtain ⟨x4, rfl, h⟩ := h
  refine ⟨x4, rfl, ?_⟩
  exact mj_r_iret d_CF_nodes_14 rfl (mj_q_ret h)
theorem v_Fo_makeReady_0 {g : mj_G} {nn d : Nat} {xs : mj_M} {Post : Option mj_V → mj_w → Prop} (hn : 21 ≤ nn) {w : mj_w}
    (h : mj_J g y_Fo_makeReady (d + 1) 0 0 (5, [some (mj_R 11), some (.inl (w 11 3 0)), none], [], mj_mem nn xs w) (mj_P nn xs Post)) :
    mj_J g y_Fo_makeReady (d + 1) 0 0 (0, [some (mj_R 11), none, none], [], mj_mem nn xs w) (mj_P nn xs Post) := by
  refine mj_r_aload_n d_Fo_makeReady_0 rfl ?_
  refine mj_q_geti d_Fo_makeReady_1 f_11_3 (.inl mw_211) rfl hn ?_
  refine mj_e_istore_n (lv' := [some (mj_R 11), some (.inl (w 11 3 0)), none]) d_Fo_makeReady_4 rfl rfl ?_
  exact h
theorem v_Fo_makeReady_5 {g : mj_G} {nn d : Nat} {xs : mj_M} {Post : Option mj_V → mj_w → Prop} (hn : 21 ≤ nn) {w : mj_w} {l1 : Int}
    (h : mj_i l1 ∧ mj_i (w 4 0 0) ∧ ((w 4 0 0) < l1 → (∀ w4, w4 = mj_wu w 11 3 0 ((w 4 0 0) + 1) → Post none w4)) ∧ (¬ (w 4 0 0) < l1 → (mj_J g y_Fo_makeReady (d + 1) 0 0 (18, [some (mj_R 11), some (.inl l1), some (.inl l1)], [], mj_mem nn xs w) (mj_P nn xs Post)))) :
    mj_J g y_Fo_makeReady (d + 1) 0 0 (5, [some (mj_R 11), some (.inl l1), none], [], mj_mem nn xs w) (mj_P nn xs Post) := by
  refine mj_r_iload_n d_Fo_makeReady_5 rfl ?_
  refine mj_r_aload_n d_Fo_makeReady_6 rfl ?_
  refine mj_q_getr d_Fo_makeReady_7 f_11_0 (.inl mw_208) rfl hn ?_
  refine mj_q_geti d_Fo_makeReady_10 f_4_0 (.inr mw_111) rfl hn ?_
  obtain ⟨q1, h⟩ := h
  obtain ⟨q2, h⟩ := h
  refine mj_s_icmp_gt (tgt := 46) d_Fo_makeReady_13 (by decide) q1 q2 (fun q3 => ?_) (fun q3 => ?_)
  · have h := h.1 q3
    refine mj_r_aload_n d_Fo_makeReady_46 rfl ?_
    refine mj_r_aload_n d_Fo_makeReady_47 rfl ?_
    refine mj_q_getr d_Fo_makeReady_48 f_11_0 (.inl mw_208) rfl hn ?_
    refine mj_q_geti d_Fo_makeReady_51 f_4_0 (.inr mw_111) rfl hn ?_
    refine mj_r_iconst (x := 1) d_Fo_makeReady_54 rfl ?_
    refine mj_r_iadd d_Fo_makeReady_55 ?_
    refine mj_q_put d_Fo_makeReady_56 f_11_3 (mj_fit_I _) (.inl mw_211) rfl hn (fun w4 e5 => ?_)
    have h := h w4 e5
    exact mj_r_vret d_Fo_makeReady_59 rfl (mj_q_ret h)
  · have h := h.2 q3
    refine mj_r_iload_n d_Fo_makeReady_16 rfl ?_
    refine mj_e_istore_n (lv' := [some (mj_R 11), some (.inl l1), some (.inl l1)]) d_Fo_makeReady_17 rfl rfl ?_
    exact h
theorem v_Fo_makeReady_18 {g : mj_G} {nn d : Nat} {xs : mj_M} {Post : Option mj_V → mj_w → Prop} (hn : 21 ≤ nn) {w : mj_w} {l1 l2 : Int}
    (h : mj_i l2 ∧ (l2 < 0 → (mj_J g y_Fo_makeReady (d + 1) 0 0 (5, [some (mj_R 11), some (.inl (l1 + 1)), none], [], mj_mem nn xs w) (mj_P nn xs Post))) ∧ (¬ l2 < 0 → (mj_J g y_Fo_findDeriving d 0 0 (0, [some (mj_R 11), some (.inl l2), some (.inl l1), none, none, none, none], [], mj_mem nn xs w) (mj_P nn xs (fun v w3 => v = none ∧ (mj_J g y_Fo_countTrees d 0 0 (0, [some (mj_R 11), some (.inl l2), some (.inl l1), none, none, none, none], [], mj_mem nn xs w3) (mj_P nn xs (fun v w5 => v = none ∧ (mj_J g y_Fo_makeReady (d + 1) 0 0 (18, [some (mj_R 11), some (.inl l1), some (.inl (l2 + (-1)))], [], mj_mem nn xs w5) (mj_P nn xs Post)))))))))) :
    mj_J g y_Fo_makeReady (d + 1) 0 0 (18, [some (mj_R 11), some (.inl l1), some (.inl l2)], [], mj_mem nn xs w) (mj_P nn xs Post) := by
  refine mj_r_iload_n d_Fo_makeReady_18 rfl ?_
  obtain ⟨q1, h⟩ := h
  refine mj_s_if_lt (tgt := 40) d_Fo_makeReady_19 (by decide) q1 (fun q2 => ?_) (fun q2 => ?_)
  · have h := h.1 q2
    refine mj_e_iinc (lv' := [some (mj_R 11), some (.inl (l1 + 1)), some (.inl l2)]) d_Fo_makeReady_40 rfl rfl ?_
    refine mj_r_goto (tgt := 5) d_Fo_makeReady_43 (by decide) ?_
    refine mj_r_sub (lv' := [some (mj_R 11), some (.inl (l1 + 1)), none]) ⟨.inr rfl, .inr rfl, .inl rfl, trivial⟩ ?_
    exact h
  · have h := h.2 q2
    refine mj_r_aload_n d_Fo_makeReady_22 rfl ?_
    refine mj_r_iload_n d_Fo_makeReady_23 rfl ?_
    refine mj_r_iload_n d_Fo_makeReady_24 rfl ?_
    refine mj_q_V2v d_Fo_makeReady_25 h_Fo_findDeriving (.inl mw_322) mw_324 mw_7 rfl rfl rfl hn rfl rfl (mj_wk h (fun v w3 h => ?_))
    obtain ⟨rfl, h⟩ := h
    refine ⟨rfl, ?_⟩
    refine mj_r_aload_n d_Fo_makeReady_28 rfl ?_
    refine mj_r_iload_n d_Fo_makeReady_29 rfl ?_
    refine mj_r_iload_n d_Fo_makeReady_30 rfl ?_
    refine mj_q_V2v d_Fo_makeReady_31 h_Fo_countTrees (.inl mw_358) mw_360 mw_10 rfl rfl rfl hn rfl rfl (mj_wk h (fun v w5 h => ?_))
    obtain ⟨rfl, h⟩ := h
    refine ⟨rfl, ?_⟩
    refine mj_e_iinc (lv' := [some (mj_R 11), some (.inl l1), some (.inl (l2 + (-1)))]) d_Fo_makeReady_34 rfl rfl ?_
    refine mj_r_goto (tgt := 18) d_Fo_makeReady_37 (by decide) ?_
    exact h
theorem v_Fo_findDeriving_0 {g : mj_G} {nn d : Nat} {xs : mj_M} {Post : Option mj_V → mj_w → Prop} (hn : 21 ≤ nn) {w : mj_w} {l1 l2 : Int}
    (h : mj_J g y_Fo_findDeriving (d + 1) 0 0 (2, [some (mj_R 11), some (.inl l1), some (.inl l2), some (.inl 0), none, none, none], [], mj_mem nn xs w) (mj_P nn xs Post)) :
    mj_J g y_Fo_findDeriving (d + 1) 0 0 (0, [some (mj_R 11), some (.inl l1), some (.inl l2), none, none, none, none], [], mj_mem nn xs w) (mj_P nn xs Post) := by
  refine mj_r_iconst (x := 0) d_Fo_findDeriving_0 rfl ?_
  refine mj_e_istore_n (lv' := [some (mj_R 11), some (.inl l1), some (.inl l2), some (.inl 0), none, none, none]) d_Fo_findDeriving_1 rfl rfl ?_
  exact h
theorem v_Fo_findDeriving_2 {g : mj_G} {nn d : Nat} {xs : mj_M} {Post : Option mj_V → mj_w → Prop} (hn : 21 ≤ nn) {w : mj_w} {l1 l2 l3 : Int}
    (h : mj_i l3 ∧ (l3 < 5 → (mj_J g y_CF_cellOf d 0 0 (0, [some (.inl l3), some (.inl l1), some (.inl l2)], [], mj_mem nn xs w) (mj_P nn xs (fun v w3 => ∃ x4 : Int, v = some (.inl x4) ∧ (0 ≤ x4 ∧ x4 < 845 ∧ (∀ w7, w7 = mj_wu w3 16 x4 0 0 → mj_J g y_Fo_findDeriving (d + 1) 0 0 (2, [some (mj_R 11), some (.inl l1), some (.inl l2), some (.inl (l3 + 1)), none, none, none], [], mj_mem nn xs w7) (mj_P nn xs Post))))))) ∧ (¬ l3 < 5 → (mj_J g y_Fo_findDeriving (d + 1) 0 0 (33, [some (mj_R 11), some (.inl l1), some (.inl l2), some (.inl 1), some (.inl 0), none, none], [], mj_mem nn xs w) (mj_P nn xs Post)))) :
    mj_J g y_Fo_findDeriving (d + 1) 0 0 (2, [some (mj_R 11), some (.inl l1), some (.inl l2), some (.inl l3), none, none, none], [], mj_mem nn xs w) (mj_P nn xs Post) := by
  refine mj_r_iload_n d_Fo_findDeriving_2 rfl ?_
  refine mj_r_iconst (x := 5) d_Fo_findDeriving_3 rfl ?_
  obtain ⟨q1, h⟩ := h
  refine mj_s_icmp_ge (tgt := 28) d_Fo_findDeriving_4 (by decide) q1 (mj_ik (by decide)) (fun q2 => ?_) (fun q2 => ?_)
  · have h := h.1 q2
    refine mj_r_aload_n d_Fo_findDeriving_7 rfl ?_
    refine mj_q_getr d_Fo_findDeriving_8 f_11_1 (.inl mw_209) rfl hn ?_
    refine mj_q_getr d_Fo_findDeriving_11 f_15_1 (.inr mw_166) rfl hn ?_
    refine mj_r_iload_n d_Fo_findDeriving_14 rfl ?_
    refine mj_r_iload_n d_Fo_findDeriving_15 rfl ?_
    refine mj_r_iload_n d_Fo_findDeriving_16 rfl ?_
    refine mj_q_S3i d_Fo_findDeriving_17 h_CF_cellOf (.inr mw_326) mw_327 rfl rfl (mj_wk h (fun v w3 h => ?_))
    obtain ⟨x4, rfl, h⟩ := h
    refine ⟨x4, rfl, ?_⟩
    refine mj_r_lconst (x := 0) d_Fo_findDeriving_20 rfl ?_
    obtain ⟨q5, h⟩ := h
    obtain ⟨q6, h⟩ := h
    refine mj_q_last d_Fo_findDeriving_21 rfl rfl hn rfl q5 q6 (fun w7 e8 => ?_)
    have h := h w7 e8
    refine mj_e_iinc (lv' := [some (mj_R 11), some (.inl l1), some (.inl l2), some (.inl (l3 + 1)), none, none, none]) d_Fo_findDeriving_22 rfl rfl ?_
    refine mj_r_goto (tgt := 2) d_Fo_findDeriving_25 (by decide) ?_
    exact h
  · have h := h.2 q2
    refine mj_r_iconst (x := 1) d_Fo_findDeriving_28 rfl ?_
    refine mj_e_istore_n (lv' := [some (mj_R 11), some (.inl l1), some (.inl l2), some (.inl 1), none, none, none]) d_Fo_findDeriving_29 rfl rfl ?_
    refine mj_r_iconst (x := 0) d_Fo_findDeriving_30 rfl ?_
    refine mj_e_istore (lv' := [some (mj_R 11), some (.inl l1), some (.inl l2), some (.inl 1), some (.inl 0), none, none]) d_Fo_findDeriving_31 rfl rfl ?_
    exact h
theorem v_Fo_findDeriving_33 {g : mj_G} {nn d : Nat} {xs : mj_M} {Post : Option mj_V → mj_w → Prop} (hn : 21 ≤ nn) {w : mj_w} {l1 l2 l3 l4 : Int}
    (h : mj_i l3 ∧ (l3 = 0 → (Post none w)) ∧ (¬ l3 = 0 → (mj_i l4 ∧ (l4 < 5 → (mj_J g y_Fo_findDeriving (d + 1) 0 0 (48, [some (mj_R 11), some (.inl l1), some (.inl l2), some (.inl 0), some (.inl l4), some (.inl 0), none], [], mj_mem nn xs w) (mj_P nn xs Post))) ∧ (¬ l4 < 5 → (Post none w))))) :
    mj_J g y_Fo_findDeriving (d + 1) 0 0 (33, [some (mj_R 11), some (.inl l1), some (.inl l2), some (.inl l3), some (.inl l4), none, none], [], mj_mem nn xs w) (mj_P nn xs Post) := by
  refine mj_r_iload_n d_Fo_findDeriving_33 rfl ?_
  obtain ⟨q1, h⟩ := h
  refine mj_s_if_eq (tgt := 148) d_Fo_findDeriving_34 (by decide) q1 (fun q2 => ?_) (fun q2 => ?_)
  · have h := h.1 q2
    exact mj_r_vret d_Fo_findDeriving_148 rfl (mj_q_ret h)
  · have h := h.2 q2
    refine mj_r_iload d_Fo_findDeriving_37 rfl ?_
    refine mj_r_iconst (x := 5) d_Fo_findDeriving_39 rfl ?_
    obtain ⟨q3, h⟩ := h
    refine mj_s_icmp_ge (tgt := 148) d_Fo_findDeriving_40 (by decide) q3 (mj_ik (by decide)) (fun q4 => ?_) (fun q4 => ?_)
    · have h := h.1 q4
      refine mj_r_iconst (x := 0) d_Fo_findDeriving_43 rfl ?_
      refine mj_e_istore_n (lv' := [some (mj_R 11), some (.inl l1), some (.inl l2), some (.inl 0), some (.inl l4), none, none]) d_Fo_findDeriving_44 rfl rfl ?_
      refine mj_r_iconst (x := 0) d_Fo_findDeriving_45 rfl ?_
      refine mj_e_istore (lv' := [some (mj_R 11), some (.inl l1), some (.inl l2), some (.inl 0), some (.inl l4), some (.inl 0), none]) d_Fo_findDeriving_46 rfl rfl ?_
      exact h
    · have h := h.2 q4
      exact mj_r_vret d_Fo_findDeriving_148 rfl (mj_q_ret h)
theorem v_Fo_findDeriving_48 {g : mj_G} {nn d : Nat} {xs : mj_M} {Post : Option mj_V → mj_w → Prop} (hn : 21 ≤ nn) {w : mj_w} {l1 l2 l3 l4 l5 : Int}
    (h : mj_i l5 ∧ (l5 < 5 → (mj_J g y_CF_cellOf d 0 0 (0, [some (.inl l5), some (.inl l1), some (.inl l2)], [], mj_mem nn xs w) (mj_P nn xs (fun v w3 => ∃ x4 : Int, v = some (.inl x4) ∧ (0 ≤ x4 ∧ x4 < 845 ∧ mj_l (w3 16 x4 0) ∧ ((w3 16 x4 0) = 0 → (mj_J g y_Wa_gather d 0 0 (0, [some (mj_R 17), some (.inl l5), some (.inl l1), some (.inl l2), none], [], mj_mem nn xs w3) (mj_P nn xs (fun v w9 => v = none ∧ (mj_i (w9 17 4 0) ∧ (0 < (w9 17 4 0) → (∀ w13, w13 = mj_wu w9 16 x4 0 (-1) → mj_i l3 ∧ (l3 = 0 → (mj_i (w13 17 4 0) ∧ (0 < (w13 17 4 0) → (mj_J g y_Fo_findDeriving (d + 1) 0 0 (48, [some (mj_R 11), some (.inl l1), some (.inl l2), some (.inl 1), some (.inl l4), some (.inl (l5 + 1)), none], [], mj_mem nn xs w13) (mj_P nn xs Post))) ∧ (¬ 0 < (w13 17 4 0) → (mj_J g y_Fo_findDeriving (d + 1) 0 0 (48, [some (mj_R 11), some (.inl l1), some (.inl l2), some (.inl 0), some (.inl l4), some (.inl (l5 + 1)), none], [], mj_mem nn xs w13) (mj_P nn xs Post))))) ∧ (¬ l3 = 0 → (mj_J g y_Fo_findDeriving (d + 1) 0 0 (48, [some (mj_R 11), some (.inl l1), some (.inl l2), some (.inl 1), some (.inl l4), some (.inl (l5 + 1)), none], [], mj_mem nn xs w13) (mj_P nn xs Post))))) ∧ (¬ 0 < (w9 17 4 0) → (∀ w19, w19 = mj_wu w9 16 x4 0 0 → mj_i l3 ∧ (l3 = 0 → (mj_i (w19 17 4 0) ∧ (0 < (w19 17 4 0) → (mj_J g y_Fo_findDeriving (d + 1) 0 0 (48, [some (mj_R 11), some (.inl l1), some (.inl l2), some (.inl 1), some (.inl l4), some (.inl (l5 + 1)), none], [], mj_mem nn xs w19) (mj_P nn xs Post))) ∧ (¬ 0 < (w19 17 4 0) → (mj_J g y_Fo_findDeriving (d + 1) 0 0 (48, [some (mj_R 11), some (.inl l1), some (.inl l2), some (.inl 0), some (.inl l4), some (.inl (l5 + 1)), none], [], mj_mem nn xs w19) (mj_P nn xs Post))))) ∧ (¬ l3 = 0 → (mj_J g y_Fo_findDeriving (d + 1) 0 0 (48, [some (mj_R 11), some (.inl l1), some (.inl l2), some (.inl 1), some (.inl l4), some (.inl (l5 + 1)), none], [], mj_mem nn xs w19) (mj_P nn xs Post)))))))))) ∧ (¬ (w3 16 x4 0) = 0 → (mj_J g y_Fo_findDeriving (d + 1) 0 0 (48, [some (mj_R 11), some (.inl l1), some (.inl l2), some (.inl l3), some (.inl l4), some (.inl (l5 + 1)), none], [], mj_mem nn xs w3) (mj_P nn xs Post)))))))) ∧ (¬ l5 < 5 → (mj_J g y_Fo_findDeriving (d + 1) 0 0 (33, [some (mj_R 11), some (.inl l1), some (.inl l2), some (.inl l3), some (.inl (l4 + 1)), none, none], [], mj_mem nn xs w) (mj_P nn xs Post)))) :
    mj_J g y_Fo_findDeriving (d + 1) 0 0 (48, [some (mj_R 11), some (.inl l1), some (.inl l2), some (.inl l3), some (.inl l4), some (.inl l5), none], [], mj_mem nn xs w) (mj_P nn xs Post) := by
  refine mj_r_iload d_Fo_findDeriving_48 rfl ?_
  refine mj_r_iconst (x := 5) d_Fo_findDeriving_50 rfl ?_
  obtain ⟨q1, h⟩ := h
  refine mj_s_icmp_ge (tgt := 142) d_Fo_findDeriving_51 (by decide) q1 (mj_ik (by decide)) (fun q2 => ?_) (fun q2 => ?_)
  · have h := h.1 q2
    refine mj_r_iload d_Fo_findDeriving_54 rfl ?_
    refine mj_r_iload_n d_Fo_findDeriving_56 rfl ?_
    refine mj_r_iload_n d_Fo_findDeriving_57 rfl ?_
    refine mj_q_S3i d_Fo_findDeriving_58 h_CF_cellOf (.inr mw_326) mw_327 rfl rfl (mj_wk h (fun v w3 h => ?_))
    obtain ⟨x4, rfl, h⟩ := h
    refine ⟨x4, rfl, ?_⟩
    refine mj_e_istore (lv' := [some (mj_R 11), some (.inl l1), some (.inl l2), some (.inl l3), some (.inl l4), some (.inl l5), some (.inl x4)]) d_Fo_findDeriving_61 rfl rfl ?_
    refine mj_r_aload_n d_Fo_findDeriving_63 rfl ?_
    refine mj_q_getr d_Fo_findDeriving_64 f_11_1 (.inl mw_209) rfl hn ?_
    refine mj_q_getr d_Fo_findDeriving_67 f_15_1 (.inr mw_166) rfl hn ?_
    refine mj_r_iload d_Fo_findDeriving_70 rfl ?_
    obtain ⟨q5, h⟩ := h
    obtain ⟨q6, h⟩ := h
    refine mj_q_lald d_Fo_findDeriving_72 rfl rfl hn rfl q5 q6 ?_
    refine mj_r_lconst (x := 0) d_Fo_findDeriving_73 rfl ?_
    obtain ⟨q7, h⟩ := h
    refine mj_s_l_ne (tgt := 136) d_Fo_findDeriving_74 d_Fo_findDeriving_75 (by decide) q7 (mj_lk (by decide)) (fun q8 => ?_) (fun q8 => ?_)
    · have h := h.1 q8
      refine mj_r_aload_n d_Fo_findDeriving_78 rfl ?_
      refine mj_q_getr d_Fo_findDeriving_79 f_11_2 (.inl mw_210) rfl hn ?_
      refine mj_r_iload d_Fo_findDeriving_82 rfl ?_
      refine mj_r_iload_n d_Fo_findDeriving_84 rfl ?_
      refine mj_r_iload_n d_Fo_findDeriving_85 rfl ?_
      refine mj_q_V3v d_Fo_findDeriving_86 h_Wa_gather (.inl mw_329) mw_330 mw_331 rfl rfl rfl hn rfl rfl (mj_wk h (fun v w9 h => ?_))
      obtain ⟨rfl, h⟩ := h
      refine ⟨rfl, ?_⟩
      refine mj_r_aload_n d_Fo_findDeriving_89 rfl ?_
      refine mj_q_getr d_Fo_findDeriving_90 f_11_1 (.inl mw_209) rfl hn ?_
      refine mj_q_getr d_Fo_findDeriving_93 f_15_1 (.inr mw_166) rfl hn ?_
      refine mj_r_iload d_Fo_findDeriving_96 rfl ?_
      refine mj_r_aload_n d_Fo_findDeriving_98 rfl ?_
      refine mj_q_getr d_Fo_findDeriving_99 f_11_2 (.inl mw_210) rfl hn ?_
      refine mj_q_geti d_Fo_findDeriving_102 f_17_4 (.inr mw_185) rfl hn ?_
      obtain ⟨q11, h⟩ := h
      refine mj_s_if_le (tgt := 114) d_Fo_findDeriving_105 (by decide) q11 (fun q12 => ?_) (fun q12 => ?_)
      · have h := h.1 q12
        refine mj_r_ldc2v (x := (-1)) d_Fo_findDeriving_108 mw_357 (by decide) ?_
        refine mj_r_goto (tgt := 115) d_Fo_findDeriving_111 (by decide) ?_
        refine mj_q_last d_Fo_findDeriving_115 rfl rfl hn rfl q5 q6 (fun w13 e14 => ?_)
        have h := h w13 e14
        refine mj_r_iload_n d_Fo_findDeriving_116 rfl ?_
        obtain ⟨q15, h⟩ := h
        refine mj_s_if_ne (tgt := 130) d_Fo_findDeriving_117 (by decide) q15 (fun q16 => ?_) (fun q16 => ?_)
        · have h := h.1 q16
          refine mj_r_aload_n d_Fo_findDeriving_120 rfl ?_
          refine mj_q_getr d_Fo_findDeriving_121 f_11_2 (.inl mw_210) rfl hn ?_
          refine mj_q_geti d_Fo_findDeriving_124 f_17_4 (.inr mw_185) rfl hn ?_
          obtain ⟨q17, h⟩ := h
          refine mj_s_if_le (tgt := 134) d_Fo_findDeriving_127 (by decide) q17 (fun q18 => ?_) (fun q18 => ?_)
          · have h := h.1 q18
            refine mj_r_iconst (x := 1) d_Fo_findDeriving_130 rfl ?_
            refine mj_r_goto (tgt := 135) d_Fo_findDeriving_131 (by decide) ?_
            refine mj_e_istore_n (lv' := [some (mj_R 11), some (.inl l1), some (.inl l2), some (.inl 1), some (.inl l4), some (.inl l5), some (.inl x4)]) d_Fo_findDeriving_135 rfl rfl ?_
            refine mj_e_iinc (lv' := [some (mj_R 11), some (.inl l1), some (.inl l2), some (.inl 1), some (.inl l4), some (.inl (l5 + 1)), some (.inl x4)]) d_Fo_findDeriving_136 rfl rfl ?_
            refine mj_r_goto (tgt := 48) d_Fo_findDeriving_139 (by decide) ?_
            refine mj_r_sub (lv' := [some (mj_R 11), some (.inl l1), some (.inl l2), some (.inl 1), some (.inl l4), some (.inl (l5 + 1)), none]) ⟨.inr rfl, .inr rfl, .inr rfl, .inr rfl, .inr rfl, .inr rfl, .inl rfl, trivial⟩ ?_
            exact h
          · have h := h.2 q18
            refine mj_r_iconst (x := 0) d_Fo_findDeriving_134 rfl ?_
            refine mj_e_istore_n (lv' := [some (mj_R 11), some (.inl l1), some (.inl l2), some (.inl 0), some (.inl l4), some (.inl l5), some (.inl x4)]) d_Fo_findDeriving_135 rfl rfl ?_
            refine mj_e_iinc (lv' := [some (mj_R 11), some (.inl l1), some (.inl l2), some (.inl 0), some (.inl l4), some (.inl (l5 + 1)), some (.inl x4)]) d_Fo_findDeriving_136 rfl rfl ?_
            refine mj_r_goto (tgt := 48) d_Fo_findDeriving_139 (by decide) ?_
            refine mj_r_sub (lv' := [some (mj_R 11), some (.inl l1), some (.inl l2), some (.inl 0), some (.inl l4), some (.inl (l5 + 1)), none]) ⟨.inr rfl, .inr rfl, .inr rfl, .inr rfl, .inr rfl, .inr rfl, .inl rfl, trivial⟩ ?_
            exact h
        · have h := h.2 q16
          refine mj_r_iconst (x := 1) d_Fo_findDeriving_130 rfl ?_
          refine mj_r_goto (tgt := 135) d_Fo_findDeriving_131 (by decide) ?_
          refine mj_e_istore_n (lv' := [some (mj_R 11), some (.inl l1), some (.inl l2), some (.inl 1), some (.inl l4), some (.inl l5), some (.inl x4)]) d_Fo_findDeriving_135 rfl rfl ?_
          refine mj_e_iinc (lv' := [some (mj_R 11), some (.inl l1), some (.inl l2), some (.inl 1), some (.inl l4), some (.inl (l5 + 1)), some (.inl x4)]) d_Fo_findDeriving_136 rfl rfl ?_
          refine mj_r_goto (tgt := 48) d_Fo_findDeriving_139 (by decide) ?_
          refine mj_r_sub (lv' := [some (mj_R 11), some (.inl l1), some (.inl l2), some (.inl 1), some (.inl l4), some (.inl (l5 + 1)), none]) ⟨.inr rfl, .inr rfl, .inr rfl, .inr rfl, .inr rfl, .inr rfl, .inl rfl, trivial⟩ ?_
          exact h
      · have h := h.2 q12
        refine mj_r_lconst (x := 0) d_Fo_findDeriving_114 rfl ?_
        refine mj_q_last d_Fo_findDeriving_115 rfl rfl hn rfl q5 q6 (fun w19 e20 => ?_)
        have h := h w19 e20
        refine mj_r_iload_n d_Fo_findDeriving_116 rfl ?_
        obtain ⟨q21, h⟩ := h
        refine mj_s_if_ne (tgt := 130) d_Fo_findDeriving_117 (by decide) q21 (fun q22 => ?_) (fun q22 => ?_)
        · have h := h.1 q22
          refine mj_r_aload_n d_Fo_findDeriving_120 rfl ?_
          refine mj_q_getr d_Fo_findDeriving_121 f_11_2 (.inl mw_210) rfl hn ?_
          refine mj_q_geti d_Fo_findDeriving_124 f_17_4 (.inr mw_185) rfl hn ?_
          obtain ⟨q23, h⟩ := h
          refine mj_s_if_le (tgt := 134) d_Fo_findDeriving_127 (by decide) q23 (fun q24 => ?_) (fun q24 => ?_)
          · have h := h.1 q24
            refine mj_r_iconst (x := 1) d_Fo_findDeriving_130 rfl ?_
            refine mj_r_goto (tgt := 135) d_Fo_findDeriving_131 (by decide) ?_
            refine mj_e_istore_n (lv' := [some (mj_R 11), some (.inl l1), some (.inl l2), some (.inl 1), some (.inl l4), some (.inl l5), some (.inl x4)]) d_Fo_findDeriving_135 rfl rfl ?_
            refine mj_e_iinc (lv' := [some (mj_R 11), some (.inl l1), some (.inl l2), some (.inl 1), some (.inl l4), some (.inl (l5 + 1)), some (.inl x4)]) d_Fo_findDeriving_136 rfl rfl ?_
            refine mj_r_goto (tgt := 48) d_Fo_findDeriving_139 (by decide) ?_
            refine mj_r_sub (lv' := [some (mj_R 11), some (.inl l1), some (.inl l2), some (.inl 1), some (.inl l4), some (.inl (l5 + 1)), none]) ⟨.inr rfl, .inr rfl, .inr rfl, .inr rfl, .inr rfl, .inr rfl, .inl rfl, trivial⟩ ?_
            exact h
          · have h := h.2 q24
            refine mj_r_iconst (x := 0) d_Fo_findDeriving_134 rfl ?_
            refine mj_e_istore_n (lv' := [some (mj_R 11), some (.inl l1), some (.inl l2), some (.inl 0), some (.inl l4), some (.inl l5), some (.inl x4)]) d_Fo_findDeriving_135 rfl rfl ?_
            refine mj_e_iinc (lv' := [some (mj_R 11), some (.inl l1), some (.inl l2), some (.inl 0), some (.inl l4), some (.inl (l5 + 1)), some (.inl x4)]) d_Fo_findDeriving_136 rfl rfl ?_
            refine mj_r_goto (tgt := 48) d_Fo_findDeriving_139 (by decide) ?_
            refine mj_r_sub (lv' := [some (mj_R 11), some (.inl l1), some (.inl l2), some (.inl 0), some (.inl l4), some (.inl (l5 + 1)), none]) ⟨.inr rfl, .inr rfl, .inr rfl, .inr rfl, .inr rfl, .inr rfl, .inl rfl, trivial⟩ ?_
            exact h
        · have h := h.2 q22
          refine mj_r_iconst (x := 1) d_Fo_findDeriving_130 rfl ?_
          refine mj_r_goto (tgt := 135) d_Fo_findDeriving_131 (by decide) ?_
          refine mj_e_istore_n (lv' := [some (mj_R 11), some (.inl l1), some (.inl l2), some (.inl 1), some (.inl l4), some (.inl l5), some (.inl x4)]) d_Fo_findDeriving_135 rfl rfl ?_
          refine mj_e_iinc (lv' := [some (mj_R 11), some (.inl l1), some (.inl l2), some (.inl 1), some (.inl l4), some (.inl (l5 + 1)), some (.inl x4)]) d_Fo_findDeriving_136 rfl rfl ?_
          refine mj_r_goto (tgt := 48) d_Fo_findDeriving_139 (by decide) ?_
          refine mj_r_sub (lv' := [some (mj_R 11), some (.inl l1), some (.inl l2), some (.inl 1), some (.inl l4), some (.inl (l5 + 1)), none]) ⟨.inr rfl, .inr rfl, .inr rfl, .inr rfl, .inr rfl, .inr rfl, .inl rfl, trivial⟩ ?_
          exact h
    · have h := h.2 q8
      refine mj_e_iinc (lv' := [some (mj_R 11), some (.inl l1), some (.inl l2), some (.inl l3), some (.inl l4), some (.inl (l5 + 1)), some (.inl x4)]) d_Fo_findDeriving_136 rfl rfl ?_
      refine mj_r_goto (tgt := 48) d_Fo_findDeriving_139 (by decide) ?_
      refine mj_r_sub (lv' := [some (mj_R 11), some (.inl l1), some (.inl l2), some (.inl l3), some (.inl l4), some (.inl (l5 + 1)), none]) ⟨.inr rfl, .inr rfl, .inr rfl, .inr rfl, .inr rfl, .inr rfl, .inl rfl, trivial⟩ ?_
      exact h
  · have h := h.2 q2
    refine mj_e_iinc (lv' := [some (mj_R 11), some (.inl l1), some (.inl l2), some (.inl l3), some (.inl (l4 + 1)), some (.inl l5), none]) d_Fo_findDeriving_142 rfl rfl ?_
    refine mj_r_goto (tgt := 33) d_Fo_findDeriving_145 (by decide) ?_
    refine mj_r_sub (lv' := [some (mj_R 11), some (.inl l1), some (.inl l2), some (.inl l3), some (.inl (l4 + 1)), none, none]) ⟨.inr rfl, .inr rfl, .inr rfl, .inr rfl, .inr rfl, .inl rfl, .inl rfl, trivial⟩ ?_
    exact h
theorem v_Wa_gather_0 {g : mj_G} {nn d : Nat} {xs : mj_M} {Post : Option mj_V → mj_w → Prop} (hn : 21 ≤ nn) {w : mj_w} {l1 l2 l3 : Int}
    (h : ∀ w1, w1 = mj_wu w 17 2 0 l2 → ∀ w3, w3 = mj_wu w1 17 3 0 l3 → ∀ w5, w5 = mj_wu w3 17 4 0 0 → mj_J g y_Wa_gather (d + 1) 0 0 (18, [some (mj_R 17), some (.inl l1), some (.inl l2), some (.inl l3), some (.inl 0)], [], mj_mem nn xs w5) (mj_P nn xs Post)) :
    mj_J g y_Wa_gather (d + 1) 0 0 (0, [some (mj_R 17), some (.inl l1), some (.inl l2), some (.inl l3), none], [], mj_mem nn xs w) (mj_P nn xs Post) := by
  refine mj_r_aload_n d_Wa_gather_0 rfl ?_
  refine mj_r_iload_n d_Wa_gather_1 rfl ?_
  refine mj_q_put d_Wa_gather_2 f_17_2 (mj_fit_I _) (.inl mw_182) rfl hn (fun w1 e2 => ?_)
  have h := h w1 e2
  refine mj_r_aload_n d_Wa_gather_5 rfl ?_
  refine mj_r_iload_n d_Wa_gather_6 rfl ?_
  refine mj_q_put d_Wa_gather_7 f_17_3 (mj_fit_I _) (.inl mw_183) rfl hn (fun w3 e4 => ?_)
  have h := h w3 e4
  refine mj_r_aload_n d_Wa_gather_10 rfl ?_
  refine mj_r_iconst (x := 0) d_Wa_gather_11 rfl ?_
  refine mj_q_put d_Wa_gather_12 f_17_4 (mj_fit_I _) (.inl mw_184) rfl hn (fun w5 e6 => ?_)
  have h := h w5 e6
  refine mj_r_iconst (x := 0) d_Wa_gather_15 rfl ?_
  refine mj_e_istore (lv' := [some (mj_R 17), some (.inl l1), some (.inl l2), some (.inl l3), some (.inl 0)]) d_Wa_gather_16 rfl rfl ?_
  exact h
theorem v_Wa_gather_18 {g : mj_G} {nn d : Nat} {xs : mj_M} {Post : Option mj_V → mj_w → Prop} (hn : 21 ≤ nn) {w : mj_w} {l1 l2 l3 l4 : Int}
    (h : mj_i l4 ∧ mj_i (w 1 0 0) ∧ (l4 < (w 1 0 0) → (mj_J g y_Gr_leftOf d 0 0 (0, [some (mj_R 1), some (.inl l4)], [], mj_mem nn xs w) (mj_P nn xs (fun v w4 => ∃ x5 : Int, v = some (.inl x5) ∧ (mj_i x5 ∧ mj_i l1 ∧ (x5 = l1 → (mj_J g y_Wa_gatherRule d 0 0 (0, [some (mj_R 17), some (.inl l4), none, none, none, none, none, none, none, none, none, none], [], mj_mem nn xs w4) (mj_P nn xs (fun v w9 => v = none ∧ (mj_J g y_Wa_gather (d + 1) 0 0 (18, [some (mj_R 17), some (.inl l1), some (.inl l2), some (.inl l3), some (.inl (l4 + 1))], [], mj_mem nn xs w9) (mj_P nn xs Post)))))) ∧ (¬ x5 = l1 → (mj_J g y_Wa_gather (d + 1) 0 0 (18, [some (mj_R 17), some (.inl l1), some (.inl l2), some (.inl l3), some (.inl (l4 + 1))], [], mj_mem nn xs w4) (mj_P nn xs Post)))))))) ∧ (¬ l4 < (w 1 0 0) → (Post none w))) :
    mj_J g y_Wa_gather (d + 1) 0 0 (18, [some (mj_R 17), some (.inl l1), some (.inl l2), some (.inl l3), some (.inl l4)], [], mj_mem nn xs w) (mj_P nn xs Post) := by
  refine mj_r_iload d_Wa_gather_18 rfl ?_
  refine mj_r_aload_n d_Wa_gather_20 rfl ?_
  refine mj_q_getr d_Wa_gather_21 f_17_0 (.inl mw_180) rfl hn ?_
  refine mj_q_geti d_Wa_gather_24 f_1_0 (.inr mw_88) rfl hn ?_
  obtain ⟨q1, h⟩ := h
  obtain ⟨q2, h⟩ := h
  refine mj_s_icmp_ge (tgt := 55) d_Wa_gather_27 (by decide) q1 q2 (fun q3 => ?_) (fun q3 => ?_)
  · have h := h.1 q3
    refine mj_r_aload_n d_Wa_gather_30 rfl ?_
    refine mj_q_getr d_Wa_gather_31 f_17_0 (.inl mw_180) rfl hn ?_
    refine mj_r_iload d_Wa_gather_34 rfl ?_
    refine mj_q_V1i d_Wa_gather_36 h_Gr_leftOf (.inl mw_333) mw_259 mw_260 rfl rfl rfl hn rfl rfl (mj_wk h (fun v w4 h => ?_))
    obtain ⟨x5, rfl, h⟩ := h
    refine ⟨x5, rfl, ?_⟩
    refine mj_r_iload_n d_Wa_gather_39 rfl ?_
    obtain ⟨q6, h⟩ := h
    obtain ⟨q7, h⟩ := h
    refine mj_s_icmp_ne (tgt := 49) d_Wa_gather_40 (by decide) q6 q7 (fun q8 => ?_) (fun q8 => ?_)
    · have h := h.1 q8
      refine mj_r_aload_n d_Wa_gather_43 rfl ?_
      refine mj_r_iload d_Wa_gather_44 rfl ?_
      refine mj_q_V1v d_Wa_gather_46 h_Wa_gatherRule (.inl mw_334) mw_336 mw_8 rfl rfl rfl hn rfl rfl (mj_wk h (fun v w9 h => ?_))
      obtain ⟨rfl, h⟩ := h
      refine ⟨rfl, ?_⟩
      refine mj_e_iinc (lv' := [some (mj_R 17), some (.inl l1), some (.inl l2), some (.inl l3), some (.inl (l4 + 1))]) d_Wa_gather_49 rfl rfl ?_
      refine mj_r_goto (tgt := 18) d_Wa_gather_52 (by decide) ?_
      exact h
    · have h := h.2 q8
      refine mj_e_iinc (lv' := [some (mj_R 17), some (.inl l1), some (.inl l2), some (.inl l3), some (.inl (l4 + 1))]) d_Wa_gather_49 rfl rfl ?_
      refine mj_r_goto (tgt := 18) d_Wa_gather_52 (by decide) ?_
      exact h
  · have h := h.2 q3
    exact mj_r_vret d_Wa_gather_55 rfl (mj_q_ret h)
theorem v_Wa_gatherRule_0 {g : mj_G} {nn d : Nat} {xs : mj_M} {Post : Option mj_V → mj_w → Prop} (hn : 21 ≤ nn) {w : mj_w} {l1 : Int}
    (h : mj_J g y_CF_slotOf d 0 0 (0, [some (.inl l1), some (.inl 0)], [], mj_mem nn xs w) (mj_P nn xs (fun v w1 => ∃ x2 : Int, v = some (.inl x2) ∧ (0 ≤ x2 ∧ x2 < 44 ∧ 0 ≤ (x2 + 1) ∧ (x2 + 1) < 44 ∧ 0 ≤ (x2 + 2) ∧ (x2 + 2) < 44 ∧ mj_i (w1 3 (x2 + 1) 0) ∧ ((w1 3 (x2 + 1) 0) = (-1) → (mj_J g y_Wa_gatherRule (d + 1) 0 0 (61, [some (mj_R 17), some (.inl l1), some (.inl x2), some (.inl (w1 3 x2 0)), some (.inl (w1 3 (x2 + 1) 0)), some (.inl (w1 3 (x2 + 2) 0)), some (.inl (w1 17 3 0)), none, none, none, none, none], [], mj_mem nn xs w1) (mj_P nn xs Post))) ∧ (¬ (w1 3 (x2 + 1) 0) = (-1) → (mj_J g y_Wa_gatherRule (d + 1) 0 0 (61, [some (mj_R 17), some (.inl l1), some (.inl x2), some (.inl (w1 3 x2 0)), some (.inl (w1 3 (x2 + 1) 0)), some (.inl (w1 3 (x2 + 2) 0)), some (.inl (w1 17 2 0)), none, none, none, none, none], [], mj_mem nn xs w1) (mj_P nn xs Post))))))) :
    mj_J g y_Wa_gatherRule (d + 1) 0 0 (0, [some (mj_R 17), some (.inl l1), none, none, none, none, none, none, none, none, none, none], [], mj_mem nn xs w) (mj_P nn xs Post) := by
  refine mj_r_iload_n d_Wa_gatherRule_0 rfl ?_
  refine mj_r_iconst (x := 0) d_Wa_gatherRule_1 rfl ?_
  refine mj_q_S2i d_Wa_gatherRule_2 h_CF_slotOf (.inr mw_338) mw_85 rfl rfl (mj_wk h (fun v w1 h => ?_))
  obtain ⟨x2, rfl, h⟩ := h
  refine ⟨x2, rfl, ?_⟩
  refine mj_e_istore_n (lv' := [some (mj_R 17), some (.inl l1), some (.inl x2), none, none, none, none, none, none, none, none, none]) d_Wa_gatherRule_5 rfl rfl ?_
  refine mj_r_aload_n d_Wa_gatherRule_6 rfl ?_
  refine mj_q_getr d_Wa_gatherRule_7 f_17_0 (.inl mw_180) rfl hn ?_
  refine mj_q_getr d_Wa_gatherRule_10 f_1_2 (.inr mw_93) rfl hn ?_
  refine mj_r_iload_n d_Wa_gatherRule_13 rfl ?_
  obtain ⟨q3, h⟩ := h
  obtain ⟨q4, h⟩ := h
  refine mj_q_iald d_Wa_gatherRule_14 rfl rfl hn rfl q3 q4 ?_
  refine mj_e_istore_n (lv' := [some (mj_R 17), some (.inl l1), some (.inl x2), some (.inl (w1 3 x2 0)), none, none, none, none, none, none, none, none]) d_Wa_gatherRule_15 rfl rfl ?_
  refine mj_r_aload_n d_Wa_gatherRule_16 rfl ?_
  refine mj_q_getr d_Wa_gatherRule_17 f_17_0 (.inl mw_180) rfl hn ?_
  refine mj_q_getr d_Wa_gatherRule_20 f_1_2 (.inr mw_93) rfl hn ?_
  refine mj_r_iload_n d_Wa_gatherRule_23 rfl ?_
  refine mj_r_iconst (x := 1) d_Wa_gatherRule_24 rfl ?_
  refine mj_r_iadd d_Wa_gatherRule_25 ?_
  obtain ⟨q5, h⟩ := h
  obtain ⟨q6, h⟩ := h
  refine mj_q_iald d_Wa_gatherRule_26 rfl rfl hn rfl q5 q6 ?_
  refine mj_e_istore (lv' := [some (mj_R 17), some (.inl l1), some (.inl x2), some (.inl (w1 3 x2 0)), some (.inl (w1 3 (x2 + 1) 0)), none, none, none, none, none, none, none]) d_Wa_gatherRule_27 rfl rfl ?_
  refine mj_r_aload_n d_Wa_gatherRule_29 rfl ?_
  refine mj_q_getr d_Wa_gatherRule_30 f_17_0 (.inl mw_180) rfl hn ?_
  refine mj_q_getr d_Wa_gatherRule_33 f_1_2 (.inr mw_93) rfl hn ?_
  refine mj_r_iload_n d_Wa_gatherRule_36 rfl ?_
  refine mj_r_iconst (x := 2) d_Wa_gatherRule_37 rfl ?_
  refine mj_r_iadd d_Wa_gatherRule_38 ?_
  obtain ⟨q7, h⟩ := h
  obtain ⟨q8, h⟩ := h
  refine mj_q_iald d_Wa_gatherRule_39 rfl rfl hn rfl q7 q8 ?_
  refine mj_e_istore (lv' := [some (mj_R 17), some (.inl l1), some (.inl x2), some (.inl (w1 3 x2 0)), some (.inl (w1 3 (x2 + 1) 0)), some (.inl (w1 3 (x2 + 2) 0)), none, none, none, none, none, none]) d_Wa_gatherRule_40 rfl rfl ?_
  refine mj_r_iload d_Wa_gatherRule_42 rfl ?_
  refine mj_r_iconst (x := (-1)) d_Wa_gatherRule_44 rfl ?_
  obtain ⟨q9, h⟩ := h
  refine mj_s_icmp_ne (tgt := 55) d_Wa_gatherRule_45 (by decide) q9 (mj_ik (by decide)) (fun q10 => ?_) (fun q10 => ?_)
  · have h := h.1 q10
    refine mj_r_aload_n d_Wa_gatherRule_48 rfl ?_
    refine mj_q_geti d_Wa_gatherRule_49 f_17_3 (.inl mw_183) rfl hn ?_
    refine mj_r_goto (tgt := 59) d_Wa_gatherRule_52 (by decide) ?_
    refine mj_e_istore (lv' := [some (mj_R 17), some (.inl l1), some (.inl x2), some (.inl (w1 3 x2 0)), some (.inl (w1 3 (x2 + 1) 0)), some (.inl (w1 3 (x2 + 2) 0)), some (.inl (w1 17 3 0)), none, none, none, none, none]) d_Wa_gatherRule_59 rfl rfl ?_
    exact h
  · have h := h.2 q10
    refine mj_r_aload_n d_Wa_gatherRule_55 rfl ?_
    refine mj_q_geti d_Wa_gatherRule_56 f_17_2 (.inl mw_182) rfl hn ?_
    refine mj_e_istore (lv' := [some (mj_R 17), some (.inl l1), some (.inl x2), some (.inl (w1 3 x2 0)), some (.inl (w1 3 (x2 + 1) 0)), some (.inl (w1 3 (x2 + 2) 0)), some (.inl (w1 17 2 0)), none, none, none, none, none]) d_Wa_gatherRule_59 rfl rfl ?_
    exact h
theorem v_Wa_gatherRule_61 {g : mj_G} {nn d : Nat} {xs : mj_M} {Post : Option mj_V → mj_w → Prop} (hn : 21 ≤ nn) {w : mj_w} {l1 l2 l3 l4 l5 l6 : Int}
    (h : mj_i l6 ∧ mj_i (w 17 3 0) ∧ ((w 17 3 0) < l6 → (Post none w)) ∧ (¬ (w 17 3 0) < l6 → (mj_J g y_Co_over d 0 0 (0, [some (mj_R 15), some (.inl l3), some (.inl (w 17 2 0)), some (.inl l6)], [], mj_mem nn xs w) (mj_P nn xs (fun v w4 => ∃ x5 : Int, v = some (.inr (.inl x5)) ∧ (mj_l x5 ∧ (x5 = 0 → (mj_J g y_Wa_gatherRule (d + 1) 0 0 (61, [some (mj_R 17), some (.inl l1), some (.inl l2), some (.inl l3), some (.inl l4), some (.inl l5), some (.inl (l6 + 1)), none, none, none, none, none], [], mj_mem nn xs w4) (mj_P nn xs Post))) ∧ (¬ x5 = 0 → (mj_i l5 ∧ (l5 = (-1) → (mj_J g y_Wa_gatherRule (d + 1) 0 0 (113, [some (mj_R 17), some (.inl l1), some (.inl l2), some (.inl l3), some (.inl l4), some (.inl l5), some (.inl l6), some (.inr (.inl x5)), none, some (.inl (w4 17 3 0)), none, none], [], mj_mem nn xs w4) (mj_P nn xs Post))) ∧ (¬ l5 = (-1) → (mj_J g y_Wa_gatherRule (d + 1) 0 0 (113, [some (mj_R 17), some (.inl l1), some (.inl l2), some (.inl l3), some (.inl l4), some (.inl l5), some (.inl l6), some (.inr (.inl x5)), none, some (.inl l6), none, none], [], mj_mem nn xs w4) (mj_P nn xs Post))))))))))) :
    mj_J g y_Wa_gatherRule (d + 1) 0 0 (61, [some (mj_R 17), some (.inl l1), some (.inl l2), some (.inl l3), some (.inl l4), some (.inl l5), some (.inl l6), none, none, none, none, none], [], mj_mem nn xs w) (mj_P nn xs Post) := by
  refine mj_r_iload d_Wa_gatherRule_61 rfl ?_
  refine mj_r_aload_n d_Wa_gatherRule_63 rfl ?_
  refine mj_q_geti d_Wa_gatherRule_64 f_17_3 (.inl mw_183) rfl hn ?_
  obtain ⟨q1, h⟩ := h
  obtain ⟨q2, h⟩ := h
  refine mj_s_icmp_gt (tgt := 190) d_Wa_gatherRule_67 (by decide) q1 q2 (fun q3 => ?_) (fun q3 => ?_)
  · have h := h.1 q3
    exact mj_r_vret d_Wa_gatherRule_190 rfl (mj_q_ret h)
  · have h := h.2 q3
    refine mj_r_aload_n d_Wa_gatherRule_70 rfl ?_
    refine mj_q_getr d_Wa_gatherRule_71 f_17_1 (.inl mw_181) rfl hn ?_
    refine mj_r_iload_n d_Wa_gatherRule_74 rfl ?_
    refine mj_r_aload_n d_Wa_gatherRule_75 rfl ?_
    refine mj_q_geti d_Wa_gatherRule_76 f_17_2 (.inl mw_182) rfl hn ?_
    refine mj_r_iload d_Wa_gatherRule_79 rfl ?_
    refine mj_q_V3l d_Wa_gatherRule_81 h_Co_over (.inl mw_339) mw_340 mw_341 rfl rfl rfl hn rfl rfl (mj_wk h (fun v w4 h => ?_))
    obtain ⟨x5, rfl, h⟩ := h
    refine ⟨x5, rfl, ?_⟩
    refine mj_e_lstore (lv' := [some (mj_R 17), some (.inl l1), some (.inl l2), some (.inl l3), some (.inl l4), some (.inl l5), some (.inl l6), some (.inr (.inl x5)), none, none, none, none]) d_Wa_gatherRule_84 rfl rfl ?_
    refine mj_r_lload d_Wa_gatherRule_86 rfl ?_
    refine mj_r_lconst (x := 0) d_Wa_gatherRule_88 rfl ?_
    obtain ⟨q6, h⟩ := h
    refine mj_s_l_ne (tgt := 96) d_Wa_gatherRule_89 d_Wa_gatherRule_90 (by decide) q6 (mj_lk (by decide)) (fun q7 => ?_) (fun q7 => ?_)
    · have h := h.1 q7
      refine mj_r_goto (tgt := 184) d_Wa_gatherRule_93 (by decide) ?_
      refine mj_e_iinc (lv' := [some (mj_R 17), some (.inl l1), some (.inl l2), some (.inl l3), some (.inl l4), some (.inl l5), some (.inl (l6 + 1)), some (.inr (.inl x5)), none, none, none, none]) d_Wa_gatherRule_184 rfl rfl ?_
      refine mj_r_goto (tgt := 61) d_Wa_gatherRule_187 (by decide) ?_
      refine mj_r_sub (lv' := [some (mj_R 17), some (.inl l1), some (.inl l2), some (.inl l3), some (.inl l4), some (.inl l5), some (.inl (l6 + 1)), none, none, none, none, none]) ⟨.inr rfl, .inr rfl, .inr rfl, .inr rfl, .inr rfl, .inr rfl, .inr rfl, .inl rfl, .inl rfl, .inl rfl, .inl rfl, .inl rfl, trivial⟩ ?_
      exact h
    · have h := h.2 q7
      refine mj_r_iload d_Wa_gatherRule_96 rfl ?_
      refine mj_r_iconst (x := (-1)) d_Wa_gatherRule_98 rfl ?_
      obtain ⟨q8, h⟩ := h
      refine mj_s_icmp_ne (tgt := 109) d_Wa_gatherRule_99 (by decide) q8 (mj_ik (by decide)) (fun q9 => ?_) (fun q9 => ?_)
      · have h := h.1 q9
        refine mj_r_aload_n d_Wa_gatherRule_102 rfl ?_
        refine mj_q_geti d_Wa_gatherRule_103 f_17_3 (.inl mw_183) rfl hn ?_
        refine mj_r_goto (tgt := 111) d_Wa_gatherRule_106 (by decide) ?_
        refine mj_e_istore (lv' := [some (mj_R 17), some (.inl l1), some (.inl l2), some (.inl l3), some (.inl l4), some (.inl l5), some (.inl l6), some (.inr (.inl x5)), none, some (.inl (w4 17 3 0)), none, none]) d_Wa_gatherRule_111 rfl rfl ?_
        exact h
      · have h := h.2 q9
        refine mj_r_iload d_Wa_gatherRule_109 rfl ?_
        refine mj_e_istore (lv' := [some (mj_R 17), some (.inl l1), some (.inl l2), some (.inl l3), some (.inl l4), some (.inl l5), some (.inl l6), some (.inr (.inl x5)), none, some (.inl l6), none, none]) d_Wa_gatherRule_111 rfl rfl ?_
        exact h
theorem v_Wa_gatherRule_113 {g : mj_G} {nn d : Nat} {xs : mj_M} {Post : Option mj_V → mj_w → Prop} (hn : 21 ≤ nn) {w : mj_w} {l1 l2 l3 l4 l5 l6 l7 l9 : Int}
    (h : mj_i l9 ∧ mj_i (w 17 3 0) ∧ ((w 17 3 0) < l9 → (mj_J g y_Wa_gatherRule (d + 1) 0 0 (61, [some (mj_R 17), some (.inl l1), some (.inl l2), some (.inl l3), some (.inl l4), some (.inl l5), some (.inl (l6 + 1)), none, none, none, none, none], [], mj_mem nn xs w) (mj_P nn xs Post))) ∧ (¬ (w 17 3 0) < l9 → (mj_J g y_Co_over d 0 0 (0, [some (mj_R 15), some (.inl l4), some (.inl l6), some (.inl l9)], [], mj_mem nn xs w) (mj_P nn xs (fun v w4 => ∃ x5 : Int, v = some (.inr (.inl x5)) ∧ (mj_J g y_CF_product d 0 0 (0, [some (.inr (.inl l7)), none, some (.inr (.inl x5)), none], [], mj_mem nn xs w4) (mj_P nn xs (fun v w6 => ∃ x7 : Int, v = some (.inr (.inl x7)) ∧ (mj_l x7 ∧ (x7 = 0 → (mj_J g y_Wa_gatherRule (d + 1) 0 0 (113, [some (mj_R 17), some (.inl l1), some (.inl l2), some (.inl l3), some (.inl l4), some (.inl l5), some (.inl l6), some (.inr (.inl l7)), none, some (.inl (l9 + 1)), none, none], [], mj_mem nn xs w6) (mj_P nn xs Post))) ∧ (¬ x7 = 0 → (mj_J g y_Co_over d 0 0 (0, [some (mj_R 15), some (.inl l5), some (.inl l9), some (.inl (w6 17 3 0))], [], mj_mem nn xs w6) (mj_P nn xs (fun v w10 => ∃ x11 : Int, v = some (.inr (.inl x11)) ∧ (mj_J g y_CF_product d 0 0 (0, [some (.inr (.inl x7)), none, some (.inr (.inl x11)), none], [], mj_mem nn xs w10) (mj_P nn xs (fun v w12 => ∃ x13 : Int, v = some (.inr (.inl x13)) ∧ (mj_J g y_Wa_keep d 0 0 (0, [some (mj_R 17), some (.inl l1), some (.inl l6), some (.inl l9), some (.inr (.inl x13)), none], [], mj_mem nn xs w12) (mj_P nn xs (fun v w14 => v = none ∧ (mj_J g y_Wa_gatherRule (d + 1) 0 0 (113, [some (mj_R 17), some (.inl l1), some (.inl l2), some (.inl l3), some (.inl l4), some (.inl l5), some (.inl l6), some (.inr (.inl l7)), none, some (.inl (l9 + 1)), none, none], [], mj_mem nn xs w14) (mj_P nn xs Post))))))))))))))))))))) :
    mj_J g y_Wa_gatherRule (d + 1) 0 0 (113, [some (mj_R 17), some (.inl l1), some (.inl l2), some (.inl l3), some (.inl l4), some (.inl l5), some (.inl l6), some (.inr (.inl l7)), none, some (.inl l9), none, none], [], mj_mem nn xs w) (mj_P nn xs Post) := by
  refine mj_r_iload d_Wa_gatherRule_113 rfl ?_
  refine mj_r_aload_n d_Wa_gatherRule_115 rfl ?_
  refine mj_q_geti d_Wa_gatherRule_116 f_17_3 (.inl mw_183) rfl hn ?_
  obtain ⟨q1, h⟩ := h
  obtain ⟨q2, h⟩ := h
  refine mj_s_icmp_gt (tgt := 184) d_Wa_gatherRule_119 (by decide) q1 q2 (fun q3 => ?_) (fun q3 => ?_)
  · have h := h.1 q3
    refine mj_e_iinc (lv' := [some (mj_R 17), some (.inl l1), some (.inl l2), some (.inl l3), some (.inl l4), some (.inl l5), some (.inl (l6 + 1)), some (.inr (.inl l7)), none, some (.inl l9), none, none]) d_Wa_gatherRule_184 rfl rfl ?_
    refine mj_r_goto (tgt := 61) d_Wa_gatherRule_187 (by decide) ?_
    refine mj_r_sub (lv' := [some (mj_R 17), some (.inl l1), some (.inl l2), some (.inl l3), some (.inl l4), some (.inl l5), some (.inl (l6 + 1)), none, none, none, none, none]) ⟨.inr rfl, .inr rfl, .inr rfl, .inr rfl, .inr rfl, .inr rfl, .inr rfl, .inl rfl, .inl rfl, .inl rfl, .inl rfl, .inl rfl, trivial⟩ ?_
    exact h
  · have h := h.2 q3
    refine mj_r_lload d_Wa_gatherRule_122 rfl ?_
    refine mj_r_aload_n d_Wa_gatherRule_124 rfl ?_
    refine mj_q_getr d_Wa_gatherRule_125 f_17_1 (.inl mw_181) rfl hn ?_
    refine mj_r_iload d_Wa_gatherRule_128 rfl ?_
    refine mj_r_iload d_Wa_gatherRule_130 rfl ?_
    refine mj_r_iload d_Wa_gatherRule_132 rfl ?_
    refine mj_q_V3l d_Wa_gatherRule_134 h_Co_over (.inl mw_339) mw_340 mw_341 rfl rfl rfl hn rfl rfl (mj_wk h (fun v w4 h => ?_))
    obtain ⟨x5, rfl, h⟩ := h
    refine ⟨x5, rfl, ?_⟩
    refine mj_q_S2l d_Wa_gatherRule_137 h_CF_product (.inr mw_348) mw_349 rfl rfl (mj_wk h (fun v w6 h => ?_))
    obtain ⟨x7, rfl, h⟩ := h
    refine ⟨x7, rfl, ?_⟩
    refine mj_e_lstore (lv' := [some (mj_R 17), some (.inl l1), some (.inl l2), some (.inl l3), some (.inl l4), some (.inl l5), some (.inl l6), some (.inr (.inl l7)), none, some (.inl l9), some (.inr (.inl x7)), none]) d_Wa_gatherRule_140 rfl rfl ?_
    refine mj_r_lload d_Wa_gatherRule_142 rfl ?_
    refine mj_r_lconst (x := 0) d_Wa_gatherRule_144 rfl ?_
    obtain ⟨q8, h⟩ := h
    refine mj_s_l_eq (tgt := 178) d_Wa_gatherRule_145 d_Wa_gatherRule_146 (by decide) q8 (mj_lk (by decide)) (fun q9 => ?_) (fun q9 => ?_)
    · have h := h.1 q9
      refine mj_e_iinc (lv' := [some (mj_R 17), some (.inl l1), some (.inl l2), some (.inl l3), some (.inl l4), some (.inl l5), some (.inl l6), some (.inr (.inl l7)), none, some (.inl (l9 + 1)), some (.inr (.inl x7)), none]) d_Wa_gatherRule_178 rfl rfl ?_
      refine mj_r_goto (tgt := 113) d_Wa_gatherRule_181 (by decide) ?_
      refine mj_r_sub (lv' := [some (mj_R 17), some (.inl l1), some (.inl l2), some (.inl l3), some (.inl l4), some (.inl l5), some (.inl l6), some (.inr (.inl l7)), none, some (.inl (l9 + 1)), none, none]) ⟨.inr rfl, .inr rfl, .inr rfl, .inr rfl, .inr rfl, .inr rfl, .inr rfl, .inr rfl, .inl rfl, .inr rfl, .inl rfl, .inl rfl, trivial⟩ ?_
      exact h
    · have h := h.2 q9
      refine mj_r_aload_n d_Wa_gatherRule_149 rfl ?_
      refine mj_r_iload_n d_Wa_gatherRule_150 rfl ?_
      refine mj_r_iload d_Wa_gatherRule_151 rfl ?_
      refine mj_r_iload d_Wa_gatherRule_153 rfl ?_
      refine mj_r_lload d_Wa_gatherRule_155 rfl ?_
      refine mj_r_aload_n d_Wa_gatherRule_157 rfl ?_
      refine mj_q_getr d_Wa_gatherRule_158 f_17_1 (.inl mw_181) rfl hn ?_
      refine mj_r_iload d_Wa_gatherRule_161 rfl ?_
      refine mj_r_iload d_Wa_gatherRule_163 rfl ?_
      refine mj_r_aload_n d_Wa_gatherRule_165 rfl ?_
      refine mj_q_geti d_Wa_gatherRule_166 f_17_3 (.inl mw_183) rfl hn ?_
      refine mj_q_V3l d_Wa_gatherRule_169 h_Co_over (.inl mw_339) mw_340 mw_341 rfl rfl rfl hn rfl rfl (mj_wk h (fun v w10 h => ?_))
      obtain ⟨x11, rfl, h⟩ := h
      refine ⟨x11, rfl, ?_⟩
      refine mj_q_S2l d_Wa_gatherRule_172 h_CF_product (.inr mw_348) mw_349 rfl rfl (mj_wk h (fun v w12 h => ?_))
      obtain ⟨x13, rfl, h⟩ := h
      refine ⟨x13, rfl, ?_⟩
      refine mj_q_V4v d_Wa_gatherRule_175 h_Wa_keep (.inl mw_353) mw_355 mw_9 rfl rfl rfl hn rfl rfl (mj_wk h (fun v w14 h => ?_))
      obtain ⟨rfl, h⟩ := h
      refine ⟨rfl, ?_⟩
      refine mj_e_iinc (lv' := [some (mj_R 17), some (.inl l1), some (.inl l2), some (.inl l3), some (.inl l4), some (.inl l5), some (.inl l6), some (.inr (.inl l7)), none, some (.inl (l9 + 1)), some (.inr (.inl x7)), none]) d_Wa_gatherRule_178 rfl rfl ?_
      refine mj_r_goto (tgt := 113) d_Wa_gatherRule_181 (by decide) ?_
      refine mj_r_sub (lv' := [some (mj_R 17), some (.inl l1), some (.inl l2), some (.inl l3), some (.inl l4), some (.inl l5), some (.inl l6), some (.inr (.inl l7)), none, some (.inl (l9 + 1)), none, none]) ⟨.inr rfl, .inr rfl, .inr rfl, .inr rfl, .inr rfl, .inr rfl, .inr rfl, .inr rfl, .inl rfl, .inr rfl, .inl rfl, .inl rfl, trivial⟩ ?_
      exact h
theorem v_Co_over_0 {g : mj_G} {nn d : Nat} {xs : mj_M} {Post : Option mj_V → mj_w → Prop} (hn : 21 ≤ nn) {w : mj_w} {l1 l2 l3 : Int}
    (h : mj_i l1 ∧ (l1 = (-1) → (mj_i l2 ∧ mj_i l3 ∧ (l2 = l3 → (Post (some (.inr (.inl 1))) w)) ∧ (¬ l2 = l3 → (Post (some (.inr (.inl 0))) w)))) ∧ (¬ l1 = (-1) → ((l1 < 8 → (mj_J g y_CF_cellOf d 0 0 (0, [some (.inl l1), some (.inl l2), some (.inl l3)], [], mj_mem nn xs w) (mj_P nn xs (fun v w7 => ∃ x8 : Int, v = some (.inl x8) ∧ (0 ≤ x8 ∧ x8 < 845 ∧ Post (some (.inr (.inl (w7 16 x8 0)))) w7))))) ∧ (¬ l1 < 8 → (mj_J g y_Ta_isJust d 0 0 (0, [some (mj_R 4), some (.inl l1), some (.inl l2), some (.inl l3)], [], mj_mem nn xs w) (mj_P nn xs (fun v w11 => ∃ x12 : Int, v = some (.inl x12) ∧ (mj_i x12 ∧ (x12 = 0 → (Post (some (.inr (.inl 0))) w11)) ∧ (¬ x12 = 0 → (Post (some (.inr (.inl 1))) w11)))))))))) :
    mj_J g y_Co_over (d + 1) 0 0 (0, [some (mj_R 15), some (.inl l1), some (.inl l2), some (.inl l3)], [], mj_mem nn xs w) (mj_P nn xs Post) := by
  refine mj_r_iload_n d_Co_over_0 rfl ?_
  refine mj_r_iconst (x := (-1)) d_Co_over_1 rfl ?_
  obtain ⟨q1, h⟩ := h
  refine mj_s_icmp_ne (tgt := 16) d_Co_over_2 (by decide) q1 (mj_ik (by decide)) (fun q2 => ?_) (fun q2 => ?_)
  · have h := h.1 q2
    refine mj_r_iload_n d_Co_over_5 rfl ?_
    refine mj_r_iload_n d_Co_over_6 rfl ?_
    obtain ⟨q3, h⟩ := h
    obtain ⟨q4, h⟩ := h
    refine mj_s_icmp_ne (tgt := 14) d_Co_over_7 (by decide) q3 q4 (fun q5 => ?_) (fun q5 => ?_)
    · have h := h.1 q5
      refine mj_r_lconst (x := 1) d_Co_over_10 rfl ?_
      refine mj_r_goto (tgt := 15) d_Co_over_11 (by decide) ?_
      exact mj_r_lret d_Co_over_15 rfl (mj_q_ret h)
    · have h := h.2 q5
      refine mj_r_lconst (x := 0) d_Co_over_14 rfl ?_
      exact mj_r_lret d_Co_over_15 rfl (mj_q_ret h)
  · have h := h.2 q2
    refine mj_r_iload_n d_Co_over_16 rfl ?_
    refine mj_r_bipush (x := 8) d_Co_over_17 (by decide) ?_
    refine mj_s_icmp_lt (tgt := 41) d_Co_over_19 (by decide) q1 (mj_ik (by decide)) (fun q6 => ?_) (fun q6 => ?_)
    · have h := h.1 q6
      refine mj_r_aload_n d_Co_over_41 rfl ?_
      refine mj_q_getr d_Co_over_42 f_15_1 (.inl mw_165) rfl hn ?_
      refine mj_r_iload_n d_Co_over_45 rfl ?_
      refine mj_r_iload_n d_Co_over_46 rfl ?_
      refine mj_r_iload_n d_Co_over_47 rfl ?_
      refine mj_q_S3i d_Co_over_48 h_CF_cellOf (.inr mw_347) mw_327 rfl rfl (mj_wk h (fun v w7 h => ?_))
      obtain ⟨x8, rfl, h⟩ := h
      refine ⟨x8, rfl, ?_⟩
      obtain ⟨q9, h⟩ := h
      obtain ⟨q10, h⟩ := h
      refine mj_q_lald d_Co_over_51 rfl rfl hn rfl q9 q10 ?_
      exact mj_r_lret d_Co_over_52 rfl (mj_q_ret h)
    · have h := h.2 q6
      refine mj_r_aload_n d_Co_over_22 rfl ?_
      refine mj_q_getr d_Co_over_23 f_15_0 (.inl mw_164) rfl hn ?_
      refine mj_r_iload_n d_Co_over_26 rfl ?_
      refine mj_r_iload_n d_Co_over_27 rfl ?_
      refine mj_r_iload_n d_Co_over_28 rfl ?_
      refine mj_q_V3i d_Co_over_29 h_Ta_isJust (.inl mw_343) mw_344 mw_345 rfl rfl rfl hn rfl rfl (mj_wk h (fun v w11 h => ?_))
      obtain ⟨x12, rfl, h⟩ := h
      refine ⟨x12, rfl, ?_⟩
      obtain ⟨q13, h⟩ := h
      refine mj_s_if_eq (tgt := 39) d_Co_over_32 (by decide) q13 (fun q14 => ?_) (fun q14 => ?_)
      · have h := h.1 q14
        refine mj_r_lconst (x := 0) d_Co_over_39 rfl ?_
        exact mj_r_lret d_Co_over_40 rfl (mj_q_ret h)
      · have h := h.2 q14
        refine mj_r_lconst (x := 1) d_Co_over_35 rfl ?_
        refine mj_r_goto (tgt := 40) d_Co_over_36 (by decide) ?_
        exact mj_r_lret d_Co_over_40 rfl (mj_q_ret h)
theorem v_Ta_isJust_0 {g : mj_G} {nn d : Nat} {xs : mj_M} {Post : Option mj_V → mj_w → Prop} (hn : 21 ≤ nn) {w : mj_w} {l1 l2 l3 : Int}
    (h : mj_i l3 ∧ mj_i (l2 + 1) ∧ (l3 = (l2 + 1) → (mj_i l2 ∧ (l2 < 0 → (Post (some (.inl 0)) w)) ∧ (¬ l2 < 0 → (mj_i (w 4 0 0) ∧ (l2 < (w 4 0 0) → (0 ≤ l2 ∧ l2 < 12 ∧ mj_i (w 5 l2 0) ∧ mj_i l1 ∧ ((w 5 l2 0) = l1 → (Post (some (.inl 1)) w)) ∧ (¬ (w 5 l2 0) = l1 → (Post (some (.inl 0)) w)))) ∧ (¬ l2 < (w 4 0 0) → (Post (some (.inl 0)) w)))))) ∧ (¬ l3 = (l2 + 1) → (Post (some (.inl 0)) w))) :
    mj_J g y_Ta_isJust d 0 0 (0, [some (mj_R 4), some (.inl l1), some (.inl l2), some (.inl l3)], [], mj_mem nn xs w) (mj_P nn xs Post) := by
  refine mj_r_iload_n d_Ta_isJust_0 rfl ?_
  refine mj_r_iload_n d_Ta_isJust_1 rfl ?_
  refine mj_r_iconst (x := 1) d_Ta_isJust_2 rfl ?_
  refine mj_r_iadd d_Ta_isJust_3 ?_
  obtain ⟨q1, h⟩ := h
  obtain ⟨q2, h⟩ := h
  refine mj_s_icmp_ne (tgt := 33) d_Ta_isJust_4 (by decide) q1 q2 (fun q3 => ?_) (fun q3 => ?_)
  · have h := h.1 q3
    refine mj_r_iload_n d_Ta_isJust_7 rfl ?_
    obtain ⟨q4, h⟩ := h
    refine mj_s_if_lt (tgt := 33) d_Ta_isJust_8 (by decide) q4 (fun q5 => ?_) (fun q5 => ?_)
    · have h := h.1 q5
      refine mj_r_iconst (x := 0) d_Ta_isJust_33 rfl ?_
      exact mj_r_zret d_Ta_isJust_34 rfl (by decide) (mj_q_ret h)
    · have h := h.2 q5
      refine mj_r_iload_n d_Ta_isJust_11 rfl ?_
      refine mj_r_aload_n d_Ta_isJust_12 rfl ?_
      refine mj_q_geti d_Ta_isJust_13 f_4_0 (.inl mw_109) rfl hn ?_
      obtain ⟨q6, h⟩ := h
      refine mj_s_icmp_ge (tgt := 33) d_Ta_isJust_16 (by decide) q4 q6 (fun q7 => ?_) (fun q7 => ?_)
      · have h := h.1 q7
        refine mj_r_aload_n d_Ta_isJust_19 rfl ?_
        refine mj_q_getr d_Ta_isJust_20 f_4_1 (.inl mw_112) rfl hn ?_
        refine mj_r_iload_n d_Ta_isJust_23 rfl ?_
        obtain ⟨q8, h⟩ := h
        obtain ⟨q9, h⟩ := h
        refine mj_q_iald d_Ta_isJust_24 rfl rfl hn rfl q8 q9 ?_
        refine mj_r_iload_n d_Ta_isJust_25 rfl ?_
        obtain ⟨q10, h⟩ := h
        obtain ⟨q11, h⟩ := h
        refine mj_s_icmp_ne (tgt := 33) d_Ta_isJust_26 (by decide) q10 q11 (fun q12 => ?_) (fun q12 => ?_)
        · have h := h.1 q12
          refine mj_r_iconst (x := 1) d_Ta_isJust_29 rfl ?_
          refine mj_r_goto (tgt := 34) d_Ta_isJust_30 (by decide) ?_
          exact mj_r_zret d_Ta_isJust_34 rfl (by decide) (mj_q_ret h)
        · have h := h.2 q12
          refine mj_r_iconst (x := 0) d_Ta_isJust_33 rfl ?_
          exact mj_r_zret d_Ta_isJust_34 rfl (by decide) (mj_q_ret h)
      · have h := h.2 q7
        refine mj_r_iconst (x := 0) d_Ta_isJust_33 rfl ?_
        exact mj_r_zret d_Ta_isJust_34 rfl (by decide) (mj_q_ret h)
  · have h := h.2 q3
    refine mj_r_iconst (x := 0) d_Ta_isJust_33 rfl ?_
    exact mj_r_zret d_Ta_isJust_34 rfl (by decide) (mj_q_ret h)
theorem v_CF_product_0 {g : mj_G} {nn d : Nat} {xs : mj_M} {Post : Option mj_V → mj_w → Prop} (hn : 21 ≤ nn) {w : mj_w} {l0 l2 : Int}
    (h : mj_l l0 ∧ (l0 = 0 → (Post (some (.inr (.inl 0))) w)) ∧ (¬ l0 = 0 → (mj_l l2 ∧ (l2 = 0 → (Post (some (.inr (.inl 0))) w)) ∧ (¬ l2 = 0 → ((l0 = (-1) → (Post (some (.inr (.inl ((-1))))) w)) ∧ (¬ l0 = (-1) → ((l2 = (-1) → (Post (some (.inr (.inl ((-1))))) w)) ∧ (¬ l2 = (-1) → (0 < l2 ∧ mj_l (1000000000000 / l2) ∧ ((1000000000000 / l2) < l0 → (Post (some (.inr (.inl 1000000000000))) w)) ∧ (¬ (1000000000000 / l2) < l0 → (Post (some (.inr (.inl (l0 * l2)))) w))))))))))) :
    mj_J g y_CF_product d 0 0 (0, [some (.inr (.inl l0)), none, some (.inr (.inl l2)), none], [], mj_mem nn xs w) (mj_P nn xs Post) := by
  refine mj_r_lload_n d_CF_product_0 rfl ?_
  refine mj_r_lconst (x := 0) d_CF_product_1 rfl ?_
  obtain ⟨q1, h⟩ := h
  refine mj_s_l_eq (tgt := 12) d_CF_product_2 d_CF_product_3 (by decide) q1 (mj_lk (by decide)) (fun q2 => ?_) (fun q2 => ?_)
  · have h := h.1 q2
    refine mj_r_lconst (x := 0) d_CF_product_12 rfl ?_
    exact mj_r_lret d_CF_product_13 rfl (mj_q_ret h)
  · have h := h.2 q2
    refine mj_r_lload_n d_CF_product_6 rfl ?_
    refine mj_r_lconst (x := 0) d_CF_product_7 rfl ?_
    obtain ⟨q3, h⟩ := h
    refine mj_s_l_ne (tgt := 14) d_CF_product_8 d_CF_product_9 (by decide) q3 (mj_lk (by decide)) (fun q4 => ?_) (fun q4 => ?_)
    · have h := h.1 q4
      refine mj_r_lconst (x := 0) d_CF_product_12 rfl ?_
      exact mj_r_lret d_CF_product_13 rfl (mj_q_ret h)
    · have h := h.2 q4
      refine mj_r_lload_n d_CF_product_14 rfl ?_
      refine mj_r_ldc2v (x := (-1)) d_CF_product_15 mw_351 (by decide) ?_
      refine mj_s_l_eq (tgt := 30) d_CF_product_18 d_CF_product_19 (by decide) q1 (mj_lk (by decide)) (fun q5 => ?_) (fun q5 => ?_)
      · have h := h.1 q5
        refine mj_r_ldc2v (x := (-1)) d_CF_product_30 mw_351 (by decide) ?_
        exact mj_r_lret d_CF_product_33 rfl (mj_q_ret h)
      · have h := h.2 q5
        refine mj_r_lload_n d_CF_product_22 rfl ?_
        refine mj_r_ldc2v (x := (-1)) d_CF_product_23 mw_351 (by decide) ?_
        refine mj_s_l_ne (tgt := 34) d_CF_product_26 d_CF_product_27 (by decide) q3 (mj_lk (by decide)) (fun q6 => ?_) (fun q6 => ?_)
        · have h := h.1 q6
          refine mj_r_ldc2v (x := (-1)) d_CF_product_30 mw_351 (by decide) ?_
          exact mj_r_lret d_CF_product_33 rfl (mj_q_ret h)
        · have h := h.2 q6
          refine mj_r_lload_n d_CF_product_34 rfl ?_
          refine mj_r_ldc2v (x := 1000000000000) d_CF_product_35 mw_352 (by decide) ?_
          refine mj_r_lload_n d_CF_product_38 rfl ?_
          obtain ⟨q7, h⟩ := h
          refine mj_r_ldiv d_CF_product_39 (mj_lk (by decide)) q3 (by decide) q7 ?_
          obtain ⟨q8, h⟩ := h
          refine mj_s_l_le (tgt := 50) d_CF_product_40 d_CF_product_41 (by decide) q1 q8 (fun q9 => ?_) (fun q9 => ?_)
          · have h := h.1 q9
            refine mj_r_ldc2v (x := 1000000000000) d_CF_product_44 mw_352 (by decide) ?_
            refine mj_r_goto (tgt := 53) d_CF_product_47 (by decide) ?_
            exact mj_r_lret d_CF_product_53 rfl (mj_q_ret h)
          · have h := h.2 q9
            refine mj_r_lload_n d_CF_product_50 rfl ?_
            refine mj_r_lload_n d_CF_product_51 rfl ?_
            refine mj_r_lmul d_CF_product_52 ?_
            exact mj_r_lret d_CF_product_53 rfl (mj_q_ret h)
theorem v_Wa_keep_0 {g : mj_G} {nn d : Nat} {xs : mj_M} {Post : Option mj_V → mj_w → Prop} (hn : 21 ≤ nn) {w : mj_w} {l1 l2 l3 l4 : Int}
    (h : mj_l l4 ∧ (l4 = 0 → (Post none w)) ∧ (¬ l4 = 0 → (mj_i (w 17 4 0) ∧ ((w 17 4 0) < 910 → (0 ≤ (w 17 4 0) ∧ (w 17 4 0) < 910 ∧ (∀ w7, w7 = mj_wu w 18 (w 17 4 0) 0 l1 → 0 ≤ (w7 17 4 0) ∧ (w7 17 4 0) < 910 ∧ (∀ w11, w11 = mj_wu w7 19 (w7 17 4 0) 0 ((l2 * 13) + l3) → 0 ≤ (w11 17 4 0) ∧ (w11 17 4 0) < 910 ∧ (∀ w15, w15 = mj_wu w11 20 (w11 17 4 0) 0 l4 → ∀ w17, w17 = mj_wu w15 17 4 0 ((w15 17 4 0) + 1) → Post none w17))))) ∧ (¬ (w 17 4 0) < 910 → (Post none w))))) :
    mj_J g y_Wa_keep d 0 0 (0, [some (mj_R 17), some (.inl l1), some (.inl l2), some (.inl l3), some (.inr (.inl l4)), none], [], mj_mem nn xs w) (mj_P nn xs Post) := by
  refine mj_r_lload d_Wa_keep_0 rfl ?_
  refine mj_r_lconst (x := 0) d_Wa_keep_2 rfl ?_
  obtain ⟨q1, h⟩ := h
  refine mj_s_l_eq (tgt := 63) d_Wa_keep_3 d_Wa_keep_4 (by decide) q1 (mj_lk (by decide)) (fun q2 => ?_) (fun q2 => ?_)
  · have h := h.1 q2
    exact mj_r_vret d_Wa_keep_63 rfl (mj_q_ret h)
  · have h := h.2 q2
    refine mj_r_aload_n d_Wa_keep_7 rfl ?_
    refine mj_q_geti d_Wa_keep_8 f_17_4 (.inl mw_184) rfl hn ?_
    refine mj_r_sipush (x := 910) d_Wa_keep_11 (by decide) ?_
    obtain ⟨q3, h⟩ := h
    refine mj_s_icmp_ge (tgt := 63) d_Wa_keep_14 (by decide) q3 (mj_ik (by decide)) (fun q4 => ?_) (fun q4 => ?_)
    · have h := h.1 q4
      refine mj_r_aload_n d_Wa_keep_17 rfl ?_
      refine mj_q_getr d_Wa_keep_18 f_17_5 (.inl mw_186) rfl hn ?_
      refine mj_r_aload_n d_Wa_keep_21 rfl ?_
      refine mj_q_geti d_Wa_keep_22 f_17_4 (.inl mw_184) rfl hn ?_
      refine mj_r_iload_n d_Wa_keep_25 rfl ?_
      obtain ⟨q5, h⟩ := h
      obtain ⟨q6, h⟩ := h
      refine mj_q_iast d_Wa_keep_26 rfl rfl hn rfl q5 q6 (fun w7 e8 => ?_)
      have h := h w7 e8
      refine mj_r_aload_n d_Wa_keep_27 rfl ?_
      refine mj_q_getr d_Wa_keep_28 f_17_6 (.inl mw_188) rfl hn ?_
      refine mj_r_aload_n d_Wa_keep_31 rfl ?_
      refine mj_q_geti d_Wa_keep_32 f_17_4 (.inl mw_184) rfl hn ?_
      refine mj_r_iload_n d_Wa_keep_35 rfl ?_
      refine mj_r_bipush (x := 13) d_Wa_keep_36 (by decide) ?_
      refine mj_r_imul d_Wa_keep_38 ?_
      refine mj_r_iload_n d_Wa_keep_39 rfl ?_
      refine mj_r_iadd d_Wa_keep_40 ?_
      obtain ⟨q9, h⟩ := h
      obtain ⟨q10, h⟩ := h
      refine mj_q_iast d_Wa_keep_41 rfl rfl hn rfl q9 q10 (fun w11 e12 => ?_)
      have h := h w11 e12
      refine mj_r_aload_n d_Wa_keep_42 rfl ?_
      refine mj_q_getr d_Wa_keep_43 f_17_7 (.inl mw_189) rfl hn ?_
      refine mj_r_aload_n d_Wa_keep_46 rfl ?_
      refine mj_q_geti d_Wa_keep_47 f_17_4 (.inl mw_184) rfl hn ?_
      refine mj_r_lload d_Wa_keep_50 rfl ?_
      obtain ⟨q13, h⟩ := h
      obtain ⟨q14, h⟩ := h
      refine mj_q_last d_Wa_keep_52 rfl rfl hn rfl q13 q14 (fun w15 e16 => ?_)
      have h := h w15 e16
      refine mj_r_aload_n d_Wa_keep_53 rfl ?_
      refine mj_r_dup d_Wa_keep_54 rfl ?_
      refine mj_q_geti d_Wa_keep_55 f_17_4 (.inl mw_184) rfl hn ?_
      refine mj_r_iconst (x := 1) d_Wa_keep_58 rfl ?_
      refine mj_r_iadd d_Wa_keep_59 ?_
      refine mj_q_put d_Wa_keep_60 f_17_4 (mj_fit_I _) (.inl mw_184) rfl hn (fun w17 e18 => ?_)
      have h := h w17 e18
      exact mj_r_vret d_Wa_keep_63 rfl (mj_q_ret h)
    · have h := h.2 q4
      exact mj_r_vret d_Wa_keep_63 rfl (mj_q_ret h)
theorem v_Fo_countTrees_0 {g : mj_G} {nn d : Nat} {xs : mj_M} {Post : Option mj_V → mj_w → Prop} (hn : 21 ≤ nn) {w : mj_w} {l1 l2 : Int}
    (h : mj_J g y_Fo_countTrees (d + 1) 0 0 (5, [some (mj_R 11), some (.inl l1), some (.inl l2), some (.inl 1), some (.inl 0), none, none], [], mj_mem nn xs w) (mj_P nn xs Post)) :
    mj_J g y_Fo_countTrees (d + 1) 0 0 (0, [some (mj_R 11), some (.inl l1), some (.inl l2), none, none, none, none], [], mj_mem nn xs w) (mj_P nn xs Post) := by
  refine mj_r_iconst (x := 1) d_Fo_countTrees_0 rfl ?_
  refine mj_e_istore_n (lv' := [some (mj_R 11), some (.inl l1), some (.inl l2), some (.inl 1), none, none, none]) d_Fo_countTrees_1 rfl rfl ?_
  refine mj_r_iconst (x := 0) d_Fo_countTrees_2 rfl ?_
  refine mj_e_istore (lv' := [some (mj_R 11), some (.inl l1), some (.inl l2), some (.inl 1), some (.inl 0), none, none]) d_Fo_countTrees_3 rfl rfl ?_
  exact h
theorem v_Fo_countTrees_5 {g : mj_G} {nn d : Nat} {xs : mj_M} {Post : Option mj_V → mj_w → Prop} (hn : 21 ≤ nn) {w : mj_w} {l1 l2 l3 l4 : Int}
    (h : mj_i l3 ∧ (l3 = 0 → (Post none w)) ∧ (¬ l3 = 0 → (mj_i l4 ∧ (l4 < 5 → (mj_J g y_Fo_countTrees (d + 1) 0 0 (20, [some (mj_R 11), some (.inl l1), some (.inl l2), some (.inl 0), some (.inl l4), some (.inl 0), none], [], mj_mem nn xs w) (mj_P nn xs Post))) ∧ (¬ l4 < 5 → (Post none w))))) :
    mj_J g y_Fo_countTrees (d + 1) 0 0 (5, [some (mj_R 11), some (.inl l1), some (.inl l2), some (.inl l3), some (.inl l4), none, none], [], mj_mem nn xs w) (mj_P nn xs Post) := by
  refine mj_r_iload_n d_Fo_countTrees_5 rfl ?_
  obtain ⟨q1, h⟩ := h
  refine mj_s_if_eq (tgt := 119) d_Fo_countTrees_6 (by decide) q1 (fun q2 => ?_) (fun q2 => ?_)
  · have h := h.1 q2
    exact mj_r_vret d_Fo_countTrees_119 rfl (mj_q_ret h)
  · have h := h.2 q2
    refine mj_r_iload d_Fo_countTrees_9 rfl ?_
    refine mj_r_iconst (x := 5) d_Fo_countTrees_11 rfl ?_
    obtain ⟨q3, h⟩ := h
    refine mj_s_icmp_ge (tgt := 119) d_Fo_countTrees_12 (by decide) q3 (mj_ik (by decide)) (fun q4 => ?_) (fun q4 => ?_)
    · have h := h.1 q4
      refine mj_r_iconst (x := 0) d_Fo_countTrees_15 rfl ?_
      refine mj_e_istore_n (lv' := [some (mj_R 11), some (.inl l1), some (.inl l2), some (.inl 0), some (.inl l4), none, none]) d_Fo_countTrees_16 rfl rfl ?_
      refine mj_r_iconst (x := 0) d_Fo_countTrees_17 rfl ?_
      refine mj_e_istore (lv' := [some (mj_R 11), some (.inl l1), some (.inl l2), some (.inl 0), some (.inl l4), some (.inl 0), none]) d_Fo_countTrees_18 rfl rfl ?_
      exact h
    · have h := h.2 q4
      exact mj_r_vret d_Fo_countTrees_119 rfl (mj_q_ret h)
theorem v_Fo_countTrees_20 {g : mj_G} {nn d : Nat} {xs : mj_M} {Post : Option mj_V → mj_w → Prop} (hn : 21 ≤ nn) {w : mj_w} {l1 l2 l3 l4 l5 : Int}
    (h : mj_i l5 ∧ (l5 < 5 → (mj_J g y_CF_cellOf d 0 0 (0, [some (.inl l5), some (.inl l1), some (.inl l2)], [], mj_mem nn xs w) (mj_P nn xs (fun v w3 => ∃ x4 : Int, v = some (.inl x4) ∧ (0 ≤ x4 ∧ x4 < 845 ∧ mj_l (w3 16 x4 0) ∧ ((w3 16 x4 0) = (-1) → (mj_J g y_Wa_gather d 0 0 (0, [some (mj_R 17), some (.inl l5), some (.inl l1), some (.inl l2), none], [], mj_mem nn xs w3) (mj_P nn xs (fun v w9 => v = none ∧ (mj_J g y_Wa_treesOfAll d 0 0 (0, [some (mj_R 17), none, none, none], [], mj_mem nn xs w9) (mj_P nn xs (fun v w11 => ∃ x12 : Int, v = some (.inr (.inl x12)) ∧ (∀ w13, w13 = mj_wu w11 16 x4 0 x12 → mj_i l3 ∧ (l3 = 0 → (mj_l (w13 16 x4 0) ∧ ((w13 16 x4 0) = (-1) → (mj_J g y_Fo_countTrees (d + 1) 0 0 (20, [some (mj_R 11), some (.inl l1), some (.inl l2), some (.inl 0), some (.inl l4), some (.inl (l5 + 1)), none], [], mj_mem nn xs w13) (mj_P nn xs Post))) ∧ (¬ (w13 16 x4 0) = (-1) → (mj_J g y_Fo_countTrees (d + 1) 0 0 (20, [some (mj_R 11), some (.inl l1), some (.inl l2), some (.inl 1), some (.inl l4), some (.inl (l5 + 1)), none], [], mj_mem nn xs w13) (mj_P nn xs Post))))) ∧ (¬ l3 = 0 → (mj_J g y_Fo_countTrees (d + 1) 0 0 (20, [some (mj_R 11), some (.inl l1), some (.inl l2), some (.inl 1), some (.inl l4), some (.inl (l5 + 1)), none], [], mj_mem nn xs w13) (mj_P nn xs Post))))))))))) ∧ (¬ (w3 16 x4 0) = (-1) → (mj_J g y_Fo_countTrees (d + 1) 0 0 (20, [some (mj_R 11), some (.inl l1), some (.inl l2), some (.inl l3), some (.inl l4), some (.inl (l5 + 1)), none], [], mj_mem nn xs w3) (mj_P nn xs Post)))))))) ∧ (¬ l5 < 5 → (mj_J g y_Fo_countTrees (d + 1) 0 0 (5, [some (mj_R 11), some (.inl l1), some (.inl l2), some (.inl l3), some (.inl (l4 + 1)), none, none], [], mj_mem nn xs w) (mj_P nn xs Post)))) :
    mj_J g y_Fo_countTrees (d + 1) 0 0 (20, [some (mj_R 11), some (.inl l1), some (.inl l2), some (.inl l3), some (.inl l4), some (.inl l5), none], [], mj_mem nn xs w) (mj_P nn xs Post) := by
  refine mj_r_iload d_Fo_countTrees_20 rfl ?_
  refine mj_r_iconst (x := 5) d_Fo_countTrees_22 rfl ?_
  obtain ⟨q1, h⟩ := h
  refine mj_s_icmp_ge (tgt := 113) d_Fo_countTrees_23 (by decide) q1 (mj_ik (by decide)) (fun q2 => ?_) (fun q2 => ?_)
  · have h := h.1 q2
    refine mj_r_iload d_Fo_countTrees_26 rfl ?_
    refine mj_r_iload_n d_Fo_countTrees_28 rfl ?_
    refine mj_r_iload_n d_Fo_countTrees_29 rfl ?_
    refine mj_q_S3i d_Fo_countTrees_30 h_CF_cellOf (.inr mw_326) mw_327 rfl rfl (mj_wk h (fun v w3 h => ?_))
    obtain ⟨x4, rfl, h⟩ := h
    refine ⟨x4, rfl, ?_⟩
    refine mj_e_istore (lv' := [some (mj_R 11), some (.inl l1), some (.inl l2), some (.inl l3), some (.inl l4), some (.inl l5), some (.inl x4)]) d_Fo_countTrees_33 rfl rfl ?_
    refine mj_r_aload_n d_Fo_countTrees_35 rfl ?_
    refine mj_q_getr d_Fo_countTrees_36 f_11_1 (.inl mw_209) rfl hn ?_
    refine mj_q_getr d_Fo_countTrees_39 f_15_1 (.inr mw_166) rfl hn ?_
    refine mj_r_iload d_Fo_countTrees_42 rfl ?_
    obtain ⟨q5, h⟩ := h
    obtain ⟨q6, h⟩ := h
    refine mj_q_lald d_Fo_countTrees_44 rfl rfl hn rfl q5 q6 ?_
    refine mj_r_ldc2v (x := (-1)) d_Fo_countTrees_45 mw_357 (by decide) ?_
    obtain ⟨q7, h⟩ := h
    refine mj_s_l_ne (tgt := 107) d_Fo_countTrees_48 d_Fo_countTrees_49 (by decide) q7 (mj_lk (by decide)) (fun q8 => ?_) (fun q8 => ?_)
    · have h := h.1 q8
      refine mj_r_aload_n d_Fo_countTrees_52 rfl ?_
      refine mj_q_getr d_Fo_countTrees_53 f_11_2 (.inl mw_210) rfl hn ?_
      refine mj_r_iload d_Fo_countTrees_56 rfl ?_
      refine mj_r_iload_n d_Fo_countTrees_58 rfl ?_
      refine mj_r_iload_n d_Fo_countTrees_59 rfl ?_
      refine mj_q_V3v d_Fo_countTrees_60 h_Wa_gather (.inl mw_329) mw_330 mw_331 rfl rfl rfl hn rfl rfl (mj_wk h (fun v w9 h => ?_))
      obtain ⟨rfl, h⟩ := h
      refine ⟨rfl, ?_⟩
      refine mj_r_aload_n d_Fo_countTrees_63 rfl ?_
      refine mj_q_getr d_Fo_countTrees_64 f_11_1 (.inl mw_209) rfl hn ?_
      refine mj_q_getr d_Fo_countTrees_67 f_15_1 (.inr mw_166) rfl hn ?_
      refine mj_r_iload d_Fo_countTrees_70 rfl ?_
      refine mj_r_aload_n d_Fo_countTrees_72 rfl ?_
      refine mj_q_getr d_Fo_countTrees_73 f_11_2 (.inl mw_210) rfl hn ?_
      refine mj_q_V0l d_Fo_countTrees_76 h_Wa_treesOfAll (.inl mw_362) mw_363 mw_364 rfl rfl rfl hn rfl rfl (mj_wk h (fun v w11 h => ?_))
      obtain ⟨x12, rfl, h⟩ := h
      refine ⟨x12, rfl, ?_⟩
      refine mj_q_last d_Fo_countTrees_79 rfl rfl hn rfl q5 q6 (fun w13 e14 => ?_)
      have h := h w13 e14
      refine mj_r_iload_n d_Fo_countTrees_80 rfl ?_
      obtain ⟨q15, h⟩ := h
      refine mj_s_if_ne (tgt := 101) d_Fo_countTrees_81 (by decide) q15 (fun q16 => ?_) (fun q16 => ?_)
      · have h := h.1 q16
        refine mj_r_aload_n d_Fo_countTrees_84 rfl ?_
        refine mj_q_getr d_Fo_countTrees_85 f_11_1 (.inl mw_209) rfl hn ?_
        refine mj_q_getr d_Fo_countTrees_88 f_15_1 (.inr mw_166) rfl hn ?_
        refine mj_r_iload d_Fo_countTrees_91 rfl ?_
        refine mj_q_lald d_Fo_countTrees_93 rfl rfl hn rfl q5 q6 ?_
        refine mj_r_ldc2v (x := (-1)) d_Fo_countTrees_94 mw_357 (by decide) ?_
        obtain ⟨q17, h⟩ := h
        refine mj_s_l_eq (tgt := 105) d_Fo_countTrees_97 d_Fo_countTrees_98 (by decide) q17 (mj_lk (by decide)) (fun q18 => ?_) (fun q18 => ?_)
        · have h := h.1 q18
          refine mj_r_iconst (x := 0) d_Fo_countTrees_105 rfl ?_
          refine mj_e_istore_n (lv' := [some (mj_R 11), some (.inl l1), some (.inl l2), some (.inl 0), some (.inl l4), some (.inl l5), some (.inl x4)]) d_Fo_countTrees_106 rfl rfl ?_
          refine mj_e_iinc (lv' := [some (mj_R 11), some (.inl l1), some (.inl l2), some (.inl 0), some (.inl l4), some (.inl (l5 + 1)), some (.inl x4)]) d_Fo_countTrees_107 rfl rfl ?_
          refine mj_r_goto (tgt := 20) d_Fo_countTrees_110 (by decide) ?_
          refine mj_r_sub (lv' := [some (mj_R 11), some (.inl l1), some (.inl l2), some (.inl 0), some (.inl l4), some (.inl (l5 + 1)), none]) ⟨.inr rfl, .inr rfl, .inr rfl, .inr rfl, .inr rfl, .inr rfl, .inl rfl, trivial⟩ ?_
          exact h
        · have h := h.2 q18
          refine mj_r_iconst (x := 1) d_Fo_countTrees_101 rfl ?_
          refine mj_r_goto (tgt := 106) d_Fo_countTrees_102 (by decide) ?_
          refine mj_e_istore_n (lv' := [some (mj_R 11), some (.inl l1), some (.inl l2), some (.inl 1), some (.inl l4), some (.inl l5), some (.inl x4)]) d_Fo_countTrees_106 rfl rfl ?_
          refine mj_e_iinc (lv' := [some (mj_R 11), some (.inl l1), some (.inl l2), some (.inl 1), some (.inl l4), some (.inl (l5 + 1)), some (.inl x4)]) d_Fo_countTrees_107 rfl rfl ?_
          refine mj_r_goto (tgt := 20) d_Fo_countTrees_110 (by decide) ?_
          refine mj_r_sub (lv' := [some (mj_R 11), some (.inl l1), some (.inl l2), some (.inl 1), some (.inl l4), some (.inl (l5 + 1)), none]) ⟨.inr rfl, .inr rfl, .inr rfl, .inr rfl, .inr rfl, .inr rfl, .inl rfl, trivial⟩ ?_
          exact h
      · have h := h.2 q16
        refine mj_r_iconst (x := 1) d_Fo_countTrees_101 rfl ?_
        refine mj_r_goto (tgt := 106) d_Fo_countTrees_102 (by decide) ?_
        refine mj_e_istore_n (lv' := [some (mj_R 11), some (.inl l1), some (.inl l2), some (.inl 1), some (.inl l4), some (.inl l5), some (.inl x4)]) d_Fo_countTrees_106 rfl rfl ?_
        refine mj_e_iinc (lv' := [some (mj_R 11), some (.inl l1), some (.inl l2), some (.inl 1), some (.inl l4), some (.inl (l5 + 1)), some (.inl x4)]) d_Fo_countTrees_107 rfl rfl ?_
        refine mj_r_goto (tgt := 20) d_Fo_countTrees_110 (by decide) ?_
        refine mj_r_sub (lv' := [some (mj_R 11), some (.inl l1), some (.inl l2), some (.inl 1), some (.inl l4), some (.inl (l5 + 1)), none]) ⟨.inr rfl, .inr rfl, .inr rfl, .inr rfl, .inr rfl, .inr rfl, .inl rfl, trivial⟩ ?_
        exact h
    · have h := h.2 q8
      refine mj_e_iinc (lv' := [some (mj_R 11), some (.inl l1), some (.inl l2), some (.inl l3), some (.inl l4), some (.inl (l5 + 1)), some (.inl x4)]) d_Fo_countTrees_107 rfl rfl ?_
      refine mj_r_goto (tgt := 20) d_Fo_countTrees_110 (by decide) ?_
      refine mj_r_sub (lv' := [some (mj_R 11), some (.inl l1), some (.inl l2), some (.inl l3), some (.inl l4), some (.inl (l5 + 1)), none]) ⟨.inr rfl, .inr rfl, .inr rfl, .inr rfl, .inr rfl, .inr rfl, .inl rfl, trivial⟩ ?_
      exact h
  · have h := h.2 q2
    refine mj_e_iinc (lv' := [some (mj_R 11), some (.inl l1), some (.inl l2), some (.inl l3), some (.inl (l4 + 1)), some (.inl l5), none]) d_Fo_countTrees_113 rfl rfl ?_
    refine mj_r_goto (tgt := 5) d_Fo_countTrees_116 (by decide) ?_
    refine mj_r_sub (lv' := [some (mj_R 11), some (.inl l1), some (.inl l2), some (.inl l3), some (.inl (l4 + 1)), none, none]) ⟨.inr rfl, .inr rfl, .inr rfl, .inr rfl, .inr rfl, .inl rfl, .inl rfl, trivial⟩ ?_
    exact h
theorem v_Wa_treesOfAll_0 {g : mj_G} {nn d : Nat} {xs : mj_M} {Post : Option mj_V → mj_w → Prop} (hn : 21 ≤ nn) {w : mj_w}
    (h : mj_J g y_Wa_treesOfAll (d + 1) 0 0 (4, [some (mj_R 17), some (.inr (.inl 0)), none, some (.inl 0)], [], mj_mem nn xs w) (mj_P nn xs Post)) :
    mj_J g y_Wa_treesOfAll (d + 1) 0 0 (0, [some (mj_R 17), none, none, none], [], mj_mem nn xs w) (mj_P nn xs Post) := by
  refine mj_r_lconst (x := 0) d_Wa_treesOfAll_0 rfl ?_
  refine mj_e_lstore_n (lv' := [some (mj_R 17), some (.inr (.inl 0)), none, none]) d_Wa_treesOfAll_1 rfl rfl ?_
  refine mj_r_iconst (x := 0) d_Wa_treesOfAll_2 rfl ?_
  refine mj_e_istore_n (lv' := [some (mj_R 17), some (.inr (.inl 0)), none, some (.inl 0)]) d_Wa_treesOfAll_3 rfl rfl ?_
  exact h
theorem v_Wa_treesOfAll_4 {g : mj_G} {nn d : Nat} {xs : mj_M} {Post : Option mj_V → mj_w → Prop} (hn : 21 ≤ nn) {w : mj_w} {l1 l3 : Int}
    (h : mj_i l3 ∧ mj_i (w 17 4 0) ∧ (l3 < (w 17 4 0) → (0 ≤ l3 ∧ l3 < 910 ∧ mj_J g y_CF_sum d 0 0 (0, [some (.inr (.inl l1)), none, some (.inr (.inl (w 20 l3 0))), none], [], mj_mem nn xs w) (mj_P nn xs (fun v w6 => ∃ x7 : Int, v = some (.inr (.inl x7)) ∧ (mj_J g y_Wa_treesOfAll (d + 1) 0 0 (4, [some (mj_R 17), some (.inr (.inl x7)), none, some (.inl (l3 + 1))], [], mj_mem nn xs w6) (mj_P nn xs Post)))))) ∧ (¬ l3 < (w 17 4 0) → (Post (some (.inr (.inl l1))) w))) :
    mj_J g y_Wa_treesOfAll (d + 1) 0 0 (4, [some (mj_R 17), some (.inr (.inl l1)), none, some (.inl l3)], [], mj_mem nn xs w) (mj_P nn xs Post) := by
  refine mj_r_iload_n d_Wa_treesOfAll_4 rfl ?_
  refine mj_r_aload_n d_Wa_treesOfAll_5 rfl ?_
  refine mj_q_geti d_Wa_treesOfAll_6 f_17_4 (.inl mw_184) rfl hn ?_
  obtain ⟨q1, h⟩ := h
  obtain ⟨q2, h⟩ := h
  refine mj_s_icmp_ge (tgt := 29) d_Wa_treesOfAll_9 (by decide) q1 q2 (fun q3 => ?_) (fun q3 => ?_)
  · have h := h.1 q3
    refine mj_r_lload_n d_Wa_treesOfAll_12 rfl ?_
    refine mj_r_aload_n d_Wa_treesOfAll_13 rfl ?_
    refine mj_q_getr d_Wa_treesOfAll_14 f_17_7 (.inl mw_189) rfl hn ?_
    refine mj_r_iload_n d_Wa_treesOfAll_17 rfl ?_
    obtain ⟨q4, h⟩ := h
    obtain ⟨q5, h⟩ := h
    refine mj_q_lald d_Wa_treesOfAll_18 rfl rfl hn rfl q4 q5 ?_
    refine mj_q_S2l d_Wa_treesOfAll_19 h_CF_sum (.inr mw_366) mw_367 rfl rfl (mj_wk h (fun v w6 h => ?_))
    obtain ⟨x7, rfl, h⟩ := h
    refine ⟨x7, rfl, ?_⟩
    refine mj_e_lstore_n (lv' := [some (mj_R 17), some (.inr (.inl x7)), none, some (.inl l3)]) d_Wa_treesOfAll_22 rfl rfl ?_
    refine mj_e_iinc (lv' := [some (mj_R 17), some (.inr (.inl x7)), none, some (.inl (l3 + 1))]) d_Wa_treesOfAll_23 rfl rfl ?_
    refine mj_r_goto (tgt := 4) d_Wa_treesOfAll_26 (by decide) ?_
    exact h
  · have h := h.2 q3
    refine mj_r_lload_n d_Wa_treesOfAll_29 rfl ?_
    exact mj_r_lret d_Wa_treesOfAll_30 rfl (mj_q_ret h)
theorem v_CF_sum_0 {g : mj_G} {nn d : Nat} {xs : mj_M} {Post : Option mj_V → mj_w → Prop} (hn : 21 ≤ nn) {w : mj_w} {l0 l2 : Int}
    (h : mj_l l0 ∧ (l0 = (-1) → (Post (some (.inr (.inl ((-1))))) w)) ∧ (¬ l0 = (-1) → (mj_l l2 ∧ (l2 = (-1) → (Post (some (.inr (.inl ((-1))))) w)) ∧ (¬ l2 = (-1) → (mj_l (l0 + l2) ∧ Post (some (.inr (.inl (mj_min 1000000000000 (l0 + l2))))) w))))) :
    mj_J g y_CF_sum (d + 1) 0 0 (0, [some (.inr (.inl l0)), none, some (.inr (.inl l2)), none], [], mj_mem nn xs w) (mj_P nn xs Post) := by
  refine mj_r_lload_n d_CF_sum_0 rfl ?_
  refine mj_r_ldc2v (x := (-1)) d_CF_sum_1 mw_351 (by decide) ?_
  obtain ⟨q1, h⟩ := h
  refine mj_s_l_eq (tgt := 16) d_CF_sum_4 d_CF_sum_5 (by decide) q1 (mj_lk (by decide)) (fun q2 => ?_) (fun q2 => ?_)
  · have h := h.1 q2
    refine mj_r_ldc2v (x := (-1)) d_CF_sum_16 mw_351 (by decide) ?_
    exact mj_r_lret d_CF_sum_19 rfl (mj_q_ret h)
  · have h := h.2 q2
    refine mj_r_lload_n d_CF_sum_8 rfl ?_
    refine mj_r_ldc2v (x := (-1)) d_CF_sum_9 mw_351 (by decide) ?_
    obtain ⟨q3, h⟩ := h
    refine mj_s_l_ne (tgt := 20) d_CF_sum_12 d_CF_sum_13 (by decide) q3 (mj_lk (by decide)) (fun q4 => ?_) (fun q4 => ?_)
    · have h := h.1 q4
      refine mj_r_ldc2v (x := (-1)) d_CF_sum_16 mw_351 (by decide) ?_
      exact mj_r_lret d_CF_sum_19 rfl (mj_q_ret h)
    · have h := h.2 q4
      refine mj_r_ldc2v (x := 1000000000000) d_CF_sum_20 mw_352 (by decide) ?_
      refine mj_r_lload_n d_CF_sum_23 rfl ?_
      refine mj_r_lload_n d_CF_sum_24 rfl ?_
      refine mj_r_ladd d_CF_sum_25 ?_
      obtain ⟨q5, h⟩ := h
      refine mj_r_minL d_CF_sum_26 mw_369 mw_370 mw_66 mw_371 rfl (mj_lk (by decide)) q5 ?_
      exact mj_r_lret d_CF_sum_29 rfl (mj_q_ret h)
theorem v_Fo_nodesMet_0 {g : mj_G} {nn d : Nat} {xs : mj_M} {Post : Option mj_V → mj_w → Prop} (hn : 21 ≤ nn) {w : mj_w}
    (h : mj_J g y_Fo_nodesMet (d + 1) 0 0 (2, [some (mj_R 11), some (.inl 0), none], [], mj_mem nn xs w) (mj_P nn xs Post)) :
    mj_J g y_Fo_nodesMet (d + 1) 0 0 (0, [some (mj_R 11), none, none], [], mj_mem nn xs w) (mj_P nn xs Post) := by
  refine mj_r_iconst (x := 0) d_Fo_nodesMet_0 rfl ?_
  refine mj_e_istore_n (lv' := [some (mj_R 11), some (.inl 0), none]) d_Fo_nodesMet_1 rfl rfl ?_
  exact h
theorem v_Fo_nodesMet_2 {g : mj_G} {nn d : Nat} {xs : mj_M} {Post : Option mj_V → mj_w → Prop} (hn : 21 ≤ nn) {w : mj_w} {l1 : Int}
    (h : mj_i l1 ∧ (l1 < 845 → (0 ≤ l1 ∧ l1 < 845 ∧ (∀ w5, w5 = mj_wu w 13 l1 0 0 → mj_J g y_Fo_nodesMet (d + 1) 0 0 (2, [some (mj_R 11), some (.inl (l1 + 1)), none], [], mj_mem nn xs w5) (mj_P nn xs Post)))) ∧ (¬ l1 < 845 → (∀ w7, w7 = mj_wu w 11 6 0 0 → mj_J g y_Fo_treesOver d 0 0 (0, [some (mj_R 11), some (.inl 0), some (.inl 0), some (.inl (w7 4 0 0))], [], mj_mem nn xs w7) (mj_P nn xs (fun v w9 => ∃ x10 : Int, v = some (.inr (.inl x10)) ∧ (mj_l x10 ∧ (x10 = 0 → (mj_J g y_Fo_nodesMet (d + 1) 0 0 (63, [some (mj_R 11), some (.inl 0), none], [], mj_mem nn xs w9) (mj_P nn xs Post))) ∧ (¬ x10 = 0 → (mj_J g y_CF_cellOf d 0 0 (0, [some (.inl 0), some (.inl 0), some (.inl (w9 4 0 0))], [], mj_mem nn xs w9) (mj_P nn xs (fun v w13 => ∃ x14 : Int, v = some (.inl x14) ∧ (mj_J g y_Fo_meet d 0 0 (0, [some (mj_R 11), some (.inl x14)], [], mj_mem nn xs w13) (mj_P nn xs (fun v w15 => v = none ∧ (mj_J g y_Fo_nodesMet (d + 1) 0 0 (63, [some (mj_R 11), some (.inl 0), none], [], mj_mem nn xs w15) (mj_P nn xs Post))))))))))))))) :
    mj_J g y_Fo_nodesMet (d + 1) 0 0 (2, [some (mj_R 11), some (.inl l1), none], [], mj_mem nn xs w) (mj_P nn xs Post) := by
  refine mj_r_iload_n d_Fo_nodesMet_2 rfl ?_
  refine mj_r_sipush (x := 845) d_Fo_nodesMet_3 (by decide) ?_
  obtain ⟨q1, h⟩ := h
  refine mj_s_icmp_ge (tgt := 22) d_Fo_nodesMet_6 (by decide) q1 (mj_ik (by decide)) (fun q2 => ?_) (fun q2 => ?_)
  · have h := h.1 q2
    refine mj_r_aload_n d_Fo_nodesMet_9 rfl ?_
    refine mj_q_getr d_Fo_nodesMet_10 f_11_5 (.inl mw_213) rfl hn ?_
    refine mj_r_iload_n d_Fo_nodesMet_13 rfl ?_
    refine mj_r_iconst (x := 0) d_Fo_nodesMet_14 rfl ?_
    obtain ⟨q3, h⟩ := h
    obtain ⟨q4, h⟩ := h
    refine mj_q_zast d_Fo_nodesMet_15 rfl rfl hn rfl q3 q4 (by decide) (fun w5 e6 => ?_)
    have h := h w5 e6
    refine mj_e_iinc (lv' := [some (mj_R 11), some (.inl (l1 + 1)), none]) d_Fo_nodesMet_16 rfl rfl ?_
    refine mj_r_goto (tgt := 2) d_Fo_nodesMet_19 (by decide) ?_
    exact h
  · have h := h.2 q2
    refine mj_r_aload_n d_Fo_nodesMet_22 rfl ?_
    refine mj_r_iconst (x := 0) d_Fo_nodesMet_23 rfl ?_
    refine mj_q_put d_Fo_nodesMet_24 f_11_6 (mj_fit_I _) (.inl mw_214) rfl hn (fun w7 e8 => ?_)
    have h := h w7 e8
    refine mj_r_aload_n d_Fo_nodesMet_27 rfl ?_
    refine mj_r_iconst (x := 0) d_Fo_nodesMet_28 rfl ?_
    refine mj_r_iconst (x := 0) d_Fo_nodesMet_29 rfl ?_
    refine mj_r_aload_n d_Fo_nodesMet_30 rfl ?_
    refine mj_q_getr d_Fo_nodesMet_31 f_11_0 (.inl mw_208) rfl hn ?_
    refine mj_q_geti d_Fo_nodesMet_34 f_4_0 (.inr mw_111) rfl hn ?_
    refine mj_q_V3l d_Fo_nodesMet_37 h_Fo_treesOver (.inl mw_376) mw_377 mw_378 rfl rfl rfl hn rfl rfl (mj_wk h (fun v w9 h => ?_))
    obtain ⟨x10, rfl, h⟩ := h
    refine ⟨x10, rfl, ?_⟩
    refine mj_r_lconst (x := 0) d_Fo_nodesMet_40 rfl ?_
    obtain ⟨q11, h⟩ := h
    refine mj_s_l_eq (tgt := 61) d_Fo_nodesMet_41 d_Fo_nodesMet_42 (by decide) q11 (mj_lk (by decide)) (fun q12 => ?_) (fun q12 => ?_)
    · have h := h.1 q12
      refine mj_r_iconst (x := 0) d_Fo_nodesMet_61 rfl ?_
      refine mj_e_istore_n (lv' := [some (mj_R 11), some (.inl 0), none]) d_Fo_nodesMet_62 rfl rfl ?_
      exact h
    · have h := h.2 q12
      refine mj_r_aload_n d_Fo_nodesMet_45 rfl ?_
      refine mj_r_iconst (x := 0) d_Fo_nodesMet_46 rfl ?_
      refine mj_r_iconst (x := 0) d_Fo_nodesMet_47 rfl ?_
      refine mj_r_aload_n d_Fo_nodesMet_48 rfl ?_
      refine mj_q_getr d_Fo_nodesMet_49 f_11_0 (.inl mw_208) rfl hn ?_
      refine mj_q_geti d_Fo_nodesMet_52 f_4_0 (.inr mw_111) rfl hn ?_
      refine mj_q_S3i d_Fo_nodesMet_55 h_CF_cellOf (.inr mw_326) mw_327 rfl rfl (mj_wk h (fun v w13 h => ?_))
      obtain ⟨x14, rfl, h⟩ := h
      refine ⟨x14, rfl, ?_⟩
      refine mj_q_V1v d_Fo_nodesMet_58 h_Fo_meet (.inl mw_381) mw_383 mw_11 rfl rfl rfl hn rfl rfl (mj_wk h (fun v w15 h => ?_))
      obtain ⟨rfl, h⟩ := h
      refine ⟨rfl, ?_⟩
      refine mj_r_iconst (x := 0) d_Fo_nodesMet_61 rfl ?_
      refine mj_e_istore_n (lv' := [some (mj_R 11), some (.inl 0), none]) d_Fo_nodesMet_62 rfl rfl ?_
      exact h
theorem v_Fo_nodesMet_63 {g : mj_G} {nn d : Nat} {xs : mj_M} {Post : Option mj_V → mj_w → Prop} (hn : 21 ≤ nn) {w : mj_w} {l1 : Int}
    (h : mj_i l1 ∧ mj_i (w 11 6 0) ∧ (l1 < (w 11 6 0) → ((l1 < 845 → (0 ≤ l1 ∧ l1 < 845 ∧ mj_J g y_Fo_gatherCell d 0 0 (0, [some (mj_R 11), some (.inl (w 12 l1 0))], [], mj_mem nn xs w) (mj_P nn xs (fun v w7 => v = none ∧ (mj_J g y_Fo_nodesMet (d + 1) 0 0 (90, [some (mj_R 11), some (.inl l1), some (.inl 0)], [], mj_mem nn xs w7) (mj_P nn xs Post)))))) ∧ (¬ l1 < 845 → (Post (some (.inl (w 11 6 0))) w)))) ∧ (¬ l1 < (w 11 6 0) → (Post (some (.inl (w 11 6 0))) w))) :
    mj_J g y_Fo_nodesMet (d + 1) 0 0 (63, [some (mj_R 11), some (.inl l1), none], [], mj_mem nn xs w) (mj_P nn xs Post) := by
  refine mj_r_iload_n d_Fo_nodesMet_63 rfl ?_
  refine mj_r_aload_n d_Fo_nodesMet_64 rfl ?_
  refine mj_q_geti d_Fo_nodesMet_65 f_11_6 (.inl mw_214) rfl hn ?_
  obtain ⟨q1, h⟩ := h
  obtain ⟨q2, h⟩ := h
  refine mj_s_icmp_ge (tgt := 118) d_Fo_nodesMet_68 (by decide) q1 q2 (fun q3 => ?_) (fun q3 => ?_)
  · have h := h.1 q3
    refine mj_r_iload_n d_Fo_nodesMet_71 rfl ?_
    refine mj_r_sipush (x := 845) d_Fo_nodesMet_72 (by decide) ?_
    refine mj_s_icmp_ge (tgt := 118) d_Fo_nodesMet_75 (by decide) q1 (mj_ik (by decide)) (fun q4 => ?_) (fun q4 => ?_)
    · have h := h.1 q4
      refine mj_r_aload_n d_Fo_nodesMet_78 rfl ?_
      refine mj_r_aload_n d_Fo_nodesMet_79 rfl ?_
      refine mj_q_getr d_Fo_nodesMet_80 f_11_4 (.inl mw_212) rfl hn ?_
      refine mj_r_iload_n d_Fo_nodesMet_83 rfl ?_
      obtain ⟨q5, h⟩ := h
      obtain ⟨q6, h⟩ := h
      refine mj_q_iald d_Fo_nodesMet_84 rfl rfl hn rfl q5 q6 ?_
      refine mj_q_V1v d_Fo_nodesMet_85 h_Fo_gatherCell (.inl mw_385) mw_387 mw_12 rfl rfl rfl hn rfl rfl (mj_wk h (fun v w7 h => ?_))
      obtain ⟨rfl, h⟩ := h
      refine ⟨rfl, ?_⟩
      refine mj_r_iconst (x := 0) d_Fo_nodesMet_88 rfl ?_
      refine mj_e_istore_n (lv' := [some (mj_R 11), some (.inl l1), some (.inl 0)]) d_Fo_nodesMet_89 rfl rfl ?_
      exact h
    · have h := h.2 q4
      refine mj_r_aload_n d_Fo_nodesMet_118 rfl ?_
      refine mj_q_geti d_Fo_nodesMet_119 f_11_6 (.inl mw_214) rfl hn ?_
      exact mj_r_iret d_Fo_nodesMet_122 rfl (mj_q_ret h)
  · have h := h.2 q3
    refine mj_r_aload_n d_Fo_nodesMet_118 rfl ?_
    refine mj_q_geti d_Fo_nodesMet_119 f_11_6 (.inl mw_214) rfl hn ?_
    exact mj_r_iret d_Fo_nodesMet_122 rfl (mj_q_ret h)
theorem v_Fo_nodesMet_90 {g : mj_G} {nn d : Nat} {xs : mj_M} {Post : Option mj_V → mj_w → Prop} (hn : 21 ≤ nn) {w : mj_w} {l1 l2 : Int}
    (h : mj_i l2 ∧ mj_i (w 17 4 0) ∧ (l2 < (w 17 4 0) → (mj_J g y_Fo_meetParts d 0 0 (0, [some (mj_R 11), some (.inl l2), none], [], mj_mem nn xs w) (mj_P nn xs (fun v w4 => v = none ∧ (mj_J g y_Fo_nodesMet (d + 1) 0 0 (90, [some (mj_R 11), some (.inl l1), some (.inl (l2 + 1))], [], mj_mem nn xs w4) (mj_P nn xs Post)))))) ∧ (¬ l2 < (w 17 4 0) → (mj_J g y_Fo_nodesMet (d + 1) 0 0 (63, [some (mj_R 11), some (.inl (l1 + 1)), none], [], mj_mem nn xs w) (mj_P nn xs Post)))) :
    mj_J g y_Fo_nodesMet (d + 1) 0 0 (90, [some (mj_R 11), some (.inl l1), some (.inl l2)], [], mj_mem nn xs w) (mj_P nn xs Post) := by
  refine mj_r_iload_n d_Fo_nodesMet_90 rfl ?_
  refine mj_r_aload_n d_Fo_nodesMet_91 rfl ?_
  refine mj_q_getr d_Fo_nodesMet_92 f_11_2 (.inl mw_210) rfl hn ?_
  refine mj_q_geti d_Fo_nodesMet_95 f_17_4 (.inr mw_185) rfl hn ?_
  obtain ⟨q1, h⟩ := h
  obtain ⟨q2, h⟩ := h
  refine mj_s_icmp_ge (tgt := 112) d_Fo_nodesMet_98 (by decide) q1 q2 (fun q3 => ?_) (fun q3 => ?_)
  · have h := h.1 q3
    refine mj_r_aload_n d_Fo_nodesMet_101 rfl ?_
    refine mj_r_iload_n d_Fo_nodesMet_102 rfl ?_
    refine mj_q_V1v d_Fo_nodesMet_103 h_Fo_meetParts (.inl mw_389) mw_391 mw_13 rfl rfl rfl hn rfl rfl (mj_wk h (fun v w4 h => ?_))
    obtain ⟨rfl, h⟩ := h
    refine ⟨rfl, ?_⟩
    refine mj_e_iinc (lv' := [some (mj_R 11), some (.inl l1), some (.inl (l2 + 1))]) d_Fo_nodesMet_106 rfl rfl ?_
    refine mj_r_goto (tgt := 90) d_Fo_nodesMet_109 (by decide) ?_
    exact h
  · have h := h.2 q3
    refine mj_e_iinc (lv' := [some (mj_R 11), some (.inl (l1 + 1)), some (.inl l2)]) d_Fo_nodesMet_112 rfl rfl ?_
    refine mj_r_goto (tgt := 63) d_Fo_nodesMet_115 (by decide) ?_
    refine mj_r_sub (lv' := [some (mj_R 11), some (.inl (l1 + 1)), none]) ⟨.inr rfl, .inr rfl, .inl rfl, trivial⟩ ?_
    exact h
theorem v_Fo_treesOver_0 {g : mj_G} {nn d : Nat} {xs : mj_M} {Post : Option mj_V → mj_w → Prop} (hn : 21 ≤ nn) {w : mj_w} {l1 l2 l3 : Int}
    (h : mj_J g y_Co_over d 0 0 (0, [some (mj_R 15), some (.inl l1), some (.inl l2), some (.inl l3)], [], mj_mem nn xs w) (mj_P nn xs (fun v w1 => ∃ x2 : Int, v = some (.inr (.inl x2)) ∧ (Post (some (.inr (.inl x2))) w1)))) :
    mj_J g y_Fo_treesOver (d + 1) 0 0 (0, [some (mj_R 11), some (.inl l1), some (.inl l2), some (.inl l3)], [], mj_mem nn xs w) (mj_P nn xs Post) := by
  refine mj_r_aload_n d_Fo_treesOver_0 rfl ?_
  refine mj_q_getr d_Fo_treesOver_1 f_11_1 (.inl mw_209) rfl hn ?_
  refine mj_r_iload_n d_Fo_treesOver_4 rfl ?_
  refine mj_r_iload_n d_Fo_treesOver_5 rfl ?_
  refine mj_r_iload_n d_Fo_treesOver_6 rfl ?_
  refine mj_q_V3l d_Fo_treesOver_7 h_Co_over (.inl mw_380) mw_340 mw_341 rfl rfl rfl hn rfl rfl (mj_wk h (fun v w1 h => ?_))
  obtain ⟨x2, rfl, h⟩ := h
  refine ⟨x2, rfl, ?_⟩
  exact mj_r_lret d_Fo_treesOver_10 rfl (mj_q_ret h)
theorem v_Fo_meet_0 {g : mj_G} {nn d : Nat} {xs : mj_M} {Post : Option mj_V → mj_w → Prop} (hn : 21 ≤ nn) {w : mj_w} {l1 : Int}
    (h : 0 ≤ l1 ∧ l1 < 845 ∧ mj_i (w 13 l1 0) ∧ ((w 13 l1 0) = 0 → (mj_i (w 11 6 0) ∧ ((w 11 6 0) < 845 → (∀ w7, w7 = mj_wu w 13 l1 0 1 → 0 ≤ (w7 11 6 0) ∧ (w7 11 6 0) < 845 ∧ (∀ w11, w11 = mj_wu w7 12 (w7 11 6 0) 0 l1 → ∀ w13, w13 = mj_wu w11 11 6 0 ((w11 11 6 0) + 1) → Post none w13))) ∧ (¬ (w 11 6 0) < 845 → (Post none w)))) ∧ (¬ (w 13 l1 0) = 0 → (Post none w))) :
    mj_J g y_Fo_meet d 0 0 (0, [some (mj_R 11), some (.inl l1)], [], mj_mem nn xs w) (mj_P nn xs Post) := by
  refine mj_r_aload_n d_Fo_meet_0 rfl ?_
  refine mj_q_getr d_Fo_meet_1 f_11_5 (.inl mw_213) rfl hn ?_
  refine mj_r_iload_n d_Fo_meet_4 rfl ?_
  obtain ⟨q1, h⟩ := h
  obtain ⟨q2, h⟩ := h
  refine mj_q_zald d_Fo_meet_5 rfl rfl hn rfl q1 q2 ?_
  obtain ⟨q3, h⟩ := h
  refine mj_s_if_ne (tgt := 46) d_Fo_meet_6 (by decide) q3 (fun q4 => ?_) (fun q4 => ?_)
  · have h := h.1 q4
    refine mj_r_aload_n d_Fo_meet_9 rfl ?_
    refine mj_q_geti d_Fo_meet_10 f_11_6 (.inl mw_214) rfl hn ?_
    refine mj_r_sipush (x := 845) d_Fo_meet_13 (by decide) ?_
    obtain ⟨q5, h⟩ := h
    refine mj_s_icmp_ge (tgt := 46) d_Fo_meet_16 (by decide) q5 (mj_ik (by decide)) (fun q6 => ?_) (fun q6 => ?_)
    · have h := h.1 q6
      refine mj_r_aload_n d_Fo_meet_19 rfl ?_
      refine mj_q_getr d_Fo_meet_20 f_11_5 (.inl mw_213) rfl hn ?_
      refine mj_r_iload_n d_Fo_meet_23 rfl ?_
      refine mj_r_iconst (x := 1) d_Fo_meet_24 rfl ?_
      refine mj_q_zast d_Fo_meet_25 rfl rfl hn rfl q1 q2 (by decide) (fun w7 e8 => ?_)
      have h := h w7 e8
      refine mj_r_aload_n d_Fo_meet_26 rfl ?_
      refine mj_q_getr d_Fo_meet_27 f_11_4 (.inl mw_212) rfl hn ?_
      refine mj_r_aload_n d_Fo_meet_30 rfl ?_
      refine mj_q_geti d_Fo_meet_31 f_11_6 (.inl mw_214) rfl hn ?_
      refine mj_r_iload_n d_Fo_meet_34 rfl ?_
      obtain ⟨q9, h⟩ := h
      obtain ⟨q10, h⟩ := h
      refine mj_q_iast d_Fo_meet_35 rfl rfl hn rfl q9 q10 (fun w11 e12 => ?_)
      have h := h w11 e12
      refine mj_r_aload_n d_Fo_meet_36 rfl ?_
      refine mj_r_dup d_Fo_meet_37 rfl ?_
      refine mj_q_geti d_Fo_meet_38 f_11_6 (.inl mw_214) rfl hn ?_
      refine mj_r_iconst (x := 1) d_Fo_meet_41 rfl ?_
      refine mj_r_iadd d_Fo_meet_42 ?_
      refine mj_q_put d_Fo_meet_43 f_11_6 (mj_fit_I _) (.inl mw_214) rfl hn (fun w13 e14 => ?_)
      have h := h w13 e14
      exact mj_r_vret d_Fo_meet_46 rfl (mj_q_ret h)
    · have h := h.2 q6
      exact mj_r_vret d_Fo_meet_46 rfl (mj_q_ret h)
  · have h := h.2 q4
    exact mj_r_vret d_Fo_meet_46 rfl (mj_q_ret h)
theorem v_Fo_gatherCell_0 {g : mj_G} {nn d : Nat} {xs : mj_M} {Post : Option mj_V → mj_w → Prop} (hn : 21 ≤ nn) {w : mj_w} {l1 : Int}
    (h : mj_i l1 ∧ 0 ≤ l1 ∧ mj_i (l1 / 13) ∧ 0 ≤ (l1 / 13) ∧ mj_J g y_Wa_gather d 0 0 (0, [some (mj_R 17), some (.inl (l1 / 169)), some (.inl ((l1 / 13) % 13)), some (.inl (l1 % 13)), none], [], mj_mem nn xs w) (mj_P nn xs (fun v w5 => v = none ∧ (Post none w5)))) :
    mj_J g y_Fo_gatherCell (d + 1) 0 0 (0, [some (mj_R 11), some (.inl l1)], [], mj_mem nn xs w) (mj_P nn xs Post) := by
  refine mj_r_aload_n d_Fo_gatherCell_0 rfl ?_
  refine mj_q_getr d_Fo_gatherCell_1 f_11_2 (.inl mw_210) rfl hn ?_
  refine mj_r_iload_n d_Fo_gatherCell_4 rfl ?_
  refine mj_r_sipush (x := 169) d_Fo_gatherCell_5 (by decide) ?_
  obtain ⟨q1, h⟩ := h
  obtain ⟨q2, h⟩ := h
  refine mj_r_idiv d_Fo_gatherCell_8 q1 (mj_ik (by decide)) q2 (by decide) ?_
  refine mj_r_iload_n d_Fo_gatherCell_9 rfl ?_
  refine mj_r_bipush (x := 13) d_Fo_gatherCell_10 (by decide) ?_
  refine mj_r_idiv d_Fo_gatherCell_12 q1 (mj_ik (by decide)) q2 (by decide) ?_
  refine mj_r_bipush (x := 13) d_Fo_gatherCell_13 (by decide) ?_
  obtain ⟨q3, h⟩ := h
  obtain ⟨q4, h⟩ := h
  refine mj_r_irem d_Fo_gatherCell_15 q3 (mj_ik (by decide)) q4 (by decide) ?_
  refine mj_r_iload_n d_Fo_gatherCell_16 rfl ?_
  refine mj_r_bipush (x := 13) d_Fo_gatherCell_17 (by decide) ?_
  refine mj_r_irem d_Fo_gatherCell_19 q1 (mj_ik (by decide)) q2 (by decide) ?_
  refine mj_q_V3v d_Fo_gatherCell_20 h_Wa_gather (.inl mw_329) mw_330 mw_331 rfl rfl rfl hn rfl rfl (mj_wk h (fun v w5 h => ?_))
  obtain ⟨rfl, h⟩ := h
  refine ⟨rfl, ?_⟩
  exact mj_r_vret d_Fo_gatherCell_23 rfl (mj_q_ret h)
theorem v_Fo_meetParts_0 {g : mj_G} {nn d : Nat} {xs : mj_M} {Post : Option mj_V → mj_w → Prop} (hn : 21 ≤ nn) {w : mj_w} {l1 : Int}
    (h : mj_J g y_Fo_meetParts (d + 1) 0 0 (2, [some (mj_R 11), some (.inl l1), some (.inl 0)], [], mj_mem nn xs w) (mj_P nn xs Post)) :
    mj_J g y_Fo_meetParts (d + 1) 0 0 (0, [some (mj_R 11), some (.inl l1), none], [], mj_mem nn xs w) (mj_P nn xs Post) := by
  refine mj_r_iconst (x := 0) d_Fo_meetParts_0 rfl ?_
  refine mj_e_istore_n (lv' := [some (mj_R 11), some (.inl l1), some (.inl 0)]) d_Fo_meetParts_1 rfl rfl ?_
  exact h
theorem v_Fo_meetParts_2 {g : mj_G} {nn d : Nat} {xs : mj_M} {Post : Option mj_V → mj_w → Prop} (hn : 21 ≤ nn) {w : mj_w} {l1 l2 : Int}
    (h : mj_i l2 ∧ (l2 < 3 → (mj_J g y_Wa_symbolOf d 0 0 (0, [some (mj_R 17), some (.inl l1), some (.inl l2)], [], mj_mem nn xs w) (mj_P nn xs (fun v w3 => ∃ x4 : Int, v = some (.inl x4) ∧ (mj_J g y_CF_isNonterminal d 0 0 (0, [some (.inl x4)], [], mj_mem nn xs w3) (mj_P nn xs (fun v w5 => ∃ x6 : Int, v = some (.inl x6) ∧ (mj_i x6 ∧ (x6 = 0 → (mj_J g y_Fo_meetParts (d + 1) 0 0 (2, [some (mj_R 11), some (.inl l1), some (.inl (l2 + 1))], [], mj_mem nn xs w5) (mj_P nn xs Post))) ∧ (¬ x6 = 0 → (mj_J g y_Fo_partCell d 0 0 (0, [some (mj_R 11), some (.inl l1), some (.inl l2)], [], mj_mem nn xs w5) (mj_P nn xs (fun v w9 => ∃ x10 : Int, v = some (.inl x10) ∧ (mj_J g y_Fo_meet d 0 0 (0, [some (mj_R 11), some (.inl x10)], [], mj_mem nn xs w9) (mj_P nn xs (fun v w11 => v = none ∧ (mj_J g y_Fo_meetParts (d + 1) 0 0 (2, [some (mj_R 11), some (.inl l1), some (.inl (l2 + 1))], [], mj_mem nn xs w11) (mj_P nn xs Post))))))))))))))))) ∧ (¬ l2 < 3 → (Post none w))) :
    mj_J g y_Fo_meetParts (d + 1) 0 0 (2, [some (mj_R 11), some (.inl l1), some (.inl l2)], [], mj_mem nn xs w) (mj_P nn xs Post) := by
  refine mj_r_iload_n d_Fo_meetParts_2 rfl ?_
  refine mj_r_iconst (x := 3) d_Fo_meetParts_3 rfl ?_
  obtain ⟨q1, h⟩ := h
  refine mj_s_icmp_ge (tgt := 38) d_Fo_meetParts_4 (by decide) q1 (mj_ik (by decide)) (fun q2 => ?_) (fun q2 => ?_)
  · have h := h.1 q2
    refine mj_r_aload_n d_Fo_meetParts_7 rfl ?_
    refine mj_q_getr d_Fo_meetParts_8 f_11_2 (.inl mw_210) rfl hn ?_
    refine mj_r_iload_n d_Fo_meetParts_11 rfl ?_
    refine mj_r_iload_n d_Fo_meetParts_12 rfl ?_
    refine mj_q_V2i d_Fo_meetParts_13 h_Wa_symbolOf (.inl mw_393) mw_394 mw_395 rfl rfl rfl hn rfl rfl (mj_wk h (fun v w3 h => ?_))
    obtain ⟨x4, rfl, h⟩ := h
    refine ⟨x4, rfl, ?_⟩
    refine mj_q_S1i d_Fo_meetParts_16 h_CF_isNonterminal (.inr mw_397) mw_271 rfl rfl (mj_wk h (fun v w5 h => ?_))
    obtain ⟨x6, rfl, h⟩ := h
    refine ⟨x6, rfl, ?_⟩
    obtain ⟨q7, h⟩ := h
    refine mj_s_if_eq (tgt := 32) d_Fo_meetParts_19 (by decide) q7 (fun q8 => ?_) (fun q8 => ?_)
    · have h := h.1 q8
      refine mj_e_iinc (lv' := [some (mj_R 11), some (.inl l1), some (.inl (l2 + 1))]) d_Fo_meetParts_32 rfl rfl ?_
      refine mj_r_goto (tgt := 2) d_Fo_meetParts_35 (by decide) ?_
      exact h
    · have h := h.2 q8
      refine mj_r_aload_n d_Fo_meetParts_22 rfl ?_
      refine mj_r_aload_n d_Fo_meetParts_23 rfl ?_
      refine mj_r_iload_n d_Fo_meetParts_24 rfl ?_
      refine mj_r_iload_n d_Fo_meetParts_25 rfl ?_
      refine mj_q_V2i d_Fo_meetParts_26 h_Fo_partCell (.inl mw_398) mw_400 mw_14 rfl rfl rfl hn rfl rfl (mj_wk h (fun v w9 h => ?_))
      obtain ⟨x10, rfl, h⟩ := h
      refine ⟨x10, rfl, ?_⟩
      refine mj_q_V1v d_Fo_meetParts_29 h_Fo_meet (.inl mw_381) mw_383 mw_11 rfl rfl rfl hn rfl rfl (mj_wk h (fun v w11 h => ?_))
      obtain ⟨rfl, h⟩ := h
      refine ⟨rfl, ?_⟩
      refine mj_e_iinc (lv' := [some (mj_R 11), some (.inl l1), some (.inl (l2 + 1))]) d_Fo_meetParts_32 rfl rfl ?_
      refine mj_r_goto (tgt := 2) d_Fo_meetParts_35 (by decide) ?_
      exact h
  · have h := h.2 q2
    exact mj_r_vret d_Fo_meetParts_38 rfl (mj_q_ret h)
theorem v_Wa_symbolOf_0 {g : mj_G} {nn d : Nat} {xs : mj_M} {Post : Option mj_V → mj_w → Prop} (hn : 21 ≤ nn) {w : mj_w} {l1 l2 : Int}
    (h : 0 ≤ l1 ∧ l1 < 910 ∧ mj_J g y_CF_slotOf d 0 0 (0, [some (.inl (w 18 l1 0)), some (.inl l2)], [], mj_mem nn xs w) (mj_P nn xs (fun v w3 => ∃ x4 : Int, v = some (.inl x4) ∧ (0 ≤ x4 ∧ x4 < 44 ∧ Post (some (.inl (w3 3 x4 0))) w3)))) :
    mj_J g y_Wa_symbolOf (d + 1) 0 0 (0, [some (mj_R 17), some (.inl l1), some (.inl l2)], [], mj_mem nn xs w) (mj_P nn xs Post) := by
  refine mj_r_aload_n d_Wa_symbolOf_0 rfl ?_
  refine mj_q_getr d_Wa_symbolOf_1 f_17_0 (.inl mw_180) rfl hn ?_
  refine mj_q_getr d_Wa_symbolOf_4 f_1_2 (.inr mw_93) rfl hn ?_
  refine mj_r_aload_n d_Wa_symbolOf_7 rfl ?_
  refine mj_q_getr d_Wa_symbolOf_8 f_17_5 (.inl mw_186) rfl hn ?_
  refine mj_r_iload_n d_Wa_symbolOf_11 rfl ?_
  obtain ⟨q1, h⟩ := h
  obtain ⟨q2, h⟩ := h
  refine mj_q_iald d_Wa_symbolOf_12 rfl rfl hn rfl q1 q2 ?_
  refine mj_r_iload_n d_Wa_symbolOf_13 rfl ?_
  refine mj_q_S2i d_Wa_symbolOf_14 h_CF_slotOf (.inr mw_338) mw_85 rfl rfl (mj_wk h (fun v w3 h => ?_))
  obtain ⟨x4, rfl, h⟩ := h
  refine ⟨x4, rfl, ?_⟩
  obtain ⟨q5, h⟩ := h
  obtain ⟨q6, h⟩ := h
  refine mj_q_iald d_Wa_symbolOf_17 rfl rfl hn rfl q5 q6 ?_
  exact mj_r_iret d_Wa_symbolOf_18 rfl (mj_q_ret h)
theorem v_Fo_partCell_0 {g : mj_G} {nn d : Nat} {xs : mj_M} {Post : Option mj_V → mj_w → Prop} (hn : 21 ≤ nn) {w : mj_w} {l1 l2 : Int}
    (h : mj_J g y_Wa_symbolOf d 0 0 (0, [some (mj_R 17), some (.inl l1), some (.inl l2)], [], mj_mem nn xs w) (mj_P nn xs (fun v w1 => ∃ x2 : Int, v = some (.inl x2) ∧ (mj_J g y_Wa_cutOf d 0 0 (0, [some (mj_R 17), some (.inl l1), some (.inl l2)], [], mj_mem nn xs w1) (mj_P nn xs (fun v w3 => ∃ x4 : Int, v = some (.inl x4) ∧ (mj_J g y_Wa_cutOf d 0 0 (0, [some (mj_R 17), some (.inl l1), some (.inl (l2 + 1))], [], mj_mem nn xs w3) (mj_P nn xs (fun v w5 => ∃ x6 : Int, v = some (.inl x6) ∧ (mj_J g y_CF_cellOf d 0 0 (0, [some (.inl x2), some (.inl x4), some (.inl x6)], [], mj_mem nn xs w5) (mj_P nn xs (fun v w7 => ∃ x8 : Int, v = some (.inl x8) ∧ (Post (some (.inl x8)) w7))))))))))))) :
    mj_J g y_Fo_partCell (d + 1) 0 0 (0, [some (mj_R 11), some (.inl l1), some (.inl l2)], [], mj_mem nn xs w) (mj_P nn xs Post) := by
  refine mj_r_aload_n d_Fo_partCell_0 rfl ?_
  refine mj_q_getr d_Fo_partCell_1 f_11_2 (.inl mw_210) rfl hn ?_
  refine mj_r_iload_n d_Fo_partCell_4 rfl ?_
  refine mj_r_iload_n d_Fo_partCell_5 rfl ?_
  refine mj_q_V2i d_Fo_partCell_6 h_Wa_symbolOf (.inl mw_393) mw_394 mw_395 rfl rfl rfl hn rfl rfl (mj_wk h (fun v w1 h => ?_))
  obtain ⟨x2, rfl, h⟩ := h
  refine ⟨x2, rfl, ?_⟩
  refine mj_r_aload_n d_Fo_partCell_9 rfl ?_
  refine mj_q_getr d_Fo_partCell_10 f_11_2 (.inl mw_210) rfl hn ?_
  refine mj_r_iload_n d_Fo_partCell_13 rfl ?_
  refine mj_r_iload_n d_Fo_partCell_14 rfl ?_
  refine mj_q_V2i d_Fo_partCell_15 h_Wa_cutOf (.inl mw_402) mw_403 mw_404 rfl rfl rfl hn rfl rfl (mj_wk h (fun v w3 h => ?_))
  obtain ⟨x4, rfl, h⟩ := h
  refine ⟨x4, rfl, ?_⟩
  refine mj_r_aload_n d_Fo_partCell_18 rfl ?_
  refine mj_q_getr d_Fo_partCell_19 f_11_2 (.inl mw_210) rfl hn ?_
  refine mj_r_iload_n d_Fo_partCell_22 rfl ?_
  refine mj_r_iload_n d_Fo_partCell_23 rfl ?_
  refine mj_r_iconst (x := 1) d_Fo_partCell_24 rfl ?_
  refine mj_r_iadd d_Fo_partCell_25 ?_
  refine mj_q_V2i d_Fo_partCell_26 h_Wa_cutOf (.inl mw_402) mw_403 mw_404 rfl rfl rfl hn rfl rfl (mj_wk h (fun v w5 h => ?_))
  obtain ⟨x6, rfl, h⟩ := h
  refine ⟨x6, rfl, ?_⟩
  refine mj_q_S3i d_Fo_partCell_29 h_CF_cellOf (.inr mw_326) mw_327 rfl rfl (mj_wk h (fun v w7 h => ?_))
  obtain ⟨x8, rfl, h⟩ := h
  refine ⟨x8, rfl, ?_⟩
  exact mj_r_iret d_Fo_partCell_32 rfl (mj_q_ret h)
theorem v_Wa_cutOf_0 {g : mj_G} {nn d : Nat} {xs : mj_M} {Post : Option mj_V → mj_w → Prop} (hn : 21 ≤ nn) {w : mj_w} {l1 l2 : Int}
    (h : mj_i l2 ∧ (l2 < 0 ∨ 2 < l2 → (Post (some (.inl (w 17 3 0))) w)) ∧ (l2 = 0 → (Post (some (.inl (w 17 2 0))) w)) ∧ (l2 = 1 → (0 ≤ l1 ∧ l1 < 910 ∧ mj_i (w 19 l1 0) ∧ 0 ≤ (w 19 l1 0) ∧ Post (some (.inl ((w 19 l1 0) / 13))) w)) ∧ (l2 = 2 → (0 ≤ l1 ∧ l1 < 910 ∧ mj_i (w 19 l1 0) ∧ 0 ≤ (w 19 l1 0) ∧ Post (some (.inl ((w 19 l1 0) % 13))) w))) :
    mj_J g y_Wa_cutOf d 0 0 (0, [some (mj_R 17), some (.inl l1), some (.inl l2)], [], mj_mem nn xs w) (mj_P nn xs Post) := by
  refine mj_r_iload_n d_Wa_cutOf_0 rfl ?_
  obtain ⟨q1, h⟩ := h
  refine mj_s_table d_Wa_cutOf_1 q1 (fun q2 => ⟨53, by decide, ?_⟩) (fun j hj q2 => ?_)
  · have h := h.1 q2
    refine mj_r_aload_n d_Wa_cutOf_53 rfl ?_
    refine mj_q_geti d_Wa_cutOf_54 f_17_3 (.inl mw_183) rfl hn ?_
    exact mj_r_iret d_Wa_cutOf_57 rfl (mj_q_ret h)
  · have hj2 : j = 0 ∨ j = 1 ∨ j = 2 := by omega
    rcases hj2 with rfl | rfl | rfl
    · refine ⟨_, 28, rfl, by decide, ?_⟩
      have h := h.2.1 (by omega)
      refine mj_r_aload_n d_Wa_cutOf_28 rfl ?_
      refine mj_q_geti d_Wa_cutOf_29 f_17_2 (.inl mw_182) rfl hn ?_
      exact mj_r_iret d_Wa_cutOf_32 rfl (mj_q_ret h)
    · refine ⟨_, 33, rfl, by decide, ?_⟩
      have h := h.2.2.1 (by omega)
      refine mj_r_aload_n d_Wa_cutOf_33 rfl ?_
      refine mj_q_getr d_Wa_cutOf_34 f_17_6 (.inl mw_188) rfl hn ?_
      refine mj_r_iload_n d_Wa_cutOf_37 rfl ?_
      obtain ⟨q3, h⟩ := h
      obtain ⟨q4, h⟩ := h
      refine mj_q_iald d_Wa_cutOf_38 rfl rfl hn rfl q3 q4 ?_
      refine mj_r_bipush (x := 13) d_Wa_cutOf_39 (by decide) ?_
      obtain ⟨q5, h⟩ := h
      obtain ⟨q6, h⟩ := h
      refine mj_r_idiv d_Wa_cutOf_41 q5 (mj_ik (by decide)) q6 (by decide) ?_
      exact mj_r_iret d_Wa_cutOf_42 rfl (mj_q_ret h)
    · refine ⟨_, 43, rfl, by decide, ?_⟩
      have h := h.2.2.2 (by omega)
      refine mj_r_aload_n d_Wa_cutOf_43 rfl ?_
      refine mj_q_getr d_Wa_cutOf_44 f_17_6 (.inl mw_188) rfl hn ?_
      refine mj_r_iload_n d_Wa_cutOf_47 rfl ?_
      obtain ⟨q7, h⟩ := h
      obtain ⟨q8, h⟩ := h
      refine mj_q_iald d_Wa_cutOf_48 rfl rfl hn rfl q7 q8 ?_
      refine mj_r_bipush (x := 13) d_Wa_cutOf_49 (by decide) ?_
      obtain ⟨q9, h⟩ := h
      obtain ⟨q10, h⟩ := h
      refine mj_r_irem d_Wa_cutOf_51 q9 (mj_ik (by decide)) q10 (by decide) ?_
      exact mj_r_iret d_Wa_cutOf_52 rfl (mj_q_ret h)
theorem v_CF_isBody_0 {g : mj_G} {nn d : Nat} {xs : mj_M} {Post : Option mj_V → mj_w → Prop} (hn : 21 ≤ nn) {w : mj_w} {l0 l1 : Int}
    (h : mj_i l0 ∧ (l0 < 0 → (Post (some (.inl 0)) w)) ∧ (¬ l0 < 0 → ((3 < l0 → (Post (some (.inl 0)) w)) ∧ (¬ 3 < l0 → (mj_J g y_CF_isBody (d + 1) 0 0 (13, [some (.inl l0), some (.inl l1), some (.inl 0), none], [], mj_mem nn xs w) (mj_P nn xs Post)))))) :
    mj_J g y_CF_isBody (d + 1) 0 0 (0, [some (.inl l0), some (.inl l1), none, none], [], mj_mem nn xs w) (mj_P nn xs Post) := by
  refine mj_r_iload_n d_CF_isBody_0 rfl ?_
  obtain ⟨q1, h⟩ := h
  refine mj_s_if_lt (tgt := 9) d_CF_isBody_1 (by decide) q1 (fun q2 => ?_) (fun q2 => ?_)
  · have h := h.1 q2
    refine mj_r_iconst (x := 0) d_CF_isBody_9 rfl ?_
    exact mj_r_zret d_CF_isBody_10 rfl (by decide) (mj_q_ret h)
  · have h := h.2 q2
    refine mj_r_iload_n d_CF_isBody_4 rfl ?_
    refine mj_r_iconst (x := 3) d_CF_isBody_5 rfl ?_
    refine mj_s_icmp_le (tgt := 11) d_CF_isBody_6 (by decide) q1 (mj_ik (by decide)) (fun q3 => ?_) (fun q3 => ?_)
    · have h := h.1 q3
      refine mj_r_iconst (x := 0) d_CF_isBody_9 rfl ?_
      exact mj_r_zret d_CF_isBody_10 rfl (by decide) (mj_q_ret h)
    · have h := h.2 q3
      refine mj_r_iconst (x := 0) d_CF_isBody_11 rfl ?_
      refine mj_e_istore_n (lv' := [some (.inl l0), some (.inl l1), some (.inl 0), none]) d_CF_isBody_12 rfl rfl ?_
      exact h
theorem v_CF_isBody_13 {g : mj_G} {nn d : Nat} {xs : mj_M} {Post : Option mj_V → mj_w → Prop} (hn : 21 ≤ nn) {w : mj_w} {l0 l1 l2 : Int}
    (h : mj_i l2 ∧ mj_i l0 ∧ (l2 < l0 → (mj_J g y_CF_symbolIn d 0 0 (0, [some (.inl l1), some (.inl l2)], [], mj_mem nn xs w) (mj_P nn xs (fun v w4 => ∃ x5 : Int, v = some (.inl x5) ∧ (mj_J g y_CF_isNonterminal d 0 0 (0, [some (.inl x5)], [], mj_mem nn xs w4) (mj_P nn xs (fun v w6 => ∃ x7 : Int, v = some (.inl x7) ∧ (mj_i x7 ∧ (x7 = 0 → (mj_J g y_CF_isTerminal d 0 0 (0, [some (.inl x5)], [], mj_mem nn xs w6) (mj_P nn xs (fun v w10 => ∃ x11 : Int, v = some (.inl x11) ∧ (mj_i x11 ∧ (x11 = 0 → (Post (some (.inl 0)) w10)) ∧ (¬ x11 = 0 → (mj_J g y_CF_isBody (d + 1) 0 0 (13, [some (.inl l0), some (.inl l1), some (.inl (l2 + 1)), none], [], mj_mem nn xs w10) (mj_P nn xs Post)))))))) ∧ (¬ x7 = 0 → (mj_J g y_CF_isBody (d + 1) 0 0 (13, [some (.inl l0), some (.inl l1), some (.inl (l2 + 1)), none], [], mj_mem nn xs w6) (mj_P nn xs Post))))))))))) ∧ (¬ l2 < l0 → (mj_i (mj_ush l1 (4 * l0)) ∧ ((mj_ush l1 (4 * l0)) = 0 → (Post (some (.inl 1)) w)) ∧ (¬ (mj_ush l1 (4 * l0)) = 0 → (Post (some (.inl 0)) w))))) :
    mj_J g y_CF_isBody (d + 1) 0 0 (13, [some (.inl l0), some (.inl l1), some (.inl l2), none], [], mj_mem nn xs w) (mj_P nn xs Post) := by
  refine mj_r_iload_n d_CF_isBody_13 rfl ?_
  refine mj_r_iload_n d_CF_isBody_14 rfl ?_
  obtain ⟨q1, h⟩ := h
  obtain ⟨q2, h⟩ := h
  refine mj_s_icmp_ge (tgt := 46) d_CF_isBody_15 (by decide) q1 q2 (fun q3 => ?_) (fun q3 => ?_)
  · have h := h.1 q3
    refine mj_r_iload_n d_CF_isBody_18 rfl ?_
    refine mj_r_iload_n d_CF_isBody_19 rfl ?_
    refine mj_q_S2i d_CF_isBody_20 h_CF_symbolIn (.inl mw_422) mw_423 rfl rfl (mj_wk h (fun v w4 h => ?_))
    obtain ⟨x5, rfl, h⟩ := h
    refine ⟨x5, rfl, ?_⟩
    refine mj_e_istore_n (lv' := [some (.inl l0), some (.inl l1), some (.inl l2), some (.inl x5)]) d_CF_isBody_23 rfl rfl ?_
    refine mj_r_iload_n d_CF_isBody_24 rfl ?_
    refine mj_q_S1i d_CF_isBody_25 h_CF_isNonterminal (.inl mw_418) mw_271 rfl rfl (mj_wk h (fun v w6 h => ?_))
    obtain ⟨x7, rfl, h⟩ := h
    refine ⟨x7, rfl, ?_⟩
    obtain ⟨q8, h⟩ := h
    refine mj_s_if_ne (tgt := 40) d_CF_isBody_28 (by decide) q8 (fun q9 => ?_) (fun q9 => ?_)
    · have h := h.1 q9
      refine mj_r_iload_n d_CF_isBody_31 rfl ?_
      refine mj_q_S1i d_CF_isBody_32 h_CF_isTerminal (.inl mw_425) mw_309 rfl rfl (mj_wk h (fun v w10 h => ?_))
      obtain ⟨x11, rfl, h⟩ := h
      refine ⟨x11, rfl, ?_⟩
      obtain ⟨q12, h⟩ := h
      refine mj_s_if_ne (tgt := 40) d_CF_isBody_35 (by decide) q12 (fun q13 => ?_) (fun q13 => ?_)
      · have h := h.1 q13
        refine mj_r_iconst (x := 0) d_CF_isBody_38 rfl ?_
        exact mj_r_zret d_CF_isBody_39 rfl (by decide) (mj_q_ret h)
      · have h := h.2 q13
        refine mj_e_iinc (lv' := [some (.inl l0), some (.inl l1), some (.inl (l2 + 1)), some (.inl x5)]) d_CF_isBody_40 rfl rfl ?_
        refine mj_r_goto (tgt := 13) d_CF_isBody_43 (by decide) ?_
        refine mj_r_sub (lv' := [some (.inl l0), some (.inl l1), some (.inl (l2 + 1)), none]) ⟨.inr rfl, .inr rfl, .inr rfl, .inl rfl, trivial⟩ ?_
        exact h
    · have h := h.2 q9
      refine mj_e_iinc (lv' := [some (.inl l0), some (.inl l1), some (.inl (l2 + 1)), some (.inl x5)]) d_CF_isBody_40 rfl rfl ?_
      refine mj_r_goto (tgt := 13) d_CF_isBody_43 (by decide) ?_
      refine mj_r_sub (lv' := [some (.inl l0), some (.inl l1), some (.inl (l2 + 1)), none]) ⟨.inr rfl, .inr rfl, .inr rfl, .inl rfl, trivial⟩ ?_
      exact h
  · have h := h.2 q3
    refine mj_r_iload_n d_CF_isBody_46 rfl ?_
    refine mj_r_iconst (x := 4) d_CF_isBody_47 rfl ?_
    refine mj_r_iload_n d_CF_isBody_48 rfl ?_
    refine mj_r_imul d_CF_isBody_49 ?_
    refine mj_r_iushr d_CF_isBody_50 ?_
    obtain ⟨q14, h⟩ := h
    refine mj_s_if_ne (tgt := 58) d_CF_isBody_51 (by decide) q14 (fun q15 => ?_) (fun q15 => ?_)
    · have h := h.1 q15
      refine mj_r_iconst (x := 1) d_CF_isBody_54 rfl ?_
      refine mj_r_goto (tgt := 59) d_CF_isBody_55 (by decide) ?_
      exact mj_r_zret d_CF_isBody_59 rfl (by decide) (mj_q_ret h)
    · have h := h.2 q15
      refine mj_r_iconst (x := 0) d_CF_isBody_58 rfl ?_
      exact mj_r_zret d_CF_isBody_59 rfl (by decide) (mj_q_ret h)
theorem v_Gr_append_0 {g : mj_G} {nn d : Nat} {xs : mj_M} {Post : Option mj_V → mj_w → Prop} (hn : 21 ≤ nn) {w : mj_w} {l1 l2 l3 : Int}
    (h : mj_i (w 1 0 0) ∧ ((w 1 0 0) < 10 → (mj_i l2 ∧ (3 < l2 → (Post none w)) ∧ (¬ 3 < l2 → (0 ≤ (w 1 0 0) ∧ (w 1 0 0) < 10 ∧ (∀ w7, w7 = mj_wu w 2 (w 1 0 0) 0 l1 → mj_J g y_Gr_append (d + 1) 0 0 (27, [some (mj_R 1), some (.inl l1), some (.inl l2), some (.inl l3), some (.inl 0)], [], mj_mem nn xs w7) (mj_P nn xs Post)))))) ∧ (¬ (w 1 0 0) < 10 → (Post none w))) :
    mj_J g y_Gr_append (d + 1) 0 0 (0, [some (mj_R 1), some (.inl l1), some (.inl l2), some (.inl l3), none], [], mj_mem nn xs w) (mj_P nn xs Post) := by
  refine mj_r_aload_n d_Gr_append_0 rfl ?_
  refine mj_q_geti d_Gr_append_1 f_1_0 (.inl mw_87) rfl hn ?_
  refine mj_r_bipush (x := 10) d_Gr_append_4 (by decide) ?_
  obtain ⟨q1, h⟩ := h
  refine mj_s_icmp_ge (tgt := 69) d_Gr_append_6 (by decide) q1 (mj_ik (by decide)) (fun q2 => ?_) (fun q2 => ?_)
  · have h := h.1 q2
    refine mj_r_iload_n d_Gr_append_9 rfl ?_
    refine mj_r_iconst (x := 3) d_Gr_append_10 rfl ?_
    obtain ⟨q3, h⟩ := h
    refine mj_s_icmp_gt (tgt := 69) d_Gr_append_11 (by decide) q3 (mj_ik (by decide)) (fun q4 => ?_) (fun q4 => ?_)
    · have h := h.1 q4
      exact mj_r_vret d_Gr_append_69 rfl (mj_q_ret h)
    · have h := h.2 q4
      refine mj_r_aload_n d_Gr_append_14 rfl ?_
      refine mj_q_getr d_Gr_append_15 f_1_1 (.inl mw_91) rfl hn ?_
      refine mj_r_aload_n d_Gr_append_18 rfl ?_
      refine mj_q_geti d_Gr_append_19 f_1_0 (.inl mw_87) rfl hn ?_
      refine mj_r_iload_n d_Gr_append_22 rfl ?_
      obtain ⟨q5, h⟩ := h
      obtain ⟨q6, h⟩ := h
      refine mj_q_iast d_Gr_append_23 rfl rfl hn rfl q5 q6 (fun w7 e8 => ?_)
      have h := h w7 e8
      refine mj_r_iconst (x := 0) d_Gr_append_24 rfl ?_
      refine mj_e_istore (lv' := [some (mj_R 1), some (.inl l1), some (.inl l2), some (.inl l3), some (.inl 0)]) d_Gr_append_25 rfl rfl ?_
      exact h
  · have h := h.2 q2
    exact mj_r_vret d_Gr_append_69 rfl (mj_q_ret h)
theorem v_Gr_append_27 {g : mj_G} {nn d : Nat} {xs : mj_M} {Post : Option mj_V → mj_w → Prop} (hn : 21 ≤ nn) {w : mj_w} {l1 l2 l3 l4 : Int}
    (h : mj_i l4 ∧ mj_i l2 ∧ (l4 < l2 → (mj_J g y_CF_slotOf d 0 0 (0, [some (.inl (w 1 0 0)), some (.inl l4)], [], mj_mem nn xs w) (mj_P nn xs (fun v w4 => ∃ x5 : Int, v = some (.inl x5) ∧ (mj_J g y_CF_symbolIn d 0 0 (0, [some (.inl l3), some (.inl l4)], [], mj_mem nn xs w4) (mj_P nn xs (fun v w6 => ∃ x7 : Int, v = some (.inl x7) ∧ (0 ≤ x5 ∧ x5 < 44 ∧ (∀ w10, w10 = mj_wu w6 3 x5 0 x7 → mj_J g y_Gr_append (d + 1) 0 0 (27, [some (mj_R 1), some (.inl l1), some (.inl l2), some (.inl l3), some (.inl (l4 + 1))], [], mj_mem nn xs w10) (mj_P nn xs Post)))))))))) ∧ (¬ l4 < l2 → (∀ w12, w12 = mj_wu w 1 0 0 ((w 1 0 0) + 1) → Post none w12))) :
    mj_J g y_Gr_append (d + 1) 0 0 (27, [some (mj_R 1), some (.inl l1), some (.inl l2), some (.inl l3), some (.inl l4)], [], mj_mem nn xs w) (mj_P nn xs Post) := by
  refine mj_r_iload d_Gr_append_27 rfl ?_
  refine mj_r_iload_n d_Gr_append_29 rfl ?_
  obtain ⟨q1, h⟩ := h
  obtain ⟨q2, h⟩ := h
  refine mj_s_icmp_ge (tgt := 59) d_Gr_append_30 (by decide) q1 q2 (fun q3 => ?_) (fun q3 => ?_)
  · have h := h.1 q3
    refine mj_r_aload_n d_Gr_append_33 rfl ?_
    refine mj_q_getr d_Gr_append_34 f_1_2 (.inl mw_92) rfl hn ?_
    refine mj_r_aload_n d_Gr_append_37 rfl ?_
    refine mj_q_geti d_Gr_append_38 f_1_0 (.inl mw_87) rfl hn ?_
    refine mj_r_iload d_Gr_append_41 rfl ?_
    refine mj_q_S2i d_Gr_append_43 h_CF_slotOf (.inr mw_84) mw_85 rfl rfl (mj_wk h (fun v w4 h => ?_))
    obtain ⟨x5, rfl, h⟩ := h
    refine ⟨x5, rfl, ?_⟩
    refine mj_r_iload_n d_Gr_append_46 rfl ?_
    refine mj_r_iload d_Gr_append_47 rfl ?_
    refine mj_q_S2i d_Gr_append_49 h_CF_symbolIn (.inr mw_509) mw_423 rfl rfl (mj_wk h (fun v w6 h => ?_))
    obtain ⟨x7, rfl, h⟩ := h
    refine ⟨x7, rfl, ?_⟩
    obtain ⟨q8, h⟩ := h
    obtain ⟨q9, h⟩ := h
    refine mj_q_iast d_Gr_append_52 rfl rfl hn rfl q8 q9 (fun w10 e11 => ?_)
    have h := h w10 e11
    refine mj_e_iinc (lv' := [some (mj_R 1), some (.inl l1), some (.inl l2), some (.inl l3), some (.inl (l4 + 1))]) d_Gr_append_53 rfl rfl ?_
    refine mj_r_goto (tgt := 27) d_Gr_append_56 (by decide) ?_
    exact h
  · have h := h.2 q3
    refine mj_r_aload_n d_Gr_append_59 rfl ?_
    refine mj_r_dup d_Gr_append_60 rfl ?_
    refine mj_q_geti d_Gr_append_61 f_1_0 (.inl mw_87) rfl hn ?_
    refine mj_r_iconst (x := 1) d_Gr_append_64 rfl ?_
    refine mj_r_iadd d_Gr_append_65 ?_
    refine mj_q_put d_Gr_append_66 f_1_0 (mj_fit_I _) (.inl mw_87) rfl hn (fun w12 e13 => ?_)
    have h := h w12 e13
    exact mj_r_vret d_Gr_append_69 rfl (mj_q_ret h)
theorem v_Fo_forgetBehind_0 {g : mj_G} {nn d : Nat} {xs : mj_M} {Post : Option mj_V → mj_w → Prop} (hn : 21 ≤ nn) {w : mj_w} {l1 : Int}
    (h : mj_i (w 11 3 0) ∧ mj_i (l1 + 1) ∧ (∀ w3, w3 = mj_wu w 11 3 0 (mj_min (w 11 3 0) (l1 + 1)) → Post none w3)) :
    mj_J g y_Fo_forgetBehind (d + 1) 0 0 (0, [some (mj_R 11), some (.inl l1)], [], mj_mem nn xs w) (mj_P nn xs Post) := by
  refine mj_r_aload_n d_Fo_forgetBehind_0 rfl ?_
  refine mj_r_aload_n d_Fo_forgetBehind_1 rfl ?_
  refine mj_q_geti d_Fo_forgetBehind_2 f_11_3 (.inl mw_211) rfl hn ?_
  refine mj_r_iload_n d_Fo_forgetBehind_5 rfl ?_
  refine mj_r_iconst (x := 1) d_Fo_forgetBehind_6 rfl ?_
  refine mj_r_iadd d_Fo_forgetBehind_7 ?_
  obtain ⟨q1, h⟩ := h
  obtain ⟨q2, h⟩ := h
  refine mj_r_minI d_Fo_forgetBehind_8 mw_514 mw_515 mw_66 mw_516 rfl q1 q2 ?_
  refine mj_q_put d_Fo_forgetBehind_11 f_11_3 (mj_fit_I _) (.inl mw_211) rfl hn (fun w3 e4 => ?_)
  have h := h w3 e4
  exact mj_r_vret d_Fo_forgetBehind_14 rfl (mj_q_ret h)
theorem v_Ta_append_0 {g : mj_G} {nn d : Nat} {xs : mj_M} {Post : Option mj_V → mj_w → Prop} (hn : 21 ≤ nn) {w : mj_w} {l1 : Int}
    (h : mj_i (w 4 0 0) ∧ ((w 4 0 0) < 12 → (0 ≤ (w 4 0 0) ∧ (w 4 0 0) < 12 ∧ (∀ w5, w5 = mj_wu w 5 (w 4 0 0) 0 l1 → ∀ w7, w7 = mj_wu w5 4 0 0 ((w5 4 0 0) + 1) → Post none w7))) ∧ (¬ (w 4 0 0) < 12 → (Post none w))) :
    mj_J g y_Ta_append d 0 0 (0, [some (mj_R 4), some (.inl l1)], [], mj_mem nn xs w) (mj_P nn xs Post) := by
  refine mj_r_aload_n d_Ta_append_0 rfl ?_
  refine mj_q_geti d_Ta_append_1 f_4_0 (.inl mw_109) rfl hn ?_
  refine mj_r_bipush (x := 12) d_Ta_append_4 (by decide) ?_
  obtain ⟨q1, h⟩ := h
  refine mj_s_icmp_ge (tgt := 29) d_Ta_append_6 (by decide) q1 (mj_ik (by decide)) (fun q2 => ?_) (fun q2 => ?_)
  · have h := h.1 q2
    refine mj_r_aload_n d_Ta_append_9 rfl ?_
    refine mj_q_getr d_Ta_append_10 f_4_1 (.inl mw_112) rfl hn ?_
    refine mj_r_aload_n d_Ta_append_13 rfl ?_
    refine mj_q_geti d_Ta_append_14 f_4_0 (.inl mw_109) rfl hn ?_
    refine mj_r_iload_n d_Ta_append_17 rfl ?_
    obtain ⟨q3, h⟩ := h
    obtain ⟨q4, h⟩ := h
    refine mj_q_iast d_Ta_append_18 rfl rfl hn rfl q3 q4 (fun w5 e6 => ?_)
    have h := h w5 e6
    refine mj_r_aload_n d_Ta_append_19 rfl ?_
    refine mj_r_dup d_Ta_append_20 rfl ?_
    refine mj_q_geti d_Ta_append_21 f_4_0 (.inl mw_109) rfl hn ?_
    refine mj_r_iconst (x := 1) d_Ta_append_24 rfl ?_
    refine mj_r_iadd d_Ta_append_25 ?_
    refine mj_q_put d_Ta_append_26 f_4_0 (mj_fit_I _) (.inl mw_109) rfl hn (fun w7 e8 => ?_)
    have h := h w7 e8
    exact mj_r_vret d_Ta_append_29 rfl (mj_q_ret h)
  · have h := h.2 q2
    exact mj_r_vret d_Ta_append_29 rfl (mj_q_ret h)
theorem v_Ch_openNext_0 {g : mj_G} {nn d : Nat} {xs : mj_M} {Post : Option mj_V → mj_w → Prop} (hn : 21 ≤ nn) {w : mj_w} {l1 l2 : Int}
    (h : mj_J g y_Ch_nameLeaps d 0 0 (0, [some (mj_R 6), some (.inl (l1 - 1)), none], [], mj_mem nn xs w) (mj_P nn xs (fun v w1 => v = none ∧ (mj_J g y_Ch_empty d 0 0 (0, [some (mj_R 6), some (.inl l1), none], [], mj_mem nn xs w1) (mj_P nn xs (fun v w3 => v = none ∧ (mj_J g y_Ch_advance d 0 0 (0, [some (mj_R 6), some (.inl (l1 - 1)), some (.inl l2), some (.inl l1), none, none], [], mj_mem nn xs w3) (mj_P nn xs (fun v w5 => v = none ∧ (mj_J g y_Ch_close d 0 0 (0, [some (mj_R 6), some (.inl l1), none, none, none, none], [], mj_mem nn xs w5) (mj_P nn xs (fun v w7 => v = none ∧ (Post none w7))))))))))))) :
    mj_J g y_Ch_openNext (d + 1) 0 0 (0, [some (mj_R 6), some (.inl l1), some (.inl l2)], [], mj_mem nn xs w) (mj_P nn xs Post) := by
  refine mj_r_aload_n d_Ch_openNext_0 rfl ?_
  refine mj_r_iload_n d_Ch_openNext_1 rfl ?_
  refine mj_r_iconst (x := 1) d_Ch_openNext_2 rfl ?_
  refine mj_r_isub d_Ch_openNext_3 ?_
  refine mj_q_V1v d_Ch_openNext_4 h_Ch_nameLeaps (.inl mw_549) mw_551 mw_16 rfl rfl rfl hn rfl rfl (mj_wk h (fun v w1 h => ?_))
  obtain ⟨rfl, h⟩ := h
  refine ⟨rfl, ?_⟩
  refine mj_r_aload_n d_Ch_openNext_7 rfl ?_
  refine mj_r_iload_n d_Ch_openNext_8 rfl ?_
  refine mj_q_V1v d_Ch_openNext_9 h_Ch_empty (.inl mw_237) mw_239 mw_0 rfl rfl rfl hn rfl rfl (mj_wk h (fun v w3 h => ?_))
  obtain ⟨rfl, h⟩ := h
  refine ⟨rfl, ?_⟩
  refine mj_r_aload_n d_Ch_openNext_12 rfl ?_
  refine mj_r_iload_n d_Ch_openNext_13 rfl ?_
  refine mj_r_iconst (x := 1) d_Ch_openNext_14 rfl ?_
  refine mj_r_isub d_Ch_openNext_15 ?_
  refine mj_r_iload_n d_Ch_openNext_16 rfl ?_
  refine mj_r_iload_n d_Ch_openNext_17 rfl ?_
  refine mj_q_V3v d_Ch_openNext_18 h_Ch_advance (.inl mw_266) mw_268 mw_5 rfl rfl rfl hn rfl rfl (mj_wk h (fun v w5 h => ?_))
  obtain ⟨rfl, h⟩ := h
  refine ⟨rfl, ?_⟩
  refine mj_r_aload_n d_Ch_openNext_21 rfl ?_
  refine mj_r_iload_n d_Ch_openNext_22 rfl ?_
  refine mj_q_V1v d_Ch_openNext_23 h_Ch_close (.inl mw_250) mw_252 mw_2 rfl rfl rfl hn rfl rfl (mj_wk h (fun v w7 h => ?_))
  obtain ⟨rfl, h⟩ := h
  refine ⟨rfl, ?_⟩
  exact mj_r_vret d_Ch_openNext_26 rfl (mj_q_ret h)
theorem v_Ch_nameLeaps_0 {g : mj_G} {nn d : Nat} {xs : mj_M} {Post : Option mj_V → mj_w → Prop} (hn : 21 ≤ nn) {w : mj_w} {l1 : Int}
    (h : mj_J g y_Ch_nameLeaps (d + 1) 0 0 (2, [some (mj_R 6), some (.inl l1), some (.inl 0)], [], mj_mem nn xs w) (mj_P nn xs Post)) :
    mj_J g y_Ch_nameLeaps (d + 1) 0 0 (0, [some (mj_R 6), some (.inl l1), none], [], mj_mem nn xs w) (mj_P nn xs Post) := by
  refine mj_r_iconst (x := 0) d_Ch_nameLeaps_0 rfl ?_
  refine mj_e_istore_n (lv' := [some (mj_R 6), some (.inl l1), some (.inl 0)]) d_Ch_nameLeaps_1 rfl rfl ?_
  exact h
theorem v_Ch_nameLeaps_2 {g : mj_G} {nn d : Nat} {xs : mj_M} {Post : Option mj_V → mj_w → Prop} (hn : 21 ≤ nn) {w : mj_w} {l1 l2 : Int}
    (h : mj_i l2 ∧ (l2 < 5 → (0 ≤ l1 ∧ l1 < 13 ∧ mj_i (w 6 1 0) ∧ ((w 6 1 0) = 0 → (0 ≤ l2 ∧ l2 < 5 ∧ (∀ w9, w9 = mj_wu w 9 l1 l2 (-1) → mj_J g y_Ch_nameLeaps (d + 1) 0 0 (2, [some (mj_R 6), some (.inl l1), some (.inl (l2 + 1))], [], mj_mem nn xs w9) (mj_P nn xs Post)))) ∧ (¬ (w 6 1 0) = 0 → (mj_J g y_Ch_leapItem d 0 0 (0, [some (mj_R 6), some (.inl l1), some (.inl l2), none, none, none], [], mj_mem nn xs w) (mj_P nn xs (fun v w11 => ∃ x12 : Int, v = some (.inl x12) ∧ (0 ≤ l2 ∧ l2 < 5 ∧ (∀ w15, w15 = mj_wu w11 9 l1 l2 x12 → mj_J g y_Ch_nameLeaps (d + 1) 0 0 (2, [some (mj_R 6), some (.inl l1), some (.inl (l2 + 1))], [], mj_mem nn xs w15) (mj_P nn xs Post))))))))) ∧ (¬ l2 < 5 → (Post none w))) :
    mj_J g y_Ch_nameLeaps (d + 1) 0 0 (2, [some (mj_R 6), some (.inl l1), some (.inl l2)], [], mj_mem nn xs w) (mj_P nn xs Post) := by
  refine mj_r_iload_n d_Ch_nameLeaps_2 rfl ?_
  refine mj_r_iconst (x := 5) d_Ch_nameLeaps_3 rfl ?_
  obtain ⟨q1, h⟩ := h
  refine mj_s_icmp_ge (tgt := 38) d_Ch_nameLeaps_4 (by decide) q1 (mj_ik (by decide)) (fun q2 => ?_) (fun q2 => ?_)
  · have h := h.1 q2
    refine mj_r_aload_n d_Ch_nameLeaps_7 rfl ?_
    refine mj_q_getr d_Ch_nameLeaps_8 f_6_4 (.inl mw_131) rfl hn ?_
    refine mj_r_iload_n d_Ch_nameLeaps_11 rfl ?_
    obtain ⟨q3, h⟩ := h
    obtain ⟨q4, h⟩ := h
    refine mj_q_aald d_Ch_nameLeaps_12 rfl rfl hn rfl q3 q4 ?_
    refine mj_r_iload_n d_Ch_nameLeaps_13 rfl ?_
    refine mj_r_aload_n d_Ch_nameLeaps_14 rfl ?_
    refine mj_q_geti d_Ch_nameLeaps_15 f_6_1 (.inl mw_127) rfl hn ?_
    obtain ⟨q5, h⟩ := h
    refine mj_s_if_eq (tgt := 30) d_Ch_nameLeaps_18 (by decide) q5 (fun q6 => ?_) (fun q6 => ?_)
    · have h := h.1 q6
      refine mj_r_iconst (x := (-1)) d_Ch_nameLeaps_30 rfl ?_
      obtain ⟨q7, h⟩ := h
      obtain ⟨q8, h⟩ := h
      refine mj_q_gast d_Ch_nameLeaps_31 rfl rfl hn rfl q3 q4 q7 q8 (fun w9 e10 => ?_)
      have h := h w9 e10
      refine mj_e_iinc (lv' := [some (mj_R 6), some (.inl l1), some (.inl (l2 + 1))]) d_Ch_nameLeaps_32 rfl rfl ?_
      refine mj_r_goto (tgt := 2) d_Ch_nameLeaps_35 (by decide) ?_
      exact h
    · have h := h.2 q6
      refine mj_r_aload_n d_Ch_nameLeaps_21 rfl ?_
      refine mj_r_iload_n d_Ch_nameLeaps_22 rfl ?_
      refine mj_r_iload_n d_Ch_nameLeaps_23 rfl ?_
      refine mj_q_V2i d_Ch_nameLeaps_24 h_Ch_leapItem (.inl mw_553) mw_555 mw_17 rfl rfl rfl hn rfl rfl (mj_wk h (fun v w11 h => ?_))
      obtain ⟨x12, rfl, h⟩ := h
      refine ⟨x12, rfl, ?_⟩
      refine mj_r_goto (tgt := 31) d_Ch_nameLeaps_27 (by decide) ?_
      obtain ⟨q13, h⟩ := h
      obtain ⟨q14, h⟩ := h
      refine mj_q_gast d_Ch_nameLeaps_31 rfl rfl hn rfl q3 q4 q13 q14 (fun w15 e16 => ?_)
      have h := h w15 e16
      refine mj_e_iinc (lv' := [some (mj_R 6), some (.inl l1), some (.inl (l2 + 1))]) d_Ch_nameLeaps_32 rfl rfl ?_
      refine mj_r_goto (tgt := 2) d_Ch_nameLeaps_35 (by decide) ?_
      exact h
  · have h := h.2 q2
    exact mj_r_vret d_Ch_nameLeaps_38 rfl (mj_q_ret h)
theorem v_Ch_leapItem_0 {g : mj_G} {nn d : Nat} {xs : mj_M} {Post : Option mj_V → mj_w → Prop} (hn : 21 ≤ nn) {w : mj_w} {l1 l2 : Int}
    (h : mj_J g y_Ch_loneSlot d 0 0 (0, [some (mj_R 6), some (.inl l1), some (.inl l2), none, none, none], [], mj_mem nn xs w) (mj_P nn xs (fun v w1 => ∃ x2 : Int, v = some (.inl x2) ∧ (mj_i x2 ∧ (x2 = (-1) → (Post (some (.inl ((-1)))) w1)) ∧ (¬ x2 = (-1) → (0 ≤ (x2 + 1) ∧ (x2 + 1) < 44 ∧ mj_i (w1 3 (x2 + 1) 0) ∧ ((w1 3 (x2 + 1) 0) = (-1) → (0 ≤ l1 ∧ l1 < 13 ∧ 0 ≤ x2 ∧ x2 < 44 ∧ mj_J g y_J_Integer_bitCount_I d 0 0 (0, [some (.inl ((w1 7 l1 x2) - 1))], [], mj_mem nn xs w1) (mj_P nn xs (fun v w13 => ∃ x14 : Int, v = some (.inl x14) ∧ (mj_J g y_Ch_leftSide d 0 0 (0, [some (mj_R 6), some (.inl x2)], [], mj_mem nn xs w13) (mj_P nn xs (fun v w15 => ∃ x16 : Int, v = some (.inl x16) ∧ (mj_i x14 ∧ mj_i l1 ∧ (x14 < l1 → (mj_i x16 ∧ (x16 = (-1) → (Post (some (.inl (((x2 + 1) * 13) + x14))) w15)) ∧ (¬ x16 = (-1) → (0 ≤ x14 ∧ x14 < 13 ∧ 0 ≤ x16 ∧ x16 < 5 ∧ mj_i (w15 9 x14 x16) ∧ ((w15 9 x14 x16) = (-1) → (Post (some (.inl (((x2 + 1) * 13) + x14))) w15)) ∧ (¬ (w15 9 x14 x16) = (-1) → (Post (some (.inl (w15 9 x14 x16))) w15)))))) ∧ (¬ x14 < l1 → (Post (some (.inl (((x2 + 1) * 13) + x14))) w15)))))))))) ∧ (¬ (w1 3 (x2 + 1) 0) = (-1) → (Post (some (.inl ((-1)))) w1)))))))) :
    mj_J g y_Ch_leapItem (d + 1) 0 0 (0, [some (mj_R 6), some (.inl l1), some (.inl l2), none, none, none], [], mj_mem nn xs w) (mj_P nn xs Post) := by
  refine mj_r_aload_n d_Ch_leapItem_0 rfl ?_
  refine mj_r_iload_n d_Ch_leapItem_1 rfl ?_
  refine mj_r_iload_n d_Ch_leapItem_2 rfl ?_
  refine mj_q_V2i d_Ch_leapItem_3 h_Ch_loneSlot (.inl mw_557) mw_559 mw_18 rfl rfl rfl hn rfl rfl (mj_wk h (fun v w1 h => ?_))
  obtain ⟨x2, rfl, h⟩ := h
  refine ⟨x2, rfl, ?_⟩
  refine mj_e_istore_n (lv' := [some (mj_R 6), some (.inl l1), some (.inl l2), some (.inl x2), none, none]) d_Ch_leapItem_6 rfl rfl ?_
  refine mj_r_iload_n d_Ch_leapItem_7 rfl ?_
  refine mj_r_iconst (x := (-1)) d_Ch_leapItem_8 rfl ?_
  obtain ⟨q3, h⟩ := h
  refine mj_s_icmp_eq (tgt := 27) d_Ch_leapItem_9 (by decide) q3 (mj_ik (by decide)) (fun q4 => ?_) (fun q4 => ?_)
  · have h := h.1 q4
    refine mj_r_iconst (x := (-1)) d_Ch_leapItem_27 rfl ?_
    exact mj_r_iret d_Ch_leapItem_28 rfl (mj_q_ret h)
  · have h := h.2 q4
    refine mj_r_aload_n d_Ch_leapItem_12 rfl ?_
    refine mj_q_getr d_Ch_leapItem_13 f_6_0 (.inl mw_126) rfl hn ?_
    refine mj_q_getr d_Ch_leapItem_16 f_1_2 (.inr mw_94) rfl hn ?_
    refine mj_r_iload_n d_Ch_leapItem_19 rfl ?_
    refine mj_r_iconst (x := 1) d_Ch_leapItem_20 rfl ?_
    refine mj_r_iadd d_Ch_leapItem_21 ?_
    obtain ⟨q5, h⟩ := h
    obtain ⟨q6, h⟩ := h
    refine mj_q_iald d_Ch_leapItem_22 rfl rfl hn rfl q5 q6 ?_
    refine mj_r_iconst (x := (-1)) d_Ch_leapItem_23 rfl ?_
    obtain ⟨q7, h⟩ := h
    refine mj_s_icmp_eq (tgt := 29) d_Ch_leapItem_24 (by decide) q7 (mj_ik (by decide)) (fun q8 => ?_) (fun q8 => ?_)
    · have h := h.1 q8
      refine mj_r_aload_n d_Ch_leapItem_29 rfl ?_
      refine mj_q_getr d_Ch_leapItem_30 f_6_2 (.inl mw_128) rfl hn ?_
      refine mj_r_iload_n d_Ch_leapItem_33 rfl ?_
      obtain ⟨q9, h⟩ := h
      obtain ⟨q10, h⟩ := h
      refine mj_q_aald d_Ch_leapItem_34 rfl rfl hn rfl q9 q10 ?_
      refine mj_r_iload_n d_Ch_leapItem_35 rfl ?_
      obtain ⟨q11, h⟩ := h
      obtain ⟨q12, h⟩ := h
      refine mj_q_gald d_Ch_leapItem_36 rfl rfl hn rfl q9 q10 q11 q12 ?_
      refine mj_r_iconst (x := 1) d_Ch_leapItem_37 rfl ?_
      refine mj_r_isub d_Ch_leapItem_38 ?_
      refine mj_q_S1i d_Ch_leapItem_39 h_J_Integer_bitCount_I (.inl mw_561) mw_562 rfl rfl (mj_wk h (fun v w13 h => ?_))
      obtain ⟨x14, rfl, h⟩ := h
      refine ⟨x14, rfl, ?_⟩
      refine mj_e_istore (lv' := [some (mj_R 6), some (.inl l1), some (.inl l2), some (.inl x2), some (.inl x14), none]) d_Ch_leapItem_42 rfl rfl ?_
      refine mj_r_aload_n d_Ch_leapItem_44 rfl ?_
      refine mj_r_iload_n d_Ch_leapItem_45 rfl ?_
      refine mj_q_V1i d_Ch_leapItem_46 h_Ch_leftSide (.inl mw_254) mw_256 mw_3 rfl rfl rfl hn rfl rfl (mj_wk h (fun v w15 h => ?_))
      obtain ⟨x16, rfl, h⟩ := h
      refine ⟨x16, rfl, ?_⟩
      refine mj_e_istore (lv' := [some (mj_R 6), some (.inl l1), some (.inl l2), some (.inl x2), some (.inl x14), some (.inl x16)]) d_Ch_leapItem_49 rfl rfl ?_
      refine mj_r_iload d_Ch_leapItem_51 rfl ?_
      refine mj_r_iload_n d_Ch_leapItem_53 rfl ?_
      obtain ⟨q17, h⟩ := h
      obtain ⟨q18, h⟩ := h
      refine mj_s_icmp_ge (tgt := 88) d_Ch_leapItem_54 (by decide) q17 q18 (fun q19 => ?_) (fun q19 => ?_)
      · have h := h.1 q19
        refine mj_r_iload d_Ch_leapItem_57 rfl ?_
        refine mj_r_iconst (x := (-1)) d_Ch_leapItem_59 rfl ?_
        obtain ⟨q20, h⟩ := h
        refine mj_s_icmp_eq (tgt := 88) d_Ch_leapItem_60 (by decide) q20 (mj_ik (by decide)) (fun q21 => ?_) (fun q21 => ?_)
        · have h := h.1 q21
          refine mj_r_iload_n d_Ch_leapItem_88 rfl ?_
          refine mj_r_iconst (x := 1) d_Ch_leapItem_89 rfl ?_
          refine mj_r_iadd d_Ch_leapItem_90 ?_
          refine mj_r_bipush (x := 13) d_Ch_leapItem_91 (by decide) ?_
          refine mj_r_imul d_Ch_leapItem_93 ?_
          refine mj_r_iload d_Ch_leapItem_94 rfl ?_
          refine mj_r_iadd d_Ch_leapItem_96 ?_
          exact mj_r_iret d_Ch_leapItem_97 rfl (mj_q_ret h)
        · have h := h.2 q21
          refine mj_r_aload_n d_Ch_leapItem_63 rfl ?_
          refine mj_q_getr d_Ch_leapItem_64 f_6_4 (.inl mw_131) rfl hn ?_
          refine mj_r_iload d_Ch_leapItem_67 rfl ?_
          obtain ⟨q22, h⟩ := h
          obtain ⟨q23, h⟩ := h
          refine mj_q_aald d_Ch_leapItem_69 rfl rfl hn rfl q22 q23 ?_
          refine mj_r_iload d_Ch_leapItem_70 rfl ?_
          obtain ⟨q24, h⟩ := h
          obtain ⟨q25, h⟩ := h
          refine mj_q_gald d_Ch_leapItem_72 rfl rfl hn rfl q22 q23 q24 q25 ?_
          refine mj_r_iconst (x := (-1)) d_Ch_leapItem_73 rfl ?_
          obtain ⟨q26, h⟩ := h
          refine mj_s_icmp_eq (tgt := 88) d_Ch_leapItem_74 (by decide) q26 (mj_ik (by decide)) (fun q27 => ?_) (fun q27 => ?_)
          · have h := h.1 q27
            refine mj_r_iload_n d_Ch_leapItem_88 rfl ?_
            refine mj_r_iconst (x := 1) d_Ch_leapItem_89 rfl ?_
            refine mj_r_iadd d_Ch_leapItem_90 ?_
            refine mj_r_bipush (x := 13) d_Ch_leapItem_91 (by decide) ?_
            refine mj_r_imul d_Ch_leapItem_93 ?_
            refine mj_r_iload d_Ch_leapItem_94 rfl ?_
            refine mj_r_iadd d_Ch_leapItem_96 ?_
            exact mj_r_iret d_Ch_leapItem_97 rfl (mj_q_ret h)
          · have h := h.2 q27
            refine mj_r_aload_n d_Ch_leapItem_77 rfl ?_
            refine mj_q_getr d_Ch_leapItem_78 f_6_4 (.inl mw_131) rfl hn ?_
            refine mj_r_iload d_Ch_leapItem_81 rfl ?_
            refine mj_q_aald d_Ch_leapItem_83 rfl rfl hn rfl q22 q23 ?_
            refine mj_r_iload d_Ch_leapItem_84 rfl ?_
            refine mj_q_gald d_Ch_leapItem_86 rfl rfl hn rfl q22 q23 q24 q25 ?_
            exact mj_r_iret d_Ch_leapItem_87 rfl (mj_q_ret h)
      · have h := h.2 q19
        refine mj_r_iload_n d_Ch_leapItem_88 rfl ?_
        refine mj_r_iconst (x := 1) d_Ch_leapItem_89 rfl ?_
        refine mj_r_iadd d_Ch_leapItem_90 ?_
        refine mj_r_bipush (x := 13) d_Ch_leapItem_91 (by decide) ?_
        refine mj_r_imul d_Ch_leapItem_93 ?_
        refine mj_r_iload d_Ch_leapItem_94 rfl ?_
        refine mj_r_iadd d_Ch_leapItem_96 ?_
        exact mj_r_iret d_Ch_leapItem_97 rfl (mj_q_ret h)
    · have h := h.2 q8
      refine mj_r_iconst (x := (-1)) d_Ch_leapItem_27 rfl ?_
      exact mj_r_iret d_Ch_leapItem_28 rfl (mj_q_ret h)
theorem v_Ch_loneSlot_0 {g : mj_G} {nn d : Nat} {xs : mj_M} {Post : Option mj_V → mj_w → Prop} (hn : 21 ≤ nn) {w : mj_w} {l1 l2 : Int}
    (h : mj_J g y_Ch_loneSlot (d + 1) 0 0 (8, [some (mj_R 6), some (.inl l1), some (.inl l2), some (.inl 0), some (.inl ((-1))), some (.inl 0)], [], mj_mem nn xs w) (mj_P nn xs Post)) :
    mj_J g y_Ch_loneSlot (d + 1) 0 0 (0, [some (mj_R 6), some (.inl l1), some (.inl l2), none, none, none], [], mj_mem nn xs w) (mj_P nn xs Post) := by
  refine mj_r_iconst (x := 0) d_Ch_loneSlot_0 rfl ?_
  refine mj_e_istore_n (lv' := [some (mj_R 6), some (.inl l1), some (.inl l2), some (.inl 0), none, none]) d_Ch_loneSlot_1 rfl rfl ?_
  refine mj_r_iconst (x := (-1)) d_Ch_loneSlot_2 rfl ?_
  refine mj_e_istore (lv' := [some (mj_R 6), some (.inl l1), some (.inl l2), some (.inl 0), some (.inl ((-1))), none]) d_Ch_loneSlot_3 rfl rfl ?_
  refine mj_r_iconst (x := 0) d_Ch_loneSlot_5 rfl ?_
  refine mj_e_istore (lv' := [some (mj_R 6), some (.inl l1), some (.inl l2), some (.inl 0), some (.inl ((-1))), some (.inl 0)]) d_Ch_loneSlot_6 rfl rfl ?_
  exact h
theorem v_Ch_loneSlot_8 {g : mj_G} {nn d : Nat} {xs : mj_M} {Post : Option mj_V → mj_w → Prop} (hn : 21 ≤ nn) {w : mj_w} {l1 l2 l3 l4 l5 : Int}
    (h : mj_i l5 ∧ (l5 < 44 → (0 ≤ l1 ∧ l1 < 13 ∧ 0 ≤ l5 ∧ l5 < 44 ∧ mj_i (w 7 l1 l5) ∧ ((w 7 l1 l5) = 0 → (mj_J g y_Ch_loneSlot (d + 1) 0 0 (8, [some (mj_R 6), some (.inl l1), some (.inl l2), some (.inl l3), some (.inl l4), some (.inl (l5 + 1))], [], mj_mem nn xs w) (mj_P nn xs Post))) ∧ (¬ (w 7 l1 l5) = 0 → (mj_i (w 3 l5 0) ∧ mj_i l2 ∧ ((w 3 l5 0) = l2 → (mj_J g y_J_Integer_bitCount_I d 0 0 (0, [some (.inl (w 7 l1 l5))], [], mj_mem nn xs w) (mj_P nn xs (fun v w12 => ∃ x13 : Int, v = some (.inl x13) ∧ (mj_J g y_Ch_loneSlot (d + 1) 0 0 (8, [some (mj_R 6), some (.inl l1), some (.inl l2), some (.inl (l3 + x13)), some (.inl l5), some (.inl (l5 + 1))], [], mj_mem nn xs w12) (mj_P nn xs Post)))))) ∧ (¬ (w 3 l5 0) = l2 → (mj_J g y_Ch_loneSlot (d + 1) 0 0 (8, [some (mj_R 6), some (.inl l1), some (.inl l2), some (.inl l3), some (.inl l4), some (.inl (l5 + 1))], [], mj_mem nn xs w) (mj_P nn xs Post))))))) ∧ (¬ l5 < 44 → (mj_i l3 ∧ (l3 = 1 → (Post (some (.inl l4)) w)) ∧ (¬ l3 = 1 → (Post (some (.inl ((-1)))) w))))) :
    mj_J g y_Ch_loneSlot (d + 1) 0 0 (8, [some (mj_R 6), some (.inl l1), some (.inl l2), some (.inl l3), some (.inl l4), some (.inl l5)], [], mj_mem nn xs w) (mj_P nn xs Post) := by
  refine mj_r_iload d_Ch_loneSlot_8 rfl ?_
  refine mj_r_bipush (x := 44) d_Ch_loneSlot_10 (by decide) ?_
  obtain ⟨q1, h⟩ := h
  refine mj_s_icmp_ge (tgt := 66) d_Ch_loneSlot_12 (by decide) q1 (mj_ik (by decide)) (fun q2 => ?_) (fun q2 => ?_)
  · have h := h.1 q2
    refine mj_r_aload_n d_Ch_loneSlot_15 rfl ?_
    refine mj_q_getr d_Ch_loneSlot_16 f_6_2 (.inl mw_128) rfl hn ?_
    refine mj_r_iload_n d_Ch_loneSlot_19 rfl ?_
    obtain ⟨q3, h⟩ := h
    obtain ⟨q4, h⟩ := h
    refine mj_q_aald d_Ch_loneSlot_20 rfl rfl hn rfl q3 q4 ?_
    refine mj_r_iload d_Ch_loneSlot_21 rfl ?_
    obtain ⟨q5, h⟩ := h
    obtain ⟨q6, h⟩ := h
    refine mj_q_gald d_Ch_loneSlot_23 rfl rfl hn rfl q3 q4 q5 q6 ?_
    obtain ⟨q7, h⟩ := h
    refine mj_s_if_eq (tgt := 60) d_Ch_loneSlot_24 (by decide) q7 (fun q8 => ?_) (fun q8 => ?_)
    · have h := h.1 q8
      refine mj_e_iinc (lv' := [some (mj_R 6), some (.inl l1), some (.inl l2), some (.inl l3), some (.inl l4), some (.inl (l5 + 1))]) d_Ch_loneSlot_60 rfl rfl ?_
      refine mj_r_goto (tgt := 8) d_Ch_loneSlot_63 (by decide) ?_
      exact h
    · have h := h.2 q8
      refine mj_r_aload_n d_Ch_loneSlot_27 rfl ?_
      refine mj_q_getr d_Ch_loneSlot_28 f_6_0 (.inl mw_126) rfl hn ?_
      refine mj_q_getr d_Ch_loneSlot_31 f_1_2 (.inr mw_94) rfl hn ?_
      refine mj_r_iload d_Ch_loneSlot_34 rfl ?_
      refine mj_q_iald d_Ch_loneSlot_36 rfl rfl hn rfl q5 q6 ?_
      refine mj_r_iload_n d_Ch_loneSlot_37 rfl ?_
      obtain ⟨q9, h⟩ := h
      obtain ⟨q10, h⟩ := h
      refine mj_s_icmp_ne (tgt := 60) d_Ch_loneSlot_38 (by decide) q9 q10 (fun q11 => ?_) (fun q11 => ?_)
      · have h := h.1 q11
        refine mj_r_iload_n d_Ch_loneSlot_41 rfl ?_
        refine mj_r_aload_n d_Ch_loneSlot_42 rfl ?_
        refine mj_q_getr d_Ch_loneSlot_43 f_6_2 (.inl mw_128) rfl hn ?_
        refine mj_r_iload_n d_Ch_loneSlot_46 rfl ?_
        refine mj_q_aald d_Ch_loneSlot_47 rfl rfl hn rfl q3 q4 ?_
        refine mj_r_iload d_Ch_loneSlot_48 rfl ?_
        refine mj_q_gald d_Ch_loneSlot_50 rfl rfl hn rfl q3 q4 q5 q6 ?_
        refine mj_q_S1i d_Ch_loneSlot_51 h_J_Integer_bitCount_I (.inl mw_561) mw_562 rfl rfl (mj_wk h (fun v w12 h => ?_))
        obtain ⟨x13, rfl, h⟩ := h
        refine ⟨x13, rfl, ?_⟩
        refine mj_r_iadd d_Ch_loneSlot_54 ?_
        refine mj_e_istore_n (lv' := [some (mj_R 6), some (.inl l1), some (.inl l2), some (.inl (l3 + x13)), some (.inl l4), some (.inl l5)]) d_Ch_loneSlot_55 rfl rfl ?_
        refine mj_r_iload d_Ch_loneSlot_56 rfl ?_
        refine mj_e_istore (lv' := [some (mj_R 6), some (.inl l1), some (.inl l2), some (.inl (l3 + x13)), some (.inl l5), some (.inl l5)]) d_Ch_loneSlot_58 rfl rfl ?_
        refine mj_e_iinc (lv' := [some (mj_R 6), some (.inl l1), some (.inl l2), some (.inl (l3 + x13)), some (.inl l5), some (.inl (l5 + 1))]) d_Ch_loneSlot_60 rfl rfl ?_
        refine mj_r_goto (tgt := 8) d_Ch_loneSlot_63 (by decide) ?_
        exact h
      · have h := h.2 q11
        refine mj_e_iinc (lv' := [some (mj_R 6), some (.inl l1), some (.inl l2), some (.inl l3), some (.inl l4), some (.inl (l5 + 1))]) d_Ch_loneSlot_60 rfl rfl ?_
        refine mj_r_goto (tgt := 8) d_Ch_loneSlot_63 (by decide) ?_
        exact h
  · have h := h.2 q2
    refine mj_r_iload_n d_Ch_loneSlot_66 rfl ?_
    refine mj_r_iconst (x := 1) d_Ch_loneSlot_67 rfl ?_
    obtain ⟨q14, h⟩ := h
    refine mj_s_icmp_ne (tgt := 76) d_Ch_loneSlot_68 (by decide) q14 (mj_ik (by decide)) (fun q15 => ?_) (fun q15 => ?_)
    · have h := h.1 q15
      refine mj_r_iload d_Ch_loneSlot_71 rfl ?_
      refine mj_r_goto (tgt := 77) d_Ch_loneSlot_73 (by decide) ?_
      exact mj_r_iret d_Ch_loneSlot_77 rfl (mj_q_ret h)
    · have h := h.2 q15
      refine mj_r_iconst (x := (-1)) d_Ch_loneSlot_76 rfl ?_
      exact mj_r_iret d_Ch_loneSlot_77 rfl (mj_q_ret h)
theorem v_J_Integer_bitCount_I_0 {g : mj_G} {nn d : Nat} {xs : mj_M} {Post : Option mj_V → mj_w → Prop} (hn : 21 ≤ nn) {w : mj_w} {l0 : Int}
    (h : Post (some (.inl (mj_and (((mj_and (((mj_and (l0 - (mj_and (mj_ush l0 1) 1431655765)) 858993459) + (mj_and (mj_ush (l0 - (mj_and (mj_ush l0 1) 1431655765)) 2) 858993459)) + (mj_ush ((mj_and (l0 - (mj_and (mj_ush l0 1) 1431655765)) 858993459) + (mj_and (mj_ush (l0 - (mj_and (mj_ush l0 1) 1431655765)) 2) 858993459)) 4)) 252645135) + (mj_ush (mj_and (((mj_and (l0 - (mj_and (mj_ush l0 1) 1431655765)) 858993459) + (mj_and (mj_ush (l0 - (mj_and (mj_ush l0 1) 1431655765)) 2) 858993459)) + (mj_ush ((mj_and (l0 - (mj_and (mj_ush l0 1) 1431655765)) 858993459) + (mj_and (mj_ush (l0 - (mj_and (mj_ush l0 1) 1431655765)) 2) 858993459)) 4)) 252645135) 8)) + (mj_ush ((mj_and (((mj_and (l0 - (mj_and (mj_ush l0 1) 1431655765)) 858993459) + (mj_and (mj_ush (l0 - (mj_and (mj_ush l0 1) 1431655765)) 2) 858993459)) + (mj_ush ((mj_and (l0 - (mj_and (mj_ush l0 1) 1431655765)) 858993459) + (mj_and (mj_ush (l0 - (mj_and (mj_ush l0 1) 1431655765)) 2) 858993459)) 4)) 252645135) + (mj_ush (mj_and (((mj_and (l0 - (mj_and (mj_ush l0 1) 1431655765)) 858993459) + (mj_and (mj_ush (l0 - (mj_and (mj_ush l0 1) 1431655765)) 2) 858993459)) + (mj_ush ((mj_and (l0 - (mj_and (mj_ush l0 1) 1431655765)) 858993459) + (mj_and (mj_ush (l0 - (mj_and (mj_ush l0 1) 1431655765)) 2) 858993459)) 4)) 252645135) 8)) 16)) 63))) w) :
    mj_J g y_J_Integer_bitCount_I d 0 0 (0, [some (.inl l0)], [], mj_mem nn xs w) (mj_P nn xs Post) := by
  refine mj_r_iload_n d_J_Integer_bitCount_I_0 rfl ?_
  refine mj_r_iload_n d_J_Integer_bitCount_I_1 rfl ?_
  refine mj_r_iconst (x := 1) d_J_Integer_bitCount_I_2 rfl ?_
  refine mj_r_iushr d_J_Integer_bitCount_I_3 ?_
  refine mj_r_ldc_w (x := 1431655765) d_J_Integer_bitCount_I_4 mw_564 ?_
  refine mj_r_iand d_J_Integer_bitCount_I_7 ?_
  refine mj_r_isub d_J_Integer_bitCount_I_8 ?_
  refine mj_e_istore_n (lv' := [some (.inl (l0 - (mj_and (mj_ush l0 1) 1431655765)))]) d_J_Integer_bitCount_I_9 rfl rfl ?_
  refine mj_r_iload_n d_J_Integer_bitCount_I_10 rfl ?_
  refine mj_r_ldc_w (x := 858993459) d_J_Integer_bitCount_I_11 mw_565 ?_
  refine mj_r_iand d_J_Integer_bitCount_I_14 ?_
  refine mj_r_iload_n d_J_Integer_bitCount_I_15 rfl ?_
  refine mj_r_iconst (x := 2) d_J_Integer_bitCount_I_16 rfl ?_
  refine mj_r_iushr d_J_Integer_bitCount_I_17 ?_
  refine mj_r_ldc_w (x := 858993459) d_J_Integer_bitCount_I_18 mw_565 ?_
  refine mj_r_iand d_J_Integer_bitCount_I_21 ?_
  refine mj_r_iadd d_J_Integer_bitCount_I_22 ?_
  refine mj_e_istore_n (lv' := [some (.inl ((mj_and (l0 - (mj_and (mj_ush l0 1) 1431655765)) 858993459) + (mj_and (mj_ush (l0 - (mj_and (mj_ush l0 1) 1431655765)) 2) 858993459)))]) d_J_Integer_bitCount_I_23 rfl rfl ?_
  refine mj_r_iload_n d_J_Integer_bitCount_I_24 rfl ?_
  refine mj_r_iload_n d_J_Integer_bitCount_I_25 rfl ?_
  refine mj_r_iconst (x := 4) d_J_Integer_bitCount_I_26 rfl ?_
  refine mj_r_iushr d_J_Integer_bitCount_I_27 ?_
  refine mj_r_iadd d_J_Integer_bitCount_I_28 ?_
  refine mj_r_ldc_w (x := 252645135) d_J_Integer_bitCount_I_29 mw_566 ?_
  refine mj_r_iand d_J_Integer_bitCount_I_32 ?_
  refine mj_e_istore_n (lv' := [some (.inl (mj_and (((mj_and (l0 - (mj_and (mj_ush l0 1) 1431655765)) 858993459) + (mj_and (mj_ush (l0 - (mj_and (mj_ush l0 1) 1431655765)) 2) 858993459)) + (mj_ush ((mj_and (l0 - (mj_and (mj_ush l0 1) 1431655765)) 858993459) + (mj_and (mj_ush (l0 - (mj_and (mj_ush l0 1) 1431655765)) 2) 858993459)) 4)) 252645135))]) d_J_Integer_bitCount_I_33 rfl rfl ?_
  refine mj_r_iload_n d_J_Integer_bitCount_I_34 rfl ?_
  refine mj_r_iload_n d_J_Integer_bitCount_I_35 rfl ?_
  refine mj_r_bipush (x := 8) d_J_Integer_bitCount_I_36 (by decide) ?_
  refine mj_r_iushr d_J_Integer_bitCount_I_38 ?_
  refine mj_r_iadd d_J_Integer_bitCount_I_39 ?_
  refine mj_e_istore_n (lv' := [some (.inl ((mj_and (((mj_and (l0 - (mj_and (mj_ush l0 1) 1431655765)) 858993459) + (mj_and (mj_ush (l0 - (mj_and (mj_ush l0 1) 1431655765)) 2) 858993459)) + (mj_ush ((mj_and (l0 - (mj_and (mj_ush l0 1) 1431655765)) 858993459) + (mj_and (mj_ush (l0 - (mj_and (mj_ush l0 1) 1431655765)) 2) 858993459)) 4)) 252645135) + (mj_ush (mj_and (((mj_and (l0 - (mj_and (mj_ush l0 1) 1431655765)) 858993459) + (mj_and (mj_ush (l0 - (mj_and (mj_ush l0 1) 1431655765)) 2) 858993459)) + (mj_ush ((mj_and (l0 - (mj_and (mj_ush l0 1) 1431655765)) 858993459) + (mj_and (mj_ush (l0 - (mj_and (mj_ush l0 1) 1431655765)) 2) 858993459)) 4)) 252645135) 8)))]) d_J_Integer_bitCount_I_40 rfl rfl ?_
  refine mj_r_iload_n d_J_Integer_bitCount_I_41 rfl ?_
  refine mj_r_iload_n d_J_Integer_bitCount_I_42 rfl ?_
  refine mj_r_bipush (x := 16) d_J_Integer_bitCount_I_43 (by decide) ?_
  refine mj_r_iushr d_J_Integer_bitCount_I_45 ?_
  refine mj_r_iadd d_J_Integer_bitCount_I_46 ?_
  refine mj_e_istore_n (lv' := [some (.inl (((mj_and (((mj_and (l0 - (mj_and (mj_ush l0 1) 1431655765)) 858993459) + (mj_and (mj_ush (l0 - (mj_and (mj_ush l0 1) 1431655765)) 2) 858993459)) + (mj_ush ((mj_and (l0 - (mj_and (mj_ush l0 1) 1431655765)) 858993459) + (mj_and (mj_ush (l0 - (mj_and (mj_ush l0 1) 1431655765)) 2) 858993459)) 4)) 252645135) + (mj_ush (mj_and (((mj_and (l0 - (mj_and (mj_ush l0 1) 1431655765)) 858993459) + (mj_and (mj_ush (l0 - (mj_and (mj_ush l0 1) 1431655765)) 2) 858993459)) + (mj_ush ((mj_and (l0 - (mj_and (mj_ush l0 1) 1431655765)) 858993459) + (mj_and (mj_ush (l0 - (mj_and (mj_ush l0 1) 1431655765)) 2) 858993459)) 4)) 252645135) 8)) + (mj_ush ((mj_and (((mj_and (l0 - (mj_and (mj_ush l0 1) 1431655765)) 858993459) + (mj_and (mj_ush (l0 - (mj_and (mj_ush l0 1) 1431655765)) 2) 858993459)) + (mj_ush ((mj_and (l0 - (mj_and (mj_ush l0 1) 1431655765)) 858993459) + (mj_and (mj_ush (l0 - (mj_and (mj_ush l0 1) 1431655765)) 2) 858993459)) 4)) 252645135) + (mj_ush (mj_and (((mj_and (l0 - (mj_and (mj_ush l0 1) 1431655765)) 858993459) + (mj_and (mj_ush (l0 - (mj_and (mj_ush l0 1) 1431655765)) 2) 858993459)) + (mj_ush ((mj_and (l0 - (mj_and (mj_ush l0 1) 1431655765)) 858993459) + (mj_and (mj_ush (l0 - (mj_and (mj_ush l0 1) 1431655765)) 2) 858993459)) 4)) 252645135) 8)) 16)))]) d_J_Integer_bitCount_I_47 rfl rfl ?_
  refine mj_r_iload_n d_J_Integer_bitCount_I_48 rfl ?_
  refine mj_r_bipush (x := 63) d_J_Integer_bitCount_I_49 (by decide) ?_
  refine mj_r_iand d_J_Integer_bitCount_I_51 ?_
  exact mj_r_iret d_J_Integer_bitCount_I_52 rfl (mj_q_ret h)
theorem v_CF_isSet_0 {g : mj_G} {nn d : Nat} {xs : mj_M} {Post : Option mj_V → mj_w → Prop} (hn : 21 ≤ nn) {w : mj_w} {l1 : Int}
    (h : mj_i l1 ∧ (l1 < 0 → (Post (some (.inl 0)) w)) ∧ (¬ l1 < 0 → (mj_i (w 4 0 0) ∧ ((w 4 0 0) < l1 → (Post (some (.inl 0)) w)) ∧ (¬ (w 4 0 0) < l1 → (Post (some (.inl 1)) w))))) :
    mj_J g y_CF_isSet d 0 0 (0, [some (mj_R 0), some (.inl l1)], [], mj_mem nn xs w) (mj_P nn xs Post) := by
  refine mj_r_iload_n d_CF_isSet_0 rfl ?_
  obtain ⟨q1, h⟩ := h
  refine mj_s_if_lt (tgt := 19) d_CF_isSet_1 (by decide) q1 (fun q2 => ?_) (fun q2 => ?_)
  · have h := h.1 q2
    refine mj_r_iconst (x := 0) d_CF_isSet_19 rfl ?_
    exact mj_r_zret d_CF_isSet_20 rfl (by decide) (mj_q_ret h)
  · have h := h.2 q2
    refine mj_r_iload_n d_CF_isSet_4 rfl ?_
    refine mj_r_aload_n d_CF_isSet_5 rfl ?_
    refine mj_q_getr d_CF_isSet_6 f_0_1 (.inl mw_278) rfl hn ?_
    refine mj_q_geti d_CF_isSet_9 f_4_0 (.inr mw_110) rfl hn ?_
    obtain ⟨q3, h⟩ := h
    refine mj_s_icmp_gt (tgt := 19) d_CF_isSet_12 (by decide) q1 q3 (fun q4 => ?_) (fun q4 => ?_)
    · have h := h.1 q4
      refine mj_r_iconst (x := 0) d_CF_isSet_19 rfl ?_
      exact mj_r_zret d_CF_isSet_20 rfl (by decide) (mj_q_ret h)
    · have h := h.2 q4
      refine mj_r_iconst (x := 1) d_CF_isSet_15 rfl ?_
      refine mj_r_goto (tgt := 20) d_CF_isSet_16 (by decide) ?_
      exact mj_r_zret d_CF_isSet_20 rfl (by decide) (mj_q_ret h)
theorem v_Ch_writtenLeap_0 {g : mj_G} {nn d : Nat} {xs : mj_M} {Post : Option mj_V → mj_w → Prop} (hn : 21 ≤ nn) {w : mj_w} {l1 l2 : Int}
    (h : 0 ≤ l1 ∧ l1 < 13 ∧ 0 ≤ l2 ∧ l2 < 5 ∧ mj_i (w 9 l1 l2) ∧ ((w 9 l1 l2) = (-1) → (Post (some (.inl ((-1)))) w)) ∧ (¬ (w 9 l1 l2) = (-1) → (0 ≤ (w 9 l1 l2) ∧ mj_i ((w 9 l1 l2) / 13) ∧ 0 ≤ ((w 9 l1 l2) / 13) ∧ Post (some (.inl (((1000 * (((w 9 l1 l2) / 13) / 4)) + (100 * (((w 9 l1 l2) / 13) % 4))) + ((w 9 l1 l2) % 13)))) w))) :
    mj_J g y_Ch_writtenLeap d 0 0 (0, [some (mj_R 6), some (.inl l1), some (.inl l2), none, none], [], mj_mem nn xs w) (mj_P nn xs Post) := by
  refine mj_r_aload_n d_Ch_writtenLeap_0 rfl ?_
  refine mj_q_getr d_Ch_writtenLeap_1 f_6_4 (.inl mw_131) rfl hn ?_
  refine mj_r_iload_n d_Ch_writtenLeap_4 rfl ?_
  obtain ⟨q1, h⟩ := h
  obtain ⟨q2, h⟩ := h
  refine mj_q_aald d_Ch_writtenLeap_5 rfl rfl hn rfl q1 q2 ?_
  refine mj_r_iload_n d_Ch_writtenLeap_6 rfl ?_
  obtain ⟨q3, h⟩ := h
  obtain ⟨q4, h⟩ := h
  refine mj_q_gald d_Ch_writtenLeap_7 rfl rfl hn rfl q1 q2 q3 q4 ?_
  refine mj_e_istore_n (lv' := [some (mj_R 6), some (.inl l1), some (.inl l2), some (.inl (w 9 l1 l2)), none]) d_Ch_writtenLeap_8 rfl rfl ?_
  refine mj_r_iload_n d_Ch_writtenLeap_9 rfl ?_
  refine mj_r_iconst (x := (-1)) d_Ch_writtenLeap_10 rfl ?_
  obtain ⟨q5, h⟩ := h
  refine mj_s_icmp_ne (tgt := 16) d_Ch_writtenLeap_11 (by decide) q5 (mj_ik (by decide)) (fun q6 => ?_) (fun q6 => ?_)
  · have h := h.1 q6
    refine mj_r_iconst (x := (-1)) d_Ch_writtenLeap_14 rfl ?_
    exact mj_r_iret d_Ch_writtenLeap_15 rfl (mj_q_ret h)
  · have h := h.2 q6
    refine mj_r_iload_n d_Ch_writtenLeap_16 rfl ?_
    refine mj_r_bipush (x := 13) d_Ch_writtenLeap_17 (by decide) ?_
    obtain ⟨q7, h⟩ := h
    refine mj_r_idiv d_Ch_writtenLeap_19 q5 (mj_ik (by decide)) q7 (by decide) ?_
    refine mj_e_istore (lv' := [some (mj_R 6), some (.inl l1), some (.inl l2), some (.inl (w 9 l1 l2)), some (.inl ((w 9 l1 l2) / 13))]) d_Ch_writtenLeap_20 rfl rfl ?_
    refine mj_r_sipush (x := 1000) d_Ch_writtenLeap_22 (by decide) ?_
    refine mj_r_iload d_Ch_writtenLeap_25 rfl ?_
    refine mj_r_iconst (x := 4) d_Ch_writtenLeap_27 rfl ?_
    obtain ⟨q8, h⟩ := h
    obtain ⟨q9, h⟩ := h
    refine mj_r_idiv d_Ch_writtenLeap_28 q8 (mj_ik (by decide)) q9 (by decide) ?_
    refine mj_r_imul d_Ch_writtenLeap_29 ?_
    refine mj_r_bipush (x := 100) d_Ch_writtenLeap_30 (by decide) ?_
    refine mj_r_iload d_Ch_writtenLeap_32 rfl ?_
    refine mj_r_iconst (x := 4) d_Ch_writtenLeap_34 rfl ?_
    refine mj_r_irem d_Ch_writtenLeap_35 q8 (mj_ik (by decide)) q9 (by decide) ?_
    refine mj_r_imul d_Ch_writtenLeap_36 ?_
    refine mj_r_iadd d_Ch_writtenLeap_37 ?_
    refine mj_r_iload_n d_Ch_writtenLeap_38 rfl ?_
    refine mj_r_bipush (x := 13) d_Ch_writtenLeap_39 (by decide) ?_
    refine mj_r_irem d_Ch_writtenLeap_41 q5 (mj_ik (by decide)) q7 (by decide) ?_
    refine mj_r_iadd d_Ch_writtenLeap_42 ?_
    exact mj_r_iret d_Ch_writtenLeap_43 rfl (mj_q_ret h)
theorem v_CF_isStretch_0 {g : mj_G} {nn d : Nat} {xs : mj_M} {Post : Option mj_V → mj_w → Prop} (hn : 21 ≤ nn) {w : mj_w} {l1 l2 : Int}
    (h : mj_i l1 ∧ (l1 < 0 → (Post (some (.inl 0)) w)) ∧ (¬ l1 < 0 → (mj_i l2 ∧ (l2 < l1 → (Post (some (.inl 0)) w)) ∧ (¬ l2 < l1 → (mj_i (w 4 0 0) ∧ ((w 4 0 0) < l2 → (Post (some (.inl 0)) w)) ∧ (¬ (w 4 0 0) < l2 → (Post (some (.inl 1)) w))))))) :
    mj_J g y_CF_isStretch d 0 0 (0, [some (mj_R 0), some (.inl l1), some (.inl l2)], [], mj_mem nn xs w) (mj_P nn xs Post) := by
  refine mj_r_iload_n d_CF_isStretch_0 rfl ?_
  obtain ⟨q1, h⟩ := h
  refine mj_s_if_lt (tgt := 24) d_CF_isStretch_1 (by decide) q1 (fun q2 => ?_) (fun q2 => ?_)
  · have h := h.1 q2
    refine mj_r_iconst (x := 0) d_CF_isStretch_24 rfl ?_
    exact mj_r_zret d_CF_isStretch_25 rfl (by decide) (mj_q_ret h)
  · have h := h.2 q2
    refine mj_r_iload_n d_CF_isStretch_4 rfl ?_
    refine mj_r_iload_n d_CF_isStretch_5 rfl ?_
    obtain ⟨q3, h⟩ := h
    refine mj_s_icmp_gt (tgt := 24) d_CF_isStretch_6 (by decide) q1 q3 (fun q4 => ?_) (fun q4 => ?_)
    · have h := h.1 q4
      refine mj_r_iconst (x := 0) d_CF_isStretch_24 rfl ?_
      exact mj_r_zret d_CF_isStretch_25 rfl (by decide) (mj_q_ret h)
    · have h := h.2 q4
      refine mj_r_iload_n d_CF_isStretch_9 rfl ?_
      refine mj_r_aload_n d_CF_isStretch_10 rfl ?_
      refine mj_q_getr d_CF_isStretch_11 f_0_1 (.inl mw_278) rfl hn ?_
      refine mj_q_geti d_CF_isStretch_14 f_4_0 (.inr mw_110) rfl hn ?_
      obtain ⟨q5, h⟩ := h
      refine mj_s_icmp_gt (tgt := 24) d_CF_isStretch_17 (by decide) q3 q5 (fun q6 => ?_) (fun q6 => ?_)
      · have h := h.1 q6
        refine mj_r_iconst (x := 0) d_CF_isStretch_24 rfl ?_
        exact mj_r_zret d_CF_isStretch_25 rfl (by decide) (mj_q_ret h)
      · have h := h.2 q6
        refine mj_r_iconst (x := 1) d_CF_isStretch_20 rfl ?_
        refine mj_r_goto (tgt := 25) d_CF_isStretch_21 (by decide) ?_
        exact mj_r_zret d_CF_isStretch_25 rfl (by decide) (mj_q_ret h)
theorem v_Fo_waysOver_0 {g : mj_G} {nn d : Nat} {xs : mj_M} {Post : Option mj_V → mj_w → Prop} (hn : 21 ≤ nn) {w : mj_w} {l1 l2 l3 : Int}
    (h : mj_J g y_Wa_gather d 0 0 (0, [some (mj_R 17), some (.inl l1), some (.inl l2), some (.inl l3), none], [], mj_mem nn xs w) (mj_P nn xs (fun v w1 => v = none ∧ (Post (some (.inl (w1 17 4 0))) w1)))) :
    mj_J g y_Fo_waysOver (d + 1) 0 0 (0, [some (mj_R 11), some (.inl l1), some (.inl l2), some (.inl l3)], [], mj_mem nn xs w) (mj_P nn xs Post) := by
  refine mj_r_aload_n d_Fo_waysOver_0 rfl ?_
  refine mj_q_getr d_Fo_waysOver_1 f_11_2 (.inl mw_210) rfl hn ?_
  refine mj_r_iload_n d_Fo_waysOver_4 rfl ?_
  refine mj_r_iload_n d_Fo_waysOver_5 rfl ?_
  refine mj_r_iload_n d_Fo_waysOver_6 rfl ?_
  refine mj_q_V3v d_Fo_waysOver_7 h_Wa_gather (.inl mw_329) mw_330 mw_331 rfl rfl rfl hn rfl rfl (mj_wk h (fun v w1 h => ?_))
  obtain ⟨rfl, h⟩ := h
  refine ⟨rfl, ?_⟩
  refine mj_r_aload_n d_Fo_waysOver_10 rfl ?_
  refine mj_q_getr d_Fo_waysOver_11 f_11_2 (.inl mw_210) rfl hn ?_
  refine mj_q_geti d_Fo_waysOver_14 f_17_4 (.inr mw_185) rfl hn ?_
  exact mj_r_iret d_Fo_waysOver_17 rfl (mj_q_ret h)
theorem v_Fo_ruleAt_0 {g : mj_G} {nn d : Nat} {xs : mj_M} {Post : Option mj_V → mj_w → Prop} (hn : 21 ≤ nn) {w : mj_w} {l1 l3 : Int}
    (h : ∀ w1, w1 = mj_wu w 11 6 0 0 → mj_J g y_CF_cellOf d 0 0 (0, [some (.inl 0), some (.inl 0), some (.inl (w1 4 0 0))], [], mj_mem nn xs w1) (mj_P nn xs (fun v w3 => ∃ x4 : Int, v = some (.inl x4) ∧ (mj_J g y_Fo_push d 0 0 (0, [some (mj_R 11), some (.inl x4), some (.inr (.inl l1)), none], [], mj_mem nn xs w3) (mj_P nn xs (fun v w5 => v = none ∧ (mj_J g y_Fo_ruleAt (d + 1) 0 0 (25, [some (mj_R 11), some (.inr (.inl l1)), none, some (.inl l3), some (.inl 0), none, none, none], [], mj_mem nn xs w5) (mj_P nn xs Post)))))))) :
    mj_J g y_Fo_ruleAt (d + 1) 0 0 (0, [some (mj_R 11), some (.inr (.inl l1)), none, some (.inl l3), none, none, none, none], [], mj_mem nn xs w) (mj_P nn xs Post) := by
  refine mj_r_aload_n d_Fo_ruleAt_0 rfl ?_
  refine mj_r_iconst (x := 0) d_Fo_ruleAt_1 rfl ?_
  refine mj_q_put d_Fo_ruleAt_2 f_11_6 (mj_fit_I _) (.inl mw_214) rfl hn (fun w1 e2 => ?_)
  have h := h w1 e2
  refine mj_r_aload_n d_Fo_ruleAt_5 rfl ?_
  refine mj_r_iconst (x := 0) d_Fo_ruleAt_6 rfl ?_
  refine mj_r_iconst (x := 0) d_Fo_ruleAt_7 rfl ?_
  refine mj_r_aload_n d_Fo_ruleAt_8 rfl ?_
  refine mj_q_getr d_Fo_ruleAt_9 f_11_0 (.inl mw_208) rfl hn ?_
  refine mj_q_geti d_Fo_ruleAt_12 f_4_0 (.inr mw_111) rfl hn ?_
  refine mj_q_S3i d_Fo_ruleAt_15 h_CF_cellOf (.inr mw_326) mw_327 rfl rfl (mj_wk h (fun v w3 h => ?_))
  obtain ⟨x4, rfl, h⟩ := h
  refine ⟨x4, rfl, ?_⟩
  refine mj_r_lload_n d_Fo_ruleAt_18 rfl ?_
  refine mj_q_V2v d_Fo_ruleAt_19 h_Fo_push (.inl mw_653) mw_655 mw_21 rfl rfl rfl hn rfl rfl (mj_wk h (fun v w5 h => ?_))
  obtain ⟨rfl, h⟩ := h
  refine ⟨rfl, ?_⟩
  refine mj_r_iconst (x := 0) d_Fo_ruleAt_22 rfl ?_
  refine mj_e_istore (lv' := [some (mj_R 11), some (.inr (.inl l1)), none, some (.inl l3), some (.inl 0), none, none, none]) d_Fo_ruleAt_23 rfl rfl ?_
  exact h
theorem v_Fo_ruleAt_25 {g : mj_G} {nn d : Nat} {xs : mj_M} {Post : Option mj_V → mj_w → Prop} (hn : 21 ≤ nn) {w : mj_w} {l1 l3 l4 : Int}
    (h : mj_i l4 ∧ (l4 < 1000000 → (mj_i (w 11 6 0) ∧ (0 < (w 11 6 0) → (∀ w5, w5 = mj_wu w 11 6 0 ((w 11 6 0) - 1) → 0 ≤ (w5 11 6 0) ∧ (w5 11 6 0) < 845 ∧ mj_J g y_Fo_gatherCell d 0 0 (0, [some (mj_R 11), some (.inl (w5 12 (w5 11 6 0) 0))], [], mj_mem nn xs w5) (mj_P nn xs (fun v w9 => v = none ∧ (mj_J g y_Fo_ruleAt (d + 1) 0 0 (76, [some (mj_R 11), some (.inr (.inl l1)), none, some (.inl l3), some (.inl l4), some (.inr (.inl (w5 14 (w5 11 6 0) 0))), none, some (.inl 0)], [], mj_mem nn xs w9) (mj_P nn xs Post)))))) ∧ (¬ 0 < (w 11 6 0) → (Post (some (.inl ((-1)))) w)))) ∧ (¬ l4 < 1000000 → (Post (some (.inl ((-1)))) w))) :
    mj_J g y_Fo_ruleAt (d + 1) 0 0 (25, [some (mj_R 11), some (.inr (.inl l1)), none, some (.inl l3), some (.inl l4), none, none, none], [], mj_mem nn xs w) (mj_P nn xs Post) := by
  refine mj_r_iload d_Fo_ruleAt_25 rfl ?_
  refine mj_r_ldc (x := 1000000) d_Fo_ruleAt_27 mw_657 ?_
  obtain ⟨q1, h⟩ := h
  refine mj_s_icmp_ge (tgt := 158) d_Fo_ruleAt_29 (by decide) q1 (mj_ik (by decide)) (fun q2 => ?_) (fun q2 => ?_)
  · have h := h.1 q2
    refine mj_r_aload_n d_Fo_ruleAt_32 rfl ?_
    refine mj_q_geti d_Fo_ruleAt_33 f_11_6 (.inl mw_214) rfl hn ?_
    obtain ⟨q3, h⟩ := h
    refine mj_s_if_le (tgt := 158) d_Fo_ruleAt_36 (by decide) q3 (fun q4 => ?_) (fun q4 => ?_)
    · have h := h.1 q4
      refine mj_r_aload_n d_Fo_ruleAt_39 rfl ?_
      refine mj_r_dup d_Fo_ruleAt_40 rfl ?_
      refine mj_q_geti d_Fo_ruleAt_41 f_11_6 (.inl mw_214) rfl hn ?_
      refine mj_r_iconst (x := 1) d_Fo_ruleAt_44 rfl ?_
      refine mj_r_isub d_Fo_ruleAt_45 ?_
      refine mj_q_put d_Fo_ruleAt_46 f_11_6 (mj_fit_I _) (.inl mw_214) rfl hn (fun w5 e6 => ?_)
      have h := h w5 e6
      refine mj_r_aload_n d_Fo_ruleAt_49 rfl ?_
      refine mj_q_getr d_Fo_ruleAt_50 f_11_7 (.inl mw_215) rfl hn ?_
      refine mj_r_aload_n d_Fo_ruleAt_53 rfl ?_
      refine mj_q_geti d_Fo_ruleAt_54 f_11_6 (.inl mw_214) rfl hn ?_
      obtain ⟨q7, h⟩ := h
      obtain ⟨q8, h⟩ := h
      refine mj_q_lald d_Fo_ruleAt_57 rfl rfl hn rfl q7 q8 ?_
      refine mj_e_lstore (lv' := [some (mj_R 11), some (.inr (.inl l1)), none, some (.inl l3), some (.inl l4), some (.inr (.inl (w5 14 (w5 11 6 0) 0))), none, none]) d_Fo_ruleAt_58 rfl rfl ?_
      refine mj_r_aload_n d_Fo_ruleAt_60 rfl ?_
      refine mj_r_aload_n d_Fo_ruleAt_61 rfl ?_
      refine mj_q_getr d_Fo_ruleAt_62 f_11_4 (.inl mw_212) rfl hn ?_
      refine mj_r_aload_n d_Fo_ruleAt_65 rfl ?_
      refine mj_q_geti d_Fo_ruleAt_66 f_11_6 (.inl mw_214) rfl hn ?_
      refine mj_q_iald d_Fo_ruleAt_69 rfl rfl hn rfl q7 q8 ?_
      refine mj_q_V1v d_Fo_ruleAt_70 h_Fo_gatherCell (.inl mw_385) mw_387 mw_12 rfl rfl rfl hn rfl rfl (mj_wk h (fun v w9 h => ?_))
      obtain ⟨rfl, h⟩ := h
      refine ⟨rfl, ?_⟩
      refine mj_r_iconst (x := 0) d_Fo_ruleAt_73 rfl ?_
      refine mj_e_istore (lv' := [some (mj_R 11), some (.inr (.inl l1)), none, some (.inl l3), some (.inl l4), some (.inr (.inl (w5 14 (w5 11 6 0) 0))), none, some (.inl 0)]) d_Fo_ruleAt_74 rfl rfl ?_
      exact h
    · have h := h.2 q4
      refine mj_r_iconst (x := (-1)) d_Fo_ruleAt_158 rfl ?_
      exact mj_r_iret d_Fo_ruleAt_159 rfl (mj_q_ret h)
  · have h := h.2 q2
    refine mj_r_iconst (x := (-1)) d_Fo_ruleAt_158 rfl ?_
    exact mj_r_iret d_Fo_ruleAt_159 rfl (mj_q_ret h)
theorem v_Fo_ruleAt_76 {g : mj_G} {nn d : Nat} {xs : mj_M} {Post : Option mj_V → mj_w → Prop} (hn : 21 ≤ nn) {w : mj_w} {l1 l3 l4 l5 l7 : Int}
    (h : mj_i l7 ∧ mj_i ((w 17 4 0) - 1) ∧ (l7 < ((w 17 4 0) - 1) → (0 ≤ l7 ∧ l7 < 910 ∧ mj_l l5 ∧ mj_l (w 20 l7 0) ∧ (l5 < (w 20 l7 0) → (mj_i l4 ∧ mj_i l3 ∧ (l4 = l3 → (Post (some (.inl (w 18 l7 0))) w)) ∧ (¬ l4 = l3 → (mj_J g y_Fo_pushParts d 0 0 (0, [some (mj_R 11), some (.inl l7), some (.inr (.inl l5)), none, none, none, none, none, none], [], mj_mem nn xs w) (mj_P nn xs (fun v w12 => v = none ∧ (mj_J g y_Fo_ruleAt (d + 1) 0 0 (25, [some (mj_R 11), some (.inr (.inl l1)), none, some (.inl l3), some (.inl (l4 + 1)), none, none, none], [], mj_mem nn xs w12) (mj_P nn xs Post)))))))) ∧ (¬ l5 < (w 20 l7 0) → (mj_J g y_Fo_ruleAt (d + 1) 0 0 (76, [some (mj_R 11), some (.inr (.inl l1)), none, some (.inl l3), some (.inl l4), some (.inr (.inl (l5 - (w 20 l7 0)))), none, some (.inl (l7 + 1))], [], mj_mem nn xs w) (mj_P nn xs Post))))) ∧ (¬ l7 < ((w 17 4 0) - 1) → (mj_i l4 ∧ mj_i l3 ∧ (l4 = l3 → (0 ≤ l7 ∧ l7 < 910 ∧ Post (some (.inl (w 18 l7 0))) w)) ∧ (¬ l4 = l3 → (mj_J g y_Fo_pushParts d 0 0 (0, [some (mj_R 11), some (.inl l7), some (.inr (.inl l5)), none, none, none, none, none, none], [], mj_mem nn xs w) (mj_P nn xs (fun v w19 => v = none ∧ (mj_J g y_Fo_ruleAt (d + 1) 0 0 (25, [some (mj_R 11), some (.inr (.inl l1)), none, some (.inl l3), some (.inl (l4 + 1)), none, none, none], [], mj_mem nn xs w19) (mj_P nn xs Post))))))))) :
    mj_J g y_Fo_ruleAt (d + 1) 0 0 (76, [some (mj_R 11), some (.inr (.inl l1)), none, some (.inl l3), some (.inl l4), some (.inr (.inl l5)), none, some (.inl l7)], [], mj_mem nn xs w) (mj_P nn xs Post) := by
  refine mj_r_iload d_Fo_ruleAt_76 rfl ?_
  refine mj_r_aload_n d_Fo_ruleAt_78 rfl ?_
  refine mj_q_getr d_Fo_ruleAt_79 f_11_2 (.inl mw_210) rfl hn ?_
  refine mj_q_geti d_Fo_ruleAt_82 f_17_4 (.inr mw_185) rfl hn ?_
  refine mj_r_iconst (x := 1) d_Fo_ruleAt_85 rfl ?_
  refine mj_r_isub d_Fo_ruleAt_86 ?_
  obtain ⟨q1, h⟩ := h
  obtain ⟨q2, h⟩ := h
  refine mj_s_icmp_ge (tgt := 127) d_Fo_ruleAt_87 (by decide) q1 q2 (fun q3 => ?_) (fun q3 => ?_)
  · have h := h.1 q3
    refine mj_r_lload d_Fo_ruleAt_90 rfl ?_
    refine mj_r_aload_n d_Fo_ruleAt_92 rfl ?_
    refine mj_q_getr d_Fo_ruleAt_93 f_11_2 (.inl mw_210) rfl hn ?_
    refine mj_q_getr d_Fo_ruleAt_96 f_17_7 (.inr mw_190) rfl hn ?_
    refine mj_r_iload d_Fo_ruleAt_99 rfl ?_
    obtain ⟨q4, h⟩ := h
    obtain ⟨q5, h⟩ := h
    refine mj_q_lald d_Fo_ruleAt_101 rfl rfl hn rfl q4 q5 ?_
    obtain ⟨q6, h⟩ := h
    obtain ⟨q7, h⟩ := h
    refine mj_s_l_lt (tgt := 127) d_Fo_ruleAt_102 d_Fo_ruleAt_103 (by decide) q6 q7 (fun q8 => ?_) (fun q8 => ?_)
    · have h := h.1 q8
      refine mj_r_iload d_Fo_ruleAt_127 rfl ?_
      refine mj_r_iload_n d_Fo_ruleAt_129 rfl ?_
      obtain ⟨q9, h⟩ := h
      obtain ⟨q10, h⟩ := h
      refine mj_s_icmp_ne (tgt := 144) d_Fo_ruleAt_130 (by decide) q9 q10 (fun q11 => ?_) (fun q11 => ?_)
      · have h := h.1 q11
        refine mj_r_aload_n d_Fo_ruleAt_133 rfl ?_
        refine mj_q_getr d_Fo_ruleAt_134 f_11_2 (.inl mw_210) rfl hn ?_
        refine mj_q_getr d_Fo_ruleAt_137 f_17_5 (.inr mw_187) rfl hn ?_
        refine mj_r_iload d_Fo_ruleAt_140 rfl ?_
        refine mj_q_iald d_Fo_ruleAt_142 rfl rfl hn rfl q4 q5 ?_
        exact mj_r_iret d_Fo_ruleAt_143 rfl (mj_q_ret h)
      · have h := h.2 q11
        refine mj_r_aload_n d_Fo_ruleAt_144 rfl ?_
        refine mj_r_iload d_Fo_ruleAt_145 rfl ?_
        refine mj_r_lload d_Fo_ruleAt_147 rfl ?_
        refine mj_q_V2v d_Fo_ruleAt_149 h_Fo_pushParts (.inl mw_658) mw_660 mw_22 rfl rfl rfl hn rfl rfl (mj_wk h (fun v w12 h => ?_))
        obtain ⟨rfl, h⟩ := h
        refine ⟨rfl, ?_⟩
        refine mj_e_iinc (lv' := [some (mj_R 11), some (.inr (.inl l1)), none, some (.inl l3), some (.inl (l4 + 1)), some (.inr (.inl l5)), none, some (.inl l7)]) d_Fo_ruleAt_152 rfl rfl ?_
        refine mj_r_goto (tgt := 25) d_Fo_ruleAt_155 (by decide) ?_
        refine mj_r_sub (lv' := [some (mj_R 11), some (.inr (.inl l1)), none, some (.inl l3), some (.inl (l4 + 1)), none, none, none]) ⟨.inr rfl, .inr rfl, .inl rfl, .inr rfl, .inr rfl, .inl rfl, .inl rfl, .inl rfl, trivial⟩ ?_
        exact h
    · have h := h.2 q8
      refine mj_r_lload d_Fo_ruleAt_106 rfl ?_
      refine mj_r_aload_n d_Fo_ruleAt_108 rfl ?_
      refine mj_q_getr d_Fo_ruleAt_109 f_11_2 (.inl mw_210) rfl hn ?_
      refine mj_q_getr d_Fo_ruleAt_112 f_17_7 (.inr mw_190) rfl hn ?_
      refine mj_r_iload d_Fo_ruleAt_115 rfl ?_
      refine mj_q_lald d_Fo_ruleAt_117 rfl rfl hn rfl q4 q5 ?_
      refine mj_r_lsub d_Fo_ruleAt_118 ?_
      refine mj_e_lstore (lv' := [some (mj_R 11), some (.inr (.inl l1)), none, some (.inl l3), some (.inl l4), some (.inr (.inl (l5 - (w 20 l7 0)))), none, some (.inl l7)]) d_Fo_ruleAt_119 rfl rfl ?_
      refine mj_e_iinc (lv' := [some (mj_R 11), some (.inr (.inl l1)), none, some (.inl l3), some (.inl l4), some (.inr (.inl (l5 - (w 20 l7 0)))), none, some (.inl (l7 + 1))]) d_Fo_ruleAt_121 rfl rfl ?_
      refine mj_r_goto (tgt := 76) d_Fo_ruleAt_124 (by decide) ?_
      exact h
  · have h := h.2 q3
    refine mj_r_iload d_Fo_ruleAt_127 rfl ?_
    refine mj_r_iload_n d_Fo_ruleAt_129 rfl ?_
    obtain ⟨q14, h⟩ := h
    obtain ⟨q15, h⟩ := h
    refine mj_s_icmp_ne (tgt := 144) d_Fo_ruleAt_130 (by decide) q14 q15 (fun q16 => ?_) (fun q16 => ?_)
    · have h := h.1 q16
      refine mj_r_aload_n d_Fo_ruleAt_133 rfl ?_
      refine mj_q_getr d_Fo_ruleAt_134 f_11_2 (.inl mw_210) rfl hn ?_
      refine mj_q_getr d_Fo_ruleAt_137 f_17_5 (.inr mw_187) rfl hn ?_
      refine mj_r_iload d_Fo_ruleAt_140 rfl ?_
      obtain ⟨q17, h⟩ := h
      obtain ⟨q18, h⟩ := h
      refine mj_q_iald d_Fo_ruleAt_142 rfl rfl hn rfl q17 q18 ?_
      exact mj_r_iret d_Fo_ruleAt_143 rfl (mj_q_ret h)
    · have h := h.2 q16
      refine mj_r_aload_n d_Fo_ruleAt_144 rfl ?_
      refine mj_r_iload d_Fo_ruleAt_145 rfl ?_
      refine mj_r_lload d_Fo_ruleAt_147 rfl ?_
      refine mj_q_V2v d_Fo_ruleAt_149 h_Fo_pushParts (.inl mw_658) mw_660 mw_22 rfl rfl rfl hn rfl rfl (mj_wk h (fun v w19 h => ?_))
      obtain ⟨rfl, h⟩ := h
      refine ⟨rfl, ?_⟩
      refine mj_e_iinc (lv' := [some (mj_R 11), some (.inr (.inl l1)), none, some (.inl l3), some (.inl (l4 + 1)), some (.inr (.inl l5)), none, some (.inl l7)]) d_Fo_ruleAt_152 rfl rfl ?_
      refine mj_r_goto (tgt := 25) d_Fo_ruleAt_155 (by decide) ?_
      refine mj_r_sub (lv' := [some (mj_R 11), some (.inr (.inl l1)), none, some (.inl l3), some (.inl (l4 + 1)), none, none, none]) ⟨.inr rfl, .inr rfl, .inl rfl, .inr rfl, .inr rfl, .inl rfl, .inl rfl, .inl rfl, trivial⟩ ?_
      exact h
theorem v_Fo_push_0 {g : mj_G} {nn d : Nat} {xs : mj_M} {Post : Option mj_V → mj_w → Prop} (hn : 21 ≤ nn) {w : mj_w} {l1 l2 : Int}
    (h : mj_i (w 11 6 0) ∧ ((w 11 6 0) < 845 → (0 ≤ (w 11 6 0) ∧ (w 11 6 0) < 845 ∧ (∀ w5, w5 = mj_wu w 12 (w 11 6 0) 0 l1 → 0 ≤ (w5 11 6 0) ∧ (w5 11 6 0) < 845 ∧ (∀ w9, w9 = mj_wu w5 14 (w5 11 6 0) 0 l2 → ∀ w11, w11 = mj_wu w9 11 6 0 ((w9 11 6 0) + 1) → Post none w11)))) ∧ (¬ (w 11 6 0) < 845 → (Post none w))) :
    mj_J g y_Fo_push d 0 0 (0, [some (mj_R 11), some (.inl l1), some (.inr (.inl l2)), none], [], mj_mem nn xs w) (mj_P nn xs Post) := by
  refine mj_r_aload_n d_Fo_push_0 rfl ?_
  refine mj_q_geti d_Fo_push_1 f_11_6 (.inl mw_214) rfl hn ?_
  refine mj_r_sipush (x := 845) d_Fo_push_4 (by decide) ?_
  obtain ⟨q1, h⟩ := h
  refine mj_s_icmp_ge (tgt := 40) d_Fo_push_7 (by decide) q1 (mj_ik (by decide)) (fun q2 => ?_) (fun q2 => ?_)
  · have h := h.1 q2
    refine mj_r_aload_n d_Fo_push_10 rfl ?_
    refine mj_q_getr d_Fo_push_11 f_11_4 (.inl mw_212) rfl hn ?_
    refine mj_r_aload_n d_Fo_push_14 rfl ?_
    refine mj_q_geti d_Fo_push_15 f_11_6 (.inl mw_214) rfl hn ?_
    refine mj_r_iload_n d_Fo_push_18 rfl ?_
    obtain ⟨q3, h⟩ := h
    obtain ⟨q4, h⟩ := h
    refine mj_q_iast d_Fo_push_19 rfl rfl hn rfl q3 q4 (fun w5 e6 => ?_)
    have h := h w5 e6
    refine mj_r_aload_n d_Fo_push_20 rfl ?_
    refine mj_q_getr d_Fo_push_21 f_11_7 (.inl mw_215) rfl hn ?_
    refine mj_r_aload_n d_Fo_push_24 rfl ?_
    refine mj_q_geti d_Fo_push_25 f_11_6 (.inl mw_214) rfl hn ?_
    refine mj_r_lload_n d_Fo_push_28 rfl ?_
    obtain ⟨q7, h⟩ := h
    obtain ⟨q8, h⟩ := h
    refine mj_q_last d_Fo_push_29 rfl rfl hn rfl q7 q8 (fun w9 e10 => ?_)
    have h := h w9 e10
    refine mj_r_aload_n d_Fo_push_30 rfl ?_
    refine mj_r_dup d_Fo_push_31 rfl ?_
    refine mj_q_geti d_Fo_push_32 f_11_6 (.inl mw_214) rfl hn ?_
    refine mj_r_iconst (x := 1) d_Fo_push_35 rfl ?_
    refine mj_r_iadd d_Fo_push_36 ?_
    refine mj_q_put d_Fo_push_37 f_11_6 (mj_fit_I _) (.inl mw_214) rfl hn (fun w11 e12 => ?_)
    have h := h w11 e12
    exact mj_r_vret d_Fo_push_40 rfl (mj_q_ret h)
  · have h := h.2 q2
    exact mj_r_vret d_Fo_push_40 rfl (mj_q_ret h)
theorem v_Fo_pushParts_0 {g : mj_G} {nn d : Nat} {xs : mj_M} {Post : Option mj_V → mj_w → Prop} (hn : 21 ≤ nn) {w : mj_w} {l1 l2 : Int}
    (h : mj_J g y_Fo_pushParts (d + 1) 0 0 (6, [some (mj_R 11), some (.inl l1), some (.inr (.inl l2)), none, some (.inr (.inl l2)), none, some (.inl 2), none, none], [], mj_mem nn xs w) (mj_P nn xs Post)) :
    mj_J g y_Fo_pushParts (d + 1) 0 0 (0, [some (mj_R 11), some (.inl l1), some (.inr (.inl l2)), none, none, none, none, none, none], [], mj_mem nn xs w) (mj_P nn xs Post) := by
  refine mj_r_lload_n d_Fo_pushParts_0 rfl ?_
  refine mj_e_lstore (lv' := [some (mj_R 11), some (.inl l1), some (.inr (.inl l2)), none, some (.inr (.inl l2)), none, none, none, none]) d_Fo_pushParts_1 rfl rfl ?_
  refine mj_r_iconst (x := 2) d_Fo_pushParts_3 rfl ?_
  refine mj_e_istore (lv' := [some (mj_R 11), some (.inl l1), some (.inr (.inl l2)), none, some (.inr (.inl l2)), none, some (.inl 2), none, none]) d_Fo_pushParts_4 rfl rfl ?_
  exact h
theorem v_Fo_pushParts_6 {g : mj_G} {nn d : Nat} {xs : mj_M} {Post : Option mj_V → mj_w → Prop} (hn : 21 ≤ nn) {w : mj_w} {l1 l2 l4 l6 : Int}
    (h : mj_i l6 ∧ (l6 < 0 → (Post none w)) ∧ (¬ l6 < 0 → (mj_J g y_Wa_treesOfPart d 0 0 (0, [some (mj_R 17), some (.inl l1), some (.inl l6)], [], mj_mem nn xs w) (mj_P nn xs (fun v w3 => ∃ x4 : Int, v = some (.inr (.inl x4)) ∧ (mj_J g y_Wa_symbolOf d 0 0 (0, [some (mj_R 17), some (.inl l1), some (.inl l6)], [], mj_mem nn xs w3) (mj_P nn xs (fun v w5 => ∃ x6 : Int, v = some (.inl x6) ∧ (mj_J g y_CF_isNonterminal d 0 0 (0, [some (.inl x6)], [], mj_mem nn xs w5) (mj_P nn xs (fun v w7 => ∃ x8 : Int, v = some (.inl x8) ∧ (mj_i x8 ∧ (x8 = 0 → (mj_J g y_Fo_pushParts (d + 1) 0 0 (6, [some (mj_R 11), some (.inl l1), some (.inr (.inl l2)), none, some (.inr (.inl l4)), none, some (.inl (l6 + (-1))), none, none], [], mj_mem nn xs w7) (mj_P nn xs Post))) ∧ (¬ x8 = 0 → (mj_l x4 ∧ (0 < x4 → (mj_J g y_Fo_partCell d 0 0 (0, [some (mj_R 11), some (.inl l1), some (.inl l6)], [], mj_mem nn xs w7) (mj_P nn xs (fun v w13 => ∃ x14 : Int, v = some (.inl x14) ∧ (mj_l l4 ∧ 0 ≤ l4 ∧ 0 < x4 ∧ mj_J g y_Fo_push d 0 0 (0, [some (mj_R 11), some (.inl x14), some (.inr (.inl (l4 % x4))), none], [], mj_mem nn xs w13) (mj_P nn xs (fun v w18 => v = none ∧ (mj_J g y_Fo_pushParts (d + 1) 0 0 (6, [some (mj_R 11), some (.inl l1), some (.inr (.inl l2)), none, some (.inr (.inl (l4 / x4))), none, some (.inl (l6 + (-1))), none, none], [], mj_mem nn xs w18) (mj_P nn xs Post))))))))) ∧ (¬ 0 < x4 → (mj_J g y_Fo_pushParts (d + 1) 0 0 (6, [some (mj_R 11), some (.inl l1), some (.inr (.inl l2)), none, some (.inr (.inl l4)), none, some (.inl (l6 + (-1))), none, none], [], mj_mem nn xs w7) (mj_P nn xs Post))))))))))))))))) :
    mj_J g y_Fo_pushParts (d + 1) 0 0 (6, [some (mj_R 11), some (.inl l1), some (.inr (.inl l2)), none, some (.inr (.inl l4)), none, some (.inl l6), none, none], [], mj_mem nn xs w) (mj_P nn xs Post) := by
  refine mj_r_iload d_Fo_pushParts_6 rfl ?_
  obtain ⟨q1, h⟩ := h
  refine mj_s_if_lt (tgt := 75) d_Fo_pushParts_8 (by decide) q1 (fun q2 => ?_) (fun q2 => ?_)
  · have h := h.1 q2
    exact mj_r_vret d_Fo_pushParts_75 rfl (mj_q_ret h)
  · have h := h.2 q2
    refine mj_r_aload_n d_Fo_pushParts_11 rfl ?_
    refine mj_q_getr d_Fo_pushParts_12 f_11_2 (.inl mw_210) rfl hn ?_
    refine mj_r_iload_n d_Fo_pushParts_15 rfl ?_
    refine mj_r_iload d_Fo_pushParts_16 rfl ?_
    refine mj_q_V2l d_Fo_pushParts_18 h_Wa_treesOfPart (.inl mw_662) mw_663 mw_664 rfl rfl rfl hn rfl rfl (mj_wk h (fun v w3 h => ?_))
    obtain ⟨x4, rfl, h⟩ := h
    refine ⟨x4, rfl, ?_⟩
    refine mj_e_lstore (lv' := [some (mj_R 11), some (.inl l1), some (.inr (.inl l2)), none, some (.inr (.inl l4)), none, some (.inl l6), some (.inr (.inl x4)), none]) d_Fo_pushParts_21 rfl rfl ?_
    refine mj_r_aload_n d_Fo_pushParts_23 rfl ?_
    refine mj_q_getr d_Fo_pushParts_24 f_11_2 (.inl mw_210) rfl hn ?_
    refine mj_r_iload_n d_Fo_pushParts_27 rfl ?_
    refine mj_r_iload d_Fo_pushParts_28 rfl ?_
    refine mj_q_V2i d_Fo_pushParts_30 h_Wa_symbolOf (.inl mw_393) mw_394 mw_395 rfl rfl rfl hn rfl rfl (mj_wk h (fun v w5 h => ?_))
    obtain ⟨x6, rfl, h⟩ := h
    refine ⟨x6, rfl, ?_⟩
    refine mj_q_S1i d_Fo_pushParts_33 h_CF_isNonterminal (.inr mw_397) mw_271 rfl rfl (mj_wk h (fun v w7 h => ?_))
    obtain ⟨x8, rfl, h⟩ := h
    refine ⟨x8, rfl, ?_⟩
    obtain ⟨q9, h⟩ := h
    refine mj_s_if_eq (tgt := 69) d_Fo_pushParts_36 (by decide) q9 (fun q10 => ?_) (fun q10 => ?_)
    · have h := h.1 q10
      refine mj_e_iinc (lv' := [some (mj_R 11), some (.inl l1), some (.inr (.inl l2)), none, some (.inr (.inl l4)), none, some (.inl (l6 + (-1))), some (.inr (.inl x4)), none]) d_Fo_pushParts_69 rfl rfl ?_
      refine mj_r_goto (tgt := 6) d_Fo_pushParts_72 (by decide) ?_
      refine mj_r_sub (lv' := [some (mj_R 11), some (.inl l1), some (.inr (.inl l2)), none, some (.inr (.inl l4)), none, some (.inl (l6 + (-1))), none, none]) ⟨.inr rfl, .inr rfl, .inr rfl, .inl rfl, .inr rfl, .inl rfl, .inr rfl, .inl rfl, .inl rfl, trivial⟩ ?_
      exact h
    · have h := h.2 q10
      refine mj_r_lload d_Fo_pushParts_39 rfl ?_
      refine mj_r_lconst (x := 0) d_Fo_pushParts_41 rfl ?_
      obtain ⟨q11, h⟩ := h
      refine mj_s_l_le (tgt := 69) d_Fo_pushParts_42 d_Fo_pushParts_43 (by decide) q11 (mj_lk (by decide)) (fun q12 => ?_) (fun q12 => ?_)
      · have h := h.1 q12
        refine mj_r_aload_n d_Fo_pushParts_46 rfl ?_
        refine mj_r_aload_n d_Fo_pushParts_47 rfl ?_
        refine mj_r_iload_n d_Fo_pushParts_48 rfl ?_
        refine mj_r_iload d_Fo_pushParts_49 rfl ?_
        refine mj_q_V2i d_Fo_pushParts_51 h_Fo_partCell (.inl mw_398) mw_400 mw_14 rfl rfl rfl hn rfl rfl (mj_wk h (fun v w13 h => ?_))
        obtain ⟨x14, rfl, h⟩ := h
        refine ⟨x14, rfl, ?_⟩
        refine mj_r_lload d_Fo_pushParts_54 rfl ?_
        refine mj_r_lload d_Fo_pushParts_56 rfl ?_
        obtain ⟨q15, h⟩ := h
        obtain ⟨q16, h⟩ := h
        obtain ⟨q17, h⟩ := h
        refine mj_r_lrem d_Fo_pushParts_58 q15 q11 q16 q17 ?_
        refine mj_q_V2v d_Fo_pushParts_59 h_Fo_push (.inl mw_653) mw_655 mw_21 rfl rfl rfl hn rfl rfl (mj_wk h (fun v w18 h => ?_))
        obtain ⟨rfl, h⟩ := h
        refine ⟨rfl, ?_⟩
        refine mj_r_lload d_Fo_pushParts_62 rfl ?_
        refine mj_r_lload d_Fo_pushParts_64 rfl ?_
        refine mj_r_ldiv d_Fo_pushParts_66 q15 q11 q16 q17 ?_
        refine mj_e_lstore (lv' := [some (mj_R 11), some (.inl l1), some (.inr (.inl l2)), none, some (.inr (.inl (l4 / x4))), none, some (.inl l6), some (.inr (.inl x4)), none]) d_Fo_pushParts_67 rfl rfl ?_
        refine mj_e_iinc (lv' := [some (mj_R 11), some (.inl l1), some (.inr (.inl l2)), none, some (.inr (.inl (l4 / x4))), none, some (.inl (l6 + (-1))), some (.inr (.inl x4)), none]) d_Fo_pushParts_69 rfl rfl ?_
        refine mj_r_goto (tgt := 6) d_Fo_pushParts_72 (by decide) ?_
        refine mj_r_sub (lv' := [some (mj_R 11), some (.inl l1), some (.inr (.inl l2)), none, some (.inr (.inl (l4 / x4))), none, some (.inl (l6 + (-1))), none, none]) ⟨.inr rfl, .inr rfl, .inr rfl, .inl rfl, .inr rfl, .inl rfl, .inr rfl, .inl rfl, .inl rfl, trivial⟩ ?_
        exact h
      · have h := h.2 q12
        refine mj_e_iinc (lv' := [some (mj_R 11), some (.inl l1), some (.inr (.inl l2)), none, some (.inr (.inl l4)), none, some (.inl (l6 + (-1))), some (.inr (.inl x4)), none]) d_Fo_pushParts_69 rfl rfl ?_
        refine mj_r_goto (tgt := 6) d_Fo_pushParts_72 (by decide) ?_
        refine mj_r_sub (lv' := [some (mj_R 11), some (.inl l1), some (.inr (.inl l2)), none, some (.inr (.inl l4)), none, some (.inl (l6 + (-1))), none, none]) ⟨.inr rfl, .inr rfl, .inr rfl, .inl rfl, .inr rfl, .inl rfl, .inr rfl, .inl rfl, .inl rfl, trivial⟩ ?_
        exact h
theorem v_Wa_treesOfPart_0 {g : mj_G} {nn d : Nat} {xs : mj_M} {Post : Option mj_V → mj_w → Prop} (hn : 21 ≤ nn) {w : mj_w} {l1 l2 : Int}
    (h : mj_J g y_Wa_symbolOf d 0 0 (0, [some (mj_R 17), some (.inl l1), some (.inl l2)], [], mj_mem nn xs w) (mj_P nn xs (fun v w1 => ∃ x2 : Int, v = some (.inl x2) ∧ (mj_J g y_Wa_cutOf d 0 0 (0, [some (mj_R 17), some (.inl l1), some (.inl l2)], [], mj_mem nn xs w1) (mj_P nn xs (fun v w3 => ∃ x4 : Int, v = some (.inl x4) ∧ (mj_J g y_Wa_cutOf d 0 0 (0, [some (mj_R 17), some (.inl l1), some (.inl (l2 + 1))], [], mj_mem nn xs w3) (mj_P nn xs (fun v w5 => ∃ x6 : Int, v = some (.inl x6) ∧ (mj_J g y_Co_over d 0 0 (0, [some (mj_R 15), some (.inl x2), some (.inl x4), some (.inl x6)], [], mj_mem nn xs w5) (mj_P nn xs (fun v w7 => ∃ x8 : Int, v = some (.inr (.inl x8)) ∧ (Post (some (.inr (.inl x8))) w7))))))))))))) :
    mj_J g y_Wa_treesOfPart (d + 1) 0 0 (0, [some (mj_R 17), some (.inl l1), some (.inl l2)], [], mj_mem nn xs w) (mj_P nn xs Post) := by
  refine mj_r_aload_n d_Wa_treesOfPart_0 rfl ?_
  refine mj_q_getr d_Wa_treesOfPart_1 f_17_1 (.inl mw_181) rfl hn ?_
  refine mj_r_aload_n d_Wa_treesOfPart_4 rfl ?_
  refine mj_r_iload_n d_Wa_treesOfPart_5 rfl ?_
  refine mj_r_iload_n d_Wa_treesOfPart_6 rfl ?_
  refine mj_q_V2i d_Wa_treesOfPart_7 h_Wa_symbolOf (.inl mw_666) mw_394 mw_395 rfl rfl rfl hn rfl rfl (mj_wk h (fun v w1 h => ?_))
  obtain ⟨x2, rfl, h⟩ := h
  refine ⟨x2, rfl, ?_⟩
  refine mj_r_aload_n d_Wa_treesOfPart_10 rfl ?_
  refine mj_r_iload_n d_Wa_treesOfPart_11 rfl ?_
  refine mj_r_iload_n d_Wa_treesOfPart_12 rfl ?_
  refine mj_q_V2i d_Wa_treesOfPart_13 h_Wa_cutOf (.inl mw_667) mw_403 mw_404 rfl rfl rfl hn rfl rfl (mj_wk h (fun v w3 h => ?_))
  obtain ⟨x4, rfl, h⟩ := h
  refine ⟨x4, rfl, ?_⟩
  refine mj_r_aload_n d_Wa_treesOfPart_16 rfl ?_
  refine mj_r_iload_n d_Wa_treesOfPart_17 rfl ?_
  refine mj_r_iload_n d_Wa_treesOfPart_18 rfl ?_
  refine mj_r_iconst (x := 1) d_Wa_treesOfPart_19 rfl ?_
  refine mj_r_iadd d_Wa_treesOfPart_20 ?_
  refine mj_q_V2i d_Wa_treesOfPart_21 h_Wa_cutOf (.inl mw_667) mw_403 mw_404 rfl rfl rfl hn rfl rfl (mj_wk h (fun v w5 h => ?_))
  obtain ⟨x6, rfl, h⟩ := h
  refine ⟨x6, rfl, ?_⟩
  refine mj_q_V3l d_Wa_treesOfPart_24 h_Co_over (.inl mw_339) mw_340 mw_341 rfl rfl rfl hn rfl rfl (mj_wk h (fun v w7 h => ?_))
  obtain ⟨x8, rfl, h⟩ := h
  refine ⟨x8, rfl, ?_⟩
  exact mj_r_lret d_Wa_treesOfPart_27 rfl (mj_q_ret h)
