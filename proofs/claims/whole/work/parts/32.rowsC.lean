/-! ===== verification rows (by program) ===== -/
theorem v_Mo_makeSet_0 {g : mj_G} {nn d : Nat} {xs : mj_M} {Post : Option mj_V → mj_w → Prop} (hn : 33 ≤ nn) {w : mj_w} {l1 : Int}
    (h : ∀ w1, w1 = mj_wu w 21 9 0 0 → mj_J g y_Mo_makeSet (d + 1) 0 0 (7, [some (mj_R 21), some (.inl l1), some (.inl 0), none], [], mj_mem nn xs w1) (mj_P nn xs Post)) :
    mj_J g y_Mo_makeSet (d + 1) 0 0 (0, [some (mj_R 21), some (.inl l1), none, none], [], mj_mem nn xs w) (mj_P nn xs Post) := by
  refine mj_r_aload_n d_Mo_makeSet_0 rfl ?_
  refine mj_r_iconst (x := 0) d_Mo_makeSet_1 rfl ?_
  refine mj_q_put d_Mo_makeSet_2 f_21_9 (mj_fit_Z (by decide)) (.inl mw_717) rfl hn (fun w1 e2 => ?_)
  have h := h w1 e2
  refine mj_r_iconst (x := 0) d_Mo_makeSet_5 rfl ?_
  refine mj_e_istore_n (lv' := [some (mj_R 21), some (.inl l1), some (.inl 0), none]) d_Mo_makeSet_6 rfl rfl ?_
  exact h
theorem v_Mo_makeSet_7 {g : mj_G} {nn d : Nat} {xs : mj_M} {Post : Option mj_V → mj_w → Prop} (hn : 33 ≤ nn) {w : mj_w} {l1 l2 : Int}
    (h : mj_i l2 ∧ (l2 < 572 → (0 ≤ ((572 * l1) + l2) ∧ ((572 * l1) + l2) < 7436 ∧ (∀ w5, w5 = mj_wu w 26 ((572 * l1) + l2) 0 0 → mj_J g y_Mo_makeSet (d + 1) 0 0 (7, [some (mj_R 21), some (.inl l1), some (.inl (l2 + 1)), none], [], mj_mem nn xs w5) (mj_P nn xs Post)))) ∧ (¬ l2 < 572 → (mj_i l1 ∧ (l1 = 0 → (∀ w9, w9 = mj_wu w 26 0 0 1 → mj_J g y_Mo_makeSet (d + 1) 0 0 (46, [some (mj_R 21), some (.inl l1), some (.inl 0), none], [], mj_mem nn xs w9) (mj_P nn xs Post))) ∧ (¬ l1 = 0 → (mj_J g y_Mo_makeSet (d + 1) 0 0 (46, [some (mj_R 21), some (.inl l1), some (.inl 0), none], [], mj_mem nn xs w) (mj_P nn xs Post)))))) :
    mj_J g y_Mo_makeSet (d + 1) 0 0 (7, [some (mj_R 21), some (.inl l1), some (.inl l2), none], [], mj_mem nn xs w) (mj_P nn xs Post) := by
  refine mj_r_iload_n d_Mo_makeSet_7 rfl ?_
  refine mj_r_sipush (x := 572) d_Mo_makeSet_8 (by decide) ?_
  obtain ⟨q1, h⟩ := h
  refine mj_s_icmp_ge (tgt := 33) d_Mo_makeSet_11 (by decide) q1 (mj_ik (by decide)) (fun q2 => ?_) (fun q2 => ?_)
  · have h := h.1 q2
    refine mj_r_aload_n d_Mo_makeSet_14 rfl ?_
    refine mj_q_getr d_Mo_makeSet_15 f_21_8 (.inl mw_716) rfl hn ?_
    refine mj_r_sipush (x := 572) d_Mo_makeSet_18 (by decide) ?_
    refine mj_r_iload_n d_Mo_makeSet_21 rfl ?_
    refine mj_r_imul d_Mo_makeSet_22 ?_
    refine mj_r_iload_n d_Mo_makeSet_23 rfl ?_
    refine mj_r_iadd d_Mo_makeSet_24 ?_
    refine mj_r_iconst (x := 0) d_Mo_makeSet_25 rfl ?_
    obtain ⟨q3, h⟩ := h
    obtain ⟨q4, h⟩ := h
    refine mj_q_zast d_Mo_makeSet_26 rfl rfl hn rfl q3 q4 (by decide) (fun w5 e6 => ?_)
    have h := h w5 e6
    refine mj_e_iinc (lv' := [some (mj_R 21), some (.inl l1), some (.inl (l2 + 1)), none]) d_Mo_makeSet_27 rfl rfl ?_
    refine mj_r_goto (tgt := 7) d_Mo_makeSet_30 (by decide) ?_
    exact h
  · have h := h.2 q2
    refine mj_r_iload_n d_Mo_makeSet_33 rfl ?_
    obtain ⟨q7, h⟩ := h
    refine mj_s_if_ne (tgt := 44) d_Mo_makeSet_34 (by decide) q7 (fun q8 => ?_) (fun q8 => ?_)
    · have h := h.1 q8
      refine mj_r_aload_n d_Mo_makeSet_37 rfl ?_
      refine mj_q_getr d_Mo_makeSet_38 f_21_8 (.inl mw_716) rfl hn ?_
      refine mj_r_iconst (x := 0) d_Mo_makeSet_41 rfl ?_
      refine mj_r_iconst (x := 1) d_Mo_makeSet_42 rfl ?_
      refine mj_q_zast d_Mo_makeSet_43 rfl rfl hn rfl (by decide) (by decide) (by decide) (fun w9 e10 => ?_)
      have h := h w9 e10
      refine mj_r_iconst (x := 0) d_Mo_makeSet_44 rfl ?_
      refine mj_e_istore_n (lv' := [some (mj_R 21), some (.inl l1), some (.inl 0), none]) d_Mo_makeSet_45 rfl rfl ?_
      exact h
    · have h := h.2 q8
      refine mj_r_iconst (x := 0) d_Mo_makeSet_44 rfl ?_
      refine mj_e_istore_n (lv' := [some (mj_R 21), some (.inl l1), some (.inl 0), none]) d_Mo_makeSet_45 rfl rfl ?_
      exact h
theorem v_Mo_makeSet_46 {g : mj_G} {nn d : Nat} {xs : mj_M} {Post : Option mj_V → mj_w → Prop} (hn : 33 ≤ nn) {w : mj_w} {l1 l2 : Int}
    (h : mj_i l2 ∧ (l2 < 572 → (mj_i l1 ∧ (0 < l1 → (0 ≤ ((572 * (l1 - 1)) + l2) ∧ ((572 * (l1 - 1)) + l2) < 7436 ∧ mj_i (w 26 ((572 * (l1 - 1)) + l2) 0) ∧ ((w 26 ((572 * (l1 - 1)) + l2) 0) = 0 → (mj_J g y_Mo_makeSet (d + 1) 0 0 (46, [some (mj_R 21), some (.inl l1), some (.inl (l2 + 1)), none], [], mj_mem nn xs w) (mj_P nn xs Post))) ∧ (¬ (w 26 ((572 * (l1 - 1)) + l2) 0) = 0 → (0 ≤ l2 ∧ mj_i (l2 % 52) ∧ 0 ≤ (l2 % 52) ∧ mj_J g y_Mo_behind d 0 0 (0, [some (mj_R 21), some (.inl ((l2 / 52) - 1)), some (.inl ((l2 % 52) / 13))], [], mj_mem nn xs w) (mj_P nn xs (fun v w13 => ∃ x14 : Int, v = some (.inl x14) ∧ (0 ≤ (l1 - 1) ∧ (l1 - 1) < 12 ∧ mj_i x14 ∧ mj_i (w13 25 (l1 - 1) 0) ∧ (x14 = (w13 25 (l1 - 1) 0) → (0 ≤ (((572 * l1) + l2) + 13) ∧ (((572 * l1) + l2) + 13) < 7436 ∧ (∀ w23, w23 = mj_wu w13 26 (((572 * l1) + l2) + 13) 0 1 → mj_J g y_Mo_makeSet (d + 1) 0 0 (46, [some (mj_R 21), some (.inl l1), some (.inl (l2 + 1)), none], [], mj_mem nn xs w23) (mj_P nn xs Post)))) ∧ (¬ x14 = (w13 25 (l1 - 1) 0) → (mj_J g y_Mo_makeSet (d + 1) 0 0 (46, [some (mj_R 21), some (.inl l1), some (.inl (l2 + 1)), none], [], mj_mem nn xs w13) (mj_P nn xs Post)))))))))) ∧ (¬ 0 < l1 → (mj_J g y_Mo_close d 0 0 (0, [some (mj_R 21), some (.inl l1), none, none, none], [], mj_mem nn xs w) (mj_P nn xs (fun v w26 => v = none ∧ (Post none w26))))))) ∧ (¬ l2 < 572 → (mj_J g y_Mo_close d 0 0 (0, [some (mj_R 21), some (.inl l1), none, none, none], [], mj_mem nn xs w) (mj_P nn xs (fun v w28 => v = none ∧ (Post none w28)))))) :
    mj_J g y_Mo_makeSet (d + 1) 0 0 (46, [some (mj_R 21), some (.inl l1), some (.inl l2), none], [], mj_mem nn xs w) (mj_P nn xs Post) := by
  refine mj_r_iload_n d_Mo_makeSet_46 rfl ?_
  refine mj_r_sipush (x := 572) d_Mo_makeSet_47 (by decide) ?_
  obtain ⟨q1, h⟩ := h
  refine mj_s_icmp_ge (tgt := 134) d_Mo_makeSet_50 (by decide) q1 (mj_ik (by decide)) (fun q2 => ?_) (fun q2 => ?_)
  · have h := h.1 q2
    refine mj_r_iload_n d_Mo_makeSet_53 rfl ?_
    obtain ⟨q3, h⟩ := h
    refine mj_s_if_le (tgt := 134) d_Mo_makeSet_54 (by decide) q3 (fun q4 => ?_) (fun q4 => ?_)
    · have h := h.1 q4
      refine mj_r_aload_n d_Mo_makeSet_57 rfl ?_
      refine mj_q_getr d_Mo_makeSet_58 f_21_8 (.inl mw_716) rfl hn ?_
      refine mj_r_sipush (x := 572) d_Mo_makeSet_61 (by decide) ?_
      refine mj_r_iload_n d_Mo_makeSet_64 rfl ?_
      refine mj_r_iconst (x := 1) d_Mo_makeSet_65 rfl ?_
      refine mj_r_isub d_Mo_makeSet_66 ?_
      refine mj_r_imul d_Mo_makeSet_67 ?_
      refine mj_r_iload_n d_Mo_makeSet_68 rfl ?_
      refine mj_r_iadd d_Mo_makeSet_69 ?_
      obtain ⟨q5, h⟩ := h
      obtain ⟨q6, h⟩ := h
      refine mj_q_zald d_Mo_makeSet_70 rfl rfl hn rfl q5 q6 ?_
      obtain ⟨q7, h⟩ := h
      refine mj_s_if_eq (tgt := 106) d_Mo_makeSet_71 (by decide) q7 (fun q8 => ?_) (fun q8 => ?_)
      · have h := h.1 q8
        refine mj_r_iconst (x := 0) d_Mo_makeSet_106 rfl ?_
        refine mj_e_istore_n (lv' := [some (mj_R 21), some (.inl l1), some (.inl l2), some (.inl 0)]) d_Mo_makeSet_107 rfl rfl ?_
        refine mj_r_iload_n d_Mo_makeSet_108 rfl ?_
        refine mj_s_if_eq (tgt := 128) d_Mo_makeSet_109 (by decide) (mj_ik (by decide)) (fun q9 => ?_) (fun q9 => absurd (by decide) q9)
        refine mj_e_iinc (lv' := [some (mj_R 21), some (.inl l1), some (.inl (l2 + 1)), some (.inl 0)]) d_Mo_makeSet_128 rfl rfl ?_
        refine mj_r_goto (tgt := 46) d_Mo_makeSet_131 (by decide) ?_
        refine mj_r_sub (lv' := [some (mj_R 21), some (.inl l1), some (.inl (l2 + 1)), none]) ⟨.inr rfl, .inr rfl, .inr rfl, .inl rfl, trivial⟩ ?_
        exact h
      · have h := h.2 q8
        refine mj_r_aload_n d_Mo_makeSet_74 rfl ?_
        refine mj_r_iload_n d_Mo_makeSet_75 rfl ?_
        refine mj_r_bipush (x := 52) d_Mo_makeSet_76 (by decide) ?_
        obtain ⟨q10, h⟩ := h
        refine mj_r_idiv d_Mo_makeSet_78 q1 (mj_ik (by decide)) q10 (by decide) ?_
        refine mj_r_iconst (x := 1) d_Mo_makeSet_79 rfl ?_
        refine mj_r_isub d_Mo_makeSet_80 ?_
        refine mj_r_iload_n d_Mo_makeSet_81 rfl ?_
        refine mj_r_bipush (x := 52) d_Mo_makeSet_82 (by decide) ?_
        refine mj_r_irem d_Mo_makeSet_84 q1 (mj_ik (by decide)) q10 (by decide) ?_
        refine mj_r_bipush (x := 13) d_Mo_makeSet_85 (by decide) ?_
        obtain ⟨q11, h⟩ := h
        obtain ⟨q12, h⟩ := h
        refine mj_r_idiv d_Mo_makeSet_87 q11 (mj_ik (by decide)) q12 (by decide) ?_
        refine mj_q_V2i d_Mo_makeSet_88 h_Mo_behind (.inl mw_678) mw_680 mw_24 rfl rfl rfl hn rfl rfl (mj_wk h (fun v w13 h => ?_))
        obtain ⟨x14, rfl, h⟩ := h
        refine ⟨x14, rfl, ?_⟩
        refine mj_r_aload_n d_Mo_makeSet_91 rfl ?_
        refine mj_q_getr d_Mo_makeSet_92 f_21_7 (.inl mw_715) rfl hn ?_
        refine mj_r_iload_n d_Mo_makeSet_95 rfl ?_
        refine mj_r_iconst (x := 1) d_Mo_makeSet_96 rfl ?_
        refine mj_r_isub d_Mo_makeSet_97 ?_
        obtain ⟨q15, h⟩ := h
        obtain ⟨q16, h⟩ := h
        refine mj_q_iald d_Mo_makeSet_98 rfl rfl hn rfl q15 q16 ?_
        obtain ⟨q17, h⟩ := h
        obtain ⟨q18, h⟩ := h
        refine mj_s_icmp_ne (tgt := 106) d_Mo_makeSet_99 (by decide) q17 q18 (fun q19 => ?_) (fun q19 => ?_)
        · have h := h.1 q19
          refine mj_r_iconst (x := 1) d_Mo_makeSet_102 rfl ?_
          refine mj_r_goto (tgt := 107) d_Mo_makeSet_103 (by decide) ?_
          refine mj_e_istore_n (lv' := [some (mj_R 21), some (.inl l1), some (.inl l2), some (.inl 1)]) d_Mo_makeSet_107 rfl rfl ?_
          refine mj_r_iload_n d_Mo_makeSet_108 rfl ?_
          refine mj_s_if_eq (tgt := 128) d_Mo_makeSet_109 (by decide) (mj_ik (by decide)) (fun q20 => absurd q20 (by decide)) (fun q20 => ?_)
          refine mj_r_aload_n d_Mo_makeSet_112 rfl ?_
          refine mj_q_getr d_Mo_makeSet_113 f_21_8 (.inl mw_716) rfl hn ?_
          refine mj_r_sipush (x := 572) d_Mo_makeSet_116 (by decide) ?_
          refine mj_r_iload_n d_Mo_makeSet_119 rfl ?_
          refine mj_r_imul d_Mo_makeSet_120 ?_
          refine mj_r_iload_n d_Mo_makeSet_121 rfl ?_
          refine mj_r_iadd d_Mo_makeSet_122 ?_
          refine mj_r_bipush (x := 13) d_Mo_makeSet_123 (by decide) ?_
          refine mj_r_iadd d_Mo_makeSet_125 ?_
          refine mj_r_iconst (x := 1) d_Mo_makeSet_126 rfl ?_
          obtain ⟨q21, h⟩ := h
          obtain ⟨q22, h⟩ := h
          refine mj_q_zast d_Mo_makeSet_127 rfl rfl hn rfl q21 q22 (by decide) (fun w23 e24 => ?_)
          have h := h w23 e24
          refine mj_e_iinc (lv' := [some (mj_R 21), some (.inl l1), some (.inl (l2 + 1)), some (.inl 1)]) d_Mo_makeSet_128 rfl rfl ?_
          refine mj_r_goto (tgt := 46) d_Mo_makeSet_131 (by decide) ?_
          refine mj_r_sub (lv' := [some (mj_R 21), some (.inl l1), some (.inl (l2 + 1)), none]) ⟨.inr rfl, .inr rfl, .inr rfl, .inl rfl, trivial⟩ ?_
          exact h
        · have h := h.2 q19
          refine mj_r_iconst (x := 0) d_Mo_makeSet_106 rfl ?_
          refine mj_e_istore_n (lv' := [some (mj_R 21), some (.inl l1), some (.inl l2), some (.inl 0)]) d_Mo_makeSet_107 rfl rfl ?_
          refine mj_r_iload_n d_Mo_makeSet_108 rfl ?_
          refine mj_s_if_eq (tgt := 128) d_Mo_makeSet_109 (by decide) (mj_ik (by decide)) (fun q25 => ?_) (fun q25 => absurd (by decide) q25)
          refine mj_e_iinc (lv' := [some (mj_R 21), some (.inl l1), some (.inl (l2 + 1)), some (.inl 0)]) d_Mo_makeSet_128 rfl rfl ?_
          refine mj_r_goto (tgt := 46) d_Mo_makeSet_131 (by decide) ?_
          refine mj_r_sub (lv' := [some (mj_R 21), some (.inl l1), some (.inl (l2 + 1)), none]) ⟨.inr rfl, .inr rfl, .inr rfl, .inl rfl, trivial⟩ ?_
          exact h
    · have h := h.2 q4
      refine mj_r_aload_n d_Mo_makeSet_134 rfl ?_
      refine mj_r_iload_n d_Mo_makeSet_135 rfl ?_
      refine mj_q_V1v d_Mo_makeSet_136 h_Mo_close (.inl mw_686) mw_688 mw_26 rfl rfl rfl hn rfl rfl (mj_wk h (fun v w26 h => ?_))
      obtain ⟨rfl, h⟩ := h
      refine ⟨rfl, ?_⟩
      exact mj_r_vret d_Mo_makeSet_139 rfl (mj_q_ret h)
  · have h := h.2 q2
    refine mj_r_aload_n d_Mo_makeSet_134 rfl ?_
    refine mj_r_iload_n d_Mo_makeSet_135 rfl ?_
    refine mj_q_V1v d_Mo_makeSet_136 h_Mo_close (.inl mw_686) mw_688 mw_26 rfl rfl rfl hn rfl rfl (mj_wk h (fun v w28 h => ?_))
    obtain ⟨rfl, h⟩ := h
    refine ⟨rfl, ?_⟩
    exact mj_r_vret d_Mo_makeSet_139 rfl (mj_q_ret h)
theorem v_Mo_behind_0 {g : mj_G} {nn d : Nat} {xs : mj_M} {Post : Option mj_V → mj_w → Prop} (hn : 33 ≤ nn) {w : mj_w} {l1 l2 : Int}
    (h : mj_J g y_Mo_lengthOf d 0 0 (0, [some (mj_R 21), some (.inl l1)], [], mj_mem nn xs w) (mj_P nn xs (fun v w1 => ∃ x2 : Int, v = some (.inl x2) ∧ (mj_i l2 ∧ mj_i x2 ∧ (l2 < x2 → (mj_i l1 ∧ (l1 < 0 → (Post (some (.inl 0)) w1)) ∧ (¬ l1 < 0 → (0 ≤ ((3 * l1) + l2) ∧ ((3 * l1) + l2) < 30 ∧ Post (some (.inl (w1 24 ((3 * l1) + l2) 0))) w1)))) ∧ (¬ l2 < x2 → (Post (some (.inl ((-1)))) w1)))))) :
    mj_J g y_Mo_behind (d + 1) 0 0 (0, [some (mj_R 21), some (.inl l1), some (.inl l2)], [], mj_mem nn xs w) (mj_P nn xs Post) := by
  refine mj_r_iload_n d_Mo_behind_0 rfl ?_
  refine mj_r_aload_n d_Mo_behind_1 rfl ?_
  refine mj_r_iload_n d_Mo_behind_2 rfl ?_
  refine mj_q_V1i d_Mo_behind_3 h_Mo_lengthOf (.inl mw_682) mw_684 mw_25 rfl rfl rfl hn rfl rfl (mj_wk h (fun v w1 h => ?_))
  obtain ⟨x2, rfl, h⟩ := h
  refine ⟨x2, rfl, ?_⟩
  obtain ⟨q3, h⟩ := h
  obtain ⟨q4, h⟩ := h
  refine mj_s_icmp_lt (tgt := 13) d_Mo_behind_6 (by decide) q3 q4 (fun q5 => ?_) (fun q5 => ?_)
  · have h := h.1 q5
    refine mj_r_iload_n d_Mo_behind_13 rfl ?_
    obtain ⟨q6, h⟩ := h
    refine mj_s_if_ge (tgt := 21) d_Mo_behind_14 (by decide) q6 (fun q7 => ?_) (fun q7 => ?_)
    · have h := h.1 q7
      refine mj_r_iconst (x := 0) d_Mo_behind_17 rfl ?_
      refine mj_r_goto (tgt := 31) d_Mo_behind_18 (by decide) ?_
      exact mj_r_iret d_Mo_behind_31 rfl (mj_q_ret h)
    · have h := h.2 q7
      refine mj_r_aload_n d_Mo_behind_21 rfl ?_
      refine mj_q_getr d_Mo_behind_22 f_21_5 (.inl mw_713) rfl hn ?_
      refine mj_r_iconst (x := 3) d_Mo_behind_25 rfl ?_
      refine mj_r_iload_n d_Mo_behind_26 rfl ?_
      refine mj_r_imul d_Mo_behind_27 ?_
      refine mj_r_iload_n d_Mo_behind_28 rfl ?_
      refine mj_r_iadd d_Mo_behind_29 ?_
      obtain ⟨q8, h⟩ := h
      obtain ⟨q9, h⟩ := h
      refine mj_q_iald d_Mo_behind_30 rfl rfl hn rfl q8 q9 ?_
      exact mj_r_iret d_Mo_behind_31 rfl (mj_q_ret h)
  · have h := h.2 q5
    refine mj_r_iconst (x := (-1)) d_Mo_behind_9 rfl ?_
    refine mj_r_goto (tgt := 31) d_Mo_behind_10 (by decide) ?_
    exact mj_r_iret d_Mo_behind_31 rfl (mj_q_ret h)
theorem v_Mo_lengthOf_0 {g : mj_G} {nn d : Nat} {xs : mj_M} {Post : Option mj_V → mj_w → Prop} (hn : 33 ≤ nn) {w : mj_w} {l1 : Int}
    (h : mj_i l1 ∧ (l1 < 0 → (Post (some (.inl 1)) w)) ∧ (¬ l1 < 0 → (0 ≤ l1 ∧ l1 < 10 ∧ Post (some (.inl (w 23 l1 0))) w))) :
    mj_J g y_Mo_lengthOf d 0 0 (0, [some (mj_R 21), some (.inl l1)], [], mj_mem nn xs w) (mj_P nn xs Post) := by
  refine mj_r_iload_n d_Mo_lengthOf_0 rfl ?_
  obtain ⟨q1, h⟩ := h
  refine mj_s_if_ge (tgt := 8) d_Mo_lengthOf_1 (by decide) q1 (fun q2 => ?_) (fun q2 => ?_)
  · have h := h.1 q2
    refine mj_r_iconst (x := 1) d_Mo_lengthOf_4 rfl ?_
    refine mj_r_goto (tgt := 14) d_Mo_lengthOf_5 (by decide) ?_
    exact mj_r_iret d_Mo_lengthOf_14 rfl (mj_q_ret h)
  · have h := h.2 q2
    refine mj_r_aload_n d_Mo_lengthOf_8 rfl ?_
    refine mj_q_getr d_Mo_lengthOf_9 f_21_4 (.inl mw_712) rfl hn ?_
    refine mj_r_iload_n d_Mo_lengthOf_12 rfl ?_
    obtain ⟨q3, h⟩ := h
    obtain ⟨q4, h⟩ := h
    refine mj_q_iald d_Mo_lengthOf_13 rfl rfl hn rfl q3 q4 ?_
    exact mj_r_iret d_Mo_lengthOf_14 rfl (mj_q_ret h)
theorem v_Mo_close_0 {g : mj_G} {nn d : Nat} {xs : mj_M} {Post : Option mj_V → mj_w → Prop} (hn : 33 ≤ nn) {w : mj_w} {l1 : Int}
    (h : mj_J g y_Mo_close (d + 1) 0 0 (2, [some (mj_R 21), some (.inl l1), some (.inl 1), none, none], [], mj_mem nn xs w) (mj_P nn xs Post)) :
    mj_J g y_Mo_close (d + 1) 0 0 (0, [some (mj_R 21), some (.inl l1), none, none, none], [], mj_mem nn xs w) (mj_P nn xs Post) := by
  refine mj_r_iconst (x := 1) d_Mo_close_0 rfl ?_
  refine mj_e_istore_n (lv' := [some (mj_R 21), some (.inl l1), some (.inl 1), none, none]) d_Mo_close_1 rfl rfl ?_
  exact h
theorem v_Mo_close_2 {g : mj_G} {nn d : Nat} {xs : mj_M} {Post : Option mj_V → mj_w → Prop} (hn : 33 ≤ nn) {w : mj_w} {l1 l2 : Int}
    (h : mj_i l2 ∧ (l2 = 0 → (Post none w)) ∧ (¬ l2 = 0 → (mj_J g y_Mo_close (d + 1) 0 0 (10, [some (mj_R 21), some (.inl l1), some (.inl 0), some (.inl 0), none], [], mj_mem nn xs w) (mj_P nn xs Post)))) :
    mj_J g y_Mo_close (d + 1) 0 0 (2, [some (mj_R 21), some (.inl l1), some (.inl l2), none, none], [], mj_mem nn xs w) (mj_P nn xs Post) := by
  refine mj_r_iload_n d_Mo_close_2 rfl ?_
  obtain ⟨q1, h⟩ := h
  refine mj_s_if_eq (tgt := 80) d_Mo_close_3 (by decide) q1 (fun q2 => ?_) (fun q2 => ?_)
  · have h := h.1 q2
    exact mj_r_vret d_Mo_close_80 rfl (mj_q_ret h)
  · have h := h.2 q2
    refine mj_r_iconst (x := 0) d_Mo_close_6 rfl ?_
    refine mj_e_istore_n (lv' := [some (mj_R 21), some (.inl l1), some (.inl 0), none, none]) d_Mo_close_7 rfl rfl ?_
    refine mj_r_iconst (x := 0) d_Mo_close_8 rfl ?_
    refine mj_e_istore_n (lv' := [some (mj_R 21), some (.inl l1), some (.inl 0), some (.inl 0), none]) d_Mo_close_9 rfl rfl ?_
    exact h
theorem v_Mo_close_10 {g : mj_G} {nn d : Nat} {xs : mj_M} {Post : Option mj_V → mj_w → Prop} (hn : 33 ≤ nn) {w : mj_w} {l1 l2 l3 : Int}
    (h : mj_i l3 ∧ (l3 < 572 → (0 ≤ ((572 * l1) + l3) ∧ ((572 * l1) + l3) < 7436 ∧ mj_i (w 26 ((572 * l1) + l3) 0) ∧ ((w 26 ((572 * l1) + l3) 0) = 0 → (mj_J g y_Mo_close (d + 1) 0 0 (10, [some (mj_R 21), some (.inl l1), some (.inl l2), some (.inl (l3 + 1)), none], [], mj_mem nn xs w) (mj_P nn xs Post))) ∧ (¬ (w 26 ((572 * l1) + l3) 0) = 0 → (0 ≤ l3 ∧ mj_i (l3 % 52) ∧ 0 ≤ (l3 % 52) ∧ mj_J g y_Mo_follow d 0 0 (0, [some (mj_R 21), some (.inl l1), some (.inl ((l3 / 52) - 1)), some (.inl ((l3 % 52) / 13)), some (.inl (l3 % 13)), none, none, none, none], [], mj_mem nn xs w) (mj_P nn xs (fun v w10 => ∃ x11 : Int, v = some (.inl x11) ∧ (mj_i l2 ∧ (l2 = 0 → (mj_i x11 ∧ (0 < x11 → (mj_J g y_Mo_close (d + 1) 0 0 (10, [some (mj_R 21), some (.inl l1), some (.inl 1), some (.inl (l3 + 1)), none], [], mj_mem nn xs w10) (mj_P nn xs Post))) ∧ (¬ 0 < x11 → (mj_J g y_Mo_close (d + 1) 0 0 (10, [some (mj_R 21), some (.inl l1), some (.inl 0), some (.inl (l3 + 1)), none], [], mj_mem nn xs w10) (mj_P nn xs Post))))) ∧ (¬ l2 = 0 → (mj_J g y_Mo_close (d + 1) 0 0 (10, [some (mj_R 21), some (.inl l1), some (.inl 1), some (.inl (l3 + 1)), none], [], mj_mem nn xs w10) (mj_P nn xs Post)))))))))) ∧ (¬ l3 < 572 → (mj_J g y_Mo_close (d + 1) 0 0 (2, [some (mj_R 21), some (.inl l1), some (.inl l2), none, none], [], mj_mem nn xs w) (mj_P nn xs Post)))) :
    mj_J g y_Mo_close (d + 1) 0 0 (10, [some (mj_R 21), some (.inl l1), some (.inl l2), some (.inl l3), none], [], mj_mem nn xs w) (mj_P nn xs Post) := by
  refine mj_r_iload_n d_Mo_close_10 rfl ?_
  refine mj_r_sipush (x := 572) d_Mo_close_11 (by decide) ?_
  obtain ⟨q1, h⟩ := h
  refine mj_s_icmp_ge (tgt := 77) d_Mo_close_14 (by decide) q1 (mj_ik (by decide)) (fun q2 => ?_) (fun q2 => ?_)
  · have h := h.1 q2
    refine mj_r_aload_n d_Mo_close_17 rfl ?_
    refine mj_q_getr d_Mo_close_18 f_21_8 (.inl mw_716) rfl hn ?_
    refine mj_r_sipush (x := 572) d_Mo_close_21 (by decide) ?_
    refine mj_r_iload_n d_Mo_close_24 rfl ?_
    refine mj_r_imul d_Mo_close_25 ?_
    refine mj_r_iload_n d_Mo_close_26 rfl ?_
    refine mj_r_iadd d_Mo_close_27 ?_
    obtain ⟨q3, h⟩ := h
    obtain ⟨q4, h⟩ := h
    refine mj_q_zald d_Mo_close_28 rfl rfl hn rfl q3 q4 ?_
    obtain ⟨q5, h⟩ := h
    refine mj_s_if_eq (tgt := 71) d_Mo_close_29 (by decide) q5 (fun q6 => ?_) (fun q6 => ?_)
    · have h := h.1 q6
      refine mj_e_iinc (lv' := [some (mj_R 21), some (.inl l1), some (.inl l2), some (.inl (l3 + 1)), none]) d_Mo_close_71 rfl rfl ?_
      refine mj_r_goto (tgt := 10) d_Mo_close_74 (by decide) ?_
      exact h
    · have h := h.2 q6
      refine mj_r_aload_n d_Mo_close_32 rfl ?_
      refine mj_r_iload_n d_Mo_close_33 rfl ?_
      refine mj_r_iload_n d_Mo_close_34 rfl ?_
      refine mj_r_bipush (x := 52) d_Mo_close_35 (by decide) ?_
      obtain ⟨q7, h⟩ := h
      refine mj_r_idiv d_Mo_close_37 q1 (mj_ik (by decide)) q7 (by decide) ?_
      refine mj_r_iconst (x := 1) d_Mo_close_38 rfl ?_
      refine mj_r_isub d_Mo_close_39 ?_
      refine mj_r_iload_n d_Mo_close_40 rfl ?_
      refine mj_r_bipush (x := 52) d_Mo_close_41 (by decide) ?_
      refine mj_r_irem d_Mo_close_43 q1 (mj_ik (by decide)) q7 (by decide) ?_
      refine mj_r_bipush (x := 13) d_Mo_close_44 (by decide) ?_
      obtain ⟨q8, h⟩ := h
      obtain ⟨q9, h⟩ := h
      refine mj_r_idiv d_Mo_close_46 q8 (mj_ik (by decide)) q9 (by decide) ?_
      refine mj_r_iload_n d_Mo_close_47 rfl ?_
      refine mj_r_bipush (x := 13) d_Mo_close_48 (by decide) ?_
      refine mj_r_irem d_Mo_close_50 q1 (mj_ik (by decide)) q7 (by decide) ?_
      refine mj_q_V4i d_Mo_close_51 h_Mo_follow (.inl mw_690) mw_692 mw_27 rfl rfl rfl hn rfl rfl (mj_wk h (fun v w10 h => ?_))
      obtain ⟨x11, rfl, h⟩ := h
      refine ⟨x11, rfl, ?_⟩
      refine mj_e_istore (lv' := [some (mj_R 21), some (.inl l1), some (.inl l2), some (.inl l3), some (.inl x11)]) d_Mo_close_54 rfl rfl ?_
      refine mj_r_iload_n d_Mo_close_56 rfl ?_
      obtain ⟨q12, h⟩ := h
      refine mj_s_if_ne (tgt := 65) d_Mo_close_57 (by decide) q12 (fun q13 => ?_) (fun q13 => ?_)
      · have h := h.1 q13
        refine mj_r_iload d_Mo_close_60 rfl ?_
        obtain ⟨q14, h⟩ := h
        refine mj_s_if_le (tgt := 69) d_Mo_close_62 (by decide) q14 (fun q15 => ?_) (fun q15 => ?_)
        · have h := h.1 q15
          refine mj_r_iconst (x := 1) d_Mo_close_65 rfl ?_
          refine mj_r_goto (tgt := 70) d_Mo_close_66 (by decide) ?_
          refine mj_e_istore_n (lv' := [some (mj_R 21), some (.inl l1), some (.inl 1), some (.inl l3), some (.inl x11)]) d_Mo_close_70 rfl rfl ?_
          refine mj_e_iinc (lv' := [some (mj_R 21), some (.inl l1), some (.inl 1), some (.inl (l3 + 1)), some (.inl x11)]) d_Mo_close_71 rfl rfl ?_
          refine mj_r_goto (tgt := 10) d_Mo_close_74 (by decide) ?_
          refine mj_r_sub (lv' := [some (mj_R 21), some (.inl l1), some (.inl 1), some (.inl (l3 + 1)), none]) ⟨.inr rfl, .inr rfl, .inr rfl, .inr rfl, .inl rfl, trivial⟩ ?_
          exact h
        · have h := h.2 q15
          refine mj_r_iconst (x := 0) d_Mo_close_69 rfl ?_
          refine mj_e_istore_n (lv' := [some (mj_R 21), some (.inl l1), some (.inl 0), some (.inl l3), some (.inl x11)]) d_Mo_close_70 rfl rfl ?_
          refine mj_e_iinc (lv' := [some (mj_R 21), some (.inl l1), some (.inl 0), some (.inl (l3 + 1)), some (.inl x11)]) d_Mo_close_71 rfl rfl ?_
          refine mj_r_goto (tgt := 10) d_Mo_close_74 (by decide) ?_
          refine mj_r_sub (lv' := [some (mj_R 21), some (.inl l1), some (.inl 0), some (.inl (l3 + 1)), none]) ⟨.inr rfl, .inr rfl, .inr rfl, .inr rfl, .inl rfl, trivial⟩ ?_
          exact h
      · have h := h.2 q13
        refine mj_r_iconst (x := 1) d_Mo_close_65 rfl ?_
        refine mj_r_goto (tgt := 70) d_Mo_close_66 (by decide) ?_
        refine mj_e_istore_n (lv' := [some (mj_R 21), some (.inl l1), some (.inl 1), some (.inl l3), some (.inl x11)]) d_Mo_close_70 rfl rfl ?_
        refine mj_e_iinc (lv' := [some (mj_R 21), some (.inl l1), some (.inl 1), some (.inl (l3 + 1)), some (.inl x11)]) d_Mo_close_71 rfl rfl ?_
        refine mj_r_goto (tgt := 10) d_Mo_close_74 (by decide) ?_
        refine mj_r_sub (lv' := [some (mj_R 21), some (.inl l1), some (.inl 1), some (.inl (l3 + 1)), none]) ⟨.inr rfl, .inr rfl, .inr rfl, .inr rfl, .inl rfl, trivial⟩ ?_
        exact h
  · have h := h.2 q2
    refine mj_r_goto (tgt := 2) d_Mo_close_77 (by decide) ?_
    refine mj_r_sub (lv' := [some (mj_R 21), some (.inl l1), some (.inl l2), none, none]) ⟨.inr rfl, .inr rfl, .inr rfl, .inl rfl, .inl rfl, trivial⟩ ?_
    exact h
theorem v_Mo_follow_0 {g : mj_G} {nn d : Nat} {xs : mj_M} {Post : Option mj_V → mj_w → Prop} (hn : 33 ≤ nn) {w : mj_w} {l1 l2 l3 l4 : Int}
    (h : mj_J g y_Mo_behind d 0 0 (0, [some (mj_R 21), some (.inl l2), some (.inl l3)], [], mj_mem nn xs w) (mj_P nn xs (fun v w1 => ∃ x2 : Int, v = some (.inl x2) ∧ (mj_J g y_Mo_isNonterminal d 0 0 (0, [some (.inl x2)], [], mj_mem nn xs w1) (mj_P nn xs (fun v w3 => ∃ x4 : Int, v = some (.inl x4) ∧ (mj_i x4 ∧ (x4 = 0 → (mj_i x2 ∧ (x2 < 0 → (mj_i l2 ∧ (l2 < 0 → (Post (some (.inl 0)) w3)) ∧ (¬ l2 < 0 → (mj_i (w3 21 0 0) ∧ ((w3 21 0 0) = 0 → (mj_J g y_Mo_follow (d + 1) 0 0 (147, [some (mj_R 21), some (.inl l1), some (.inl l2), some (.inl l3), some (.inl l4), some (.inl x2), some (.inl 0), some (.inl ((-1))), some (.inl 0)], [], mj_mem nn xs w3) (mj_P nn xs Post))) ∧ (¬ (w3 21 0 0) = 0 → (mj_i l4 ∧ mj_i l1 ∧ (l4 < l1 → (0 ≤ l2 ∧ l2 < 10 ∧ mj_J g y_Mo_leapOf d 0 0 (0, [some (mj_R 21), some (.inl l4), some (.inl (w3 22 l2 0)), none, none, none, none, none, none, none, none, none], [], mj_mem nn xs w3) (mj_P nn xs (fun v w19 => ∃ x20 : Int, v = some (.inl x20) ∧ (mj_i x20 ∧ (x20 < 0 → (mj_J g y_Mo_follow (d + 1) 0 0 (147, [some (mj_R 21), some (.inl l1), some (.inl l2), some (.inl l3), some (.inl l4), some (.inl x2), some (.inl 0), some (.inl x20), some (.inl 0)], [], mj_mem nn xs w19) (mj_P nn xs Post))) ∧ (¬ x20 < 0 → (0 ≤ x20 ∧ mj_i (x20 % 52) ∧ 0 ≤ (x20 % 52) ∧ mj_J g y_Mo_add d 0 0 (0, [some (mj_R 21), some (.inl l1), some (.inl ((x20 / 52) - 1)), some (.inl ((x20 % 52) / 13)), some (.inl (x20 % 13)), none], [], mj_mem nn xs w19) (mj_P nn xs (fun v w26 => ∃ x27 : Int, v = some (.inl x27) ∧ (Post (some (.inl (0 + x27))) w26)))))))))) ∧ (¬ l4 < l1 → (mj_J g y_Mo_follow (d + 1) 0 0 (147, [some (mj_R 21), some (.inl l1), some (.inl l2), some (.inl l3), some (.inl l4), some (.inl x2), some (.inl 0), some (.inl ((-1))), some (.inl 0)], [], mj_mem nn xs w3) (mj_P nn xs Post))))))))) ∧ (¬ x2 < 0 → (Post (some (.inl 0)) w3)))) ∧ (¬ x4 = 0 → (mj_J g y_Mo_follow (d + 1) 0 0 (22, [some (mj_R 21), some (.inl l1), some (.inl l2), some (.inl l3), some (.inl l4), some (.inl x2), some (.inl 0), some (.inl 0), none], [], mj_mem nn xs w3) (mj_P nn xs Post)))))))))) :
    mj_J g y_Mo_follow (d + 1) 0 0 (0, [some (mj_R 21), some (.inl l1), some (.inl l2), some (.inl l3), some (.inl l4), none, none, none, none], [], mj_mem nn xs w) (mj_P nn xs Post) := by
  refine mj_r_aload_n d_Mo_follow_0 rfl ?_
  refine mj_r_iload_n d_Mo_follow_1 rfl ?_
  refine mj_r_iload_n d_Mo_follow_2 rfl ?_
  refine mj_q_V2i d_Mo_follow_3 h_Mo_behind (.inl mw_678) mw_680 mw_24 rfl rfl rfl hn rfl rfl (mj_wk h (fun v w1 h => ?_))
  obtain ⟨x2, rfl, h⟩ := h
  refine ⟨x2, rfl, ?_⟩
  refine mj_e_istore (lv' := [some (mj_R 21), some (.inl l1), some (.inl l2), some (.inl l3), some (.inl l4), some (.inl x2), none, none, none]) d_Mo_follow_6 rfl rfl ?_
  refine mj_r_iconst (x := 0) d_Mo_follow_8 rfl ?_
  refine mj_e_istore (lv' := [some (mj_R 21), some (.inl l1), some (.inl l2), some (.inl l3), some (.inl l4), some (.inl x2), some (.inl 0), none, none]) d_Mo_follow_9 rfl rfl ?_
  refine mj_r_iload d_Mo_follow_11 rfl ?_
  refine mj_q_S1i d_Mo_follow_13 h_Mo_isNonterminal (.inl mw_694) mw_695 rfl rfl (mj_wk h (fun v w3 h => ?_))
  obtain ⟨x4, rfl, h⟩ := h
  refine ⟨x4, rfl, ?_⟩
  obtain ⟨q5, h⟩ := h
  refine mj_s_if_eq (tgt := 67) d_Mo_follow_16 (by decide) q5 (fun q6 => ?_) (fun q6 => ?_)
  · have h := h.1 q6
    refine mj_r_iload d_Mo_follow_67 rfl ?_
    obtain ⟨q7, h⟩ := h
    refine mj_s_if_ge (tgt := 76) d_Mo_follow_69 (by decide) q7 (fun q8 => ?_) (fun q8 => ?_)
    · have h := h.1 q8
      refine mj_r_iload_n d_Mo_follow_72 rfl ?_
      obtain ⟨q9, h⟩ := h
      refine mj_s_if_ge (tgt := 79) d_Mo_follow_73 (by decide) q9 (fun q10 => ?_) (fun q10 => ?_)
      · have h := h.1 q10
        refine mj_r_iload d_Mo_follow_76 rfl ?_
        exact mj_r_iret d_Mo_follow_78 rfl (mj_q_ret h)
      · have h := h.2 q10
        refine mj_r_aload_n d_Mo_follow_79 rfl ?_
        refine mj_q_geti d_Mo_follow_80 f_21_0 (.inl mw_708) rfl hn ?_
        obtain ⟨q11, h⟩ := h
        refine mj_s_if_eq (tgt := 107) d_Mo_follow_83 (by decide) q11 (fun q12 => ?_) (fun q12 => ?_)
        · have h := h.1 q12
          refine mj_r_iconst (x := (-1)) d_Mo_follow_107 rfl ?_
          refine mj_e_istore (lv' := [some (mj_R 21), some (.inl l1), some (.inl l2), some (.inl l3), some (.inl l4), some (.inl x2), some (.inl 0), some (.inl ((-1))), none]) d_Mo_follow_108 rfl rfl ?_
          refine mj_r_iload d_Mo_follow_110 rfl ?_
          refine mj_s_if_lt (tgt := 144) d_Mo_follow_112 (by decide) (mj_ik (by decide)) (fun q13 => ?_) (fun q13 => absurd (by decide) q13)
          refine mj_r_iconst (x := 0) d_Mo_follow_144 rfl ?_
          refine mj_e_istore (lv' := [some (mj_R 21), some (.inl l1), some (.inl l2), some (.inl l3), some (.inl l4), some (.inl x2), some (.inl 0), some (.inl ((-1))), some (.inl 0)]) d_Mo_follow_145 rfl rfl ?_
          exact h
        · have h := h.2 q12
          refine mj_r_iload d_Mo_follow_86 rfl ?_
          refine mj_r_iload_n d_Mo_follow_88 rfl ?_
          obtain ⟨q14, h⟩ := h
          obtain ⟨q15, h⟩ := h
          refine mj_s_icmp_ge (tgt := 107) d_Mo_follow_89 (by decide) q14 q15 (fun q16 => ?_) (fun q16 => ?_)
          · have h := h.1 q16
            refine mj_r_aload_n d_Mo_follow_92 rfl ?_
            refine mj_r_iload d_Mo_follow_93 rfl ?_
            refine mj_r_aload_n d_Mo_follow_95 rfl ?_
            refine mj_q_getr d_Mo_follow_96 f_21_3 (.inl mw_711) rfl hn ?_
            refine mj_r_iload_n d_Mo_follow_99 rfl ?_
            obtain ⟨q17, h⟩ := h
            obtain ⟨q18, h⟩ := h
            refine mj_q_iald d_Mo_follow_100 rfl rfl hn rfl q17 q18 ?_
            refine mj_q_V2i d_Mo_follow_101 h_Mo_leapOf (.inl mw_704) mw_706 mw_29 rfl rfl rfl hn rfl rfl (mj_wk h (fun v w19 h => ?_))
            obtain ⟨x20, rfl, h⟩ := h
            refine ⟨x20, rfl, ?_⟩
            refine mj_r_goto (tgt := 108) d_Mo_follow_104 (by decide) ?_
            refine mj_e_istore (lv' := [some (mj_R 21), some (.inl l1), some (.inl l2), some (.inl l3), some (.inl l4), some (.inl x2), some (.inl 0), some (.inl x20), none]) d_Mo_follow_108 rfl rfl ?_
            refine mj_r_iload d_Mo_follow_110 rfl ?_
            obtain ⟨q21, h⟩ := h
            refine mj_s_if_lt (tgt := 144) d_Mo_follow_112 (by decide) q21 (fun q22 => ?_) (fun q22 => ?_)
            · have h := h.1 q22
              refine mj_r_iconst (x := 0) d_Mo_follow_144 rfl ?_
              refine mj_e_istore (lv' := [some (mj_R 21), some (.inl l1), some (.inl l2), some (.inl l3), some (.inl l4), some (.inl x2), some (.inl 0), some (.inl x20), some (.inl 0)]) d_Mo_follow_145 rfl rfl ?_
              exact h
            · have h := h.2 q22
              refine mj_r_iload d_Mo_follow_115 rfl ?_
              refine mj_r_aload_n d_Mo_follow_117 rfl ?_
              refine mj_r_iload_n d_Mo_follow_118 rfl ?_
              refine mj_r_iload d_Mo_follow_119 rfl ?_
              refine mj_r_bipush (x := 52) d_Mo_follow_121 (by decide) ?_
              obtain ⟨q23, h⟩ := h
              refine mj_r_idiv d_Mo_follow_123 q21 (mj_ik (by decide)) q23 (by decide) ?_
              refine mj_r_iconst (x := 1) d_Mo_follow_124 rfl ?_
              refine mj_r_isub d_Mo_follow_125 ?_
              refine mj_r_iload d_Mo_follow_126 rfl ?_
              refine mj_r_bipush (x := 52) d_Mo_follow_128 (by decide) ?_
              refine mj_r_irem d_Mo_follow_130 q21 (mj_ik (by decide)) q23 (by decide) ?_
              refine mj_r_bipush (x := 13) d_Mo_follow_131 (by decide) ?_
              obtain ⟨q24, h⟩ := h
              obtain ⟨q25, h⟩ := h
              refine mj_r_idiv d_Mo_follow_133 q24 (mj_ik (by decide)) q25 (by decide) ?_
              refine mj_r_iload d_Mo_follow_134 rfl ?_
              refine mj_r_bipush (x := 13) d_Mo_follow_136 (by decide) ?_
              refine mj_r_irem d_Mo_follow_138 q21 (mj_ik (by decide)) q23 (by decide) ?_
              refine mj_q_V4i d_Mo_follow_139 h_Mo_add (.inl mw_697) mw_699 mw_28 rfl rfl rfl hn rfl rfl (mj_wk h (fun v w26 h => ?_))
              obtain ⟨x27, rfl, h⟩ := h
              refine ⟨x27, rfl, ?_⟩
              refine mj_r_iadd d_Mo_follow_142 ?_
              exact mj_r_iret d_Mo_follow_143 rfl (mj_q_ret h)
          · have h := h.2 q16
            refine mj_r_iconst (x := (-1)) d_Mo_follow_107 rfl ?_
            refine mj_e_istore (lv' := [some (mj_R 21), some (.inl l1), some (.inl l2), some (.inl l3), some (.inl l4), some (.inl x2), some (.inl 0), some (.inl ((-1))), none]) d_Mo_follow_108 rfl rfl ?_
            refine mj_r_iload d_Mo_follow_110 rfl ?_
            refine mj_s_if_lt (tgt := 144) d_Mo_follow_112 (by decide) (mj_ik (by decide)) (fun q28 => ?_) (fun q28 => absurd (by decide) q28)
            refine mj_r_iconst (x := 0) d_Mo_follow_144 rfl ?_
            refine mj_e_istore (lv' := [some (mj_R 21), some (.inl l1), some (.inl l2), some (.inl l3), some (.inl l4), some (.inl x2), some (.inl 0), some (.inl ((-1))), some (.inl 0)]) d_Mo_follow_145 rfl rfl ?_
            exact h
    · have h := h.2 q8
      refine mj_r_iload d_Mo_follow_76 rfl ?_
      exact mj_r_iret d_Mo_follow_78 rfl (mj_q_ret h)
  · have h := h.2 q6
    refine mj_r_iconst (x := 0) d_Mo_follow_19 rfl ?_
    refine mj_e_istore (lv' := [some (mj_R 21), some (.inl l1), some (.inl l2), some (.inl l3), some (.inl l4), some (.inl x2), some (.inl 0), some (.inl 0), none]) d_Mo_follow_20 rfl rfl ?_
    exact h
theorem v_Mo_follow_22 {g : mj_G} {nn d : Nat} {xs : mj_M} {Post : Option mj_V → mj_w → Prop} (hn : 33 ≤ nn) {w : mj_w} {l1 l2 l3 l4 l5 l6 l7 : Int}
    (h : mj_i l7 ∧ mj_i (w 21 2 0) ∧ (l7 < (w 21 2 0) → (0 ≤ l7 ∧ l7 < 10 ∧ mj_i (w 22 l7 0) ∧ mj_i l5 ∧ ((w 22 l7 0) = l5 → (mj_J g y_Mo_add d 0 0 (0, [some (mj_R 21), some (.inl l1), some (.inl l7), some (.inl 0), some (.inl l1), none], [], mj_mem nn xs w) (mj_P nn xs (fun v w9 => ∃ x10 : Int, v = some (.inl x10) ∧ (mj_J g y_Mo_follow (d + 1) 0 0 (22, [some (mj_R 21), some (.inl l1), some (.inl l2), some (.inl l3), some (.inl l4), some (.inl l5), some (.inl (l6 + x10)), some (.inl (l7 + 1)), none], [], mj_mem nn xs w9) (mj_P nn xs Post)))))) ∧ (¬ (w 22 l7 0) = l5 → (mj_J g y_Mo_follow (d + 1) 0 0 (22, [some (mj_R 21), some (.inl l1), some (.inl l2), some (.inl l3), some (.inl l4), some (.inl l5), some (.inl (l6 + 0)), some (.inl (l7 + 1)), none], [], mj_mem nn xs w) (mj_P nn xs Post))))) ∧ (¬ l7 < (w 21 2 0) → (mj_i l5 ∧ (l5 < 0 → (mj_i l2 ∧ (l2 < 0 → (Post (some (.inl l6)) w)) ∧ (¬ l2 < 0 → (mj_i (w 21 0 0) ∧ ((w 21 0 0) = 0 → (mj_J g y_Mo_follow (d + 1) 0 0 (147, [some (mj_R 21), some (.inl l1), some (.inl l2), some (.inl l3), some (.inl l4), some (.inl l5), some (.inl l6), some (.inl ((-1))), some (.inl 0)], [], mj_mem nn xs w) (mj_P nn xs Post))) ∧ (¬ (w 21 0 0) = 0 → (mj_i l4 ∧ mj_i l1 ∧ (l4 < l1 → (0 ≤ l2 ∧ l2 < 10 ∧ mj_J g y_Mo_leapOf d 0 0 (0, [some (mj_R 21), some (.inl l4), some (.inl (w 22 l2 0)), none, none, none, none, none, none, none, none, none], [], mj_mem nn xs w) (mj_P nn xs (fun v w23 => ∃ x24 : Int, v = some (.inl x24) ∧ (mj_i x24 ∧ (x24 < 0 → (mj_J g y_Mo_follow (d + 1) 0 0 (147, [some (mj_R 21), some (.inl l1), some (.inl l2), some (.inl l3), some (.inl l4), some (.inl l5), some (.inl l6), some (.inl x24), some (.inl 0)], [], mj_mem nn xs w23) (mj_P nn xs Post))) ∧ (¬ x24 < 0 → (0 ≤ x24 ∧ mj_i (x24 % 52) ∧ 0 ≤ (x24 % 52) ∧ mj_J g y_Mo_add d 0 0 (0, [some (mj_R 21), some (.inl l1), some (.inl ((x24 / 52) - 1)), some (.inl ((x24 % 52) / 13)), some (.inl (x24 % 13)), none], [], mj_mem nn xs w23) (mj_P nn xs (fun v w30 => ∃ x31 : Int, v = some (.inl x31) ∧ (Post (some (.inl (l6 + x31))) w30)))))))))) ∧ (¬ l4 < l1 → (mj_J g y_Mo_follow (d + 1) 0 0 (147, [some (mj_R 21), some (.inl l1), some (.inl l2), some (.inl l3), some (.inl l4), some (.inl l5), some (.inl l6), some (.inl ((-1))), some (.inl 0)], [], mj_mem nn xs w) (mj_P nn xs Post))))))))) ∧ (¬ l5 < 0 → (Post (some (.inl l6)) w))))) :
    mj_J g y_Mo_follow (d + 1) 0 0 (22, [some (mj_R 21), some (.inl l1), some (.inl l2), some (.inl l3), some (.inl l4), some (.inl l5), some (.inl l6), some (.inl l7), none], [], mj_mem nn xs w) (mj_P nn xs Post) := by
  refine mj_r_iload d_Mo_follow_22 rfl ?_
  refine mj_r_aload_n d_Mo_follow_24 rfl ?_
  refine mj_q_geti d_Mo_follow_25 f_21_2 (.inl mw_710) rfl hn ?_
  obtain ⟨q1, h⟩ := h
  obtain ⟨q2, h⟩ := h
  refine mj_s_icmp_ge (tgt := 67) d_Mo_follow_28 (by decide) q1 q2 (fun q3 => ?_) (fun q3 => ?_)
  · have h := h.1 q3
    refine mj_r_iload d_Mo_follow_31 rfl ?_
    refine mj_r_aload_n d_Mo_follow_33 rfl ?_
    refine mj_q_getr d_Mo_follow_34 f_21_3 (.inl mw_711) rfl hn ?_
    refine mj_r_iload d_Mo_follow_37 rfl ?_
    obtain ⟨q4, h⟩ := h
    obtain ⟨q5, h⟩ := h
    refine mj_q_iald d_Mo_follow_39 rfl rfl hn rfl q4 q5 ?_
    refine mj_r_iload d_Mo_follow_40 rfl ?_
    obtain ⟨q6, h⟩ := h
    obtain ⟨q7, h⟩ := h
    refine mj_s_icmp_ne (tgt := 57) d_Mo_follow_42 (by decide) q6 q7 (fun q8 => ?_) (fun q8 => ?_)
    · have h := h.1 q8
      refine mj_r_aload_n d_Mo_follow_45 rfl ?_
      refine mj_r_iload_n d_Mo_follow_46 rfl ?_
      refine mj_r_iload d_Mo_follow_47 rfl ?_
      refine mj_r_iconst (x := 0) d_Mo_follow_49 rfl ?_
      refine mj_r_iload_n d_Mo_follow_50 rfl ?_
      refine mj_q_V4i d_Mo_follow_51 h_Mo_add (.inl mw_697) mw_699 mw_28 rfl rfl rfl hn rfl rfl (mj_wk h (fun v w9 h => ?_))
      obtain ⟨x10, rfl, h⟩ := h
      refine ⟨x10, rfl, ?_⟩
      refine mj_r_goto (tgt := 58) d_Mo_follow_54 (by decide) ?_
      refine mj_r_iadd d_Mo_follow_58 ?_
      refine mj_e_istore (lv' := [some (mj_R 21), some (.inl l1), some (.inl l2), some (.inl l3), some (.inl l4), some (.inl l5), some (.inl (l6 + x10)), some (.inl l7), none]) d_Mo_follow_59 rfl rfl ?_
      refine mj_e_iinc (lv' := [some (mj_R 21), some (.inl l1), some (.inl l2), some (.inl l3), some (.inl l4), some (.inl l5), some (.inl (l6 + x10)), some (.inl (l7 + 1)), none]) d_Mo_follow_61 rfl rfl ?_
      refine mj_r_goto (tgt := 22) d_Mo_follow_64 (by decide) ?_
      exact h
    · have h := h.2 q8
      refine mj_r_iconst (x := 0) d_Mo_follow_57 rfl ?_
      refine mj_r_iadd d_Mo_follow_58 ?_
      refine mj_e_istore (lv' := [some (mj_R 21), some (.inl l1), some (.inl l2), some (.inl l3), some (.inl l4), some (.inl l5), some (.inl (l6 + 0)), some (.inl l7), none]) d_Mo_follow_59 rfl rfl ?_
      refine mj_e_iinc (lv' := [some (mj_R 21), some (.inl l1), some (.inl l2), some (.inl l3), some (.inl l4), some (.inl l5), some (.inl (l6 + 0)), some (.inl (l7 + 1)), none]) d_Mo_follow_61 rfl rfl ?_
      refine mj_r_goto (tgt := 22) d_Mo_follow_64 (by decide) ?_
      exact h
  · have h := h.2 q3
    refine mj_r_iload d_Mo_follow_67 rfl ?_
    obtain ⟨q11, h⟩ := h
    refine mj_s_if_ge (tgt := 76) d_Mo_follow_69 (by decide) q11 (fun q12 => ?_) (fun q12 => ?_)
    · have h := h.1 q12
      refine mj_r_iload_n d_Mo_follow_72 rfl ?_
      obtain ⟨q13, h⟩ := h
      refine mj_s_if_ge (tgt := 79) d_Mo_follow_73 (by decide) q13 (fun q14 => ?_) (fun q14 => ?_)
      · have h := h.1 q14
        refine mj_r_iload d_Mo_follow_76 rfl ?_
        exact mj_r_iret d_Mo_follow_78 rfl (mj_q_ret h)
      · have h := h.2 q14
        refine mj_r_aload_n d_Mo_follow_79 rfl ?_
        refine mj_q_geti d_Mo_follow_80 f_21_0 (.inl mw_708) rfl hn ?_
        obtain ⟨q15, h⟩ := h
        refine mj_s_if_eq (tgt := 107) d_Mo_follow_83 (by decide) q15 (fun q16 => ?_) (fun q16 => ?_)
        · have h := h.1 q16
          refine mj_r_iconst (x := (-1)) d_Mo_follow_107 rfl ?_
          refine mj_e_istore (lv' := [some (mj_R 21), some (.inl l1), some (.inl l2), some (.inl l3), some (.inl l4), some (.inl l5), some (.inl l6), some (.inl ((-1))), none]) d_Mo_follow_108 rfl rfl ?_
          refine mj_r_iload d_Mo_follow_110 rfl ?_
          refine mj_s_if_lt (tgt := 144) d_Mo_follow_112 (by decide) (mj_ik (by decide)) (fun q17 => ?_) (fun q17 => absurd (by decide) q17)
          refine mj_r_iconst (x := 0) d_Mo_follow_144 rfl ?_
          refine mj_e_istore (lv' := [some (mj_R 21), some (.inl l1), some (.inl l2), some (.inl l3), some (.inl l4), some (.inl l5), some (.inl l6), some (.inl ((-1))), some (.inl 0)]) d_Mo_follow_145 rfl rfl ?_
          exact h
        · have h := h.2 q16
          refine mj_r_iload d_Mo_follow_86 rfl ?_
          refine mj_r_iload_n d_Mo_follow_88 rfl ?_
          obtain ⟨q18, h⟩ := h
          obtain ⟨q19, h⟩ := h
          refine mj_s_icmp_ge (tgt := 107) d_Mo_follow_89 (by decide) q18 q19 (fun q20 => ?_) (fun q20 => ?_)
          · have h := h.1 q20
            refine mj_r_aload_n d_Mo_follow_92 rfl ?_
            refine mj_r_iload d_Mo_follow_93 rfl ?_
            refine mj_r_aload_n d_Mo_follow_95 rfl ?_
            refine mj_q_getr d_Mo_follow_96 f_21_3 (.inl mw_711) rfl hn ?_
            refine mj_r_iload_n d_Mo_follow_99 rfl ?_
            obtain ⟨q21, h⟩ := h
            obtain ⟨q22, h⟩ := h
            refine mj_q_iald d_Mo_follow_100 rfl rfl hn rfl q21 q22 ?_
            refine mj_q_V2i d_Mo_follow_101 h_Mo_leapOf (.inl mw_704) mw_706 mw_29 rfl rfl rfl hn rfl rfl (mj_wk h (fun v w23 h => ?_))
            obtain ⟨x24, rfl, h⟩ := h
            refine ⟨x24, rfl, ?_⟩
            refine mj_r_goto (tgt := 108) d_Mo_follow_104 (by decide) ?_
            refine mj_e_istore (lv' := [some (mj_R 21), some (.inl l1), some (.inl l2), some (.inl l3), some (.inl l4), some (.inl l5), some (.inl l6), some (.inl x24), none]) d_Mo_follow_108 rfl rfl ?_
            refine mj_r_iload d_Mo_follow_110 rfl ?_
            obtain ⟨q25, h⟩ := h
            refine mj_s_if_lt (tgt := 144) d_Mo_follow_112 (by decide) q25 (fun q26 => ?_) (fun q26 => ?_)
            · have h := h.1 q26
              refine mj_r_iconst (x := 0) d_Mo_follow_144 rfl ?_
              refine mj_e_istore (lv' := [some (mj_R 21), some (.inl l1), some (.inl l2), some (.inl l3), some (.inl l4), some (.inl l5), some (.inl l6), some (.inl x24), some (.inl 0)]) d_Mo_follow_145 rfl rfl ?_
              exact h
            · have h := h.2 q26
              refine mj_r_iload d_Mo_follow_115 rfl ?_
              refine mj_r_aload_n d_Mo_follow_117 rfl ?_
              refine mj_r_iload_n d_Mo_follow_118 rfl ?_
              refine mj_r_iload d_Mo_follow_119 rfl ?_
              refine mj_r_bipush (x := 52) d_Mo_follow_121 (by decide) ?_
              obtain ⟨q27, h⟩ := h
              refine mj_r_idiv d_Mo_follow_123 q25 (mj_ik (by decide)) q27 (by decide) ?_
              refine mj_r_iconst (x := 1) d_Mo_follow_124 rfl ?_
              refine mj_r_isub d_Mo_follow_125 ?_
              refine mj_r_iload d_Mo_follow_126 rfl ?_
              refine mj_r_bipush (x := 52) d_Mo_follow_128 (by decide) ?_
              refine mj_r_irem d_Mo_follow_130 q25 (mj_ik (by decide)) q27 (by decide) ?_
              refine mj_r_bipush (x := 13) d_Mo_follow_131 (by decide) ?_
              obtain ⟨q28, h⟩ := h
              obtain ⟨q29, h⟩ := h
              refine mj_r_idiv d_Mo_follow_133 q28 (mj_ik (by decide)) q29 (by decide) ?_
              refine mj_r_iload d_Mo_follow_134 rfl ?_
              refine mj_r_bipush (x := 13) d_Mo_follow_136 (by decide) ?_
              refine mj_r_irem d_Mo_follow_138 q25 (mj_ik (by decide)) q27 (by decide) ?_
              refine mj_q_V4i d_Mo_follow_139 h_Mo_add (.inl mw_697) mw_699 mw_28 rfl rfl rfl hn rfl rfl (mj_wk h (fun v w30 h => ?_))
              obtain ⟨x31, rfl, h⟩ := h
              refine ⟨x31, rfl, ?_⟩
              refine mj_r_iadd d_Mo_follow_142 ?_
              exact mj_r_iret d_Mo_follow_143 rfl (mj_q_ret h)
          · have h := h.2 q20
            refine mj_r_iconst (x := (-1)) d_Mo_follow_107 rfl ?_
            refine mj_e_istore (lv' := [some (mj_R 21), some (.inl l1), some (.inl l2), some (.inl l3), some (.inl l4), some (.inl l5), some (.inl l6), some (.inl ((-1))), none]) d_Mo_follow_108 rfl rfl ?_
            refine mj_r_iload d_Mo_follow_110 rfl ?_
            refine mj_s_if_lt (tgt := 144) d_Mo_follow_112 (by decide) (mj_ik (by decide)) (fun q32 => ?_) (fun q32 => absurd (by decide) q32)
            refine mj_r_iconst (x := 0) d_Mo_follow_144 rfl ?_
            refine mj_e_istore (lv' := [some (mj_R 21), some (.inl l1), some (.inl l2), some (.inl l3), some (.inl l4), some (.inl l5), some (.inl l6), some (.inl ((-1))), some (.inl 0)]) d_Mo_follow_145 rfl rfl ?_
            exact h
    · have h := h.2 q12
      refine mj_r_iload d_Mo_follow_76 rfl ?_
      exact mj_r_iret d_Mo_follow_78 rfl (mj_q_ret h)
theorem v_Mo_follow_147 {g : mj_G} {nn d : Nat} {xs : mj_M} {Post : Option mj_V → mj_w → Prop} (hn : 33 ≤ nn) {w : mj_w} {l1 l2 l3 l4 l5 l6 l7 l8 : Int}
    (h : mj_i l8 ∧ (l8 < 572 → (0 ≤ ((572 * l4) + l8) ∧ ((572 * l4) + l8) < 7436 ∧ mj_i (w 26 ((572 * l4) + l8) 0) ∧ ((w 26 ((572 * l4) + l8) 0) = 0 → (mj_J g y_Mo_follow (d + 1) 0 0 (147, [some (mj_R 21), some (.inl l1), some (.inl l2), some (.inl l3), some (.inl l4), some (.inl l5), some (.inl l6), some (.inl l7), some (.inl (l8 + 1))], [], mj_mem nn xs w) (mj_P nn xs Post))) ∧ (¬ (w 26 ((572 * l4) + l8) 0) = 0 → (0 ≤ l8 ∧ mj_i (l8 % 52) ∧ 0 ≤ (l8 % 52) ∧ mj_J g y_Mo_behind d 0 0 (0, [some (mj_R 21), some (.inl ((l8 / 52) - 1)), some (.inl ((l8 % 52) / 13))], [], mj_mem nn xs w) (mj_P nn xs (fun v w10 => ∃ x11 : Int, v = some (.inl x11) ∧ (0 ≤ l2 ∧ l2 < 10 ∧ mj_i x11 ∧ mj_i (w10 22 l2 0) ∧ (x11 = (w10 22 l2 0) → (mj_J g y_Mo_add d 0 0 (0, [some (mj_R 21), some (.inl l1), some (.inl ((l8 / 52) - 1)), some (.inl (((l8 % 52) / 13) + 1)), some (.inl (l8 % 13)), none], [], mj_mem nn xs w10) (mj_P nn xs (fun v w17 => ∃ x18 : Int, v = some (.inl x18) ∧ (mj_J g y_Mo_follow (d + 1) 0 0 (147, [some (mj_R 21), some (.inl l1), some (.inl l2), some (.inl l3), some (.inl l4), some (.inl l5), some (.inl (l6 + x18)), some (.inl l7), some (.inl (l8 + 1))], [], mj_mem nn xs w17) (mj_P nn xs Post)))))) ∧ (¬ x11 = (w10 22 l2 0) → (mj_J g y_Mo_follow (d + 1) 0 0 (147, [some (mj_R 21), some (.inl l1), some (.inl l2), some (.inl l3), some (.inl l4), some (.inl l5), some (.inl l6), some (.inl l7), some (.inl (l8 + 1))], [], mj_mem nn xs w10) (mj_P nn xs Post)))))))))) ∧ (¬ l8 < 572 → (Post (some (.inl l6)) w))) :
    mj_J g y_Mo_follow (d + 1) 0 0 (147, [some (mj_R 21), some (.inl l1), some (.inl l2), some (.inl l3), some (.inl l4), some (.inl l5), some (.inl l6), some (.inl l7), some (.inl l8)], [], mj_mem nn xs w) (mj_P nn xs Post) := by
  refine mj_r_iload d_Mo_follow_147 rfl ?_
  refine mj_r_sipush (x := 572) d_Mo_follow_149 (by decide) ?_
  obtain ⟨q1, h⟩ := h
  refine mj_s_icmp_ge (tgt := 238) d_Mo_follow_152 (by decide) q1 (mj_ik (by decide)) (fun q2 => ?_) (fun q2 => ?_)
  · have h := h.1 q2
    refine mj_r_aload_n d_Mo_follow_155 rfl ?_
    refine mj_q_getr d_Mo_follow_156 f_21_8 (.inl mw_716) rfl hn ?_
    refine mj_r_sipush (x := 572) d_Mo_follow_159 (by decide) ?_
    refine mj_r_iload d_Mo_follow_162 rfl ?_
    refine mj_r_imul d_Mo_follow_164 ?_
    refine mj_r_iload d_Mo_follow_165 rfl ?_
    refine mj_r_iadd d_Mo_follow_167 ?_
    obtain ⟨q3, h⟩ := h
    obtain ⟨q4, h⟩ := h
    refine mj_q_zald d_Mo_follow_168 rfl rfl hn rfl q3 q4 ?_
    obtain ⟨q5, h⟩ := h
    refine mj_s_if_eq (tgt := 232) d_Mo_follow_169 (by decide) q5 (fun q6 => ?_) (fun q6 => ?_)
    · have h := h.1 q6
      refine mj_e_iinc (lv' := [some (mj_R 21), some (.inl l1), some (.inl l2), some (.inl l3), some (.inl l4), some (.inl l5), some (.inl l6), some (.inl l7), some (.inl (l8 + 1))]) d_Mo_follow_232 rfl rfl ?_
      refine mj_r_goto (tgt := 147) d_Mo_follow_235 (by decide) ?_
      exact h
    · have h := h.2 q6
      refine mj_r_aload_n d_Mo_follow_172 rfl ?_
      refine mj_r_iload d_Mo_follow_173 rfl ?_
      refine mj_r_bipush (x := 52) d_Mo_follow_175 (by decide) ?_
      obtain ⟨q7, h⟩ := h
      refine mj_r_idiv d_Mo_follow_177 q1 (mj_ik (by decide)) q7 (by decide) ?_
      refine mj_r_iconst (x := 1) d_Mo_follow_178 rfl ?_
      refine mj_r_isub d_Mo_follow_179 ?_
      refine mj_r_iload d_Mo_follow_180 rfl ?_
      refine mj_r_bipush (x := 52) d_Mo_follow_182 (by decide) ?_
      refine mj_r_irem d_Mo_follow_184 q1 (mj_ik (by decide)) q7 (by decide) ?_
      refine mj_r_bipush (x := 13) d_Mo_follow_185 (by decide) ?_
      obtain ⟨q8, h⟩ := h
      obtain ⟨q9, h⟩ := h
      refine mj_r_idiv d_Mo_follow_187 q8 (mj_ik (by decide)) q9 (by decide) ?_
      refine mj_q_V2i d_Mo_follow_188 h_Mo_behind (.inl mw_678) mw_680 mw_24 rfl rfl rfl hn rfl rfl (mj_wk h (fun v w10 h => ?_))
      obtain ⟨x11, rfl, h⟩ := h
      refine ⟨x11, rfl, ?_⟩
      refine mj_r_aload_n d_Mo_follow_191 rfl ?_
      refine mj_q_getr d_Mo_follow_192 f_21_3 (.inl mw_711) rfl hn ?_
      refine mj_r_iload_n d_Mo_follow_195 rfl ?_
      obtain ⟨q12, h⟩ := h
      obtain ⟨q13, h⟩ := h
      refine mj_q_iald d_Mo_follow_196 rfl rfl hn rfl q12 q13 ?_
      obtain ⟨q14, h⟩ := h
      obtain ⟨q15, h⟩ := h
      refine mj_s_icmp_ne (tgt := 232) d_Mo_follow_197 (by decide) q14 q15 (fun q16 => ?_) (fun q16 => ?_)
      · have h := h.1 q16
        refine mj_r_iload d_Mo_follow_200 rfl ?_
        refine mj_r_aload_n d_Mo_follow_202 rfl ?_
        refine mj_r_iload_n d_Mo_follow_203 rfl ?_
        refine mj_r_iload d_Mo_follow_204 rfl ?_
        refine mj_r_bipush (x := 52) d_Mo_follow_206 (by decide) ?_
        refine mj_r_idiv d_Mo_follow_208 q1 (mj_ik (by decide)) q7 (by decide) ?_
        refine mj_r_iconst (x := 1) d_Mo_follow_209 rfl ?_
        refine mj_r_isub d_Mo_follow_210 ?_
        refine mj_r_iload d_Mo_follow_211 rfl ?_
        refine mj_r_bipush (x := 52) d_Mo_follow_213 (by decide) ?_
        refine mj_r_irem d_Mo_follow_215 q1 (mj_ik (by decide)) q7 (by decide) ?_
        refine mj_r_bipush (x := 13) d_Mo_follow_216 (by decide) ?_
        refine mj_r_idiv d_Mo_follow_218 q8 (mj_ik (by decide)) q9 (by decide) ?_
        refine mj_r_iconst (x := 1) d_Mo_follow_219 rfl ?_
        refine mj_r_iadd d_Mo_follow_220 ?_
        refine mj_r_iload d_Mo_follow_221 rfl ?_
        refine mj_r_bipush (x := 13) d_Mo_follow_223 (by decide) ?_
        refine mj_r_irem d_Mo_follow_225 q1 (mj_ik (by decide)) q7 (by decide) ?_
        refine mj_q_V4i d_Mo_follow_226 h_Mo_add (.inl mw_697) mw_699 mw_28 rfl rfl rfl hn rfl rfl (mj_wk h (fun v w17 h => ?_))
        obtain ⟨x18, rfl, h⟩ := h
        refine ⟨x18, rfl, ?_⟩
        refine mj_r_iadd d_Mo_follow_229 ?_
        refine mj_e_istore (lv' := [some (mj_R 21), some (.inl l1), some (.inl l2), some (.inl l3), some (.inl l4), some (.inl l5), some (.inl (l6 + x18)), some (.inl l7), some (.inl l8)]) d_Mo_follow_230 rfl rfl ?_
        refine mj_e_iinc (lv' := [some (mj_R 21), some (.inl l1), some (.inl l2), some (.inl l3), some (.inl l4), some (.inl l5), some (.inl (l6 + x18)), some (.inl l7), some (.inl (l8 + 1))]) d_Mo_follow_232 rfl rfl ?_
        refine mj_r_goto (tgt := 147) d_Mo_follow_235 (by decide) ?_
        exact h
      · have h := h.2 q16
        refine mj_e_iinc (lv' := [some (mj_R 21), some (.inl l1), some (.inl l2), some (.inl l3), some (.inl l4), some (.inl l5), some (.inl l6), some (.inl l7), some (.inl (l8 + 1))]) d_Mo_follow_232 rfl rfl ?_
        refine mj_r_goto (tgt := 147) d_Mo_follow_235 (by decide) ?_
        exact h
  · have h := h.2 q2
    refine mj_r_iload d_Mo_follow_238 rfl ?_
    exact mj_r_iret d_Mo_follow_240 rfl (mj_q_ret h)
theorem v_Mo_isNonterminal_0 {g : mj_G} {nn d : Nat} {xs : mj_M} {Post : Option mj_V → mj_w → Prop} (hn : 33 ≤ nn) {w : mj_w} {l0 : Int}
    (h : mj_i l0 ∧ (l0 < 0 → (Post (some (.inl 0)) w)) ∧ (¬ l0 < 0 → ((4 < l0 → (Post (some (.inl 0)) w)) ∧ (¬ 4 < l0 → (Post (some (.inl 1)) w))))) :
    mj_J g y_Mo_isNonterminal d 0 0 (0, [some (.inl l0)], [], mj_mem nn xs w) (mj_P nn xs Post) := by
  refine mj_r_iload_n d_Mo_isNonterminal_0 rfl ?_
  obtain ⟨q1, h⟩ := h
  refine mj_s_if_lt (tgt := 13) d_Mo_isNonterminal_1 (by decide) q1 (fun q2 => ?_) (fun q2 => ?_)
  · have h := h.1 q2
    refine mj_r_iconst (x := 0) d_Mo_isNonterminal_13 rfl ?_
    exact mj_r_zret d_Mo_isNonterminal_14 rfl (by decide) (mj_q_ret h)
  · have h := h.2 q2
    refine mj_r_iload_n d_Mo_isNonterminal_4 rfl ?_
    refine mj_r_iconst (x := 4) d_Mo_isNonterminal_5 rfl ?_
    refine mj_s_icmp_gt (tgt := 13) d_Mo_isNonterminal_6 (by decide) q1 (mj_ik (by decide)) (fun q3 => ?_) (fun q3 => ?_)
    · have h := h.1 q3
      refine mj_r_iconst (x := 0) d_Mo_isNonterminal_13 rfl ?_
      exact mj_r_zret d_Mo_isNonterminal_14 rfl (by decide) (mj_q_ret h)
    · have h := h.2 q3
      refine mj_r_iconst (x := 1) d_Mo_isNonterminal_9 rfl ?_
      refine mj_r_goto (tgt := 14) d_Mo_isNonterminal_10 (by decide) ?_
      exact mj_r_zret d_Mo_isNonterminal_14 rfl (by decide) (mj_q_ret h)
theorem v_Mo_add_0 {g : mj_G} {nn d : Nat} {xs : mj_M} {Post : Option mj_V → mj_w → Prop} (hn : 33 ≤ nn) {w : mj_w} {l1 l2 l3 l4 : Int}
    (h : mj_J g y_Mo_place d 0 0 (0, [some (.inl l1), some (.inl l2), some (.inl l3), some (.inl l4)], [], mj_mem nn xs w) (mj_P nn xs (fun v w1 => ∃ x2 : Int, v = some (.inl x2) ∧ (0 ≤ x2 ∧ x2 < 7436 ∧ mj_i (w1 26 x2 0) ∧ ((w1 26 x2 0) = 0 → (∀ w7, w7 = mj_wu w1 26 x2 0 1 → Post (some (.inl 1)) w7)) ∧ (¬ (w1 26 x2 0) = 0 → (Post (some (.inl 0)) w1)))))) :
    mj_J g y_Mo_add (d + 1) 0 0 (0, [some (mj_R 21), some (.inl l1), some (.inl l2), some (.inl l3), some (.inl l4), none], [], mj_mem nn xs w) (mj_P nn xs Post) := by
  refine mj_r_iload_n d_Mo_add_0 rfl ?_
  refine mj_r_iload_n d_Mo_add_1 rfl ?_
  refine mj_r_iload_n d_Mo_add_2 rfl ?_
  refine mj_r_iload d_Mo_add_3 rfl ?_
  refine mj_q_S4i d_Mo_add_5 h_Mo_place (.inl mw_701) mw_702 rfl rfl (mj_wk h (fun v w1 h => ?_))
  obtain ⟨x2, rfl, h⟩ := h
  refine ⟨x2, rfl, ?_⟩
  refine mj_e_istore (lv' := [some (mj_R 21), some (.inl l1), some (.inl l2), some (.inl l3), some (.inl l4), some (.inl x2)]) d_Mo_add_8 rfl rfl ?_
  refine mj_r_aload_n d_Mo_add_10 rfl ?_
  refine mj_q_getr d_Mo_add_11 f_21_8 (.inl mw_716) rfl hn ?_
  refine mj_r_iload d_Mo_add_14 rfl ?_
  obtain ⟨q3, h⟩ := h
  obtain ⟨q4, h⟩ := h
  refine mj_q_zald d_Mo_add_16 rfl rfl hn rfl q3 q4 ?_
  obtain ⟨q5, h⟩ := h
  refine mj_s_if_eq (tgt := 22) d_Mo_add_17 (by decide) q5 (fun q6 => ?_) (fun q6 => ?_)
  · have h := h.1 q6
    refine mj_r_aload_n d_Mo_add_22 rfl ?_
    refine mj_q_getr d_Mo_add_23 f_21_8 (.inl mw_716) rfl hn ?_
    refine mj_r_iload d_Mo_add_26 rfl ?_
    refine mj_r_iconst (x := 1) d_Mo_add_28 rfl ?_
    refine mj_q_zast d_Mo_add_29 rfl rfl hn rfl q3 q4 (by decide) (fun w7 e8 => ?_)
    have h := h w7 e8
    refine mj_r_iconst (x := 1) d_Mo_add_30 rfl ?_
    exact mj_r_iret d_Mo_add_31 rfl (mj_q_ret h)
  · have h := h.2 q6
    refine mj_r_iconst (x := 0) d_Mo_add_20 rfl ?_
    exact mj_r_iret d_Mo_add_21 rfl (mj_q_ret h)
theorem v_Mo_place_0 {g : mj_G} {nn d : Nat} {xs : mj_M} {Post : Option mj_V → mj_w → Prop} (hn : 33 ≤ nn) {w : mj_w} {l0 l1 l2 l3 : Int}
    (h : Post (some (.inl ((((572 * l0) + (52 * (l1 + 1))) + (13 * l2)) + l3))) w) :
    mj_J g y_Mo_place d 0 0 (0, [some (.inl l0), some (.inl l1), some (.inl l2), some (.inl l3)], [], mj_mem nn xs w) (mj_P nn xs Post) := by
  refine mj_r_sipush (x := 572) d_Mo_place_0 (by decide) ?_
  refine mj_r_iload_n d_Mo_place_3 rfl ?_
  refine mj_r_imul d_Mo_place_4 ?_
  refine mj_r_bipush (x := 52) d_Mo_place_5 (by decide) ?_
  refine mj_r_iload_n d_Mo_place_7 rfl ?_
  refine mj_r_iconst (x := 1) d_Mo_place_8 rfl ?_
  refine mj_r_iadd d_Mo_place_9 ?_
  refine mj_r_imul d_Mo_place_10 ?_
  refine mj_r_iadd d_Mo_place_11 ?_
  refine mj_r_bipush (x := 13) d_Mo_place_12 (by decide) ?_
  refine mj_r_iload_n d_Mo_place_14 rfl ?_
  refine mj_r_imul d_Mo_place_15 ?_
  refine mj_r_iadd d_Mo_place_16 ?_
  refine mj_r_iload_n d_Mo_place_17 rfl ?_
  refine mj_r_iadd d_Mo_place_18 ?_
  exact mj_r_iret d_Mo_place_19 rfl (mj_q_ret h)
theorem v_Mo_leapOf_0 {g : mj_G} {nn d : Nat} {xs : mj_M} {Post : Option mj_V → mj_w → Prop} (hn : 33 ≤ nn) {w : mj_w} {l1 l2 : Int}
    (h : mj_J g y_Mo_leapOf (d + 1) 0 0 (8, [some (mj_R 21), some (.inl l1), some (.inl l2), some (.inl ((-1))), some (.inl l1), some (.inl l2), none, none, none, none, none, none], [], mj_mem nn xs w) (mj_P nn xs Post)) :
    mj_J g y_Mo_leapOf (d + 1) 0 0 (0, [some (mj_R 21), some (.inl l1), some (.inl l2), none, none, none, none, none, none, none, none, none], [], mj_mem nn xs w) (mj_P nn xs Post) := by
  refine mj_r_iconst (x := (-1)) d_Mo_leapOf_0 rfl ?_
  refine mj_e_istore_n (lv' := [some (mj_R 21), some (.inl l1), some (.inl l2), some (.inl ((-1))), none, none, none, none, none, none, none, none]) d_Mo_leapOf_1 rfl rfl ?_
  refine mj_r_iload_n d_Mo_leapOf_2 rfl ?_
  refine mj_e_istore (lv' := [some (mj_R 21), some (.inl l1), some (.inl l2), some (.inl ((-1))), some (.inl l1), none, none, none, none, none, none, none]) d_Mo_leapOf_3 rfl rfl ?_
  refine mj_r_iload_n d_Mo_leapOf_5 rfl ?_
  refine mj_e_istore (lv' := [some (mj_R 21), some (.inl l1), some (.inl l2), some (.inl ((-1))), some (.inl l1), some (.inl l2), none, none, none, none, none, none]) d_Mo_leapOf_6 rfl rfl ?_
  exact h
theorem v_Mo_leapOf_8 {g : mj_G} {nn d : Nat} {xs : mj_M} {Post : Option mj_V → mj_w → Prop} (hn : 33 ≤ nn) {w : mj_w} {l1 l2 l3 l4 l5 : Int}
    (h : mj_i l4 ∧ (l4 < 0 → (Post (some (.inl l3)) w)) ∧ (¬ l4 < 0 → (mj_J g y_Mo_leapOf (d + 1) 0 0 (22, [some (mj_R 21), some (.inl l1), some (.inl l2), some (.inl l3), some (.inl l4), some (.inl l5), some (.inl 0), some (.inl 0), some (.inl 0), none, none, none], [], mj_mem nn xs w) (mj_P nn xs Post)))) :
    mj_J g y_Mo_leapOf (d + 1) 0 0 (8, [some (mj_R 21), some (.inl l1), some (.inl l2), some (.inl l3), some (.inl l4), some (.inl l5), none, none, none, none, none, none], [], mj_mem nn xs w) (mj_P nn xs Post) := by
  refine mj_r_iload d_Mo_leapOf_8 rfl ?_
  obtain ⟨q1, h⟩ := h
  refine mj_s_if_lt (tgt := 191) d_Mo_leapOf_10 (by decide) q1 (fun q2 => ?_) (fun q2 => ?_)
  · have h := h.1 q2
    refine mj_r_iload_n d_Mo_leapOf_191 rfl ?_
    exact mj_r_iret d_Mo_leapOf_192 rfl (mj_q_ret h)
  · have h := h.2 q2
    refine mj_r_iconst (x := 0) d_Mo_leapOf_13 rfl ?_
    refine mj_e_istore (lv' := [some (mj_R 21), some (.inl l1), some (.inl l2), some (.inl l3), some (.inl l4), some (.inl l5), some (.inl 0), none, none, none, none, none]) d_Mo_leapOf_14 rfl rfl ?_
    refine mj_r_iconst (x := 0) d_Mo_leapOf_16 rfl ?_
    refine mj_e_istore (lv' := [some (mj_R 21), some (.inl l1), some (.inl l2), some (.inl l3), some (.inl l4), some (.inl l5), some (.inl 0), some (.inl 0), none, none, none, none]) d_Mo_leapOf_17 rfl rfl ?_
    refine mj_r_iconst (x := 0) d_Mo_leapOf_19 rfl ?_
    refine mj_e_istore (lv' := [some (mj_R 21), some (.inl l1), some (.inl l2), some (.inl l3), some (.inl l4), some (.inl l5), some (.inl 0), some (.inl 0), some (.inl 0), none, none, none]) d_Mo_leapOf_20 rfl rfl ?_
    exact h
theorem v_Mo_leapOf_22 {g : mj_G} {nn d : Nat} {xs : mj_M} {Post : Option mj_V → mj_w → Prop} (hn : 33 ≤ nn) {w : mj_w} {l1 l2 l3 l4 l5 l6 l7 l8 : Int}
    (h : mj_i l8 ∧ (l8 < 572 → (0 ≤ ((572 * l4) + l8) ∧ ((572 * l4) + l8) < 7436 ∧ mj_i (w 26 ((572 * l4) + l8) 0) ∧ ((w 26 ((572 * l4) + l8) 0) = 0 → (mj_J g y_Mo_leapOf (d + 1) 0 0 (22, [some (mj_R 21), some (.inl l1), some (.inl l2), some (.inl l3), some (.inl l4), some (.inl l5), some (.inl l6), some (.inl l7), some (.inl (l8 + 1)), none, none, none], [], mj_mem nn xs w) (mj_P nn xs Post))) ∧ (¬ (w 26 ((572 * l4) + l8) 0) = 0 → (0 ≤ l8 ∧ mj_i (l8 % 52) ∧ 0 ≤ (l8 % 52) ∧ mj_J g y_Mo_behind d 0 0 (0, [some (mj_R 21), some (.inl ((l8 / 52) - 1)), some (.inl ((l8 % 52) / 13))], [], mj_mem nn xs w) (mj_P nn xs (fun v w10 => ∃ x11 : Int, v = some (.inl x11) ∧ (mj_i x11 ∧ mj_i l5 ∧ (x11 = l5 → (mj_J g y_Mo_leapOf (d + 1) 0 0 (22, [some (mj_R 21), some (.inl l1), some (.inl l2), some (.inl l3), some (.inl l4), some (.inl l5), some (.inl (l6 + 1)), some (.inl l8), some (.inl (l8 + 1)), none, none, none], [], mj_mem nn xs w10) (mj_P nn xs Post))) ∧ (¬ x11 = l5 → (mj_J g y_Mo_leapOf (d + 1) 0 0 (22, [some (mj_R 21), some (.inl l1), some (.inl l2), some (.inl l3), some (.inl l4), some (.inl l5), some (.inl l6), some (.inl l7), some (.inl (l8 + 1)), none, none, none], [], mj_mem nn xs w10) (mj_P nn xs Post)))))))))) ∧ (¬ l8 < 572 → (mj_i l7 ∧ 0 ≤ l7 ∧ mj_i (l7 % 52) ∧ 0 ≤ (l7 % 52) ∧ mj_i l6 ∧ (l6 = 1 → (mj_J g y_Mo_lengthOf d 0 0 (0, [some (mj_R 21), some (.inl ((l7 / 52) - 1))], [], mj_mem nn xs w) (mj_P nn xs (fun v w21 => ∃ x22 : Int, v = some (.inl x22) ∧ (mj_i (((l7 % 52) / 13) + 1) ∧ mj_i x22 ∧ ((((l7 % 52) / 13) + 1) = x22 → (mj_i (l7 % 13) ∧ mj_i l4 ∧ ((l7 % 13) < l4 → (mj_i ((l7 / 52) - 1) ∧ (((l7 / 52) - 1) < 0 → (mj_J g y_Mo_leapOf (d + 1) 0 0 (8, [some (mj_R 21), some (.inl l1), some (.inl l2), some (.inl (l7 + 13)), some (.inl ((-1))), some (.inl l5), none, none, none, none, none, none], [], mj_mem nn xs w21) (mj_P nn xs Post))) ∧ (¬ ((l7 / 52) - 1) < 0 → (0 ≤ ((l7 / 52) - 1) ∧ ((l7 / 52) - 1) < 10 ∧ mj_J g y_Mo_leapOf (d + 1) 0 0 (8, [some (mj_R 21), some (.inl l1), some (.inl l2), some (.inl (l7 + 13)), some (.inl (l7 % 13)), some (.inl (w21 22 ((l7 / 52) - 1) 0)), none, none, none, none, none, none], [], mj_mem nn xs w21) (mj_P nn xs Post))))) ∧ (¬ (l7 % 13) < l4 → (mj_J g y_Mo_leapOf (d + 1) 0 0 (8, [some (mj_R 21), some (.inl l1), some (.inl l2), some (.inl (l7 + 13)), some (.inl ((-1))), some (.inl l5), none, none, none, none, none, none], [], mj_mem nn xs w21) (mj_P nn xs Post))))) ∧ (¬ (((l7 % 52) / 13) + 1) = x22 → (Post (some (.inl l3)) w21))))))) ∧ (¬ l6 = 1 → (Post (some (.inl l3)) w))))) :
    mj_J g y_Mo_leapOf (d + 1) 0 0 (22, [some (mj_R 21), some (.inl l1), some (.inl l2), some (.inl l3), some (.inl l4), some (.inl l5), some (.inl l6), some (.inl l7), some (.inl l8), none, none, none], [], mj_mem nn xs w) (mj_P nn xs Post) := by
  refine mj_r_iload d_Mo_leapOf_22 rfl ?_
  refine mj_r_sipush (x := 572) d_Mo_leapOf_24 (by decide) ?_
  obtain ⟨q1, h⟩ := h
  refine mj_s_icmp_ge (tgt := 84) d_Mo_leapOf_27 (by decide) q1 (mj_ik (by decide)) (fun q2 => ?_) (fun q2 => ?_)
  · have h := h.1 q2
    refine mj_r_aload_n d_Mo_leapOf_30 rfl ?_
    refine mj_q_getr d_Mo_leapOf_31 f_21_8 (.inl mw_716) rfl hn ?_
    refine mj_r_sipush (x := 572) d_Mo_leapOf_34 (by decide) ?_
    refine mj_r_iload d_Mo_leapOf_37 rfl ?_
    refine mj_r_imul d_Mo_leapOf_39 ?_
    refine mj_r_iload d_Mo_leapOf_40 rfl ?_
    refine mj_r_iadd d_Mo_leapOf_42 ?_
    obtain ⟨q3, h⟩ := h
    obtain ⟨q4, h⟩ := h
    refine mj_q_zald d_Mo_leapOf_43 rfl rfl hn rfl q3 q4 ?_
    obtain ⟨q5, h⟩ := h
    refine mj_s_if_eq (tgt := 78) d_Mo_leapOf_44 (by decide) q5 (fun q6 => ?_) (fun q6 => ?_)
    · have h := h.1 q6
      refine mj_e_iinc (lv' := [some (mj_R 21), some (.inl l1), some (.inl l2), some (.inl l3), some (.inl l4), some (.inl l5), some (.inl l6), some (.inl l7), some (.inl (l8 + 1)), none, none, none]) d_Mo_leapOf_78 rfl rfl ?_
      refine mj_r_goto (tgt := 22) d_Mo_leapOf_81 (by decide) ?_
      exact h
    · have h := h.2 q6
      refine mj_r_aload_n d_Mo_leapOf_47 rfl ?_
      refine mj_r_iload d_Mo_leapOf_48 rfl ?_
      refine mj_r_bipush (x := 52) d_Mo_leapOf_50 (by decide) ?_
      obtain ⟨q7, h⟩ := h
      refine mj_r_idiv d_Mo_leapOf_52 q1 (mj_ik (by decide)) q7 (by decide) ?_
      refine mj_r_iconst (x := 1) d_Mo_leapOf_53 rfl ?_
      refine mj_r_isub d_Mo_leapOf_54 ?_
      refine mj_r_iload d_Mo_leapOf_55 rfl ?_
      refine mj_r_bipush (x := 52) d_Mo_leapOf_57 (by decide) ?_
      refine mj_r_irem d_Mo_leapOf_59 q1 (mj_ik (by decide)) q7 (by decide) ?_
      refine mj_r_bipush (x := 13) d_Mo_leapOf_60 (by decide) ?_
      obtain ⟨q8, h⟩ := h
      obtain ⟨q9, h⟩ := h
      refine mj_r_idiv d_Mo_leapOf_62 q8 (mj_ik (by decide)) q9 (by decide) ?_
      refine mj_q_V2i d_Mo_leapOf_63 h_Mo_behind (.inl mw_678) mw_680 mw_24 rfl rfl rfl hn rfl rfl (mj_wk h (fun v w10 h => ?_))
      obtain ⟨x11, rfl, h⟩ := h
      refine ⟨x11, rfl, ?_⟩
      refine mj_r_iload d_Mo_leapOf_66 rfl ?_
      obtain ⟨q12, h⟩ := h
      obtain ⟨q13, h⟩ := h
      refine mj_s_icmp_ne (tgt := 78) d_Mo_leapOf_68 (by decide) q12 q13 (fun q14 => ?_) (fun q14 => ?_)
      · have h := h.1 q14
        refine mj_e_iinc (lv' := [some (mj_R 21), some (.inl l1), some (.inl l2), some (.inl l3), some (.inl l4), some (.inl l5), some (.inl (l6 + 1)), some (.inl l7), some (.inl l8), none, none, none]) d_Mo_leapOf_71 rfl rfl ?_
        refine mj_r_iload d_Mo_leapOf_74 rfl ?_
        refine mj_e_istore (lv' := [some (mj_R 21), some (.inl l1), some (.inl l2), some (.inl l3), some (.inl l4), some (.inl l5), some (.inl (l6 + 1)), some (.inl l8), some (.inl l8), none, none, none]) d_Mo_leapOf_76 rfl rfl ?_
        refine mj_e_iinc (lv' := [some (mj_R 21), some (.inl l1), some (.inl l2), some (.inl l3), some (.inl l4), some (.inl l5), some (.inl (l6 + 1)), some (.inl l8), some (.inl (l8 + 1)), none, none, none]) d_Mo_leapOf_78 rfl rfl ?_
        refine mj_r_goto (tgt := 22) d_Mo_leapOf_81 (by decide) ?_
        exact h
      · have h := h.2 q14
        refine mj_e_iinc (lv' := [some (mj_R 21), some (.inl l1), some (.inl l2), some (.inl l3), some (.inl l4), some (.inl l5), some (.inl l6), some (.inl l7), some (.inl (l8 + 1)), none, none, none]) d_Mo_leapOf_78 rfl rfl ?_
        refine mj_r_goto (tgt := 22) d_Mo_leapOf_81 (by decide) ?_
        exact h
  · have h := h.2 q2
    refine mj_r_iload d_Mo_leapOf_84 rfl ?_
    refine mj_r_bipush (x := 52) d_Mo_leapOf_86 (by decide) ?_
    obtain ⟨q15, h⟩ := h
    obtain ⟨q16, h⟩ := h
    refine mj_r_idiv d_Mo_leapOf_88 q15 (mj_ik (by decide)) q16 (by decide) ?_
    refine mj_r_iconst (x := 1) d_Mo_leapOf_89 rfl ?_
    refine mj_r_isub d_Mo_leapOf_90 ?_
    refine mj_e_istore (lv' := [some (mj_R 21), some (.inl l1), some (.inl l2), some (.inl l3), some (.inl l4), some (.inl l5), some (.inl l6), some (.inl l7), some (.inl ((l7 / 52) - 1)), none, none, none]) d_Mo_leapOf_91 rfl rfl ?_
    refine mj_r_iload d_Mo_leapOf_93 rfl ?_
    refine mj_r_bipush (x := 52) d_Mo_leapOf_95 (by decide) ?_
    refine mj_r_irem d_Mo_leapOf_97 q15 (mj_ik (by decide)) q16 (by decide) ?_
    refine mj_r_bipush (x := 13) d_Mo_leapOf_98 (by decide) ?_
    obtain ⟨q17, h⟩ := h
    obtain ⟨q18, h⟩ := h
    refine mj_r_idiv d_Mo_leapOf_100 q17 (mj_ik (by decide)) q18 (by decide) ?_
    refine mj_e_istore (lv' := [some (mj_R 21), some (.inl l1), some (.inl l2), some (.inl l3), some (.inl l4), some (.inl l5), some (.inl l6), some (.inl l7), some (.inl ((l7 / 52) - 1)), some (.inl ((l7 % 52) / 13)), none, none]) d_Mo_leapOf_101 rfl rfl ?_
    refine mj_r_iload d_Mo_leapOf_103 rfl ?_
    refine mj_r_bipush (x := 13) d_Mo_leapOf_105 (by decide) ?_
    refine mj_r_irem d_Mo_leapOf_107 q15 (mj_ik (by decide)) q16 (by decide) ?_
    refine mj_e_istore (lv' := [some (mj_R 21), some (.inl l1), some (.inl l2), some (.inl l3), some (.inl l4), some (.inl l5), some (.inl l6), some (.inl l7), some (.inl ((l7 / 52) - 1)), some (.inl ((l7 % 52) / 13)), some (.inl (l7 % 13)), none]) d_Mo_leapOf_108 rfl rfl ?_
    refine mj_r_iload d_Mo_leapOf_110 rfl ?_
    refine mj_r_iconst (x := 1) d_Mo_leapOf_112 rfl ?_
    obtain ⟨q19, h⟩ := h
    refine mj_s_icmp_ne (tgt := 129) d_Mo_leapOf_113 (by decide) q19 (mj_ik (by decide)) (fun q20 => ?_) (fun q20 => ?_)
    · have h := h.1 q20
      refine mj_r_iload d_Mo_leapOf_116 rfl ?_
      refine mj_r_iconst (x := 1) d_Mo_leapOf_118 rfl ?_
      refine mj_r_iadd d_Mo_leapOf_119 ?_
      refine mj_r_aload_n d_Mo_leapOf_120 rfl ?_
      refine mj_r_iload d_Mo_leapOf_121 rfl ?_
      refine mj_q_V1i d_Mo_leapOf_123 h_Mo_lengthOf (.inl mw_682) mw_684 mw_25 rfl rfl rfl hn rfl rfl (mj_wk h (fun v w21 h => ?_))
      obtain ⟨x22, rfl, h⟩ := h
      refine ⟨x22, rfl, ?_⟩
      obtain ⟨q23, h⟩ := h
      obtain ⟨q24, h⟩ := h
      refine mj_s_icmp_eq (tgt := 131) d_Mo_leapOf_126 (by decide) q23 q24 (fun q25 => ?_) (fun q25 => ?_)
      · have h := h.1 q25
        refine mj_r_iload d_Mo_leapOf_131 rfl ?_
        refine mj_r_bipush (x := 13) d_Mo_leapOf_133 (by decide) ?_
        refine mj_r_iadd d_Mo_leapOf_135 ?_
        refine mj_e_istore_n (lv' := [some (mj_R 21), some (.inl l1), some (.inl l2), some (.inl (l7 + 13)), some (.inl l4), some (.inl l5), some (.inl l6), some (.inl l7), some (.inl ((l7 / 52) - 1)), some (.inl ((l7 % 52) / 13)), some (.inl (l7 % 13)), none]) d_Mo_leapOf_136 rfl rfl ?_
        refine mj_r_iload d_Mo_leapOf_137 rfl ?_
        refine mj_r_iload d_Mo_leapOf_139 rfl ?_
        obtain ⟨q26, h⟩ := h
        obtain ⟨q27, h⟩ := h
        refine mj_s_icmp_ge (tgt := 153) d_Mo_leapOf_141 (by decide) q26 q27 (fun q28 => ?_) (fun q28 => ?_)
        · have h := h.1 q28
          refine mj_r_iload d_Mo_leapOf_144 rfl ?_
          obtain ⟨q29, h⟩ := h
          refine mj_s_if_lt (tgt := 153) d_Mo_leapOf_146 (by decide) q29 (fun q30 => ?_) (fun q30 => ?_)
          · have h := h.1 q30
            refine mj_r_iconst (x := 0) d_Mo_leapOf_153 rfl ?_
            refine mj_e_istore (lv' := [some (mj_R 21), some (.inl l1), some (.inl l2), some (.inl (l7 + 13)), some (.inl l4), some (.inl l5), some (.inl l6), some (.inl l7), some (.inl ((l7 / 52) - 1)), some (.inl ((l7 % 52) / 13)), some (.inl (l7 % 13)), some (.inl 0)]) d_Mo_leapOf_154 rfl rfl ?_
            refine mj_r_iload d_Mo_leapOf_156 rfl ?_
            refine mj_s_if_eq (tgt := 171) d_Mo_leapOf_158 (by decide) (mj_ik (by decide)) (fun q31 => ?_) (fun q31 => absurd (by decide) q31)
            refine mj_r_iload d_Mo_leapOf_171 rfl ?_
            refine mj_e_istore (lv' := [some (mj_R 21), some (.inl l1), some (.inl l2), some (.inl (l7 + 13)), some (.inl l4), some (.inl l5), some (.inl l6), some (.inl l7), some (.inl ((l7 / 52) - 1)), some (.inl ((l7 % 52) / 13)), some (.inl (l7 % 13)), some (.inl 0)]) d_Mo_leapOf_173 rfl rfl ?_
            refine mj_r_iload d_Mo_leapOf_175 rfl ?_
            refine mj_s_if_eq (tgt := 185) d_Mo_leapOf_177 (by decide) (mj_ik (by decide)) (fun q32 => ?_) (fun q32 => absurd (by decide) q32)
            refine mj_r_iconst (x := (-1)) d_Mo_leapOf_185 rfl ?_
            refine mj_e_istore (lv' := [some (mj_R 21), some (.inl l1), some (.inl l2), some (.inl (l7 + 13)), some (.inl ((-1))), some (.inl l5), some (.inl l6), some (.inl l7), some (.inl ((l7 / 52) - 1)), some (.inl ((l7 % 52) / 13)), some (.inl (l7 % 13)), some (.inl 0)]) d_Mo_leapOf_186 rfl rfl ?_
            refine mj_r_goto (tgt := 8) d_Mo_leapOf_188 (by decide) ?_
            refine mj_r_sub (lv' := [some (mj_R 21), some (.inl l1), some (.inl l2), some (.inl (l7 + 13)), some (.inl ((-1))), some (.inl l5), none, none, none, none, none, none]) ⟨.inr rfl, .inr rfl, .inr rfl, .inr rfl, .inr rfl, .inr rfl, .inl rfl, .inl rfl, .inl rfl, .inl rfl, .inl rfl, .inl rfl, trivial⟩ ?_
            exact h
          · have h := h.2 q30
            refine mj_r_iconst (x := 1) d_Mo_leapOf_149 rfl ?_
            refine mj_r_goto (tgt := 154) d_Mo_leapOf_150 (by decide) ?_
            refine mj_e_istore (lv' := [some (mj_R 21), some (.inl l1), some (.inl l2), some (.inl (l7 + 13)), some (.inl l4), some (.inl l5), some (.inl l6), some (.inl l7), some (.inl ((l7 / 52) - 1)), some (.inl ((l7 % 52) / 13)), some (.inl (l7 % 13)), some (.inl 1)]) d_Mo_leapOf_154 rfl rfl ?_
            refine mj_r_iload d_Mo_leapOf_156 rfl ?_
            refine mj_s_if_eq (tgt := 171) d_Mo_leapOf_158 (by decide) (mj_ik (by decide)) (fun q33 => absurd q33 (by decide)) (fun q33 => ?_)
            refine mj_r_aload_n d_Mo_leapOf_161 rfl ?_
            refine mj_q_getr d_Mo_leapOf_162 f_21_3 (.inl mw_711) rfl hn ?_
            refine mj_r_iload d_Mo_leapOf_165 rfl ?_
            obtain ⟨q34, h⟩ := h
            obtain ⟨q35, h⟩ := h
            refine mj_q_iald d_Mo_leapOf_167 rfl rfl hn rfl q34 q35 ?_
            refine mj_r_goto (tgt := 173) d_Mo_leapOf_168 (by decide) ?_
            refine mj_e_istore (lv' := [some (mj_R 21), some (.inl l1), some (.inl l2), some (.inl (l7 + 13)), some (.inl l4), some (.inl (w21 22 ((l7 / 52) - 1) 0)), some (.inl l6), some (.inl l7), some (.inl ((l7 / 52) - 1)), some (.inl ((l7 % 52) / 13)), some (.inl (l7 % 13)), some (.inl 1)]) d_Mo_leapOf_173 rfl rfl ?_
            refine mj_r_iload d_Mo_leapOf_175 rfl ?_
            refine mj_s_if_eq (tgt := 185) d_Mo_leapOf_177 (by decide) (mj_ik (by decide)) (fun q36 => absurd q36 (by decide)) (fun q36 => ?_)
            refine mj_r_iload d_Mo_leapOf_180 rfl ?_
            refine mj_r_goto (tgt := 186) d_Mo_leapOf_182 (by decide) ?_
            refine mj_e_istore (lv' := [some (mj_R 21), some (.inl l1), some (.inl l2), some (.inl (l7 + 13)), some (.inl (l7 % 13)), some (.inl (w21 22 ((l7 / 52) - 1) 0)), some (.inl l6), some (.inl l7), some (.inl ((l7 / 52) - 1)), some (.inl ((l7 % 52) / 13)), some (.inl (l7 % 13)), some (.inl 1)]) d_Mo_leapOf_186 rfl rfl ?_
            refine mj_r_goto (tgt := 8) d_Mo_leapOf_188 (by decide) ?_
            refine mj_r_sub (lv' := [some (mj_R 21), some (.inl l1), some (.inl l2), some (.inl (l7 + 13)), some (.inl (l7 % 13)), some (.inl (w21 22 ((l7 / 52) - 1) 0)), none, none, none, none, none, none]) ⟨.inr rfl, .inr rfl, .inr rfl, .inr rfl, .inr rfl, .inr rfl, .inl rfl, .inl rfl, .inl rfl, .inl rfl, .inl rfl, .inl rfl, trivial⟩ ?_
            exact h
        · have h := h.2 q28
          refine mj_r_iconst (x := 0) d_Mo_leapOf_153 rfl ?_
          refine mj_e_istore (lv' := [some (mj_R 21), some (.inl l1), some (.inl l2), some (.inl (l7 + 13)), some (.inl l4), some (.inl l5), some (.inl l6), some (.inl l7), some (.inl ((l7 / 52) - 1)), some (.inl ((l7 % 52) / 13)), some (.inl (l7 % 13)), some (.inl 0)]) d_Mo_leapOf_154 rfl rfl ?_
          refine mj_r_iload d_Mo_leapOf_156 rfl ?_
          refine mj_s_if_eq (tgt := 171) d_Mo_leapOf_158 (by decide) (mj_ik (by decide)) (fun q37 => ?_) (fun q37 => absurd (by decide) q37)
          refine mj_r_iload d_Mo_leapOf_171 rfl ?_
          refine mj_e_istore (lv' := [some (mj_R 21), some (.inl l1), some (.inl l2), some (.inl (l7 + 13)), some (.inl l4), some (.inl l5), some (.inl l6), some (.inl l7), some (.inl ((l7 / 52) - 1)), some (.inl ((l7 % 52) / 13)), some (.inl (l7 % 13)), some (.inl 0)]) d_Mo_leapOf_173 rfl rfl ?_
          refine mj_r_iload d_Mo_leapOf_175 rfl ?_
          refine mj_s_if_eq (tgt := 185) d_Mo_leapOf_177 (by decide) (mj_ik (by decide)) (fun q38 => ?_) (fun q38 => absurd (by decide) q38)
          refine mj_r_iconst (x := (-1)) d_Mo_leapOf_185 rfl ?_
          refine mj_e_istore (lv' := [some (mj_R 21), some (.inl l1), some (.inl l2), some (.inl (l7 + 13)), some (.inl ((-1))), some (.inl l5), some (.inl l6), some (.inl l7), some (.inl ((l7 / 52) - 1)), some (.inl ((l7 % 52) / 13)), some (.inl (l7 % 13)), some (.inl 0)]) d_Mo_leapOf_186 rfl rfl ?_
          refine mj_r_goto (tgt := 8) d_Mo_leapOf_188 (by decide) ?_
          refine mj_r_sub (lv' := [some (mj_R 21), some (.inl l1), some (.inl l2), some (.inl (l7 + 13)), some (.inl ((-1))), some (.inl l5), none, none, none, none, none, none]) ⟨.inr rfl, .inr rfl, .inr rfl, .inr rfl, .inr rfl, .inr rfl, .inl rfl, .inl rfl, .inl rfl, .inl rfl, .inl rfl, .inl rfl, trivial⟩ ?_
          exact h
      · have h := h.2 q25
        refine mj_r_iload_n d_Mo_leapOf_129 rfl ?_
        exact mj_r_iret d_Mo_leapOf_130 rfl (mj_q_ret h)
    · have h := h.2 q20
      refine mj_r_iload_n d_Mo_leapOf_129 rfl ?_
      exact mj_r_iret d_Mo_leapOf_130 rfl (mj_q_ret h)
theorem v_Mo_thrown_0 {g : mj_G} {nn d : Nat} {xs : mj_M} {Post : Option mj_V → mj_w → Prop} (hn : 33 ≤ nn) {w : mj_w}
    (h : Post (some (.inl (w 21 1 0))) w) :
    mj_J g y_Mo_thrown d 0 0 (0, [some (mj_R 21)], [], mj_mem nn xs w) (mj_P nn xs Post) := by
  refine mj_r_aload_n d_Mo_thrown_0 rfl ?_
  refine mj_q_geti d_Mo_thrown_1 f_21_1 (.inl mw_709) rfl hn ?_
  exact mj_r_iret d_Mo_thrown_4 rfl (mj_q_ret h)
theorem v_Mo_rule_0 {g : mj_G} {nn d : Nat} {xs : mj_M} {Post : Option mj_V → mj_w → Prop} (hn : 33 ≤ nn) {w : mj_w} {l1 l2 l3 : Int}
    (h : ∀ w1, w1 = mj_wu w 21 1 0 0 → mj_J g y_Mo_isNonterminal d 0 0 (0, [some (.inl l1)], [], mj_mem nn xs w1) (mj_P nn xs (fun v w3 => ∃ x4 : Int, v = some (.inl x4) ∧ (mj_i x4 ∧ (x4 = 0 → (mj_J g y_Mo_refuse d 0 0 (0, [some (mj_R 21), some (.inl 1)], [], mj_mem nn xs w3) (mj_P nn xs (fun v w7 => ∃ x8 : Int, v = some (.inl x8) ∧ (Post (some (.inl x8)) w7))))) ∧ (¬ x4 = 0 → (mj_i l2 ∧ (l2 < 0 → (mj_J g y_Mo_refuse d 0 0 (0, [some (mj_R 21), some (.inl 1)], [], mj_mem nn xs w3) (mj_P nn xs (fun v w11 => ∃ x12 : Int, v = some (.inl x12) ∧ (Post (some (.inl x12)) w11))))) ∧ (¬ l2 < 0 → ((3 < l2 → (mj_J g y_Mo_refuse d 0 0 (0, [some (mj_R 21), some (.inl 1)], [], mj_mem nn xs w3) (mj_P nn xs (fun v w14 => ∃ x15 : Int, v = some (.inl x15) ∧ (Post (some (.inl x15)) w14))))) ∧ (¬ 3 < l2 → (mj_i (mj_ush l3 (4 * l2)) ∧ ((mj_ush l3 (4 * l2)) = 0 → (mj_J g y_Mo_rule (d + 1) 0 0 (38, [some (mj_R 21), some (.inl l1), some (.inl l2), some (.inl l3), some (.inl 0), none], [], mj_mem nn xs w3) (mj_P nn xs Post))) ∧ (¬ (mj_ush l3 (4 * l2)) = 0 → (mj_J g y_Mo_refuse d 0 0 (0, [some (mj_R 21), some (.inl 1)], [], mj_mem nn xs w3) (mj_P nn xs (fun v w18 => ∃ x19 : Int, v = some (.inl x19) ∧ (Post (some (.inl x19)) w18))))))))))))))) :
    mj_J g y_Mo_rule (d + 1) 0 0 (0, [some (mj_R 21), some (.inl l1), some (.inl l2), some (.inl l3), none, none], [], mj_mem nn xs w) (mj_P nn xs Post) := by
  refine mj_r_aload_n d_Mo_rule_0 rfl ?_
  refine mj_r_iconst (x := 0) d_Mo_rule_1 rfl ?_
  refine mj_q_put d_Mo_rule_2 f_21_1 (mj_fit_I _) (.inl mw_709) rfl hn (fun w1 e2 => ?_)
  have h := h w1 e2
  refine mj_r_iload_n d_Mo_rule_5 rfl ?_
  refine mj_q_S1i d_Mo_rule_6 h_Mo_isNonterminal (.inl mw_694) mw_695 rfl rfl (mj_wk h (fun v w3 h => ?_))
  obtain ⟨x4, rfl, h⟩ := h
  refine ⟨x4, rfl, ?_⟩
  obtain ⟨q5, h⟩ := h
  refine mj_s_if_eq (tgt := 29) d_Mo_rule_9 (by decide) q5 (fun q6 => ?_) (fun q6 => ?_)
  · have h := h.1 q6
    refine mj_r_aload_n d_Mo_rule_29 rfl ?_
    refine mj_r_iconst (x := 1) d_Mo_rule_30 rfl ?_
    refine mj_q_V1i d_Mo_rule_31 h_Mo_refuse (.inl mw_774) mw_776 mw_30 rfl rfl rfl hn rfl rfl (mj_wk h (fun v w7 h => ?_))
    obtain ⟨x8, rfl, h⟩ := h
    refine ⟨x8, rfl, ?_⟩
    exact mj_r_iret d_Mo_rule_34 rfl (mj_q_ret h)
  · have h := h.2 q6
    refine mj_r_iload_n d_Mo_rule_12 rfl ?_
    obtain ⟨q9, h⟩ := h
    refine mj_s_if_lt (tgt := 29) d_Mo_rule_13 (by decide) q9 (fun q10 => ?_) (fun q10 => ?_)
    · have h := h.1 q10
      refine mj_r_aload_n d_Mo_rule_29 rfl ?_
      refine mj_r_iconst (x := 1) d_Mo_rule_30 rfl ?_
      refine mj_q_V1i d_Mo_rule_31 h_Mo_refuse (.inl mw_774) mw_776 mw_30 rfl rfl rfl hn rfl rfl (mj_wk h (fun v w11 h => ?_))
      obtain ⟨x12, rfl, h⟩ := h
      refine ⟨x12, rfl, ?_⟩
      exact mj_r_iret d_Mo_rule_34 rfl (mj_q_ret h)
    · have h := h.2 q10
      refine mj_r_iload_n d_Mo_rule_16 rfl ?_
      refine mj_r_iconst (x := 3) d_Mo_rule_17 rfl ?_
      refine mj_s_icmp_gt (tgt := 29) d_Mo_rule_18 (by decide) q9 (mj_ik (by decide)) (fun q13 => ?_) (fun q13 => ?_)
      · have h := h.1 q13
        refine mj_r_aload_n d_Mo_rule_29 rfl ?_
        refine mj_r_iconst (x := 1) d_Mo_rule_30 rfl ?_
        refine mj_q_V1i d_Mo_rule_31 h_Mo_refuse (.inl mw_774) mw_776 mw_30 rfl rfl rfl hn rfl rfl (mj_wk h (fun v w14 h => ?_))
        obtain ⟨x15, rfl, h⟩ := h
        refine ⟨x15, rfl, ?_⟩
        exact mj_r_iret d_Mo_rule_34 rfl (mj_q_ret h)
      · have h := h.2 q13
        refine mj_r_iload_n d_Mo_rule_21 rfl ?_
        refine mj_r_iconst (x := 4) d_Mo_rule_22 rfl ?_
        refine mj_r_iload_n d_Mo_rule_23 rfl ?_
        refine mj_r_imul d_Mo_rule_24 ?_
        refine mj_r_iushr d_Mo_rule_25 ?_
        obtain ⟨q16, h⟩ := h
        refine mj_s_if_eq (tgt := 35) d_Mo_rule_26 (by decide) q16 (fun q17 => ?_) (fun q17 => ?_)
        · have h := h.1 q17
          refine mj_r_iconst (x := 0) d_Mo_rule_35 rfl ?_
          refine mj_e_istore (lv' := [some (mj_R 21), some (.inl l1), some (.inl l2), some (.inl l3), some (.inl 0), none]) d_Mo_rule_36 rfl rfl ?_
          exact h
        · have h := h.2 q17
          refine mj_r_aload_n d_Mo_rule_29 rfl ?_
          refine mj_r_iconst (x := 1) d_Mo_rule_30 rfl ?_
          refine mj_q_V1i d_Mo_rule_31 h_Mo_refuse (.inl mw_774) mw_776 mw_30 rfl rfl rfl hn rfl rfl (mj_wk h (fun v w18 h => ?_))
          obtain ⟨x19, rfl, h⟩ := h
          refine ⟨x19, rfl, ?_⟩
          exact mj_r_iret d_Mo_rule_34 rfl (mj_q_ret h)
theorem v_Mo_rule_38 {g : mj_G} {nn d : Nat} {xs : mj_M} {Post : Option mj_V → mj_w → Prop} (hn : 33 ≤ nn) {w : mj_w} {l1 l2 l3 l4 : Int}
    (h : mj_i l4 ∧ mj_i l2 ∧ (l4 < l2 → (mj_J g y_Mo_isNonterminal d 0 0 (0, [some (.inl (mj_and (mj_shr l3 (4 * l4)) 15))], [], mj_mem nn xs w) (mj_P nn xs (fun v w4 => ∃ x5 : Int, v = some (.inl x5) ∧ (mj_i x5 ∧ (x5 = 0 → (mj_J g y_Mo_isTerminal d 0 0 (0, [some (.inl (mj_and (mj_shr l3 (4 * l4)) 15))], [], mj_mem nn xs w4) (mj_P nn xs (fun v w8 => ∃ x9 : Int, v = some (.inl x9) ∧ (mj_i x9 ∧ (x9 = 0 → (mj_J g y_Mo_refuse d 0 0 (0, [some (mj_R 21), some (.inl 1)], [], mj_mem nn xs w8) (mj_P nn xs (fun v w12 => ∃ x13 : Int, v = some (.inl x13) ∧ (Post (some (.inl x13)) w12))))) ∧ (¬ x9 = 0 → (mj_J g y_Mo_rule (d + 1) 0 0 (38, [some (mj_R 21), some (.inl l1), some (.inl l2), some (.inl l3), some (.inl (l4 + 1)), none], [], mj_mem nn xs w8) (mj_P nn xs Post)))))))) ∧ (¬ x5 = 0 → (mj_J g y_Mo_rule (d + 1) 0 0 (38, [some (mj_R 21), some (.inl l1), some (.inl l2), some (.inl l3), some (.inl (l4 + 1)), none], [], mj_mem nn xs w4) (mj_P nn xs Post)))))))) ∧ (¬ l4 < l2 → (mj_i (w 21 2 0) ∧ ((w 21 2 0) = 10 → (mj_J g y_Mo_refuse d 0 0 (0, [some (mj_R 21), some (.inl 2)], [], mj_mem nn xs w) (mj_P nn xs (fun v w16 => ∃ x17 : Int, v = some (.inl x17) ∧ (Post (some (.inl x17)) w16))))) ∧ (¬ (w 21 2 0) = 10 → (mj_i (w 21 6 0) ∧ (0 < (w 21 6 0) → (mj_J g y_Mo_refuse d 0 0 (0, [some (mj_R 21), some (.inl 2)], [], mj_mem nn xs w) (mj_P nn xs (fun v w20 => ∃ x21 : Int, v = some (.inl x21) ∧ (Post (some (.inl x21)) w20))))) ∧ (¬ 0 < (w 21 6 0) → (0 ≤ (w 21 2 0) ∧ (w 21 2 0) < 10 ∧ (∀ w24, w24 = mj_wu w 22 (w 21 2 0) 0 l1 → 0 ≤ (w24 21 2 0) ∧ (w24 21 2 0) < 10 ∧ (∀ w28, w28 = mj_wu w24 23 (w24 21 2 0) 0 l2 → mj_J g y_Mo_rule (d + 1) 0 0 (128, [some (mj_R 21), some (.inl l1), some (.inl l2), some (.inl l3), some (.inl 0), none], [], mj_mem nn xs w28) (mj_P nn xs Post)))))))))) :
    mj_J g y_Mo_rule (d + 1) 0 0 (38, [some (mj_R 21), some (.inl l1), some (.inl l2), some (.inl l3), some (.inl l4), none], [], mj_mem nn xs w) (mj_P nn xs Post) := by
  refine mj_r_iload d_Mo_rule_38 rfl ?_
  refine mj_r_iload_n d_Mo_rule_40 rfl ?_
  obtain ⟨q1, h⟩ := h
  obtain ⟨q2, h⟩ := h
  refine mj_s_icmp_ge (tgt := 83) d_Mo_rule_41 (by decide) q1 q2 (fun q3 => ?_) (fun q3 => ?_)
  · have h := h.1 q3
    refine mj_r_iload_n d_Mo_rule_44 rfl ?_
    refine mj_r_iconst (x := 4) d_Mo_rule_45 rfl ?_
    refine mj_r_iload d_Mo_rule_46 rfl ?_
    refine mj_r_imul d_Mo_rule_48 ?_
    refine mj_r_ishr d_Mo_rule_49 ?_
    refine mj_r_bipush (x := 15) d_Mo_rule_50 (by decide) ?_
    refine mj_r_iand d_Mo_rule_52 ?_
    refine mj_e_istore (lv' := [some (mj_R 21), some (.inl l1), some (.inl l2), some (.inl l3), some (.inl l4), some (.inl (mj_and (mj_shr l3 (4 * l4)) 15))]) d_Mo_rule_53 rfl rfl ?_
    refine mj_r_iload d_Mo_rule_55 rfl ?_
    refine mj_q_S1i d_Mo_rule_57 h_Mo_isNonterminal (.inl mw_694) mw_695 rfl rfl (mj_wk h (fun v w4 h => ?_))
    obtain ⟨x5, rfl, h⟩ := h
    refine ⟨x5, rfl, ?_⟩
    obtain ⟨q6, h⟩ := h
    refine mj_s_if_ne (tgt := 77) d_Mo_rule_60 (by decide) q6 (fun q7 => ?_) (fun q7 => ?_)
    · have h := h.1 q7
      refine mj_r_iload d_Mo_rule_63 rfl ?_
      refine mj_q_S1i d_Mo_rule_65 h_Mo_isTerminal (.inl mw_778) mw_779 rfl rfl (mj_wk h (fun v w8 h => ?_))
      obtain ⟨x9, rfl, h⟩ := h
      refine ⟨x9, rfl, ?_⟩
      obtain ⟨q10, h⟩ := h
      refine mj_s_if_ne (tgt := 77) d_Mo_rule_68 (by decide) q10 (fun q11 => ?_) (fun q11 => ?_)
      · have h := h.1 q11
        refine mj_r_aload_n d_Mo_rule_71 rfl ?_
        refine mj_r_iconst (x := 1) d_Mo_rule_72 rfl ?_
        refine mj_q_V1i d_Mo_rule_73 h_Mo_refuse (.inl mw_774) mw_776 mw_30 rfl rfl rfl hn rfl rfl (mj_wk h (fun v w12 h => ?_))
        obtain ⟨x13, rfl, h⟩ := h
        refine ⟨x13, rfl, ?_⟩
        exact mj_r_iret d_Mo_rule_76 rfl (mj_q_ret h)
      · have h := h.2 q11
        refine mj_e_iinc (lv' := [some (mj_R 21), some (.inl l1), some (.inl l2), some (.inl l3), some (.inl (l4 + 1)), some (.inl (mj_and (mj_shr l3 (4 * l4)) 15))]) d_Mo_rule_77 rfl rfl ?_
        refine mj_r_goto (tgt := 38) d_Mo_rule_80 (by decide) ?_
        refine mj_r_sub (lv' := [some (mj_R 21), some (.inl l1), some (.inl l2), some (.inl l3), some (.inl (l4 + 1)), none]) ⟨.inr rfl, .inr rfl, .inr rfl, .inr rfl, .inr rfl, .inl rfl, trivial⟩ ?_
        exact h
    · have h := h.2 q7
      refine mj_e_iinc (lv' := [some (mj_R 21), some (.inl l1), some (.inl l2), some (.inl l3), some (.inl (l4 + 1)), some (.inl (mj_and (mj_shr l3 (4 * l4)) 15))]) d_Mo_rule_77 rfl rfl ?_
      refine mj_r_goto (tgt := 38) d_Mo_rule_80 (by decide) ?_
      refine mj_r_sub (lv' := [some (mj_R 21), some (.inl l1), some (.inl l2), some (.inl l3), some (.inl (l4 + 1)), none]) ⟨.inr rfl, .inr rfl, .inr rfl, .inr rfl, .inr rfl, .inl rfl, trivial⟩ ?_
      exact h
  · have h := h.2 q3
    refine mj_r_aload_n d_Mo_rule_83 rfl ?_
    refine mj_q_geti d_Mo_rule_84 f_21_2 (.inl mw_710) rfl hn ?_
    refine mj_r_bipush (x := 10) d_Mo_rule_87 (by decide) ?_
    obtain ⟨q14, h⟩ := h
    refine mj_s_icmp_eq (tgt := 99) d_Mo_rule_89 (by decide) q14 (mj_ik (by decide)) (fun q15 => ?_) (fun q15 => ?_)
    · have h := h.1 q15
      refine mj_r_aload_n d_Mo_rule_99 rfl ?_
      refine mj_r_iconst (x := 2) d_Mo_rule_100 rfl ?_
      refine mj_q_V1i d_Mo_rule_101 h_Mo_refuse (.inl mw_774) mw_776 mw_30 rfl rfl rfl hn rfl rfl (mj_wk h (fun v w16 h => ?_))
      obtain ⟨x17, rfl, h⟩ := h
      refine ⟨x17, rfl, ?_⟩
      exact mj_r_iret d_Mo_rule_104 rfl (mj_q_ret h)
    · have h := h.2 q15
      refine mj_r_aload_n d_Mo_rule_92 rfl ?_
      refine mj_q_geti d_Mo_rule_93 f_21_6 (.inl mw_714) rfl hn ?_
      obtain ⟨q18, h⟩ := h
      refine mj_s_if_le (tgt := 105) d_Mo_rule_96 (by decide) q18 (fun q19 => ?_) (fun q19 => ?_)
      · have h := h.1 q19
        refine mj_r_aload_n d_Mo_rule_99 rfl ?_
        refine mj_r_iconst (x := 2) d_Mo_rule_100 rfl ?_
        refine mj_q_V1i d_Mo_rule_101 h_Mo_refuse (.inl mw_774) mw_776 mw_30 rfl rfl rfl hn rfl rfl (mj_wk h (fun v w20 h => ?_))
        obtain ⟨x21, rfl, h⟩ := h
        refine ⟨x21, rfl, ?_⟩
        exact mj_r_iret d_Mo_rule_104 rfl (mj_q_ret h)
      · have h := h.2 q19
        refine mj_r_aload_n d_Mo_rule_105 rfl ?_
        refine mj_q_getr d_Mo_rule_106 f_21_3 (.inl mw_711) rfl hn ?_
        refine mj_r_aload_n d_Mo_rule_109 rfl ?_
        refine mj_q_geti d_Mo_rule_110 f_21_2 (.inl mw_710) rfl hn ?_
        refine mj_r_iload_n d_Mo_rule_113 rfl ?_
        obtain ⟨q22, h⟩ := h
        obtain ⟨q23, h⟩ := h
        refine mj_q_iast d_Mo_rule_114 rfl rfl hn rfl q22 q23 (fun w24 e25 => ?_)
        have h := h w24 e25
        refine mj_r_aload_n d_Mo_rule_115 rfl ?_
        refine mj_q_getr d_Mo_rule_116 f_21_4 (.inl mw_712) rfl hn ?_
        refine mj_r_aload_n d_Mo_rule_119 rfl ?_
        refine mj_q_geti d_Mo_rule_120 f_21_2 (.inl mw_710) rfl hn ?_
        refine mj_r_iload_n d_Mo_rule_123 rfl ?_
        obtain ⟨q26, h⟩ := h
        obtain ⟨q27, h⟩ := h
        refine mj_q_iast d_Mo_rule_124 rfl rfl hn rfl q26 q27 (fun w28 e29 => ?_)
        have h := h w28 e29
        refine mj_r_iconst (x := 0) d_Mo_rule_125 rfl ?_
        refine mj_e_istore (lv' := [some (mj_R 21), some (.inl l1), some (.inl l2), some (.inl l3), some (.inl 0), none]) d_Mo_rule_126 rfl rfl ?_
        exact h
theorem v_Mo_rule_128 {g : mj_G} {nn d : Nat} {xs : mj_M} {Post : Option mj_V → mj_w → Prop} (hn : 33 ≤ nn) {w : mj_w} {l1 l2 l3 l4 : Int}
    (h : mj_i l4 ∧ mj_i l2 ∧ (l4 < l2 → (0 ≤ ((3 * (w 21 2 0)) + l4) ∧ ((3 * (w 21 2 0)) + l4) < 30 ∧ (∀ w6, w6 = mj_wu w 24 ((3 * (w 21 2 0)) + l4) 0 (mj_and (mj_shr l3 (4 * l4)) 15) → mj_J g y_Mo_rule (d + 1) 0 0 (128, [some (mj_R 21), some (.inl l1), some (.inl l2), some (.inl l3), some (.inl (l4 + 1)), none], [], mj_mem nn xs w6) (mj_P nn xs Post)))) ∧ (¬ l4 < l2 → (∀ w8, w8 = mj_wu w 21 2 0 ((w 21 2 0) + 1) → mj_J g y_Mo_makeSet d 0 0 (0, [some (mj_R 21), some (.inl 0), none, none], [], mj_mem nn xs w8) (mj_P nn xs (fun v w10 => v = none ∧ (Post (some (.inl ((w10 21 2 0) - 1))) w10)))))) :
    mj_J g y_Mo_rule (d + 1) 0 0 (128, [some (mj_R 21), some (.inl l1), some (.inl l2), some (.inl l3), some (.inl l4), none], [], mj_mem nn xs w) (mj_P nn xs Post) := by
  refine mj_r_iload d_Mo_rule_128 rfl ?_
  refine mj_r_iload_n d_Mo_rule_130 rfl ?_
  obtain ⟨q1, h⟩ := h
  obtain ⟨q2, h⟩ := h
  refine mj_s_icmp_ge (tgt := 163) d_Mo_rule_131 (by decide) q1 q2 (fun q3 => ?_) (fun q3 => ?_)
  · have h := h.1 q3
    refine mj_r_aload_n d_Mo_rule_134 rfl ?_
    refine mj_q_getr d_Mo_rule_135 f_21_5 (.inl mw_713) rfl hn ?_
    refine mj_r_iconst (x := 3) d_Mo_rule_138 rfl ?_
    refine mj_r_aload_n d_Mo_rule_139 rfl ?_
    refine mj_q_geti d_Mo_rule_140 f_21_2 (.inl mw_710) rfl hn ?_
    refine mj_r_imul d_Mo_rule_143 ?_
    refine mj_r_iload d_Mo_rule_144 rfl ?_
    refine mj_r_iadd d_Mo_rule_146 ?_
    refine mj_r_iload_n d_Mo_rule_147 rfl ?_
    refine mj_r_iconst (x := 4) d_Mo_rule_148 rfl ?_
    refine mj_r_iload d_Mo_rule_149 rfl ?_
    refine mj_r_imul d_Mo_rule_151 ?_
    refine mj_r_ishr d_Mo_rule_152 ?_
    refine mj_r_bipush (x := 15) d_Mo_rule_153 (by decide) ?_
    refine mj_r_iand d_Mo_rule_155 ?_
    obtain ⟨q4, h⟩ := h
    obtain ⟨q5, h⟩ := h
    refine mj_q_iast d_Mo_rule_156 rfl rfl hn rfl q4 q5 (fun w6 e7 => ?_)
    have h := h w6 e7
    refine mj_e_iinc (lv' := [some (mj_R 21), some (.inl l1), some (.inl l2), some (.inl l3), some (.inl (l4 + 1)), none]) d_Mo_rule_157 rfl rfl ?_
    refine mj_r_goto (tgt := 128) d_Mo_rule_160 (by decide) ?_
    exact h
  · have h := h.2 q3
    refine mj_r_aload_n d_Mo_rule_163 rfl ?_
    refine mj_r_dup d_Mo_rule_164 rfl ?_
    refine mj_q_geti d_Mo_rule_165 f_21_2 (.inl mw_710) rfl hn ?_
    refine mj_r_iconst (x := 1) d_Mo_rule_168 rfl ?_
    refine mj_r_iadd d_Mo_rule_169 ?_
    refine mj_q_put d_Mo_rule_170 f_21_2 (mj_fit_I _) (.inl mw_710) rfl hn (fun w8 e9 => ?_)
    have h := h w8 e9
    refine mj_r_aload_n d_Mo_rule_173 rfl ?_
    refine mj_r_iconst (x := 0) d_Mo_rule_174 rfl ?_
    refine mj_q_V1v d_Mo_rule_175 h_Mo_makeSet (.inl mw_674) mw_676 mw_23 rfl rfl rfl hn rfl rfl (mj_wk h (fun v w10 h => ?_))
    obtain ⟨rfl, h⟩ := h
    refine ⟨rfl, ?_⟩
    refine mj_r_aload_n d_Mo_rule_178 rfl ?_
    refine mj_q_geti d_Mo_rule_179 f_21_2 (.inl mw_710) rfl hn ?_
    refine mj_r_iconst (x := 1) d_Mo_rule_182 rfl ?_
    refine mj_r_isub d_Mo_rule_183 ?_
    exact mj_r_iret d_Mo_rule_184 rfl (mj_q_ret h)
theorem v_Mo_refuse_0 {g : mj_G} {nn d : Nat} {xs : mj_M} {Post : Option mj_V → mj_w → Prop} (hn : 33 ≤ nn) {w : mj_w} {l1 : Int}
    (h : ∀ w1, w1 = mj_wu w 21 1 0 l1 → Post (some (.inl 0)) w1) :
    mj_J g y_Mo_refuse d 0 0 (0, [some (mj_R 21), some (.inl l1)], [], mj_mem nn xs w) (mj_P nn xs Post) := by
  refine mj_r_aload_n d_Mo_refuse_0 rfl ?_
  refine mj_r_iload_n d_Mo_refuse_1 rfl ?_
  refine mj_q_put d_Mo_refuse_2 f_21_1 (mj_fit_I _) (.inl mw_709) rfl hn (fun w1 e2 => ?_)
  have h := h w1 e2
  refine mj_r_iconst (x := 0) d_Mo_refuse_5 rfl ?_
  exact mj_r_iret d_Mo_refuse_6 rfl (mj_q_ret h)
theorem v_Mo_isTerminal_0 {g : mj_G} {nn d : Nat} {xs : mj_M} {Post : Option mj_V → mj_w → Prop} (hn : 33 ≤ nn) {w : mj_w} {l0 : Int}
    (h : mj_i l0 ∧ (l0 < 8 → (Post (some (.inl 0)) w)) ∧ (¬ l0 < 8 → ((11 < l0 → (Post (some (.inl 0)) w)) ∧ (¬ 11 < l0 → (Post (some (.inl 1)) w))))) :
    mj_J g y_Mo_isTerminal d 0 0 (0, [some (.inl l0)], [], mj_mem nn xs w) (mj_P nn xs Post) := by
  refine mj_r_iload_n d_Mo_isTerminal_0 rfl ?_
  refine mj_r_bipush (x := 8) d_Mo_isTerminal_1 (by decide) ?_
  obtain ⟨q1, h⟩ := h
  refine mj_s_icmp_lt (tgt := 16) d_Mo_isTerminal_3 (by decide) q1 (mj_ik (by decide)) (fun q2 => ?_) (fun q2 => ?_)
  · have h := h.1 q2
    refine mj_r_iconst (x := 0) d_Mo_isTerminal_16 rfl ?_
    exact mj_r_zret d_Mo_isTerminal_17 rfl (by decide) (mj_q_ret h)
  · have h := h.2 q2
    refine mj_r_iload_n d_Mo_isTerminal_6 rfl ?_
    refine mj_r_bipush (x := 11) d_Mo_isTerminal_7 (by decide) ?_
    refine mj_s_icmp_gt (tgt := 16) d_Mo_isTerminal_9 (by decide) q1 (mj_ik (by decide)) (fun q3 => ?_) (fun q3 => ?_)
    · have h := h.1 q3
      refine mj_r_iconst (x := 0) d_Mo_isTerminal_16 rfl ?_
      exact mj_r_zret d_Mo_isTerminal_17 rfl (by decide) (mj_q_ret h)
    · have h := h.2 q3
      refine mj_r_iconst (x := 1) d_Mo_isTerminal_12 rfl ?_
      refine mj_r_goto (tgt := 17) d_Mo_isTerminal_13 (by decide) ?_
      exact mj_r_zret d_Mo_isTerminal_17 rfl (by decide) (mj_q_ret h)
theorem v_Mo_feed_0 {g : mj_G} {nn d : Nat} {xs : mj_M} {Post : Option mj_V → mj_w → Prop} (hn : 33 ≤ nn) {w : mj_w} {l1 : Int}
    (h : ∀ w1, w1 = mj_wu w 21 1 0 0 → mj_J g y_Mo_isTerminal d 0 0 (0, [some (.inl l1)], [], mj_mem nn xs w1) (mj_P nn xs (fun v w3 => ∃ x4 : Int, v = some (.inl x4) ∧ (mj_i x4 ∧ (x4 = 0 → (mj_J g y_Mo_refuse d 0 0 (0, [some (mj_R 21), some (.inl 1)], [], mj_mem nn xs w3) (mj_P nn xs (fun v w7 => ∃ x8 : Int, v = some (.inl x8) ∧ (Post (some (.inl x8)) w7))))) ∧ (¬ x4 = 0 → (mj_i (w3 21 6 0) ∧ ((w3 21 6 0) = 12 → (mj_J g y_Mo_refuse d 0 0 (0, [some (mj_R 21), some (.inl 2)], [], mj_mem nn xs w3) (mj_P nn xs (fun v w11 => ∃ x12 : Int, v = some (.inl x12) ∧ (Post (some (.inl x12)) w11))))) ∧ (¬ (w3 21 6 0) = 12 → (mj_J g y_Mo_expectedIn d 0 0 (0, [some (mj_R 21), some (.inl (w3 21 6 0)), none, none, none], [], mj_mem nn xs w3) (mj_P nn xs (fun v w13 => ∃ x14 : Int, v = some (.inl x14) ∧ (mj_i (mj_and (mj_shr x14 (l1 - 8)) 1) ∧ ((mj_and (mj_shr x14 (l1 - 8)) 1) = 0 → (mj_J g y_Mo_refuse d 0 0 (0, [some (mj_R 21), some (.inl 3)], [], mj_mem nn xs w13) (mj_P nn xs (fun v w17 => ∃ x18 : Int, v = some (.inl x18) ∧ (Post (some (.inl x18)) w17))))) ∧ (¬ (mj_and (mj_shr x14 (l1 - 8)) 1) = 0 → (0 ≤ (w13 21 6 0) ∧ (w13 21 6 0) < 12 ∧ (∀ w21, w21 = mj_wu w13 25 (w13 21 6 0) 0 l1 → ∀ w23, w23 = mj_wu w21 21 6 0 ((w21 21 6 0) + 1) → mj_J g y_Mo_makeSet d 0 0 (0, [some (mj_R 21), some (.inl (w23 21 6 0)), none, none], [], mj_mem nn xs w23) (mj_P nn xs (fun v w25 => v = none ∧ (mj_J g y_Mo_sizeOf d 0 0 (0, [some (mj_R 21), some (.inl (w25 21 6 0)), none, none], [], mj_mem nn xs w25) (mj_P nn xs (fun v w27 => ∃ x28 : Int, v = some (.inl x28) ∧ (Post (some (.inl x28)) w27)))))))))))))))))))) :
    mj_J g y_Mo_feed (d + 1) 0 0 (0, [some (mj_R 21), some (.inl l1)], [], mj_mem nn xs w) (mj_P nn xs Post) := by
  refine mj_r_aload_n d_Mo_feed_0 rfl ?_
  refine mj_r_iconst (x := 0) d_Mo_feed_1 rfl ?_
  refine mj_q_put d_Mo_feed_2 f_21_1 (mj_fit_I _) (.inl mw_709) rfl hn (fun w1 e2 => ?_)
  have h := h w1 e2
  refine mj_r_iload_n d_Mo_feed_5 rfl ?_
  refine mj_q_S1i d_Mo_feed_6 h_Mo_isTerminal (.inl mw_778) mw_779 rfl rfl (mj_wk h (fun v w3 h => ?_))
  obtain ⟨x4, rfl, h⟩ := h
  refine ⟨x4, rfl, ?_⟩
  obtain ⟨q5, h⟩ := h
  refine mj_s_if_ne (tgt := 18) d_Mo_feed_9 (by decide) q5 (fun q6 => ?_) (fun q6 => ?_)
  · have h := h.1 q6
    refine mj_r_aload_n d_Mo_feed_12 rfl ?_
    refine mj_r_iconst (x := 1) d_Mo_feed_13 rfl ?_
    refine mj_q_V1i d_Mo_feed_14 h_Mo_refuse (.inl mw_774) mw_776 mw_30 rfl rfl rfl hn rfl rfl (mj_wk h (fun v w7 h => ?_))
    obtain ⟨x8, rfl, h⟩ := h
    refine ⟨x8, rfl, ?_⟩
    exact mj_r_iret d_Mo_feed_17 rfl (mj_q_ret h)
  · have h := h.2 q6
    refine mj_r_aload_n d_Mo_feed_18 rfl ?_
    refine mj_q_geti d_Mo_feed_19 f_21_6 (.inl mw_714) rfl hn ?_
    refine mj_r_bipush (x := 12) d_Mo_feed_22 (by decide) ?_
    obtain ⟨q9, h⟩ := h
    refine mj_s_icmp_ne (tgt := 33) d_Mo_feed_24 (by decide) q9 (mj_ik (by decide)) (fun q10 => ?_) (fun q10 => ?_)
    · have h := h.1 q10
      refine mj_r_aload_n d_Mo_feed_27 rfl ?_
      refine mj_r_iconst (x := 2) d_Mo_feed_28 rfl ?_
      refine mj_q_V1i d_Mo_feed_29 h_Mo_refuse (.inl mw_774) mw_776 mw_30 rfl rfl rfl hn rfl rfl (mj_wk h (fun v w11 h => ?_))
      obtain ⟨x12, rfl, h⟩ := h
      refine ⟨x12, rfl, ?_⟩
      exact mj_r_iret d_Mo_feed_32 rfl (mj_q_ret h)
    · have h := h.2 q10
      refine mj_r_aload_n d_Mo_feed_33 rfl ?_
      refine mj_r_aload_n d_Mo_feed_34 rfl ?_
      refine mj_q_geti d_Mo_feed_35 f_21_6 (.inl mw_714) rfl hn ?_
      refine mj_q_V1i d_Mo_feed_38 h_Mo_expectedIn (.inl mw_785) mw_787 mw_31 rfl rfl rfl hn rfl rfl (mj_wk h (fun v w13 h => ?_))
      obtain ⟨x14, rfl, h⟩ := h
      refine ⟨x14, rfl, ?_⟩
      refine mj_r_iload_n d_Mo_feed_41 rfl ?_
      refine mj_r_bipush (x := 8) d_Mo_feed_42 (by decide) ?_
      refine mj_r_isub d_Mo_feed_44 ?_
      refine mj_r_ishr d_Mo_feed_45 ?_
      refine mj_r_iconst (x := 1) d_Mo_feed_46 rfl ?_
      refine mj_r_iand d_Mo_feed_47 ?_
      obtain ⟨q15, h⟩ := h
      refine mj_s_if_ne (tgt := 57) d_Mo_feed_48 (by decide) q15 (fun q16 => ?_) (fun q16 => ?_)
      · have h := h.1 q16
        refine mj_r_aload_n d_Mo_feed_51 rfl ?_
        refine mj_r_iconst (x := 3) d_Mo_feed_52 rfl ?_
        refine mj_q_V1i d_Mo_feed_53 h_Mo_refuse (.inl mw_774) mw_776 mw_30 rfl rfl rfl hn rfl rfl (mj_wk h (fun v w17 h => ?_))
        obtain ⟨x18, rfl, h⟩ := h
        refine ⟨x18, rfl, ?_⟩
        exact mj_r_iret d_Mo_feed_56 rfl (mj_q_ret h)
      · have h := h.2 q16
        refine mj_r_aload_n d_Mo_feed_57 rfl ?_
        refine mj_q_getr d_Mo_feed_58 f_21_7 (.inl mw_715) rfl hn ?_
        refine mj_r_aload_n d_Mo_feed_61 rfl ?_
        refine mj_q_geti d_Mo_feed_62 f_21_6 (.inl mw_714) rfl hn ?_
        refine mj_r_iload_n d_Mo_feed_65 rfl ?_
        obtain ⟨q19, h⟩ := h
        obtain ⟨q20, h⟩ := h
        refine mj_q_iast d_Mo_feed_66 rfl rfl hn rfl q19 q20 (fun w21 e22 => ?_)
        have h := h w21 e22
        refine mj_r_aload_n d_Mo_feed_67 rfl ?_
        refine mj_r_dup d_Mo_feed_68 rfl ?_
        refine mj_q_geti d_Mo_feed_69 f_21_6 (.inl mw_714) rfl hn ?_
        refine mj_r_iconst (x := 1) d_Mo_feed_72 rfl ?_
        refine mj_r_iadd d_Mo_feed_73 ?_
        refine mj_q_put d_Mo_feed_74 f_21_6 (mj_fit_I _) (.inl mw_714) rfl hn (fun w23 e24 => ?_)
        have h := h w23 e24
        refine mj_r_aload_n d_Mo_feed_77 rfl ?_
        refine mj_r_aload_n d_Mo_feed_78 rfl ?_
        refine mj_q_geti d_Mo_feed_79 f_21_6 (.inl mw_714) rfl hn ?_
        refine mj_q_V1v d_Mo_feed_82 h_Mo_makeSet (.inl mw_674) mw_676 mw_23 rfl rfl rfl hn rfl rfl (mj_wk h (fun v w25 h => ?_))
        obtain ⟨rfl, h⟩ := h
        refine ⟨rfl, ?_⟩
        refine mj_r_aload_n d_Mo_feed_85 rfl ?_
        refine mj_r_aload_n d_Mo_feed_86 rfl ?_
        refine mj_q_geti d_Mo_feed_87 f_21_6 (.inl mw_714) rfl hn ?_
        refine mj_q_V1i d_Mo_feed_90 h_Mo_sizeOf (.inl mw_789) mw_791 mw_32 rfl rfl rfl hn rfl rfl (mj_wk h (fun v w27 h => ?_))
        obtain ⟨x28, rfl, h⟩ := h
        refine ⟨x28, rfl, ?_⟩
        exact mj_r_iret d_Mo_feed_93 rfl (mj_q_ret h)
theorem v_Mo_expectedIn_0 {g : mj_G} {nn d : Nat} {xs : mj_M} {Post : Option mj_V → mj_w → Prop} (hn : 33 ≤ nn) {w : mj_w} {l1 : Int}
    (h : mj_J g y_Mo_expectedIn (d + 1) 0 0 (4, [some (mj_R 21), some (.inl l1), some (.inl 0), some (.inl 0), none], [], mj_mem nn xs w) (mj_P nn xs Post)) :
    mj_J g y_Mo_expectedIn (d + 1) 0 0 (0, [some (mj_R 21), some (.inl l1), none, none, none], [], mj_mem nn xs w) (mj_P nn xs Post) := by
  refine mj_r_iconst (x := 0) d_Mo_expectedIn_0 rfl ?_
  refine mj_e_istore_n (lv' := [some (mj_R 21), some (.inl l1), some (.inl 0), none, none]) d_Mo_expectedIn_1 rfl rfl ?_
  refine mj_r_iconst (x := 0) d_Mo_expectedIn_2 rfl ?_
  refine mj_e_istore_n (lv' := [some (mj_R 21), some (.inl l1), some (.inl 0), some (.inl 0), none]) d_Mo_expectedIn_3 rfl rfl ?_
  exact h
theorem v_Mo_expectedIn_4 {g : mj_G} {nn d : Nat} {xs : mj_M} {Post : Option mj_V → mj_w → Prop} (hn : 33 ≤ nn) {w : mj_w} {l1 l2 l3 : Int}
    (h : mj_i l3 ∧ (l3 < 572 → (0 ≤ ((572 * l1) + l3) ∧ ((572 * l1) + l3) < 7436 ∧ mj_i (w 26 ((572 * l1) + l3) 0) ∧ ((w 26 ((572 * l1) + l3) 0) = 0 → (mj_J g y_Mo_expectedIn (d + 1) 0 0 (4, [some (mj_R 21), some (.inl l1), some (.inl (mj_ior l2 0)), some (.inl (l3 + 1)), none], [], mj_mem nn xs w) (mj_P nn xs Post))) ∧ (¬ (w 26 ((572 * l1) + l3) 0) = 0 → (0 ≤ l3 ∧ mj_i (l3 % 52) ∧ 0 ≤ (l3 % 52) ∧ mj_J g y_Mo_behind d 0 0 (0, [some (mj_R 21), some (.inl ((l3 / 52) - 1)), some (.inl ((l3 % 52) / 13))], [], mj_mem nn xs w) (mj_P nn xs (fun v w11 => ∃ x12 : Int, v = some (.inl x12) ∧ (mj_i x12 ∧ (x12 < 8 → (mj_J g y_Mo_expectedIn (d + 1) 0 0 (4, [some (mj_R 21), some (.inl l1), some (.inl (mj_ior l2 0)), some (.inl (l3 + 1)), none], [], mj_mem nn xs w11) (mj_P nn xs Post))) ∧ (¬ x12 < 8 → (mj_J g y_Mo_expectedIn (d + 1) 0 0 (4, [some (mj_R 21), some (.inl l1), some (.inl (mj_ior l2 (mj_shl 1 (x12 - 8)))), some (.inl (l3 + 1)), none], [], mj_mem nn xs w11) (mj_P nn xs Post)))))))))) ∧ (¬ l3 < 572 → (Post (some (.inl l2)) w))) :
    mj_J g y_Mo_expectedIn (d + 1) 0 0 (4, [some (mj_R 21), some (.inl l1), some (.inl l2), some (.inl l3), none], [], mj_mem nn xs w) (mj_P nn xs Post) := by
  refine mj_r_iload_n d_Mo_expectedIn_4 rfl ?_
  refine mj_r_sipush (x := 572) d_Mo_expectedIn_5 (by decide) ?_
  obtain ⟨q1, h⟩ := h
  refine mj_s_icmp_ge (tgt := 76) d_Mo_expectedIn_8 (by decide) q1 (mj_ik (by decide)) (fun q2 => ?_) (fun q2 => ?_)
  · have h := h.1 q2
    refine mj_r_aload_n d_Mo_expectedIn_11 rfl ?_
    refine mj_q_getr d_Mo_expectedIn_12 f_21_8 (.inl mw_716) rfl hn ?_
    refine mj_r_sipush (x := 572) d_Mo_expectedIn_15 (by decide) ?_
    refine mj_r_iload_n d_Mo_expectedIn_18 rfl ?_
    refine mj_r_imul d_Mo_expectedIn_19 ?_
    refine mj_r_iload_n d_Mo_expectedIn_20 rfl ?_
    refine mj_r_iadd d_Mo_expectedIn_21 ?_
    obtain ⟨q3, h⟩ := h
    obtain ⟨q4, h⟩ := h
    refine mj_q_zald d_Mo_expectedIn_22 rfl rfl hn rfl q3 q4 ?_
    obtain ⟨q5, h⟩ := h
    refine mj_s_if_eq (tgt := 46) d_Mo_expectedIn_23 (by decide) q5 (fun q6 => ?_) (fun q6 => ?_)
    · have h := h.1 q6
      refine mj_r_iconst (x := (-1)) d_Mo_expectedIn_46 rfl ?_
      refine mj_e_istore (lv' := [some (mj_R 21), some (.inl l1), some (.inl l2), some (.inl l3), some (.inl ((-1)))]) d_Mo_expectedIn_47 rfl rfl ?_
      refine mj_r_iload_n d_Mo_expectedIn_49 rfl ?_
      refine mj_r_iload d_Mo_expectedIn_50 rfl ?_
      refine mj_r_bipush (x := 8) d_Mo_expectedIn_52 (by decide) ?_
      refine mj_s_icmp_lt (tgt := 67) d_Mo_expectedIn_54 (by decide) (mj_ik (by decide)) (mj_ik (by decide)) (fun q7 => ?_) (fun q7 => absurd (by decide) q7)
      refine mj_r_iconst (x := 0) d_Mo_expectedIn_67 rfl ?_
      refine mj_r_ior d_Mo_expectedIn_68 ?_
      refine mj_e_istore_n (lv' := [some (mj_R 21), some (.inl l1), some (.inl (mj_ior l2 0)), some (.inl l3), some (.inl ((-1)))]) d_Mo_expectedIn_69 rfl rfl ?_
      refine mj_e_iinc (lv' := [some (mj_R 21), some (.inl l1), some (.inl (mj_ior l2 0)), some (.inl (l3 + 1)), some (.inl ((-1)))]) d_Mo_expectedIn_70 rfl rfl ?_
      refine mj_r_goto (tgt := 4) d_Mo_expectedIn_73 (by decide) ?_
      refine mj_r_sub (lv' := [some (mj_R 21), some (.inl l1), some (.inl (mj_ior l2 0)), some (.inl (l3 + 1)), none]) ⟨.inr rfl, .inr rfl, .inr rfl, .inr rfl, .inl rfl, trivial⟩ ?_
      exact h
    · have h := h.2 q6
      refine mj_r_aload_n d_Mo_expectedIn_26 rfl ?_
      refine mj_r_iload_n d_Mo_expectedIn_27 rfl ?_
      refine mj_r_bipush (x := 52) d_Mo_expectedIn_28 (by decide) ?_
      obtain ⟨q8, h⟩ := h
      refine mj_r_idiv d_Mo_expectedIn_30 q1 (mj_ik (by decide)) q8 (by decide) ?_
      refine mj_r_iconst (x := 1) d_Mo_expectedIn_31 rfl ?_
      refine mj_r_isub d_Mo_expectedIn_32 ?_
      refine mj_r_iload_n d_Mo_expectedIn_33 rfl ?_
      refine mj_r_bipush (x := 52) d_Mo_expectedIn_34 (by decide) ?_
      refine mj_r_irem d_Mo_expectedIn_36 q1 (mj_ik (by decide)) q8 (by decide) ?_
      refine mj_r_bipush (x := 13) d_Mo_expectedIn_37 (by decide) ?_
      obtain ⟨q9, h⟩ := h
      obtain ⟨q10, h⟩ := h
      refine mj_r_idiv d_Mo_expectedIn_39 q9 (mj_ik (by decide)) q10 (by decide) ?_
      refine mj_q_V2i d_Mo_expectedIn_40 h_Mo_behind (.inl mw_678) mw_680 mw_24 rfl rfl rfl hn rfl rfl (mj_wk h (fun v w11 h => ?_))
      obtain ⟨x12, rfl, h⟩ := h
      refine ⟨x12, rfl, ?_⟩
      refine mj_r_goto (tgt := 47) d_Mo_expectedIn_43 (by decide) ?_
      refine mj_e_istore (lv' := [some (mj_R 21), some (.inl l1), some (.inl l2), some (.inl l3), some (.inl x12)]) d_Mo_expectedIn_47 rfl rfl ?_
      refine mj_r_iload_n d_Mo_expectedIn_49 rfl ?_
      refine mj_r_iload d_Mo_expectedIn_50 rfl ?_
      refine mj_r_bipush (x := 8) d_Mo_expectedIn_52 (by decide) ?_
      obtain ⟨q13, h⟩ := h
      refine mj_s_icmp_lt (tgt := 67) d_Mo_expectedIn_54 (by decide) q13 (mj_ik (by decide)) (fun q14 => ?_) (fun q14 => ?_)
      · have h := h.1 q14
        refine mj_r_iconst (x := 0) d_Mo_expectedIn_67 rfl ?_
        refine mj_r_ior d_Mo_expectedIn_68 ?_
        refine mj_e_istore_n (lv' := [some (mj_R 21), some (.inl l1), some (.inl (mj_ior l2 0)), some (.inl l3), some (.inl x12)]) d_Mo_expectedIn_69 rfl rfl ?_
        refine mj_e_iinc (lv' := [some (mj_R 21), some (.inl l1), some (.inl (mj_ior l2 0)), some (.inl (l3 + 1)), some (.inl x12)]) d_Mo_expectedIn_70 rfl rfl ?_
        refine mj_r_goto (tgt := 4) d_Mo_expectedIn_73 (by decide) ?_
        refine mj_r_sub (lv' := [some (mj_R 21), some (.inl l1), some (.inl (mj_ior l2 0)), some (.inl (l3 + 1)), none]) ⟨.inr rfl, .inr rfl, .inr rfl, .inr rfl, .inl rfl, trivial⟩ ?_
        exact h
      · have h := h.2 q14
        refine mj_r_iconst (x := 1) d_Mo_expectedIn_57 rfl ?_
        refine mj_r_iload d_Mo_expectedIn_58 rfl ?_
        refine mj_r_bipush (x := 8) d_Mo_expectedIn_60 (by decide) ?_
        refine mj_r_isub d_Mo_expectedIn_62 ?_
        refine mj_r_ishl d_Mo_expectedIn_63 ?_
        refine mj_r_goto (tgt := 68) d_Mo_expectedIn_64 (by decide) ?_
        refine mj_r_ior d_Mo_expectedIn_68 ?_
        refine mj_e_istore_n (lv' := [some (mj_R 21), some (.inl l1), some (.inl (mj_ior l2 (mj_shl 1 (x12 - 8)))), some (.inl l3), some (.inl x12)]) d_Mo_expectedIn_69 rfl rfl ?_
        refine mj_e_iinc (lv' := [some (mj_R 21), some (.inl l1), some (.inl (mj_ior l2 (mj_shl 1 (x12 - 8)))), some (.inl (l3 + 1)), some (.inl x12)]) d_Mo_expectedIn_70 rfl rfl ?_
        refine mj_r_goto (tgt := 4) d_Mo_expectedIn_73 (by decide) ?_
        refine mj_r_sub (lv' := [some (mj_R 21), some (.inl l1), some (.inl (mj_ior l2 (mj_shl 1 (x12 - 8)))), some (.inl (l3 + 1)), none]) ⟨.inr rfl, .inr rfl, .inr rfl, .inr rfl, .inl rfl, trivial⟩ ?_
        exact h
  · have h := h.2 q2
    refine mj_r_iload_n d_Mo_expectedIn_76 rfl ?_
    exact mj_r_iret d_Mo_expectedIn_77 rfl (mj_q_ret h)
theorem v_Mo_sizeOf_0 {g : mj_G} {nn d : Nat} {xs : mj_M} {Post : Option mj_V → mj_w → Prop} (hn : 33 ≤ nn) {w : mj_w} {l1 : Int}
    (h : mj_J g y_Mo_sizeOf d 0 0 (4, [some (mj_R 21), some (.inl l1), some (.inl 0), some (.inl 0)], [], mj_mem nn xs w) (mj_P nn xs Post)) :
    mj_J g y_Mo_sizeOf d 0 0 (0, [some (mj_R 21), some (.inl l1), none, none], [], mj_mem nn xs w) (mj_P nn xs Post) := by
  refine mj_r_iconst (x := 0) d_Mo_sizeOf_0 rfl ?_
  refine mj_e_istore_n (lv' := [some (mj_R 21), some (.inl l1), some (.inl 0), none]) d_Mo_sizeOf_1 rfl rfl ?_
  refine mj_r_iconst (x := 0) d_Mo_sizeOf_2 rfl ?_
  refine mj_e_istore_n (lv' := [some (mj_R 21), some (.inl l1), some (.inl 0), some (.inl 0)]) d_Mo_sizeOf_3 rfl rfl ?_
  exact h
theorem v_Mo_sizeOf_4 {g : mj_G} {nn d : Nat} {xs : mj_M} {Post : Option mj_V → mj_w → Prop} (hn : 33 ≤ nn) {w : mj_w} {l1 l2 l3 : Int}
    (h : mj_i l3 ∧ (l3 < 572 → (0 ≤ ((572 * l1) + l3) ∧ ((572 * l1) + l3) < 7436 ∧ mj_i (w 26 ((572 * l1) + l3) 0) ∧ ((w 26 ((572 * l1) + l3) 0) = 0 → (mj_J g y_Mo_sizeOf d 0 0 (4, [some (mj_R 21), some (.inl l1), some (.inl (l2 + 0)), some (.inl (l3 + 1))], [], mj_mem nn xs w) (mj_P nn xs Post))) ∧ (¬ (w 26 ((572 * l1) + l3) 0) = 0 → (mj_J g y_Mo_sizeOf d 0 0 (4, [some (mj_R 21), some (.inl l1), some (.inl (l2 + 1)), some (.inl (l3 + 1))], [], mj_mem nn xs w) (mj_P nn xs Post))))) ∧ (¬ l3 < 572 → (Post (some (.inl l2)) w))) :
    mj_J g y_Mo_sizeOf d 0 0 (4, [some (mj_R 21), some (.inl l1), some (.inl l2), some (.inl l3)], [], mj_mem nn xs w) (mj_P nn xs Post) := by
  refine mj_r_iload_n d_Mo_sizeOf_4 rfl ?_
  refine mj_r_sipush (x := 572) d_Mo_sizeOf_5 (by decide) ?_
  obtain ⟨q1, h⟩ := h
  refine mj_s_icmp_ge (tgt := 40) d_Mo_sizeOf_8 (by decide) q1 (mj_ik (by decide)) (fun q2 => ?_) (fun q2 => ?_)
  · have h := h.1 q2
    refine mj_r_iload_n d_Mo_sizeOf_11 rfl ?_
    refine mj_r_aload_n d_Mo_sizeOf_12 rfl ?_
    refine mj_q_getr d_Mo_sizeOf_13 f_21_8 (.inl mw_716) rfl hn ?_
    refine mj_r_sipush (x := 572) d_Mo_sizeOf_16 (by decide) ?_
    refine mj_r_iload_n d_Mo_sizeOf_19 rfl ?_
    refine mj_r_imul d_Mo_sizeOf_20 ?_
    refine mj_r_iload_n d_Mo_sizeOf_21 rfl ?_
    refine mj_r_iadd d_Mo_sizeOf_22 ?_
    obtain ⟨q3, h⟩ := h
    obtain ⟨q4, h⟩ := h
    refine mj_q_zald d_Mo_sizeOf_23 rfl rfl hn rfl q3 q4 ?_
    obtain ⟨q5, h⟩ := h
    refine mj_s_if_eq (tgt := 31) d_Mo_sizeOf_24 (by decide) q5 (fun q6 => ?_) (fun q6 => ?_)
    · have h := h.1 q6
      refine mj_r_iconst (x := 0) d_Mo_sizeOf_31 rfl ?_
      refine mj_r_iadd d_Mo_sizeOf_32 ?_
      refine mj_e_istore_n (lv' := [some (mj_R 21), some (.inl l1), some (.inl (l2 + 0)), some (.inl l3)]) d_Mo_sizeOf_33 rfl rfl ?_
      refine mj_e_iinc (lv' := [some (mj_R 21), some (.inl l1), some (.inl (l2 + 0)), some (.inl (l3 + 1))]) d_Mo_sizeOf_34 rfl rfl ?_
      refine mj_r_goto (tgt := 4) d_Mo_sizeOf_37 (by decide) ?_
      exact h
    · have h := h.2 q6
      refine mj_r_iconst (x := 1) d_Mo_sizeOf_27 rfl ?_
      refine mj_r_goto (tgt := 32) d_Mo_sizeOf_28 (by decide) ?_
      refine mj_r_iadd d_Mo_sizeOf_32 ?_
      refine mj_e_istore_n (lv' := [some (mj_R 21), some (.inl l1), some (.inl (l2 + 1)), some (.inl l3)]) d_Mo_sizeOf_33 rfl rfl ?_
      refine mj_e_iinc (lv' := [some (mj_R 21), some (.inl l1), some (.inl (l2 + 1)), some (.inl (l3 + 1))]) d_Mo_sizeOf_34 rfl rfl ?_
      refine mj_r_goto (tgt := 4) d_Mo_sizeOf_37 (by decide) ?_
      exact h
  · have h := h.2 q2
    refine mj_r_iload_n d_Mo_sizeOf_40 rfl ?_
    exact mj_r_iret d_Mo_sizeOf_41 rfl (mj_q_ret h)
theorem v_Mo_back_0 {g : mj_G} {nn d : Nat} {xs : mj_M} {Post : Option mj_V → mj_w → Prop} (hn : 33 ≤ nn) {w : mj_w} {l1 : Int}
    (h : ∀ w1, w1 = mj_wu w 21 1 0 0 → mj_i l1 ∧ (l1 < 0 → (mj_J g y_Mo_refuse d 0 0 (0, [some (mj_R 21), some (.inl 1)], [], mj_mem nn xs w1) (mj_P nn xs (fun v w5 => ∃ x6 : Int, v = some (.inl x6) ∧ (Post (some (.inl x6)) w5))))) ∧ (¬ l1 < 0 → (mj_i (w1 21 6 0) ∧ ((w1 21 6 0) < l1 → (mj_J g y_Mo_refuse d 0 0 (0, [some (mj_R 21), some (.inl 1)], [], mj_mem nn xs w1) (mj_P nn xs (fun v w9 => ∃ x10 : Int, v = some (.inl x10) ∧ (Post (some (.inl x10)) w9))))) ∧ (¬ (w1 21 6 0) < l1 → (∀ w11, w11 = mj_wu w1 21 6 0 ((w1 21 6 0) - l1) → ∀ w13, w13 = mj_wu w11 21 9 0 0 → Post (some (.inl (w13 21 6 0))) w13))))) :
    mj_J g y_Mo_back (d + 1) 0 0 (0, [some (mj_R 21), some (.inl l1)], [], mj_mem nn xs w) (mj_P nn xs Post) := by
  refine mj_r_aload_n d_Mo_back_0 rfl ?_
  refine mj_r_iconst (x := 0) d_Mo_back_1 rfl ?_
  refine mj_q_put d_Mo_back_2 f_21_1 (mj_fit_I _) (.inl mw_709) rfl hn (fun w1 e2 => ?_)
  have h := h w1 e2
  refine mj_r_iload_n d_Mo_back_5 rfl ?_
  obtain ⟨q3, h⟩ := h
  refine mj_s_if_lt (tgt := 17) d_Mo_back_6 (by decide) q3 (fun q4 => ?_) (fun q4 => ?_)
  · have h := h.1 q4
    refine mj_r_aload_n d_Mo_back_17 rfl ?_
    refine mj_r_iconst (x := 1) d_Mo_back_18 rfl ?_
    refine mj_q_V1i d_Mo_back_19 h_Mo_refuse (.inl mw_774) mw_776 mw_30 rfl rfl rfl hn rfl rfl (mj_wk h (fun v w5 h => ?_))
    obtain ⟨x6, rfl, h⟩ := h
    refine ⟨x6, rfl, ?_⟩
    exact mj_r_iret d_Mo_back_22 rfl (mj_q_ret h)
  · have h := h.2 q4
    refine mj_r_iload_n d_Mo_back_9 rfl ?_
    refine mj_r_aload_n d_Mo_back_10 rfl ?_
    refine mj_q_geti d_Mo_back_11 f_21_6 (.inl mw_714) rfl hn ?_
    obtain ⟨q7, h⟩ := h
    refine mj_s_icmp_le (tgt := 23) d_Mo_back_14 (by decide) q3 q7 (fun q8 => ?_) (fun q8 => ?_)
    · have h := h.1 q8
      refine mj_r_aload_n d_Mo_back_17 rfl ?_
      refine mj_r_iconst (x := 1) d_Mo_back_18 rfl ?_
      refine mj_q_V1i d_Mo_back_19 h_Mo_refuse (.inl mw_774) mw_776 mw_30 rfl rfl rfl hn rfl rfl (mj_wk h (fun v w9 h => ?_))
      obtain ⟨x10, rfl, h⟩ := h
      refine ⟨x10, rfl, ?_⟩
      exact mj_r_iret d_Mo_back_22 rfl (mj_q_ret h)
    · have h := h.2 q8
      refine mj_r_aload_n d_Mo_back_23 rfl ?_
      refine mj_r_dup d_Mo_back_24 rfl ?_
      refine mj_q_geti d_Mo_back_25 f_21_6 (.inl mw_714) rfl hn ?_
      refine mj_r_iload_n d_Mo_back_28 rfl ?_
      refine mj_r_isub d_Mo_back_29 ?_
      refine mj_q_put d_Mo_back_30 f_21_6 (mj_fit_I _) (.inl mw_714) rfl hn (fun w11 e12 => ?_)
      have h := h w11 e12
      refine mj_r_aload_n d_Mo_back_33 rfl ?_
      refine mj_r_iconst (x := 0) d_Mo_back_34 rfl ?_
      refine mj_q_put d_Mo_back_35 f_21_9 (mj_fit_Z (by decide)) (.inl mw_717) rfl hn (fun w13 e14 => ?_)
      have h := h w13 e14
      refine mj_r_aload_n d_Mo_back_38 rfl ?_
      refine mj_q_geti d_Mo_back_39 f_21_6 (.inl mw_714) rfl hn ?_
      exact mj_r_iret d_Mo_back_42 rfl (mj_q_ret h)
theorem v_Mo_fed_0 {g : mj_G} {nn d : Nat} {xs : mj_M} {Post : Option mj_V → mj_w → Prop} (hn : 33 ≤ nn) {w : mj_w}
    (h : ∀ w1, w1 = mj_wu w 21 1 0 0 → Post (some (.inl (w1 21 6 0))) w1) :
    mj_J g y_Mo_fed d 0 0 (0, [some (mj_R 21)], [], mj_mem nn xs w) (mj_P nn xs Post) := by
  refine mj_r_aload_n d_Mo_fed_0 rfl ?_
  refine mj_r_iconst (x := 0) d_Mo_fed_1 rfl ?_
  refine mj_q_put d_Mo_fed_2 f_21_1 (mj_fit_I _) (.inl mw_709) rfl hn (fun w1 e2 => ?_)
  have h := h w1 e2
  refine mj_r_aload_n d_Mo_fed_5 rfl ?_
  refine mj_q_geti d_Mo_fed_6 f_21_6 (.inl mw_714) rfl hn ?_
  exact mj_r_iret d_Mo_fed_9 rfl (mj_q_ret h)
theorem v_Mo_accepts_0 {g : mj_G} {nn d : Nat} {xs : mj_M} {Post : Option mj_V → mj_w → Prop} (hn : 33 ≤ nn) {w : mj_w}
    (h : ∀ w1, w1 = mj_wu w 21 1 0 0 → mj_J g y_Mo_holds d 0 0 (0, [some (mj_R 21), some (.inl (w1 21 6 0)), some (.inl ((-1))), some (.inl 1), some (.inl 0)], [], mj_mem nn xs w1) (mj_P nn xs (fun v w3 => ∃ x4 : Int, v = some (.inl x4) ∧ ((x4 = 0 ∨ x4 = 1) ∧ Post (some (.inl x4)) w3)))) :
    mj_J g y_Mo_accepts (d + 1) 0 0 (0, [some (mj_R 21)], [], mj_mem nn xs w) (mj_P nn xs Post) := by
  refine mj_r_aload_n d_Mo_accepts_0 rfl ?_
  refine mj_r_iconst (x := 0) d_Mo_accepts_1 rfl ?_
  refine mj_q_put d_Mo_accepts_2 f_21_1 (mj_fit_I _) (.inl mw_709) rfl hn (fun w1 e2 => ?_)
  have h := h w1 e2
  refine mj_r_aload_n d_Mo_accepts_5 rfl ?_
  refine mj_r_aload_n d_Mo_accepts_6 rfl ?_
  refine mj_q_geti d_Mo_accepts_7 f_21_6 (.inl mw_714) rfl hn ?_
  refine mj_r_iconst (x := (-1)) d_Mo_accepts_10 rfl ?_
  refine mj_r_iconst (x := 1) d_Mo_accepts_11 rfl ?_
  refine mj_r_iconst (x := 0) d_Mo_accepts_12 rfl ?_
  refine mj_q_V4i d_Mo_accepts_13 h_Mo_holds (.inl mw_805) mw_807 mw_33 rfl rfl rfl hn rfl rfl (mj_wk h (fun v w3 h => ?_))
  obtain ⟨x4, rfl, h⟩ := h
  refine ⟨x4, rfl, ?_⟩
  obtain ⟨q5, h⟩ := h
  exact mj_r_zret d_Mo_accepts_16 rfl q5 (mj_q_ret h)
theorem v_Mo_holds_0 {g : mj_G} {nn d : Nat} {xs : mj_M} {Post : Option mj_V → mj_w → Prop} (hn : 33 ≤ nn) {w : mj_w} {l1 l2 l3 l4 : Int}
    (h : mj_J g y_Mo_place d 0 0 (0, [some (.inl l1), some (.inl l2), some (.inl l3), some (.inl l4)], [], mj_mem nn xs w) (mj_P nn xs (fun v w1 => ∃ x2 : Int, v = some (.inl x2) ∧ (0 ≤ x2 ∧ x2 < 7436 ∧ ((w1 26 x2 0) = 0 ∨ (w1 26 x2 0) = 1) ∧ Post (some (.inl (w1 26 x2 0))) w1)))) :
    mj_J g y_Mo_holds (d + 1) 0 0 (0, [some (mj_R 21), some (.inl l1), some (.inl l2), some (.inl l3), some (.inl l4)], [], mj_mem nn xs w) (mj_P nn xs Post) := by
  refine mj_r_aload_n d_Mo_holds_0 rfl ?_
  refine mj_q_getr d_Mo_holds_1 f_21_8 (.inl mw_716) rfl hn ?_
  refine mj_r_iload_n d_Mo_holds_4 rfl ?_
  refine mj_r_iload_n d_Mo_holds_5 rfl ?_
  refine mj_r_iload_n d_Mo_holds_6 rfl ?_
  refine mj_r_iload d_Mo_holds_7 rfl ?_
  refine mj_q_S4i d_Mo_holds_9 h_Mo_place (.inl mw_701) mw_702 rfl rfl (mj_wk h (fun v w1 h => ?_))
  obtain ⟨x2, rfl, h⟩ := h
  refine ⟨x2, rfl, ?_⟩
  obtain ⟨q3, h⟩ := h
  obtain ⟨q4, h⟩ := h
  refine mj_q_zald d_Mo_holds_12 rfl rfl hn rfl q3 q4 ?_
  obtain ⟨q5, h⟩ := h
  exact mj_r_zret d_Mo_holds_13 rfl q5 (mj_q_ret h)
theorem v_Mo_expected_0 {g : mj_G} {nn d : Nat} {xs : mj_M} {Post : Option mj_V → mj_w → Prop} (hn : 33 ≤ nn) {w : mj_w}
    (h : ∀ w1, w1 = mj_wu w 21 1 0 0 → mj_J g y_Mo_expectedIn d 0 0 (0, [some (mj_R 21), some (.inl (w1 21 6 0)), none, none, none], [], mj_mem nn xs w1) (mj_P nn xs (fun v w3 => ∃ x4 : Int, v = some (.inl x4) ∧ (Post (some (.inl x4)) w3)))) :
    mj_J g y_Mo_expected (d + 1) 0 0 (0, [some (mj_R 21)], [], mj_mem nn xs w) (mj_P nn xs Post) := by
  refine mj_r_aload_n d_Mo_expected_0 rfl ?_
  refine mj_r_iconst (x := 0) d_Mo_expected_1 rfl ?_
  refine mj_q_put d_Mo_expected_2 f_21_1 (mj_fit_I _) (.inl mw_709) rfl hn (fun w1 e2 => ?_)
  have h := h w1 e2
  refine mj_r_aload_n d_Mo_expected_5 rfl ?_
  refine mj_r_aload_n d_Mo_expected_6 rfl ?_
  refine mj_q_geti d_Mo_expected_7 f_21_6 (.inl mw_714) rfl hn ?_
  refine mj_q_V1i d_Mo_expected_10 h_Mo_expectedIn (.inl mw_785) mw_787 mw_31 rfl rfl rfl hn rfl rfl (mj_wk h (fun v w3 h => ?_))
  obtain ⟨x4, rfl, h⟩ := h
  refine ⟨x4, rfl, ?_⟩
  exact mj_r_iret d_Mo_expected_13 rfl (mj_q_ret h)
theorem v_Mo_items_0 {g : mj_G} {nn d : Nat} {xs : mj_M} {Post : Option mj_V → mj_w → Prop} (hn : 33 ≤ nn) {w : mj_w} {l1 : Int}
    (h : ∀ w1, w1 = mj_wu w 21 1 0 0 → mj_J g y_Mo_isSet d 0 0 (0, [some (mj_R 21), some (.inl l1)], [], mj_mem nn xs w1) (mj_P nn xs (fun v w3 => ∃ x4 : Int, v = some (.inl x4) ∧ (mj_i x4 ∧ (x4 = 0 → (mj_J g y_Mo_refuse d 0 0 (0, [some (mj_R 21), some (.inl 1)], [], mj_mem nn xs w3) (mj_P nn xs (fun v w7 => ∃ x8 : Int, v = some (.inl x8) ∧ (Post (some (.inl x8)) w7))))) ∧ (¬ x4 = 0 → (mj_J g y_Mo_sizeOf d 0 0 (0, [some (mj_R 21), some (.inl l1), none, none], [], mj_mem nn xs w3) (mj_P nn xs (fun v w9 => ∃ x10 : Int, v = some (.inl x10) ∧ (Post (some (.inl x10)) w9))))))))) :
    mj_J g y_Mo_items (d + 1) 0 0 (0, [some (mj_R 21), some (.inl l1)], [], mj_mem nn xs w) (mj_P nn xs Post) := by
  refine mj_r_aload_n d_Mo_items_0 rfl ?_
  refine mj_r_iconst (x := 0) d_Mo_items_1 rfl ?_
  refine mj_q_put d_Mo_items_2 f_21_1 (mj_fit_I _) (.inl mw_709) rfl hn (fun w1 e2 => ?_)
  have h := h w1 e2
  refine mj_r_aload_n d_Mo_items_5 rfl ?_
  refine mj_r_iload_n d_Mo_items_6 rfl ?_
  refine mj_q_V1i d_Mo_items_7 h_Mo_isSet (.inl mw_817) mw_819 mw_34 rfl rfl rfl hn rfl rfl (mj_wk h (fun v w3 h => ?_))
  obtain ⟨x4, rfl, h⟩ := h
  refine ⟨x4, rfl, ?_⟩
  obtain ⟨q5, h⟩ := h
  refine mj_s_if_eq (tgt := 21) d_Mo_items_10 (by decide) q5 (fun q6 => ?_) (fun q6 => ?_)
  · have h := h.1 q6
    refine mj_r_aload_n d_Mo_items_21 rfl ?_
    refine mj_r_iconst (x := 1) d_Mo_items_22 rfl ?_
    refine mj_q_V1i d_Mo_items_23 h_Mo_refuse (.inl mw_774) mw_776 mw_30 rfl rfl rfl hn rfl rfl (mj_wk h (fun v w7 h => ?_))
    obtain ⟨x8, rfl, h⟩ := h
    refine ⟨x8, rfl, ?_⟩
    exact mj_r_iret d_Mo_items_26 rfl (mj_q_ret h)
  · have h := h.2 q6
    refine mj_r_aload_n d_Mo_items_13 rfl ?_
    refine mj_r_iload_n d_Mo_items_14 rfl ?_
    refine mj_q_V1i d_Mo_items_15 h_Mo_sizeOf (.inl mw_789) mw_791 mw_32 rfl rfl rfl hn rfl rfl (mj_wk h (fun v w9 h => ?_))
    obtain ⟨x10, rfl, h⟩ := h
    refine ⟨x10, rfl, ?_⟩
    refine mj_r_goto (tgt := 26) d_Mo_items_18 (by decide) ?_
    exact mj_r_iret d_Mo_items_26 rfl (mj_q_ret h)
theorem v_Mo_isSet_0 {g : mj_G} {nn d : Nat} {xs : mj_M} {Post : Option mj_V → mj_w → Prop} (hn : 33 ≤ nn) {w : mj_w} {l1 : Int}
    (h : mj_i l1 ∧ (l1 < 0 → (Post (some (.inl 0)) w)) ∧ (¬ l1 < 0 → (mj_i (w 21 6 0) ∧ ((w 21 6 0) < l1 → (Post (some (.inl 0)) w)) ∧ (¬ (w 21 6 0) < l1 → (Post (some (.inl 1)) w))))) :
    mj_J g y_Mo_isSet d 0 0 (0, [some (mj_R 21), some (.inl l1)], [], mj_mem nn xs w) (mj_P nn xs Post) := by
  refine mj_r_iload_n d_Mo_isSet_0 rfl ?_
  obtain ⟨q1, h⟩ := h
  refine mj_s_if_lt (tgt := 16) d_Mo_isSet_1 (by decide) q1 (fun q2 => ?_) (fun q2 => ?_)
  · have h := h.1 q2
    refine mj_r_iconst (x := 0) d_Mo_isSet_16 rfl ?_
    exact mj_r_zret d_Mo_isSet_17 rfl (by decide) (mj_q_ret h)
  · have h := h.2 q2
    refine mj_r_iload_n d_Mo_isSet_4 rfl ?_
    refine mj_r_aload_n d_Mo_isSet_5 rfl ?_
    refine mj_q_geti d_Mo_isSet_6 f_21_6 (.inl mw_714) rfl hn ?_
    obtain ⟨q3, h⟩ := h
    refine mj_s_icmp_gt (tgt := 16) d_Mo_isSet_9 (by decide) q1 q3 (fun q4 => ?_) (fun q4 => ?_)
    · have h := h.1 q4
      refine mj_r_iconst (x := 0) d_Mo_isSet_16 rfl ?_
      exact mj_r_zret d_Mo_isSet_17 rfl (by decide) (mj_q_ret h)
    · have h := h.2 q4
      refine mj_r_iconst (x := 1) d_Mo_isSet_12 rfl ?_
      refine mj_r_goto (tgt := 17) d_Mo_isSet_13 (by decide) ?_
      exact mj_r_zret d_Mo_isSet_17 rfl (by decide) (mj_q_ret h)
theorem v_Mo_has_0 {g : mj_G} {nn d : Nat} {xs : mj_M} {Post : Option mj_V → mj_w → Prop} (hn : 33 ≤ nn) {w : mj_w} {l1 l2 l3 l4 : Int}
    (h : mj_J g y_Mo_isSet d 0 0 (0, [some (mj_R 21), some (.inl l1)], [], mj_mem nn xs w) (mj_P nn xs (fun v w1 => ∃ x2 : Int, v = some (.inl x2) ∧ (mj_i x2 ∧ (x2 = 0 → (∀ w5, w5 = mj_wu w1 21 1 0 1 → mj_i (w5 21 1 0) ∧ ((w5 21 1 0) = 0 → (mj_i l2 ∧ (l2 < (-1) → (Post (some (.inl 0)) w5)) ∧ (¬ l2 < (-1) → (mj_i (w5 21 2 0) ∧ (l2 < (w5 21 2 0) → (mj_i l3 ∧ (l3 < 0 → (Post (some (.inl 0)) w5)) ∧ (¬ l3 < 0 → (mj_J g y_Mo_lengthOf d 0 0 (0, [some (mj_R 21), some (.inl l2)], [], mj_mem nn xs w5) (mj_P nn xs (fun v w15 => ∃ x16 : Int, v = some (.inl x16) ∧ (mj_i x16 ∧ (x16 < l3 → (Post (some (.inl 0)) w15)) ∧ (¬ x16 < l3 → (mj_J g y_Mo_isSet d 0 0 (0, [some (mj_R 21), some (.inl l4)], [], mj_mem nn xs w15) (mj_P nn xs (fun v w19 => ∃ x20 : Int, v = some (.inl x20) ∧ (mj_i x20 ∧ (x20 = 0 → (Post (some (.inl 0)) w19)) ∧ (¬ x20 = 0 → (mj_J g y_Mo_holds d 0 0 (0, [some (mj_R 21), some (.inl l1), some (.inl l2), some (.inl l3), some (.inl l4)], [], mj_mem nn xs w19) (mj_P nn xs (fun v w23 => ∃ x24 : Int, v = some (.inl x24) ∧ ((x24 = 0 ∨ x24 = 1) ∧ Post (some (.inl x24)) w23))))))))))))))))) ∧ (¬ l2 < (w5 21 2 0) → (Post (some (.inl 0)) w5)))))) ∧ (¬ (w5 21 1 0) = 0 → (Post (some (.inl 0)) w5)))) ∧ (¬ x2 = 0 → (∀ w26, w26 = mj_wu w1 21 1 0 0 → mj_i (w26 21 1 0) ∧ ((w26 21 1 0) = 0 → (mj_i l2 ∧ (l2 < (-1) → (Post (some (.inl 0)) w26)) ∧ (¬ l2 < (-1) → (mj_i (w26 21 2 0) ∧ (l2 < (w26 21 2 0) → (mj_i l3 ∧ (l3 < 0 → (Post (some (.inl 0)) w26)) ∧ (¬ l3 < 0 → (mj_J g y_Mo_lengthOf d 0 0 (0, [some (mj_R 21), some (.inl l2)], [], mj_mem nn xs w26) (mj_P nn xs (fun v w36 => ∃ x37 : Int, v = some (.inl x37) ∧ (mj_i x37 ∧ (x37 < l3 → (Post (some (.inl 0)) w36)) ∧ (¬ x37 < l3 → (mj_J g y_Mo_isSet d 0 0 (0, [some (mj_R 21), some (.inl l4)], [], mj_mem nn xs w36) (mj_P nn xs (fun v w40 => ∃ x41 : Int, v = some (.inl x41) ∧ (mj_i x41 ∧ (x41 = 0 → (Post (some (.inl 0)) w40)) ∧ (¬ x41 = 0 → (mj_J g y_Mo_holds d 0 0 (0, [some (mj_R 21), some (.inl l1), some (.inl l2), some (.inl l3), some (.inl l4)], [], mj_mem nn xs w40) (mj_P nn xs (fun v w44 => ∃ x45 : Int, v = some (.inl x45) ∧ ((x45 = 0 ∨ x45 = 1) ∧ Post (some (.inl x45)) w44))))))))))))))))) ∧ (¬ l2 < (w26 21 2 0) → (Post (some (.inl 0)) w26)))))) ∧ (¬ (w26 21 1 0) = 0 → (Post (some (.inl 0)) w26)))))))) :
    mj_J g y_Mo_has (d + 1) 0 0 (0, [some (mj_R 21), some (.inl l1), some (.inl l2), some (.inl l3), some (.inl l4)], [], mj_mem nn xs w) (mj_P nn xs Post) := by
  refine mj_r_aload_n d_Mo_has_0 rfl ?_
  refine mj_r_aload_n d_Mo_has_1 rfl ?_
  refine mj_r_iload_n d_Mo_has_2 rfl ?_
  refine mj_q_V1i d_Mo_has_3 h_Mo_isSet (.inl mw_817) mw_819 mw_34 rfl rfl rfl hn rfl rfl (mj_wk h (fun v w1 h => ?_))
  obtain ⟨x2, rfl, h⟩ := h
  refine ⟨x2, rfl, ?_⟩
  obtain ⟨q3, h⟩ := h
  refine mj_s_if_eq (tgt := 13) d_Mo_has_6 (by decide) q3 (fun q4 => ?_) (fun q4 => ?_)
  · have h := h.1 q4
    refine mj_r_iconst (x := 1) d_Mo_has_13 rfl ?_
    refine mj_q_put d_Mo_has_14 f_21_1 (mj_fit_I _) (.inl mw_709) rfl hn (fun w5 e6 => ?_)
    have h := h w5 e6
    refine mj_r_aload_n d_Mo_has_17 rfl ?_
    refine mj_q_geti d_Mo_has_18 f_21_1 (.inl mw_709) rfl hn ?_
    obtain ⟨q7, h⟩ := h
    refine mj_s_if_ne (tgt := 59) d_Mo_has_21 (by decide) q7 (fun q8 => ?_) (fun q8 => ?_)
    · have h := h.1 q8
      refine mj_r_iload_n d_Mo_has_24 rfl ?_
      refine mj_r_iconst (x := (-1)) d_Mo_has_25 rfl ?_
      obtain ⟨q9, h⟩ := h
      refine mj_s_icmp_lt (tgt := 59) d_Mo_has_26 (by decide) q9 (mj_ik (by decide)) (fun q10 => ?_) (fun q10 => ?_)
      · have h := h.1 q10
        refine mj_r_iconst (x := 0) d_Mo_has_59 rfl ?_
        exact mj_r_zret d_Mo_has_60 rfl (by decide) (mj_q_ret h)
      · have h := h.2 q10
        refine mj_r_iload_n d_Mo_has_29 rfl ?_
        refine mj_r_aload_n d_Mo_has_30 rfl ?_
        refine mj_q_geti d_Mo_has_31 f_21_2 (.inl mw_710) rfl hn ?_
        obtain ⟨q11, h⟩ := h
        refine mj_s_icmp_ge (tgt := 59) d_Mo_has_34 (by decide) q9 q11 (fun q12 => ?_) (fun q12 => ?_)
        · have h := h.1 q12
          refine mj_r_iload_n d_Mo_has_37 rfl ?_
          obtain ⟨q13, h⟩ := h
          refine mj_s_if_lt (tgt := 59) d_Mo_has_38 (by decide) q13 (fun q14 => ?_) (fun q14 => ?_)
          · have h := h.1 q14
            refine mj_r_iconst (x := 0) d_Mo_has_59 rfl ?_
            exact mj_r_zret d_Mo_has_60 rfl (by decide) (mj_q_ret h)
          · have h := h.2 q14
            refine mj_r_iload_n d_Mo_has_41 rfl ?_
            refine mj_r_aload_n d_Mo_has_42 rfl ?_
            refine mj_r_iload_n d_Mo_has_43 rfl ?_
            refine mj_q_V1i d_Mo_has_44 h_Mo_lengthOf (.inl mw_682) mw_684 mw_25 rfl rfl rfl hn rfl rfl (mj_wk h (fun v w15 h => ?_))
            obtain ⟨x16, rfl, h⟩ := h
            refine ⟨x16, rfl, ?_⟩
            obtain ⟨q17, h⟩ := h
            refine mj_s_icmp_gt (tgt := 59) d_Mo_has_47 (by decide) q13 q17 (fun q18 => ?_) (fun q18 => ?_)
            · have h := h.1 q18
              refine mj_r_iconst (x := 0) d_Mo_has_59 rfl ?_
              exact mj_r_zret d_Mo_has_60 rfl (by decide) (mj_q_ret h)
            · have h := h.2 q18
              refine mj_r_aload_n d_Mo_has_50 rfl ?_
              refine mj_r_iload d_Mo_has_51 rfl ?_
              refine mj_q_V1i d_Mo_has_53 h_Mo_isSet (.inl mw_817) mw_819 mw_34 rfl rfl rfl hn rfl rfl (mj_wk h (fun v w19 h => ?_))
              obtain ⟨x20, rfl, h⟩ := h
              refine ⟨x20, rfl, ?_⟩
              obtain ⟨q21, h⟩ := h
              refine mj_s_if_ne (tgt := 61) d_Mo_has_56 (by decide) q21 (fun q22 => ?_) (fun q22 => ?_)
              · have h := h.1 q22
                refine mj_r_iconst (x := 0) d_Mo_has_59 rfl ?_
                exact mj_r_zret d_Mo_has_60 rfl (by decide) (mj_q_ret h)
              · have h := h.2 q22
                refine mj_r_aload_n d_Mo_has_61 rfl ?_
                refine mj_r_iload_n d_Mo_has_62 rfl ?_
                refine mj_r_iload_n d_Mo_has_63 rfl ?_
                refine mj_r_iload_n d_Mo_has_64 rfl ?_
                refine mj_r_iload d_Mo_has_65 rfl ?_
                refine mj_q_V4i d_Mo_has_67 h_Mo_holds (.inl mw_805) mw_807 mw_33 rfl rfl rfl hn rfl rfl (mj_wk h (fun v w23 h => ?_))
                obtain ⟨x24, rfl, h⟩ := h
                refine ⟨x24, rfl, ?_⟩
                obtain ⟨q25, h⟩ := h
                exact mj_r_zret d_Mo_has_70 rfl q25 (mj_q_ret h)
        · have h := h.2 q12
          refine mj_r_iconst (x := 0) d_Mo_has_59 rfl ?_
          exact mj_r_zret d_Mo_has_60 rfl (by decide) (mj_q_ret h)
    · have h := h.2 q8
      refine mj_r_iconst (x := 0) d_Mo_has_59 rfl ?_
      exact mj_r_zret d_Mo_has_60 rfl (by decide) (mj_q_ret h)
  · have h := h.2 q4
    refine mj_r_iconst (x := 0) d_Mo_has_9 rfl ?_
    refine mj_r_goto (tgt := 14) d_Mo_has_10 (by decide) ?_
    refine mj_q_put d_Mo_has_14 f_21_1 (mj_fit_I _) (.inl mw_709) rfl hn (fun w26 e27 => ?_)
    have h := h w26 e27
    refine mj_r_aload_n d_Mo_has_17 rfl ?_
    refine mj_q_geti d_Mo_has_18 f_21_1 (.inl mw_709) rfl hn ?_
    obtain ⟨q28, h⟩ := h
    refine mj_s_if_ne (tgt := 59) d_Mo_has_21 (by decide) q28 (fun q29 => ?_) (fun q29 => ?_)
    · have h := h.1 q29
      refine mj_r_iload_n d_Mo_has_24 rfl ?_
      refine mj_r_iconst (x := (-1)) d_Mo_has_25 rfl ?_
      obtain ⟨q30, h⟩ := h
      refine mj_s_icmp_lt (tgt := 59) d_Mo_has_26 (by decide) q30 (mj_ik (by decide)) (fun q31 => ?_) (fun q31 => ?_)
      · have h := h.1 q31
        refine mj_r_iconst (x := 0) d_Mo_has_59 rfl ?_
        exact mj_r_zret d_Mo_has_60 rfl (by decide) (mj_q_ret h)
      · have h := h.2 q31
        refine mj_r_iload_n d_Mo_has_29 rfl ?_
        refine mj_r_aload_n d_Mo_has_30 rfl ?_
        refine mj_q_geti d_Mo_has_31 f_21_2 (.inl mw_710) rfl hn ?_
        obtain ⟨q32, h⟩ := h
        refine mj_s_icmp_ge (tgt := 59) d_Mo_has_34 (by decide) q30 q32 (fun q33 => ?_) (fun q33 => ?_)
        · have h := h.1 q33
          refine mj_r_iload_n d_Mo_has_37 rfl ?_
          obtain ⟨q34, h⟩ := h
          refine mj_s_if_lt (tgt := 59) d_Mo_has_38 (by decide) q34 (fun q35 => ?_) (fun q35 => ?_)
          · have h := h.1 q35
            refine mj_r_iconst (x := 0) d_Mo_has_59 rfl ?_
            exact mj_r_zret d_Mo_has_60 rfl (by decide) (mj_q_ret h)
          · have h := h.2 q35
            refine mj_r_iload_n d_Mo_has_41 rfl ?_
            refine mj_r_aload_n d_Mo_has_42 rfl ?_
            refine mj_r_iload_n d_Mo_has_43 rfl ?_
            refine mj_q_V1i d_Mo_has_44 h_Mo_lengthOf (.inl mw_682) mw_684 mw_25 rfl rfl rfl hn rfl rfl (mj_wk h (fun v w36 h => ?_))
            obtain ⟨x37, rfl, h⟩ := h
            refine ⟨x37, rfl, ?_⟩
            obtain ⟨q38, h⟩ := h
            refine mj_s_icmp_gt (tgt := 59) d_Mo_has_47 (by decide) q34 q38 (fun q39 => ?_) (fun q39 => ?_)
            · have h := h.1 q39
              refine mj_r_iconst (x := 0) d_Mo_has_59 rfl ?_
              exact mj_r_zret d_Mo_has_60 rfl (by decide) (mj_q_ret h)
            · have h := h.2 q39
              refine mj_r_aload_n d_Mo_has_50 rfl ?_
              refine mj_r_iload d_Mo_has_51 rfl ?_
              refine mj_q_V1i d_Mo_has_53 h_Mo_isSet (.inl mw_817) mw_819 mw_34 rfl rfl rfl hn rfl rfl (mj_wk h (fun v w40 h => ?_))
              obtain ⟨x41, rfl, h⟩ := h
              refine ⟨x41, rfl, ?_⟩
              obtain ⟨q42, h⟩ := h
              refine mj_s_if_ne (tgt := 61) d_Mo_has_56 (by decide) q42 (fun q43 => ?_) (fun q43 => ?_)
              · have h := h.1 q43
                refine mj_r_iconst (x := 0) d_Mo_has_59 rfl ?_
                exact mj_r_zret d_Mo_has_60 rfl (by decide) (mj_q_ret h)
              · have h := h.2 q43
                refine mj_r_aload_n d_Mo_has_61 rfl ?_
                refine mj_r_iload_n d_Mo_has_62 rfl ?_
                refine mj_r_iload_n d_Mo_has_63 rfl ?_
                refine mj_r_iload_n d_Mo_has_64 rfl ?_
                refine mj_r_iload d_Mo_has_65 rfl ?_
                refine mj_q_V4i d_Mo_has_67 h_Mo_holds (.inl mw_805) mw_807 mw_33 rfl rfl rfl hn rfl rfl (mj_wk h (fun v w44 h => ?_))
                obtain ⟨x45, rfl, h⟩ := h
                refine ⟨x45, rfl, ?_⟩
                obtain ⟨q46, h⟩ := h
                exact mj_r_zret d_Mo_has_70 rfl q46 (mj_q_ret h)
        · have h := h.2 q33
          refine mj_r_iconst (x := 0) d_Mo_has_59 rfl ?_
          exact mj_r_zret d_Mo_has_60 rfl (by decide) (mj_q_ret h)
    · have h := h.2 q29
      refine mj_r_iconst (x := 0) d_Mo_has_59 rfl ?_
      exact mj_r_zret d_Mo_has_60 rfl (by decide) (mj_q_ret h)
theorem v_Mo_leap_0 {g : mj_G} {nn d : Nat} {xs : mj_M} {Post : Option mj_V → mj_w → Prop} (hn : 33 ≤ nn) {w : mj_w} {l1 l2 : Int}
    (h : ∀ w1, w1 = mj_wu w 21 1 0 0 → mj_J g y_Mo_isSet d 0 0 (0, [some (mj_R 21), some (.inl l1)], [], mj_mem nn xs w1) (mj_P nn xs (fun v w3 => ∃ x4 : Int, v = some (.inl x4) ∧ (mj_i x4 ∧ (x4 = 0 → (mj_J g y_Mo_refuse d 0 0 (0, [some (mj_R 21), some (.inl 1)], [], mj_mem nn xs w3) (mj_P nn xs (fun v w7 => ∃ x8 : Int, v = some (.inl x8) ∧ (Post (some (.inl x8)) w7))))) ∧ (¬ x4 = 0 → (mj_J g y_Mo_isNonterminal d 0 0 (0, [some (.inl l2)], [], mj_mem nn xs w3) (mj_P nn xs (fun v w9 => ∃ x10 : Int, v = some (.inl x10) ∧ (mj_i x10 ∧ (x10 = 0 → (mj_J g y_Mo_refuse d 0 0 (0, [some (mj_R 21), some (.inl 1)], [], mj_mem nn xs w9) (mj_P nn xs (fun v w13 => ∃ x14 : Int, v = some (.inl x14) ∧ (Post (some (.inl x14)) w13))))) ∧ (¬ x10 = 0 → (mj_i (w9 21 0 0) ∧ ((w9 21 0 0) = 0 → (Post (some (.inl ((-1)))) w9)) ∧ (¬ (w9 21 0 0) = 0 → (mj_i l1 ∧ mj_i (w9 21 6 0) ∧ (l1 < (w9 21 6 0) → (mj_J g y_Mo_leapOf d 0 0 (0, [some (mj_R 21), some (.inl l1), some (.inl l2), none, none, none, none, none, none, none, none, none], [], mj_mem nn xs w9) (mj_P nn xs (fun v w21 => ∃ x22 : Int, v = some (.inl x22) ∧ (mj_i x22 ∧ (x22 < 0 → (Post (some (.inl ((-1)))) w21)) ∧ (¬ x22 < 0 → (0 ≤ x22 ∧ mj_i (x22 % 52) ∧ 0 ≤ (x22 % 52) ∧ Post (some (.inl (((1000 * (x22 / 52)) + (100 * ((x22 % 52) / 13))) + (x22 % 13)))) w21))))))) ∧ (¬ l1 < (w9 21 6 0) → (Post (some (.inl ((-1)))) w9))))))))))))))) :
    mj_J g y_Mo_leap (d + 1) 0 0 (0, [some (mj_R 21), some (.inl l1), some (.inl l2), none], [], mj_mem nn xs w) (mj_P nn xs Post) := by
  refine mj_r_aload_n d_Mo_leap_0 rfl ?_
  refine mj_r_iconst (x := 0) d_Mo_leap_1 rfl ?_
  refine mj_q_put d_Mo_leap_2 f_21_1 (mj_fit_I _) (.inl mw_709) rfl hn (fun w1 e2 => ?_)
  have h := h w1 e2
  refine mj_r_aload_n d_Mo_leap_5 rfl ?_
  refine mj_r_iload_n d_Mo_leap_6 rfl ?_
  refine mj_q_V1i d_Mo_leap_7 h_Mo_isSet (.inl mw_817) mw_819 mw_34 rfl rfl rfl hn rfl rfl (mj_wk h (fun v w3 h => ?_))
  obtain ⟨x4, rfl, h⟩ := h
  refine ⟨x4, rfl, ?_⟩
  obtain ⟨q5, h⟩ := h
  refine mj_s_if_eq (tgt := 20) d_Mo_leap_10 (by decide) q5 (fun q6 => ?_) (fun q6 => ?_)
  · have h := h.1 q6
    refine mj_r_aload_n d_Mo_leap_20 rfl ?_
    refine mj_r_iconst (x := 1) d_Mo_leap_21 rfl ?_
    refine mj_q_V1i d_Mo_leap_22 h_Mo_refuse (.inl mw_774) mw_776 mw_30 rfl rfl rfl hn rfl rfl (mj_wk h (fun v w7 h => ?_))
    obtain ⟨x8, rfl, h⟩ := h
    refine ⟨x8, rfl, ?_⟩
    exact mj_r_iret d_Mo_leap_25 rfl (mj_q_ret h)
  · have h := h.2 q6
    refine mj_r_iload_n d_Mo_leap_13 rfl ?_
    refine mj_q_S1i d_Mo_leap_14 h_Mo_isNonterminal (.inl mw_694) mw_695 rfl rfl (mj_wk h (fun v w9 h => ?_))
    obtain ⟨x10, rfl, h⟩ := h
    refine ⟨x10, rfl, ?_⟩
    obtain ⟨q11, h⟩ := h
    refine mj_s_if_ne (tgt := 26) d_Mo_leap_17 (by decide) q11 (fun q12 => ?_) (fun q12 => ?_)
    · have h := h.1 q12
      refine mj_r_aload_n d_Mo_leap_20 rfl ?_
      refine mj_r_iconst (x := 1) d_Mo_leap_21 rfl ?_
      refine mj_q_V1i d_Mo_leap_22 h_Mo_refuse (.inl mw_774) mw_776 mw_30 rfl rfl rfl hn rfl rfl (mj_wk h (fun v w13 h => ?_))
      obtain ⟨x14, rfl, h⟩ := h
      refine ⟨x14, rfl, ?_⟩
      exact mj_r_iret d_Mo_leap_25 rfl (mj_q_ret h)
    · have h := h.2 q12
      refine mj_r_aload_n d_Mo_leap_26 rfl ?_
      refine mj_q_geti d_Mo_leap_27 f_21_0 (.inl mw_708) rfl hn ?_
      obtain ⟨q15, h⟩ := h
      refine mj_s_if_eq (tgt := 50) d_Mo_leap_30 (by decide) q15 (fun q16 => ?_) (fun q16 => ?_)
      · have h := h.1 q16
        refine mj_r_iconst (x := (-1)) d_Mo_leap_50 rfl ?_
        refine mj_e_istore_n (lv' := [some (mj_R 21), some (.inl l1), some (.inl l2), some (.inl ((-1)))]) d_Mo_leap_51 rfl rfl ?_
        refine mj_r_iload_n d_Mo_leap_52 rfl ?_
        refine mj_s_if_ge (tgt := 60) d_Mo_leap_53 (by decide) (mj_ik (by decide)) (fun q17 => ?_) (fun q17 => absurd (by decide) q17)
        refine mj_r_iconst (x := (-1)) d_Mo_leap_56 rfl ?_
        refine mj_r_goto (tgt := 84) d_Mo_leap_57 (by decide) ?_
        exact mj_r_iret d_Mo_leap_84 rfl (mj_q_ret h)
      · have h := h.2 q16
        refine mj_r_iload_n d_Mo_leap_33 rfl ?_
        refine mj_r_aload_n d_Mo_leap_34 rfl ?_
        refine mj_q_geti d_Mo_leap_35 f_21_6 (.inl mw_714) rfl hn ?_
        obtain ⟨q18, h⟩ := h
        obtain ⟨q19, h⟩ := h
        refine mj_s_icmp_ge (tgt := 50) d_Mo_leap_38 (by decide) q18 q19 (fun q20 => ?_) (fun q20 => ?_)
        · have h := h.1 q20
          refine mj_r_aload_n d_Mo_leap_41 rfl ?_
          refine mj_r_iload_n d_Mo_leap_42 rfl ?_
          refine mj_r_iload_n d_Mo_leap_43 rfl ?_
          refine mj_q_V2i d_Mo_leap_44 h_Mo_leapOf (.inl mw_704) mw_706 mw_29 rfl rfl rfl hn rfl rfl (mj_wk h (fun v w21 h => ?_))
          obtain ⟨x22, rfl, h⟩ := h
          refine ⟨x22, rfl, ?_⟩
          refine mj_r_goto (tgt := 51) d_Mo_leap_47 (by decide) ?_
          refine mj_e_istore_n (lv' := [some (mj_R 21), some (.inl l1), some (.inl l2), some (.inl x22)]) d_Mo_leap_51 rfl rfl ?_
          refine mj_r_iload_n d_Mo_leap_52 rfl ?_
          obtain ⟨q23, h⟩ := h
          refine mj_s_if_ge (tgt := 60) d_Mo_leap_53 (by decide) q23 (fun q24 => ?_) (fun q24 => ?_)
          · have h := h.1 q24
            refine mj_r_iconst (x := (-1)) d_Mo_leap_56 rfl ?_
            refine mj_r_goto (tgt := 84) d_Mo_leap_57 (by decide) ?_
            exact mj_r_iret d_Mo_leap_84 rfl (mj_q_ret h)
          · have h := h.2 q24
            refine mj_r_sipush (x := 1000) d_Mo_leap_60 (by decide) ?_
            refine mj_r_iload_n d_Mo_leap_63 rfl ?_
            refine mj_r_bipush (x := 52) d_Mo_leap_64 (by decide) ?_
            obtain ⟨q25, h⟩ := h
            refine mj_r_idiv d_Mo_leap_66 q23 (mj_ik (by decide)) q25 (by decide) ?_
            refine mj_r_imul d_Mo_leap_67 ?_
            refine mj_r_bipush (x := 100) d_Mo_leap_68 (by decide) ?_
            refine mj_r_iload_n d_Mo_leap_70 rfl ?_
            refine mj_r_bipush (x := 52) d_Mo_leap_71 (by decide) ?_
            refine mj_r_irem d_Mo_leap_73 q23 (mj_ik (by decide)) q25 (by decide) ?_
            refine mj_r_bipush (x := 13) d_Mo_leap_74 (by decide) ?_
            obtain ⟨q26, h⟩ := h
            obtain ⟨q27, h⟩ := h
            refine mj_r_idiv d_Mo_leap_76 q26 (mj_ik (by decide)) q27 (by decide) ?_
            refine mj_r_imul d_Mo_leap_77 ?_
            refine mj_r_iadd d_Mo_leap_78 ?_
            refine mj_r_iload_n d_Mo_leap_79 rfl ?_
            refine mj_r_bipush (x := 13) d_Mo_leap_80 (by decide) ?_
            refine mj_r_irem d_Mo_leap_82 q23 (mj_ik (by decide)) q25 (by decide) ?_
            refine mj_r_iadd d_Mo_leap_83 ?_
            exact mj_r_iret d_Mo_leap_84 rfl (mj_q_ret h)
        · have h := h.2 q20
          refine mj_r_iconst (x := (-1)) d_Mo_leap_50 rfl ?_
          refine mj_e_istore_n (lv' := [some (mj_R 21), some (.inl l1), some (.inl l2), some (.inl ((-1)))]) d_Mo_leap_51 rfl rfl ?_
          refine mj_r_iload_n d_Mo_leap_52 rfl ?_
          refine mj_s_if_ge (tgt := 60) d_Mo_leap_53 (by decide) (mj_ik (by decide)) (fun q28 => ?_) (fun q28 => absurd (by decide) q28)
          refine mj_r_iconst (x := (-1)) d_Mo_leap_56 rfl ?_
          refine mj_r_goto (tgt := 84) d_Mo_leap_57 (by decide) ?_
          exact mj_r_iret d_Mo_leap_84 rfl (mj_q_ret h)
theorem v_Mo_ways_0 {g : mj_G} {nn d : Nat} {xs : mj_M} {Post : Option mj_V → mj_w → Prop} (hn : 33 ≤ nn) {w : mj_w} {l1 l2 l3 : Int}
    (h : ∀ w1, w1 = mj_wu w 21 1 0 0 → mj_J g y_Mo_isStretch d 0 0 (0, [some (mj_R 21), some (.inl l1), some (.inl l2), some (.inl l3)], [], mj_mem nn xs w1) (mj_P nn xs (fun v w3 => ∃ x4 : Int, v = some (.inl x4) ∧ (mj_i x4 ∧ (x4 = 0 → (mj_J g y_Mo_refuse d 0 0 (0, [some (mj_R 21), some (.inl 1)], [], mj_mem nn xs w3) (mj_P nn xs (fun v w7 => ∃ x8 : Int, v = some (.inl x8) ∧ (Post (some (.inl x8)) w7))))) ∧ (¬ x4 = 0 → (mj_J g y_Mo_work d 0 0 (0, [some (mj_R 21), none, none, none, none, none, none, none], [], mj_mem nn xs w3) (mj_P nn xs (fun v w9 => v = none ∧ (mj_J g y_Mo_ways (d + 1) 0 0 (31, [some (mj_R 21), some (.inl l1), some (.inl l2), some (.inl l3), some (.inl 0), some (.inl 0)], [], mj_mem nn xs w9) (mj_P nn xs Post)))))))))) :
    mj_J g y_Mo_ways (d + 1) 0 0 (0, [some (mj_R 21), some (.inl l1), some (.inl l2), some (.inl l3), none, none], [], mj_mem nn xs w) (mj_P nn xs Post) := by
  refine mj_r_aload_n d_Mo_ways_0 rfl ?_
  refine mj_r_iconst (x := 0) d_Mo_ways_1 rfl ?_
  refine mj_q_put d_Mo_ways_2 f_21_1 (mj_fit_I _) (.inl mw_709) rfl hn (fun w1 e2 => ?_)
  have h := h w1 e2
  refine mj_r_aload_n d_Mo_ways_5 rfl ?_
  refine mj_r_iload_n d_Mo_ways_6 rfl ?_
  refine mj_r_iload_n d_Mo_ways_7 rfl ?_
  refine mj_r_iload_n d_Mo_ways_8 rfl ?_
  refine mj_q_V3i d_Mo_ways_9 h_Mo_isStretch (.inl mw_833) mw_835 mw_35 rfl rfl rfl hn rfl rfl (mj_wk h (fun v w3 h => ?_))
  obtain ⟨x4, rfl, h⟩ := h
  refine ⟨x4, rfl, ?_⟩
  obtain ⟨q5, h⟩ := h
  refine mj_s_if_ne (tgt := 21) d_Mo_ways_12 (by decide) q5 (fun q6 => ?_) (fun q6 => ?_)
  · have h := h.1 q6
    refine mj_r_aload_n d_Mo_ways_15 rfl ?_
    refine mj_r_iconst (x := 1) d_Mo_ways_16 rfl ?_
    refine mj_q_V1i d_Mo_ways_17 h_Mo_refuse (.inl mw_774) mw_776 mw_30 rfl rfl rfl hn rfl rfl (mj_wk h (fun v w7 h => ?_))
    obtain ⟨x8, rfl, h⟩ := h
    refine ⟨x8, rfl, ?_⟩
    exact mj_r_iret d_Mo_ways_20 rfl (mj_q_ret h)
  · have h := h.2 q6
    refine mj_r_aload_n d_Mo_ways_21 rfl ?_
    refine mj_q_V0v d_Mo_ways_22 h_Mo_work (.inl mw_837) mw_839 mw_36 rfl rfl rfl hn rfl rfl (mj_wk h (fun v w9 h => ?_))
    obtain ⟨rfl, h⟩ := h
    refine ⟨rfl, ?_⟩
    refine mj_r_iconst (x := 0) d_Mo_ways_25 rfl ?_
    refine mj_e_istore (lv' := [some (mj_R 21), some (.inl l1), some (.inl l2), some (.inl l3), some (.inl 0), none]) d_Mo_ways_26 rfl rfl ?_
    refine mj_r_iconst (x := 0) d_Mo_ways_28 rfl ?_
    refine mj_e_istore (lv' := [some (mj_R 21), some (.inl l1), some (.inl l2), some (.inl l3), some (.inl 0), some (.inl 0)]) d_Mo_ways_29 rfl rfl ?_
    exact h
theorem v_Mo_ways_31 {g : mj_G} {nn d : Nat} {xs : mj_M} {Post : Option mj_V → mj_w → Prop} (hn : 33 ≤ nn) {w : mj_w} {l1 l2 l3 l4 l5 : Int}
    (h : mj_i l5 ∧ mj_i (w 21 2 0) ∧ (l5 < (w 21 2 0) → (0 ≤ l5 ∧ l5 < 10 ∧ mj_i (w 22 l5 0) ∧ mj_i l1 ∧ ((w 22 l5 0) = l1 → (mj_J g y_Mo_waysBy d 0 0 (0, [some (mj_R 21), some (.inl l5), some (.inl l2), some (.inl l3), none, none], [], mj_mem nn xs w) (mj_P nn xs (fun v w9 => ∃ x10 : Int, v = some (.inl x10) ∧ (mj_J g y_Mo_ways (d + 1) 0 0 (31, [some (mj_R 21), some (.inl l1), some (.inl l2), some (.inl l3), some (.inl (l4 + x10)), some (.inl (l5 + 1))], [], mj_mem nn xs w9) (mj_P nn xs Post)))))) ∧ (¬ (w 22 l5 0) = l1 → (mj_J g y_Mo_ways (d + 1) 0 0 (31, [some (mj_R 21), some (.inl l1), some (.inl l2), some (.inl l3), some (.inl (l4 + 0)), some (.inl (l5 + 1))], [], mj_mem nn xs w) (mj_P nn xs Post))))) ∧ (¬ l5 < (w 21 2 0) → (Post (some (.inl l4)) w))) :
    mj_J g y_Mo_ways (d + 1) 0 0 (31, [some (mj_R 21), some (.inl l1), some (.inl l2), some (.inl l3), some (.inl l4), some (.inl l5)], [], mj_mem nn xs w) (mj_P nn xs Post) := by
  refine mj_r_iload d_Mo_ways_31 rfl ?_
  refine mj_r_aload_n d_Mo_ways_33 rfl ?_
  refine mj_q_geti d_Mo_ways_34 f_21_2 (.inl mw_710) rfl hn ?_
  obtain ⟨q1, h⟩ := h
  obtain ⟨q2, h⟩ := h
  refine mj_s_icmp_ge (tgt := 74) d_Mo_ways_37 (by decide) q1 q2 (fun q3 => ?_) (fun q3 => ?_)
  · have h := h.1 q3
    refine mj_r_iload d_Mo_ways_40 rfl ?_
    refine mj_r_aload_n d_Mo_ways_42 rfl ?_
    refine mj_q_getr d_Mo_ways_43 f_21_3 (.inl mw_711) rfl hn ?_
    refine mj_r_iload d_Mo_ways_46 rfl ?_
    obtain ⟨q4, h⟩ := h
    obtain ⟨q5, h⟩ := h
    refine mj_q_iald d_Mo_ways_48 rfl rfl hn rfl q4 q5 ?_
    refine mj_r_iload_n d_Mo_ways_49 rfl ?_
    obtain ⟨q6, h⟩ := h
    obtain ⟨q7, h⟩ := h
    refine mj_s_icmp_ne (tgt := 64) d_Mo_ways_50 (by decide) q6 q7 (fun q8 => ?_) (fun q8 => ?_)
    · have h := h.1 q8
      refine mj_r_aload_n d_Mo_ways_53 rfl ?_
      refine mj_r_iload d_Mo_ways_54 rfl ?_
      refine mj_r_iload_n d_Mo_ways_56 rfl ?_
      refine mj_r_iload_n d_Mo_ways_57 rfl ?_
      refine mj_q_V3i d_Mo_ways_58 h_Mo_waysBy (.inl mw_848) mw_850 mw_38 rfl rfl rfl hn rfl rfl (mj_wk h (fun v w9 h => ?_))
      obtain ⟨x10, rfl, h⟩ := h
      refine ⟨x10, rfl, ?_⟩
      refine mj_r_goto (tgt := 65) d_Mo_ways_61 (by decide) ?_
      refine mj_r_iadd d_Mo_ways_65 ?_
      refine mj_e_istore (lv' := [some (mj_R 21), some (.inl l1), some (.inl l2), some (.inl l3), some (.inl (l4 + x10)), some (.inl l5)]) d_Mo_ways_66 rfl rfl ?_
      refine mj_e_iinc (lv' := [some (mj_R 21), some (.inl l1), some (.inl l2), some (.inl l3), some (.inl (l4 + x10)), some (.inl (l5 + 1))]) d_Mo_ways_68 rfl rfl ?_
      refine mj_r_goto (tgt := 31) d_Mo_ways_71 (by decide) ?_
      exact h
    · have h := h.2 q8
      refine mj_r_iconst (x := 0) d_Mo_ways_64 rfl ?_
      refine mj_r_iadd d_Mo_ways_65 ?_
      refine mj_e_istore (lv' := [some (mj_R 21), some (.inl l1), some (.inl l2), some (.inl l3), some (.inl (l4 + 0)), some (.inl l5)]) d_Mo_ways_66 rfl rfl ?_
      refine mj_e_iinc (lv' := [some (mj_R 21), some (.inl l1), some (.inl l2), some (.inl l3), some (.inl (l4 + 0)), some (.inl (l5 + 1))]) d_Mo_ways_68 rfl rfl ?_
      refine mj_r_goto (tgt := 31) d_Mo_ways_71 (by decide) ?_
      exact h
  · have h := h.2 q3
    refine mj_r_iload d_Mo_ways_74 rfl ?_
    exact mj_r_iret d_Mo_ways_76 rfl (mj_q_ret h)
theorem v_Mo_isStretch_0 {g : mj_G} {nn d : Nat} {xs : mj_M} {Post : Option mj_V → mj_w → Prop} (hn : 33 ≤ nn) {w : mj_w} {l1 l2 l3 : Int}
    (h : mj_J g y_Mo_isNonterminal d 0 0 (0, [some (.inl l1)], [], mj_mem nn xs w) (mj_P nn xs (fun v w1 => ∃ x2 : Int, v = some (.inl x2) ∧ (mj_i x2 ∧ (x2 = 0 → (Post (some (.inl 0)) w1)) ∧ (¬ x2 = 0 → (mj_i l2 ∧ (l2 < 0 → (Post (some (.inl 0)) w1)) ∧ (¬ l2 < 0 → (mj_i l3 ∧ (l3 < l2 → (Post (some (.inl 0)) w1)) ∧ (¬ l3 < l2 → (mj_i (w1 21 6 0) ∧ ((w1 21 6 0) < l3 → (Post (some (.inl 0)) w1)) ∧ (¬ (w1 21 6 0) < l3 → (Post (some (.inl 1)) w1)))))))))))) :
    mj_J g y_Mo_isStretch (d + 1) 0 0 (0, [some (mj_R 21), some (.inl l1), some (.inl l2), some (.inl l3)], [], mj_mem nn xs w) (mj_P nn xs Post) := by
  refine mj_r_iload_n d_Mo_isStretch_0 rfl ?_
  refine mj_q_S1i d_Mo_isStretch_1 h_Mo_isNonterminal (.inl mw_694) mw_695 rfl rfl (mj_wk h (fun v w1 h => ?_))
  obtain ⟨x2, rfl, h⟩ := h
  refine ⟨x2, rfl, ?_⟩
  obtain ⟨q3, h⟩ := h
  refine mj_s_if_eq (tgt := 28) d_Mo_isStretch_4 (by decide) q3 (fun q4 => ?_) (fun q4 => ?_)
  · have h := h.1 q4
    refine mj_r_iconst (x := 0) d_Mo_isStretch_28 rfl ?_
    exact mj_r_zret d_Mo_isStretch_29 rfl (by decide) (mj_q_ret h)
  · have h := h.2 q4
    refine mj_r_iload_n d_Mo_isStretch_7 rfl ?_
    obtain ⟨q5, h⟩ := h
    refine mj_s_if_lt (tgt := 28) d_Mo_isStretch_8 (by decide) q5 (fun q6 => ?_) (fun q6 => ?_)
    · have h := h.1 q6
      refine mj_r_iconst (x := 0) d_Mo_isStretch_28 rfl ?_
      exact mj_r_zret d_Mo_isStretch_29 rfl (by decide) (mj_q_ret h)
    · have h := h.2 q6
      refine mj_r_iload_n d_Mo_isStretch_11 rfl ?_
      refine mj_r_iload_n d_Mo_isStretch_12 rfl ?_
      obtain ⟨q7, h⟩ := h
      refine mj_s_icmp_gt (tgt := 28) d_Mo_isStretch_13 (by decide) q5 q7 (fun q8 => ?_) (fun q8 => ?_)
      · have h := h.1 q8
        refine mj_r_iconst (x := 0) d_Mo_isStretch_28 rfl ?_
        exact mj_r_zret d_Mo_isStretch_29 rfl (by decide) (mj_q_ret h)
      · have h := h.2 q8
        refine mj_r_iload_n d_Mo_isStretch_16 rfl ?_
        refine mj_r_aload_n d_Mo_isStretch_17 rfl ?_
        refine mj_q_geti d_Mo_isStretch_18 f_21_6 (.inl mw_714) rfl hn ?_
        obtain ⟨q9, h⟩ := h
        refine mj_s_icmp_gt (tgt := 28) d_Mo_isStretch_21 (by decide) q7 q9 (fun q10 => ?_) (fun q10 => ?_)
        · have h := h.1 q10
          refine mj_r_iconst (x := 0) d_Mo_isStretch_28 rfl ?_
          exact mj_r_zret d_Mo_isStretch_29 rfl (by decide) (mj_q_ret h)
        · have h := h.2 q10
          refine mj_r_iconst (x := 1) d_Mo_isStretch_24 rfl ?_
          refine mj_r_goto (tgt := 29) d_Mo_isStretch_25 (by decide) ?_
          exact mj_r_zret d_Mo_isStretch_29 rfl (by decide) (mj_q_ret h)
theorem v_Mo_work_0 {g : mj_G} {nn d : Nat} {xs : mj_M} {Post : Option mj_V → mj_w → Prop} (hn : 33 ≤ nn) {w : mj_w}
    (h : mj_i (w 21 9 0) ∧ ((w 21 9 0) = 0 → (∀ w3, w3 = mj_wu w 21 9 0 1 → mj_J g y_Mo_findDerived d 0 0 (0, [some (mj_R 21), none, none, none, none, none], [], mj_mem nn xs w3) (mj_P nn xs (fun v w5 => v = none ∧ (mj_J g y_Mo_work (d + 1) 0 0 (19, [some (mj_R 21), some (.inl 0), none, none, none, none, none, none], [], mj_mem nn xs w5) (mj_P nn xs Post)))))) ∧ (¬ (w 21 9 0) = 0 → (Post none w))) :
    mj_J g y_Mo_work (d + 1) 0 0 (0, [some (mj_R 21), none, none, none, none, none, none, none], [], mj_mem nn xs w) (mj_P nn xs Post) := by
  refine mj_r_aload_n d_Mo_work_0 rfl ?_
  refine mj_q_geti d_Mo_work_1 f_21_9 (.inl mw_717) rfl hn ?_
  obtain ⟨q1, h⟩ := h
  refine mj_s_if_eq (tgt := 8) d_Mo_work_4 (by decide) q1 (fun q2 => ?_) (fun q2 => ?_)
  · have h := h.1 q2
    refine mj_r_aload_n d_Mo_work_8 rfl ?_
    refine mj_r_iconst (x := 1) d_Mo_work_9 rfl ?_
    refine mj_q_put d_Mo_work_10 f_21_9 (mj_fit_Z (by decide)) (.inl mw_717) rfl hn (fun w3 e4 => ?_)
    have h := h w3 e4
    refine mj_r_aload_n d_Mo_work_13 rfl ?_
    refine mj_q_V0v d_Mo_work_14 h_Mo_findDerived (.inl mw_841) mw_843 mw_37 rfl rfl rfl hn rfl rfl (mj_wk h (fun v w5 h => ?_))
    obtain ⟨rfl, h⟩ := h
    refine ⟨rfl, ?_⟩
    refine mj_r_iconst (x := 0) d_Mo_work_17 rfl ?_
    refine mj_e_istore_n (lv' := [some (mj_R 21), some (.inl 0), none, none, none, none, none, none]) d_Mo_work_18 rfl rfl ?_
    exact h
  · have h := h.2 q2
    exact mj_r_vret d_Mo_work_7 rfl (mj_q_ret h)
theorem v_Mo_work_19 {g : mj_G} {nn d : Nat} {xs : mj_M} {Post : Option mj_V → mj_w → Prop} (hn : 33 ≤ nn) {w : mj_w} {l1 : Int}
    (h : mj_i l1 ∧ (l1 < 845 → (0 ≤ l1 ∧ l1 < 845 ∧ (∀ w5, w5 = mj_wu w 28 l1 0 0 → mj_J g y_Mo_work (d + 1) 0 0 (19, [some (mj_R 21), some (.inl (l1 + 1)), none, none, none, none, none, none], [], mj_mem nn xs w5) (mj_P nn xs Post)))) ∧ (¬ l1 < 845 → (mj_J g y_Mo_work (d + 1) 0 0 (41, [some (mj_R 21), some (.inl 1), none, none, none, none, none, none], [], mj_mem nn xs w) (mj_P nn xs Post)))) :
    mj_J g y_Mo_work (d + 1) 0 0 (19, [some (mj_R 21), some (.inl l1), none, none, none, none, none, none], [], mj_mem nn xs w) (mj_P nn xs Post) := by
  refine mj_r_iload_n d_Mo_work_19 rfl ?_
  refine mj_r_sipush (x := 845) d_Mo_work_20 (by decide) ?_
  obtain ⟨q1, h⟩ := h
  refine mj_s_icmp_ge (tgt := 39) d_Mo_work_23 (by decide) q1 (mj_ik (by decide)) (fun q2 => ?_) (fun q2 => ?_)
  · have h := h.1 q2
    refine mj_r_aload_n d_Mo_work_26 rfl ?_
    refine mj_q_getr d_Mo_work_27 f_21_11 (.inl mw_719) rfl hn ?_
    refine mj_r_iload_n d_Mo_work_30 rfl ?_
    refine mj_r_iconst (x := 0) d_Mo_work_31 rfl ?_
    obtain ⟨q3, h⟩ := h
    obtain ⟨q4, h⟩ := h
    refine mj_q_zast d_Mo_work_32 rfl rfl hn rfl q3 q4 (by decide) (fun w5 e6 => ?_)
    have h := h w5 e6
    refine mj_e_iinc (lv' := [some (mj_R 21), some (.inl (l1 + 1)), none, none, none, none, none, none]) d_Mo_work_33 rfl rfl ?_
    refine mj_r_goto (tgt := 19) d_Mo_work_36 (by decide) ?_
    exact h
  · have h := h.2 q2
    refine mj_r_iconst (x := 1) d_Mo_work_39 rfl ?_
    refine mj_e_istore_n (lv' := [some (mj_R 21), some (.inl 1), none, none, none, none, none, none]) d_Mo_work_40 rfl rfl ?_
    exact h
theorem v_Mo_work_41 {g : mj_G} {nn d : Nat} {xs : mj_M} {Post : Option mj_V → mj_w → Prop} (hn : 33 ≤ nn) {w : mj_w} {l1 : Int}
    (h : mj_i l1 ∧ (l1 = 0 → (Post none w)) ∧ (¬ l1 = 0 → (mj_J g y_Mo_work (d + 1) 0 0 (49, [some (mj_R 21), some (.inl 0), some (.inl 0), none, none, none, none, none], [], mj_mem nn xs w) (mj_P nn xs Post)))) :
    mj_J g y_Mo_work (d + 1) 0 0 (41, [some (mj_R 21), some (.inl l1), none, none, none, none, none, none], [], mj_mem nn xs w) (mj_P nn xs Post) := by
  refine mj_r_iload_n d_Mo_work_41 rfl ?_
  obtain ⟨q1, h⟩ := h
  refine mj_s_if_eq (tgt := 158) d_Mo_work_42 (by decide) q1 (fun q2 => ?_) (fun q2 => ?_)
  · have h := h.1 q2
    exact mj_r_vret d_Mo_work_158 rfl (mj_q_ret h)
  · have h := h.2 q2
    refine mj_r_iconst (x := 0) d_Mo_work_45 rfl ?_
    refine mj_e_istore_n (lv' := [some (mj_R 21), some (.inl 0), none, none, none, none, none, none]) d_Mo_work_46 rfl rfl ?_
    refine mj_r_iconst (x := 0) d_Mo_work_47 rfl ?_
    refine mj_e_istore_n (lv' := [some (mj_R 21), some (.inl 0), some (.inl 0), none, none, none, none, none]) d_Mo_work_48 rfl rfl ?_
    exact h
theorem v_Mo_work_49 {g : mj_G} {nn d : Nat} {xs : mj_M} {Post : Option mj_V → mj_w → Prop} (hn : 33 ≤ nn) {w : mj_w} {l1 l2 : Int}
    (h : mj_i l2 ∧ (l2 < 5 → (mj_J g y_Mo_work (d + 1) 0 0 (56, [some (mj_R 21), some (.inl l1), some (.inl l2), some (.inl 0), none, none, none, none], [], mj_mem nn xs w) (mj_P nn xs Post))) ∧ (¬ l2 < 5 → (mj_J g y_Mo_work (d + 1) 0 0 (41, [some (mj_R 21), some (.inl l1), none, none, none, none, none, none], [], mj_mem nn xs w) (mj_P nn xs Post)))) :
    mj_J g y_Mo_work (d + 1) 0 0 (49, [some (mj_R 21), some (.inl l1), some (.inl l2), none, none, none, none, none], [], mj_mem nn xs w) (mj_P nn xs Post) := by
  refine mj_r_iload_n d_Mo_work_49 rfl ?_
  refine mj_r_iconst (x := 5) d_Mo_work_50 rfl ?_
  obtain ⟨q1, h⟩ := h
  refine mj_s_icmp_ge (tgt := 155) d_Mo_work_51 (by decide) q1 (mj_ik (by decide)) (fun q2 => ?_) (fun q2 => ?_)
  · have h := h.1 q2
    refine mj_r_iconst (x := 0) d_Mo_work_54 rfl ?_
    refine mj_e_istore_n (lv' := [some (mj_R 21), some (.inl l1), some (.inl l2), some (.inl 0), none, none, none, none]) d_Mo_work_55 rfl rfl ?_
    exact h
  · have h := h.2 q2
    refine mj_r_goto (tgt := 41) d_Mo_work_155 (by decide) ?_
    refine mj_r_sub (lv' := [some (mj_R 21), some (.inl l1), none, none, none, none, none, none]) ⟨.inr rfl, .inr rfl, .inl rfl, .inl rfl, .inl rfl, .inl rfl, .inl rfl, .inl rfl, trivial⟩ ?_
    exact h
theorem v_Mo_work_56 {g : mj_G} {nn d : Nat} {xs : mj_M} {Post : Option mj_V → mj_w → Prop} (hn : 33 ≤ nn) {w : mj_w} {l1 l2 l3 : Int}
    (h : mj_i l3 ∧ mj_i (w 21 6 0) ∧ ((w 21 6 0) < l3 → (mj_J g y_Mo_work (d + 1) 0 0 (49, [some (mj_R 21), some (.inl l1), some (.inl (l2 + 1)), none, none, none, none, none], [], mj_mem nn xs w) (mj_P nn xs Post))) ∧ (¬ (w 21 6 0) < l3 → (mj_J g y_Mo_work (d + 1) 0 0 (67, [some (mj_R 21), some (.inl l1), some (.inl l2), some (.inl l3), some (.inl l3), none, none, none], [], mj_mem nn xs w) (mj_P nn xs Post)))) :
    mj_J g y_Mo_work (d + 1) 0 0 (56, [some (mj_R 21), some (.inl l1), some (.inl l2), some (.inl l3), none, none, none, none], [], mj_mem nn xs w) (mj_P nn xs Post) := by
  refine mj_r_iload_n d_Mo_work_56 rfl ?_
  refine mj_r_aload_n d_Mo_work_57 rfl ?_
  refine mj_q_geti d_Mo_work_58 f_21_6 (.inl mw_714) rfl hn ?_
  obtain ⟨q1, h⟩ := h
  obtain ⟨q2, h⟩ := h
  refine mj_s_icmp_gt (tgt := 149) d_Mo_work_61 (by decide) q1 q2 (fun q3 => ?_) (fun q3 => ?_)
  · have h := h.1 q3
    refine mj_e_iinc (lv' := [some (mj_R 21), some (.inl l1), some (.inl (l2 + 1)), some (.inl l3), none, none, none, none]) d_Mo_work_149 rfl rfl ?_
    refine mj_r_goto (tgt := 49) d_Mo_work_152 (by decide) ?_
    refine mj_r_sub (lv' := [some (mj_R 21), some (.inl l1), some (.inl (l2 + 1)), none, none, none, none, none]) ⟨.inr rfl, .inr rfl, .inr rfl, .inl rfl, .inl rfl, .inl rfl, .inl rfl, .inl rfl, trivial⟩ ?_
    exact h
  · have h := h.2 q3
    refine mj_r_iload_n d_Mo_work_64 rfl ?_
    refine mj_e_istore (lv' := [some (mj_R 21), some (.inl l1), some (.inl l2), some (.inl l3), some (.inl l3), none, none, none]) d_Mo_work_65 rfl rfl ?_
    exact h
theorem v_Mo_work_67 {g : mj_G} {nn d : Nat} {xs : mj_M} {Post : Option mj_V → mj_w → Prop} (hn : 33 ≤ nn) {w : mj_w} {l1 l2 l3 l4 : Int}
    (h : mj_i l4 ∧ mj_i (w 21 6 0) ∧ ((w 21 6 0) < l4 → (mj_J g y_Mo_work (d + 1) 0 0 (56, [some (mj_R 21), some (.inl l1), some (.inl l2), some (.inl (l3 + 1)), none, none, none, none], [], mj_mem nn xs w) (mj_P nn xs Post))) ∧ (¬ (w 21 6 0) < l4 → (mj_J g y_Mo_node d 0 0 (0, [some (.inl l2), some (.inl l3), some (.inl l4)], [], mj_mem nn xs w) (mj_P nn xs (fun v w4 => ∃ x5 : Int, v = some (.inl x5) ∧ (0 ≤ x5 ∧ x5 < 845 ∧ mj_i (w4 28 x5 0) ∧ ((w4 28 x5 0) = 0 → (mj_J g y_Mo_sum d 0 0 (0, [some (mj_R 21), some (.inl l2), some (.inl l3), some (.inl l4), none, none, none, none, none, none], [], mj_mem nn xs w4) (mj_P nn xs (fun v w10 => ∃ x11 : Int, v = some (.inr (.inl x11)) ∧ (mj_l x11 ∧ (x11 < 0 → (mj_J g y_Mo_work (d + 1) 0 0 (67, [some (mj_R 21), some (.inl l1), some (.inl l2), some (.inl l3), some (.inl (l4 + 1)), none, none, none], [], mj_mem nn xs w10) (mj_P nn xs Post))) ∧ (¬ x11 < 0 → (∀ w14, w14 = mj_wu w10 28 x5 0 1 → ∀ w16, w16 = mj_wu w14 29 x5 0 x11 → mj_J g y_Mo_work (d + 1) 0 0 (67, [some (mj_R 21), some (.inl 1), some (.inl l2), some (.inl l3), some (.inl (l4 + 1)), none, none, none], [], mj_mem nn xs w16) (mj_P nn xs Post)))))))) ∧ (¬ (w4 28 x5 0) = 0 → (mj_J g y_Mo_work (d + 1) 0 0 (67, [some (mj_R 21), some (.inl l1), some (.inl l2), some (.inl l3), some (.inl (l4 + 1)), none, none, none], [], mj_mem nn xs w4) (mj_P nn xs Post))))))))) :
    mj_J g y_Mo_work (d + 1) 0 0 (67, [some (mj_R 21), some (.inl l1), some (.inl l2), some (.inl l3), some (.inl l4), none, none, none], [], mj_mem nn xs w) (mj_P nn xs Post) := by
  refine mj_r_iload d_Mo_work_67 rfl ?_
  refine mj_r_aload_n d_Mo_work_69 rfl ?_
  refine mj_q_geti d_Mo_work_70 f_21_6 (.inl mw_714) rfl hn ?_
  obtain ⟨q1, h⟩ := h
  obtain ⟨q2, h⟩ := h
  refine mj_s_icmp_gt (tgt := 143) d_Mo_work_73 (by decide) q1 q2 (fun q3 => ?_) (fun q3 => ?_)
  · have h := h.1 q3
    refine mj_e_iinc (lv' := [some (mj_R 21), some (.inl l1), some (.inl l2), some (.inl (l3 + 1)), some (.inl l4), none, none, none]) d_Mo_work_143 rfl rfl ?_
    refine mj_r_goto (tgt := 56) d_Mo_work_146 (by decide) ?_
    refine mj_r_sub (lv' := [some (mj_R 21), some (.inl l1), some (.inl l2), some (.inl (l3 + 1)), none, none, none, none]) ⟨.inr rfl, .inr rfl, .inr rfl, .inr rfl, .inl rfl, .inl rfl, .inl rfl, .inl rfl, trivial⟩ ?_
    exact h
  · have h := h.2 q3
    refine mj_r_iload_n d_Mo_work_76 rfl ?_
    refine mj_r_iload_n d_Mo_work_77 rfl ?_
    refine mj_r_iload d_Mo_work_78 rfl ?_
    refine mj_q_S3i d_Mo_work_80 h_Mo_node (.inl mw_845) mw_846 rfl rfl (mj_wk h (fun v w4 h => ?_))
    obtain ⟨x5, rfl, h⟩ := h
    refine ⟨x5, rfl, ?_⟩
    refine mj_e_istore (lv' := [some (mj_R 21), some (.inl l1), some (.inl l2), some (.inl l3), some (.inl l4), some (.inl x5), none, none]) d_Mo_work_83 rfl rfl ?_
    refine mj_r_aload_n d_Mo_work_85 rfl ?_
    refine mj_q_getr d_Mo_work_86 f_21_11 (.inl mw_719) rfl hn ?_
    refine mj_r_iload d_Mo_work_89 rfl ?_
    obtain ⟨q6, h⟩ := h
    obtain ⟨q7, h⟩ := h
    refine mj_q_zald d_Mo_work_91 rfl rfl hn rfl q6 q7 ?_
    obtain ⟨q8, h⟩ := h
    refine mj_s_if_eq (tgt := 101) d_Mo_work_92 (by decide) q8 (fun q9 => ?_) (fun q9 => ?_)
    · have h := h.1 q9
      refine mj_r_aload_n d_Mo_work_101 rfl ?_
      refine mj_r_iload_n d_Mo_work_102 rfl ?_
      refine mj_r_iload_n d_Mo_work_103 rfl ?_
      refine mj_r_iload d_Mo_work_104 rfl ?_
      refine mj_q_V3l d_Mo_work_106 h_Mo_sum (.inl mw_873) mw_875 mw_44 rfl rfl rfl hn rfl rfl (mj_wk h (fun v w10 h => ?_))
      obtain ⟨x11, rfl, h⟩ := h
      refine ⟨x11, rfl, ?_⟩
      refine mj_e_lstore (lv' := [some (mj_R 21), some (.inl l1), some (.inl l2), some (.inl l3), some (.inl l4), some (.inl x5), some (.inr (.inl x11)), none]) d_Mo_work_109 rfl rfl ?_
      refine mj_r_lload d_Mo_work_111 rfl ?_
      refine mj_r_lconst (x := 0) d_Mo_work_113 rfl ?_
      obtain ⟨q12, h⟩ := h
      refine mj_s_l_lt (tgt := 137) d_Mo_work_114 d_Mo_work_115 (by decide) q12 (mj_lk (by decide)) (fun q13 => ?_) (fun q13 => ?_)
      · have h := h.1 q13
        refine mj_e_iinc (lv' := [some (mj_R 21), some (.inl l1), some (.inl l2), some (.inl l3), some (.inl (l4 + 1)), some (.inl x5), some (.inr (.inl x11)), none]) d_Mo_work_137 rfl rfl ?_
        refine mj_r_goto (tgt := 67) d_Mo_work_140 (by decide) ?_
        refine mj_r_sub (lv' := [some (mj_R 21), some (.inl l1), some (.inl l2), some (.inl l3), some (.inl (l4 + 1)), none, none, none]) ⟨.inr rfl, .inr rfl, .inr rfl, .inr rfl, .inr rfl, .inl rfl, .inl rfl, .inl rfl, trivial⟩ ?_
        exact h
      · have h := h.2 q13
        refine mj_r_aload_n d_Mo_work_118 rfl ?_
        refine mj_q_getr d_Mo_work_119 f_21_11 (.inl mw_719) rfl hn ?_
        refine mj_r_iload d_Mo_work_122 rfl ?_
        refine mj_r_iconst (x := 1) d_Mo_work_124 rfl ?_
        refine mj_q_zast d_Mo_work_125 rfl rfl hn rfl q6 q7 (by decide) (fun w14 e15 => ?_)
        have h := h w14 e15
        refine mj_r_aload_n d_Mo_work_126 rfl ?_
        refine mj_q_getr d_Mo_work_127 f_21_12 (.inl mw_720) rfl hn ?_
        refine mj_r_iload d_Mo_work_130 rfl ?_
        refine mj_r_lload d_Mo_work_132 rfl ?_
        refine mj_q_last d_Mo_work_134 rfl rfl hn rfl q6 q7 (fun w16 e17 => ?_)
        have h := h w16 e17
        refine mj_r_iconst (x := 1) d_Mo_work_135 rfl ?_
        refine mj_e_istore_n (lv' := [some (mj_R 21), some (.inl 1), some (.inl l2), some (.inl l3), some (.inl l4), some (.inl x5), some (.inr (.inl x11)), none]) d_Mo_work_136 rfl rfl ?_
        refine mj_e_iinc (lv' := [some (mj_R 21), some (.inl 1), some (.inl l2), some (.inl l3), some (.inl (l4 + 1)), some (.inl x5), some (.inr (.inl x11)), none]) d_Mo_work_137 rfl rfl ?_
        refine mj_r_goto (tgt := 67) d_Mo_work_140 (by decide) ?_
        refine mj_r_sub (lv' := [some (mj_R 21), some (.inl 1), some (.inl l2), some (.inl l3), some (.inl (l4 + 1)), none, none, none]) ⟨.inr rfl, .inr rfl, .inr rfl, .inr rfl, .inr rfl, .inl rfl, .inl rfl, .inl rfl, trivial⟩ ?_
        exact h
    · have h := h.2 q9
      refine mj_r_ldc2v (x := (-1)) d_Mo_work_95 mw_872 (by decide) ?_
      refine mj_r_goto (tgt := 109) d_Mo_work_98 (by decide) ?_
      refine mj_e_lstore (lv' := [some (mj_R 21), some (.inl l1), some (.inl l2), some (.inl l3), some (.inl l4), some (.inl x5), some (.inr (.inl ((-1)))), none]) d_Mo_work_109 rfl rfl ?_
      refine mj_r_lload d_Mo_work_111 rfl ?_
      refine mj_r_lconst (x := 0) d_Mo_work_113 rfl ?_
      refine mj_s_l_lt (tgt := 137) d_Mo_work_114 d_Mo_work_115 (by decide) (mj_lk (by decide)) (mj_lk (by decide)) (fun q18 => ?_) (fun q18 => absurd (by decide) q18)
      refine mj_e_iinc (lv' := [some (mj_R 21), some (.inl l1), some (.inl l2), some (.inl l3), some (.inl (l4 + 1)), some (.inl x5), some (.inr (.inl ((-1)))), none]) d_Mo_work_137 rfl rfl ?_
      refine mj_r_goto (tgt := 67) d_Mo_work_140 (by decide) ?_
      refine mj_r_sub (lv' := [some (mj_R 21), some (.inl l1), some (.inl l2), some (.inl l3), some (.inl (l4 + 1)), none, none, none]) ⟨.inr rfl, .inr rfl, .inr rfl, .inr rfl, .inr rfl, .inl rfl, .inl rfl, .inl rfl, trivial⟩ ?_
      exact h
theorem v_Mo_findDerived_0 {g : mj_G} {nn d : Nat} {xs : mj_M} {Post : Option mj_V → mj_w → Prop} (hn : 33 ≤ nn) {w : mj_w}
    (h : mj_J g y_Mo_findDerived (d + 1) 0 0 (2, [some (mj_R 21), some (.inl 0), none, none, none, none], [], mj_mem nn xs w) (mj_P nn xs Post)) :
    mj_J g y_Mo_findDerived (d + 1) 0 0 (0, [some (mj_R 21), none, none, none, none, none], [], mj_mem nn xs w) (mj_P nn xs Post) := by
  refine mj_r_iconst (x := 0) d_Mo_findDerived_0 rfl ?_
  refine mj_e_istore_n (lv' := [some (mj_R 21), some (.inl 0), none, none, none, none]) d_Mo_findDerived_1 rfl rfl ?_
  exact h
theorem v_Mo_findDerived_2 {g : mj_G} {nn d : Nat} {xs : mj_M} {Post : Option mj_V → mj_w → Prop} (hn : 33 ≤ nn) {w : mj_w} {l1 : Int}
    (h : mj_i l1 ∧ (l1 < 845 → (0 ≤ l1 ∧ l1 < 845 ∧ (∀ w5, w5 = mj_wu w 27 l1 0 0 → mj_J g y_Mo_findDerived (d + 1) 0 0 (2, [some (mj_R 21), some (.inl (l1 + 1)), none, none, none, none], [], mj_mem nn xs w5) (mj_P nn xs Post)))) ∧ (¬ l1 < 845 → (mj_J g y_Mo_findDerived (d + 1) 0 0 (24, [some (mj_R 21), some (.inl 1), none, none, none, none], [], mj_mem nn xs w) (mj_P nn xs Post)))) :
    mj_J g y_Mo_findDerived (d + 1) 0 0 (2, [some (mj_R 21), some (.inl l1), none, none, none, none], [], mj_mem nn xs w) (mj_P nn xs Post) := by
  refine mj_r_iload_n d_Mo_findDerived_2 rfl ?_
  refine mj_r_sipush (x := 845) d_Mo_findDerived_3 (by decide) ?_
  obtain ⟨q1, h⟩ := h
  refine mj_s_icmp_ge (tgt := 22) d_Mo_findDerived_6 (by decide) q1 (mj_ik (by decide)) (fun q2 => ?_) (fun q2 => ?_)
  · have h := h.1 q2
    refine mj_r_aload_n d_Mo_findDerived_9 rfl ?_
    refine mj_q_getr d_Mo_findDerived_10 f_21_10 (.inl mw_718) rfl hn ?_
    refine mj_r_iload_n d_Mo_findDerived_13 rfl ?_
    refine mj_r_iconst (x := 0) d_Mo_findDerived_14 rfl ?_
    obtain ⟨q3, h⟩ := h
    obtain ⟨q4, h⟩ := h
    refine mj_q_zast d_Mo_findDerived_15 rfl rfl hn rfl q3 q4 (by decide) (fun w5 e6 => ?_)
    have h := h w5 e6
    refine mj_e_iinc (lv' := [some (mj_R 21), some (.inl (l1 + 1)), none, none, none, none]) d_Mo_findDerived_16 rfl rfl ?_
    refine mj_r_goto (tgt := 2) d_Mo_findDerived_19 (by decide) ?_
    exact h
  · have h := h.2 q2
    refine mj_r_iconst (x := 1) d_Mo_findDerived_22 rfl ?_
    refine mj_e_istore_n (lv' := [some (mj_R 21), some (.inl 1), none, none, none, none]) d_Mo_findDerived_23 rfl rfl ?_
    exact h
theorem v_Mo_findDerived_24 {g : mj_G} {nn d : Nat} {xs : mj_M} {Post : Option mj_V → mj_w → Prop} (hn : 33 ≤ nn) {w : mj_w} {l1 : Int}
    (h : mj_i l1 ∧ (l1 = 0 → (Post none w)) ∧ (¬ l1 = 0 → (mj_J g y_Mo_findDerived (d + 1) 0 0 (32, [some (mj_R 21), some (.inl 0), some (.inl 0), none, none, none], [], mj_mem nn xs w) (mj_P nn xs Post)))) :
    mj_J g y_Mo_findDerived (d + 1) 0 0 (24, [some (mj_R 21), some (.inl l1), none, none, none, none], [], mj_mem nn xs w) (mj_P nn xs Post) := by
  refine mj_r_iload_n d_Mo_findDerived_24 rfl ?_
  obtain ⟨q1, h⟩ := h
  refine mj_s_if_eq (tgt := 128) d_Mo_findDerived_25 (by decide) q1 (fun q2 => ?_) (fun q2 => ?_)
  · have h := h.1 q2
    exact mj_r_vret d_Mo_findDerived_128 rfl (mj_q_ret h)
  · have h := h.2 q2
    refine mj_r_iconst (x := 0) d_Mo_findDerived_28 rfl ?_
    refine mj_e_istore_n (lv' := [some (mj_R 21), some (.inl 0), none, none, none, none]) d_Mo_findDerived_29 rfl rfl ?_
    refine mj_r_iconst (x := 0) d_Mo_findDerived_30 rfl ?_
    refine mj_e_istore_n (lv' := [some (mj_R 21), some (.inl 0), some (.inl 0), none, none, none]) d_Mo_findDerived_31 rfl rfl ?_
    exact h
theorem v_Mo_findDerived_32 {g : mj_G} {nn d : Nat} {xs : mj_M} {Post : Option mj_V → mj_w → Prop} (hn : 33 ≤ nn) {w : mj_w} {l1 l2 : Int}
    (h : mj_i l2 ∧ mj_i (w 21 2 0) ∧ (l2 < (w 21 2 0) → (mj_J g y_Mo_findDerived (d + 1) 0 0 (42, [some (mj_R 21), some (.inl l1), some (.inl l2), some (.inl 0), none, none], [], mj_mem nn xs w) (mj_P nn xs Post))) ∧ (¬ l2 < (w 21 2 0) → (mj_J g y_Mo_findDerived (d + 1) 0 0 (24, [some (mj_R 21), some (.inl l1), none, none, none, none], [], mj_mem nn xs w) (mj_P nn xs Post)))) :
    mj_J g y_Mo_findDerived (d + 1) 0 0 (32, [some (mj_R 21), some (.inl l1), some (.inl l2), none, none, none], [], mj_mem nn xs w) (mj_P nn xs Post) := by
  refine mj_r_iload_n d_Mo_findDerived_32 rfl ?_
  refine mj_r_aload_n d_Mo_findDerived_33 rfl ?_
  refine mj_q_geti d_Mo_findDerived_34 f_21_2 (.inl mw_710) rfl hn ?_
  obtain ⟨q1, h⟩ := h
  obtain ⟨q2, h⟩ := h
  refine mj_s_icmp_ge (tgt := 125) d_Mo_findDerived_37 (by decide) q1 q2 (fun q3 => ?_) (fun q3 => ?_)
  · have h := h.1 q3
    refine mj_r_iconst (x := 0) d_Mo_findDerived_40 rfl ?_
    refine mj_e_istore_n (lv' := [some (mj_R 21), some (.inl l1), some (.inl l2), some (.inl 0), none, none]) d_Mo_findDerived_41 rfl rfl ?_
    exact h
  · have h := h.2 q3
    refine mj_r_goto (tgt := 24) d_Mo_findDerived_125 (by decide) ?_
    refine mj_r_sub (lv' := [some (mj_R 21), some (.inl l1), none, none, none, none]) ⟨.inr rfl, .inr rfl, .inl rfl, .inl rfl, .inl rfl, .inl rfl, trivial⟩ ?_
    exact h
theorem v_Mo_findDerived_42 {g : mj_G} {nn d : Nat} {xs : mj_M} {Post : Option mj_V → mj_w → Prop} (hn : 33 ≤ nn) {w : mj_w} {l1 l2 l3 : Int}
    (h : mj_i l3 ∧ mj_i (w 21 6 0) ∧ ((w 21 6 0) < l3 → (mj_J g y_Mo_findDerived (d + 1) 0 0 (32, [some (mj_R 21), some (.inl l1), some (.inl (l2 + 1)), none, none, none], [], mj_mem nn xs w) (mj_P nn xs Post))) ∧ (¬ (w 21 6 0) < l3 → (mj_J g y_Mo_findDerived (d + 1) 0 0 (53, [some (mj_R 21), some (.inl l1), some (.inl l2), some (.inl l3), some (.inl l3), none], [], mj_mem nn xs w) (mj_P nn xs Post)))) :
    mj_J g y_Mo_findDerived (d + 1) 0 0 (42, [some (mj_R 21), some (.inl l1), some (.inl l2), some (.inl l3), none, none], [], mj_mem nn xs w) (mj_P nn xs Post) := by
  refine mj_r_iload_n d_Mo_findDerived_42 rfl ?_
  refine mj_r_aload_n d_Mo_findDerived_43 rfl ?_
  refine mj_q_geti d_Mo_findDerived_44 f_21_6 (.inl mw_714) rfl hn ?_
  obtain ⟨q1, h⟩ := h
  obtain ⟨q2, h⟩ := h
  refine mj_s_icmp_gt (tgt := 119) d_Mo_findDerived_47 (by decide) q1 q2 (fun q3 => ?_) (fun q3 => ?_)
  · have h := h.1 q3
    refine mj_e_iinc (lv' := [some (mj_R 21), some (.inl l1), some (.inl (l2 + 1)), some (.inl l3), none, none]) d_Mo_findDerived_119 rfl rfl ?_
    refine mj_r_goto (tgt := 32) d_Mo_findDerived_122 (by decide) ?_
    refine mj_r_sub (lv' := [some (mj_R 21), some (.inl l1), some (.inl (l2 + 1)), none, none, none]) ⟨.inr rfl, .inr rfl, .inr rfl, .inl rfl, .inl rfl, .inl rfl, trivial⟩ ?_
    exact h
  · have h := h.2 q3
    refine mj_r_iload_n d_Mo_findDerived_50 rfl ?_
    refine mj_e_istore (lv' := [some (mj_R 21), some (.inl l1), some (.inl l2), some (.inl l3), some (.inl l3), none]) d_Mo_findDerived_51 rfl rfl ?_
    exact h
theorem v_Mo_findDerived_53 {g : mj_G} {nn d : Nat} {xs : mj_M} {Post : Option mj_V → mj_w → Prop} (hn : 33 ≤ nn) {w : mj_w} {l1 l2 l3 l4 : Int}
    (h : mj_i l4 ∧ mj_i (w 21 6 0) ∧ ((w 21 6 0) < l4 → (mj_J g y_Mo_findDerived (d + 1) 0 0 (42, [some (mj_R 21), some (.inl l1), some (.inl l2), some (.inl (l3 + 1)), none, none], [], mj_mem nn xs w) (mj_P nn xs Post))) ∧ (¬ (w 21 6 0) < l4 → (0 ≤ l2 ∧ l2 < 10 ∧ mj_J g y_Mo_node d 0 0 (0, [some (.inl (w 22 l2 0)), some (.inl l3), some (.inl l4)], [], mj_mem nn xs w) (mj_P nn xs (fun v w6 => ∃ x7 : Int, v = some (.inl x7) ∧ (0 ≤ x7 ∧ x7 < 845 ∧ mj_i (w6 27 x7 0) ∧ ((w6 27 x7 0) = 0 → (mj_J g y_Mo_waysBy d 0 0 (0, [some (mj_R 21), some (.inl l2), some (.inl l3), some (.inl l4), none, none], [], mj_mem nn xs w6) (mj_P nn xs (fun v w12 => ∃ x13 : Int, v = some (.inl x13) ∧ (mj_i x13 ∧ (0 < x13 → (∀ w16, w16 = mj_wu w12 27 x7 0 1 → mj_J g y_Mo_findDerived (d + 1) 0 0 (53, [some (mj_R 21), some (.inl 1), some (.inl l2), some (.inl l3), some (.inl (l4 + 1)), none], [], mj_mem nn xs w16) (mj_P nn xs Post))) ∧ (¬ 0 < x13 → (mj_J g y_Mo_findDerived (d + 1) 0 0 (53, [some (mj_R 21), some (.inl l1), some (.inl l2), some (.inl l3), some (.inl (l4 + 1)), none], [], mj_mem nn xs w12) (mj_P nn xs Post)))))))) ∧ (¬ (w6 27 x7 0) = 0 → (mj_J g y_Mo_findDerived (d + 1) 0 0 (53, [some (mj_R 21), some (.inl l1), some (.inl l2), some (.inl l3), some (.inl (l4 + 1)), none], [], mj_mem nn xs w6) (mj_P nn xs Post))))))))) :
    mj_J g y_Mo_findDerived (d + 1) 0 0 (53, [some (mj_R 21), some (.inl l1), some (.inl l2), some (.inl l3), some (.inl l4), none], [], mj_mem nn xs w) (mj_P nn xs Post) := by
  refine mj_r_iload d_Mo_findDerived_53 rfl ?_
  refine mj_r_aload_n d_Mo_findDerived_55 rfl ?_
  refine mj_q_geti d_Mo_findDerived_56 f_21_6 (.inl mw_714) rfl hn ?_
  obtain ⟨q1, h⟩ := h
  obtain ⟨q2, h⟩ := h
  refine mj_s_icmp_gt (tgt := 113) d_Mo_findDerived_59 (by decide) q1 q2 (fun q3 => ?_) (fun q3 => ?_)
  · have h := h.1 q3
    refine mj_e_iinc (lv' := [some (mj_R 21), some (.inl l1), some (.inl l2), some (.inl (l3 + 1)), some (.inl l4), none]) d_Mo_findDerived_113 rfl rfl ?_
    refine mj_r_goto (tgt := 42) d_Mo_findDerived_116 (by decide) ?_
    refine mj_r_sub (lv' := [some (mj_R 21), some (.inl l1), some (.inl l2), some (.inl (l3 + 1)), none, none]) ⟨.inr rfl, .inr rfl, .inr rfl, .inr rfl, .inl rfl, .inl rfl, trivial⟩ ?_
    exact h
  · have h := h.2 q3
    refine mj_r_aload_n d_Mo_findDerived_62 rfl ?_
    refine mj_q_getr d_Mo_findDerived_63 f_21_3 (.inl mw_711) rfl hn ?_
    refine mj_r_iload_n d_Mo_findDerived_66 rfl ?_
    obtain ⟨q4, h⟩ := h
    obtain ⟨q5, h⟩ := h
    refine mj_q_iald d_Mo_findDerived_67 rfl rfl hn rfl q4 q5 ?_
    refine mj_r_iload_n d_Mo_findDerived_68 rfl ?_
    refine mj_r_iload d_Mo_findDerived_69 rfl ?_
    refine mj_q_S3i d_Mo_findDerived_71 h_Mo_node (.inl mw_845) mw_846 rfl rfl (mj_wk h (fun v w6 h => ?_))
    obtain ⟨x7, rfl, h⟩ := h
    refine ⟨x7, rfl, ?_⟩
    refine mj_e_istore (lv' := [some (mj_R 21), some (.inl l1), some (.inl l2), some (.inl l3), some (.inl l4), some (.inl x7)]) d_Mo_findDerived_74 rfl rfl ?_
    refine mj_r_aload_n d_Mo_findDerived_76 rfl ?_
    refine mj_q_getr d_Mo_findDerived_77 f_21_10 (.inl mw_718) rfl hn ?_
    refine mj_r_iload d_Mo_findDerived_80 rfl ?_
    obtain ⟨q8, h⟩ := h
    obtain ⟨q9, h⟩ := h
    refine mj_q_zald d_Mo_findDerived_82 rfl rfl hn rfl q8 q9 ?_
    obtain ⟨q10, h⟩ := h
    refine mj_s_if_ne (tgt := 107) d_Mo_findDerived_83 (by decide) q10 (fun q11 => ?_) (fun q11 => ?_)
    · have h := h.1 q11
      refine mj_r_aload_n d_Mo_findDerived_86 rfl ?_
      refine mj_r_iload_n d_Mo_findDerived_87 rfl ?_
      refine mj_r_iload_n d_Mo_findDerived_88 rfl ?_
      refine mj_r_iload d_Mo_findDerived_89 rfl ?_
      refine mj_q_V3i d_Mo_findDerived_91 h_Mo_waysBy (.inl mw_848) mw_850 mw_38 rfl rfl rfl hn rfl rfl (mj_wk h (fun v w12 h => ?_))
      obtain ⟨x13, rfl, h⟩ := h
      refine ⟨x13, rfl, ?_⟩
      obtain ⟨q14, h⟩ := h
      refine mj_s_if_le (tgt := 107) d_Mo_findDerived_94 (by decide) q14 (fun q15 => ?_) (fun q15 => ?_)
      · have h := h.1 q15
        refine mj_r_aload_n d_Mo_findDerived_97 rfl ?_
        refine mj_q_getr d_Mo_findDerived_98 f_21_10 (.inl mw_718) rfl hn ?_
        refine mj_r_iload d_Mo_findDerived_101 rfl ?_
        refine mj_r_iconst (x := 1) d_Mo_findDerived_103 rfl ?_
        refine mj_q_zast d_Mo_findDerived_104 rfl rfl hn rfl q8 q9 (by decide) (fun w16 e17 => ?_)
        have h := h w16 e17
        refine mj_r_iconst (x := 1) d_Mo_findDerived_105 rfl ?_
        refine mj_e_istore_n (lv' := [some (mj_R 21), some (.inl 1), some (.inl l2), some (.inl l3), some (.inl l4), some (.inl x7)]) d_Mo_findDerived_106 rfl rfl ?_
        refine mj_e_iinc (lv' := [some (mj_R 21), some (.inl 1), some (.inl l2), some (.inl l3), some (.inl (l4 + 1)), some (.inl x7)]) d_Mo_findDerived_107 rfl rfl ?_
        refine mj_r_goto (tgt := 53) d_Mo_findDerived_110 (by decide) ?_
        refine mj_r_sub (lv' := [some (mj_R 21), some (.inl 1), some (.inl l2), some (.inl l3), some (.inl (l4 + 1)), none]) ⟨.inr rfl, .inr rfl, .inr rfl, .inr rfl, .inr rfl, .inl rfl, trivial⟩ ?_
        exact h
      · have h := h.2 q15
        refine mj_e_iinc (lv' := [some (mj_R 21), some (.inl l1), some (.inl l2), some (.inl l3), some (.inl (l4 + 1)), some (.inl x7)]) d_Mo_findDerived_107 rfl rfl ?_
        refine mj_r_goto (tgt := 53) d_Mo_findDerived_110 (by decide) ?_
        refine mj_r_sub (lv' := [some (mj_R 21), some (.inl l1), some (.inl l2), some (.inl l3), some (.inl (l4 + 1)), none]) ⟨.inr rfl, .inr rfl, .inr rfl, .inr rfl, .inr rfl, .inl rfl, trivial⟩ ?_
        exact h
    · have h := h.2 q11
      refine mj_e_iinc (lv' := [some (mj_R 21), some (.inl l1), some (.inl l2), some (.inl l3), some (.inl (l4 + 1)), some (.inl x7)]) d_Mo_findDerived_107 rfl rfl ?_
      refine mj_r_goto (tgt := 53) d_Mo_findDerived_110 (by decide) ?_
      refine mj_r_sub (lv' := [some (mj_R 21), some (.inl l1), some (.inl l2), some (.inl l3), some (.inl (l4 + 1)), none]) ⟨.inr rfl, .inr rfl, .inr rfl, .inr rfl, .inr rfl, .inl rfl, trivial⟩ ?_
      exact h
theorem v_Mo_node_0 {g : mj_G} {nn d : Nat} {xs : mj_M} {Post : Option mj_V → mj_w → Prop} (hn : 33 ≤ nn) {w : mj_w} {l0 l1 l2 : Int}
    (h : Post (some (.inl (((169 * l0) + (13 * l1)) + l2))) w) :
    mj_J g y_Mo_node d 0 0 (0, [some (.inl l0), some (.inl l1), some (.inl l2)], [], mj_mem nn xs w) (mj_P nn xs Post) := by
  refine mj_r_sipush (x := 169) d_Mo_node_0 (by decide) ?_
  refine mj_r_iload_n d_Mo_node_3 rfl ?_
  refine mj_r_imul d_Mo_node_4 ?_
  refine mj_r_bipush (x := 13) d_Mo_node_5 (by decide) ?_
  refine mj_r_iload_n d_Mo_node_7 rfl ?_
  refine mj_r_imul d_Mo_node_8 ?_
  refine mj_r_iadd d_Mo_node_9 ?_
  refine mj_r_iload_n d_Mo_node_10 rfl ?_
  refine mj_r_iadd d_Mo_node_11 ?_
  exact mj_r_iret d_Mo_node_12 rfl (mj_q_ret h)
theorem v_Mo_waysBy_0 {g : mj_G} {nn d : Nat} {xs : mj_M} {Post : Option mj_V → mj_w → Prop} (hn : 33 ≤ nn) {w : mj_w} {l1 l2 l3 : Int}
    (h : mj_J g y_Mo_firstCuts d 0 0 (0, [some (mj_R 21), some (.inl l2)], [], mj_mem nn xs w) (mj_P nn xs (fun v w1 => v = none ∧ (mj_J g y_Mo_waysBy (d + 1) 0 0 (11, [some (mj_R 21), some (.inl l1), some (.inl l2), some (.inl l3), some (.inl 0), some (.inl 1)], [], mj_mem nn xs w1) (mj_P nn xs Post))))) :
    mj_J g y_Mo_waysBy (d + 1) 0 0 (0, [some (mj_R 21), some (.inl l1), some (.inl l2), some (.inl l3), none, none], [], mj_mem nn xs w) (mj_P nn xs Post) := by
  refine mj_r_iconst (x := 0) d_Mo_waysBy_0 rfl ?_
  refine mj_e_istore (lv' := [some (mj_R 21), some (.inl l1), some (.inl l2), some (.inl l3), some (.inl 0), none]) d_Mo_waysBy_1 rfl rfl ?_
  refine mj_r_iconst (x := 1) d_Mo_waysBy_3 rfl ?_
  refine mj_e_istore (lv' := [some (mj_R 21), some (.inl l1), some (.inl l2), some (.inl l3), some (.inl 0), some (.inl 1)]) d_Mo_waysBy_4 rfl rfl ?_
  refine mj_r_aload_n d_Mo_waysBy_6 rfl ?_
  refine mj_r_iload_n d_Mo_waysBy_7 rfl ?_
  refine mj_q_V1v d_Mo_waysBy_8 h_Mo_firstCuts (.inl mw_852) mw_854 mw_39 rfl rfl rfl hn rfl rfl (mj_wk h (fun v w1 h => ?_))
  obtain ⟨rfl, h⟩ := h
  refine ⟨rfl, ?_⟩
  exact h
theorem v_Mo_waysBy_11 {g : mj_G} {nn d : Nat} {xs : mj_M} {Post : Option mj_V → mj_w → Prop} (hn : 33 ≤ nn) {w : mj_w} {l1 l2 l3 l4 l5 : Int}
    (h : mj_i l5 ∧ (l5 = 0 → (Post (some (.inl l4)) w)) ∧ (¬ l5 = 0 → (mj_J g y_Mo_isWay d 0 0 (0, [some (mj_R 21), some (.inl l1), some (.inl l2), some (.inl l3), none, none, none, none], [], mj_mem nn xs w) (mj_P nn xs (fun v w3 => ∃ x4 : Int, v = some (.inl x4) ∧ (mj_i x4 ∧ (x4 = 0 → (mj_J g y_Mo_nextCuts d 0 0 (0, [some (mj_R 21), some (.inl l1), some (.inl l3)], [], mj_mem nn xs w3) (mj_P nn xs (fun v w7 => ∃ x8 : Int, v = some (.inl x8) ∧ (mj_J g y_Mo_waysBy (d + 1) 0 0 (11, [some (mj_R 21), some (.inl l1), some (.inl l2), some (.inl l3), some (.inl (l4 + 0)), some (.inl x8)], [], mj_mem nn xs w7) (mj_P nn xs Post)))))) ∧ (¬ x4 = 0 → (mj_J g y_Mo_nextCuts d 0 0 (0, [some (mj_R 21), some (.inl l1), some (.inl l3)], [], mj_mem nn xs w3) (mj_P nn xs (fun v w9 => ∃ x10 : Int, v = some (.inl x10) ∧ (mj_J g y_Mo_waysBy (d + 1) 0 0 (11, [some (mj_R 21), some (.inl l1), some (.inl l2), some (.inl l3), some (.inl (l4 + 1)), some (.inl x10)], [], mj_mem nn xs w9) (mj_P nn xs Post)))))))))))) :
    mj_J g y_Mo_waysBy (d + 1) 0 0 (11, [some (mj_R 21), some (.inl l1), some (.inl l2), some (.inl l3), some (.inl l4), some (.inl l5)], [], mj_mem nn xs w) (mj_P nn xs Post) := by
  refine mj_r_iload d_Mo_waysBy_11 rfl ?_
  obtain ⟨q1, h⟩ := h
  refine mj_s_if_eq (tgt := 47) d_Mo_waysBy_13 (by decide) q1 (fun q2 => ?_) (fun q2 => ?_)
  · have h := h.1 q2
    refine mj_r_iload d_Mo_waysBy_47 rfl ?_
    exact mj_r_iret d_Mo_waysBy_49 rfl (mj_q_ret h)
  · have h := h.2 q2
    refine mj_r_iload d_Mo_waysBy_16 rfl ?_
    refine mj_r_aload_n d_Mo_waysBy_18 rfl ?_
    refine mj_r_iload_n d_Mo_waysBy_19 rfl ?_
    refine mj_r_iload_n d_Mo_waysBy_20 rfl ?_
    refine mj_r_iload_n d_Mo_waysBy_21 rfl ?_
    refine mj_q_V3i d_Mo_waysBy_22 h_Mo_isWay (.inl mw_856) mw_858 mw_40 rfl rfl rfl hn rfl rfl (mj_wk h (fun v w3 h => ?_))
    obtain ⟨x4, rfl, h⟩ := h
    refine ⟨x4, rfl, ?_⟩
    obtain ⟨q5, h⟩ := h
    refine mj_s_if_eq (tgt := 32) d_Mo_waysBy_25 (by decide) q5 (fun q6 => ?_) (fun q6 => ?_)
    · have h := h.1 q6
      refine mj_r_iconst (x := 0) d_Mo_waysBy_32 rfl ?_
      refine mj_r_iadd d_Mo_waysBy_33 ?_
      refine mj_e_istore (lv' := [some (mj_R 21), some (.inl l1), some (.inl l2), some (.inl l3), some (.inl (l4 + 0)), some (.inl l5)]) d_Mo_waysBy_34 rfl rfl ?_
      refine mj_r_aload_n d_Mo_waysBy_36 rfl ?_
      refine mj_r_iload_n d_Mo_waysBy_37 rfl ?_
      refine mj_r_iload_n d_Mo_waysBy_38 rfl ?_
      refine mj_q_V2i d_Mo_waysBy_39 h_Mo_nextCuts (.inl mw_868) mw_870 mw_43 rfl rfl rfl hn rfl rfl (mj_wk h (fun v w7 h => ?_))
      obtain ⟨x8, rfl, h⟩ := h
      refine ⟨x8, rfl, ?_⟩
      refine mj_e_istore (lv' := [some (mj_R 21), some (.inl l1), some (.inl l2), some (.inl l3), some (.inl (l4 + 0)), some (.inl x8)]) d_Mo_waysBy_42 rfl rfl ?_
      refine mj_r_goto (tgt := 11) d_Mo_waysBy_44 (by decide) ?_
      exact h
    · have h := h.2 q6
      refine mj_r_iconst (x := 1) d_Mo_waysBy_28 rfl ?_
      refine mj_r_goto (tgt := 33) d_Mo_waysBy_29 (by decide) ?_
      refine mj_r_iadd d_Mo_waysBy_33 ?_
      refine mj_e_istore (lv' := [some (mj_R 21), some (.inl l1), some (.inl l2), some (.inl l3), some (.inl (l4 + 1)), some (.inl l5)]) d_Mo_waysBy_34 rfl rfl ?_
      refine mj_r_aload_n d_Mo_waysBy_36 rfl ?_
      refine mj_r_iload_n d_Mo_waysBy_37 rfl ?_
      refine mj_r_iload_n d_Mo_waysBy_38 rfl ?_
      refine mj_q_V2i d_Mo_waysBy_39 h_Mo_nextCuts (.inl mw_868) mw_870 mw_43 rfl rfl rfl hn rfl rfl (mj_wk h (fun v w9 h => ?_))
      obtain ⟨x10, rfl, h⟩ := h
      refine ⟨x10, rfl, ?_⟩
      refine mj_e_istore (lv' := [some (mj_R 21), some (.inl l1), some (.inl l2), some (.inl l3), some (.inl (l4 + 1)), some (.inl x10)]) d_Mo_waysBy_42 rfl rfl ?_
      refine mj_r_goto (tgt := 11) d_Mo_waysBy_44 (by decide) ?_
      exact h
theorem v_Mo_firstCuts_0 {g : mj_G} {nn d : Nat} {xs : mj_M} {Post : Option mj_V → mj_w → Prop} (hn : 33 ≤ nn) {w : mj_w} {l1 : Int}
    (h : ∀ w1, w1 = mj_wu w 21 14 0 l1 → ∀ w3, w3 = mj_wu w1 21 15 0 l1 → Post none w3) :
    mj_J g y_Mo_firstCuts d 0 0 (0, [some (mj_R 21), some (.inl l1)], [], mj_mem nn xs w) (mj_P nn xs Post) := by
  refine mj_r_aload_n d_Mo_firstCuts_0 rfl ?_
  refine mj_r_iload_n d_Mo_firstCuts_1 rfl ?_
  refine mj_q_put d_Mo_firstCuts_2 f_21_14 (mj_fit_I _) (.inl mw_722) rfl hn (fun w1 e2 => ?_)
  have h := h w1 e2
  refine mj_r_aload_n d_Mo_firstCuts_5 rfl ?_
  refine mj_r_iload_n d_Mo_firstCuts_6 rfl ?_
  refine mj_q_put d_Mo_firstCuts_7 f_21_15 (mj_fit_I _) (.inl mw_723) rfl hn (fun w3 e4 => ?_)
  have h := h w3 e4
  exact mj_r_vret d_Mo_firstCuts_10 rfl (mj_q_ret h)
theorem v_Mo_isWay_0 {g : mj_G} {nn d : Nat} {xs : mj_M} {Post : Option mj_V → mj_w → Prop} (hn : 33 ≤ nn) {w : mj_w} {l1 l2 l3 : Int}
    (h : 0 ≤ l1 ∧ l1 < 10 ∧ mj_i (w 23 l1 0) ∧ ((w 23 l1 0) = 0 → (mj_i l2 ∧ mj_i l3 ∧ (l2 = l3 → (Post (some (.inl 1)) w)) ∧ (¬ l2 = l3 → (Post (some (.inl 0)) w)))) ∧ (¬ (w 23 l1 0) = 0 → (mj_J g y_Mo_isWay (d + 1) 0 0 (26, [some (mj_R 21), some (.inl l1), some (.inl l2), some (.inl l3), some (.inl 1), some (.inl 0), none, none], [], mj_mem nn xs w) (mj_P nn xs Post)))) :
    mj_J g y_Mo_isWay (d + 1) 0 0 (0, [some (mj_R 21), some (.inl l1), some (.inl l2), some (.inl l3), none, none, none, none], [], mj_mem nn xs w) (mj_P nn xs Post) := by
  refine mj_r_aload_n d_Mo_isWay_0 rfl ?_
  refine mj_q_getr d_Mo_isWay_1 f_21_4 (.inl mw_712) rfl hn ?_
  refine mj_r_iload_n d_Mo_isWay_4 rfl ?_
  obtain ⟨q1, h⟩ := h
  obtain ⟨q2, h⟩ := h
  refine mj_q_iald d_Mo_isWay_5 rfl rfl hn rfl q1 q2 ?_
  obtain ⟨q3, h⟩ := h
  refine mj_s_if_ne (tgt := 20) d_Mo_isWay_6 (by decide) q3 (fun q4 => ?_) (fun q4 => ?_)
  · have h := h.1 q4
    refine mj_r_iload_n d_Mo_isWay_9 rfl ?_
    refine mj_r_iload_n d_Mo_isWay_10 rfl ?_
    obtain ⟨q5, h⟩ := h
    obtain ⟨q6, h⟩ := h
    refine mj_s_icmp_ne (tgt := 18) d_Mo_isWay_11 (by decide) q5 q6 (fun q7 => ?_) (fun q7 => ?_)
    · have h := h.1 q7
      refine mj_r_iconst (x := 1) d_Mo_isWay_14 rfl ?_
      refine mj_r_goto (tgt := 19) d_Mo_isWay_15 (by decide) ?_
      exact mj_r_zret d_Mo_isWay_19 rfl (by decide) (mj_q_ret h)
    · have h := h.2 q7
      refine mj_r_iconst (x := 0) d_Mo_isWay_18 rfl ?_
      exact mj_r_zret d_Mo_isWay_19 rfl (by decide) (mj_q_ret h)
  · have h := h.2 q4
    refine mj_r_iconst (x := 1) d_Mo_isWay_20 rfl ?_
    refine mj_e_istore (lv' := [some (mj_R 21), some (.inl l1), some (.inl l2), some (.inl l3), some (.inl 1), none, none, none]) d_Mo_isWay_21 rfl rfl ?_
    refine mj_r_iconst (x := 0) d_Mo_isWay_23 rfl ?_
    refine mj_e_istore (lv' := [some (mj_R 21), some (.inl l1), some (.inl l2), some (.inl l3), some (.inl 1), some (.inl 0), none, none]) d_Mo_isWay_24 rfl rfl ?_
    exact h
theorem v_Mo_isWay_26 {g : mj_G} {nn d : Nat} {xs : mj_M} {Post : Option mj_V → mj_w → Prop} (hn : 33 ≤ nn) {w : mj_w} {l1 l2 l3 l4 l5 : Int}
    (h : 0 ≤ l1 ∧ l1 < 10 ∧ mj_i l5 ∧ mj_i (w 23 l1 0) ∧ (l5 < (w 23 l1 0) → (mj_J g y_Mo_cut d 0 0 (0, [some (mj_R 21), some (.inl l1), some (.inl l5), some (.inl l2), some (.inl l3)], [], mj_mem nn xs w) (mj_P nn xs (fun v w6 => ∃ x7 : Int, v = some (.inl x7) ∧ (mj_J g y_Mo_cut d 0 0 (0, [some (mj_R 21), some (.inl l1), some (.inl (l5 + 1)), some (.inl l2), some (.inl l3)], [], mj_mem nn xs w6) (mj_P nn xs (fun v w8 => ∃ x9 : Int, v = some (.inl x9) ∧ (mj_i l4 ∧ (l4 = 0 → (mj_J g y_Mo_isWay (d + 1) 0 0 (26, [some (mj_R 21), some (.inl l1), some (.inl l2), some (.inl l3), some (.inl 0), some (.inl (l5 + 1)), none, none], [], mj_mem nn xs w8) (mj_P nn xs Post))) ∧ (¬ l4 = 0 → (mj_i x7 ∧ mj_i x9 ∧ (x9 < x7 → (mj_J g y_Mo_isWay (d + 1) 0 0 (26, [some (mj_R 21), some (.inl l1), some (.inl l2), some (.inl l3), some (.inl 0), some (.inl (l5 + 1)), none, none], [], mj_mem nn xs w8) (mj_P nn xs Post))) ∧ (¬ x9 < x7 → (0 ≤ ((3 * l1) + l5) ∧ ((3 * l1) + l5) < 30 ∧ mj_J g y_Mo_isDerived d 0 0 (0, [some (mj_R 21), some (.inl (w8 24 ((3 * l1) + l5) 0)), some (.inl x7), some (.inl x9)], [], mj_mem nn xs w8) (mj_P nn xs (fun v w17 => ∃ x18 : Int, v = some (.inl x18) ∧ (mj_i x18 ∧ (x18 = 0 → (mj_J g y_Mo_isWay (d + 1) 0 0 (26, [some (mj_R 21), some (.inl l1), some (.inl l2), some (.inl l3), some (.inl 0), some (.inl (l5 + 1)), none, none], [], mj_mem nn xs w17) (mj_P nn xs Post))) ∧ (¬ x18 = 0 → (mj_J g y_Mo_isWay (d + 1) 0 0 (26, [some (mj_R 21), some (.inl l1), some (.inl l2), some (.inl l3), some (.inl 1), some (.inl (l5 + 1)), none, none], [], mj_mem nn xs w17) (mj_P nn xs Post)))))))))))))))))) ∧ (¬ l5 < (w 23 l1 0) → ((l4 = 0 ∨ l4 = 1) ∧ Post (some (.inl l4)) w))) :
    mj_J g y_Mo_isWay (d + 1) 0 0 (26, [some (mj_R 21), some (.inl l1), some (.inl l2), some (.inl l3), some (.inl l4), some (.inl l5), none, none], [], mj_mem nn xs w) (mj_P nn xs Post) := by
  refine mj_r_iload d_Mo_isWay_26 rfl ?_
  refine mj_r_aload_n d_Mo_isWay_28 rfl ?_
  refine mj_q_getr d_Mo_isWay_29 f_21_4 (.inl mw_712) rfl hn ?_
  refine mj_r_iload_n d_Mo_isWay_32 rfl ?_
  obtain ⟨q1, h⟩ := h
  obtain ⟨q2, h⟩ := h
  refine mj_q_iald d_Mo_isWay_33 rfl rfl hn rfl q1 q2 ?_
  obtain ⟨q3, h⟩ := h
  obtain ⟨q4, h⟩ := h
  refine mj_s_icmp_ge (tgt := 108) d_Mo_isWay_34 (by decide) q3 q4 (fun q5 => ?_) (fun q5 => ?_)
  · have h := h.1 q5
    refine mj_r_aload_n d_Mo_isWay_37 rfl ?_
    refine mj_r_iload_n d_Mo_isWay_38 rfl ?_
    refine mj_r_iload d_Mo_isWay_39 rfl ?_
    refine mj_r_iload_n d_Mo_isWay_41 rfl ?_
    refine mj_r_iload_n d_Mo_isWay_42 rfl ?_
    refine mj_q_V4i d_Mo_isWay_43 h_Mo_cut (.inl mw_860) mw_862 mw_41 rfl rfl rfl hn rfl rfl (mj_wk h (fun v w6 h => ?_))
    obtain ⟨x7, rfl, h⟩ := h
    refine ⟨x7, rfl, ?_⟩
    refine mj_e_istore (lv' := [some (mj_R 21), some (.inl l1), some (.inl l2), some (.inl l3), some (.inl l4), some (.inl l5), some (.inl x7), none]) d_Mo_isWay_46 rfl rfl ?_
    refine mj_r_aload_n d_Mo_isWay_48 rfl ?_
    refine mj_r_iload_n d_Mo_isWay_49 rfl ?_
    refine mj_r_iload d_Mo_isWay_50 rfl ?_
    refine mj_r_iconst (x := 1) d_Mo_isWay_52 rfl ?_
    refine mj_r_iadd d_Mo_isWay_53 ?_
    refine mj_r_iload_n d_Mo_isWay_54 rfl ?_
    refine mj_r_iload_n d_Mo_isWay_55 rfl ?_
    refine mj_q_V4i d_Mo_isWay_56 h_Mo_cut (.inl mw_860) mw_862 mw_41 rfl rfl rfl hn rfl rfl (mj_wk h (fun v w8 h => ?_))
    obtain ⟨x9, rfl, h⟩ := h
    refine ⟨x9, rfl, ?_⟩
    refine mj_e_istore (lv' := [some (mj_R 21), some (.inl l1), some (.inl l2), some (.inl l3), some (.inl l4), some (.inl l5), some (.inl x7), some (.inl x9)]) d_Mo_isWay_59 rfl rfl ?_
    refine mj_r_iload d_Mo_isWay_61 rfl ?_
    obtain ⟨q10, h⟩ := h
    refine mj_s_if_eq (tgt := 99) d_Mo_isWay_63 (by decide) q10 (fun q11 => ?_) (fun q11 => ?_)
    · have h := h.1 q11
      refine mj_r_iconst (x := 0) d_Mo_isWay_99 rfl ?_
      refine mj_e_istore (lv' := [some (mj_R 21), some (.inl l1), some (.inl l2), some (.inl l3), some (.inl 0), some (.inl l5), some (.inl x7), some (.inl x9)]) d_Mo_isWay_100 rfl rfl ?_
      refine mj_e_iinc (lv' := [some (mj_R 21), some (.inl l1), some (.inl l2), some (.inl l3), some (.inl 0), some (.inl (l5 + 1)), some (.inl x7), some (.inl x9)]) d_Mo_isWay_102 rfl rfl ?_
      refine mj_r_goto (tgt := 26) d_Mo_isWay_105 (by decide) ?_
      refine mj_r_sub (lv' := [some (mj_R 21), some (.inl l1), some (.inl l2), some (.inl l3), some (.inl 0), some (.inl (l5 + 1)), none, none]) ⟨.inr rfl, .inr rfl, .inr rfl, .inr rfl, .inr rfl, .inr rfl, .inl rfl, .inl rfl, trivial⟩ ?_
      exact h
    · have h := h.2 q11
      refine mj_r_iload d_Mo_isWay_66 rfl ?_
      refine mj_r_iload d_Mo_isWay_68 rfl ?_
      obtain ⟨q12, h⟩ := h
      obtain ⟨q13, h⟩ := h
      refine mj_s_icmp_gt (tgt := 99) d_Mo_isWay_70 (by decide) q12 q13 (fun q14 => ?_) (fun q14 => ?_)
      · have h := h.1 q14
        refine mj_r_iconst (x := 0) d_Mo_isWay_99 rfl ?_
        refine mj_e_istore (lv' := [some (mj_R 21), some (.inl l1), some (.inl l2), some (.inl l3), some (.inl 0), some (.inl l5), some (.inl x7), some (.inl x9)]) d_Mo_isWay_100 rfl rfl ?_
        refine mj_e_iinc (lv' := [some (mj_R 21), some (.inl l1), some (.inl l2), some (.inl l3), some (.inl 0), some (.inl (l5 + 1)), some (.inl x7), some (.inl x9)]) d_Mo_isWay_102 rfl rfl ?_
        refine mj_r_goto (tgt := 26) d_Mo_isWay_105 (by decide) ?_
        refine mj_r_sub (lv' := [some (mj_R 21), some (.inl l1), some (.inl l2), some (.inl l3), some (.inl 0), some (.inl (l5 + 1)), none, none]) ⟨.inr rfl, .inr rfl, .inr rfl, .inr rfl, .inr rfl, .inr rfl, .inl rfl, .inl rfl, trivial⟩ ?_
        exact h
      · have h := h.2 q14
        refine mj_r_aload_n d_Mo_isWay_73 rfl ?_
        refine mj_r_aload_n d_Mo_isWay_74 rfl ?_
        refine mj_q_getr d_Mo_isWay_75 f_21_5 (.inl mw_713) rfl hn ?_
        refine mj_r_iconst (x := 3) d_Mo_isWay_78 rfl ?_
        refine mj_r_iload_n d_Mo_isWay_79 rfl ?_
        refine mj_r_imul d_Mo_isWay_80 ?_
        refine mj_r_iload d_Mo_isWay_81 rfl ?_
        refine mj_r_iadd d_Mo_isWay_83 ?_
        obtain ⟨q15, h⟩ := h
        obtain ⟨q16, h⟩ := h
        refine mj_q_iald d_Mo_isWay_84 rfl rfl hn rfl q15 q16 ?_
        refine mj_r_iload d_Mo_isWay_85 rfl ?_
        refine mj_r_iload d_Mo_isWay_87 rfl ?_
        refine mj_q_V3i d_Mo_isWay_89 h_Mo_isDerived (.inl mw_864) mw_866 mw_42 rfl rfl rfl hn rfl rfl (mj_wk h (fun v w17 h => ?_))
        obtain ⟨x18, rfl, h⟩ := h
        refine ⟨x18, rfl, ?_⟩
        obtain ⟨q19, h⟩ := h
        refine mj_s_if_eq (tgt := 99) d_Mo_isWay_92 (by decide) q19 (fun q20 => ?_) (fun q20 => ?_)
        · have h := h.1 q20
          refine mj_r_iconst (x := 0) d_Mo_isWay_99 rfl ?_
          refine mj_e_istore (lv' := [some (mj_R 21), some (.inl l1), some (.inl l2), some (.inl l3), some (.inl 0), some (.inl l5), some (.inl x7), some (.inl x9)]) d_Mo_isWay_100 rfl rfl ?_
          refine mj_e_iinc (lv' := [some (mj_R 21), some (.inl l1), some (.inl l2), some (.inl l3), some (.inl 0), some (.inl (l5 + 1)), some (.inl x7), some (.inl x9)]) d_Mo_isWay_102 rfl rfl ?_
          refine mj_r_goto (tgt := 26) d_Mo_isWay_105 (by decide) ?_
          refine mj_r_sub (lv' := [some (mj_R 21), some (.inl l1), some (.inl l2), some (.inl l3), some (.inl 0), some (.inl (l5 + 1)), none, none]) ⟨.inr rfl, .inr rfl, .inr rfl, .inr rfl, .inr rfl, .inr rfl, .inl rfl, .inl rfl, trivial⟩ ?_
          exact h
        · have h := h.2 q20
          refine mj_r_iconst (x := 1) d_Mo_isWay_95 rfl ?_
          refine mj_r_goto (tgt := 100) d_Mo_isWay_96 (by decide) ?_
          refine mj_e_istore (lv' := [some (mj_R 21), some (.inl l1), some (.inl l2), some (.inl l3), some (.inl 1), some (.inl l5), some (.inl x7), some (.inl x9)]) d_Mo_isWay_100 rfl rfl ?_
          refine mj_e_iinc (lv' := [some (mj_R 21), some (.inl l1), some (.inl l2), some (.inl l3), some (.inl 1), some (.inl (l5 + 1)), some (.inl x7), some (.inl x9)]) d_Mo_isWay_102 rfl rfl ?_
          refine mj_r_goto (tgt := 26) d_Mo_isWay_105 (by decide) ?_
          refine mj_r_sub (lv' := [some (mj_R 21), some (.inl l1), some (.inl l2), some (.inl l3), some (.inl 1), some (.inl (l5 + 1)), none, none]) ⟨.inr rfl, .inr rfl, .inr rfl, .inr rfl, .inr rfl, .inr rfl, .inl rfl, .inl rfl, trivial⟩ ?_
          exact h
  · have h := h.2 q5
    refine mj_r_iload d_Mo_isWay_108 rfl ?_
    obtain ⟨q21, h⟩ := h
    exact mj_r_zret d_Mo_isWay_110 rfl q21 (mj_q_ret h)
theorem v_Mo_cut_0 {g : mj_G} {nn d : Nat} {xs : mj_M} {Post : Option mj_V → mj_w → Prop} (hn : 33 ≤ nn) {w : mj_w} {l1 l2 l3 l4 : Int}
    (h : mj_i l2 ∧ (l2 = 0 → (Post (some (.inl l3)) w)) ∧ (¬ l2 = 0 → (0 ≤ l1 ∧ l1 < 10 ∧ mj_i (w 23 l1 0) ∧ (l2 = (w 23 l1 0) → (Post (some (.inl l4)) w)) ∧ (¬ l2 = (w 23 l1 0) → ((l2 = 1 → (Post (some (.inl (w 21 14 0))) w)) ∧ (¬ l2 = 1 → (Post (some (.inl (w 21 15 0))) w))))))) :
    mj_J g y_Mo_cut d 0 0 (0, [some (mj_R 21), some (.inl l1), some (.inl l2), some (.inl l3), some (.inl l4)], [], mj_mem nn xs w) (mj_P nn xs Post) := by
  refine mj_r_iload_n d_Mo_cut_0 rfl ?_
  obtain ⟨q1, h⟩ := h
  refine mj_s_if_ne (tgt := 8) d_Mo_cut_1 (by decide) q1 (fun q2 => ?_) (fun q2 => ?_)
  · have h := h.1 q2
    refine mj_r_iload_n d_Mo_cut_4 rfl ?_
    refine mj_r_goto (tgt := 39) d_Mo_cut_5 (by decide) ?_
    exact mj_r_iret d_Mo_cut_39 rfl (mj_q_ret h)
  · have h := h.2 q2
    refine mj_r_iload_n d_Mo_cut_8 rfl ?_
    refine mj_r_aload_n d_Mo_cut_9 rfl ?_
    refine mj_q_getr d_Mo_cut_10 f_21_4 (.inl mw_712) rfl hn ?_
    refine mj_r_iload_n d_Mo_cut_13 rfl ?_
    obtain ⟨q3, h⟩ := h
    obtain ⟨q4, h⟩ := h
    refine mj_q_iald d_Mo_cut_14 rfl rfl hn rfl q3 q4 ?_
    obtain ⟨q5, h⟩ := h
    refine mj_s_icmp_ne (tgt := 23) d_Mo_cut_15 (by decide) q1 q5 (fun q6 => ?_) (fun q6 => ?_)
    · have h := h.1 q6
      refine mj_r_iload d_Mo_cut_18 rfl ?_
      refine mj_r_goto (tgt := 39) d_Mo_cut_20 (by decide) ?_
      exact mj_r_iret d_Mo_cut_39 rfl (mj_q_ret h)
    · have h := h.2 q6
      refine mj_r_iload_n d_Mo_cut_23 rfl ?_
      refine mj_r_iconst (x := 1) d_Mo_cut_24 rfl ?_
      refine mj_s_icmp_ne (tgt := 35) d_Mo_cut_25 (by decide) q1 (mj_ik (by decide)) (fun q7 => ?_) (fun q7 => ?_)
      · have h := h.1 q7
        refine mj_r_aload_n d_Mo_cut_28 rfl ?_
        refine mj_q_geti d_Mo_cut_29 f_21_14 (.inl mw_722) rfl hn ?_
        refine mj_r_goto (tgt := 39) d_Mo_cut_32 (by decide) ?_
        exact mj_r_iret d_Mo_cut_39 rfl (mj_q_ret h)
      · have h := h.2 q7
        refine mj_r_aload_n d_Mo_cut_35 rfl ?_
        refine mj_q_geti d_Mo_cut_36 f_21_15 (.inl mw_723) rfl hn ?_
        exact mj_r_iret d_Mo_cut_39 rfl (mj_q_ret h)
theorem v_Mo_isDerived_0 {g : mj_G} {nn d : Nat} {xs : mj_M} {Post : Option mj_V → mj_w → Prop} (hn : 33 ≤ nn) {w : mj_w} {l1 l2 l3 : Int}
    (h : mj_i l1 ∧ (l1 < 8 → (mj_J g y_Mo_node d 0 0 (0, [some (.inl l1), some (.inl l2), some (.inl l3)], [], mj_mem nn xs w) (mj_P nn xs (fun v w3 => ∃ x4 : Int, v = some (.inl x4) ∧ (0 ≤ x4 ∧ x4 < 845 ∧ ((w3 27 x4 0) = 0 ∨ (w3 27 x4 0) = 1) ∧ Post (some (.inl (w3 27 x4 0))) w3))))) ∧ (¬ l1 < 8 → (mj_i l3 ∧ mj_i (l2 + 1) ∧ (l3 = (l2 + 1) → (0 ≤ l2 ∧ l2 < 12 ∧ mj_i (w 25 l2 0) ∧ ((w 25 l2 0) = l1 → (Post (some (.inl 1)) w)) ∧ (¬ (w 25 l2 0) = l1 → (Post (some (.inl 0)) w)))) ∧ (¬ l3 = (l2 + 1) → (Post (some (.inl 0)) w))))) :
    mj_J g y_Mo_isDerived (d + 1) 0 0 (0, [some (mj_R 21), some (.inl l1), some (.inl l2), some (.inl l3)], [], mj_mem nn xs w) (mj_P nn xs Post) := by
  refine mj_r_iload_n d_Mo_isDerived_0 rfl ?_
  refine mj_r_bipush (x := 8) d_Mo_isDerived_1 (by decide) ?_
  obtain ⟨q1, h⟩ := h
  refine mj_s_icmp_lt (tgt := 31) d_Mo_isDerived_3 (by decide) q1 (mj_ik (by decide)) (fun q2 => ?_) (fun q2 => ?_)
  · have h := h.1 q2
    refine mj_r_aload_n d_Mo_isDerived_31 rfl ?_
    refine mj_q_getr d_Mo_isDerived_32 f_21_10 (.inl mw_718) rfl hn ?_
    refine mj_r_iload_n d_Mo_isDerived_35 rfl ?_
    refine mj_r_iload_n d_Mo_isDerived_36 rfl ?_
    refine mj_r_iload_n d_Mo_isDerived_37 rfl ?_
    refine mj_q_S3i d_Mo_isDerived_38 h_Mo_node (.inl mw_845) mw_846 rfl rfl (mj_wk h (fun v w3 h => ?_))
    obtain ⟨x4, rfl, h⟩ := h
    refine ⟨x4, rfl, ?_⟩
    obtain ⟨q5, h⟩ := h
    obtain ⟨q6, h⟩ := h
    refine mj_q_zald d_Mo_isDerived_41 rfl rfl hn rfl q5 q6 ?_
    obtain ⟨q7, h⟩ := h
    exact mj_r_zret d_Mo_isDerived_42 rfl q7 (mj_q_ret h)
  · have h := h.2 q2
    refine mj_r_iload_n d_Mo_isDerived_6 rfl ?_
    refine mj_r_iload_n d_Mo_isDerived_7 rfl ?_
    refine mj_r_iconst (x := 1) d_Mo_isDerived_8 rfl ?_
    refine mj_r_iadd d_Mo_isDerived_9 ?_
    obtain ⟨q8, h⟩ := h
    obtain ⟨q9, h⟩ := h
    refine mj_s_icmp_ne (tgt := 27) d_Mo_isDerived_10 (by decide) q8 q9 (fun q10 => ?_) (fun q10 => ?_)
    · have h := h.1 q10
      refine mj_r_aload_n d_Mo_isDerived_13 rfl ?_
      refine mj_q_getr d_Mo_isDerived_14 f_21_7 (.inl mw_715) rfl hn ?_
      refine mj_r_iload_n d_Mo_isDerived_17 rfl ?_
      obtain ⟨q11, h⟩ := h
      obtain ⟨q12, h⟩ := h
      refine mj_q_iald d_Mo_isDerived_18 rfl rfl hn rfl q11 q12 ?_
      refine mj_r_iload_n d_Mo_isDerived_19 rfl ?_
      obtain ⟨q13, h⟩ := h
      refine mj_s_icmp_ne (tgt := 27) d_Mo_isDerived_20 (by decide) q13 q1 (fun q14 => ?_) (fun q14 => ?_)
      · have h := h.1 q14
        refine mj_r_iconst (x := 1) d_Mo_isDerived_23 rfl ?_
        refine mj_r_goto (tgt := 42) d_Mo_isDerived_24 (by decide) ?_
        exact mj_r_zret d_Mo_isDerived_42 rfl (by decide) (mj_q_ret h)
      · have h := h.2 q14
        refine mj_r_iconst (x := 0) d_Mo_isDerived_27 rfl ?_
        refine mj_r_goto (tgt := 42) d_Mo_isDerived_28 (by decide) ?_
        exact mj_r_zret d_Mo_isDerived_42 rfl (by decide) (mj_q_ret h)
    · have h := h.2 q10
      refine mj_r_iconst (x := 0) d_Mo_isDerived_27 rfl ?_
      refine mj_r_goto (tgt := 42) d_Mo_isDerived_28 (by decide) ?_
      exact mj_r_zret d_Mo_isDerived_42 rfl (by decide) (mj_q_ret h)
theorem v_Mo_nextCuts_0 {g : mj_G} {nn d : Nat} {xs : mj_M} {Post : Option mj_V → mj_w → Prop} (hn : 33 ≤ nn) {w : mj_w} {l1 l2 : Int}
    (h : 0 ≤ l1 ∧ l1 < 10 ∧ mj_i (w 23 l1 0) ∧ ((w 23 l1 0) = 3 → (mj_i (w 21 15 0) ∧ mj_i l2 ∧ ((w 21 15 0) < l2 → (∀ w8, w8 = mj_wu w 21 15 0 ((w 21 15 0) + 1) → Post (some (.inl 1)) w8)) ∧ (¬ (w 21 15 0) < l2 → (((w 23 l1 0) < 2 → (Post (some (.inl 0)) w)) ∧ (¬ (w 23 l1 0) < 2 → (mj_i (w 21 14 0) ∧ ((w 21 14 0) = l2 → (Post (some (.inl 0)) w)) ∧ (¬ (w 21 14 0) = l2 → (∀ w13, w13 = mj_wu w 21 14 0 ((w 21 14 0) + 1) → ∀ w15, w15 = mj_wu w13 21 15 0 (w13 21 14 0) → Post (some (.inl 1)) w15)))))))) ∧ (¬ (w 23 l1 0) = 3 → (((w 23 l1 0) < 2 → (Post (some (.inl 0)) w)) ∧ (¬ (w 23 l1 0) < 2 → (mj_i (w 21 14 0) ∧ mj_i l2 ∧ ((w 21 14 0) = l2 → (Post (some (.inl 0)) w)) ∧ (¬ (w 21 14 0) = l2 → (∀ w21, w21 = mj_wu w 21 14 0 ((w 21 14 0) + 1) → ∀ w23, w23 = mj_wu w21 21 15 0 (w21 21 14 0) → Post (some (.inl 1)) w23))))))) :
    mj_J g y_Mo_nextCuts d 0 0 (0, [some (mj_R 21), some (.inl l1), some (.inl l2)], [], mj_mem nn xs w) (mj_P nn xs Post) := by
  refine mj_r_aload_n d_Mo_nextCuts_0 rfl ?_
  refine mj_q_getr d_Mo_nextCuts_1 f_21_4 (.inl mw_712) rfl hn ?_
  refine mj_r_iload_n d_Mo_nextCuts_4 rfl ?_
  obtain ⟨q1, h⟩ := h
  obtain ⟨q2, h⟩ := h
  refine mj_q_iald d_Mo_nextCuts_5 rfl rfl hn rfl q1 q2 ?_
  refine mj_r_iconst (x := 3) d_Mo_nextCuts_6 rfl ?_
  obtain ⟨q3, h⟩ := h
  refine mj_s_icmp_ne (tgt := 30) d_Mo_nextCuts_7 (by decide) q3 (mj_ik (by decide)) (fun q4 => ?_) (fun q4 => ?_)
  · have h := h.1 q4
    refine mj_r_aload_n d_Mo_nextCuts_10 rfl ?_
    refine mj_q_geti d_Mo_nextCuts_11 f_21_15 (.inl mw_723) rfl hn ?_
    refine mj_r_iload_n d_Mo_nextCuts_14 rfl ?_
    obtain ⟨q5, h⟩ := h
    obtain ⟨q6, h⟩ := h
    refine mj_s_icmp_ge (tgt := 30) d_Mo_nextCuts_15 (by decide) q5 q6 (fun q7 => ?_) (fun q7 => ?_)
    · have h := h.1 q7
      refine mj_r_aload_n d_Mo_nextCuts_18 rfl ?_
      refine mj_r_dup d_Mo_nextCuts_19 rfl ?_
      refine mj_q_geti d_Mo_nextCuts_20 f_21_15 (.inl mw_723) rfl hn ?_
      refine mj_r_iconst (x := 1) d_Mo_nextCuts_23 rfl ?_
      refine mj_r_iadd d_Mo_nextCuts_24 ?_
      refine mj_q_put d_Mo_nextCuts_25 f_21_15 (mj_fit_I _) (.inl mw_723) rfl hn (fun w8 e9 => ?_)
      have h := h w8 e9
      refine mj_r_iconst (x := 1) d_Mo_nextCuts_28 rfl ?_
      exact mj_r_zret d_Mo_nextCuts_29 rfl (by decide) (mj_q_ret h)
    · have h := h.2 q7
      refine mj_r_aload_n d_Mo_nextCuts_30 rfl ?_
      refine mj_q_getr d_Mo_nextCuts_31 f_21_4 (.inl mw_712) rfl hn ?_
      refine mj_r_iload_n d_Mo_nextCuts_34 rfl ?_
      refine mj_q_iald d_Mo_nextCuts_35 rfl rfl hn rfl q1 q2 ?_
      refine mj_r_iconst (x := 2) d_Mo_nextCuts_36 rfl ?_
      refine mj_s_icmp_lt (tgt := 48) d_Mo_nextCuts_37 (by decide) q3 (mj_ik (by decide)) (fun q10 => ?_) (fun q10 => ?_)
      · have h := h.1 q10
        refine mj_r_iconst (x := 0) d_Mo_nextCuts_48 rfl ?_
        exact mj_r_zret d_Mo_nextCuts_49 rfl (by decide) (mj_q_ret h)
      · have h := h.2 q10
        refine mj_r_aload_n d_Mo_nextCuts_40 rfl ?_
        refine mj_q_geti d_Mo_nextCuts_41 f_21_14 (.inl mw_722) rfl hn ?_
        refine mj_r_iload_n d_Mo_nextCuts_44 rfl ?_
        obtain ⟨q11, h⟩ := h
        refine mj_s_icmp_ne (tgt := 50) d_Mo_nextCuts_45 (by decide) q11 q6 (fun q12 => ?_) (fun q12 => ?_)
        · have h := h.1 q12
          refine mj_r_iconst (x := 0) d_Mo_nextCuts_48 rfl ?_
          exact mj_r_zret d_Mo_nextCuts_49 rfl (by decide) (mj_q_ret h)
        · have h := h.2 q12
          refine mj_r_aload_n d_Mo_nextCuts_50 rfl ?_
          refine mj_r_dup d_Mo_nextCuts_51 rfl ?_
          refine mj_q_geti d_Mo_nextCuts_52 f_21_14 (.inl mw_722) rfl hn ?_
          refine mj_r_iconst (x := 1) d_Mo_nextCuts_55 rfl ?_
          refine mj_r_iadd d_Mo_nextCuts_56 ?_
          refine mj_q_put d_Mo_nextCuts_57 f_21_14 (mj_fit_I _) (.inl mw_722) rfl hn (fun w13 e14 => ?_)
          have h := h w13 e14
          refine mj_r_aload_n d_Mo_nextCuts_60 rfl ?_
          refine mj_r_aload_n d_Mo_nextCuts_61 rfl ?_
          refine mj_q_geti d_Mo_nextCuts_62 f_21_14 (.inl mw_722) rfl hn ?_
          refine mj_q_put d_Mo_nextCuts_65 f_21_15 (mj_fit_I _) (.inl mw_723) rfl hn (fun w15 e16 => ?_)
          have h := h w15 e16
          refine mj_r_iconst (x := 1) d_Mo_nextCuts_68 rfl ?_
          exact mj_r_zret d_Mo_nextCuts_69 rfl (by decide) (mj_q_ret h)
  · have h := h.2 q4
    refine mj_r_aload_n d_Mo_nextCuts_30 rfl ?_
    refine mj_q_getr d_Mo_nextCuts_31 f_21_4 (.inl mw_712) rfl hn ?_
    refine mj_r_iload_n d_Mo_nextCuts_34 rfl ?_
    refine mj_q_iald d_Mo_nextCuts_35 rfl rfl hn rfl q1 q2 ?_
    refine mj_r_iconst (x := 2) d_Mo_nextCuts_36 rfl ?_
    refine mj_s_icmp_lt (tgt := 48) d_Mo_nextCuts_37 (by decide) q3 (mj_ik (by decide)) (fun q17 => ?_) (fun q17 => ?_)
    · have h := h.1 q17
      refine mj_r_iconst (x := 0) d_Mo_nextCuts_48 rfl ?_
      exact mj_r_zret d_Mo_nextCuts_49 rfl (by decide) (mj_q_ret h)
    · have h := h.2 q17
      refine mj_r_aload_n d_Mo_nextCuts_40 rfl ?_
      refine mj_q_geti d_Mo_nextCuts_41 f_21_14 (.inl mw_722) rfl hn ?_
      refine mj_r_iload_n d_Mo_nextCuts_44 rfl ?_
      obtain ⟨q18, h⟩ := h
      obtain ⟨q19, h⟩ := h
      refine mj_s_icmp_ne (tgt := 50) d_Mo_nextCuts_45 (by decide) q18 q19 (fun q20 => ?_) (fun q20 => ?_)
      · have h := h.1 q20
        refine mj_r_iconst (x := 0) d_Mo_nextCuts_48 rfl ?_
        exact mj_r_zret d_Mo_nextCuts_49 rfl (by decide) (mj_q_ret h)
      · have h := h.2 q20
        refine mj_r_aload_n d_Mo_nextCuts_50 rfl ?_
        refine mj_r_dup d_Mo_nextCuts_51 rfl ?_
        refine mj_q_geti d_Mo_nextCuts_52 f_21_14 (.inl mw_722) rfl hn ?_
        refine mj_r_iconst (x := 1) d_Mo_nextCuts_55 rfl ?_
        refine mj_r_iadd d_Mo_nextCuts_56 ?_
        refine mj_q_put d_Mo_nextCuts_57 f_21_14 (mj_fit_I _) (.inl mw_722) rfl hn (fun w21 e22 => ?_)
        have h := h w21 e22
        refine mj_r_aload_n d_Mo_nextCuts_60 rfl ?_
        refine mj_r_aload_n d_Mo_nextCuts_61 rfl ?_
        refine mj_q_geti d_Mo_nextCuts_62 f_21_14 (.inl mw_722) rfl hn ?_
        refine mj_q_put d_Mo_nextCuts_65 f_21_15 (mj_fit_I _) (.inl mw_723) rfl hn (fun w23 e24 => ?_)
        have h := h w23 e24
        refine mj_r_iconst (x := 1) d_Mo_nextCuts_68 rfl ?_
        exact mj_r_zret d_Mo_nextCuts_69 rfl (by decide) (mj_q_ret h)
theorem v_Mo_sum_0 {g : mj_G} {nn d : Nat} {xs : mj_M} {Post : Option mj_V → mj_w → Prop} (hn : 33 ≤ nn) {w : mj_w} {l1 l2 l3 : Int}
    (h : mj_J g y_Mo_sum (d + 1) 0 0 (6, [some (mj_R 21), some (.inl l1), some (.inl l2), some (.inl l3), some (.inr (.inl 0)), none, some (.inl 0), none, none, none], [], mj_mem nn xs w) (mj_P nn xs Post)) :
    mj_J g y_Mo_sum (d + 1) 0 0 (0, [some (mj_R 21), some (.inl l1), some (.inl l2), some (.inl l3), none, none, none, none, none, none], [], mj_mem nn xs w) (mj_P nn xs Post) := by
  refine mj_r_lconst (x := 0) d_Mo_sum_0 rfl ?_
  refine mj_e_lstore (lv' := [some (mj_R 21), some (.inl l1), some (.inl l2), some (.inl l3), some (.inr (.inl 0)), none, none, none, none, none]) d_Mo_sum_1 rfl rfl ?_
  refine mj_r_iconst (x := 0) d_Mo_sum_3 rfl ?_
  refine mj_e_istore (lv' := [some (mj_R 21), some (.inl l1), some (.inl l2), some (.inl l3), some (.inr (.inl 0)), none, some (.inl 0), none, none, none]) d_Mo_sum_4 rfl rfl ?_
  exact h
theorem v_Mo_sum_6 {g : mj_G} {nn d : Nat} {xs : mj_M} {Post : Option mj_V → mj_w → Prop} (hn : 33 ≤ nn) {w : mj_w} {l1 l2 l3 l4 l6 : Int}
    (h : mj_i l6 ∧ mj_i (w 21 2 0) ∧ (l6 < (w 21 2 0) → (0 ≤ l6 ∧ l6 < 10 ∧ mj_i (w 22 l6 0) ∧ mj_i l1 ∧ ((w 22 l6 0) = l1 → (mj_J g y_Mo_firstCuts d 0 0 (0, [some (mj_R 21), some (.inl l2)], [], mj_mem nn xs w) (mj_P nn xs (fun v w9 => v = none ∧ (mj_J g y_Mo_sum (d + 1) 0 0 (38, [some (mj_R 21), some (.inl l1), some (.inl l2), some (.inl l3), some (.inr (.inl l4)), none, some (.inl l6), some (.inl 1), none, none], [], mj_mem nn xs w9) (mj_P nn xs Post)))))) ∧ (¬ (w 22 l6 0) = l1 → (mj_J g y_Mo_firstCuts d 0 0 (0, [some (mj_R 21), some (.inl l2)], [], mj_mem nn xs w) (mj_P nn xs (fun v w11 => v = none ∧ (mj_J g y_Mo_sum (d + 1) 0 0 (38, [some (mj_R 21), some (.inl l1), some (.inl l2), some (.inl l3), some (.inr (.inl l4)), none, some (.inl l6), some (.inl 0), none, none], [], mj_mem nn xs w11) (mj_P nn xs Post)))))))) ∧ (¬ l6 < (w 21 2 0) → (Post (some (.inr (.inl l4))) w))) :
    mj_J g y_Mo_sum (d + 1) 0 0 (6, [some (mj_R 21), some (.inl l1), some (.inl l2), some (.inl l3), some (.inr (.inl l4)), none, some (.inl l6), none, none, none], [], mj_mem nn xs w) (mj_P nn xs Post) := by
  refine mj_r_iload d_Mo_sum_6 rfl ?_
  refine mj_r_aload_n d_Mo_sum_8 rfl ?_
  refine mj_q_geti d_Mo_sum_9 f_21_2 (.inl mw_710) rfl hn ?_
  obtain ⟨q1, h⟩ := h
  obtain ⟨q2, h⟩ := h
  refine mj_s_icmp_ge (tgt := 118) d_Mo_sum_12 (by decide) q1 q2 (fun q3 => ?_) (fun q3 => ?_)
  · have h := h.1 q3
    refine mj_r_aload_n d_Mo_sum_15 rfl ?_
    refine mj_q_getr d_Mo_sum_16 f_21_3 (.inl mw_711) rfl hn ?_
    refine mj_r_iload d_Mo_sum_19 rfl ?_
    obtain ⟨q4, h⟩ := h
    obtain ⟨q5, h⟩ := h
    refine mj_q_iald d_Mo_sum_21 rfl rfl hn rfl q4 q5 ?_
    refine mj_r_iload_n d_Mo_sum_22 rfl ?_
    obtain ⟨q6, h⟩ := h
    obtain ⟨q7, h⟩ := h
    refine mj_s_icmp_ne (tgt := 30) d_Mo_sum_23 (by decide) q6 q7 (fun q8 => ?_) (fun q8 => ?_)
    · have h := h.1 q8
      refine mj_r_iconst (x := 1) d_Mo_sum_26 rfl ?_
      refine mj_r_goto (tgt := 31) d_Mo_sum_27 (by decide) ?_
      refine mj_e_istore (lv' := [some (mj_R 21), some (.inl l1), some (.inl l2), some (.inl l3), some (.inr (.inl l4)), none, some (.inl l6), some (.inl 1), none, none]) d_Mo_sum_31 rfl rfl ?_
      refine mj_r_aload_n d_Mo_sum_33 rfl ?_
      refine mj_r_iload_n d_Mo_sum_34 rfl ?_
      refine mj_q_V1v d_Mo_sum_35 h_Mo_firstCuts (.inl mw_852) mw_854 mw_39 rfl rfl rfl hn rfl rfl (mj_wk h (fun v w9 h => ?_))
      obtain ⟨rfl, h⟩ := h
      refine ⟨rfl, ?_⟩
      exact h
    · have h := h.2 q8
      refine mj_r_iconst (x := 0) d_Mo_sum_30 rfl ?_
      refine mj_e_istore (lv' := [some (mj_R 21), some (.inl l1), some (.inl l2), some (.inl l3), some (.inr (.inl l4)), none, some (.inl l6), some (.inl 0), none, none]) d_Mo_sum_31 rfl rfl ?_
      refine mj_r_aload_n d_Mo_sum_33 rfl ?_
      refine mj_r_iload_n d_Mo_sum_34 rfl ?_
      refine mj_q_V1v d_Mo_sum_35 h_Mo_firstCuts (.inl mw_852) mw_854 mw_39 rfl rfl rfl hn rfl rfl (mj_wk h (fun v w11 h => ?_))
      obtain ⟨rfl, h⟩ := h
      refine ⟨rfl, ?_⟩
      exact h
  · have h := h.2 q3
    refine mj_r_lload d_Mo_sum_118 rfl ?_
    exact mj_r_lret d_Mo_sum_120 rfl (mj_q_ret h)
theorem v_Mo_sum_38 {g : mj_G} {nn d : Nat} {xs : mj_M} {Post : Option mj_V → mj_w → Prop} (hn : 33 ≤ nn) {w : mj_w} {l1 l2 l3 l4 l6 l7 : Int}
    (h : mj_i l7 ∧ (l7 = 0 → (mj_J g y_Mo_sum (d + 1) 0 0 (6, [some (mj_R 21), some (.inl l1), some (.inl l2), some (.inl l3), some (.inr (.inl l4)), none, some (.inl (l6 + 1)), none, none, none], [], mj_mem nn xs w) (mj_P nn xs Post))) ∧ (¬ l7 = 0 → (mj_J g y_Mo_isWay d 0 0 (0, [some (mj_R 21), some (.inl l6), some (.inl l2), some (.inl l3), none, none, none, none], [], mj_mem nn xs w) (mj_P nn xs (fun v w3 => ∃ x4 : Int, v = some (.inl x4) ∧ (mj_i x4 ∧ (x4 = 0 → (mj_J g y_Mo_nextCuts d 0 0 (0, [some (mj_R 21), some (.inl l6), some (.inl l3)], [], mj_mem nn xs w3) (mj_P nn xs (fun v w7 => ∃ x8 : Int, v = some (.inl x8) ∧ (mj_J g y_Mo_sum (d + 1) 0 0 (38, [some (mj_R 21), some (.inl l1), some (.inl l2), some (.inl l3), some (.inr (.inl l4)), none, some (.inl l6), some (.inl x8), none, none], [], mj_mem nn xs w7) (mj_P nn xs Post)))))) ∧ (¬ x4 = 0 → (mj_J g y_Mo_byWay d 0 0 (0, [some (mj_R 21), some (.inl l6), some (.inl l2), some (.inl l3), none, none, none, none, none, none], [], mj_mem nn xs w3) (mj_P nn xs (fun v w9 => ∃ x10 : Int, v = some (.inr (.inl x10)) ∧ (mj_l x10 ∧ (x10 < 0 → (Post (some (.inr (.inl ((-1))))) w9)) ∧ (¬ x10 < 0 → (mj_l (l4 + x10) ∧ (1000000000000 < (l4 + x10) → (mj_J g y_Mo_nextCuts d 0 0 (0, [some (mj_R 21), some (.inl l6), some (.inl l3)], [], mj_mem nn xs w9) (mj_P nn xs (fun v w15 => ∃ x16 : Int, v = some (.inl x16) ∧ (mj_J g y_Mo_sum (d + 1) 0 0 (38, [some (mj_R 21), some (.inl l1), some (.inl l2), some (.inl l3), some (.inr (.inl 1000000000000)), none, some (.inl l6), some (.inl x16), none, none], [], mj_mem nn xs w15) (mj_P nn xs Post)))))) ∧ (¬ 1000000000000 < (l4 + x10) → (mj_J g y_Mo_nextCuts d 0 0 (0, [some (mj_R 21), some (.inl l6), some (.inl l3)], [], mj_mem nn xs w9) (mj_P nn xs (fun v w17 => ∃ x18 : Int, v = some (.inl x18) ∧ (mj_J g y_Mo_sum (d + 1) 0 0 (38, [some (mj_R 21), some (.inl l1), some (.inl l2), some (.inl l3), some (.inr (.inl (l4 + x10))), none, some (.inl l6), some (.inl x18), none, none], [], mj_mem nn xs w17) (mj_P nn xs Post))))))))))))))))))) :
    mj_J g y_Mo_sum (d + 1) 0 0 (38, [some (mj_R 21), some (.inl l1), some (.inl l2), some (.inl l3), some (.inr (.inl l4)), none, some (.inl l6), some (.inl l7), none, none], [], mj_mem nn xs w) (mj_P nn xs Post) := by
  refine mj_r_iload d_Mo_sum_38 rfl ?_
  obtain ⟨q1, h⟩ := h
  refine mj_s_if_eq (tgt := 112) d_Mo_sum_40 (by decide) q1 (fun q2 => ?_) (fun q2 => ?_)
  · have h := h.1 q2
    refine mj_e_iinc (lv' := [some (mj_R 21), some (.inl l1), some (.inl l2), some (.inl l3), some (.inr (.inl l4)), none, some (.inl (l6 + 1)), some (.inl l7), none, none]) d_Mo_sum_112 rfl rfl ?_
    refine mj_r_goto (tgt := 6) d_Mo_sum_115 (by decide) ?_
    refine mj_r_sub (lv' := [some (mj_R 21), some (.inl l1), some (.inl l2), some (.inl l3), some (.inr (.inl l4)), none, some (.inl (l6 + 1)), none, none, none]) ⟨.inr rfl, .inr rfl, .inr rfl, .inr rfl, .inr rfl, .inl rfl, .inr rfl, .inl rfl, .inl rfl, .inl rfl, trivial⟩ ?_
    exact h
  · have h := h.2 q2
    refine mj_r_aload_n d_Mo_sum_43 rfl ?_
    refine mj_r_iload d_Mo_sum_44 rfl ?_
    refine mj_r_iload_n d_Mo_sum_46 rfl ?_
    refine mj_r_iload_n d_Mo_sum_47 rfl ?_
    refine mj_q_V3i d_Mo_sum_48 h_Mo_isWay (.inl mw_856) mw_858 mw_40 rfl rfl rfl hn rfl rfl (mj_wk h (fun v w3 h => ?_))
    obtain ⟨x4, rfl, h⟩ := h
    refine ⟨x4, rfl, ?_⟩
    obtain ⟨q5, h⟩ := h
    refine mj_s_if_eq (tgt := 100) d_Mo_sum_51 (by decide) q5 (fun q6 => ?_) (fun q6 => ?_)
    · have h := h.1 q6
      refine mj_r_aload_n d_Mo_sum_100 rfl ?_
      refine mj_r_iload d_Mo_sum_101 rfl ?_
      refine mj_r_iload_n d_Mo_sum_103 rfl ?_
      refine mj_q_V2i d_Mo_sum_104 h_Mo_nextCuts (.inl mw_868) mw_870 mw_43 rfl rfl rfl hn rfl rfl (mj_wk h (fun v w7 h => ?_))
      obtain ⟨x8, rfl, h⟩ := h
      refine ⟨x8, rfl, ?_⟩
      refine mj_e_istore (lv' := [some (mj_R 21), some (.inl l1), some (.inl l2), some (.inl l3), some (.inr (.inl l4)), none, some (.inl l6), some (.inl x8), none, none]) d_Mo_sum_107 rfl rfl ?_
      refine mj_r_goto (tgt := 38) d_Mo_sum_109 (by decide) ?_
      exact h
    · have h := h.2 q6
      refine mj_r_aload_n d_Mo_sum_54 rfl ?_
      refine mj_r_iload d_Mo_sum_55 rfl ?_
      refine mj_r_iload_n d_Mo_sum_57 rfl ?_
      refine mj_r_iload_n d_Mo_sum_58 rfl ?_
      refine mj_q_V3l d_Mo_sum_59 h_Mo_byWay (.inl mw_877) mw_879 mw_45 rfl rfl rfl hn rfl rfl (mj_wk h (fun v w9 h => ?_))
      obtain ⟨x10, rfl, h⟩ := h
      refine ⟨x10, rfl, ?_⟩
      refine mj_e_lstore (lv' := [some (mj_R 21), some (.inl l1), some (.inl l2), some (.inl l3), some (.inr (.inl l4)), none, some (.inl l6), some (.inl l7), some (.inr (.inl x10)), none]) d_Mo_sum_62 rfl rfl ?_
      refine mj_r_lload d_Mo_sum_64 rfl ?_
      refine mj_r_lconst (x := 0) d_Mo_sum_66 rfl ?_
      obtain ⟨q11, h⟩ := h
      refine mj_s_l_ge (tgt := 75) d_Mo_sum_67 d_Mo_sum_68 (by decide) q11 (mj_lk (by decide)) (fun q12 => ?_) (fun q12 => ?_)
      · have h := h.1 q12
        refine mj_r_ldc2v (x := (-1)) d_Mo_sum_71 mw_872 (by decide) ?_
        exact mj_r_lret d_Mo_sum_74 rfl (mj_q_ret h)
      · have h := h.2 q12
        refine mj_r_lload d_Mo_sum_75 rfl ?_
        refine mj_r_lload d_Mo_sum_77 rfl ?_
        refine mj_r_ladd d_Mo_sum_79 ?_
        refine mj_r_ldc2v (x := 1000000000000) d_Mo_sum_80 mw_884 (by decide) ?_
        obtain ⟨q13, h⟩ := h
        refine mj_s_l_le (tgt := 93) d_Mo_sum_83 d_Mo_sum_84 (by decide) q13 (mj_lk (by decide)) (fun q14 => ?_) (fun q14 => ?_)
        · have h := h.1 q14
          refine mj_r_ldc2v (x := 1000000000000) d_Mo_sum_87 mw_884 (by decide) ?_
          refine mj_r_goto (tgt := 98) d_Mo_sum_90 (by decide) ?_
          refine mj_e_lstore (lv' := [some (mj_R 21), some (.inl l1), some (.inl l2), some (.inl l3), some (.inr (.inl 1000000000000)), none, some (.inl l6), some (.inl l7), some (.inr (.inl x10)), none]) d_Mo_sum_98 rfl rfl ?_
          refine mj_r_aload_n d_Mo_sum_100 rfl ?_
          refine mj_r_iload d_Mo_sum_101 rfl ?_
          refine mj_r_iload_n d_Mo_sum_103 rfl ?_
          refine mj_q_V2i d_Mo_sum_104 h_Mo_nextCuts (.inl mw_868) mw_870 mw_43 rfl rfl rfl hn rfl rfl (mj_wk h (fun v w15 h => ?_))
          obtain ⟨x16, rfl, h⟩ := h
          refine ⟨x16, rfl, ?_⟩
          refine mj_e_istore (lv' := [some (mj_R 21), some (.inl l1), some (.inl l2), some (.inl l3), some (.inr (.inl 1000000000000)), none, some (.inl l6), some (.inl x16), some (.inr (.inl x10)), none]) d_Mo_sum_107 rfl rfl ?_
          refine mj_r_goto (tgt := 38) d_Mo_sum_109 (by decide) ?_
          refine mj_r_sub (lv' := [some (mj_R 21), some (.inl l1), some (.inl l2), some (.inl l3), some (.inr (.inl 1000000000000)), none, some (.inl l6), some (.inl x16), none, none]) ⟨.inr rfl, .inr rfl, .inr rfl, .inr rfl, .inr rfl, .inl rfl, .inr rfl, .inr rfl, .inl rfl, .inl rfl, trivial⟩ ?_
          exact h
        · have h := h.2 q14
          refine mj_r_lload d_Mo_sum_93 rfl ?_
          refine mj_r_lload d_Mo_sum_95 rfl ?_
          refine mj_r_ladd d_Mo_sum_97 ?_
          refine mj_e_lstore (lv' := [some (mj_R 21), some (.inl l1), some (.inl l2), some (.inl l3), some (.inr (.inl (l4 + x10))), none, some (.inl l6), some (.inl l7), some (.inr (.inl x10)), none]) d_Mo_sum_98 rfl rfl ?_
          refine mj_r_aload_n d_Mo_sum_100 rfl ?_
          refine mj_r_iload d_Mo_sum_101 rfl ?_
          refine mj_r_iload_n d_Mo_sum_103 rfl ?_
          refine mj_q_V2i d_Mo_sum_104 h_Mo_nextCuts (.inl mw_868) mw_870 mw_43 rfl rfl rfl hn rfl rfl (mj_wk h (fun v w17 h => ?_))
          obtain ⟨x18, rfl, h⟩ := h
          refine ⟨x18, rfl, ?_⟩
          refine mj_e_istore (lv' := [some (mj_R 21), some (.inl l1), some (.inl l2), some (.inl l3), some (.inr (.inl (l4 + x10))), none, some (.inl l6), some (.inl x18), some (.inr (.inl x10)), none]) d_Mo_sum_107 rfl rfl ?_
          refine mj_r_goto (tgt := 38) d_Mo_sum_109 (by decide) ?_
          refine mj_r_sub (lv' := [some (mj_R 21), some (.inl l1), some (.inl l2), some (.inl l3), some (.inr (.inl (l4 + x10))), none, some (.inl l6), some (.inl x18), none, none]) ⟨.inr rfl, .inr rfl, .inr rfl, .inr rfl, .inr rfl, .inl rfl, .inr rfl, .inr rfl, .inl rfl, .inl rfl, trivial⟩ ?_
          exact h
theorem v_Mo_byWay_0 {g : mj_G} {nn d : Nat} {xs : mj_M} {Post : Option mj_V → mj_w → Prop} (hn : 33 ≤ nn) {w : mj_w} {l1 l2 l3 : Int}
    (h : mj_J g y_Mo_byWay (d + 1) 0 0 (6, [some (mj_R 21), some (.inl l1), some (.inl l2), some (.inl l3), some (.inr (.inl 1)), none, some (.inl 0), none, none, none], [], mj_mem nn xs w) (mj_P nn xs Post)) :
    mj_J g y_Mo_byWay (d + 1) 0 0 (0, [some (mj_R 21), some (.inl l1), some (.inl l2), some (.inl l3), none, none, none, none, none, none], [], mj_mem nn xs w) (mj_P nn xs Post) := by
  refine mj_r_lconst (x := 1) d_Mo_byWay_0 rfl ?_
  refine mj_e_lstore (lv' := [some (mj_R 21), some (.inl l1), some (.inl l2), some (.inl l3), some (.inr (.inl 1)), none, none, none, none, none]) d_Mo_byWay_1 rfl rfl ?_
  refine mj_r_iconst (x := 0) d_Mo_byWay_3 rfl ?_
  refine mj_e_istore (lv' := [some (mj_R 21), some (.inl l1), some (.inl l2), some (.inl l3), some (.inr (.inl 1)), none, some (.inl 0), none, none, none]) d_Mo_byWay_4 rfl rfl ?_
  exact h
theorem v_Mo_byWay_6 {g : mj_G} {nn d : Nat} {xs : mj_M} {Post : Option mj_V → mj_w → Prop} (hn : 33 ≤ nn) {w : mj_w} {l1 l2 l3 l4 l6 : Int}
    (h : 0 ≤ l1 ∧ l1 < 10 ∧ mj_i l6 ∧ mj_i (w 23 l1 0) ∧ (l6 < (w 23 l1 0) → (0 ≤ ((3 * l1) + l6) ∧ ((3 * l1) + l6) < 30 ∧ mj_J g y_Mo_cut d 0 0 (0, [some (mj_R 21), some (.inl l1), some (.inl l6), some (.inl l2), some (.inl l3)], [], mj_mem nn xs w) (mj_P nn xs (fun v w8 => ∃ x9 : Int, v = some (.inl x9) ∧ (mj_J g y_Mo_cut d 0 0 (0, [some (mj_R 21), some (.inl l1), some (.inl (l6 + 1)), some (.inl l2), some (.inl l3)], [], mj_mem nn xs w8) (mj_P nn xs (fun v w10 => ∃ x11 : Int, v = some (.inl x11) ∧ (mj_i (w 24 ((3 * l1) + l6) 0) ∧ ((w 24 ((3 * l1) + l6) 0) < 8 → (mj_J g y_Mo_node d 0 0 (0, [some (.inl (w 24 ((3 * l1) + l6) 0)), some (.inl x9), some (.inl x11)], [], mj_mem nn xs w10) (mj_P nn xs (fun v w14 => ∃ x15 : Int, v = some (.inl x15) ∧ (0 ≤ x15 ∧ x15 < 845 ∧ mj_i (w14 28 x15 0) ∧ ((w14 28 x15 0) = 0 → (Post (some (.inr (.inl ((-1))))) w14)) ∧ (¬ (w14 28 x15 0) = 0 → (((w 24 ((3 * l1) + l6) 0) < 8 → (mj_J g y_Mo_node d 0 0 (0, [some (.inl (w 24 ((3 * l1) + l6) 0)), some (.inl x9), some (.inl x11)], [], mj_mem nn xs w14) (mj_P nn xs (fun v w21 => ∃ x22 : Int, v = some (.inl x22) ∧ (0 ≤ x22 ∧ x22 < 845 ∧ mj_J g y_Mo_times d 0 0 (0, [some (.inr (.inl l4)), none, some (.inr (.inl (w21 29 x22 0))), none], [], mj_mem nn xs w21) (mj_P nn xs (fun v w25 => ∃ x26 : Int, v = some (.inr (.inl x26)) ∧ (mj_J g y_Mo_byWay (d + 1) 0 0 (6, [some (mj_R 21), some (.inl l1), some (.inl l2), some (.inl l3), some (.inr (.inl x26)), none, some (.inl (l6 + 1)), none, none, none], [], mj_mem nn xs w25) (mj_P nn xs Post))))))))) ∧ (¬ (w 24 ((3 * l1) + l6) 0) < 8 → (mj_J g y_Mo_byWay (d + 1) 0 0 (6, [some (mj_R 21), some (.inl l1), some (.inl l2), some (.inl l3), some (.inr (.inl l4)), none, some (.inl (l6 + 1)), none, none, none], [], mj_mem nn xs w14) (mj_P nn xs Post)))))))))) ∧ (¬ (w 24 ((3 * l1) + l6) 0) < 8 → (((w 24 ((3 * l1) + l6) 0) < 8 → (mj_J g y_Mo_node d 0 0 (0, [some (.inl (w 24 ((3 * l1) + l6) 0)), some (.inl x9), some (.inl x11)], [], mj_mem nn xs w10) (mj_P nn xs (fun v w28 => ∃ x29 : Int, v = some (.inl x29) ∧ (0 ≤ x29 ∧ x29 < 845 ∧ mj_J g y_Mo_times d 0 0 (0, [some (.inr (.inl l4)), none, some (.inr (.inl (w28 29 x29 0))), none], [], mj_mem nn xs w28) (mj_P nn xs (fun v w32 => ∃ x33 : Int, v = some (.inr (.inl x33)) ∧ (mj_J g y_Mo_byWay (d + 1) 0 0 (6, [some (mj_R 21), some (.inl l1), some (.inl l2), some (.inl l3), some (.inr (.inl x33)), none, some (.inl (l6 + 1)), none, none, none], [], mj_mem nn xs w32) (mj_P nn xs Post))))))))) ∧ (¬ (w 24 ((3 * l1) + l6) 0) < 8 → (mj_J g y_Mo_byWay (d + 1) 0 0 (6, [some (mj_R 21), some (.inl l1), some (.inl l2), some (.inl l3), some (.inr (.inl l4)), none, some (.inl (l6 + 1)), none, none, none], [], mj_mem nn xs w10) (mj_P nn xs Post))))))))))))) ∧ (¬ l6 < (w 23 l1 0) → (Post (some (.inr (.inl l4))) w))) :
    mj_J g y_Mo_byWay (d + 1) 0 0 (6, [some (mj_R 21), some (.inl l1), some (.inl l2), some (.inl l3), some (.inr (.inl l4)), none, some (.inl l6), none, none, none], [], mj_mem nn xs w) (mj_P nn xs Post) := by
  refine mj_r_iload d_Mo_byWay_6 rfl ?_
  refine mj_r_aload_n d_Mo_byWay_8 rfl ?_
  refine mj_q_getr d_Mo_byWay_9 f_21_4 (.inl mw_712) rfl hn ?_
  refine mj_r_iload_n d_Mo_byWay_12 rfl ?_
  obtain ⟨q1, h⟩ := h
  obtain ⟨q2, h⟩ := h
  refine mj_q_iald d_Mo_byWay_13 rfl rfl hn rfl q1 q2 ?_
  obtain ⟨q3, h⟩ := h
  obtain ⟨q4, h⟩ := h
  refine mj_s_icmp_ge (tgt := 121) d_Mo_byWay_14 (by decide) q3 q4 (fun q5 => ?_) (fun q5 => ?_)
  · have h := h.1 q5
    refine mj_r_aload_n d_Mo_byWay_17 rfl ?_
    refine mj_q_getr d_Mo_byWay_18 f_21_5 (.inl mw_713) rfl hn ?_
    refine mj_r_iconst (x := 3) d_Mo_byWay_21 rfl ?_
    refine mj_r_iload_n d_Mo_byWay_22 rfl ?_
    refine mj_r_imul d_Mo_byWay_23 ?_
    refine mj_r_iload d_Mo_byWay_24 rfl ?_
    refine mj_r_iadd d_Mo_byWay_26 ?_
    obtain ⟨q6, h⟩ := h
    obtain ⟨q7, h⟩ := h
    refine mj_q_iald d_Mo_byWay_27 rfl rfl hn rfl q6 q7 ?_
    refine mj_e_istore (lv' := [some (mj_R 21), some (.inl l1), some (.inl l2), some (.inl l3), some (.inr (.inl l4)), none, some (.inl l6), some (.inl (w 24 ((3 * l1) + l6) 0)), none, none]) d_Mo_byWay_28 rfl rfl ?_
    refine mj_r_aload_n d_Mo_byWay_30 rfl ?_
    refine mj_r_iload_n d_Mo_byWay_31 rfl ?_
    refine mj_r_iload d_Mo_byWay_32 rfl ?_
    refine mj_r_iload_n d_Mo_byWay_34 rfl ?_
    refine mj_r_iload_n d_Mo_byWay_35 rfl ?_
    refine mj_q_V4i d_Mo_byWay_36 h_Mo_cut (.inl mw_860) mw_862 mw_41 rfl rfl rfl hn rfl rfl (mj_wk h (fun v w8 h => ?_))
    obtain ⟨x9, rfl, h⟩ := h
    refine ⟨x9, rfl, ?_⟩
    refine mj_e_istore (lv' := [some (mj_R 21), some (.inl l1), some (.inl l2), some (.inl l3), some (.inr (.inl l4)), none, some (.inl l6), some (.inl (w 24 ((3 * l1) + l6) 0)), some (.inl x9), none]) d_Mo_byWay_39 rfl rfl ?_
    refine mj_r_aload_n d_Mo_byWay_41 rfl ?_
    refine mj_r_iload_n d_Mo_byWay_42 rfl ?_
    refine mj_r_iload d_Mo_byWay_43 rfl ?_
    refine mj_r_iconst (x := 1) d_Mo_byWay_45 rfl ?_
    refine mj_r_iadd d_Mo_byWay_46 ?_
    refine mj_r_iload_n d_Mo_byWay_47 rfl ?_
    refine mj_r_iload_n d_Mo_byWay_48 rfl ?_
    refine mj_q_V4i d_Mo_byWay_49 h_Mo_cut (.inl mw_860) mw_862 mw_41 rfl rfl rfl hn rfl rfl (mj_wk h (fun v w10 h => ?_))
    obtain ⟨x11, rfl, h⟩ := h
    refine ⟨x11, rfl, ?_⟩
    refine mj_e_istore (lv' := [some (mj_R 21), some (.inl l1), some (.inl l2), some (.inl l3), some (.inr (.inl l4)), none, some (.inl l6), some (.inl (w 24 ((3 * l1) + l6) 0)), some (.inl x9), some (.inl x11)]) d_Mo_byWay_52 rfl rfl ?_
    refine mj_r_iload d_Mo_byWay_54 rfl ?_
    refine mj_r_bipush (x := 8) d_Mo_byWay_56 (by decide) ?_
    obtain ⟨q12, h⟩ := h
    refine mj_s_icmp_ge (tgt := 82) d_Mo_byWay_58 (by decide) q12 (mj_ik (by decide)) (fun q13 => ?_) (fun q13 => ?_)
    · have h := h.1 q13
      refine mj_r_aload_n d_Mo_byWay_61 rfl ?_
      refine mj_q_getr d_Mo_byWay_62 f_21_11 (.inl mw_719) rfl hn ?_
      refine mj_r_iload d_Mo_byWay_65 rfl ?_
      refine mj_r_iload d_Mo_byWay_67 rfl ?_
      refine mj_r_iload d_Mo_byWay_69 rfl ?_
      refine mj_q_S3i d_Mo_byWay_71 h_Mo_node (.inl mw_845) mw_846 rfl rfl (mj_wk h (fun v w14 h => ?_))
      obtain ⟨x15, rfl, h⟩ := h
      refine ⟨x15, rfl, ?_⟩
      obtain ⟨q16, h⟩ := h
      obtain ⟨q17, h⟩ := h
      refine mj_q_zald d_Mo_byWay_74 rfl rfl hn rfl q16 q17 ?_
      obtain ⟨q18, h⟩ := h
      refine mj_s_if_ne (tgt := 82) d_Mo_byWay_75 (by decide) q18 (fun q19 => ?_) (fun q19 => ?_)
      · have h := h.1 q19
        refine mj_r_ldc2v (x := (-1)) d_Mo_byWay_78 mw_872 (by decide) ?_
        exact mj_r_lret d_Mo_byWay_81 rfl (mj_q_ret h)
      · have h := h.2 q19
        refine mj_r_iload d_Mo_byWay_82 rfl ?_
        refine mj_r_bipush (x := 8) d_Mo_byWay_84 (by decide) ?_
        refine mj_s_icmp_ge (tgt := 111) d_Mo_byWay_86 (by decide) q12 (mj_ik (by decide)) (fun q20 => ?_) (fun q20 => ?_)
        · have h := h.1 q20
          refine mj_r_lload d_Mo_byWay_89 rfl ?_
          refine mj_r_aload_n d_Mo_byWay_91 rfl ?_
          refine mj_q_getr d_Mo_byWay_92 f_21_12 (.inl mw_720) rfl hn ?_
          refine mj_r_iload d_Mo_byWay_95 rfl ?_
          refine mj_r_iload d_Mo_byWay_97 rfl ?_
          refine mj_r_iload d_Mo_byWay_99 rfl ?_
          refine mj_q_S3i d_Mo_byWay_101 h_Mo_node (.inl mw_845) mw_846 rfl rfl (mj_wk h (fun v w21 h => ?_))
          obtain ⟨x22, rfl, h⟩ := h
          refine ⟨x22, rfl, ?_⟩
          obtain ⟨q23, h⟩ := h
          obtain ⟨q24, h⟩ := h
          refine mj_q_lald d_Mo_byWay_104 rfl rfl hn rfl q23 q24 ?_
          refine mj_q_S2l d_Mo_byWay_105 h_Mo_times (.inl mw_881) mw_882 rfl rfl (mj_wk h (fun v w25 h => ?_))
          obtain ⟨x26, rfl, h⟩ := h
          refine ⟨x26, rfl, ?_⟩
          refine mj_r_goto (tgt := 113) d_Mo_byWay_108 (by decide) ?_
          refine mj_e_lstore (lv' := [some (mj_R 21), some (.inl l1), some (.inl l2), some (.inl l3), some (.inr (.inl x26)), none, some (.inl l6), some (.inl (w 24 ((3 * l1) + l6) 0)), some (.inl x9), some (.inl x11)]) d_Mo_byWay_113 rfl rfl ?_
          refine mj_e_iinc (lv' := [some (mj_R 21), some (.inl l1), some (.inl l2), some (.inl l3), some (.inr (.inl x26)), none, some (.inl (l6 + 1)), some (.inl (w 24 ((3 * l1) + l6) 0)), some (.inl x9), some (.inl x11)]) d_Mo_byWay_115 rfl rfl ?_
          refine mj_r_goto (tgt := 6) d_Mo_byWay_118 (by decide) ?_
          refine mj_r_sub (lv' := [some (mj_R 21), some (.inl l1), some (.inl l2), some (.inl l3), some (.inr (.inl x26)), none, some (.inl (l6 + 1)), none, none, none]) ⟨.inr rfl, .inr rfl, .inr rfl, .inr rfl, .inr rfl, .inl rfl, .inr rfl, .inl rfl, .inl rfl, .inl rfl, trivial⟩ ?_
          exact h
        · have h := h.2 q20
          refine mj_r_lload d_Mo_byWay_111 rfl ?_
          refine mj_e_lstore (lv' := [some (mj_R 21), some (.inl l1), some (.inl l2), some (.inl l3), some (.inr (.inl l4)), none, some (.inl l6), some (.inl (w 24 ((3 * l1) + l6) 0)), some (.inl x9), some (.inl x11)]) d_Mo_byWay_113 rfl rfl ?_
          refine mj_e_iinc (lv' := [some (mj_R 21), some (.inl l1), some (.inl l2), some (.inl l3), some (.inr (.inl l4)), none, some (.inl (l6 + 1)), some (.inl (w 24 ((3 * l1) + l6) 0)), some (.inl x9), some (.inl x11)]) d_Mo_byWay_115 rfl rfl ?_
          refine mj_r_goto (tgt := 6) d_Mo_byWay_118 (by decide) ?_
          refine mj_r_sub (lv' := [some (mj_R 21), some (.inl l1), some (.inl l2), some (.inl l3), some (.inr (.inl l4)), none, some (.inl (l6 + 1)), none, none, none]) ⟨.inr rfl, .inr rfl, .inr rfl, .inr rfl, .inr rfl, .inl rfl, .inr rfl, .inl rfl, .inl rfl, .inl rfl, trivial⟩ ?_
          exact h
    · have h := h.2 q13
      refine mj_r_iload d_Mo_byWay_82 rfl ?_
      refine mj_r_bipush (x := 8) d_Mo_byWay_84 (by decide) ?_
      refine mj_s_icmp_ge (tgt := 111) d_Mo_byWay_86 (by decide) q12 (mj_ik (by decide)) (fun q27 => ?_) (fun q27 => ?_)
      · have h := h.1 q27
        refine mj_r_lload d_Mo_byWay_89 rfl ?_
        refine mj_r_aload_n d_Mo_byWay_91 rfl ?_
        refine mj_q_getr d_Mo_byWay_92 f_21_12 (.inl mw_720) rfl hn ?_
        refine mj_r_iload d_Mo_byWay_95 rfl ?_
        refine mj_r_iload d_Mo_byWay_97 rfl ?_
        refine mj_r_iload d_Mo_byWay_99 rfl ?_
        refine mj_q_S3i d_Mo_byWay_101 h_Mo_node (.inl mw_845) mw_846 rfl rfl (mj_wk h (fun v w28 h => ?_))
        obtain ⟨x29, rfl, h⟩ := h
        refine ⟨x29, rfl, ?_⟩
        obtain ⟨q30, h⟩ := h
        obtain ⟨q31, h⟩ := h
        refine mj_q_lald d_Mo_byWay_104 rfl rfl hn rfl q30 q31 ?_
        refine mj_q_S2l d_Mo_byWay_105 h_Mo_times (.inl mw_881) mw_882 rfl rfl (mj_wk h (fun v w32 h => ?_))
        obtain ⟨x33, rfl, h⟩ := h
        refine ⟨x33, rfl, ?_⟩
        refine mj_r_goto (tgt := 113) d_Mo_byWay_108 (by decide) ?_
        refine mj_e_lstore (lv' := [some (mj_R 21), some (.inl l1), some (.inl l2), some (.inl l3), some (.inr (.inl x33)), none, some (.inl l6), some (.inl (w 24 ((3 * l1) + l6) 0)), some (.inl x9), some (.inl x11)]) d_Mo_byWay_113 rfl rfl ?_
        refine mj_e_iinc (lv' := [some (mj_R 21), some (.inl l1), some (.inl l2), some (.inl l3), some (.inr (.inl x33)), none, some (.inl (l6 + 1)), some (.inl (w 24 ((3 * l1) + l6) 0)), some (.inl x9), some (.inl x11)]) d_Mo_byWay_115 rfl rfl ?_
        refine mj_r_goto (tgt := 6) d_Mo_byWay_118 (by decide) ?_
        refine mj_r_sub (lv' := [some (mj_R 21), some (.inl l1), some (.inl l2), some (.inl l3), some (.inr (.inl x33)), none, some (.inl (l6 + 1)), none, none, none]) ⟨.inr rfl, .inr rfl, .inr rfl, .inr rfl, .inr rfl, .inl rfl, .inr rfl, .inl rfl, .inl rfl, .inl rfl, trivial⟩ ?_
        exact h
      · have h := h.2 q27
        refine mj_r_lload d_Mo_byWay_111 rfl ?_
        refine mj_e_lstore (lv' := [some (mj_R 21), some (.inl l1), some (.inl l2), some (.inl l3), some (.inr (.inl l4)), none, some (.inl l6), some (.inl (w 24 ((3 * l1) + l6) 0)), some (.inl x9), some (.inl x11)]) d_Mo_byWay_113 rfl rfl ?_
        refine mj_e_iinc (lv' := [some (mj_R 21), some (.inl l1), some (.inl l2), some (.inl l3), some (.inr (.inl l4)), none, some (.inl (l6 + 1)), some (.inl (w 24 ((3 * l1) + l6) 0)), some (.inl x9), some (.inl x11)]) d_Mo_byWay_115 rfl rfl ?_
        refine mj_r_goto (tgt := 6) d_Mo_byWay_118 (by decide) ?_
        refine mj_r_sub (lv' := [some (mj_R 21), some (.inl l1), some (.inl l2), some (.inl l3), some (.inr (.inl l4)), none, some (.inl (l6 + 1)), none, none, none]) ⟨.inr rfl, .inr rfl, .inr rfl, .inr rfl, .inr rfl, .inl rfl, .inr rfl, .inl rfl, .inl rfl, .inl rfl, trivial⟩ ?_
        exact h
  · have h := h.2 q5
    refine mj_r_lload d_Mo_byWay_121 rfl ?_
    exact mj_r_lret d_Mo_byWay_123 rfl (mj_q_ret h)
theorem v_Mo_times_0 {g : mj_G} {nn d : Nat} {xs : mj_M} {Post : Option mj_V → mj_w → Prop} (hn : 33 ≤ nn) {w : mj_w} {l0 l2 : Int}
    (h : mj_l l0 ∧ (l0 = 0 → (Post (some (.inr (.inl 0))) w)) ∧ (¬ l0 = 0 → (mj_l l2 ∧ (l2 = 0 → (Post (some (.inr (.inl 0))) w)) ∧ (¬ l2 = 0 → (mj_l ((1000000000000 + l0) - 1) ∧ 0 ≤ ((1000000000000 + l0) - 1) ∧ 0 < l0 ∧ mj_l (((1000000000000 + l0) - 1) / l0) ∧ (l2 < (((1000000000000 + l0) - 1) / l0) → (Post (some (.inr (.inl (l0 * l2)))) w)) ∧ (¬ l2 < (((1000000000000 + l0) - 1) / l0) → (Post (some (.inr (.inl 1000000000000))) w))))))) :
    mj_J g y_Mo_times d 0 0 (0, [some (.inr (.inl l0)), none, some (.inr (.inl l2)), none], [], mj_mem nn xs w) (mj_P nn xs Post) := by
  refine mj_r_lload_n d_Mo_times_0 rfl ?_
  refine mj_r_lconst (x := 0) d_Mo_times_1 rfl ?_
  obtain ⟨q1, h⟩ := h
  refine mj_s_l_eq (tgt := 12) d_Mo_times_2 d_Mo_times_3 (by decide) q1 (mj_lk (by decide)) (fun q2 => ?_) (fun q2 => ?_)
  · have h := h.1 q2
    refine mj_r_lconst (x := 0) d_Mo_times_12 rfl ?_
    exact mj_r_lret d_Mo_times_13 rfl (mj_q_ret h)
  · have h := h.2 q2
    refine mj_r_lload_n d_Mo_times_6 rfl ?_
    refine mj_r_lconst (x := 0) d_Mo_times_7 rfl ?_
    obtain ⟨q3, h⟩ := h
    refine mj_s_l_ne (tgt := 14) d_Mo_times_8 d_Mo_times_9 (by decide) q3 (mj_lk (by decide)) (fun q4 => ?_) (fun q4 => ?_)
    · have h := h.1 q4
      refine mj_r_lconst (x := 0) d_Mo_times_12 rfl ?_
      exact mj_r_lret d_Mo_times_13 rfl (mj_q_ret h)
    · have h := h.2 q4
      refine mj_r_lload_n d_Mo_times_14 rfl ?_
      refine mj_r_ldc2v (x := 1000000000000) d_Mo_times_15 mw_884 (by decide) ?_
      refine mj_r_lload_n d_Mo_times_18 rfl ?_
      refine mj_r_ladd d_Mo_times_19 ?_
      refine mj_r_lconst (x := 1) d_Mo_times_20 rfl ?_
      refine mj_r_lsub d_Mo_times_21 ?_
      refine mj_r_lload_n d_Mo_times_22 rfl ?_
      obtain ⟨q5, h⟩ := h
      obtain ⟨q6, h⟩ := h
      obtain ⟨q7, h⟩ := h
      refine mj_r_ldiv d_Mo_times_23 q5 q1 q6 q7 ?_
      obtain ⟨q8, h⟩ := h
      refine mj_s_l_lt (tgt := 34) d_Mo_times_24 d_Mo_times_25 (by decide) q3 q8 (fun q9 => ?_) (fun q9 => ?_)
      · have h := h.1 q9
        refine mj_r_lload_n d_Mo_times_34 rfl ?_
        refine mj_r_lload_n d_Mo_times_35 rfl ?_
        refine mj_r_lmul d_Mo_times_36 ?_
        exact mj_r_lret d_Mo_times_37 rfl (mj_q_ret h)
      · have h := h.2 q9
        refine mj_r_ldc2v (x := 1000000000000) d_Mo_times_28 mw_884 (by decide) ?_
        refine mj_r_goto (tgt := 37) d_Mo_times_31 (by decide) ?_
        exact mj_r_lret d_Mo_times_37 rfl (mj_q_ret h)
theorem v_Mo_trees_0 {g : mj_G} {nn d : Nat} {xs : mj_M} {Post : Option mj_V → mj_w → Prop} (hn : 33 ≤ nn) {w : mj_w} {l1 l2 l3 : Int}
    (h : ∀ w1, w1 = mj_wu w 21 1 0 0 → mj_J g y_Mo_isStretch d 0 0 (0, [some (mj_R 21), some (.inl l1), some (.inl l2), some (.inl l3)], [], mj_mem nn xs w1) (mj_P nn xs (fun v w3 => ∃ x4 : Int, v = some (.inl x4) ∧ (mj_i x4 ∧ (x4 = 0 → (∀ w7, w7 = mj_wu w3 21 1 0 1 → Post (some (.inr (.inl 0))) w7)) ∧ (¬ x4 = 0 → (mj_J g y_Mo_work d 0 0 (0, [some (mj_R 21), none, none, none, none, none, none, none], [], mj_mem nn xs w3) (mj_P nn xs (fun v w9 => v = none ∧ (mj_J g y_Mo_treesOf d 0 0 (0, [some (mj_R 21), some (.inl l1), some (.inl l2), some (.inl l3), none], [], mj_mem nn xs w9) (mj_P nn xs (fun v w11 => ∃ x12 : Int, v = some (.inr (.inl x12)) ∧ (Post (some (.inr (.inl x12))) w11)))))))))))) :
    mj_J g y_Mo_trees (d + 1) 0 0 (0, [some (mj_R 21), some (.inl l1), some (.inl l2), some (.inl l3)], [], mj_mem nn xs w) (mj_P nn xs Post) := by
  refine mj_r_aload_n d_Mo_trees_0 rfl ?_
  refine mj_r_iconst (x := 0) d_Mo_trees_1 rfl ?_
  refine mj_q_put d_Mo_trees_2 f_21_1 (mj_fit_I _) (.inl mw_709) rfl hn (fun w1 e2 => ?_)
  have h := h w1 e2
  refine mj_r_aload_n d_Mo_trees_5 rfl ?_
  refine mj_r_iload_n d_Mo_trees_6 rfl ?_
  refine mj_r_iload_n d_Mo_trees_7 rfl ?_
  refine mj_r_iload_n d_Mo_trees_8 rfl ?_
  refine mj_q_V3i d_Mo_trees_9 h_Mo_isStretch (.inl mw_833) mw_835 mw_35 rfl rfl rfl hn rfl rfl (mj_wk h (fun v w3 h => ?_))
  obtain ⟨x4, rfl, h⟩ := h
  refine ⟨x4, rfl, ?_⟩
  obtain ⟨q5, h⟩ := h
  refine mj_s_if_ne (tgt := 22) d_Mo_trees_12 (by decide) q5 (fun q6 => ?_) (fun q6 => ?_)
  · have h := h.1 q6
    refine mj_r_aload_n d_Mo_trees_15 rfl ?_
    refine mj_r_iconst (x := 1) d_Mo_trees_16 rfl ?_
    refine mj_q_put d_Mo_trees_17 f_21_1 (mj_fit_I _) (.inl mw_709) rfl hn (fun w7 e8 => ?_)
    have h := h w7 e8
    refine mj_r_lconst (x := 0) d_Mo_trees_20 rfl ?_
    exact mj_r_lret d_Mo_trees_21 rfl (mj_q_ret h)
  · have h := h.2 q6
    refine mj_r_aload_n d_Mo_trees_22 rfl ?_
    refine mj_q_V0v d_Mo_trees_23 h_Mo_work (.inl mw_837) mw_839 mw_36 rfl rfl rfl hn rfl rfl (mj_wk h (fun v w9 h => ?_))
    obtain ⟨rfl, h⟩ := h
    refine ⟨rfl, ?_⟩
    refine mj_r_aload_n d_Mo_trees_26 rfl ?_
    refine mj_r_iload_n d_Mo_trees_27 rfl ?_
    refine mj_r_iload_n d_Mo_trees_28 rfl ?_
    refine mj_r_iload_n d_Mo_trees_29 rfl ?_
    refine mj_q_V3l d_Mo_trees_30 h_Mo_treesOf (.inl mw_889) mw_891 mw_46 rfl rfl rfl hn rfl rfl (mj_wk h (fun v w11 h => ?_))
    obtain ⟨x12, rfl, h⟩ := h
    refine ⟨x12, rfl, ?_⟩
    exact mj_r_lret d_Mo_trees_33 rfl (mj_q_ret h)
theorem v_Mo_treesOf_0 {g : mj_G} {nn d : Nat} {xs : mj_M} {Post : Option mj_V → mj_w → Prop} (hn : 33 ≤ nn) {w : mj_w} {l1 l2 l3 : Int}
    (h : mj_J g y_Mo_node d 0 0 (0, [some (.inl l1), some (.inl l2), some (.inl l3)], [], mj_mem nn xs w) (mj_P nn xs (fun v w1 => ∃ x2 : Int, v = some (.inl x2) ∧ (0 ≤ x2 ∧ x2 < 845 ∧ mj_i (w1 28 x2 0) ∧ ((w1 28 x2 0) = 0 → (Post (some (.inr (.inl ((-1))))) w1)) ∧ (¬ (w1 28 x2 0) = 0 → (Post (some (.inr (.inl (w1 29 x2 0)))) w1)))))) :
    mj_J g y_Mo_treesOf (d + 1) 0 0 (0, [some (mj_R 21), some (.inl l1), some (.inl l2), some (.inl l3), none], [], mj_mem nn xs w) (mj_P nn xs Post) := by
  refine mj_r_iload_n d_Mo_treesOf_0 rfl ?_
  refine mj_r_iload_n d_Mo_treesOf_1 rfl ?_
  refine mj_r_iload_n d_Mo_treesOf_2 rfl ?_
  refine mj_q_S3i d_Mo_treesOf_3 h_Mo_node (.inl mw_845) mw_846 rfl rfl (mj_wk h (fun v w1 h => ?_))
  obtain ⟨x2, rfl, h⟩ := h
  refine ⟨x2, rfl, ?_⟩
  refine mj_e_istore (lv' := [some (mj_R 21), some (.inl l1), some (.inl l2), some (.inl l3), some (.inl x2)]) d_Mo_treesOf_6 rfl rfl ?_
  refine mj_r_aload_n d_Mo_treesOf_8 rfl ?_
  refine mj_q_getr d_Mo_treesOf_9 f_21_11 (.inl mw_719) rfl hn ?_
  refine mj_r_iload d_Mo_treesOf_12 rfl ?_
  obtain ⟨q3, h⟩ := h
  obtain ⟨q4, h⟩ := h
  refine mj_q_zald d_Mo_treesOf_14 rfl rfl hn rfl q3 q4 ?_
  obtain ⟨q5, h⟩ := h
  refine mj_s_if_eq (tgt := 28) d_Mo_treesOf_15 (by decide) q5 (fun q6 => ?_) (fun q6 => ?_)
  · have h := h.1 q6
    refine mj_r_ldc2v (x := (-1)) d_Mo_treesOf_28 mw_872 (by decide) ?_
    exact mj_r_lret d_Mo_treesOf_31 rfl (mj_q_ret h)
  · have h := h.2 q6
    refine mj_r_aload_n d_Mo_treesOf_18 rfl ?_
    refine mj_q_getr d_Mo_treesOf_19 f_21_12 (.inl mw_720) rfl hn ?_
    refine mj_r_iload d_Mo_treesOf_22 rfl ?_
    refine mj_q_lald d_Mo_treesOf_24 rfl rfl hn rfl q3 q4 ?_
    refine mj_r_goto (tgt := 31) d_Mo_treesOf_25 (by decide) ?_
    exact mj_r_lret d_Mo_treesOf_31 rfl (mj_q_ret h)
theorem v_Mo_nodes_0 {g : mj_G} {nn d : Nat} {xs : mj_M} {Post : Option mj_V → mj_w → Prop} (hn : 33 ≤ nn) {w : mj_w}
    (h : ∀ w1, w1 = mj_wu w 21 1 0 0 → mj_J g y_Mo_work d 0 0 (0, [some (mj_R 21), none, none, none, none, none, none, none], [], mj_mem nn xs w1) (mj_P nn xs (fun v w3 => v = none ∧ (mj_J g y_Mo_node d 0 0 (0, [some (.inl 0), some (.inl 0), some (.inl (w3 21 6 0))], [], mj_mem nn xs w3) (mj_P nn xs (fun v w5 => ∃ x6 : Int, v = some (.inl x6) ∧ (0 ≤ x6 ∧ x6 < 845 ∧ mj_i (w5 27 x6 0) ∧ ((w5 27 x6 0) = 0 → (Post (some (.inl 0)) w5)) ∧ (¬ (w5 27 x6 0) = 0 → (mj_J g y_Mo_nodes (d + 1) 0 0 (30, [some (mj_R 21), some (.inl 0), none, none], [], mj_mem nn xs w5) (mj_P nn xs Post)))))))))) :
    mj_J g y_Mo_nodes (d + 1) 0 0 (0, [some (mj_R 21), none, none, none], [], mj_mem nn xs w) (mj_P nn xs Post) := by
  refine mj_r_aload_n d_Mo_nodes_0 rfl ?_
  refine mj_r_iconst (x := 0) d_Mo_nodes_1 rfl ?_
  refine mj_q_put d_Mo_nodes_2 f_21_1 (mj_fit_I _) (.inl mw_709) rfl hn (fun w1 e2 => ?_)
  have h := h w1 e2
  refine mj_r_aload_n d_Mo_nodes_5 rfl ?_
  refine mj_q_V0v d_Mo_nodes_6 h_Mo_work (.inl mw_837) mw_839 mw_36 rfl rfl rfl hn rfl rfl (mj_wk h (fun v w3 h => ?_))
  obtain ⟨rfl, h⟩ := h
  refine ⟨rfl, ?_⟩
  refine mj_r_aload_n d_Mo_nodes_9 rfl ?_
  refine mj_q_getr d_Mo_nodes_10 f_21_10 (.inl mw_718) rfl hn ?_
  refine mj_r_iconst (x := 0) d_Mo_nodes_13 rfl ?_
  refine mj_r_iconst (x := 0) d_Mo_nodes_14 rfl ?_
  refine mj_r_aload_n d_Mo_nodes_15 rfl ?_
  refine mj_q_geti d_Mo_nodes_16 f_21_6 (.inl mw_714) rfl hn ?_
  refine mj_q_S3i d_Mo_nodes_19 h_Mo_node (.inl mw_845) mw_846 rfl rfl (mj_wk h (fun v w5 h => ?_))
  obtain ⟨x6, rfl, h⟩ := h
  refine ⟨x6, rfl, ?_⟩
  obtain ⟨q7, h⟩ := h
  obtain ⟨q8, h⟩ := h
  refine mj_q_zald d_Mo_nodes_22 rfl rfl hn rfl q7 q8 ?_
  obtain ⟨q9, h⟩ := h
  refine mj_s_if_ne (tgt := 28) d_Mo_nodes_23 (by decide) q9 (fun q10 => ?_) (fun q10 => ?_)
  · have h := h.1 q10
    refine mj_r_iconst (x := 0) d_Mo_nodes_26 rfl ?_
    exact mj_r_iret d_Mo_nodes_27 rfl (mj_q_ret h)
  · have h := h.2 q10
    refine mj_r_iconst (x := 0) d_Mo_nodes_28 rfl ?_
    refine mj_e_istore_n (lv' := [some (mj_R 21), some (.inl 0), none, none]) d_Mo_nodes_29 rfl rfl ?_
    exact h
theorem v_Mo_nodes_30 {g : mj_G} {nn d : Nat} {xs : mj_M} {Post : Option mj_V → mj_w → Prop} (hn : 33 ≤ nn) {w : mj_w} {l1 : Int}
    (h : mj_i l1 ∧ (l1 < 845 → (0 ≤ l1 ∧ l1 < 845 ∧ (∀ w5, w5 = mj_wu w 30 l1 0 0 → mj_J g y_Mo_nodes (d + 1) 0 0 (30, [some (mj_R 21), some (.inl (l1 + 1)), none, none], [], mj_mem nn xs w5) (mj_P nn xs Post)))) ∧ (¬ l1 < 845 → (mj_J g y_Mo_node d 0 0 (0, [some (.inl 0), some (.inl 0), some (.inl (w 21 6 0))], [], mj_mem nn xs w) (mj_P nn xs (fun v w7 => ∃ x8 : Int, v = some (.inl x8) ∧ (0 ≤ x8 ∧ x8 < 845 ∧ (∀ w11, w11 = mj_wu w7 30 x8 0 1 → mj_J g y_Mo_nodes (d + 1) 0 0 (67, [some (mj_R 21), some (.inl 1), none, none], [], mj_mem nn xs w11) (mj_P nn xs Post)))))))) :
    mj_J g y_Mo_nodes (d + 1) 0 0 (30, [some (mj_R 21), some (.inl l1), none, none], [], mj_mem nn xs w) (mj_P nn xs Post) := by
  refine mj_r_iload_n d_Mo_nodes_30 rfl ?_
  refine mj_r_sipush (x := 845) d_Mo_nodes_31 (by decide) ?_
  obtain ⟨q1, h⟩ := h
  refine mj_s_icmp_ge (tgt := 50) d_Mo_nodes_34 (by decide) q1 (mj_ik (by decide)) (fun q2 => ?_) (fun q2 => ?_)
  · have h := h.1 q2
    refine mj_r_aload_n d_Mo_nodes_37 rfl ?_
    refine mj_q_getr d_Mo_nodes_38 f_21_13 (.inl mw_721) rfl hn ?_
    refine mj_r_iload_n d_Mo_nodes_41 rfl ?_
    refine mj_r_iconst (x := 0) d_Mo_nodes_42 rfl ?_
    obtain ⟨q3, h⟩ := h
    obtain ⟨q4, h⟩ := h
    refine mj_q_zast d_Mo_nodes_43 rfl rfl hn rfl q3 q4 (by decide) (fun w5 e6 => ?_)
    have h := h w5 e6
    refine mj_e_iinc (lv' := [some (mj_R 21), some (.inl (l1 + 1)), none, none]) d_Mo_nodes_44 rfl rfl ?_
    refine mj_r_goto (tgt := 30) d_Mo_nodes_47 (by decide) ?_
    exact h
  · have h := h.2 q2
    refine mj_r_aload_n d_Mo_nodes_50 rfl ?_
    refine mj_q_getr d_Mo_nodes_51 f_21_13 (.inl mw_721) rfl hn ?_
    refine mj_r_iconst (x := 0) d_Mo_nodes_54 rfl ?_
    refine mj_r_iconst (x := 0) d_Mo_nodes_55 rfl ?_
    refine mj_r_aload_n d_Mo_nodes_56 rfl ?_
    refine mj_q_geti d_Mo_nodes_57 f_21_6 (.inl mw_714) rfl hn ?_
    refine mj_q_S3i d_Mo_nodes_60 h_Mo_node (.inl mw_845) mw_846 rfl rfl (mj_wk h (fun v w7 h => ?_))
    obtain ⟨x8, rfl, h⟩ := h
    refine ⟨x8, rfl, ?_⟩
    refine mj_r_iconst (x := 1) d_Mo_nodes_63 rfl ?_
    obtain ⟨q9, h⟩ := h
    obtain ⟨q10, h⟩ := h
    refine mj_q_zast d_Mo_nodes_64 rfl rfl hn rfl q9 q10 (by decide) (fun w11 e12 => ?_)
    have h := h w11 e12
    refine mj_r_iconst (x := 1) d_Mo_nodes_65 rfl ?_
    refine mj_e_istore_n (lv' := [some (mj_R 21), some (.inl 1), none, none]) d_Mo_nodes_66 rfl rfl ?_
    exact h
theorem v_Mo_nodes_67 {g : mj_G} {nn d : Nat} {xs : mj_M} {Post : Option mj_V → mj_w → Prop} (hn : 33 ≤ nn) {w : mj_w} {l1 : Int}
    (h : mj_i l1 ∧ (l1 = 0 → (mj_J g y_Mo_nodes (d + 1) 0 0 (148, [some (mj_R 21), some (.inl l1), some (.inl 0), some (.inl 0)], [], mj_mem nn xs w) (mj_P nn xs Post))) ∧ (¬ l1 = 0 → (mj_J g y_Mo_nodes (d + 1) 0 0 (75, [some (mj_R 21), some (.inl 0), some (.inl 0), none], [], mj_mem nn xs w) (mj_P nn xs Post)))) :
    mj_J g y_Mo_nodes (d + 1) 0 0 (67, [some (mj_R 21), some (.inl l1), none, none], [], mj_mem nn xs w) (mj_P nn xs Post) := by
  refine mj_r_iload_n d_Mo_nodes_67 rfl ?_
  obtain ⟨q1, h⟩ := h
  refine mj_s_if_eq (tgt := 144) d_Mo_nodes_68 (by decide) q1 (fun q2 => ?_) (fun q2 => ?_)
  · have h := h.1 q2
    refine mj_r_iconst (x := 0) d_Mo_nodes_144 rfl ?_
    refine mj_e_istore_n (lv' := [some (mj_R 21), some (.inl l1), some (.inl 0), none]) d_Mo_nodes_145 rfl rfl ?_
    refine mj_r_iconst (x := 0) d_Mo_nodes_146 rfl ?_
    refine mj_e_istore_n (lv' := [some (mj_R 21), some (.inl l1), some (.inl 0), some (.inl 0)]) d_Mo_nodes_147 rfl rfl ?_
    exact h
  · have h := h.2 q2
    refine mj_r_iconst (x := 0) d_Mo_nodes_71 rfl ?_
    refine mj_e_istore_n (lv' := [some (mj_R 21), some (.inl 0), none, none]) d_Mo_nodes_72 rfl rfl ?_
    refine mj_r_iconst (x := 0) d_Mo_nodes_73 rfl ?_
    refine mj_e_istore_n (lv' := [some (mj_R 21), some (.inl 0), some (.inl 0), none]) d_Mo_nodes_74 rfl rfl ?_
    exact h
theorem v_Mo_nodes_75 {g : mj_G} {nn d : Nat} {xs : mj_M} {Post : Option mj_V → mj_w → Prop} (hn : 33 ≤ nn) {w : mj_w} {l1 l2 : Int}
    (h : mj_i l2 ∧ (l2 < 845 → (0 ≤ l2 ∧ l2 < 845 ∧ mj_i (w 30 l2 0) ∧ ((w 30 l2 0) = 0 → (mj_i l1 ∧ (l1 = 0 → (mj_J g y_Mo_nodes (d + 1) 0 0 (75, [some (mj_R 21), some (.inl 0), some (.inl (l2 + 1)), none], [], mj_mem nn xs w) (mj_P nn xs Post))) ∧ (¬ l1 = 0 → (mj_J g y_Mo_nodes (d + 1) 0 0 (75, [some (mj_R 21), some (.inl 1), some (.inl (l2 + 1)), none], [], mj_mem nn xs w) (mj_P nn xs Post))))) ∧ (¬ (w 30 l2 0) = 0 → (mj_i (l2 % 169) ∧ 0 ≤ (l2 % 169) ∧ mj_J g y_Mo_meetAll d 0 0 (0, [some (mj_R 21), some (.inl (l2 / 169)), some (.inl ((l2 % 169) / 13)), some (.inl (l2 % 13)), none, none, none], [], mj_mem nn xs w) (mj_P nn xs (fun v w12 => ∃ x13 : Int, v = some (.inl x13) ∧ (mj_i x13 ∧ (x13 = 0 → (mj_i l1 ∧ (l1 = 0 → (mj_J g y_Mo_nodes (d + 1) 0 0 (75, [some (mj_R 21), some (.inl 0), some (.inl (l2 + 1)), none], [], mj_mem nn xs w12) (mj_P nn xs Post))) ∧ (¬ l1 = 0 → (mj_J g y_Mo_nodes (d + 1) 0 0 (75, [some (mj_R 21), some (.inl 1), some (.inl (l2 + 1)), none], [], mj_mem nn xs w12) (mj_P nn xs Post))))) ∧ (¬ x13 = 0 → (mj_i l1 ∧ (l1 = 0 → (mj_J g y_Mo_nodes (d + 1) 0 0 (75, [some (mj_R 21), some (.inl 1), some (.inl (l2 + 1)), none], [], mj_mem nn xs w12) (mj_P nn xs Post))) ∧ (¬ l1 = 0 → (mj_J g y_Mo_nodes (d + 1) 0 0 (75, [some (mj_R 21), some (.inl 1), some (.inl (l2 + 1)), none], [], mj_mem nn xs w12) (mj_P nn xs Post)))))))))))) ∧ (¬ l2 < 845 → (mj_J g y_Mo_nodes (d + 1) 0 0 (67, [some (mj_R 21), some (.inl l1), none, none], [], mj_mem nn xs w) (mj_P nn xs Post)))) :
    mj_J g y_Mo_nodes (d + 1) 0 0 (75, [some (mj_R 21), some (.inl l1), some (.inl l2), none], [], mj_mem nn xs w) (mj_P nn xs Post) := by
  refine mj_r_iload_n d_Mo_nodes_75 rfl ?_
  refine mj_r_sipush (x := 845) d_Mo_nodes_76 (by decide) ?_
  obtain ⟨q1, h⟩ := h
  refine mj_s_icmp_ge (tgt := 141) d_Mo_nodes_79 (by decide) q1 (mj_ik (by decide)) (fun q2 => ?_) (fun q2 => ?_)
  · have h := h.1 q2
    refine mj_r_aload_n d_Mo_nodes_82 rfl ?_
    refine mj_q_getr d_Mo_nodes_83 f_21_13 (.inl mw_721) rfl hn ?_
    refine mj_r_iload_n d_Mo_nodes_86 rfl ?_
    obtain ⟨q3, h⟩ := h
    obtain ⟨q4, h⟩ := h
    refine mj_q_zald d_Mo_nodes_87 rfl rfl hn rfl q3 q4 ?_
    obtain ⟨q5, h⟩ := h
    refine mj_s_if_eq (tgt := 119) d_Mo_nodes_88 (by decide) q5 (fun q6 => ?_) (fun q6 => ?_)
    · have h := h.1 q6
      refine mj_r_iconst (x := 0) d_Mo_nodes_119 rfl ?_
      refine mj_e_istore_n (lv' := [some (mj_R 21), some (.inl l1), some (.inl l2), some (.inl 0)]) d_Mo_nodes_120 rfl rfl ?_
      refine mj_r_iload_n d_Mo_nodes_121 rfl ?_
      obtain ⟨q7, h⟩ := h
      refine mj_s_if_ne (tgt := 129) d_Mo_nodes_122 (by decide) q7 (fun q8 => ?_) (fun q8 => ?_)
      · have h := h.1 q8
        refine mj_r_iload_n d_Mo_nodes_125 rfl ?_
        refine mj_s_if_eq (tgt := 133) d_Mo_nodes_126 (by decide) (mj_ik (by decide)) (fun q9 => ?_) (fun q9 => absurd (by decide) q9)
        refine mj_r_iconst (x := 0) d_Mo_nodes_133 rfl ?_
        refine mj_e_istore_n (lv' := [some (mj_R 21), some (.inl 0), some (.inl l2), some (.inl 0)]) d_Mo_nodes_134 rfl rfl ?_
        refine mj_e_iinc (lv' := [some (mj_R 21), some (.inl 0), some (.inl (l2 + 1)), some (.inl 0)]) d_Mo_nodes_135 rfl rfl ?_
        refine mj_r_goto (tgt := 75) d_Mo_nodes_138 (by decide) ?_
        refine mj_r_sub (lv' := [some (mj_R 21), some (.inl 0), some (.inl (l2 + 1)), none]) ⟨.inr rfl, .inr rfl, .inr rfl, .inl rfl, trivial⟩ ?_
        exact h
      · have h := h.2 q8
        refine mj_r_iconst (x := 1) d_Mo_nodes_129 rfl ?_
        refine mj_r_goto (tgt := 134) d_Mo_nodes_130 (by decide) ?_
        refine mj_e_istore_n (lv' := [some (mj_R 21), some (.inl 1), some (.inl l2), some (.inl 0)]) d_Mo_nodes_134 rfl rfl ?_
        refine mj_e_iinc (lv' := [some (mj_R 21), some (.inl 1), some (.inl (l2 + 1)), some (.inl 0)]) d_Mo_nodes_135 rfl rfl ?_
        refine mj_r_goto (tgt := 75) d_Mo_nodes_138 (by decide) ?_
        refine mj_r_sub (lv' := [some (mj_R 21), some (.inl 1), some (.inl (l2 + 1)), none]) ⟨.inr rfl, .inr rfl, .inr rfl, .inl rfl, trivial⟩ ?_
        exact h
    · have h := h.2 q6
      refine mj_r_aload_n d_Mo_nodes_91 rfl ?_
      refine mj_r_iload_n d_Mo_nodes_92 rfl ?_
      refine mj_r_sipush (x := 169) d_Mo_nodes_93 (by decide) ?_
      refine mj_r_idiv d_Mo_nodes_96 q1 (mj_ik (by decide)) q3 (by decide) ?_
      refine mj_r_iload_n d_Mo_nodes_97 rfl ?_
      refine mj_r_sipush (x := 169) d_Mo_nodes_98 (by decide) ?_
      refine mj_r_irem d_Mo_nodes_101 q1 (mj_ik (by decide)) q3 (by decide) ?_
      refine mj_r_bipush (x := 13) d_Mo_nodes_102 (by decide) ?_
      obtain ⟨q10, h⟩ := h
      obtain ⟨q11, h⟩ := h
      refine mj_r_idiv d_Mo_nodes_104 q10 (mj_ik (by decide)) q11 (by decide) ?_
      refine mj_r_iload_n d_Mo_nodes_105 rfl ?_
      refine mj_r_bipush (x := 13) d_Mo_nodes_106 (by decide) ?_
      refine mj_r_irem d_Mo_nodes_108 q1 (mj_ik (by decide)) q3 (by decide) ?_
      refine mj_q_V3i d_Mo_nodes_109 h_Mo_meetAll (.inl mw_897) mw_899 mw_47 rfl rfl rfl hn rfl rfl (mj_wk h (fun v w12 h => ?_))
      obtain ⟨x13, rfl, h⟩ := h
      refine ⟨x13, rfl, ?_⟩
      obtain ⟨q14, h⟩ := h
      refine mj_s_if_eq (tgt := 119) d_Mo_nodes_112 (by decide) q14 (fun q15 => ?_) (fun q15 => ?_)
      · have h := h.1 q15
        refine mj_r_iconst (x := 0) d_Mo_nodes_119 rfl ?_
        refine mj_e_istore_n (lv' := [some (mj_R 21), some (.inl l1), some (.inl l2), some (.inl 0)]) d_Mo_nodes_120 rfl rfl ?_
        refine mj_r_iload_n d_Mo_nodes_121 rfl ?_
        obtain ⟨q16, h⟩ := h
        refine mj_s_if_ne (tgt := 129) d_Mo_nodes_122 (by decide) q16 (fun q17 => ?_) (fun q17 => ?_)
        · have h := h.1 q17
          refine mj_r_iload_n d_Mo_nodes_125 rfl ?_
          refine mj_s_if_eq (tgt := 133) d_Mo_nodes_126 (by decide) (mj_ik (by decide)) (fun q18 => ?_) (fun q18 => absurd (by decide) q18)
          refine mj_r_iconst (x := 0) d_Mo_nodes_133 rfl ?_
          refine mj_e_istore_n (lv' := [some (mj_R 21), some (.inl 0), some (.inl l2), some (.inl 0)]) d_Mo_nodes_134 rfl rfl ?_
          refine mj_e_iinc (lv' := [some (mj_R 21), some (.inl 0), some (.inl (l2 + 1)), some (.inl 0)]) d_Mo_nodes_135 rfl rfl ?_
          refine mj_r_goto (tgt := 75) d_Mo_nodes_138 (by decide) ?_
          refine mj_r_sub (lv' := [some (mj_R 21), some (.inl 0), some (.inl (l2 + 1)), none]) ⟨.inr rfl, .inr rfl, .inr rfl, .inl rfl, trivial⟩ ?_
          exact h
        · have h := h.2 q17
          refine mj_r_iconst (x := 1) d_Mo_nodes_129 rfl ?_
          refine mj_r_goto (tgt := 134) d_Mo_nodes_130 (by decide) ?_
          refine mj_e_istore_n (lv' := [some (mj_R 21), some (.inl 1), some (.inl l2), some (.inl 0)]) d_Mo_nodes_134 rfl rfl ?_
          refine mj_e_iinc (lv' := [some (mj_R 21), some (.inl 1), some (.inl (l2 + 1)), some (.inl 0)]) d_Mo_nodes_135 rfl rfl ?_
          refine mj_r_goto (tgt := 75) d_Mo_nodes_138 (by decide) ?_
          refine mj_r_sub (lv' := [some (mj_R 21), some (.inl 1), some (.inl (l2 + 1)), none]) ⟨.inr rfl, .inr rfl, .inr rfl, .inl rfl, trivial⟩ ?_
          exact h
      · have h := h.2 q15
        refine mj_r_iconst (x := 1) d_Mo_nodes_115 rfl ?_
        refine mj_r_goto (tgt := 120) d_Mo_nodes_116 (by decide) ?_
        refine mj_e_istore_n (lv' := [some (mj_R 21), some (.inl l1), some (.inl l2), some (.inl 1)]) d_Mo_nodes_120 rfl rfl ?_
        refine mj_r_iload_n d_Mo_nodes_121 rfl ?_
        obtain ⟨q19, h⟩ := h
        refine mj_s_if_ne (tgt := 129) d_Mo_nodes_122 (by decide) q19 (fun q20 => ?_) (fun q20 => ?_)
        · have h := h.1 q20
          refine mj_r_iload_n d_Mo_nodes_125 rfl ?_
          refine mj_s_if_eq (tgt := 133) d_Mo_nodes_126 (by decide) (mj_ik (by decide)) (fun q21 => absurd q21 (by decide)) (fun q21 => ?_)
          refine mj_r_iconst (x := 1) d_Mo_nodes_129 rfl ?_
          refine mj_r_goto (tgt := 134) d_Mo_nodes_130 (by decide) ?_
          refine mj_e_istore_n (lv' := [some (mj_R 21), some (.inl 1), some (.inl l2), some (.inl 1)]) d_Mo_nodes_134 rfl rfl ?_
          refine mj_e_iinc (lv' := [some (mj_R 21), some (.inl 1), some (.inl (l2 + 1)), some (.inl 1)]) d_Mo_nodes_135 rfl rfl ?_
          refine mj_r_goto (tgt := 75) d_Mo_nodes_138 (by decide) ?_
          refine mj_r_sub (lv' := [some (mj_R 21), some (.inl 1), some (.inl (l2 + 1)), none]) ⟨.inr rfl, .inr rfl, .inr rfl, .inl rfl, trivial⟩ ?_
          exact h
        · have h := h.2 q20
          refine mj_r_iconst (x := 1) d_Mo_nodes_129 rfl ?_
          refine mj_r_goto (tgt := 134) d_Mo_nodes_130 (by decide) ?_
          refine mj_e_istore_n (lv' := [some (mj_R 21), some (.inl 1), some (.inl l2), some (.inl 1)]) d_Mo_nodes_134 rfl rfl ?_
          refine mj_e_iinc (lv' := [some (mj_R 21), some (.inl 1), some (.inl (l2 + 1)), some (.inl 1)]) d_Mo_nodes_135 rfl rfl ?_
          refine mj_r_goto (tgt := 75) d_Mo_nodes_138 (by decide) ?_
          refine mj_r_sub (lv' := [some (mj_R 21), some (.inl 1), some (.inl (l2 + 1)), none]) ⟨.inr rfl, .inr rfl, .inr rfl, .inl rfl, trivial⟩ ?_
          exact h
  · have h := h.2 q2
    refine mj_r_goto (tgt := 67) d_Mo_nodes_141 (by decide) ?_
    refine mj_r_sub (lv' := [some (mj_R 21), some (.inl l1), none, none]) ⟨.inr rfl, .inr rfl, .inl rfl, .inl rfl, trivial⟩ ?_
    exact h
theorem v_Mo_nodes_148 {g : mj_G} {nn d : Nat} {xs : mj_M} {Post : Option mj_V → mj_w → Prop} (hn : 33 ≤ nn) {w : mj_w} {l1 l2 l3 : Int}
    (h : mj_i l3 ∧ (l3 < 845 → (0 ≤ l3 ∧ l3 < 845 ∧ mj_i (w 30 l3 0) ∧ ((w 30 l3 0) = 0 → (mj_J g y_Mo_nodes (d + 1) 0 0 (148, [some (mj_R 21), some (.inl l1), some (.inl (l2 + 0)), some (.inl (l3 + 1))], [], mj_mem nn xs w) (mj_P nn xs Post))) ∧ (¬ (w 30 l3 0) = 0 → (mj_J g y_Mo_nodes (d + 1) 0 0 (148, [some (mj_R 21), some (.inl l1), some (.inl (l2 + 1)), some (.inl (l3 + 1))], [], mj_mem nn xs w) (mj_P nn xs Post))))) ∧ (¬ l3 < 845 → (Post (some (.inl l2)) w))) :
    mj_J g y_Mo_nodes (d + 1) 0 0 (148, [some (mj_R 21), some (.inl l1), some (.inl l2), some (.inl l3)], [], mj_mem nn xs w) (mj_P nn xs Post) := by
  refine mj_r_iload_n d_Mo_nodes_148 rfl ?_
  refine mj_r_sipush (x := 845) d_Mo_nodes_149 (by decide) ?_
  obtain ⟨q1, h⟩ := h
  refine mj_s_icmp_ge (tgt := 178) d_Mo_nodes_152 (by decide) q1 (mj_ik (by decide)) (fun q2 => ?_) (fun q2 => ?_)
  · have h := h.1 q2
    refine mj_r_iload_n d_Mo_nodes_155 rfl ?_
    refine mj_r_aload_n d_Mo_nodes_156 rfl ?_
    refine mj_q_getr d_Mo_nodes_157 f_21_13 (.inl mw_721) rfl hn ?_
    refine mj_r_iload_n d_Mo_nodes_160 rfl ?_
    obtain ⟨q3, h⟩ := h
    obtain ⟨q4, h⟩ := h
    refine mj_q_zald d_Mo_nodes_161 rfl rfl hn rfl q3 q4 ?_
    obtain ⟨q5, h⟩ := h
    refine mj_s_if_eq (tgt := 169) d_Mo_nodes_162 (by decide) q5 (fun q6 => ?_) (fun q6 => ?_)
    · have h := h.1 q6
      refine mj_r_iconst (x := 0) d_Mo_nodes_169 rfl ?_
      refine mj_r_iadd d_Mo_nodes_170 ?_
      refine mj_e_istore_n (lv' := [some (mj_R 21), some (.inl l1), some (.inl (l2 + 0)), some (.inl l3)]) d_Mo_nodes_171 rfl rfl ?_
      refine mj_e_iinc (lv' := [some (mj_R 21), some (.inl l1), some (.inl (l2 + 0)), some (.inl (l3 + 1))]) d_Mo_nodes_172 rfl rfl ?_
      refine mj_r_goto (tgt := 148) d_Mo_nodes_175 (by decide) ?_
      exact h
    · have h := h.2 q6
      refine mj_r_iconst (x := 1) d_Mo_nodes_165 rfl ?_
      refine mj_r_goto (tgt := 170) d_Mo_nodes_166 (by decide) ?_
      refine mj_r_iadd d_Mo_nodes_170 ?_
      refine mj_e_istore_n (lv' := [some (mj_R 21), some (.inl l1), some (.inl (l2 + 1)), some (.inl l3)]) d_Mo_nodes_171 rfl rfl ?_
      refine mj_e_iinc (lv' := [some (mj_R 21), some (.inl l1), some (.inl (l2 + 1)), some (.inl (l3 + 1))]) d_Mo_nodes_172 rfl rfl ?_
      refine mj_r_goto (tgt := 148) d_Mo_nodes_175 (by decide) ?_
      exact h
  · have h := h.2 q2
    refine mj_r_iload_n d_Mo_nodes_178 rfl ?_
    exact mj_r_iret d_Mo_nodes_179 rfl (mj_q_ret h)
theorem v_Mo_meetAll_0 {g : mj_G} {nn d : Nat} {xs : mj_M} {Post : Option mj_V → mj_w → Prop} (hn : 33 ≤ nn) {w : mj_w} {l1 l2 l3 : Int}
    (h : mj_J g y_Mo_meetAll (d + 1) 0 0 (6, [some (mj_R 21), some (.inl l1), some (.inl l2), some (.inl l3), some (.inl 0), some (.inl 0), none], [], mj_mem nn xs w) (mj_P nn xs Post)) :
    mj_J g y_Mo_meetAll (d + 1) 0 0 (0, [some (mj_R 21), some (.inl l1), some (.inl l2), some (.inl l3), none, none, none], [], mj_mem nn xs w) (mj_P nn xs Post) := by
  refine mj_r_iconst (x := 0) d_Mo_meetAll_0 rfl ?_
  refine mj_e_istore (lv' := [some (mj_R 21), some (.inl l1), some (.inl l2), some (.inl l3), some (.inl 0), none, none]) d_Mo_meetAll_1 rfl rfl ?_
  refine mj_r_iconst (x := 0) d_Mo_meetAll_3 rfl ?_
  refine mj_e_istore (lv' := [some (mj_R 21), some (.inl l1), some (.inl l2), some (.inl l3), some (.inl 0), some (.inl 0), none]) d_Mo_meetAll_4 rfl rfl ?_
  exact h
theorem v_Mo_meetAll_6 {g : mj_G} {nn d : Nat} {xs : mj_M} {Post : Option mj_V → mj_w → Prop} (hn : 33 ≤ nn) {w : mj_w} {l1 l2 l3 l4 l5 : Int}
    (h : mj_i l5 ∧ mj_i (w 21 2 0) ∧ (l5 < (w 21 2 0) → (0 ≤ l5 ∧ l5 < 10 ∧ mj_i (w 22 l5 0) ∧ mj_i l1 ∧ ((w 22 l5 0) = l1 → (mj_J g y_Mo_firstCuts d 0 0 (0, [some (mj_R 21), some (.inl l2)], [], mj_mem nn xs w) (mj_P nn xs (fun v w9 => v = none ∧ (mj_J g y_Mo_meetAll (d + 1) 0 0 (38, [some (mj_R 21), some (.inl l1), some (.inl l2), some (.inl l3), some (.inl l4), some (.inl l5), some (.inl 1)], [], mj_mem nn xs w9) (mj_P nn xs Post)))))) ∧ (¬ (w 22 l5 0) = l1 → (mj_J g y_Mo_firstCuts d 0 0 (0, [some (mj_R 21), some (.inl l2)], [], mj_mem nn xs w) (mj_P nn xs (fun v w11 => v = none ∧ (mj_J g y_Mo_meetAll (d + 1) 0 0 (38, [some (mj_R 21), some (.inl l1), some (.inl l2), some (.inl l3), some (.inl l4), some (.inl l5), some (.inl 0)], [], mj_mem nn xs w11) (mj_P nn xs Post)))))))) ∧ (¬ l5 < (w 21 2 0) → (mj_i l4 ∧ (0 < l4 → (Post (some (.inl 1)) w)) ∧ (¬ 0 < l4 → (Post (some (.inl 0)) w))))) :
    mj_J g y_Mo_meetAll (d + 1) 0 0 (6, [some (mj_R 21), some (.inl l1), some (.inl l2), some (.inl l3), some (.inl l4), some (.inl l5), none], [], mj_mem nn xs w) (mj_P nn xs Post) := by
  refine mj_r_iload d_Mo_meetAll_6 rfl ?_
  refine mj_r_aload_n d_Mo_meetAll_8 rfl ?_
  refine mj_q_geti d_Mo_meetAll_9 f_21_2 (.inl mw_710) rfl hn ?_
  obtain ⟨q1, h⟩ := h
  obtain ⟨q2, h⟩ := h
  refine mj_s_icmp_ge (tgt := 89) d_Mo_meetAll_12 (by decide) q1 q2 (fun q3 => ?_) (fun q3 => ?_)
  · have h := h.1 q3
    refine mj_r_aload_n d_Mo_meetAll_15 rfl ?_
    refine mj_q_getr d_Mo_meetAll_16 f_21_3 (.inl mw_711) rfl hn ?_
    refine mj_r_iload d_Mo_meetAll_19 rfl ?_
    obtain ⟨q4, h⟩ := h
    obtain ⟨q5, h⟩ := h
    refine mj_q_iald d_Mo_meetAll_21 rfl rfl hn rfl q4 q5 ?_
    refine mj_r_iload_n d_Mo_meetAll_22 rfl ?_
    obtain ⟨q6, h⟩ := h
    obtain ⟨q7, h⟩ := h
    refine mj_s_icmp_ne (tgt := 30) d_Mo_meetAll_23 (by decide) q6 q7 (fun q8 => ?_) (fun q8 => ?_)
    · have h := h.1 q8
      refine mj_r_iconst (x := 1) d_Mo_meetAll_26 rfl ?_
      refine mj_r_goto (tgt := 31) d_Mo_meetAll_27 (by decide) ?_
      refine mj_e_istore (lv' := [some (mj_R 21), some (.inl l1), some (.inl l2), some (.inl l3), some (.inl l4), some (.inl l5), some (.inl 1)]) d_Mo_meetAll_31 rfl rfl ?_
      refine mj_r_aload_n d_Mo_meetAll_33 rfl ?_
      refine mj_r_iload_n d_Mo_meetAll_34 rfl ?_
      refine mj_q_V1v d_Mo_meetAll_35 h_Mo_firstCuts (.inl mw_852) mw_854 mw_39 rfl rfl rfl hn rfl rfl (mj_wk h (fun v w9 h => ?_))
      obtain ⟨rfl, h⟩ := h
      refine ⟨rfl, ?_⟩
      exact h
    · have h := h.2 q8
      refine mj_r_iconst (x := 0) d_Mo_meetAll_30 rfl ?_
      refine mj_e_istore (lv' := [some (mj_R 21), some (.inl l1), some (.inl l2), some (.inl l3), some (.inl l4), some (.inl l5), some (.inl 0)]) d_Mo_meetAll_31 rfl rfl ?_
      refine mj_r_aload_n d_Mo_meetAll_33 rfl ?_
      refine mj_r_iload_n d_Mo_meetAll_34 rfl ?_
      refine mj_q_V1v d_Mo_meetAll_35 h_Mo_firstCuts (.inl mw_852) mw_854 mw_39 rfl rfl rfl hn rfl rfl (mj_wk h (fun v w11 h => ?_))
      obtain ⟨rfl, h⟩ := h
      refine ⟨rfl, ?_⟩
      exact h
  · have h := h.2 q3
    refine mj_r_iload d_Mo_meetAll_89 rfl ?_
    obtain ⟨q13, h⟩ := h
    refine mj_s_if_le (tgt := 98) d_Mo_meetAll_91 (by decide) q13 (fun q14 => ?_) (fun q14 => ?_)
    · have h := h.1 q14
      refine mj_r_iconst (x := 1) d_Mo_meetAll_94 rfl ?_
      refine mj_r_goto (tgt := 99) d_Mo_meetAll_95 (by decide) ?_
      exact mj_r_zret d_Mo_meetAll_99 rfl (by decide) (mj_q_ret h)
    · have h := h.2 q14
      refine mj_r_iconst (x := 0) d_Mo_meetAll_98 rfl ?_
      exact mj_r_zret d_Mo_meetAll_99 rfl (by decide) (mj_q_ret h)
theorem v_Mo_meetAll_38 {g : mj_G} {nn d : Nat} {xs : mj_M} {Post : Option mj_V → mj_w → Prop} (hn : 33 ≤ nn) {w : mj_w} {l1 l2 l3 l4 l5 l6 : Int}
    (h : mj_i l6 ∧ (l6 = 0 → (mj_J g y_Mo_meetAll (d + 1) 0 0 (6, [some (mj_R 21), some (.inl l1), some (.inl l2), some (.inl l3), some (.inl l4), some (.inl (l5 + 1)), none], [], mj_mem nn xs w) (mj_P nn xs Post))) ∧ (¬ l6 = 0 → (mj_J g y_Mo_isWay d 0 0 (0, [some (mj_R 21), some (.inl l5), some (.inl l2), some (.inl l3), none, none, none, none], [], mj_mem nn xs w) (mj_P nn xs (fun v w3 => ∃ x4 : Int, v = some (.inl x4) ∧ (mj_i x4 ∧ (x4 = 0 → (mj_J g y_Mo_nextCuts d 0 0 (0, [some (mj_R 21), some (.inl l5), some (.inl l3)], [], mj_mem nn xs w3) (mj_P nn xs (fun v w7 => ∃ x8 : Int, v = some (.inl x8) ∧ (mj_J g y_Mo_meetAll (d + 1) 0 0 (38, [some (mj_R 21), some (.inl l1), some (.inl l2), some (.inl l3), some (.inl (l4 + 0)), some (.inl l5), some (.inl x8)], [], mj_mem nn xs w7) (mj_P nn xs Post)))))) ∧ (¬ x4 = 0 → (mj_J g y_Mo_meet d 0 0 (0, [some (mj_R 21), some (.inl l5), some (.inl l2), some (.inl l3), none, none, none, none, none], [], mj_mem nn xs w3) (mj_P nn xs (fun v w9 => ∃ x10 : Int, v = some (.inl x10) ∧ (mj_J g y_Mo_nextCuts d 0 0 (0, [some (mj_R 21), some (.inl l5), some (.inl l3)], [], mj_mem nn xs w9) (mj_P nn xs (fun v w11 => ∃ x12 : Int, v = some (.inl x12) ∧ (mj_J g y_Mo_meetAll (d + 1) 0 0 (38, [some (mj_R 21), some (.inl l1), some (.inl l2), some (.inl l3), some (.inl (l4 + x10)), some (.inl l5), some (.inl x12)], [], mj_mem nn xs w11) (mj_P nn xs Post))))))))))))))) :
    mj_J g y_Mo_meetAll (d + 1) 0 0 (38, [some (mj_R 21), some (.inl l1), some (.inl l2), some (.inl l3), some (.inl l4), some (.inl l5), some (.inl l6)], [], mj_mem nn xs w) (mj_P nn xs Post) := by
  refine mj_r_iload d_Mo_meetAll_38 rfl ?_
  obtain ⟨q1, h⟩ := h
  refine mj_s_if_eq (tgt := 83) d_Mo_meetAll_40 (by decide) q1 (fun q2 => ?_) (fun q2 => ?_)
  · have h := h.1 q2
    refine mj_e_iinc (lv' := [some (mj_R 21), some (.inl l1), some (.inl l2), some (.inl l3), some (.inl l4), some (.inl (l5 + 1)), some (.inl l6)]) d_Mo_meetAll_83 rfl rfl ?_
    refine mj_r_goto (tgt := 6) d_Mo_meetAll_86 (by decide) ?_
    refine mj_r_sub (lv' := [some (mj_R 21), some (.inl l1), some (.inl l2), some (.inl l3), some (.inl l4), some (.inl (l5 + 1)), none]) ⟨.inr rfl, .inr rfl, .inr rfl, .inr rfl, .inr rfl, .inr rfl, .inl rfl, trivial⟩ ?_
    exact h
  · have h := h.2 q2
    refine mj_r_iload d_Mo_meetAll_43 rfl ?_
    refine mj_r_aload_n d_Mo_meetAll_45 rfl ?_
    refine mj_r_iload d_Mo_meetAll_46 rfl ?_
    refine mj_r_iload_n d_Mo_meetAll_48 rfl ?_
    refine mj_r_iload_n d_Mo_meetAll_49 rfl ?_
    refine mj_q_V3i d_Mo_meetAll_50 h_Mo_isWay (.inl mw_856) mw_858 mw_40 rfl rfl rfl hn rfl rfl (mj_wk h (fun v w3 h => ?_))
    obtain ⟨x4, rfl, h⟩ := h
    refine ⟨x4, rfl, ?_⟩
    obtain ⟨q5, h⟩ := h
    refine mj_s_if_eq (tgt := 67) d_Mo_meetAll_53 (by decide) q5 (fun q6 => ?_) (fun q6 => ?_)
    · have h := h.1 q6
      refine mj_r_iconst (x := 0) d_Mo_meetAll_67 rfl ?_
      refine mj_r_iadd d_Mo_meetAll_68 ?_
      refine mj_e_istore (lv' := [some (mj_R 21), some (.inl l1), some (.inl l2), some (.inl l3), some (.inl (l4 + 0)), some (.inl l5), some (.inl l6)]) d_Mo_meetAll_69 rfl rfl ?_
      refine mj_r_aload_n d_Mo_meetAll_71 rfl ?_
      refine mj_r_iload d_Mo_meetAll_72 rfl ?_
      refine mj_r_iload_n d_Mo_meetAll_74 rfl ?_
      refine mj_q_V2i d_Mo_meetAll_75 h_Mo_nextCuts (.inl mw_868) mw_870 mw_43 rfl rfl rfl hn rfl rfl (mj_wk h (fun v w7 h => ?_))
      obtain ⟨x8, rfl, h⟩ := h
      refine ⟨x8, rfl, ?_⟩
      refine mj_e_istore (lv' := [some (mj_R 21), some (.inl l1), some (.inl l2), some (.inl l3), some (.inl (l4 + 0)), some (.inl l5), some (.inl x8)]) d_Mo_meetAll_78 rfl rfl ?_
      refine mj_r_goto (tgt := 38) d_Mo_meetAll_80 (by decide) ?_
      exact h
    · have h := h.2 q6
      refine mj_r_aload_n d_Mo_meetAll_56 rfl ?_
      refine mj_r_iload d_Mo_meetAll_57 rfl ?_
      refine mj_r_iload_n d_Mo_meetAll_59 rfl ?_
      refine mj_r_iload_n d_Mo_meetAll_60 rfl ?_
      refine mj_q_V3i d_Mo_meetAll_61 h_Mo_meet (.inl mw_901) mw_903 mw_48 rfl rfl rfl hn rfl rfl (mj_wk h (fun v w9 h => ?_))
      obtain ⟨x10, rfl, h⟩ := h
      refine ⟨x10, rfl, ?_⟩
      refine mj_r_goto (tgt := 68) d_Mo_meetAll_64 (by decide) ?_
      refine mj_r_iadd d_Mo_meetAll_68 ?_
      refine mj_e_istore (lv' := [some (mj_R 21), some (.inl l1), some (.inl l2), some (.inl l3), some (.inl (l4 + x10)), some (.inl l5), some (.inl l6)]) d_Mo_meetAll_69 rfl rfl ?_
      refine mj_r_aload_n d_Mo_meetAll_71 rfl ?_
      refine mj_r_iload d_Mo_meetAll_72 rfl ?_
      refine mj_r_iload_n d_Mo_meetAll_74 rfl ?_
      refine mj_q_V2i d_Mo_meetAll_75 h_Mo_nextCuts (.inl mw_868) mw_870 mw_43 rfl rfl rfl hn rfl rfl (mj_wk h (fun v w11 h => ?_))
      obtain ⟨x12, rfl, h⟩ := h
      refine ⟨x12, rfl, ?_⟩
      refine mj_e_istore (lv' := [some (mj_R 21), some (.inl l1), some (.inl l2), some (.inl l3), some (.inl (l4 + x10)), some (.inl l5), some (.inl x12)]) d_Mo_meetAll_78 rfl rfl ?_
      refine mj_r_goto (tgt := 38) d_Mo_meetAll_80 (by decide) ?_
      exact h
theorem v_Mo_meet_0 {g : mj_G} {nn d : Nat} {xs : mj_M} {Post : Option mj_V → mj_w → Prop} (hn : 33 ≤ nn) {w : mj_w} {l1 l2 l3 : Int}
    (h : mj_J g y_Mo_meet (d + 1) 0 0 (6, [some (mj_R 21), some (.inl l1), some (.inl l2), some (.inl l3), some (.inl 0), some (.inl 0), none, none, none], [], mj_mem nn xs w) (mj_P nn xs Post)) :
    mj_J g y_Mo_meet (d + 1) 0 0 (0, [some (mj_R 21), some (.inl l1), some (.inl l2), some (.inl l3), none, none, none, none, none], [], mj_mem nn xs w) (mj_P nn xs Post) := by
  refine mj_r_iconst (x := 0) d_Mo_meet_0 rfl ?_
  refine mj_e_istore (lv' := [some (mj_R 21), some (.inl l1), some (.inl l2), some (.inl l3), some (.inl 0), none, none, none, none]) d_Mo_meet_1 rfl rfl ?_
  refine mj_r_iconst (x := 0) d_Mo_meet_3 rfl ?_
  refine mj_e_istore (lv' := [some (mj_R 21), some (.inl l1), some (.inl l2), some (.inl l3), some (.inl 0), some (.inl 0), none, none, none]) d_Mo_meet_4 rfl rfl ?_
  exact h
theorem v_Mo_meet_6 {g : mj_G} {nn d : Nat} {xs : mj_M} {Post : Option mj_V → mj_w → Prop} (hn : 33 ≤ nn) {w : mj_w} {l1 l2 l3 l4 l5 : Int}
    (h : 0 ≤ l1 ∧ l1 < 10 ∧ mj_i l5 ∧ mj_i (w 23 l1 0) ∧ (l5 < (w 23 l1 0) → (0 ≤ ((3 * l1) + l5) ∧ ((3 * l1) + l5) < 30 ∧ mj_J g y_Mo_cut d 0 0 (0, [some (mj_R 21), some (.inl l1), some (.inl l5), some (.inl l2), some (.inl l3)], [], mj_mem nn xs w) (mj_P nn xs (fun v w8 => ∃ x9 : Int, v = some (.inl x9) ∧ (mj_J g y_Mo_cut d 0 0 (0, [some (mj_R 21), some (.inl l1), some (.inl (l5 + 1)), some (.inl l2), some (.inl l3)], [], mj_mem nn xs w8) (mj_P nn xs (fun v w10 => ∃ x11 : Int, v = some (.inl x11) ∧ (mj_i (w 24 ((3 * l1) + l5) 0) ∧ ((w 24 ((3 * l1) + l5) 0) < 8 → (mj_J g y_Mo_node d 0 0 (0, [some (.inl (w 24 ((3 * l1) + l5) 0)), some (.inl x9), some (.inl x11)], [], mj_mem nn xs w10) (mj_P nn xs (fun v w14 => ∃ x15 : Int, v = some (.inl x15) ∧ (0 ≤ x15 ∧ x15 < 845 ∧ mj_i (w14 30 x15 0) ∧ ((w14 30 x15 0) = 0 → (mj_J g y_Mo_node d 0 0 (0, [some (.inl (w 24 ((3 * l1) + l5) 0)), some (.inl x9), some (.inl x11)], [], mj_mem nn xs w14) (mj_P nn xs (fun v w20 => ∃ x21 : Int, v = some (.inl x21) ∧ (0 ≤ x21 ∧ x21 < 845 ∧ (∀ w24, w24 = mj_wu w20 30 x21 0 1 → mj_J g y_Mo_meet (d + 1) 0 0 (6, [some (mj_R 21), some (.inl l1), some (.inl l2), some (.inl l3), some (.inl 1), some (.inl (l5 + 1)), none, none, none], [], mj_mem nn xs w24) (mj_P nn xs Post))))))) ∧ (¬ (w14 30 x15 0) = 0 → (mj_J g y_Mo_meet (d + 1) 0 0 (6, [some (mj_R 21), some (.inl l1), some (.inl l2), some (.inl l3), some (.inl l4), some (.inl (l5 + 1)), none, none, none], [], mj_mem nn xs w14) (mj_P nn xs Post)))))))) ∧ (¬ (w 24 ((3 * l1) + l5) 0) < 8 → (mj_J g y_Mo_meet (d + 1) 0 0 (6, [some (mj_R 21), some (.inl l1), some (.inl l2), some (.inl l3), some (.inl l4), some (.inl (l5 + 1)), none, none, none], [], mj_mem nn xs w10) (mj_P nn xs Post))))))))))) ∧ (¬ l5 < (w 23 l1 0) → (Post (some (.inl l4)) w))) :
    mj_J g y_Mo_meet (d + 1) 0 0 (6, [some (mj_R 21), some (.inl l1), some (.inl l2), some (.inl l3), some (.inl l4), some (.inl l5), none, none, none], [], mj_mem nn xs w) (mj_P nn xs Post) := by
  refine mj_r_iload d_Mo_meet_6 rfl ?_
  refine mj_r_aload_n d_Mo_meet_8 rfl ?_
  refine mj_q_getr d_Mo_meet_9 f_21_4 (.inl mw_712) rfl hn ?_
  refine mj_r_iload_n d_Mo_meet_12 rfl ?_
  obtain ⟨q1, h⟩ := h
  obtain ⟨q2, h⟩ := h
  refine mj_q_iald d_Mo_meet_13 rfl rfl hn rfl q1 q2 ?_
  obtain ⟨q3, h⟩ := h
  obtain ⟨q4, h⟩ := h
  refine mj_s_icmp_ge (tgt := 102) d_Mo_meet_14 (by decide) q3 q4 (fun q5 => ?_) (fun q5 => ?_)
  · have h := h.1 q5
    refine mj_r_aload_n d_Mo_meet_17 rfl ?_
    refine mj_q_getr d_Mo_meet_18 f_21_5 (.inl mw_713) rfl hn ?_
    refine mj_r_iconst (x := 3) d_Mo_meet_21 rfl ?_
    refine mj_r_iload_n d_Mo_meet_22 rfl ?_
    refine mj_r_imul d_Mo_meet_23 ?_
    refine mj_r_iload d_Mo_meet_24 rfl ?_
    refine mj_r_iadd d_Mo_meet_26 ?_
    obtain ⟨q6, h⟩ := h
    obtain ⟨q7, h⟩ := h
    refine mj_q_iald d_Mo_meet_27 rfl rfl hn rfl q6 q7 ?_
    refine mj_e_istore (lv' := [some (mj_R 21), some (.inl l1), some (.inl l2), some (.inl l3), some (.inl l4), some (.inl l5), some (.inl (w 24 ((3 * l1) + l5) 0)), none, none]) d_Mo_meet_28 rfl rfl ?_
    refine mj_r_aload_n d_Mo_meet_30 rfl ?_
    refine mj_r_iload_n d_Mo_meet_31 rfl ?_
    refine mj_r_iload d_Mo_meet_32 rfl ?_
    refine mj_r_iload_n d_Mo_meet_34 rfl ?_
    refine mj_r_iload_n d_Mo_meet_35 rfl ?_
    refine mj_q_V4i d_Mo_meet_36 h_Mo_cut (.inl mw_860) mw_862 mw_41 rfl rfl rfl hn rfl rfl (mj_wk h (fun v w8 h => ?_))
    obtain ⟨x9, rfl, h⟩ := h
    refine ⟨x9, rfl, ?_⟩
    refine mj_e_istore (lv' := [some (mj_R 21), some (.inl l1), some (.inl l2), some (.inl l3), some (.inl l4), some (.inl l5), some (.inl (w 24 ((3 * l1) + l5) 0)), some (.inl x9), none]) d_Mo_meet_39 rfl rfl ?_
    refine mj_r_aload_n d_Mo_meet_41 rfl ?_
    refine mj_r_iload_n d_Mo_meet_42 rfl ?_
    refine mj_r_iload d_Mo_meet_43 rfl ?_
    refine mj_r_iconst (x := 1) d_Mo_meet_45 rfl ?_
    refine mj_r_iadd d_Mo_meet_46 ?_
    refine mj_r_iload_n d_Mo_meet_47 rfl ?_
    refine mj_r_iload_n d_Mo_meet_48 rfl ?_
    refine mj_q_V4i d_Mo_meet_49 h_Mo_cut (.inl mw_860) mw_862 mw_41 rfl rfl rfl hn rfl rfl (mj_wk h (fun v w10 h => ?_))
    obtain ⟨x11, rfl, h⟩ := h
    refine ⟨x11, rfl, ?_⟩
    refine mj_e_istore (lv' := [some (mj_R 21), some (.inl l1), some (.inl l2), some (.inl l3), some (.inl l4), some (.inl l5), some (.inl (w 24 ((3 * l1) + l5) 0)), some (.inl x9), some (.inl x11)]) d_Mo_meet_52 rfl rfl ?_
    refine mj_r_iload d_Mo_meet_54 rfl ?_
    refine mj_r_bipush (x := 8) d_Mo_meet_56 (by decide) ?_
    obtain ⟨q12, h⟩ := h
    refine mj_s_icmp_ge (tgt := 96) d_Mo_meet_58 (by decide) q12 (mj_ik (by decide)) (fun q13 => ?_) (fun q13 => ?_)
    · have h := h.1 q13
      refine mj_r_aload_n d_Mo_meet_61 rfl ?_
      refine mj_q_getr d_Mo_meet_62 f_21_13 (.inl mw_721) rfl hn ?_
      refine mj_r_iload d_Mo_meet_65 rfl ?_
      refine mj_r_iload d_Mo_meet_67 rfl ?_
      refine mj_r_iload d_Mo_meet_69 rfl ?_
      refine mj_q_S3i d_Mo_meet_71 h_Mo_node (.inl mw_845) mw_846 rfl rfl (mj_wk h (fun v w14 h => ?_))
      obtain ⟨x15, rfl, h⟩ := h
      refine ⟨x15, rfl, ?_⟩
      obtain ⟨q16, h⟩ := h
      obtain ⟨q17, h⟩ := h
      refine mj_q_zald d_Mo_meet_74 rfl rfl hn rfl q16 q17 ?_
      obtain ⟨q18, h⟩ := h
      refine mj_s_if_ne (tgt := 96) d_Mo_meet_75 (by decide) q18 (fun q19 => ?_) (fun q19 => ?_)
      · have h := h.1 q19
        refine mj_r_aload_n d_Mo_meet_78 rfl ?_
        refine mj_q_getr d_Mo_meet_79 f_21_13 (.inl mw_721) rfl hn ?_
        refine mj_r_iload d_Mo_meet_82 rfl ?_
        refine mj_r_iload d_Mo_meet_84 rfl ?_
        refine mj_r_iload d_Mo_meet_86 rfl ?_
        refine mj_q_S3i d_Mo_meet_88 h_Mo_node (.inl mw_845) mw_846 rfl rfl (mj_wk h (fun v w20 h => ?_))
        obtain ⟨x21, rfl, h⟩ := h
        refine ⟨x21, rfl, ?_⟩
        refine mj_r_iconst (x := 1) d_Mo_meet_91 rfl ?_
        obtain ⟨q22, h⟩ := h
        obtain ⟨q23, h⟩ := h
        refine mj_q_zast d_Mo_meet_92 rfl rfl hn rfl q22 q23 (by decide) (fun w24 e25 => ?_)
        have h := h w24 e25
        refine mj_r_iconst (x := 1) d_Mo_meet_93 rfl ?_
        refine mj_e_istore (lv' := [some (mj_R 21), some (.inl l1), some (.inl l2), some (.inl l3), some (.inl 1), some (.inl l5), some (.inl (w 24 ((3 * l1) + l5) 0)), some (.inl x9), some (.inl x11)]) d_Mo_meet_94 rfl rfl ?_
        refine mj_e_iinc (lv' := [some (mj_R 21), some (.inl l1), some (.inl l2), some (.inl l3), some (.inl 1), some (.inl (l5 + 1)), some (.inl (w 24 ((3 * l1) + l5) 0)), some (.inl x9), some (.inl x11)]) d_Mo_meet_96 rfl rfl ?_
        refine mj_r_goto (tgt := 6) d_Mo_meet_99 (by decide) ?_
        refine mj_r_sub (lv' := [some (mj_R 21), some (.inl l1), some (.inl l2), some (.inl l3), some (.inl 1), some (.inl (l5 + 1)), none, none, none]) ⟨.inr rfl, .inr rfl, .inr rfl, .inr rfl, .inr rfl, .inr rfl, .inl rfl, .inl rfl, .inl rfl, trivial⟩ ?_
        exact h
      · have h := h.2 q19
        refine mj_e_iinc (lv' := [some (mj_R 21), some (.inl l1), some (.inl l2), some (.inl l3), some (.inl l4), some (.inl (l5 + 1)), some (.inl (w 24 ((3 * l1) + l5) 0)), some (.inl x9), some (.inl x11)]) d_Mo_meet_96 rfl rfl ?_
        refine mj_r_goto (tgt := 6) d_Mo_meet_99 (by decide) ?_
        refine mj_r_sub (lv' := [some (mj_R 21), some (.inl l1), some (.inl l2), some (.inl l3), some (.inl l4), some (.inl (l5 + 1)), none, none, none]) ⟨.inr rfl, .inr rfl, .inr rfl, .inr rfl, .inr rfl, .inr rfl, .inl rfl, .inl rfl, .inl rfl, trivial⟩ ?_
        exact h
    · have h := h.2 q13
      refine mj_e_iinc (lv' := [some (mj_R 21), some (.inl l1), some (.inl l2), some (.inl l3), some (.inl l4), some (.inl (l5 + 1)), some (.inl (w 24 ((3 * l1) + l5) 0)), some (.inl x9), some (.inl x11)]) d_Mo_meet_96 rfl rfl ?_
      refine mj_r_goto (tgt := 6) d_Mo_meet_99 (by decide) ?_
      refine mj_r_sub (lv' := [some (mj_R 21), some (.inl l1), some (.inl l2), some (.inl l3), some (.inl l4), some (.inl (l5 + 1)), none, none, none]) ⟨.inr rfl, .inr rfl, .inr rfl, .inr rfl, .inr rfl, .inr rfl, .inl rfl, .inl rfl, .inl rfl, trivial⟩ ?_
      exact h
  · have h := h.2 q5
    refine mj_r_iload d_Mo_meet_102 rfl ?_
    exact mj_r_iret d_Mo_meet_104 rfl (mj_q_ret h)
theorem v_Mo_tree_0 {g : mj_G} {nn d : Nat} {xs : mj_M} {Post : Option mj_V → mj_w → Prop} (hn : 33 ≤ nn) {w : mj_w} {l1 l3 : Int}
    (h : ∀ w1, w1 = mj_wu w 21 1 0 0 → mj_J g y_Mo_work d 0 0 (0, [some (mj_R 21), none, none, none, none, none, none, none], [], mj_mem nn xs w1) (mj_P nn xs (fun v w3 => v = none ∧ (mj_J g y_Mo_treesOf d 0 0 (0, [some (mj_R 21), some (.inl 0), some (.inl 0), some (.inl (w3 21 6 0)), none], [], mj_mem nn xs w3) (mj_P nn xs (fun v w5 => ∃ x6 : Int, v = some (.inr (.inl x6)) ∧ (mj_l x6 ∧ (x6 < 0 → (mj_J g y_Mo_refuse d 0 0 (0, [some (mj_R 21), some (.inl 1)], [], mj_mem nn xs w5) (mj_P nn xs (fun v w9 => ∃ x10 : Int, v = some (.inl x10) ∧ (Post (some (.inl x10)) w9))))) ∧ (¬ x6 < 0 → ((x6 < 1000000000000 → (mj_l l1 ∧ (l1 < 0 → (mj_J g y_Mo_refuse d 0 0 (0, [some (mj_R 21), some (.inl 1)], [], mj_mem nn xs w5) (mj_P nn xs (fun v w14 => ∃ x15 : Int, v = some (.inl x15) ∧ (Post (some (.inl x15)) w14))))) ∧ (¬ l1 < 0 → ((l1 < x6 → (mj_i l3 ∧ (l3 < 0 → (mj_J g y_Mo_refuse d 0 0 (0, [some (mj_R 21), some (.inl 1)], [], mj_mem nn xs w5) (mj_P nn xs (fun v w19 => ∃ x20 : Int, v = some (.inl x20) ∧ (Post (some (.inl x20)) w19))))) ∧ (¬ l3 < 0 → (∀ w21, w21 = mj_wu w5 21 18 0 0 → mj_J g y_Mo_node d 0 0 (0, [some (.inl 0), some (.inl 0), some (.inl (w21 21 6 0))], [], mj_mem nn xs w21) (mj_P nn xs (fun v w23 => ∃ x24 : Int, v = some (.inl x24) ∧ (mj_J g y_Mo_come d 0 0 (0, [some (mj_R 21), some (.inl x24), some (.inr (.inl l1)), none], [], mj_mem nn xs w23) (mj_P nn xs (fun v w25 => v = none ∧ (mj_J g y_Mo_tree (d + 1) 0 0 (82, [some (mj_R 21), some (.inr (.inl l1)), none, some (.inl l3), some (.inr (.inl x6)), none, some (.inl 0), none], [], mj_mem nn xs w25) (mj_P nn xs Post))))))))))) ∧ (¬ l1 < x6 → (mj_J g y_Mo_refuse d 0 0 (0, [some (mj_R 21), some (.inl 1)], [], mj_mem nn xs w5) (mj_P nn xs (fun v w27 => ∃ x28 : Int, v = some (.inl x28) ∧ (Post (some (.inl x28)) w27))))))))) ∧ (¬ x6 < 1000000000000 → (mj_J g y_Mo_refuse d 0 0 (0, [some (mj_R 21), some (.inl 1)], [], mj_mem nn xs w5) (mj_P nn xs (fun v w29 => ∃ x30 : Int, v = some (.inl x30) ∧ (Post (some (.inl x30)) w29)))))))))))))) :
    mj_J g y_Mo_tree (d + 1) 0 0 (0, [some (mj_R 21), some (.inr (.inl l1)), none, some (.inl l3), none, none, none, none], [], mj_mem nn xs w) (mj_P nn xs Post) := by
  refine mj_r_aload_n d_Mo_tree_0 rfl ?_
  refine mj_r_iconst (x := 0) d_Mo_tree_1 rfl ?_
  refine mj_q_put d_Mo_tree_2 f_21_1 (mj_fit_I _) (.inl mw_709) rfl hn (fun w1 e2 => ?_)
  have h := h w1 e2
  refine mj_r_aload_n d_Mo_tree_5 rfl ?_
  refine mj_q_V0v d_Mo_tree_6 h_Mo_work (.inl mw_837) mw_839 mw_36 rfl rfl rfl hn rfl rfl (mj_wk h (fun v w3 h => ?_))
  obtain ⟨rfl, h⟩ := h
  refine ⟨rfl, ?_⟩
  refine mj_r_aload_n d_Mo_tree_9 rfl ?_
  refine mj_r_iconst (x := 0) d_Mo_tree_10 rfl ?_
  refine mj_r_iconst (x := 0) d_Mo_tree_11 rfl ?_
  refine mj_r_aload_n d_Mo_tree_12 rfl ?_
  refine mj_q_geti d_Mo_tree_13 f_21_6 (.inl mw_714) rfl hn ?_
  refine mj_q_V3l d_Mo_tree_16 h_Mo_treesOf (.inl mw_889) mw_891 mw_46 rfl rfl rfl hn rfl rfl (mj_wk h (fun v w5 h => ?_))
  obtain ⟨x6, rfl, h⟩ := h
  refine ⟨x6, rfl, ?_⟩
  refine mj_e_lstore (lv' := [some (mj_R 21), some (.inr (.inl l1)), none, some (.inl l3), some (.inr (.inl x6)), none, none, none]) d_Mo_tree_19 rfl rfl ?_
  refine mj_r_lload d_Mo_tree_21 rfl ?_
  refine mj_r_lconst (x := 0) d_Mo_tree_23 rfl ?_
  obtain ⟨q7, h⟩ := h
  refine mj_s_l_lt (tgt := 54) d_Mo_tree_24 d_Mo_tree_25 (by decide) q7 (mj_lk (by decide)) (fun q8 => ?_) (fun q8 => ?_)
  · have h := h.1 q8
    refine mj_r_aload_n d_Mo_tree_54 rfl ?_
    refine mj_r_iconst (x := 1) d_Mo_tree_55 rfl ?_
    refine mj_q_V1i d_Mo_tree_56 h_Mo_refuse (.inl mw_774) mw_776 mw_30 rfl rfl rfl hn rfl rfl (mj_wk h (fun v w9 h => ?_))
    obtain ⟨x10, rfl, h⟩ := h
    refine ⟨x10, rfl, ?_⟩
    exact mj_r_iret d_Mo_tree_59 rfl (mj_q_ret h)
  · have h := h.2 q8
    refine mj_r_lload d_Mo_tree_28 rfl ?_
    refine mj_r_ldc2v (x := 1000000000000) d_Mo_tree_30 mw_884 (by decide) ?_
    refine mj_s_l_ge (tgt := 54) d_Mo_tree_33 d_Mo_tree_34 (by decide) q7 (mj_lk (by decide)) (fun q11 => ?_) (fun q11 => ?_)
    · have h := h.1 q11
      refine mj_r_lload_n d_Mo_tree_37 rfl ?_
      refine mj_r_lconst (x := 0) d_Mo_tree_38 rfl ?_
      obtain ⟨q12, h⟩ := h
      refine mj_s_l_lt (tgt := 54) d_Mo_tree_39 d_Mo_tree_40 (by decide) q12 (mj_lk (by decide)) (fun q13 => ?_) (fun q13 => ?_)
      · have h := h.1 q13
        refine mj_r_aload_n d_Mo_tree_54 rfl ?_
        refine mj_r_iconst (x := 1) d_Mo_tree_55 rfl ?_
        refine mj_q_V1i d_Mo_tree_56 h_Mo_refuse (.inl mw_774) mw_776 mw_30 rfl rfl rfl hn rfl rfl (mj_wk h (fun v w14 h => ?_))
        obtain ⟨x15, rfl, h⟩ := h
        refine ⟨x15, rfl, ?_⟩
        exact mj_r_iret d_Mo_tree_59 rfl (mj_q_ret h)
      · have h := h.2 q13
        refine mj_r_lload_n d_Mo_tree_43 rfl ?_
        refine mj_r_lload d_Mo_tree_44 rfl ?_
        refine mj_s_l_ge (tgt := 54) d_Mo_tree_46 d_Mo_tree_47 (by decide) q12 q7 (fun q16 => ?_) (fun q16 => ?_)
        · have h := h.1 q16
          refine mj_r_iload_n d_Mo_tree_50 rfl ?_
          obtain ⟨q17, h⟩ := h
          refine mj_s_if_ge (tgt := 60) d_Mo_tree_51 (by decide) q17 (fun q18 => ?_) (fun q18 => ?_)
          · have h := h.1 q18
            refine mj_r_aload_n d_Mo_tree_54 rfl ?_
            refine mj_r_iconst (x := 1) d_Mo_tree_55 rfl ?_
            refine mj_q_V1i d_Mo_tree_56 h_Mo_refuse (.inl mw_774) mw_776 mw_30 rfl rfl rfl hn rfl rfl (mj_wk h (fun v w19 h => ?_))
            obtain ⟨x20, rfl, h⟩ := h
            refine ⟨x20, rfl, ?_⟩
            exact mj_r_iret d_Mo_tree_59 rfl (mj_q_ret h)
          · have h := h.2 q18
            refine mj_r_aload_n d_Mo_tree_60 rfl ?_
            refine mj_r_iconst (x := 0) d_Mo_tree_61 rfl ?_
            refine mj_q_put d_Mo_tree_62 f_21_18 (mj_fit_I _) (.inl mw_726) rfl hn (fun w21 e22 => ?_)
            have h := h w21 e22
            refine mj_r_aload_n d_Mo_tree_65 rfl ?_
            refine mj_r_iconst (x := 0) d_Mo_tree_66 rfl ?_
            refine mj_r_iconst (x := 0) d_Mo_tree_67 rfl ?_
            refine mj_r_aload_n d_Mo_tree_68 rfl ?_
            refine mj_q_geti d_Mo_tree_69 f_21_6 (.inl mw_714) rfl hn ?_
            refine mj_q_S3i d_Mo_tree_72 h_Mo_node (.inl mw_845) mw_846 rfl rfl (mj_wk h (fun v w23 h => ?_))
            obtain ⟨x24, rfl, h⟩ := h
            refine ⟨x24, rfl, ?_⟩
            refine mj_r_lload_n d_Mo_tree_75 rfl ?_
            refine mj_q_V2v d_Mo_tree_76 h_Mo_come (.inl mw_909) mw_911 mw_49 rfl rfl rfl hn rfl rfl (mj_wk h (fun v w25 h => ?_))
            obtain ⟨rfl, h⟩ := h
            refine ⟨rfl, ?_⟩
            refine mj_r_iconst (x := 0) d_Mo_tree_79 rfl ?_
            refine mj_e_istore (lv' := [some (mj_R 21), some (.inr (.inl l1)), none, some (.inl l3), some (.inr (.inl x6)), none, some (.inl 0), none]) d_Mo_tree_80 rfl rfl ?_
            exact h
        · have h := h.2 q16
          refine mj_r_aload_n d_Mo_tree_54 rfl ?_
          refine mj_r_iconst (x := 1) d_Mo_tree_55 rfl ?_
          refine mj_q_V1i d_Mo_tree_56 h_Mo_refuse (.inl mw_774) mw_776 mw_30 rfl rfl rfl hn rfl rfl (mj_wk h (fun v w27 h => ?_))
          obtain ⟨x28, rfl, h⟩ := h
          refine ⟨x28, rfl, ?_⟩
          exact mj_r_iret d_Mo_tree_59 rfl (mj_q_ret h)
    · have h := h.2 q11
      refine mj_r_aload_n d_Mo_tree_54 rfl ?_
      refine mj_r_iconst (x := 1) d_Mo_tree_55 rfl ?_
      refine mj_q_V1i d_Mo_tree_56 h_Mo_refuse (.inl mw_774) mw_776 mw_30 rfl rfl rfl hn rfl rfl (mj_wk h (fun v w29 h => ?_))
      obtain ⟨x30, rfl, h⟩ := h
      refine ⟨x30, rfl, ?_⟩
      exact mj_r_iret d_Mo_tree_59 rfl (mj_q_ret h)
theorem v_Mo_tree_82 {g : mj_G} {nn d : Nat} {xs : mj_M} {Post : Option mj_V → mj_w → Prop} (hn : 33 ≤ nn) {w : mj_w} {l1 l3 l4 l6 : Int}
    (h : mj_i (w 21 18 0) ∧ (0 < (w 21 18 0) → (∀ w3, w3 = mj_wu w 21 18 0 ((w 21 18 0) - 1) → 0 ≤ (w3 21 18 0) ∧ (w3 21 18 0) < 900 ∧ mj_J g y_Mo_takeRoot d 0 0 (0, [some (mj_R 21), some (.inl (w3 31 (w3 21 18 0) 0)), some (.inr (.inl (w3 32 (w3 21 18 0) 0))), none, none, none, none, none, none, none, none, none, none], [], mj_mem nn xs w3) (mj_P nn xs (fun v w7 => ∃ x8 : Int, v = some (.inl x8) ∧ (mj_i l6 ∧ mj_i l3 ∧ (l6 = l3 → (Post (some (.inl x8)) w7)) ∧ (¬ l6 = l3 → (mj_J g y_Mo_tree (d + 1) 0 0 (82, [some (mj_R 21), some (.inr (.inl l1)), none, some (.inl l3), some (.inr (.inl l4)), none, some (.inl (l6 + 1)), none], [], mj_mem nn xs w7) (mj_P nn xs Post)))))))) ∧ (¬ 0 < (w 21 18 0) → (mj_J g y_Mo_refuse d 0 0 (0, [some (mj_R 21), some (.inl 1)], [], mj_mem nn xs w) (mj_P nn xs (fun v w12 => ∃ x13 : Int, v = some (.inl x13) ∧ (Post (some (.inl x13)) w12)))))) :
    mj_J g y_Mo_tree (d + 1) 0 0 (82, [some (mj_R 21), some (.inr (.inl l1)), none, some (.inl l3), some (.inr (.inl l4)), none, some (.inl l6), none], [], mj_mem nn xs w) (mj_P nn xs Post) := by
  refine mj_r_aload_n d_Mo_tree_82 rfl ?_
  refine mj_q_geti d_Mo_tree_83 f_21_18 (.inl mw_726) rfl hn ?_
  obtain ⟨q1, h⟩ := h
  refine mj_s_if_le (tgt := 138) d_Mo_tree_86 (by decide) q1 (fun q2 => ?_) (fun q2 => ?_)
  · have h := h.1 q2
    refine mj_r_aload_n d_Mo_tree_89 rfl ?_
    refine mj_r_dup d_Mo_tree_90 rfl ?_
    refine mj_q_geti d_Mo_tree_91 f_21_18 (.inl mw_726) rfl hn ?_
    refine mj_r_iconst (x := 1) d_Mo_tree_94 rfl ?_
    refine mj_r_isub d_Mo_tree_95 ?_
    refine mj_q_put d_Mo_tree_96 f_21_18 (mj_fit_I _) (.inl mw_726) rfl hn (fun w3 e4 => ?_)
    have h := h w3 e4
    refine mj_r_aload_n d_Mo_tree_99 rfl ?_
    refine mj_r_aload_n d_Mo_tree_100 rfl ?_
    refine mj_q_getr d_Mo_tree_101 f_21_16 (.inl mw_724) rfl hn ?_
    refine mj_r_aload_n d_Mo_tree_104 rfl ?_
    refine mj_q_geti d_Mo_tree_105 f_21_18 (.inl mw_726) rfl hn ?_
    obtain ⟨q5, h⟩ := h
    obtain ⟨q6, h⟩ := h
    refine mj_q_iald d_Mo_tree_108 rfl rfl hn rfl q5 q6 ?_
    refine mj_r_aload_n d_Mo_tree_109 rfl ?_
    refine mj_q_getr d_Mo_tree_110 f_21_17 (.inl mw_725) rfl hn ?_
    refine mj_r_aload_n d_Mo_tree_113 rfl ?_
    refine mj_q_geti d_Mo_tree_114 f_21_18 (.inl mw_726) rfl hn ?_
    refine mj_q_lald d_Mo_tree_117 rfl rfl hn rfl q5 q6 ?_
    refine mj_q_V2i d_Mo_tree_118 h_Mo_takeRoot (.inl mw_913) mw_915 mw_50 rfl rfl rfl hn rfl rfl (mj_wk h (fun v w7 h => ?_))
    obtain ⟨x8, rfl, h⟩ := h
    refine ⟨x8, rfl, ?_⟩
    refine mj_e_istore (lv' := [some (mj_R 21), some (.inr (.inl l1)), none, some (.inl l3), some (.inr (.inl l4)), none, some (.inl l6), some (.inl x8)]) d_Mo_tree_121 rfl rfl ?_
    refine mj_r_iload d_Mo_tree_123 rfl ?_
    refine mj_r_iload_n d_Mo_tree_125 rfl ?_
    obtain ⟨q9, h⟩ := h
    obtain ⟨q10, h⟩ := h
    refine mj_s_icmp_ne (tgt := 132) d_Mo_tree_126 (by decide) q9 q10 (fun q11 => ?_) (fun q11 => ?_)
    · have h := h.1 q11
      refine mj_r_iload d_Mo_tree_129 rfl ?_
      exact mj_r_iret d_Mo_tree_131 rfl (mj_q_ret h)
    · have h := h.2 q11
      refine mj_e_iinc (lv' := [some (mj_R 21), some (.inr (.inl l1)), none, some (.inl l3), some (.inr (.inl l4)), none, some (.inl (l6 + 1)), some (.inl x8)]) d_Mo_tree_132 rfl rfl ?_
      refine mj_r_goto (tgt := 82) d_Mo_tree_135 (by decide) ?_
      refine mj_r_sub (lv' := [some (mj_R 21), some (.inr (.inl l1)), none, some (.inl l3), some (.inr (.inl l4)), none, some (.inl (l6 + 1)), none]) ⟨.inr rfl, .inr rfl, .inl rfl, .inr rfl, .inr rfl, .inl rfl, .inr rfl, .inl rfl, trivial⟩ ?_
      exact h
  · have h := h.2 q2
    refine mj_r_aload_n d_Mo_tree_138 rfl ?_
    refine mj_r_iconst (x := 1) d_Mo_tree_139 rfl ?_
    refine mj_q_V1i d_Mo_tree_140 h_Mo_refuse (.inl mw_774) mw_776 mw_30 rfl rfl rfl hn rfl rfl (mj_wk h (fun v w12 h => ?_))
    obtain ⟨x13, rfl, h⟩ := h
    refine ⟨x13, rfl, ?_⟩
    exact mj_r_iret d_Mo_tree_143 rfl (mj_q_ret h)
theorem v_Mo_come_0 {g : mj_G} {nn d : Nat} {xs : mj_M} {Post : Option mj_V → mj_w → Prop} (hn : 33 ≤ nn) {w : mj_w} {l1 l2 : Int}
    (h : 0 ≤ (w 21 18 0) ∧ (w 21 18 0) < 900 ∧ (∀ w3, w3 = mj_wu w 31 (w 21 18 0) 0 l1 → 0 ≤ (w3 21 18 0) ∧ (w3 21 18 0) < 900 ∧ (∀ w7, w7 = mj_wu w3 32 (w3 21 18 0) 0 l2 → ∀ w9, w9 = mj_wu w7 21 18 0 ((w7 21 18 0) + 1) → Post none w9))) :
    mj_J g y_Mo_come d 0 0 (0, [some (mj_R 21), some (.inl l1), some (.inr (.inl l2)), none], [], mj_mem nn xs w) (mj_P nn xs Post) := by
  refine mj_r_aload_n d_Mo_come_0 rfl ?_
  refine mj_q_getr d_Mo_come_1 f_21_16 (.inl mw_724) rfl hn ?_
  refine mj_r_aload_n d_Mo_come_4 rfl ?_
  refine mj_q_geti d_Mo_come_5 f_21_18 (.inl mw_726) rfl hn ?_
  refine mj_r_iload_n d_Mo_come_8 rfl ?_
  obtain ⟨q1, h⟩ := h
  obtain ⟨q2, h⟩ := h
  refine mj_q_iast d_Mo_come_9 rfl rfl hn rfl q1 q2 (fun w3 e4 => ?_)
  have h := h w3 e4
  refine mj_r_aload_n d_Mo_come_10 rfl ?_
  refine mj_q_getr d_Mo_come_11 f_21_17 (.inl mw_725) rfl hn ?_
  refine mj_r_aload_n d_Mo_come_14 rfl ?_
  refine mj_q_geti d_Mo_come_15 f_21_18 (.inl mw_726) rfl hn ?_
  refine mj_r_lload_n d_Mo_come_18 rfl ?_
  obtain ⟨q5, h⟩ := h
  obtain ⟨q6, h⟩ := h
  refine mj_q_last d_Mo_come_19 rfl rfl hn rfl q5 q6 (fun w7 e8 => ?_)
  have h := h w7 e8
  refine mj_r_aload_n d_Mo_come_20 rfl ?_
  refine mj_r_dup d_Mo_come_21 rfl ?_
  refine mj_q_geti d_Mo_come_22 f_21_18 (.inl mw_726) rfl hn ?_
  refine mj_r_iconst (x := 1) d_Mo_come_25 rfl ?_
  refine mj_r_iadd d_Mo_come_26 ?_
  refine mj_q_put d_Mo_come_27 f_21_18 (mj_fit_I _) (.inl mw_726) rfl hn (fun w9 e10 => ?_)
  have h := h w9 e10
  exact mj_r_vret d_Mo_come_30 rfl (mj_q_ret h)
theorem v_Mo_takeRoot_0 {g : mj_G} {nn d : Nat} {xs : mj_M} {Post : Option mj_V → mj_w → Prop} (hn : 33 ≤ nn) {w : mj_w} {l1 l2 : Int}
    (h : mj_i l1 ∧ 0 ≤ l1 ∧ mj_i (l1 % 169) ∧ 0 ≤ (l1 % 169) ∧ mj_J g y_Mo_takeRoot (d + 1) 0 0 (29, [some (mj_R 21), some (.inl l1), some (.inr (.inl l2)), none, some (.inl (l1 / 169)), some (.inl ((l1 % 169) / 13)), some (.inl (l1 % 13)), some (.inr (.inl l2)), none, some (.inl 0), none, none, none], [], mj_mem nn xs w) (mj_P nn xs Post)) :
    mj_J g y_Mo_takeRoot (d + 1) 0 0 (0, [some (mj_R 21), some (.inl l1), some (.inr (.inl l2)), none, none, none, none, none, none, none, none, none, none], [], mj_mem nn xs w) (mj_P nn xs Post) := by
  refine mj_r_iload_n d_Mo_takeRoot_0 rfl ?_
  refine mj_r_sipush (x := 169) d_Mo_takeRoot_1 (by decide) ?_
  obtain ⟨q1, h⟩ := h
  obtain ⟨q2, h⟩ := h
  refine mj_r_idiv d_Mo_takeRoot_4 q1 (mj_ik (by decide)) q2 (by decide) ?_
  refine mj_e_istore (lv' := [some (mj_R 21), some (.inl l1), some (.inr (.inl l2)), none, some (.inl (l1 / 169)), none, none, none, none, none, none, none, none]) d_Mo_takeRoot_5 rfl rfl ?_
  refine mj_r_iload_n d_Mo_takeRoot_7 rfl ?_
  refine mj_r_sipush (x := 169) d_Mo_takeRoot_8 (by decide) ?_
  refine mj_r_irem d_Mo_takeRoot_11 q1 (mj_ik (by decide)) q2 (by decide) ?_
  refine mj_r_bipush (x := 13) d_Mo_takeRoot_12 (by decide) ?_
  obtain ⟨q3, h⟩ := h
  obtain ⟨q4, h⟩ := h
  refine mj_r_idiv d_Mo_takeRoot_14 q3 (mj_ik (by decide)) q4 (by decide) ?_
  refine mj_e_istore (lv' := [some (mj_R 21), some (.inl l1), some (.inr (.inl l2)), none, some (.inl (l1 / 169)), some (.inl ((l1 % 169) / 13)), none, none, none, none, none, none, none]) d_Mo_takeRoot_15 rfl rfl ?_
  refine mj_r_iload_n d_Mo_takeRoot_17 rfl ?_
  refine mj_r_bipush (x := 13) d_Mo_takeRoot_18 (by decide) ?_
  refine mj_r_irem d_Mo_takeRoot_20 q1 (mj_ik (by decide)) q2 (by decide) ?_
  refine mj_e_istore (lv' := [some (mj_R 21), some (.inl l1), some (.inr (.inl l2)), none, some (.inl (l1 / 169)), some (.inl ((l1 % 169) / 13)), some (.inl (l1 % 13)), none, none, none, none, none, none]) d_Mo_takeRoot_21 rfl rfl ?_
  refine mj_r_lload_n d_Mo_takeRoot_23 rfl ?_
  refine mj_e_lstore (lv' := [some (mj_R 21), some (.inl l1), some (.inr (.inl l2)), none, some (.inl (l1 / 169)), some (.inl ((l1 % 169) / 13)), some (.inl (l1 % 13)), some (.inr (.inl l2)), none, none, none, none, none]) d_Mo_takeRoot_24 rfl rfl ?_
  refine mj_r_iconst (x := 0) d_Mo_takeRoot_26 rfl ?_
  refine mj_e_istore (lv' := [some (mj_R 21), some (.inl l1), some (.inr (.inl l2)), none, some (.inl (l1 / 169)), some (.inl ((l1 % 169) / 13)), some (.inl (l1 % 13)), some (.inr (.inl l2)), none, some (.inl 0), none, none, none]) d_Mo_takeRoot_27 rfl rfl ?_
  exact h
theorem v_Mo_takeRoot_29 {g : mj_G} {nn d : Nat} {xs : mj_M} {Post : Option mj_V → mj_w → Prop} (hn : 33 ≤ nn) {w : mj_w} {l1 l2 l4 l5 l6 l7 l9 : Int}
    (h : mj_i l9 ∧ mj_i (w 21 2 0) ∧ (l9 < (w 21 2 0) → (0 ≤ l9 ∧ l9 < 10 ∧ mj_i (w 22 l9 0) ∧ mj_i l4 ∧ ((w 22 l9 0) = l4 → (mj_J g y_Mo_firstCuts d 0 0 (0, [some (mj_R 21), some (.inl l5)], [], mj_mem nn xs w) (mj_P nn xs (fun v w9 => v = none ∧ (mj_J g y_Mo_takeRoot (d + 1) 0 0 (63, [some (mj_R 21), some (.inl l1), some (.inr (.inl l2)), none, some (.inl l4), some (.inl l5), some (.inl l6), some (.inr (.inl l7)), none, some (.inl l9), some (.inl 1), none, none], [], mj_mem nn xs w9) (mj_P nn xs Post)))))) ∧ (¬ (w 22 l9 0) = l4 → (mj_J g y_Mo_firstCuts d 0 0 (0, [some (mj_R 21), some (.inl l5)], [], mj_mem nn xs w) (mj_P nn xs (fun v w11 => v = none ∧ (mj_J g y_Mo_takeRoot (d + 1) 0 0 (63, [some (mj_R 21), some (.inl l1), some (.inr (.inl l2)), none, some (.inl l4), some (.inl l5), some (.inl l6), some (.inr (.inl l7)), none, some (.inl l9), some (.inl 0), none, none], [], mj_mem nn xs w11) (mj_P nn xs Post)))))))) ∧ (¬ l9 < (w 21 2 0) → (Post (some (.inl ((-1)))) w))) :
    mj_J g y_Mo_takeRoot (d + 1) 0 0 (29, [some (mj_R 21), some (.inl l1), some (.inr (.inl l2)), none, some (.inl l4), some (.inl l5), some (.inl l6), some (.inr (.inl l7)), none, some (.inl l9), none, none, none], [], mj_mem nn xs w) (mj_P nn xs Post) := by
  refine mj_r_iload d_Mo_takeRoot_29 rfl ?_
  refine mj_r_aload_n d_Mo_takeRoot_31 rfl ?_
  refine mj_q_geti d_Mo_takeRoot_32 f_21_2 (.inl mw_710) rfl hn ?_
  obtain ⟨q1, h⟩ := h
  obtain ⟨q2, h⟩ := h
  refine mj_s_icmp_ge (tgt := 142) d_Mo_takeRoot_35 (by decide) q1 q2 (fun q3 => ?_) (fun q3 => ?_)
  · have h := h.1 q3
    refine mj_r_aload_n d_Mo_takeRoot_38 rfl ?_
    refine mj_q_getr d_Mo_takeRoot_39 f_21_3 (.inl mw_711) rfl hn ?_
    refine mj_r_iload d_Mo_takeRoot_42 rfl ?_
    obtain ⟨q4, h⟩ := h
    obtain ⟨q5, h⟩ := h
    refine mj_q_iald d_Mo_takeRoot_44 rfl rfl hn rfl q4 q5 ?_
    refine mj_r_iload d_Mo_takeRoot_45 rfl ?_
    obtain ⟨q6, h⟩ := h
    obtain ⟨q7, h⟩ := h
    refine mj_s_icmp_ne (tgt := 54) d_Mo_takeRoot_47 (by decide) q6 q7 (fun q8 => ?_) (fun q8 => ?_)
    · have h := h.1 q8
      refine mj_r_iconst (x := 1) d_Mo_takeRoot_50 rfl ?_
      refine mj_r_goto (tgt := 55) d_Mo_takeRoot_51 (by decide) ?_
      refine mj_e_istore (lv' := [some (mj_R 21), some (.inl l1), some (.inr (.inl l2)), none, some (.inl l4), some (.inl l5), some (.inl l6), some (.inr (.inl l7)), none, some (.inl l9), some (.inl 1), none, none]) d_Mo_takeRoot_55 rfl rfl ?_
      refine mj_r_aload_n d_Mo_takeRoot_57 rfl ?_
      refine mj_r_iload d_Mo_takeRoot_58 rfl ?_
      refine mj_q_V1v d_Mo_takeRoot_60 h_Mo_firstCuts (.inl mw_852) mw_854 mw_39 rfl rfl rfl hn rfl rfl (mj_wk h (fun v w9 h => ?_))
      obtain ⟨rfl, h⟩ := h
      refine ⟨rfl, ?_⟩
      exact h
    · have h := h.2 q8
      refine mj_r_iconst (x := 0) d_Mo_takeRoot_54 rfl ?_
      refine mj_e_istore (lv' := [some (mj_R 21), some (.inl l1), some (.inr (.inl l2)), none, some (.inl l4), some (.inl l5), some (.inl l6), some (.inr (.inl l7)), none, some (.inl l9), some (.inl 0), none, none]) d_Mo_takeRoot_55 rfl rfl ?_
      refine mj_r_aload_n d_Mo_takeRoot_57 rfl ?_
      refine mj_r_iload d_Mo_takeRoot_58 rfl ?_
      refine mj_q_V1v d_Mo_takeRoot_60 h_Mo_firstCuts (.inl mw_852) mw_854 mw_39 rfl rfl rfl hn rfl rfl (mj_wk h (fun v w11 h => ?_))
      obtain ⟨rfl, h⟩ := h
      refine ⟨rfl, ?_⟩
      exact h
  · have h := h.2 q3
    refine mj_r_iconst (x := (-1)) d_Mo_takeRoot_142 rfl ?_
    exact mj_r_iret d_Mo_takeRoot_143 rfl (mj_q_ret h)
theorem v_Mo_takeRoot_63 {g : mj_G} {nn d : Nat} {xs : mj_M} {Post : Option mj_V → mj_w → Prop} (hn : 33 ≤ nn) {w : mj_w} {l1 l2 l4 l5 l6 l7 l9 l10 : Int}
    (h : mj_i l10 ∧ (l10 = 0 → (mj_J g y_Mo_takeRoot (d + 1) 0 0 (29, [some (mj_R 21), some (.inl l1), some (.inr (.inl l2)), none, some (.inl l4), some (.inl l5), some (.inl l6), some (.inr (.inl l7)), none, some (.inl (l9 + 1)), none, none, none], [], mj_mem nn xs w) (mj_P nn xs Post))) ∧ (¬ l10 = 0 → (mj_J g y_Mo_isWay d 0 0 (0, [some (mj_R 21), some (.inl l9), some (.inl l5), some (.inl l6), none, none, none, none], [], mj_mem nn xs w) (mj_P nn xs (fun v w3 => ∃ x4 : Int, v = some (.inl x4) ∧ (mj_i x4 ∧ (x4 = 0 → (mj_J g y_Mo_nextCuts d 0 0 (0, [some (mj_R 21), some (.inl l9), some (.inl l6)], [], mj_mem nn xs w3) (mj_P nn xs (fun v w7 => ∃ x8 : Int, v = some (.inl x8) ∧ (mj_J g y_Mo_takeRoot (d + 1) 0 0 (63, [some (mj_R 21), some (.inl l1), some (.inr (.inl l2)), none, some (.inl l4), some (.inl l5), some (.inl l6), some (.inr (.inl l7)), none, some (.inl l9), some (.inl x8), none, none], [], mj_mem nn xs w7) (mj_P nn xs Post)))))) ∧ (¬ x4 = 0 → (mj_J g y_Mo_byWay d 0 0 (0, [some (mj_R 21), some (.inl l9), some (.inl l5), some (.inl l6), none, none, none, none, none, none], [], mj_mem nn xs w3) (mj_P nn xs (fun v w9 => ∃ x10 : Int, v = some (.inr (.inl x10)) ∧ (mj_l l7 ∧ mj_l x10 ∧ (l7 < x10 → (mj_J g y_Mo_comeAll d 0 0 (0, [some (mj_R 21), some (.inl l9), some (.inl l5), some (.inl l6), some (.inr (.inl l7)), none, none, none, none, none, none], [], mj_mem nn xs w9) (mj_P nn xs (fun v w14 => v = none ∧ (Post (some (.inl l9)) w14))))) ∧ (¬ l7 < x10 → (mj_J g y_Mo_nextCuts d 0 0 (0, [some (mj_R 21), some (.inl l9), some (.inl l6)], [], mj_mem nn xs w9) (mj_P nn xs (fun v w16 => ∃ x17 : Int, v = some (.inl x17) ∧ (mj_J g y_Mo_takeRoot (d + 1) 0 0 (63, [some (mj_R 21), some (.inl l1), some (.inr (.inl l2)), none, some (.inl l4), some (.inl l5), some (.inl l6), some (.inr (.inl (l7 - x10))), none, some (.inl l9), some (.inl x17), none, none], [], mj_mem nn xs w16) (mj_P nn xs Post))))))))))))))))) :
    mj_J g y_Mo_takeRoot (d + 1) 0 0 (63, [some (mj_R 21), some (.inl l1), some (.inr (.inl l2)), none, some (.inl l4), some (.inl l5), some (.inl l6), some (.inr (.inl l7)), none, some (.inl l9), some (.inl l10), none, none], [], mj_mem nn xs w) (mj_P nn xs Post) := by
  refine mj_r_iload d_Mo_takeRoot_63 rfl ?_
  obtain ⟨q1, h⟩ := h
  refine mj_s_if_eq (tgt := 136) d_Mo_takeRoot_65 (by decide) q1 (fun q2 => ?_) (fun q2 => ?_)
  · have h := h.1 q2
    refine mj_e_iinc (lv' := [some (mj_R 21), some (.inl l1), some (.inr (.inl l2)), none, some (.inl l4), some (.inl l5), some (.inl l6), some (.inr (.inl l7)), none, some (.inl (l9 + 1)), some (.inl l10), none, none]) d_Mo_takeRoot_136 rfl rfl ?_
    refine mj_r_goto (tgt := 29) d_Mo_takeRoot_139 (by decide) ?_
    refine mj_r_sub (lv' := [some (mj_R 21), some (.inl l1), some (.inr (.inl l2)), none, some (.inl l4), some (.inl l5), some (.inl l6), some (.inr (.inl l7)), none, some (.inl (l9 + 1)), none, none, none]) ⟨.inr rfl, .inr rfl, .inr rfl, .inl rfl, .inr rfl, .inr rfl, .inr rfl, .inr rfl, .inl rfl, .inr rfl, .inl rfl, .inl rfl, .inl rfl, trivial⟩ ?_
    exact h
  · have h := h.2 q2
    refine mj_r_aload_n d_Mo_takeRoot_68 rfl ?_
    refine mj_r_iload d_Mo_takeRoot_69 rfl ?_
    refine mj_r_iload d_Mo_takeRoot_71 rfl ?_
    refine mj_r_iload d_Mo_takeRoot_73 rfl ?_
    refine mj_q_V3i d_Mo_takeRoot_75 h_Mo_isWay (.inl mw_856) mw_858 mw_40 rfl rfl rfl hn rfl rfl (mj_wk h (fun v w3 h => ?_))
    obtain ⟨x4, rfl, h⟩ := h
    refine ⟨x4, rfl, ?_⟩
    obtain ⟨q5, h⟩ := h
    refine mj_s_if_eq (tgt := 123) d_Mo_takeRoot_78 (by decide) q5 (fun q6 => ?_) (fun q6 => ?_)
    · have h := h.1 q6
      refine mj_r_aload_n d_Mo_takeRoot_123 rfl ?_
      refine mj_r_iload d_Mo_takeRoot_124 rfl ?_
      refine mj_r_iload d_Mo_takeRoot_126 rfl ?_
      refine mj_q_V2i d_Mo_takeRoot_128 h_Mo_nextCuts (.inl mw_868) mw_870 mw_43 rfl rfl rfl hn rfl rfl (mj_wk h (fun v w7 h => ?_))
      obtain ⟨x8, rfl, h⟩ := h
      refine ⟨x8, rfl, ?_⟩
      refine mj_e_istore (lv' := [some (mj_R 21), some (.inl l1), some (.inr (.inl l2)), none, some (.inl l4), some (.inl l5), some (.inl l6), some (.inr (.inl l7)), none, some (.inl l9), some (.inl x8), none, none]) d_Mo_takeRoot_131 rfl rfl ?_
      refine mj_r_goto (tgt := 63) d_Mo_takeRoot_133 (by decide) ?_
      exact h
    · have h := h.2 q6
      refine mj_r_aload_n d_Mo_takeRoot_81 rfl ?_
      refine mj_r_iload d_Mo_takeRoot_82 rfl ?_
      refine mj_r_iload d_Mo_takeRoot_84 rfl ?_
      refine mj_r_iload d_Mo_takeRoot_86 rfl ?_
      refine mj_q_V3l d_Mo_takeRoot_88 h_Mo_byWay (.inl mw_877) mw_879 mw_45 rfl rfl rfl hn rfl rfl (mj_wk h (fun v w9 h => ?_))
      obtain ⟨x10, rfl, h⟩ := h
      refine ⟨x10, rfl, ?_⟩
      refine mj_e_lstore (lv' := [some (mj_R 21), some (.inl l1), some (.inr (.inl l2)), none, some (.inl l4), some (.inl l5), some (.inl l6), some (.inr (.inl l7)), none, some (.inl l9), some (.inl l10), some (.inr (.inl x10)), none]) d_Mo_takeRoot_91 rfl rfl ?_
      refine mj_r_lload d_Mo_takeRoot_93 rfl ?_
      refine mj_r_lload d_Mo_takeRoot_95 rfl ?_
      obtain ⟨q11, h⟩ := h
      obtain ⟨q12, h⟩ := h
      refine mj_s_l_ge (tgt := 116) d_Mo_takeRoot_97 d_Mo_takeRoot_98 (by decide) q11 q12 (fun q13 => ?_) (fun q13 => ?_)
      · have h := h.1 q13
        refine mj_r_aload_n d_Mo_takeRoot_101 rfl ?_
        refine mj_r_iload d_Mo_takeRoot_102 rfl ?_
        refine mj_r_iload d_Mo_takeRoot_104 rfl ?_
        refine mj_r_iload d_Mo_takeRoot_106 rfl ?_
        refine mj_r_lload d_Mo_takeRoot_108 rfl ?_
        refine mj_q_V4v d_Mo_takeRoot_110 h_Mo_comeAll (.inl mw_917) mw_919 mw_51 rfl rfl rfl hn rfl rfl (mj_wk h (fun v w14 h => ?_))
        obtain ⟨rfl, h⟩ := h
        refine ⟨rfl, ?_⟩
        refine mj_r_iload d_Mo_takeRoot_113 rfl ?_
        exact mj_r_iret d_Mo_takeRoot_115 rfl (mj_q_ret h)
      · have h := h.2 q13
        refine mj_r_lload d_Mo_takeRoot_116 rfl ?_
        refine mj_r_lload d_Mo_takeRoot_118 rfl ?_
        refine mj_r_lsub d_Mo_takeRoot_120 ?_
        refine mj_e_lstore (lv' := [some (mj_R 21), some (.inl l1), some (.inr (.inl l2)), none, some (.inl l4), some (.inl l5), some (.inl l6), some (.inr (.inl (l7 - x10))), none, some (.inl l9), some (.inl l10), some (.inr (.inl x10)), none]) d_Mo_takeRoot_121 rfl rfl ?_
        refine mj_r_aload_n d_Mo_takeRoot_123 rfl ?_
        refine mj_r_iload d_Mo_takeRoot_124 rfl ?_
        refine mj_r_iload d_Mo_takeRoot_126 rfl ?_
        refine mj_q_V2i d_Mo_takeRoot_128 h_Mo_nextCuts (.inl mw_868) mw_870 mw_43 rfl rfl rfl hn rfl rfl (mj_wk h (fun v w16 h => ?_))
        obtain ⟨x17, rfl, h⟩ := h
        refine ⟨x17, rfl, ?_⟩
        refine mj_e_istore (lv' := [some (mj_R 21), some (.inl l1), some (.inr (.inl l2)), none, some (.inl l4), some (.inl l5), some (.inl l6), some (.inr (.inl (l7 - x10))), none, some (.inl l9), some (.inl x17), some (.inr (.inl x10)), none]) d_Mo_takeRoot_131 rfl rfl ?_
        refine mj_r_goto (tgt := 63) d_Mo_takeRoot_133 (by decide) ?_
        refine mj_r_sub (lv' := [some (mj_R 21), some (.inl l1), some (.inr (.inl l2)), none, some (.inl l4), some (.inl l5), some (.inl l6), some (.inr (.inl (l7 - x10))), none, some (.inl l9), some (.inl x17), none, none]) ⟨.inr rfl, .inr rfl, .inr rfl, .inl rfl, .inr rfl, .inr rfl, .inr rfl, .inr rfl, .inl rfl, .inr rfl, .inr rfl, .inl rfl, .inl rfl, trivial⟩ ?_
        exact h
theorem v_Mo_comeAll_0 {g : mj_G} {nn d : Nat} {xs : mj_M} {Post : Option mj_V → mj_w → Prop} (hn : 33 ≤ nn) {w : mj_w} {l1 l2 l3 l4 : Int}
    (h : 0 ≤ l1 ∧ l1 < 10 ∧ mj_J g y_Mo_comeAll (d + 1) 0 0 (14, [some (mj_R 21), some (.inl l1), some (.inl l2), some (.inl l3), some (.inr (.inl l4)), none, some (.inr (.inl l4)), none, some (.inl ((w 23 l1 0) - 1)), none, none], [], mj_mem nn xs w) (mj_P nn xs Post)) :
    mj_J g y_Mo_comeAll (d + 1) 0 0 (0, [some (mj_R 21), some (.inl l1), some (.inl l2), some (.inl l3), some (.inr (.inl l4)), none, none, none, none, none, none], [], mj_mem nn xs w) (mj_P nn xs Post) := by
  refine mj_r_lload d_Mo_comeAll_0 rfl ?_
  refine mj_e_lstore (lv' := [some (mj_R 21), some (.inl l1), some (.inl l2), some (.inl l3), some (.inr (.inl l4)), none, some (.inr (.inl l4)), none, none, none, none]) d_Mo_comeAll_2 rfl rfl ?_
  refine mj_r_aload_n d_Mo_comeAll_4 rfl ?_
  refine mj_q_getr d_Mo_comeAll_5 f_21_4 (.inl mw_712) rfl hn ?_
  refine mj_r_iload_n d_Mo_comeAll_8 rfl ?_
  obtain ⟨q1, h⟩ := h
  obtain ⟨q2, h⟩ := h
  refine mj_q_iald d_Mo_comeAll_9 rfl rfl hn rfl q1 q2 ?_
  refine mj_r_iconst (x := 1) d_Mo_comeAll_10 rfl ?_
  refine mj_r_isub d_Mo_comeAll_11 ?_
  refine mj_e_istore (lv' := [some (mj_R 21), some (.inl l1), some (.inl l2), some (.inl l3), some (.inr (.inl l4)), none, some (.inr (.inl l4)), none, some (.inl ((w 23 l1 0) - 1)), none, none]) d_Mo_comeAll_12 rfl rfl ?_
  exact h
theorem v_Mo_comeAll_14 {g : mj_G} {nn d : Nat} {xs : mj_M} {Post : Option mj_V → mj_w → Prop} (hn : 33 ≤ nn) {w : mj_w} {l1 l2 l3 l4 l6 l8 : Int}
    (h : mj_i l8 ∧ (l8 < 0 → (Post none w)) ∧ (¬ l8 < 0 → (0 ≤ ((3 * l1) + l8) ∧ ((3 * l1) + l8) < 30 ∧ mj_i (w 24 ((3 * l1) + l8) 0) ∧ ((w 24 ((3 * l1) + l8) 0) < 8 → (mj_J g y_Mo_cut d 0 0 (0, [some (mj_R 21), some (.inl l1), some (.inl l8), some (.inl l2), some (.inl l3)], [], mj_mem nn xs w) (mj_P nn xs (fun v w7 => ∃ x8 : Int, v = some (.inl x8) ∧ (mj_J g y_Mo_cut d 0 0 (0, [some (mj_R 21), some (.inl l1), some (.inl (l8 + 1)), some (.inl l2), some (.inl l3)], [], mj_mem nn xs w7) (mj_P nn xs (fun v w9 => ∃ x10 : Int, v = some (.inl x10) ∧ (mj_J g y_Mo_node d 0 0 (0, [some (.inl (w 24 ((3 * l1) + l8) 0)), some (.inl x8), some (.inl x10)], [], mj_mem nn xs w9) (mj_P nn xs (fun v w11 => ∃ x12 : Int, v = some (.inl x12) ∧ (0 ≤ x12 ∧ x12 < 845 ∧ mj_l l6 ∧ mj_l (w11 29 x12 0) ∧ 0 ≤ l6 ∧ 0 < (w11 29 x12 0) ∧ mj_J g y_Mo_come d 0 0 (0, [some (mj_R 21), some (.inl x12), some (.inr (.inl (l6 % (w11 29 x12 0)))), none], [], mj_mem nn xs w11) (mj_P nn xs (fun v w19 => v = none ∧ (mj_l (w19 29 x12 0) ∧ 0 < (w19 29 x12 0) ∧ mj_J g y_Mo_comeAll (d + 1) 0 0 (14, [some (mj_R 21), some (.inl l1), some (.inl l2), some (.inl l3), some (.inr (.inl l4)), none, some (.inr (.inl (l6 / (w19 29 x12 0)))), none, some (.inl (l8 + (-1))), none, none], [], mj_mem nn xs w19) (mj_P nn xs Post))))))))))))))) ∧ (¬ (w 24 ((3 * l1) + l8) 0) < 8 → (mj_J g y_Mo_comeAll (d + 1) 0 0 (14, [some (mj_R 21), some (.inl l1), some (.inl l2), some (.inl l3), some (.inr (.inl l4)), none, some (.inr (.inl l6)), none, some (.inl (l8 + (-1))), none, none], [], mj_mem nn xs w) (mj_P nn xs Post)))))) :
    mj_J g y_Mo_comeAll (d + 1) 0 0 (14, [some (mj_R 21), some (.inl l1), some (.inl l2), some (.inl l3), some (.inr (.inl l4)), none, some (.inr (.inl l6)), none, some (.inl l8), none, none], [], mj_mem nn xs w) (mj_P nn xs Post) := by
  refine mj_r_iload d_Mo_comeAll_14 rfl ?_
  obtain ⟨q1, h⟩ := h
  refine mj_s_if_lt (tgt := 100) d_Mo_comeAll_16 (by decide) q1 (fun q2 => ?_) (fun q2 => ?_)
  · have h := h.1 q2
    exact mj_r_vret d_Mo_comeAll_100 rfl (mj_q_ret h)
  · have h := h.2 q2
    refine mj_r_aload_n d_Mo_comeAll_19 rfl ?_
    refine mj_q_getr d_Mo_comeAll_20 f_21_5 (.inl mw_713) rfl hn ?_
    refine mj_r_iconst (x := 3) d_Mo_comeAll_23 rfl ?_
    refine mj_r_iload_n d_Mo_comeAll_24 rfl ?_
    refine mj_r_imul d_Mo_comeAll_25 ?_
    refine mj_r_iload d_Mo_comeAll_26 rfl ?_
    refine mj_r_iadd d_Mo_comeAll_28 ?_
    obtain ⟨q3, h⟩ := h
    obtain ⟨q4, h⟩ := h
    refine mj_q_iald d_Mo_comeAll_29 rfl rfl hn rfl q3 q4 ?_
    refine mj_e_istore (lv' := [some (mj_R 21), some (.inl l1), some (.inl l2), some (.inl l3), some (.inr (.inl l4)), none, some (.inr (.inl l6)), none, some (.inl l8), some (.inl (w 24 ((3 * l1) + l8) 0)), none]) d_Mo_comeAll_30 rfl rfl ?_
    refine mj_r_iload d_Mo_comeAll_32 rfl ?_
    refine mj_r_bipush (x := 8) d_Mo_comeAll_34 (by decide) ?_
    obtain ⟨q5, h⟩ := h
    refine mj_s_icmp_ge (tgt := 94) d_Mo_comeAll_36 (by decide) q5 (mj_ik (by decide)) (fun q6 => ?_) (fun q6 => ?_)
    · have h := h.1 q6
      refine mj_r_iload d_Mo_comeAll_39 rfl ?_
      refine mj_r_aload_n d_Mo_comeAll_41 rfl ?_
      refine mj_r_iload_n d_Mo_comeAll_42 rfl ?_
      refine mj_r_iload d_Mo_comeAll_43 rfl ?_
      refine mj_r_iload_n d_Mo_comeAll_45 rfl ?_
      refine mj_r_iload_n d_Mo_comeAll_46 rfl ?_
      refine mj_q_V4i d_Mo_comeAll_47 h_Mo_cut (.inl mw_860) mw_862 mw_41 rfl rfl rfl hn rfl rfl (mj_wk h (fun v w7 h => ?_))
      obtain ⟨x8, rfl, h⟩ := h
      refine ⟨x8, rfl, ?_⟩
      refine mj_r_aload_n d_Mo_comeAll_50 rfl ?_
      refine mj_r_iload_n d_Mo_comeAll_51 rfl ?_
      refine mj_r_iload d_Mo_comeAll_52 rfl ?_
      refine mj_r_iconst (x := 1) d_Mo_comeAll_54 rfl ?_
      refine mj_r_iadd d_Mo_comeAll_55 ?_
      refine mj_r_iload_n d_Mo_comeAll_56 rfl ?_
      refine mj_r_iload_n d_Mo_comeAll_57 rfl ?_
      refine mj_q_V4i d_Mo_comeAll_58 h_Mo_cut (.inl mw_860) mw_862 mw_41 rfl rfl rfl hn rfl rfl (mj_wk h (fun v w9 h => ?_))
      obtain ⟨x10, rfl, h⟩ := h
      refine ⟨x10, rfl, ?_⟩
      refine mj_q_S3i d_Mo_comeAll_61 h_Mo_node (.inl mw_845) mw_846 rfl rfl (mj_wk h (fun v w11 h => ?_))
      obtain ⟨x12, rfl, h⟩ := h
      refine ⟨x12, rfl, ?_⟩
      refine mj_e_istore (lv' := [some (mj_R 21), some (.inl l1), some (.inl l2), some (.inl l3), some (.inr (.inl l4)), none, some (.inr (.inl l6)), none, some (.inl l8), some (.inl (w 24 ((3 * l1) + l8) 0)), some (.inl x12)]) d_Mo_comeAll_64 rfl rfl ?_
      refine mj_r_aload_n d_Mo_comeAll_66 rfl ?_
      refine mj_r_iload d_Mo_comeAll_67 rfl ?_
      refine mj_r_lload d_Mo_comeAll_69 rfl ?_
      refine mj_r_aload_n d_Mo_comeAll_71 rfl ?_
      refine mj_q_getr d_Mo_comeAll_72 f_21_12 (.inl mw_720) rfl hn ?_
      refine mj_r_iload d_Mo_comeAll_75 rfl ?_
      obtain ⟨q13, h⟩ := h
      obtain ⟨q14, h⟩ := h
      refine mj_q_lald d_Mo_comeAll_77 rfl rfl hn rfl q13 q14 ?_
      obtain ⟨q15, h⟩ := h
      obtain ⟨q16, h⟩ := h
      obtain ⟨q17, h⟩ := h
      obtain ⟨q18, h⟩ := h
      refine mj_r_lrem d_Mo_comeAll_78 q15 q16 q17 q18 ?_
      refine mj_q_V2v d_Mo_comeAll_79 h_Mo_come (.inl mw_909) mw_911 mw_49 rfl rfl rfl hn rfl rfl (mj_wk h (fun v w19 h => ?_))
      obtain ⟨rfl, h⟩ := h
      refine ⟨rfl, ?_⟩
      refine mj_r_lload d_Mo_comeAll_82 rfl ?_
      refine mj_r_aload_n d_Mo_comeAll_84 rfl ?_
      refine mj_q_getr d_Mo_comeAll_85 f_21_12 (.inl mw_720) rfl hn ?_
      refine mj_r_iload d_Mo_comeAll_88 rfl ?_
      refine mj_q_lald d_Mo_comeAll_90 rfl rfl hn rfl q13 q14 ?_
      obtain ⟨q21, h⟩ := h
      obtain ⟨q22, h⟩ := h
      refine mj_r_ldiv d_Mo_comeAll_91 q15 q21 q17 q22 ?_
      refine mj_e_lstore (lv' := [some (mj_R 21), some (.inl l1), some (.inl l2), some (.inl l3), some (.inr (.inl l4)), none, some (.inr (.inl (l6 / (w19 29 x12 0)))), none, some (.inl l8), some (.inl (w 24 ((3 * l1) + l8) 0)), some (.inl x12)]) d_Mo_comeAll_92 rfl rfl ?_
      refine mj_e_iinc (lv' := [some (mj_R 21), some (.inl l1), some (.inl l2), some (.inl l3), some (.inr (.inl l4)), none, some (.inr (.inl (l6 / (w19 29 x12 0)))), none, some (.inl (l8 + (-1))), some (.inl (w 24 ((3 * l1) + l8) 0)), some (.inl x12)]) d_Mo_comeAll_94 rfl rfl ?_
      refine mj_r_goto (tgt := 14) d_Mo_comeAll_97 (by decide) ?_
      refine mj_r_sub (lv' := [some (mj_R 21), some (.inl l1), some (.inl l2), some (.inl l3), some (.inr (.inl l4)), none, some (.inr (.inl (l6 / (w19 29 x12 0)))), none, some (.inl (l8 + (-1))), none, none]) ⟨.inr rfl, .inr rfl, .inr rfl, .inr rfl, .inr rfl, .inl rfl, .inr rfl, .inl rfl, .inr rfl, .inl rfl, .inl rfl, trivial⟩ ?_
      exact h
    · have h := h.2 q6
      refine mj_e_iinc (lv' := [some (mj_R 21), some (.inl l1), some (.inl l2), some (.inl l3), some (.inr (.inl l4)), none, some (.inr (.inl l6)), none, some (.inl (l8 + (-1))), some (.inl (w 24 ((3 * l1) + l8) 0)), none]) d_Mo_comeAll_94 rfl rfl ?_
      refine mj_r_goto (tgt := 14) d_Mo_comeAll_97 (by decide) ?_
      refine mj_r_sub (lv' := [some (mj_R 21), some (.inl l1), some (.inl l2), some (.inl l3), some (.inr (.inl l4)), none, some (.inr (.inl l6)), none, some (.inl (l8 + (-1))), none, none]) ⟨.inr rfl, .inr rfl, .inr rfl, .inr rfl, .inr rfl, .inl rfl, .inr rfl, .inl rfl, .inr rfl, .inl rfl, .inl rfl, trivial⟩ ?_
      exact h
