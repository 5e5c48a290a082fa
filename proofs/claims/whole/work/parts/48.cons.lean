/-! ===== the constructors (by program, but for the loop) ===== -/
theorem n_Ta_new {g : mj_G} {d : Nat} {Post : mj_O → mj_M → Prop} {c0 c1 c2 c3 : mj_C} (h : Post (.inl none) [c0, c1, c2, c3, .inr (.inr (2, [.inl 0, mj_R 5])), .inl (0, 12, fun _ => 0)]) :
    mj_J g y_Ta_new (d + 1) 1 12 (0, [some (mj_R 4)], [], [c0, c1, c2, c3, .inr (.inr (2, [.inl 0, .inr (.inr (.inl none))]))]) Post := by
  refine mj_r_aload_n d_Ta_new_0 rfl ?_
  refine mj_r_objInit d_Ta_new_1 mw_108 mw_76 mw_77 rfl ?_
  refine mj_r_aload_n d_Ta_new_4 rfl ?_
  refine mj_r_bipush (x := 12) d_Ta_new_5 (by decide) ?_
  refine mj_m_newarray (kc := 0) (ks := 0) (kd := 0) (n := 12) (M' := [c0, c1, c2, c3, .inr (.inr (2, [.inl 0, .inr (.inr (.inl none))])), .inl (0, 12, fun _ => 0)]) (p := 5) d_Ta_new_7 rfl (by decide) mw_102 rfl (by decide) rfl rfl (by decide) ?_
  refine mj_m_putF (M' := [c0, c1, c2, c3, .inr (.inr (2, [.inl 0, mj_R 5])), .inl (0, 12, fun _ => 0)]) (p := 4) (k := 1) d_Ta_new_9 rfl rfl rfl mw_112 rfl (by decide) (fun b z => ⟨.array .int, by decide +kernel, rfl, rfl⟩) rfl ?_
  exact mj_r_vret d_Ta_new_12 rfl h
theorem n_Co_new {g : mj_G} {d : Nat} {Post : mj_O → mj_M → Prop} {c0 c1 c2 c3 c4 c5 c6 c7 c8 c9 c10 c11 c12 c13 c14 : mj_C} (h : Post (.inl none) [c0, c1, c2, c3, c4, c5, c6, c7, c8, c9, c10, c11, c12, c13, c14, .inr (.inr (5, [mj_R 4, mj_R 16])), .inl (2, 845, fun _ => 0)]) :
    mj_J g y_Co_new (d + 1) 1 845 (0, [some (mj_R 15), some (mj_R 4)], [], [c0, c1, c2, c3, c4, c5, c6, c7, c8, c9, c10, c11, c12, c13, c14, .inr (.inr (5, [.inr (.inr (.inl none)), .inr (.inr (.inl none))]))]) Post := by
  refine mj_r_aload_n d_Co_new_0 rfl ?_
  refine mj_r_objInit d_Co_new_1 mw_163 mw_76 mw_77 rfl ?_
  refine mj_r_aload_n d_Co_new_4 rfl ?_
  refine mj_r_sipush (x := 845) d_Co_new_5 (by decide) ?_
  refine mj_m_newarray (kc := 0) (ks := 0) (kd := 2) (n := 845) (M' := [c0, c1, c2, c3, c4, c5, c6, c7, c8, c9, c10, c11, c12, c13, c14, .inr (.inr (5, [.inr (.inr (.inl none)), .inr (.inr (.inl none))])), .inl (2, 845, fun _ => 0)]) (p := 16) d_Co_new_8 rfl (by decide) mw_173 rfl (by decide) rfl rfl (by decide) ?_
  refine mj_m_putF (M' := [c0, c1, c2, c3, c4, c5, c6, c7, c8, c9, c10, c11, c12, c13, c14, .inr (.inr (5, [.inr (.inr (.inl none)), mj_R 16])), .inl (2, 845, fun _ => 0)]) (p := 15) (k := 1) d_Co_new_10 rfl rfl rfl mw_165 rfl (by decide) (fun b z => ⟨.array .long, by decide +kernel, rfl, rfl⟩) rfl ?_
  refine mj_r_aload_n d_Co_new_13 rfl ?_
  refine mj_r_aload_n d_Co_new_14 rfl ?_
  refine mj_m_putF (M' := [c0, c1, c2, c3, c4, c5, c6, c7, c8, c9, c10, c11, c12, c13, c14, .inr (.inr (5, [mj_R 4, mj_R 16])), .inl (2, 845, fun _ => 0)]) (p := 15) (k := 0) d_Co_new_15 rfl rfl rfl mw_164 rfl (by decide) (fun b z => ⟨.object "ChartForest$Tape", by decide +kernel, rfl, rfl⟩) rfl ?_
  exact mj_r_vret d_Co_new_18 rfl h
theorem n_Wa_new {g : mj_G} {d : Nat} {Post : mj_O → mj_M → Prop} {c0 c1 c2 c3 c4 c5 c6 c7 c8 c9 c10 c11 c12 c13 c14 c15 c16 : mj_C} (h : Post (.inl none) [c0, c1, c2, c3, c4, c5, c6, c7, c8, c9, c10, c11, c12, c13, c14, c15, c16, .inr (.inr (6, [mj_R 1, mj_R 15, .inl 0, .inl 0, .inl 0, mj_R 18, mj_R 19, mj_R 20])), .inl (0, 910, fun _ => 0), .inl (0, 910, fun _ => 0), .inl (2, 910, fun _ => 0)]) :
    mj_J g y_Wa_new (d + 1) 3 2730 (0, [some (mj_R 17), some (mj_R 1), some (mj_R 15)], [], [c0, c1, c2, c3, c4, c5, c6, c7, c8, c9, c10, c11, c12, c13, c14, c15, c16, .inr (.inr (6, [.inr (.inr (.inl none)), .inr (.inr (.inl none)), .inl 0, .inl 0, .inl 0, .inr (.inr (.inl none)), .inr (.inr (.inl none)), .inr (.inr (.inl none))]))]) Post := by
  refine mj_r_aload_n d_Wa_new_0 rfl ?_
  refine mj_r_objInit d_Wa_new_1 mw_179 mw_76 mw_77 rfl ?_
  refine mj_r_aload_n d_Wa_new_4 rfl ?_
  refine mj_r_sipush (x := 910) d_Wa_new_5 (by decide) ?_
  refine mj_m_newarray (kc := 2) (ks := 1820) (kd := 0) (n := 910) (M' := [c0, c1, c2, c3, c4, c5, c6, c7, c8, c9, c10, c11, c12, c13, c14, c15, c16, .inr (.inr (6, [.inr (.inr (.inl none)), .inr (.inr (.inl none)), .inl 0, .inl 0, .inl 0, .inr (.inr (.inl none)), .inr (.inr (.inl none)), .inr (.inr (.inl none))])), .inl (0, 910, fun _ => 0)]) (p := 18) d_Wa_new_8 rfl (by decide) mw_102 rfl (by decide) rfl rfl (by decide) ?_
  refine mj_m_putF (M' := [c0, c1, c2, c3, c4, c5, c6, c7, c8, c9, c10, c11, c12, c13, c14, c15, c16, .inr (.inr (6, [.inr (.inr (.inl none)), .inr (.inr (.inl none)), .inl 0, .inl 0, .inl 0, mj_R 18, .inr (.inr (.inl none)), .inr (.inr (.inl none))])), .inl (0, 910, fun _ => 0)]) (p := 17) (k := 5) d_Wa_new_10 rfl rfl rfl mw_186 rfl (by decide) (fun b z => ⟨.array .int, by decide +kernel, rfl, rfl⟩) rfl ?_
  refine mj_r_aload_n d_Wa_new_13 rfl ?_
  refine mj_r_sipush (x := 910) d_Wa_new_14 (by decide) ?_
  refine mj_m_newarray (kc := 1) (ks := 910) (kd := 0) (n := 910) (M' := [c0, c1, c2, c3, c4, c5, c6, c7, c8, c9, c10, c11, c12, c13, c14, c15, c16, .inr (.inr (6, [.inr (.inr (.inl none)), .inr (.inr (.inl none)), .inl 0, .inl 0, .inl 0, mj_R 18, .inr (.inr (.inl none)), .inr (.inr (.inl none))])), .inl (0, 910, fun _ => 0), .inl (0, 910, fun _ => 0)]) (p := 19) d_Wa_new_17 rfl (by decide) mw_102 rfl (by decide) rfl rfl (by decide) ?_
  refine mj_m_putF (M' := [c0, c1, c2, c3, c4, c5, c6, c7, c8, c9, c10, c11, c12, c13, c14, c15, c16, .inr (.inr (6, [.inr (.inr (.inl none)), .inr (.inr (.inl none)), .inl 0, .inl 0, .inl 0, mj_R 18, mj_R 19, .inr (.inr (.inl none))])), .inl (0, 910, fun _ => 0), .inl (0, 910, fun _ => 0)]) (p := 17) (k := 6) d_Wa_new_19 rfl rfl rfl mw_188 rfl (by decide) (fun b z => ⟨.array .int, by decide +kernel, rfl, rfl⟩) rfl ?_
  refine mj_r_aload_n d_Wa_new_22 rfl ?_
  refine mj_r_sipush (x := 910) d_Wa_new_23 (by decide) ?_
  refine mj_m_newarray (kc := 0) (ks := 0) (kd := 2) (n := 910) (M' := [c0, c1, c2, c3, c4, c5, c6, c7, c8, c9, c10, c11, c12, c13, c14, c15, c16, .inr (.inr (6, [.inr (.inr (.inl none)), .inr (.inr (.inl none)), .inl 0, .inl 0, .inl 0, mj_R 18, mj_R 19, .inr (.inr (.inl none))])), .inl (0, 910, fun _ => 0), .inl (0, 910, fun _ => 0), .inl (2, 910, fun _ => 0)]) (p := 20) d_Wa_new_26 rfl (by decide) mw_173 rfl (by decide) rfl rfl (by decide) ?_
  refine mj_m_putF (M' := [c0, c1, c2, c3, c4, c5, c6, c7, c8, c9, c10, c11, c12, c13, c14, c15, c16, .inr (.inr (6, [.inr (.inr (.inl none)), .inr (.inr (.inl none)), .inl 0, .inl 0, .inl 0, mj_R 18, mj_R 19, mj_R 20])), .inl (0, 910, fun _ => 0), .inl (0, 910, fun _ => 0), .inl (2, 910, fun _ => 0)]) (p := 17) (k := 7) d_Wa_new_28 rfl rfl rfl mw_189 rfl (by decide) (fun b z => ⟨.array .long, by decide +kernel, rfl, rfl⟩) rfl ?_
  refine mj_r_aload_n d_Wa_new_31 rfl ?_
  refine mj_r_aload_n d_Wa_new_32 rfl ?_
  refine mj_m_putF (M' := [c0, c1, c2, c3, c4, c5, c6, c7, c8, c9, c10, c11, c12, c13, c14, c15, c16, .inr (.inr (6, [mj_R 1, .inr (.inr (.inl none)), .inl 0, .inl 0, .inl 0, mj_R 18, mj_R 19, mj_R 20])), .inl (0, 910, fun _ => 0), .inl (0, 910, fun _ => 0), .inl (2, 910, fun _ => 0)]) (p := 17) (k := 0) d_Wa_new_33 rfl rfl rfl mw_180 rfl (by decide) (fun b z => ⟨.object "ChartForest$Grammar", by decide +kernel, rfl, rfl⟩) rfl ?_
  refine mj_r_aload_n d_Wa_new_36 rfl ?_
  refine mj_r_aload_n d_Wa_new_37 rfl ?_
  refine mj_m_putF (M' := [c0, c1, c2, c3, c4, c5, c6, c7, c8, c9, c10, c11, c12, c13, c14, c15, c16, .inr (.inr (6, [mj_R 1, mj_R 15, .inl 0, .inl 0, .inl 0, mj_R 18, mj_R 19, mj_R 20])), .inl (0, 910, fun _ => 0), .inl (0, 910, fun _ => 0), .inl (2, 910, fun _ => 0)]) (p := 17) (k := 1) d_Wa_new_38 rfl rfl rfl mw_181 rfl (by decide) (fun b z => ⟨.object "ChartForest$Counts", by decide +kernel, rfl, rfl⟩) rfl ?_
  exact mj_r_vret d_Wa_new_41 rfl h
theorem n_Ch_new {g : mj_G} {d : Nat} {Post : mj_O → mj_M → Prop} {c0 c1 c2 c3 c4 c5 : mj_C} {lp : Int} (hz : lp = 0 ∨ lp = 1) (h : Post (.inl none) [c0, c1, c2, c3, c4, c5, .inr (.inr (3, [mj_R 1, .inl lp, mj_R 7, mj_R 8, mj_R 9, mj_R 10, .inl 0, .inl 0])), .inr (.inl (13, 44, fun _ _ => 0)), .inl (0, 13, fun _ => 0), .inr (.inl (13, 5, fun _ _ => 0)), .inl (0, 572, fun _ => 0)]) :
    mj_J g y_Ch_new (d + 1) 30 1248 (0, [some (mj_R 6), some (mj_R 1), some (.inl lp)], [], [c0, c1, c2, c3, c4, c5, .inr (.inr (3, [.inr (.inr (.inl none)), .inl 0, .inr (.inr (.inl none)), .inr (.inr (.inl none)), .inr (.inr (.inl none)), .inr (.inr (.inl none)), .inl 0, .inl 0]))]) Post := by
  refine mj_r_aload_n d_Ch_new_0 rfl ?_
  refine mj_r_objInit d_Ch_new_1 mw_123 mw_76 mw_77 rfl ?_
  refine mj_r_aload_n d_Ch_new_4 rfl ?_
  refine mj_r_bipush (x := 13) d_Ch_new_5 (by decide) ?_
  refine mj_r_bipush (x := 44) d_Ch_new_7 (by decide) ?_
  refine mj_m_multi (kc := 16) (ks := 663) (n := 13) (q := 44) (M' := [c0, c1, c2, c3, c4, c5, .inr (.inr (3, [.inr (.inr (.inl none)), .inl 0, .inr (.inr (.inl none)), .inr (.inr (.inl none)), .inr (.inr (.inl none)), .inr (.inr (.inl none)), .inl 0, .inl 0])), .inr (.inl (13, 44, fun _ _ => 0))]) (p := 7) d_Ch_new_9 mw_124 mw_125 mw_102 rfl rfl (by decide) (by decide) rfl rfl (by decide) ?_
  refine mj_m_putF (M' := [c0, c1, c2, c3, c4, c5, .inr (.inr (3, [.inr (.inr (.inl none)), .inl 0, mj_R 7, .inr (.inr (.inl none)), .inr (.inr (.inl none)), .inr (.inr (.inl none)), .inl 0, .inl 0])), .inr (.inl (13, 44, fun _ _ => 0))]) (p := 6) (k := 2) d_Ch_new_13 rfl rfl rfl mw_128 rfl (by decide) (fun b z => ⟨.array (.array .int), by decide +kernel, rfl, rfl⟩) rfl ?_
  refine mj_r_aload_n d_Ch_new_16 rfl ?_
  refine mj_r_bipush (x := 13) d_Ch_new_17 (by decide) ?_
  refine mj_m_newarray (kc := 15) (ks := 650) (kd := 0) (n := 13) (M' := [c0, c1, c2, c3, c4, c5, .inr (.inr (3, [.inr (.inr (.inl none)), .inl 0, mj_R 7, .inr (.inr (.inl none)), .inr (.inr (.inl none)), .inr (.inr (.inl none)), .inl 0, .inl 0])), .inr (.inl (13, 44, fun _ _ => 0)), .inl (0, 13, fun _ => 0)]) (p := 8) d_Ch_new_19 rfl (by decide) mw_102 rfl (by decide) rfl rfl (by decide) ?_
  refine mj_m_putF (M' := [c0, c1, c2, c3, c4, c5, .inr (.inr (3, [.inr (.inr (.inl none)), .inl 0, mj_R 7, mj_R 8, .inr (.inr (.inl none)), .inr (.inr (.inl none)), .inl 0, .inl 0])), .inr (.inl (13, 44, fun _ _ => 0)), .inl (0, 13, fun _ => 0)]) (p := 6) (k := 3) d_Ch_new_21 rfl rfl rfl mw_129 rfl (by decide) (fun b z => ⟨.array .int, by decide +kernel, rfl, rfl⟩) rfl ?_
  refine mj_r_aload_n d_Ch_new_24 rfl ?_
  refine mj_r_bipush (x := 13) d_Ch_new_25 (by decide) ?_
  refine mj_r_iconst (x := 5) d_Ch_new_27 rfl ?_
  refine mj_m_multi (kc := 1) (ks := 572) (n := 13) (q := 5) (M' := [c0, c1, c2, c3, c4, c5, .inr (.inr (3, [.inr (.inr (.inl none)), .inl 0, mj_R 7, mj_R 8, .inr (.inr (.inl none)), .inr (.inr (.inl none)), .inl 0, .inl 0])), .inr (.inl (13, 44, fun _ _ => 0)), .inl (0, 13, fun _ => 0), .inr (.inl (13, 5, fun _ _ => 0))]) (p := 9) d_Ch_new_28 mw_124 mw_125 mw_102 rfl rfl (by decide) (by decide) rfl rfl (by decide) ?_
  refine mj_m_putF (M' := [c0, c1, c2, c3, c4, c5, .inr (.inr (3, [.inr (.inr (.inl none)), .inl 0, mj_R 7, mj_R 8, mj_R 9, .inr (.inr (.inl none)), .inl 0, .inl 0])), .inr (.inl (13, 44, fun _ _ => 0)), .inl (0, 13, fun _ => 0), .inr (.inl (13, 5, fun _ _ => 0))]) (p := 6) (k := 4) d_Ch_new_32 rfl rfl rfl mw_131 rfl (by decide) (fun b z => ⟨.array (.array .int), by decide +kernel, rfl, rfl⟩) rfl ?_
  refine mj_r_aload_n d_Ch_new_35 rfl ?_
  refine mj_r_sipush (x := 572) d_Ch_new_36 (by decide) ?_
  refine mj_m_newarray (kc := 0) (ks := 0) (kd := 0) (n := 572) (M' := [c0, c1, c2, c3, c4, c5, .inr (.inr (3, [.inr (.inr (.inl none)), .inl 0, mj_R 7, mj_R 8, mj_R 9, .inr (.inr (.inl none)), .inl 0, .inl 0])), .inr (.inl (13, 44, fun _ _ => 0)), .inl (0, 13, fun _ => 0), .inr (.inl (13, 5, fun _ _ => 0)), .inl (0, 572, fun _ => 0)]) (p := 10) d_Ch_new_39 rfl (by decide) mw_102 rfl (by decide) rfl rfl (by decide) ?_
  refine mj_m_putF (M' := [c0, c1, c2, c3, c4, c5, .inr (.inr (3, [.inr (.inr (.inl none)), .inl 0, mj_R 7, mj_R 8, mj_R 9, mj_R 10, .inl 0, .inl 0])), .inr (.inl (13, 44, fun _ _ => 0)), .inl (0, 13, fun _ => 0), .inr (.inl (13, 5, fun _ _ => 0)), .inl (0, 572, fun _ => 0)]) (p := 6) (k := 5) d_Ch_new_41 rfl rfl rfl mw_132 rfl (by decide) (fun b z => ⟨.array .int, by decide +kernel, rfl, rfl⟩) rfl ?_
  refine mj_r_aload_n d_Ch_new_44 rfl ?_
  refine mj_r_aload_n d_Ch_new_45 rfl ?_
  refine mj_m_putF (M' := [c0, c1, c2, c3, c4, c5, .inr (.inr (3, [mj_R 1, .inl 0, mj_R 7, mj_R 8, mj_R 9, mj_R 10, .inl 0, .inl 0])), .inr (.inl (13, 44, fun _ _ => 0)), .inl (0, 13, fun _ => 0), .inr (.inl (13, 5, fun _ _ => 0)), .inl (0, 572, fun _ => 0)]) (p := 6) (k := 0) d_Ch_new_46 rfl rfl rfl mw_126 rfl (by decide) (fun b z => ⟨.object "ChartForest$Grammar", by decide +kernel, rfl, rfl⟩) rfl ?_
  refine mj_r_aload_n d_Ch_new_49 rfl ?_
  refine mj_r_iload_n d_Ch_new_50 rfl ?_
  refine mj_m_putF (M' := [c0, c1, c2, c3, c4, c5, .inr (.inr (3, [mj_R 1, .inl lp, mj_R 7, mj_R 8, mj_R 9, mj_R 10, .inl 0, .inl 0])), .inr (.inl (13, 44, fun _ _ => 0)), .inl (0, 13, fun _ => 0), .inr (.inl (13, 5, fun _ _ => 0)), .inl (0, 572, fun _ => 0)]) (p := 6) (k := 1) d_Ch_new_51 rfl rfl rfl mw_127 rfl (by decide) (mj_fit_Z hz) rfl ?_
  exact mj_r_vret d_Ch_new_54 rfl h
theorem n_Fo_new {g : mj_G} {d : Nat} {Post : mj_O → mj_M → Prop} {c0 c1 c2 c3 c4 c5 c6 c7 c8 c9 c10 : mj_C} (h : Post (.inl none) [c0, c1, c2, c3, c4, c5, c6, c7, c8, c9, c10, .inr (.inr (4, [mj_R 4, mj_R 15, mj_R 17, .inl 0, mj_R 12, mj_R 13, .inl 0, mj_R 14])), .inl (0, 845, fun _ => 0), .inl (1, 845, fun _ => 0), .inl (2, 845, fun _ => 0), .inr (.inr (5, [mj_R 4, mj_R 16])), .inl (2, 845, fun _ => 0), .inr (.inr (6, [mj_R 1, mj_R 15, .inl 0, .inl 0, .inl 0, mj_R 18, mj_R 19, mj_R 20])), .inl (0, 910, fun _ => 0), .inl (0, 910, fun _ => 0), .inl (2, 910, fun _ => 0)]) :
    mj_J g y_Fo_new (d + 2) 9 6120 (0, [some (mj_R 11), some (mj_R 1), some (mj_R 4)], [], [c0, c1, c2, c3, c4, c5, c6, c7, c8, c9, c10, .inr (.inr (4, [.inr (.inr (.inl none)), .inr (.inr (.inl none)), .inr (.inr (.inl none)), .inl 0, .inr (.inr (.inl none)), .inr (.inr (.inl none)), .inl 0, .inr (.inr (.inl none))]))]) Post := by
  refine mj_r_aload_n d_Fo_new_0 rfl ?_
  refine mj_r_objInit d_Fo_new_1 mw_157 mw_76 mw_77 rfl ?_
  refine mj_r_aload_n d_Fo_new_4 rfl ?_
  refine mj_r_sipush (x := 845) d_Fo_new_5 (by decide) ?_
  refine mj_m_newarray (kc := 8) (ks := 5275) (kd := 0) (n := 845) (M' := [c0, c1, c2, c3, c4, c5, c6, c7, c8, c9, c10, .inr (.inr (4, [.inr (.inr (.inl none)), .inr (.inr (.inl none)), .inr (.inr (.inl none)), .inl 0, .inr (.inr (.inl none)), .inr (.inr (.inl none)), .inl 0, .inr (.inr (.inl none))])), .inl (0, 845, fun _ => 0)]) (p := 12) d_Fo_new_8 rfl (by decide) mw_102 rfl (by decide) rfl rfl (by decide) ?_
  refine mj_m_putF (M' := [c0, c1, c2, c3, c4, c5, c6, c7, c8, c9, c10, .inr (.inr (4, [.inr (.inr (.inl none)), .inr (.inr (.inl none)), .inr (.inr (.inl none)), .inl 0, mj_R 12, .inr (.inr (.inl none)), .inl 0, .inr (.inr (.inl none))])), .inl (0, 845, fun _ => 0)]) (p := 11) (k := 4) d_Fo_new_10 rfl rfl rfl mw_212 rfl (by decide) (fun b z => ⟨.array .int, by decide +kernel, rfl, rfl⟩) rfl ?_
  refine mj_r_aload_n d_Fo_new_13 rfl ?_
  refine mj_r_sipush (x := 845) d_Fo_new_14 (by decide) ?_
  refine mj_m_newarray (kc := 7) (ks := 4430) (kd := 1) (n := 845) (M' := [c0, c1, c2, c3, c4, c5, c6, c7, c8, c9, c10, .inr (.inr (4, [.inr (.inr (.inl none)), .inr (.inr (.inl none)), .inr (.inr (.inl none)), .inl 0, mj_R 12, .inr (.inr (.inl none)), .inl 0, .inr (.inr (.inl none))])), .inl (0, 845, fun _ => 0), .inl (1, 845, fun _ => 0)]) (p := 13) d_Fo_new_17 rfl (by decide) mw_172 rfl (by decide) rfl rfl (by decide) ?_
  refine mj_m_putF (M' := [c0, c1, c2, c3, c4, c5, c6, c7, c8, c9, c10, .inr (.inr (4, [.inr (.inr (.inl none)), .inr (.inr (.inl none)), .inr (.inr (.inl none)), .inl 0, mj_R 12, mj_R 13, .inl 0, .inr (.inr (.inl none))])), .inl (0, 845, fun _ => 0), .inl (1, 845, fun _ => 0)]) (p := 11) (k := 5) d_Fo_new_19 rfl rfl rfl mw_213 rfl (by decide) (fun b z => ⟨.array .boolean, by decide +kernel, rfl, rfl⟩) rfl ?_
  refine mj_r_aload_n d_Fo_new_22 rfl ?_
  refine mj_r_sipush (x := 845) d_Fo_new_23 (by decide) ?_
  refine mj_m_newarray (kc := 6) (ks := 3585) (kd := 2) (n := 845) (M' := [c0, c1, c2, c3, c4, c5, c6, c7, c8, c9, c10, .inr (.inr (4, [.inr (.inr (.inl none)), .inr (.inr (.inl none)), .inr (.inr (.inl none)), .inl 0, mj_R 12, mj_R 13, .inl 0, .inr (.inr (.inl none))])), .inl (0, 845, fun _ => 0), .inl (1, 845, fun _ => 0), .inl (2, 845, fun _ => 0)]) (p := 14) d_Fo_new_26 rfl (by decide) mw_173 rfl (by decide) rfl rfl (by decide) ?_
  refine mj_m_putF (M' := [c0, c1, c2, c3, c4, c5, c6, c7, c8, c9, c10, .inr (.inr (4, [.inr (.inr (.inl none)), .inr (.inr (.inl none)), .inr (.inr (.inl none)), .inl 0, mj_R 12, mj_R 13, .inl 0, mj_R 14])), .inl (0, 845, fun _ => 0), .inl (1, 845, fun _ => 0), .inl (2, 845, fun _ => 0)]) (p := 11) (k := 7) d_Fo_new_28 rfl rfl rfl mw_215 rfl (by decide) (fun b z => ⟨.array .long, by decide +kernel, rfl, rfl⟩) rfl ?_
  refine mj_r_aload_n d_Fo_new_31 rfl ?_
  refine mj_r_aload_n d_Fo_new_32 rfl ?_
  refine mj_m_putF (M' := [c0, c1, c2, c3, c4, c5, c6, c7, c8, c9, c10, .inr (.inr (4, [mj_R 4, .inr (.inr (.inl none)), .inr (.inr (.inl none)), .inl 0, mj_R 12, mj_R 13, .inl 0, mj_R 14])), .inl (0, 845, fun _ => 0), .inl (1, 845, fun _ => 0), .inl (2, 845, fun _ => 0)]) (p := 11) (k := 0) d_Fo_new_33 rfl rfl rfl mw_208 rfl (by decide) (fun b z => ⟨.object "ChartForest$Tape", by decide +kernel, rfl, rfl⟩) rfl ?_
  refine mj_r_aload_n d_Fo_new_36 rfl ?_
  refine mj_m_new (kc := 5) (ks := 3583) (M' := [c0, c1, c2, c3, c4, c5, c6, c7, c8, c9, c10, .inr (.inr (4, [mj_R 4, .inr (.inr (.inl none)), .inr (.inr (.inl none)), .inl 0, mj_R 12, mj_R 13, .inl 0, mj_R 14])), .inl (0, 845, fun _ => 0), .inl (1, 845, fun _ => 0), .inl (2, 845, fun _ => 0), .inr (.inr (5, [.inr (.inr (.inl none)), .inr (.inr (.inl none))]))]) (p := 15) d_Fo_new_37 rfl mw_158 mw_159 mw_58 dv_5 rfl rfl (by decide) ?_
  refine mj_r_dup d_Fo_new_40 rfl ?_
  refine mj_r_aload_n d_Fo_new_41 rfl ?_
  refine mj_m_callI1 (kc' := 1) (ks' := 845) (kc2 := 4) (ks2 := 2738) d_Fo_new_42 h_Co_new rfl rfl (.inl mw_160) mw_161 rfl rfl ?_
  refine n_Co_new ?_
  refine ⟨none, rfl, ?_⟩
  show mj_J g y_Fo_new (d + 2) 4 2738 (45, [some (mj_R 11), some (mj_R 1), some (mj_R 4)], [mj_R 15, mj_R 11], [c0, c1, c2, c3, c4, c5, c6, c7, c8, c9, c10, .inr (.inr (4, [mj_R 4, .inr (.inr (.inl none)), .inr (.inr (.inl none)), .inl 0, mj_R 12, mj_R 13, .inl 0, mj_R 14])), .inl (0, 845, fun _ => 0), .inl (1, 845, fun _ => 0), .inl (2, 845, fun _ => 0), .inr (.inr (5, [mj_R 4, mj_R 16])), .inl (2, 845, fun _ => 0)]) Post
  refine mj_m_putF (M' := [c0, c1, c2, c3, c4, c5, c6, c7, c8, c9, c10, .inr (.inr (4, [mj_R 4, mj_R 15, .inr (.inr (.inl none)), .inl 0, mj_R 12, mj_R 13, .inl 0, mj_R 14])), .inl (0, 845, fun _ => 0), .inl (1, 845, fun _ => 0), .inl (2, 845, fun _ => 0), .inr (.inr (5, [mj_R 4, mj_R 16])), .inl (2, 845, fun _ => 0)]) (p := 11) (k := 1) d_Fo_new_45 rfl rfl rfl mw_209 rfl (by decide) (fun b z => ⟨.object "ChartForest$Counts", by decide +kernel, rfl, rfl⟩) rfl ?_
  refine mj_r_aload_n d_Fo_new_48 rfl ?_
  refine mj_m_new (kc := 3) (ks := 2730) (M' := [c0, c1, c2, c3, c4, c5, c6, c7, c8, c9, c10, .inr (.inr (4, [mj_R 4, mj_R 15, .inr (.inr (.inl none)), .inl 0, mj_R 12, mj_R 13, .inl 0, mj_R 14])), .inl (0, 845, fun _ => 0), .inl (1, 845, fun _ => 0), .inl (2, 845, fun _ => 0), .inr (.inr (5, [mj_R 4, mj_R 16])), .inl (2, 845, fun _ => 0), .inr (.inr (6, [.inr (.inr (.inl none)), .inr (.inr (.inl none)), .inl 0, .inl 0, .inl 0, .inr (.inr (.inl none)), .inr (.inr (.inl none)), .inr (.inr (.inl none))]))]) (p := 17) d_Fo_new_49 rfl mw_174 mw_175 mw_59 dv_6 rfl rfl (by decide) ?_
  refine mj_r_dup d_Fo_new_52 rfl ?_
  refine mj_r_aload_n d_Fo_new_53 rfl ?_
  refine mj_r_aload_n d_Fo_new_54 rfl ?_
  refine mj_r_getf (k := 1) d_Fo_new_55 rfl rfl (.inl mw_209) rfl rfl ?_
  refine mj_m_callI2 (kc' := 3) (ks' := 2730) (kc2 := 0) (ks2 := 0) d_Fo_new_58 h_Wa_new rfl rfl (.inl mw_176) mw_177 rfl rfl ?_
  refine n_Wa_new ?_
  refine ⟨none, rfl, ?_⟩
  show mj_J g y_Fo_new (d + 2) 0 0 (61, [some (mj_R 11), some (mj_R 1), some (mj_R 4)], [mj_R 17, mj_R 11], [c0, c1, c2, c3, c4, c5, c6, c7, c8, c9, c10, .inr (.inr (4, [mj_R 4, mj_R 15, .inr (.inr (.inl none)), .inl 0, mj_R 12, mj_R 13, .inl 0, mj_R 14])), .inl (0, 845, fun _ => 0), .inl (1, 845, fun _ => 0), .inl (2, 845, fun _ => 0), .inr (.inr (5, [mj_R 4, mj_R 16])), .inl (2, 845, fun _ => 0), .inr (.inr (6, [mj_R 1, mj_R 15, .inl 0, .inl 0, .inl 0, mj_R 18, mj_R 19, mj_R 20])), .inl (0, 910, fun _ => 0), .inl (0, 910, fun _ => 0), .inl (2, 910, fun _ => 0)]) Post
  refine mj_m_putF (M' := [c0, c1, c2, c3, c4, c5, c6, c7, c8, c9, c10, .inr (.inr (4, [mj_R 4, mj_R 15, mj_R 17, .inl 0, mj_R 12, mj_R 13, .inl 0, mj_R 14])), .inl (0, 845, fun _ => 0), .inl (1, 845, fun _ => 0), .inl (2, 845, fun _ => 0), .inr (.inr (5, [mj_R 4, mj_R 16])), .inl (2, 845, fun _ => 0), .inr (.inr (6, [mj_R 1, mj_R 15, .inl 0, .inl 0, .inl 0, mj_R 18, mj_R 19, mj_R 20])), .inl (0, 910, fun _ => 0), .inl (0, 910, fun _ => 0), .inl (2, 910, fun _ => 0)]) (p := 11) (k := 2) d_Fo_new_61 rfl rfl rfl mw_210 rfl (by decide) (fun b z => ⟨.object "ChartForest$Ways", by decide +kernel, rfl, rfl⟩) rfl ?_
  exact mj_r_vret d_Fo_new_64 rfl h
theorem n_Gr_new_a {g : mj_G} {d : Nat} {Post : mj_O → mj_M → Prop} {c0 : mj_C} (h : mj_J g y_Gr_new (d + 1) 0 0 (22, [some (mj_R 1), some (.inl 0)], [], [c0, .inr (.inr (1, [.inl 0, mj_R 2, mj_R 3])), .inl (0, 10, fun _ => 0), .inl (0, 44, fun _ => 0)]) Post) :
    mj_J g y_Gr_new (d + 1) 2 54 (0, [some (mj_R 1), none], [], [c0, .inr (.inr (1, [.inl 0, .inr (.inr (.inl none)), .inr (.inr (.inl none))]))]) Post := by
  refine mj_r_aload_n d_Gr_new_0 rfl ?_
  refine mj_r_objInit d_Gr_new_1 mw_83 mw_76 mw_77 rfl ?_
  refine mj_r_aload_n d_Gr_new_4 rfl ?_
  refine mj_r_bipush (x := 10) d_Gr_new_5 (by decide) ?_
  refine mj_m_newarray (kc := 1) (ks := 44) (kd := 0) (n := 10) (M' := [c0, .inr (.inr (1, [.inl 0, .inr (.inr (.inl none)), .inr (.inr (.inl none))])), .inl (0, 10, fun _ => 0)]) (p := 2) d_Gr_new_7 rfl (by decide) mw_102 rfl (by decide) rfl rfl (by decide) ?_
  refine mj_m_putF (M' := [c0, .inr (.inr (1, [.inl 0, mj_R 2, .inr (.inr (.inl none))])), .inl (0, 10, fun _ => 0)]) (p := 1) (k := 1) d_Gr_new_9 rfl rfl rfl mw_91 rfl (by decide) (fun b z => ⟨.array .int, by decide +kernel, rfl, rfl⟩) rfl ?_
  refine mj_r_aload_n d_Gr_new_12 rfl ?_
  refine mj_r_bipush (x := 44) d_Gr_new_13 (by decide) ?_
  refine mj_m_newarray (kc := 0) (ks := 0) (kd := 0) (n := 44) (M' := [c0, .inr (.inr (1, [.inl 0, mj_R 2, .inr (.inr (.inl none))])), .inl (0, 10, fun _ => 0), .inl (0, 44, fun _ => 0)]) (p := 3) d_Gr_new_15 rfl (by decide) mw_102 rfl (by decide) rfl rfl (by decide) ?_
  refine mj_m_putF (M' := [c0, .inr (.inr (1, [.inl 0, mj_R 2, mj_R 3])), .inl (0, 10, fun _ => 0), .inl (0, 44, fun _ => 0)]) (p := 1) (k := 2) d_Gr_new_17 rfl rfl rfl mw_92 rfl (by decide) (fun b z => ⟨.array .int, by decide +kernel, rfl, rfl⟩) rfl ?_
  refine mj_r_iconst (x := 0) d_Gr_new_20 rfl ?_
  refine mj_e_istore_n (lv' := [some (mj_R 1), some (.inl 0)]) d_Gr_new_21 rfl rfl ?_
  exact h
theorem c_slotOfM {g : mj_G} {d : Nat} {M : mj_M} {Post : mj_O → mj_M → Prop} {a b : Int} (h : Post (.inl (some (.inl (((a + 1) * 4) + b)))) M) : mj_J g y_CF_slotOf d 0 0 (0, [some (.inl a), some (.inl b)], [], M) Post := by
  refine mj_r_iload_n d_CF_slotOf_0 rfl ?_
  refine mj_r_iconst (x := 1) d_CF_slotOf_1 rfl ?_
  refine mj_r_iadd d_CF_slotOf_2 ?_
  refine mj_r_iconst (x := 4) d_CF_slotOf_3 rfl ?_
  refine mj_r_imul d_CF_slotOf_4 ?_
  refine mj_r_iload_n d_CF_slotOf_5 rfl ?_
  refine mj_r_iadd d_CF_slotOf_6 ?_
  exact mj_r_iret d_CF_slotOf_7 rfl h
theorem n_Gr_new_b {g : mj_G} {d : Nat} {Post : mj_O → mj_M → Prop} {c0 : mj_C} (h : Post (.inl none) [c0, .inr (.inr (1, [.inl 0, mj_R 2, mj_R 3])), .inl (0, 10, fun _ => 0), .inl (0, 44, fun j => if j = 0 then 0 else if j < 44 then -1 else 0)]) : ∀ (n s : Nat), s + n = 44 →
    mj_J g y_Gr_new (d + 1) 0 0 (22, [some (mj_R 1), some (.inl (s : Int))], [], [c0, .inr (.inr (1, [.inl 0, mj_R 2, mj_R 3])), .inl (0, 10, fun _ => 0), .inl (0, 44, fun j => if j < s then -1 else 0)]) Post := by
  intro n
  induction n with
  | zero =>
    intro s hs
    have e : s = 44 := by omega
    subst e
    refine mj_r_iload_n d_Gr_new_22 rfl ?_
    refine mj_r_bipush (x := 44) d_Gr_new_23 (by decide) ?_
    refine mj_s_icmp_ge (tgt := 41) d_Gr_new_25 (by decide) (mj_ik (by decide)) (mj_ik (by decide)) (fun q => absurd q (by decide)) (fun q => ?_)
    refine mj_r_aload_n d_Gr_new_41 rfl ?_
    refine mj_r_getf (k := 2) d_Gr_new_42 rfl rfl (.inl mw_92) rfl rfl ?_
    refine mj_r_iconst (x := (-1)) d_Gr_new_45 rfl ?_
    refine mj_r_iconst (x := 0) d_Gr_new_46 rfl ?_
    refine mj_callS (kc' := 0) (ks' := 0) (kc2 := 0) (ks2 := 0) (vs := [.inl (-1), .inl 0]) (st := [mj_R 3]) d_Gr_new_47 h_CF_slotOf (.inr mw_84) mw_85 rfl rfl (by decide) (by decide) ?_
    refine c_slotOfM ⟨_, rfl, ?_⟩
    show mj_J g y_Gr_new (d + 1) 0 0 (50, [some (mj_R 1), some (.inl ((44 : Nat) : Int))], [.inl (((-1 + 1) * 4) + 0), mj_R 3], _) Post
    refine mj_r_iconst (x := 0) d_Gr_new_50 rfl ?_
    refine mj_r_iast d_Gr_new_51 rfl (mj_ik (by decide)) (by decide) (by decide) ?_
    refine mj_r_vret d_Gr_new_52 rfl ?_
    have e1 : mj_up (fun j => if j < 44 then -1 else 0) (((-1 : Int) + 1) * 4 + 0).toNat 0 = (fun j => if j = 0 then 0 else if j < 44 then -1 else 0) := by
      funext j
      unfold mj_up
      rfl
    show Post (.inl none) [c0, .inr (.inr (1, [.inl 0, mj_R 2, mj_R 3])), .inl (0, 10, fun _ => 0), .inl (0, 44, mj_up (fun j => if j < 44 then -1 else 0) (((-1 : Int) + 1) * 4 + 0).toNat 0)]
    rw [e1]
    exact h
  | succ n ih =>
    intro s hs
    refine mj_r_iload_n d_Gr_new_22 rfl ?_
    refine mj_r_bipush (x := 44) d_Gr_new_23 (by decide) ?_
    refine mj_s_icmp_ge (tgt := 41) d_Gr_new_25 (by decide) ⟨by omega, by omega⟩ (mj_ik (by decide)) (fun q => ?_) (fun q => by omega)
    refine mj_r_aload_n d_Gr_new_28 rfl ?_
    refine mj_r_getf (k := 2) d_Gr_new_29 rfl rfl (.inl mw_92) rfl rfl ?_
    refine mj_r_iload_n d_Gr_new_32 rfl ?_
    refine mj_r_iconst (x := (-1)) d_Gr_new_33 rfl ?_
    refine mj_r_iast d_Gr_new_34 rfl ⟨by omega, by omega⟩ (by omega) (by show (s : Int) < ((44 : Nat) : Int); omega) ?_
    refine mj_e_iinc (lv' := [some (mj_R 1), some (.inl ((s : Int) + 1))]) d_Gr_new_35 rfl rfl ?_
    refine mj_r_goto (tgt := 22) d_Gr_new_38 (by decide) ?_
    have e1 : mj_up (fun j => if j < s then -1 else 0) (s : Int).toNat (-1) = (fun j => if j < s + 1 then -1 else 0) := by
      funext j
      unfold mj_up
      rw [Int.toNat_natCast]
      by_cases e2 : j = s
      · rw [if_pos e2, if_pos (by omega)]
      · rw [if_neg e2]
        show (if j < s then (-1 : Int) else 0) = _
        by_cases e3 : j < s
        · rw [if_pos e3, if_pos (by omega)]
        · rw [if_neg e3, if_neg (by omega)]
    show mj_J g y_Gr_new (d + 1) 0 0 (22, [some (mj_R 1), some (.inl ((s : Int) + 1))], [], [c0, .inr (.inr (1, [.inl 0, mj_R 2, mj_R 3])), .inl (0, 10, fun _ => 0), .inl (0, 44, mj_up (fun j => if j < s then -1 else 0) (s : Int).toNat (-1))]) Post
    rw [e1]
    exact ih (s + 1) (by omega)
theorem n_Gr_new {g : mj_G} {d : Nat} {Post : mj_O → mj_M → Prop} {c0 : mj_C} (h : Post (.inl none) [c0, .inr (.inr (1, [.inl 0, mj_R 2, mj_R 3])), .inl (0, 10, fun _ => 0), .inl (0, 44, fun j => if j = 0 then 0 else if j < 44 then -1 else 0)]) :
    mj_J g y_Gr_new (d + 1) 2 54 (0, [some (mj_R 1), none], [], [c0, .inr (.inr (1, [.inl 0, .inr (.inr (.inl none)), .inr (.inr (.inl none))]))]) Post :=
  n_Gr_new_a (n_Gr_new_b h 44 0 rfl)
