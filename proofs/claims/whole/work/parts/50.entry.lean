/-! ===== the law's entry: both objects are made ===== -/
section LE
variable {g : mj_G} {d kc ks : Nat} {M : mj_M} {Post : mj_O → mj_M → Prop}
theorem mj_J.of {Y : mj_Y} {S : mj_S} (h : mj_F g → mj_J g Y d kc ks S Post) : mj_J g Y d kc ks S Post := fun hG => h hG hG
/-- the script's int at k, 0 behind its end -/
def mj_at (g : mj_G) (k : Int) : Int := if k < (g.2.2.2.2.1 : Int) then (g.2.2.2.2.2 k.toNat).toInt else 0
theorem c_cellM (hL : g.2.2.2.2.1 ≤ 2561) {k : Int} (h0 : 0 ≤ k) (hk : k < 100000) (h : Post (.inl (some (.inl (mj_at g k)))) M) : mj_J g y_La_cell d 0 0 (0, [some (.inr (.inr (.inr ()))), some (.inl k)], [], M) Post := by
  unfold mj_at at h
  refine mj_r_iload_n d_La_cell_0 rfl ?_
  refine mj_r_aload_nS d_La_cell_1 rfl ?_
  refine mj_r_slen d_La_cell_2 ?_
  refine mj_s_icmp_ge (tgt := 12) d_La_cell_3 (by decide) ⟨by omega, by omega⟩ ⟨by omega, by omega⟩ (fun q3 => ?_) (fun q3 => ?_)
  · rw [if_pos q3] at h
    refine mj_r_aload_nS d_La_cell_6 rfl ?_
    refine mj_r_iload_n d_La_cell_7 rfl ?_
    refine mj_r_sald d_La_cell_8 ⟨by omega, by omega⟩ h0 q3 ?_
    refine mj_r_goto (tgt := 13) d_La_cell_9 (by decide) ?_
    exact mj_r_iret d_La_cell_13 rfl h
  · rw [if_neg q3] at h
    refine mj_r_iconst (x := 0) d_La_cell_12 rfl ?_
    exact mj_r_iret d_La_cell_13 rfl h
theorem mj_at_i (k : Int) : mj_i (mj_at g k) := by
  unfold mj_at
  split
  · have h1 := Int32.le_toInt (g.2.2.2.2.2 k.toNat)
    have h2 := Int32.toInt_lt (g.2.2.2.2.2 k.toNat)
    exact ⟨h1, h2⟩
  · exact ⟨by decide, by decide⟩
/-- with the law's own array -/
def mj_w2 (w : mj_w) : mj_w := fun p => if p < 33 then w p else fun _ _ => 0
theorem mj_mem3 (w : mj_w) : mj_mem 33 [] w ++ [.inl (2, 1, fun _ => 0)] = mj_mem 34 [] (mj_w2 w) := rfl
def mj_lp (g : mj_G) : Int := if mj_at g 0 = 0 then 0 else 1
theorem law_entry (h : mj_J g y_Ch_openFirst (d + 6) 0 0 (0, [some (mj_R 6)], [], mj_mem 21 [] (mj_w0 (mj_lp g))) (mj_P 21 [] (fun v w1 => v = none ∧ mj_J g y_Mo_makeSet (d + 6) 0 0 (0, [some (mj_R 21), some (.inl 0), none, none], [], mj_mem 33 [] (mj_w1 w1 (mj_lp g))) (mj_P 33 [] (fun v w2 => v = none ∧
      mj_J g y_La_law (d + 8) kc ks (33, [some (.inr (.inr (.inr ()))), some (mj_R 0), some (mj_R 21), some (mj_R 33), some (.inl 1), none, none, none], [], mj_mem 34 [] (mj_w2 w2)) Post))))) :
    mj_J g y_La_law (d + 8) (1 + (46 + (1 + (11 + (1 + kc))))) (4 + (7455 + (19 + (12678 + (1 + ks))))) (0, [some (.inr (.inr (.inr ()))), none, none, none, none, none, none, none], [], []) Post := by
  refine mj_J.of fun hG => ?_
  have hL : g.2.2.2.2.1 ≤ 2561 := hG.2.2.2.1
  refine mj_m_new (ci := 0) (p := 0) d_La_law_0 rfl mw_70 mw_71 mw_53 dv_0 rfl rfl (by decide) ?_
  refine mj_r_dup d_La_law_3 rfl ?_
  refine mj_r_aload_nS d_La_law_4 rfl ?_
  refine mj_r_iconst (x := 0) d_La_law_5 rfl ?_
  have hc1 := mj_callS (g := g) (Y := y_La_law) (Y' := y_La_cell) (pc := 6) (lv := [some (.inr (.inr (.inr ()))), none, none, none, none, none, none, none]) (d' := d + 7) (kc' := 0) (ks' := 0) (kc2 := 46 + (1 + (11 + (1 + kc)))) (ks2 := 7455 + (19 + (12678 + (1 + ks)))) (Post := Post) (vs := [.inr (.inr (.inr ())), .inl 0]) (st := [mj_R 0, mj_R 0]) (M := [.inr (.inr (0, [.inr (.inr (.inl none)), .inr (.inr (.inl none)), .inr (.inr (.inl none)), .inr (.inr (.inl none))]))]) d_La_law_6 h_La_cell (.inl mw_406) mw_407 rfl rfl (by decide) (by decide)
  rw [Nat.zero_add, Nat.zero_add] at hc1
  refine hc1 (c_cellM hL (by decide) (by decide) ⟨_, rfl, ?_⟩)
  show mj_J g y_La_law (d + 8) (46 + (1 + (11 + (1 + kc)))) (7455 + (19 + (12678 + (1 + ks)))) (9, [some (.inr (.inr (.inr ()))), none, none, none, none, none, none, none], [.inl (mj_at g 0), mj_R 0, mj_R 0], _) Post
  refine mj_m_callI1 d_La_law_9 h_CF_new rfl rfl (.inl mw_72) mw_73 rfl rfl ?_
  refine n_CF_new (d := d + 1) (mj_at_i 0) (lp := mj_lp g) rfl (mj_wk h (fun v w1 h => ?_))
  obtain ⟨rfl, h⟩ := h
  refine ⟨rfl, none, rfl, ?_⟩
  show mj_J g y_La_law (d + 8) (1 + (11 + (1 + kc))) (19 + (12678 + (1 + ks))) (12, [some (.inr (.inr (.inr ()))), none, none, none, none, none, none, none], [mj_R 0], mj_mem 21 [] w1) Post
  refine mj_e_astore_n (lv' := [some (.inr (.inr (.inr ()))), some (mj_R 0), none, none, none, none, none, none]) d_La_law_12 rfl rfl ?_
  refine mj_m_new (ci := 7) (p := 21) (M' := mj_mem 21 [] w1 ++ [.inr (.inr (7, [.inl 0, .inl 0, .inl 0, .inr (.inr (.inl none)), .inr (.inr (.inl none)), .inr (.inr (.inl none)), .inl 0, .inr (.inr (.inl none)), .inr (.inr (.inl none)), .inl 0, .inr (.inr (.inl none)), .inr (.inr (.inl none)), .inr (.inr (.inl none)), .inr (.inr (.inl none)), .inl 0, .inl 0, .inr (.inr (.inl none)), .inr (.inr (.inl none)), .inl 0]))]) d_La_law_13 rfl mw_668 mw_669 mw_60 dv_7 rfl (mj_mem_len 21 [] w1) (by decide) ?_
  refine mj_r_dup d_La_law_16 rfl ?_
  refine mj_r_aload_nS d_La_law_17 rfl ?_
  refine mj_r_iconst (x := 0) d_La_law_18 rfl ?_
  have hc2 := mj_callS (g := g) (Y := y_La_law) (Y' := y_La_cell) (pc := 19) (lv := [some (.inr (.inr (.inr ()))), some (mj_R 0), none, none, none, none, none, none]) (d' := d + 7) (kc' := 0) (ks' := 0) (kc2 := 11 + (1 + kc)) (ks2 := 12678 + (1 + ks)) (Post := Post) (vs := [.inr (.inr (.inr ())), .inl 0]) (st := [mj_R 21, mj_R 21]) (M := mj_mem 21 [] w1 ++ [.inr (.inr (7, [.inl 0, .inl 0, .inl 0, .inr (.inr (.inl none)), .inr (.inr (.inl none)), .inr (.inr (.inl none)), .inl 0, .inr (.inr (.inl none)), .inr (.inr (.inl none)), .inl 0, .inr (.inr (.inl none)), .inr (.inr (.inl none)), .inr (.inr (.inl none)), .inr (.inr (.inl none)), .inl 0, .inl 0, .inr (.inr (.inl none)), .inr (.inr (.inl none)), .inl 0]))]) d_La_law_19 h_La_cell (.inl mw_406) mw_407 rfl rfl (by decide) (by decide)
  rw [Nat.zero_add, Nat.zero_add] at hc2
  refine hc2 (c_cellM hL (by decide) (by decide) ⟨_, rfl, ?_⟩)
  show mj_J g y_La_law (d + 8) (11 + (1 + kc)) (12678 + (1 + ks)) (22, [some (.inr (.inr (.inr ()))), some (mj_R 0), none, none, none, none, none, none], [.inl (mj_at g 0), mj_R 21, mj_R 21], _) Post
  refine mj_m_callI1 d_La_law_22 h_Mo_new rfl rfl (.inl mw_670) mw_671 rfl rfl ?_
  refine n_Mo_new (d := d + 1) (mj_at_i 0) (lp := mj_lp g) rfl (mj_wk h (fun v w2 h => ?_))
  obtain ⟨rfl, h⟩ := h
  refine ⟨rfl, none, rfl, ?_⟩
  show mj_J g y_La_law (d + 8) (1 + kc) (1 + ks) (25, [some (.inr (.inr (.inr ()))), some (mj_R 0), none, none, none, none, none, none], [mj_R 21], mj_mem 33 [] w2) Post
  refine mj_e_astore_n (lv' := [some (.inr (.inr (.inr ()))), some (mj_R 0), some (mj_R 21), none, none, none, none, none]) d_La_law_25 rfl rfl ?_
  refine mj_r_iconst (x := 1) d_La_law_26 rfl ?_
  refine mj_m_newarray (kd := 2) (n := 1) (p := 33) (M' := mj_mem 34 [] (mj_w2 w2)) d_La_law_27 rfl (by decide) mw_173 rfl (by decide) (mj_mem3 w2) (mj_mem_len 33 [] w2) (by decide) ?_
  refine mj_e_astore_n (lv' := [some (.inr (.inr (.inr ()))), some (mj_R 0), some (mj_R 21), some (mj_R 33), none, none, none, none]) d_La_law_29 rfl rfl ?_
  refine mj_r_iconst (x := 1) d_La_law_30 rfl ?_
  refine mj_e_istore (lv' := [some (.inr (.inr (.inr ()))), some (mj_R 0), some (mj_R 21), some (mj_R 33), some (.inl 1), none, none, none]) d_La_law_31 rfl rfl ?_
  exact h
end LE
