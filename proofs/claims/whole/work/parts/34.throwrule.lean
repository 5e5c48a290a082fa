/-! ===== a method of the class that throws, in the world ===== -/
def mj_nms : List String := ["java/lang/RuntimeException", "java/lang/Exception"]
def mj_PT (nn : Nat) (xs : mj_M) (Post : Option mj_V ⊕ Nat → mj_w → Prop) : mj_O → mj_M → Prop := fun o M =>
  (∃ v w, o = .inl v ∧ M = mj_mem nn xs w ∧ Post (.inl v) w) ∨ ∃ ci w, o = .inr (nn + xs.length) ∧ M = mj_mem nn (xs ++ [.inr (.inr (ci, []))]) w ∧ Post (.inr ci) w
theorem mj_qt_ret {nn : Nat} {xs : mj_M} {Post : Option mj_V ⊕ Nat → mj_w → Prop} {v : Option mj_V} {w : mj_w} (h : Post (.inl v) w) : mj_PT nn xs Post (.inl v) (mj_mem nn xs w) := Or.inl ⟨v, w, rfl, rfl, h⟩
def mj_atc (own : String) (ic : Nat) (X : String) : Bool := (Bundle.ownAtoms0 own ic X mj_nms).all fun a => (decide (a ∈ lw_tbl) && mj_gw a) || decide (a ∈ mj_sta)
def mj_xk (ci : Nat) (X : String) : Prop := mj_cf[ci]? = some (X, []) ∧ Cond.instantiable X 6 ∈ mj_tbl ∧ Cond.initialized X ∈ mj_tbl ∧ Bundle.fit X = true
theorem mj_mem_len (nn : Nat) (xs : mj_M) (w : mj_w) : (mj_mem nn xs w).length = nn + xs.length := by
  rw [mj_mem, List.length_append, List.length_map, List.length_range]
theorem mj_q_throw {g : mj_G} {Y : mj_Y} {d pc nn idx ic ci n : Nat} {lv : mj_L} {xs : mj_M} {w : mj_w} {X : String} {Post : Option mj_V ⊕ Nat → mj_w → Prop} (hd0 : decode Y.2.2.1 pc = .ok (.new idx, 3)) (hd1 : decode Y.2.2.1 (pc + 3) = .ok (.dup, 1)) (hd2 : decode Y.2.2.1 (pc + 3 + 1) = .ok (.invokespecial ic, 3)) (hd3 : decode Y.2.2.1 (pc + 3 + 1 + 3) = .ok (.athrow, 1))
    (hx : mj_xk ci X) (hcl : Cond.classLink Y.1 idx X ∈ mj_tbl) (hat : mj_atc Y.1 ic X = true) (hy : mj_yk Y n) (hn : 21 ≤ nn) (h : Post (.inr ci) w) : mj_J g Y (d + 6) 1 6 (pc, lv, [], mj_mem nn xs w) (mj_PT nn xs Post) := by
  have hl := mj_mem_len nn xs w
  refine mj_r_throw (names := mj_nms) hd0 hd1 hd2 hd3 hx.1 hcl hx.2.1 hx.2.2.1 hx.2.2.2 (by decide +kernel) (fun a ha => ?_) hy.1 (by show 2 + 4 ≤ d + 6; omega) (Nat.le_refl _) (Nat.le_refl _) (by decide) (by omega) (Or.inr ⟨ci, w, by rw [hl], ?_, h⟩)
  · have h1 := List.all_eq_true.mp hat a ha
    rcases Bool.or_eq_true_iff.mp h1 with h2 | h2
    · obtain ⟨h3, h4⟩ := Bool.and_eq_true_iff.mp h2
      exact Or.inl (List.mem_filter.mpr ⟨of_decide_eq_true h3, h4⟩)
    · exact Or.inr (of_decide_eq_true h2)
  · rw [mj_mem, mj_mem, List.append_assoc]
theorem mj_x8 : mj_xk 8 "java/lang/IllegalArgumentException" := ⟨rfl, mw_427, mw_64, by decide +kernel⟩
theorem mj_x9 : mj_xk 9 "java/lang/IllegalStateException" := ⟨rfl, mw_491, mw_65, by decide +kernel⟩
theorem mj_x10 : mj_xk 10 "java/lang/IndexOutOfBoundsException" := ⟨rfl, mw_587, mw_69, by decide +kernel⟩
theorem mj_x11 : mj_xk 11 "java/util/NoSuchElementException" := ⟨rfl, mw_527, mw_67, by decide +kernel⟩
theorem mj_at_54_8 : mj_atc "ChartForest" 54 "java/lang/IllegalArgumentException" = true := by decide +kernel
theorem mj_at_64_9 : mj_atc "ChartForest" 64 "java/lang/IllegalStateException" = true := by decide +kernel
theorem mj_at_85_11 : mj_atc "ChartForest" 85 "java/util/NoSuchElementException" = true := by decide +kernel
theorem mj_at_109_10 : mj_atc "ChartForest" 109 "java/lang/IndexOutOfBoundsException" = true := by decide +kernel
