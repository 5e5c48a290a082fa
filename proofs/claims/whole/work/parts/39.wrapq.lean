/-! ===== the law's wrappers in the world ===== -/
def mj_PX (nn : Nat) (xs : mj_M) (Post : Option mj_V → mj_w → Prop) : mj_O → mj_M → Prop := fun o M => ∃ v w xs', o = .inl v ∧ M = mj_mem nn xs' w ∧ xs'.length ≤ xs.length + 1 ∧ Post v w
theorem mj_q_retX {nn : Nat} {xs : mj_M} {Post : Option mj_V → mj_w → Prop} {v : Option mj_V} {w : mj_w} (h : Post v w) : mj_PX nn xs Post (.inl v) (mj_mem nn xs w) := ⟨v, w, xs, rfl, rfl, Nat.le_add_right _ _, h⟩
theorem mj_q_retX1 {nn : Nat} {xs : mj_M} {c : mj_C} {Post : Option mj_V → mj_w → Prop} {v : Option mj_V} {w : mj_w} (h : Post v w) : mj_PX nn xs Post (.inl v) (mj_mem nn (xs ++ [c]) w) := ⟨v, w, xs ++ [c], rfl, rfl, by rw [List.length_append]; exact Nat.le_refl _, h⟩
theorem mj_mem_last (nn : Nat) (xs : mj_M) (c : mj_C) (w : mj_w) : (mj_mem nn (xs ++ [c]) w)[nn + xs.length]? = some c := by
  have h1 : mj_mem nn (xs ++ [c]) w = mj_mem nn xs w ++ [c] := by rw [mj_mem, mj_mem, List.append_assoc]
  have h2 := mj_mem_len nn xs w
  rw [h1, List.getElem?_append_right (by omega), h2, Nat.sub_self]
  rfl
section MJK
variable {g : mj_G} {Y Y' : mj_Y} {d d' kc ks pc nn N0 idx : Nat} {lv : mj_L} {st : List mj_V} {xs : mj_M} {w : mj_w} {Post : mj_O → mj_M → Prop} {hs0 : List (Nat × Nat × Nat × Nat)}
theorem mj_wkT {S : mj_S} {A B : Option mj_V ⊕ Nat → mj_w → Prop} (k : mj_J g Y d kc ks S (mj_PT nn xs A)) (h : ∀ v w1, A v w1 → B v w1) : mj_J g Y d kc ks S (mj_PT nn xs B) :=
  k.weaken (fun o M hP => by
    rcases hP with ⟨v, w1, e1, e2, h3⟩ | ⟨ci, w1, e1, e2, h3⟩
    · exact Or.inl ⟨v, w1, e1, e2, h _ w1 h3⟩
    · exact Or.inr ⟨ci, w1, e1, e2, h _ w1 h3⟩)
theorem mj_q_VT (n : Nat) {p ci : Nat} {vs stk : List mj_V} {l : List (Option Nat)} {fl : List (String × String × Bool)} (hd : decode Y.2.2.1 pc = .ok (.invokevirtual idx, 3)) (hy : mj_yk Y' n) (hl : Cond.methodLink Y.1 idx Y'.2.1 ∈ mj_tbl) (hs : Cond.instanceMethod Y'.2.1 ∈ mj_tbl) (hse : Cond.selects Y'.1 Y'.2.1 Y'.2.1 ∈ mj_tbl) (hcw : Cond.codeWith Y.2.1 Y.2.2.1 Y.2.2.2.1 Y.2.2.2.2 hs0 ∈ mj_tbl)
    (hsh : mj_sh[p]? = some (.inr (.inr (ci, l)))) (hc : mj_cf[ci]? = some (Y'.1, fl)) (hb : Nat.blt p N0 = true) (hn0 : N0 ≤ nn) (hstk : stk = vs.reverse ++ .inr (.inr (.inl (some (p, 0)))) :: st) (hn : vs.length = n) (he : Nat.ble (mj_e1 (.inr (.inr (.inl (some (p, 0)))) :: vs)).length Y'.2.2.2.1 = true) (hst : Nat.ble (st.map mj_cat).sum 8 = true)
    (k : mj_J g Y' d' 1 6 (0, mj_ent (.inr (.inr (.inl (some (p, 0)))) :: vs) Y'.2.2.2.1, [], mj_mem nn xs w) (mj_PT nn xs (fun r w1 => (∃ v, r = .inl v ∧ mj_J g Y (d' + 1) kc ks (pc + 3, lv, v.toList ++ st, mj_mem nn xs w1) Post) ∨ ∃ (cx : Nat) (X : String) (hpc : Nat), r = .inr cx ∧ mj_cf[cx]? = some (X, []) ∧ mj_hf Y.1 pc X hpc hs0 ∧ mj_J g Y (d' + 1) kc ks (hpc, lv, [.inr (.inr (.inl (some (nn + xs.length, 0))))], mj_mem nn (xs ++ [.inr (.inr (cx, []))]) w1) Post))) :
    mj_J g Y (d' + 1) (1 + kc) (6 + ks) (pc, lv, stk, mj_mem nn xs w) Post := by
  refine mj_callVT hd hy hl hs hse hcw hc (mj_mem_at (Nat.lt_of_lt_of_le (Nat.blt_eq.mp hb) hn0) hsh) hstk hn (Nat.le_of_ble_eq_true he) (Nat.le_of_ble_eq_true hst) (k.weaken (fun o M h => ?_))
  rcases h with ⟨v, w1, rfl, rfl, h⟩ | ⟨cx, w1, rfl, rfl, h⟩
  · rcases h with ⟨v', e, h⟩ | ⟨cx, X, hpc, e, -⟩
    · cases e
      exact Or.inl ⟨v, rfl, h⟩
    · cases e
  · rcases h with ⟨v', e, -⟩ | ⟨cx', X, hpc, e, h1, h2, h3⟩
    · cases e
    · cases e
      exact Or.inr ⟨_, cx, hpc, X, [], rfl, mj_mem_last nn xs _ w1, h1, h2, h3⟩
theorem mj_q_VT0i {p ci : Nat} {l : List (Option Nat)} {fl : List (String × String × Bool)} (hd : decode Y.2.2.1 pc = .ok (.invokevirtual idx, 3)) (hy : mj_yk Y' 0) (hl : Cond.methodLink Y.1 idx Y'.2.1 ∈ mj_tbl) (hs : Cond.instanceMethod Y'.2.1 ∈ mj_tbl) (hse : Cond.selects Y'.1 Y'.2.1 Y'.2.1 ∈ mj_tbl) (hcw : Cond.codeWith Y.2.1 Y.2.2.1 Y.2.2.2.1 Y.2.2.2.2 hs0 ∈ mj_tbl)
    (hsh : mj_sh[p]? = some (.inr (.inr (ci, l)))) (hc : mj_cf[ci]? = some (Y'.1, fl)) (hb : Nat.blt p N0 = true) (hn0 : N0 ≤ nn) (he : Nat.ble (mj_e1 [.inr (.inr (.inl (some (p, 0))))]).length Y'.2.2.2.1 = true) (hst : Nat.ble (st.map mj_cat).sum 8 = true)
    (k : mj_J g Y' d' 1 6 (0, mj_ent [.inr (.inr (.inl (some (p, 0))))] Y'.2.2.2.1, [], mj_mem nn xs w) (mj_PT nn xs (fun r w1 => (∃ x : Int, r = .inl (some (.inl x)) ∧ mj_J g Y (d' + 1) kc ks (pc + 3, lv, .inl x :: st, mj_mem nn xs w1) Post) ∨ ∃ (cx : Nat) (X : String) (hpc : Nat), r = .inr cx ∧ mj_cf[cx]? = some (X, []) ∧ mj_hf Y.1 pc X hpc hs0 ∧ mj_J g Y (d' + 1) kc ks (hpc, lv, [.inr (.inr (.inl (some (nn + xs.length, 0))))], mj_mem nn (xs ++ [.inr (.inr (cx, []))]) w1) Post))) :
    mj_J g Y (d' + 1) (1 + kc) (6 + ks) (pc, lv, .inr (.inr (.inl (some (p, 0)))) :: st, mj_mem nn xs w) Post :=
  mj_q_VT 0 (vs := []) hd hy hl hs hse hcw hsh hc hb hn0 rfl rfl he hst (mj_wkT k (fun r w1 h => by
    rcases h with ⟨x, e, h⟩ | h
    · exact Or.inl ⟨_, e, h⟩
    · exact Or.inr h))
theorem mj_q_VT0l {p ci : Nat} {l : List (Option Nat)} {fl : List (String × String × Bool)} (hd : decode Y.2.2.1 pc = .ok (.invokevirtual idx, 3)) (hy : mj_yk Y' 0) (hl : Cond.methodLink Y.1 idx Y'.2.1 ∈ mj_tbl) (hs : Cond.instanceMethod Y'.2.1 ∈ mj_tbl) (hse : Cond.selects Y'.1 Y'.2.1 Y'.2.1 ∈ mj_tbl) (hcw : Cond.codeWith Y.2.1 Y.2.2.1 Y.2.2.2.1 Y.2.2.2.2 hs0 ∈ mj_tbl)
    (hsh : mj_sh[p]? = some (.inr (.inr (ci, l)))) (hc : mj_cf[ci]? = some (Y'.1, fl)) (hb : Nat.blt p N0 = true) (hn0 : N0 ≤ nn) (he : Nat.ble (mj_e1 [.inr (.inr (.inl (some (p, 0))))]).length Y'.2.2.2.1 = true) (hst : Nat.ble (st.map mj_cat).sum 8 = true)
    (k : mj_J g Y' d' 1 6 (0, mj_ent [.inr (.inr (.inl (some (p, 0))))] Y'.2.2.2.1, [], mj_mem nn xs w) (mj_PT nn xs (fun r w1 => (∃ x : Int, r = .inl (some (.inr (.inl x))) ∧ mj_J g Y (d' + 1) kc ks (pc + 3, lv, .inr (.inl x) :: st, mj_mem nn xs w1) Post) ∨ ∃ (cx : Nat) (X : String) (hpc : Nat), r = .inr cx ∧ mj_cf[cx]? = some (X, []) ∧ mj_hf Y.1 pc X hpc hs0 ∧ mj_J g Y (d' + 1) kc ks (hpc, lv, [.inr (.inr (.inl (some (nn + xs.length, 0))))], mj_mem nn (xs ++ [.inr (.inr (cx, []))]) w1) Post))) :
    mj_J g Y (d' + 1) (1 + kc) (6 + ks) (pc, lv, .inr (.inr (.inl (some (p, 0)))) :: st, mj_mem nn xs w) Post :=
  mj_q_VT 0 (vs := []) hd hy hl hs hse hcw hsh hc hb hn0 rfl rfl he hst (mj_wkT k (fun r w1 h => by
    rcases h with ⟨x, e, h⟩ | h
    · exact Or.inl ⟨_, e, h⟩
    · exact Or.inr h))
theorem mj_q_VT1i {p ci : Nat} {l : List (Option Nat)} {fl : List (String × String × Bool)} {v0 : mj_V} (hd : decode Y.2.2.1 pc = .ok (.invokevirtual idx, 3)) (hy : mj_yk Y' 1) (hl : Cond.methodLink Y.1 idx Y'.2.1 ∈ mj_tbl) (hs : Cond.instanceMethod Y'.2.1 ∈ mj_tbl) (hse : Cond.selects Y'.1 Y'.2.1 Y'.2.1 ∈ mj_tbl) (hcw : Cond.codeWith Y.2.1 Y.2.2.1 Y.2.2.2.1 Y.2.2.2.2 hs0 ∈ mj_tbl)
    (hsh : mj_sh[p]? = some (.inr (.inr (ci, l)))) (hc : mj_cf[ci]? = some (Y'.1, fl)) (hb : Nat.blt p N0 = true) (hn0 : N0 ≤ nn) (he : Nat.ble (mj_e1 [.inr (.inr (.inl (some (p, 0)))), v0]).length Y'.2.2.2.1 = true) (hst : Nat.ble (st.map mj_cat).sum 8 = true)
    (k : mj_J g Y' d' 1 6 (0, mj_ent [.inr (.inr (.inl (some (p, 0)))), v0] Y'.2.2.2.1, [], mj_mem nn xs w) (mj_PT nn xs (fun r w1 => (∃ x : Int, r = .inl (some (.inl x)) ∧ mj_J g Y (d' + 1) kc ks (pc + 3, lv, .inl x :: st, mj_mem nn xs w1) Post) ∨ ∃ (cx : Nat) (X : String) (hpc : Nat), r = .inr cx ∧ mj_cf[cx]? = some (X, []) ∧ mj_hf Y.1 pc X hpc hs0 ∧ mj_J g Y (d' + 1) kc ks (hpc, lv, [.inr (.inr (.inl (some (nn + xs.length, 0))))], mj_mem nn (xs ++ [.inr (.inr (cx, []))]) w1) Post))) :
    mj_J g Y (d' + 1) (1 + kc) (6 + ks) (pc, lv, v0 :: .inr (.inr (.inl (some (p, 0)))) :: st, mj_mem nn xs w) Post :=
  mj_q_VT 1 (vs := [v0]) hd hy hl hs hse hcw hsh hc hb hn0 rfl rfl he hst (mj_wkT k (fun r w1 h => by
    rcases h with ⟨x, e, h⟩ | h
    · exact Or.inl ⟨_, e, h⟩
    · exact Or.inr h))
theorem mj_q_VT1l {p ci : Nat} {l : List (Option Nat)} {fl : List (String × String × Bool)} {v0 : mj_V} (hd : decode Y.2.2.1 pc = .ok (.invokevirtual idx, 3)) (hy : mj_yk Y' 1) (hl : Cond.methodLink Y.1 idx Y'.2.1 ∈ mj_tbl) (hs : Cond.instanceMethod Y'.2.1 ∈ mj_tbl) (hse : Cond.selects Y'.1 Y'.2.1 Y'.2.1 ∈ mj_tbl) (hcw : Cond.codeWith Y.2.1 Y.2.2.1 Y.2.2.2.1 Y.2.2.2.2 hs0 ∈ mj_tbl)
    (hsh : mj_sh[p]? = some (.inr (.inr (ci, l)))) (hc : mj_cf[ci]? = some (Y'.1, fl)) (hb : Nat.blt p N0 = true) (hn0 : N0 ≤ nn) (he : Nat.ble (mj_e1 [.inr (.inr (.inl (some (p, 0)))), v0]).length Y'.2.2.2.1 = true) (hst : Nat.ble (st.map mj_cat).sum 8 = true)
    (k : mj_J g Y' d' 1 6 (0, mj_ent [.inr (.inr (.inl (some (p, 0)))), v0] Y'.2.2.2.1, [], mj_mem nn xs w) (mj_PT nn xs (fun r w1 => (∃ x : Int, r = .inl (some (.inr (.inl x))) ∧ mj_J g Y (d' + 1) kc ks (pc + 3, lv, .inr (.inl x) :: st, mj_mem nn xs w1) Post) ∨ ∃ (cx : Nat) (X : String) (hpc : Nat), r = .inr cx ∧ mj_cf[cx]? = some (X, []) ∧ mj_hf Y.1 pc X hpc hs0 ∧ mj_J g Y (d' + 1) kc ks (hpc, lv, [.inr (.inr (.inl (some (nn + xs.length, 0))))], mj_mem nn (xs ++ [.inr (.inr (cx, []))]) w1) Post))) :
    mj_J g Y (d' + 1) (1 + kc) (6 + ks) (pc, lv, v0 :: .inr (.inr (.inl (some (p, 0)))) :: st, mj_mem nn xs w) Post :=
  mj_q_VT 1 (vs := [v0]) hd hy hl hs hse hcw hsh hc hb hn0 rfl rfl he hst (mj_wkT k (fun r w1 h => by
    rcases h with ⟨x, e, h⟩ | h
    · exact Or.inl ⟨_, e, h⟩
    · exact Or.inr h))
theorem mj_q_VT2i {p ci : Nat} {l : List (Option Nat)} {fl : List (String × String × Bool)} {v0 v1 : mj_V} (hd : decode Y.2.2.1 pc = .ok (.invokevirtual idx, 3)) (hy : mj_yk Y' 2) (hl : Cond.methodLink Y.1 idx Y'.2.1 ∈ mj_tbl) (hs : Cond.instanceMethod Y'.2.1 ∈ mj_tbl) (hse : Cond.selects Y'.1 Y'.2.1 Y'.2.1 ∈ mj_tbl) (hcw : Cond.codeWith Y.2.1 Y.2.2.1 Y.2.2.2.1 Y.2.2.2.2 hs0 ∈ mj_tbl)
    (hsh : mj_sh[p]? = some (.inr (.inr (ci, l)))) (hc : mj_cf[ci]? = some (Y'.1, fl)) (hb : Nat.blt p N0 = true) (hn0 : N0 ≤ nn) (he : Nat.ble (mj_e1 [.inr (.inr (.inl (some (p, 0)))), v0, v1]).length Y'.2.2.2.1 = true) (hst : Nat.ble (st.map mj_cat).sum 8 = true)
    (k : mj_J g Y' d' 1 6 (0, mj_ent [.inr (.inr (.inl (some (p, 0)))), v0, v1] Y'.2.2.2.1, [], mj_mem nn xs w) (mj_PT nn xs (fun r w1 => (∃ x : Int, r = .inl (some (.inl x)) ∧ mj_J g Y (d' + 1) kc ks (pc + 3, lv, .inl x :: st, mj_mem nn xs w1) Post) ∨ ∃ (cx : Nat) (X : String) (hpc : Nat), r = .inr cx ∧ mj_cf[cx]? = some (X, []) ∧ mj_hf Y.1 pc X hpc hs0 ∧ mj_J g Y (d' + 1) kc ks (hpc, lv, [.inr (.inr (.inl (some (nn + xs.length, 0))))], mj_mem nn (xs ++ [.inr (.inr (cx, []))]) w1) Post))) :
    mj_J g Y (d' + 1) (1 + kc) (6 + ks) (pc, lv, v1 :: v0 :: .inr (.inr (.inl (some (p, 0)))) :: st, mj_mem nn xs w) Post :=
  mj_q_VT 2 (vs := [v0, v1]) hd hy hl hs hse hcw hsh hc hb hn0 rfl rfl he hst (mj_wkT k (fun r w1 h => by
    rcases h with ⟨x, e, h⟩ | h
    · exact Or.inl ⟨_, e, h⟩
    · exact Or.inr h))
theorem mj_q_VT2l {p ci : Nat} {l : List (Option Nat)} {fl : List (String × String × Bool)} {v0 v1 : mj_V} (hd : decode Y.2.2.1 pc = .ok (.invokevirtual idx, 3)) (hy : mj_yk Y' 2) (hl : Cond.methodLink Y.1 idx Y'.2.1 ∈ mj_tbl) (hs : Cond.instanceMethod Y'.2.1 ∈ mj_tbl) (hse : Cond.selects Y'.1 Y'.2.1 Y'.2.1 ∈ mj_tbl) (hcw : Cond.codeWith Y.2.1 Y.2.2.1 Y.2.2.2.1 Y.2.2.2.2 hs0 ∈ mj_tbl)
    (hsh : mj_sh[p]? = some (.inr (.inr (ci, l)))) (hc : mj_cf[ci]? = some (Y'.1, fl)) (hb : Nat.blt p N0 = true) (hn0 : N0 ≤ nn) (he : Nat.ble (mj_e1 [.inr (.inr (.inl (some (p, 0)))), v0, v1]).length Y'.2.2.2.1 = true) (hst : Nat.ble (st.map mj_cat).sum 8 = true)
    (k : mj_J g Y' d' 1 6 (0, mj_ent [.inr (.inr (.inl (some (p, 0)))), v0, v1] Y'.2.2.2.1, [], mj_mem nn xs w) (mj_PT nn xs (fun r w1 => (∃ x : Int, r = .inl (some (.inr (.inl x))) ∧ mj_J g Y (d' + 1) kc ks (pc + 3, lv, .inr (.inl x) :: st, mj_mem nn xs w1) Post) ∨ ∃ (cx : Nat) (X : String) (hpc : Nat), r = .inr cx ∧ mj_cf[cx]? = some (X, []) ∧ mj_hf Y.1 pc X hpc hs0 ∧ mj_J g Y (d' + 1) kc ks (hpc, lv, [.inr (.inr (.inl (some (nn + xs.length, 0))))], mj_mem nn (xs ++ [.inr (.inr (cx, []))]) w1) Post))) :
    mj_J g Y (d' + 1) (1 + kc) (6 + ks) (pc, lv, v1 :: v0 :: .inr (.inr (.inl (some (p, 0)))) :: st, mj_mem nn xs w) Post :=
  mj_q_VT 2 (vs := [v0, v1]) hd hy hl hs hse hcw hsh hc hb hn0 rfl rfl he hst (mj_wkT k (fun r w1 h => by
    rcases h with ⟨x, e, h⟩ | h
    · exact Or.inl ⟨_, e, h⟩
    · exact Or.inr h))
theorem mj_q_VT3i {p ci : Nat} {l : List (Option Nat)} {fl : List (String × String × Bool)} {v0 v1 v2 : mj_V} (hd : decode Y.2.2.1 pc = .ok (.invokevirtual idx, 3)) (hy : mj_yk Y' 3) (hl : Cond.methodLink Y.1 idx Y'.2.1 ∈ mj_tbl) (hs : Cond.instanceMethod Y'.2.1 ∈ mj_tbl) (hse : Cond.selects Y'.1 Y'.2.1 Y'.2.1 ∈ mj_tbl) (hcw : Cond.codeWith Y.2.1 Y.2.2.1 Y.2.2.2.1 Y.2.2.2.2 hs0 ∈ mj_tbl)
    (hsh : mj_sh[p]? = some (.inr (.inr (ci, l)))) (hc : mj_cf[ci]? = some (Y'.1, fl)) (hb : Nat.blt p N0 = true) (hn0 : N0 ≤ nn) (he : Nat.ble (mj_e1 [.inr (.inr (.inl (some (p, 0)))), v0, v1, v2]).length Y'.2.2.2.1 = true) (hst : Nat.ble (st.map mj_cat).sum 8 = true)
    (k : mj_J g Y' d' 1 6 (0, mj_ent [.inr (.inr (.inl (some (p, 0)))), v0, v1, v2] Y'.2.2.2.1, [], mj_mem nn xs w) (mj_PT nn xs (fun r w1 => (∃ x : Int, r = .inl (some (.inl x)) ∧ mj_J g Y (d' + 1) kc ks (pc + 3, lv, .inl x :: st, mj_mem nn xs w1) Post) ∨ ∃ (cx : Nat) (X : String) (hpc : Nat), r = .inr cx ∧ mj_cf[cx]? = some (X, []) ∧ mj_hf Y.1 pc X hpc hs0 ∧ mj_J g Y (d' + 1) kc ks (hpc, lv, [.inr (.inr (.inl (some (nn + xs.length, 0))))], mj_mem nn (xs ++ [.inr (.inr (cx, []))]) w1) Post))) :
    mj_J g Y (d' + 1) (1 + kc) (6 + ks) (pc, lv, v2 :: v1 :: v0 :: .inr (.inr (.inl (some (p, 0)))) :: st, mj_mem nn xs w) Post :=
  mj_q_VT 3 (vs := [v0, v1, v2]) hd hy hl hs hse hcw hsh hc hb hn0 rfl rfl he hst (mj_wkT k (fun r w1 h => by
    rcases h with ⟨x, e, h⟩ | h
    · exact Or.inl ⟨_, e, h⟩
    · exact Or.inr h))
theorem mj_q_VT3l {p ci : Nat} {l : List (Option Nat)} {fl : List (String × String × Bool)} {v0 v1 v2 : mj_V} (hd : decode Y.2.2.1 pc = .ok (.invokevirtual idx, 3)) (hy : mj_yk Y' 3) (hl : Cond.methodLink Y.1 idx Y'.2.1 ∈ mj_tbl) (hs : Cond.instanceMethod Y'.2.1 ∈ mj_tbl) (hse : Cond.selects Y'.1 Y'.2.1 Y'.2.1 ∈ mj_tbl) (hcw : Cond.codeWith Y.2.1 Y.2.2.1 Y.2.2.2.1 Y.2.2.2.2 hs0 ∈ mj_tbl)
    (hsh : mj_sh[p]? = some (.inr (.inr (ci, l)))) (hc : mj_cf[ci]? = some (Y'.1, fl)) (hb : Nat.blt p N0 = true) (hn0 : N0 ≤ nn) (he : Nat.ble (mj_e1 [.inr (.inr (.inl (some (p, 0)))), v0, v1, v2]).length Y'.2.2.2.1 = true) (hst : Nat.ble (st.map mj_cat).sum 8 = true)
    (k : mj_J g Y' d' 1 6 (0, mj_ent [.inr (.inr (.inl (some (p, 0)))), v0, v1, v2] Y'.2.2.2.1, [], mj_mem nn xs w) (mj_PT nn xs (fun r w1 => (∃ x : Int, r = .inl (some (.inr (.inl x))) ∧ mj_J g Y (d' + 1) kc ks (pc + 3, lv, .inr (.inl x) :: st, mj_mem nn xs w1) Post) ∨ ∃ (cx : Nat) (X : String) (hpc : Nat), r = .inr cx ∧ mj_cf[cx]? = some (X, []) ∧ mj_hf Y.1 pc X hpc hs0 ∧ mj_J g Y (d' + 1) kc ks (hpc, lv, [.inr (.inr (.inl (some (nn + xs.length, 0))))], mj_mem nn (xs ++ [.inr (.inr (cx, []))]) w1) Post))) :
    mj_J g Y (d' + 1) (1 + kc) (6 + ks) (pc, lv, v2 :: v1 :: v0 :: .inr (.inr (.inl (some (p, 0)))) :: st, mj_mem nn xs w) Post :=
  mj_q_VT 3 (vs := [v0, v1, v2]) hd hy hl hs hse hcw hsh hc hb hn0 rfl rfl he hst (mj_wkT k (fun r w1 h => by
    rcases h with ⟨x, e, h⟩ | h
    · exact Or.inl ⟨_, e, h⟩
    · exact Or.inr h))
theorem mj_q_VT4i {p ci : Nat} {l : List (Option Nat)} {fl : List (String × String × Bool)} {v0 v1 v2 v3 : mj_V} (hd : decode Y.2.2.1 pc = .ok (.invokevirtual idx, 3)) (hy : mj_yk Y' 4) (hl : Cond.methodLink Y.1 idx Y'.2.1 ∈ mj_tbl) (hs : Cond.instanceMethod Y'.2.1 ∈ mj_tbl) (hse : Cond.selects Y'.1 Y'.2.1 Y'.2.1 ∈ mj_tbl) (hcw : Cond.codeWith Y.2.1 Y.2.2.1 Y.2.2.2.1 Y.2.2.2.2 hs0 ∈ mj_tbl)
    (hsh : mj_sh[p]? = some (.inr (.inr (ci, l)))) (hc : mj_cf[ci]? = some (Y'.1, fl)) (hb : Nat.blt p N0 = true) (hn0 : N0 ≤ nn) (he : Nat.ble (mj_e1 [.inr (.inr (.inl (some (p, 0)))), v0, v1, v2, v3]).length Y'.2.2.2.1 = true) (hst : Nat.ble (st.map mj_cat).sum 8 = true)
    (k : mj_J g Y' d' 1 6 (0, mj_ent [.inr (.inr (.inl (some (p, 0)))), v0, v1, v2, v3] Y'.2.2.2.1, [], mj_mem nn xs w) (mj_PT nn xs (fun r w1 => (∃ x : Int, r = .inl (some (.inl x)) ∧ mj_J g Y (d' + 1) kc ks (pc + 3, lv, .inl x :: st, mj_mem nn xs w1) Post) ∨ ∃ (cx : Nat) (X : String) (hpc : Nat), r = .inr cx ∧ mj_cf[cx]? = some (X, []) ∧ mj_hf Y.1 pc X hpc hs0 ∧ mj_J g Y (d' + 1) kc ks (hpc, lv, [.inr (.inr (.inl (some (nn + xs.length, 0))))], mj_mem nn (xs ++ [.inr (.inr (cx, []))]) w1) Post))) :
    mj_J g Y (d' + 1) (1 + kc) (6 + ks) (pc, lv, v3 :: v2 :: v1 :: v0 :: .inr (.inr (.inl (some (p, 0)))) :: st, mj_mem nn xs w) Post :=
  mj_q_VT 4 (vs := [v0, v1, v2, v3]) hd hy hl hs hse hcw hsh hc hb hn0 rfl rfl he hst (mj_wkT k (fun r w1 h => by
    rcases h with ⟨x, e, h⟩ | h
    · exact Or.inl ⟨_, e, h⟩
    · exact Or.inr h))
theorem mj_q_VT4l {p ci : Nat} {l : List (Option Nat)} {fl : List (String × String × Bool)} {v0 v1 v2 v3 : mj_V} (hd : decode Y.2.2.1 pc = .ok (.invokevirtual idx, 3)) (hy : mj_yk Y' 4) (hl : Cond.methodLink Y.1 idx Y'.2.1 ∈ mj_tbl) (hs : Cond.instanceMethod Y'.2.1 ∈ mj_tbl) (hse : Cond.selects Y'.1 Y'.2.1 Y'.2.1 ∈ mj_tbl) (hcw : Cond.codeWith Y.2.1 Y.2.2.1 Y.2.2.2.1 Y.2.2.2.2 hs0 ∈ mj_tbl)
    (hsh : mj_sh[p]? = some (.inr (.inr (ci, l)))) (hc : mj_cf[ci]? = some (Y'.1, fl)) (hb : Nat.blt p N0 = true) (hn0 : N0 ≤ nn) (he : Nat.ble (mj_e1 [.inr (.inr (.inl (some (p, 0)))), v0, v1, v2, v3]).length Y'.2.2.2.1 = true) (hst : Nat.ble (st.map mj_cat).sum 8 = true)
    (k : mj_J g Y' d' 1 6 (0, mj_ent [.inr (.inr (.inl (some (p, 0)))), v0, v1, v2, v3] Y'.2.2.2.1, [], mj_mem nn xs w) (mj_PT nn xs (fun r w1 => (∃ x : Int, r = .inl (some (.inr (.inl x))) ∧ mj_J g Y (d' + 1) kc ks (pc + 3, lv, .inr (.inl x) :: st, mj_mem nn xs w1) Post) ∨ ∃ (cx : Nat) (X : String) (hpc : Nat), r = .inr cx ∧ mj_cf[cx]? = some (X, []) ∧ mj_hf Y.1 pc X hpc hs0 ∧ mj_J g Y (d' + 1) kc ks (hpc, lv, [.inr (.inr (.inl (some (nn + xs.length, 0))))], mj_mem nn (xs ++ [.inr (.inr (cx, []))]) w1) Post))) :
    mj_J g Y (d' + 1) (1 + kc) (6 + ks) (pc, lv, v3 :: v2 :: v1 :: v0 :: .inr (.inr (.inl (some (p, 0)))) :: st, mj_mem nn xs w) Post :=
  mj_q_VT 4 (vs := [v0, v1, v2, v3]) hd hy hl hs hse hcw hsh hc hb hn0 rfl rfl he hst (mj_wkT k (fun r w1 h => by
    rcases h with ⟨x, e, h⟩ | h
    · exact Or.inl ⟨_, e, h⟩
    · exact Or.inr h))
theorem mj_q_VT5i {p ci : Nat} {l : List (Option Nat)} {fl : List (String × String × Bool)} {v0 v1 v2 v3 v4 : mj_V} (hd : decode Y.2.2.1 pc = .ok (.invokevirtual idx, 3)) (hy : mj_yk Y' 5) (hl : Cond.methodLink Y.1 idx Y'.2.1 ∈ mj_tbl) (hs : Cond.instanceMethod Y'.2.1 ∈ mj_tbl) (hse : Cond.selects Y'.1 Y'.2.1 Y'.2.1 ∈ mj_tbl) (hcw : Cond.codeWith Y.2.1 Y.2.2.1 Y.2.2.2.1 Y.2.2.2.2 hs0 ∈ mj_tbl)
    (hsh : mj_sh[p]? = some (.inr (.inr (ci, l)))) (hc : mj_cf[ci]? = some (Y'.1, fl)) (hb : Nat.blt p N0 = true) (hn0 : N0 ≤ nn) (he : Nat.ble (mj_e1 [.inr (.inr (.inl (some (p, 0)))), v0, v1, v2, v3, v4]).length Y'.2.2.2.1 = true) (hst : Nat.ble (st.map mj_cat).sum 8 = true)
    (k : mj_J g Y' d' 1 6 (0, mj_ent [.inr (.inr (.inl (some (p, 0)))), v0, v1, v2, v3, v4] Y'.2.2.2.1, [], mj_mem nn xs w) (mj_PT nn xs (fun r w1 => (∃ x : Int, r = .inl (some (.inl x)) ∧ mj_J g Y (d' + 1) kc ks (pc + 3, lv, .inl x :: st, mj_mem nn xs w1) Post) ∨ ∃ (cx : Nat) (X : String) (hpc : Nat), r = .inr cx ∧ mj_cf[cx]? = some (X, []) ∧ mj_hf Y.1 pc X hpc hs0 ∧ mj_J g Y (d' + 1) kc ks (hpc, lv, [.inr (.inr (.inl (some (nn + xs.length, 0))))], mj_mem nn (xs ++ [.inr (.inr (cx, []))]) w1) Post))) :
    mj_J g Y (d' + 1) (1 + kc) (6 + ks) (pc, lv, v4 :: v3 :: v2 :: v1 :: v0 :: .inr (.inr (.inl (some (p, 0)))) :: st, mj_mem nn xs w) Post :=
  mj_q_VT 5 (vs := [v0, v1, v2, v3, v4]) hd hy hl hs hse hcw hsh hc hb hn0 rfl rfl he hst (mj_wkT k (fun r w1 h => by
    rcases h with ⟨x, e, h⟩ | h
    · exact Or.inl ⟨_, e, h⟩
    · exact Or.inr h))
theorem mj_q_VT5l {p ci : Nat} {l : List (Option Nat)} {fl : List (String × String × Bool)} {v0 v1 v2 v3 v4 : mj_V} (hd : decode Y.2.2.1 pc = .ok (.invokevirtual idx, 3)) (hy : mj_yk Y' 5) (hl : Cond.methodLink Y.1 idx Y'.2.1 ∈ mj_tbl) (hs : Cond.instanceMethod Y'.2.1 ∈ mj_tbl) (hse : Cond.selects Y'.1 Y'.2.1 Y'.2.1 ∈ mj_tbl) (hcw : Cond.codeWith Y.2.1 Y.2.2.1 Y.2.2.2.1 Y.2.2.2.2 hs0 ∈ mj_tbl)
    (hsh : mj_sh[p]? = some (.inr (.inr (ci, l)))) (hc : mj_cf[ci]? = some (Y'.1, fl)) (hb : Nat.blt p N0 = true) (hn0 : N0 ≤ nn) (he : Nat.ble (mj_e1 [.inr (.inr (.inl (some (p, 0)))), v0, v1, v2, v3, v4]).length Y'.2.2.2.1 = true) (hst : Nat.ble (st.map mj_cat).sum 8 = true)
    (k : mj_J g Y' d' 1 6 (0, mj_ent [.inr (.inr (.inl (some (p, 0)))), v0, v1, v2, v3, v4] Y'.2.2.2.1, [], mj_mem nn xs w) (mj_PT nn xs (fun r w1 => (∃ x : Int, r = .inl (some (.inr (.inl x))) ∧ mj_J g Y (d' + 1) kc ks (pc + 3, lv, .inr (.inl x) :: st, mj_mem nn xs w1) Post) ∨ ∃ (cx : Nat) (X : String) (hpc : Nat), r = .inr cx ∧ mj_cf[cx]? = some (X, []) ∧ mj_hf Y.1 pc X hpc hs0 ∧ mj_J g Y (d' + 1) kc ks (hpc, lv, [.inr (.inr (.inl (some (nn + xs.length, 0))))], mj_mem nn (xs ++ [.inr (.inr (cx, []))]) w1) Post))) :
    mj_J g Y (d' + 1) (1 + kc) (6 + ks) (pc, lv, v4 :: v3 :: v2 :: v1 :: v0 :: .inr (.inr (.inl (some (p, 0)))) :: st, mj_mem nn xs w) Post :=
  mj_q_VT 5 (vs := [v0, v1, v2, v3, v4]) hd hy hl hs hse hcw hsh hc hb hn0 rfl rfl he hst (mj_wkT k (fun r w1 h => by
    rcases h with ⟨x, e, h⟩ | h
    · exact Or.inl ⟨_, e, h⟩
    · exact Or.inr h))
end MJK
