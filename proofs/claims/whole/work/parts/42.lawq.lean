/-! ===== the law in the world ===== -/
def mj_PL (Post : Int → Prop) : mj_O → mj_M → Prop := fun o _ => ∃ x, o = .inl (some (.inl x)) ∧ Post x
theorem mj_q_retL {Post : Int → Prop} {x : Int} {M : mj_M} (h : Post x) : mj_PL Post (.inl (some (.inl x))) M := ⟨x, rfl, h⟩
section MJO
variable {g : mj_G} {Y Y' : mj_Y} {d d' kc ks pc nn N0 idx : Nat} {lv : mj_L} {st : List mj_V} {xs : mj_M} {w : mj_w} {Post : mj_O → mj_M → Prop} {hs0 : List (Nat × Nat × Nat × Nat)}
theorem mj_q_more {a b : Nat} {S : mj_S} (k : mj_J g Y d kc ks S Post) : mj_J g Y d (a + kc) (b + ks) S Post := by
  intro hG p e R s m args below meth c H ls locs cells slots hK
  refine mj_mono ?_ (k hG p e R s m args below meth c H ls locs cells slots ⟨hK.1, ⟨hK.2.1.1, hK.2.1.2.1, by have := hK.2.1.2.2.1; omega, by have := hK.2.1.2.2.2; omega⟩, hK.2.2⟩)
  rintro t ⟨o, h1, h2, h3, h4, L, h5, h6⟩
  exact ⟨o, h1, h2, h3, h4, L, h5.mono (by omega) (by omega), h6⟩
theorem mj_wkX {S : mj_S} {A B : Option mj_V → mj_w → Prop} (k : mj_J g Y d kc ks S (mj_PX nn xs A)) (h : ∀ v w1, A v w1 → B v w1) : mj_J g Y d kc ks S (mj_PX nn xs B) :=
  k.weaken (fun o M hP => by obtain ⟨v, w1, xs1, e1, e2, e3, h3⟩ := hP; exact ⟨v, w1, xs1, e1, e2, e3, h v w1 h3⟩)
theorem mj_q_SW (n : Nat) {vs stk : List mj_V} (hd : decode Y.2.2.1 pc = .ok (.invokestatic idx, 3)) (hy : mj_yw Y' n hs0) (hl : Cond.methodLink Y.1 idx Y'.2.1 ∈ mj_tbl) (hs : Cond.static Y'.2.1 ∈ mj_tbl)
    (hstk : stk = vs.reverse ++ st) (hn : vs.length = n) (he : Nat.ble (mj_e1 vs).length Y'.2.2.2.1 = true) (hst : Nat.ble (st.map mj_cat).sum 8 = true)
    (k : mj_J g Y' d' 1 6 (0, mj_ent vs Y'.2.2.2.1, [], mj_mem nn xs w) (mj_PX nn xs (fun v w1 => ∃ x : Int, v = some (.inl x) ∧ ∀ xs1 : mj_M, xs1.length ≤ xs.length + 1 → mj_J g Y (d' + 1) kc ks (pc + 3, lv, .inl x :: st, mj_mem nn xs1 w1) Post))) : mj_J g Y (d' + 1) (1 + kc) (6 + ks) (pc, lv, stk, mj_mem nn xs w) Post :=
  mj_callSW hd hy hl hs hstk hn (Nat.le_of_ble_eq_true he) (Nat.le_of_ble_eq_true hst) (k.weaken (fun o M h => by
    obtain ⟨v, w1, xs1, rfl, rfl, h3, x, rfl, h4⟩ := h
    exact ⟨_, rfl, h4 xs1 h3⟩))
theorem mj_q_SW2 {v0 v1 : mj_V} (hd : decode Y.2.2.1 pc = .ok (.invokestatic idx, 3)) (hy : mj_yw Y' 2 hs0) (hl : Cond.methodLink Y.1 idx Y'.2.1 ∈ mj_tbl) (hs : Cond.static Y'.2.1 ∈ mj_tbl) (he : Nat.ble (mj_e1 [v0, v1]).length Y'.2.2.2.1 = true) (hst : Nat.ble (st.map mj_cat).sum 8 = true)
    (k : mj_J g Y' d' 1 6 (0, mj_ent [v0, v1] Y'.2.2.2.1, [], mj_mem nn xs w) (mj_PX nn xs (fun v w1 => ∃ x : Int, v = some (.inl x) ∧ ∀ xs1 : mj_M, xs1.length ≤ xs.length + 1 → mj_J g Y (d' + 1) kc ks (pc + 3, lv, .inl x :: st, mj_mem nn xs1 w1) Post))) : mj_J g Y (d' + 1) (1 + kc) (6 + ks) (pc, lv, v1 :: v0 :: st, mj_mem nn xs w) Post :=
  mj_q_SW 2 (vs := [v0, v1]) hd hy hl hs rfl rfl he hst k
theorem mj_q_SW3 {v0 v1 v2 : mj_V} (hd : decode Y.2.2.1 pc = .ok (.invokestatic idx, 3)) (hy : mj_yw Y' 3 hs0) (hl : Cond.methodLink Y.1 idx Y'.2.1 ∈ mj_tbl) (hs : Cond.static Y'.2.1 ∈ mj_tbl) (he : Nat.ble (mj_e1 [v0, v1, v2]).length Y'.2.2.2.1 = true) (hst : Nat.ble (st.map mj_cat).sum 8 = true)
    (k : mj_J g Y' d' 1 6 (0, mj_ent [v0, v1, v2] Y'.2.2.2.1, [], mj_mem nn xs w) (mj_PX nn xs (fun v w1 => ∃ x : Int, v = some (.inl x) ∧ ∀ xs1 : mj_M, xs1.length ≤ xs.length + 1 → mj_J g Y (d' + 1) kc ks (pc + 3, lv, .inl x :: st, mj_mem nn xs1 w1) Post))) : mj_J g Y (d' + 1) (1 + kc) (6 + ks) (pc, lv, v2 :: v1 :: v0 :: st, mj_mem nn xs w) Post :=
  mj_q_SW 3 (vs := [v0, v1, v2]) hd hy hl hs rfl rfl he hst k
theorem mj_q_SW4 {v0 v1 v2 v3 : mj_V} (hd : decode Y.2.2.1 pc = .ok (.invokestatic idx, 3)) (hy : mj_yw Y' 4 hs0) (hl : Cond.methodLink Y.1 idx Y'.2.1 ∈ mj_tbl) (hs : Cond.static Y'.2.1 ∈ mj_tbl) (he : Nat.ble (mj_e1 [v0, v1, v2, v3]).length Y'.2.2.2.1 = true) (hst : Nat.ble (st.map mj_cat).sum 8 = true)
    (k : mj_J g Y' d' 1 6 (0, mj_ent [v0, v1, v2, v3] Y'.2.2.2.1, [], mj_mem nn xs w) (mj_PX nn xs (fun v w1 => ∃ x : Int, v = some (.inl x) ∧ ∀ xs1 : mj_M, xs1.length ≤ xs.length + 1 → mj_J g Y (d' + 1) kc ks (pc + 3, lv, .inl x :: st, mj_mem nn xs1 w1) Post))) : mj_J g Y (d' + 1) (1 + kc) (6 + ks) (pc, lv, v3 :: v2 :: v1 :: v0 :: st, mj_mem nn xs w) Post :=
  mj_q_SW 4 (vs := [v0, v1, v2, v3]) hd hy hl hs rfl rfl he hst k
theorem mj_q_SW5 {v0 v1 v2 v3 v4 : mj_V} (hd : decode Y.2.2.1 pc = .ok (.invokestatic idx, 3)) (hy : mj_yw Y' 5 hs0) (hl : Cond.methodLink Y.1 idx Y'.2.1 ∈ mj_tbl) (hs : Cond.static Y'.2.1 ∈ mj_tbl) (he : Nat.ble (mj_e1 [v0, v1, v2, v3, v4]).length Y'.2.2.2.1 = true) (hst : Nat.ble (st.map mj_cat).sum 8 = true)
    (k : mj_J g Y' d' 1 6 (0, mj_ent [v0, v1, v2, v3, v4] Y'.2.2.2.1, [], mj_mem nn xs w) (mj_PX nn xs (fun v w1 => ∃ x : Int, v = some (.inl x) ∧ ∀ xs1 : mj_M, xs1.length ≤ xs.length + 1 → mj_J g Y (d' + 1) kc ks (pc + 3, lv, .inl x :: st, mj_mem nn xs1 w1) Post))) : mj_J g Y (d' + 1) (1 + kc) (6 + ks) (pc, lv, v4 :: v3 :: v2 :: v1 :: v0 :: st, mj_mem nn xs w) Post :=
  mj_q_SW 5 (vs := [v0, v1, v2, v3, v4]) hd hy hl hs rfl rfl he hst k
theorem mj_q_SW6 {v0 v1 v2 v3 v4 v5 : mj_V} (hd : decode Y.2.2.1 pc = .ok (.invokestatic idx, 3)) (hy : mj_yw Y' 6 hs0) (hl : Cond.methodLink Y.1 idx Y'.2.1 ∈ mj_tbl) (hs : Cond.static Y'.2.1 ∈ mj_tbl) (he : Nat.ble (mj_e1 [v0, v1, v2, v3, v4, v5]).length Y'.2.2.2.1 = true) (hst : Nat.ble (st.map mj_cat).sum 8 = true)
    (k : mj_J g Y' d' 1 6 (0, mj_ent [v0, v1, v2, v3, v4, v5] Y'.2.2.2.1, [], mj_mem nn xs w) (mj_PX nn xs (fun v w1 => ∃ x : Int, v = some (.inl x) ∧ ∀ xs1 : mj_M, xs1.length ≤ xs.length + 1 → mj_J g Y (d' + 1) kc ks (pc + 3, lv, .inl x :: st, mj_mem nn xs1 w1) Post))) : mj_J g Y (d' + 1) (1 + kc) (6 + ks) (pc, lv, v5 :: v4 :: v3 :: v2 :: v1 :: v0 :: st, mj_mem nn xs w) Post :=
  mj_q_SW 6 (vs := [v0, v1, v2, v3, v4, v5]) hd hy hl hs rfl rfl he hst k
end MJO
