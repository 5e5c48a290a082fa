/-! ===== Math.min ===== -/
def mj_min (x y : Int) : Int := if y < x then y else x
theorem mj_min_eq (x y : Int) : mj_min x y = min x y := by
  unfold mj_min
  split <;> omega
section MJN
variable {g : mj_G} {Y : mj_Y} {d kc ks pc idx : Nat} {lv : mj_L} {st : List mj_V} {M : mj_M} {Post : mj_O → mj_M → Prop}
theorem mj_cats (b z : Nat) (st : List mj_V) : ((st.map (mj_tr b z)).map fun v => v.category) = st.map mj_cat := by
  rw [List.map_map]
  congr 1
  exact funext fun w => mj_tr_cat b z w
theorem mj_r_minI {x y : Int} (hd : decode Y.2.2.1 pc = .ok (.invokestatic idx, 3)) (hl : Cond.methodLink Y.1 idx Lib.Math.min.name ∈ mj_tbl) (hs : Cond.static Lib.Math.min.name ∈ mj_tbl) (hi : Cond.initialized "java/lang/Math" ∈ mj_tbl) (hc : Cond.code Lib.Math.min.name Lib.Math.min.code 2 (some .int) ∈ mj_tbl)
    (hst : Nat.ble (st.map mj_cat).sum 8 = true) (hx : mj_i x) (hy : mj_i y) (k : mj_J g Y (d + 1) kc ks (pc + 3, lv, .inl (mj_min x y) :: st, M) Post) : mj_J g Y (d + 1) kc ks (pc, lv, .inl y :: .inl x :: st, M) Post := by
  intro hG p e R s m args below meth c H ls locs cells slots hK
  have h := k hG p e R s m args below meth c H ls locs cells slots hK
  have hts := hK.1.2.2.2.2.1
  have hst2 := Nat.le_of_ble_eq_true hst
  have hr := hK.2.1
  refine va_mmin hK.1.1 hK.1.2.1 ?_ hK.1.2.2.2.1 (hts _ hl) (hts _ hs) (hts _ hi) (hts _ hc) (by omega) ?_ (by omega) (by omega) hd ?_
  · rw [hK.1.2.2.1, ← hK.2.2.2.2.1.2, hK.2.2.2.2.1.1.1]
  · rw [mj_cats]
    omega
  · have e1 : (if Int32.ofInt y < Int32.ofInt x then Int32.ofInt y else Int32.ofInt x) = Int32.ofInt (mj_min x y) := by
      unfold mj_min
      simp only [mj_lt hy hx]
      split <;> rfl
    rw [e1]
    exact h
theorem mj_r_minL {x y : Int} (hd : decode Y.2.2.1 pc = .ok (.invokestatic idx, 3)) (hl : Cond.methodLink Y.1 idx Lib.MathLoose.min_long.x ∈ mj_tbl) (hs : Cond.static Lib.MathLoose.min_long.x ∈ mj_tbl) (hi : Cond.initialized "java/lang/Math" ∈ mj_tbl) (hc : Cond.code Lib.MathLoose.min_long.x Lib.MathLoose.min_long.code 4 (some .long) ∈ mj_tbl)
    (hst : Nat.ble (st.map mj_cat).sum 8 = true) (hx : mj_l x) (hy : mj_l y) (k : mj_J g Y (d + 1) kc ks (pc + 3, lv, .inr (.inl (mj_min x y)) :: st, M) Post) : mj_J g Y (d + 1) kc ks (pc, lv, .inr (.inl y) :: .inr (.inl x) :: st, M) Post := by
  intro hG p e R s m args below meth c H ls locs cells slots hK
  have h := k hG p e R s m args below meth c H ls locs cells slots hK
  have hts := hK.1.2.2.2.2.1
  have hst2 := Nat.le_of_ble_eq_true hst
  have hr := hK.2.1
  refine va_mmin_long hK.1.1 hK.1.2.1 ?_ hK.1.2.2.2.1 (hts _ hl) (hts _ hs) (hts _ hi) (hts _ hc) (by omega) ?_ (by omega) (by omega) hd ?_
  · rw [hK.1.2.2.1, ← hK.2.2.2.2.1.2, hK.2.2.2.2.1.1.1]
  · rw [mj_cats]
    omega
  · have hlt : Int64.ofInt y < Int64.ofInt x ↔ y < x := by rw [Int64.lt_iff_toInt_lt, mj_tl hx, mj_tl hy]
    have e1 : (if Int64.ofInt y < Int64.ofInt x then Int64.ofInt y else Int64.ofInt x) = Int64.ofInt (mj_min x y) := by
      unfold mj_min
      simp only [hlt]
      split <;> rfl
    rw [e1]
    exact h
end MJN
