/-! ===== stores with the new locals spelled out ===== -/
section MJS
variable {g : mj_G} {Y : mj_Y} {d kc ks pc : Nat} {lv lv' : mj_L} {st : List mj_V} {M : mj_M} {Post : mj_O → mj_M → Prop}
theorem mj_e_istore {i : Nat} {x : Int} (hd : decode Y.2.2.1 pc = .ok (.istore i, 2)) (hi0 : Nat.blt i lv.length = true) (hlv : mj_st1 lv i (.inl x) = lv') (k : mj_J g Y d kc ks (pc + 2, lv', st, M) Post) : mj_J g Y d kc ks (pc, lv, .inl x :: st, M) Post := by
  subst hlv
  exact mj_r_istore hd hi0 k
theorem mj_e_istore_n {i : Fin 4} {x : Int} (hd : decode Y.2.2.1 pc = .ok (.istore_n i, 1)) (hi0 : Nat.blt (i : Nat) lv.length = true) (hlv : mj_st1 lv (i : Nat) (.inl x) = lv') (k : mj_J g Y d kc ks (pc + 1, lv', st, M) Post) : mj_J g Y d kc ks (pc, lv, .inl x :: st, M) Post := by
  subst hlv
  exact mj_r_istore_n hd hi0 k
theorem mj_e_lstore {i : Nat} {x : Int} (hd : decode Y.2.2.1 pc = .ok (.lstore i, 2)) (hi0 : Nat.blt (i + 1) lv.length = true) (hlv : mj_st2 lv i (.inr (.inl x)) = lv') (k : mj_J g Y d kc ks (pc + 2, lv', st, M) Post) : mj_J g Y d kc ks (pc, lv, .inr (.inl x) :: st, M) Post := by
  subst hlv
  exact mj_r_lstore hd hi0 k
theorem mj_e_lstore_n {i : Fin 4} {x : Int} (hd : decode Y.2.2.1 pc = .ok (.lstore_n i, 1)) (hi0 : Nat.blt ((i : Nat) + 1) lv.length = true) (hlv : mj_st2 lv (i : Nat) (.inr (.inl x)) = lv') (k : mj_J g Y d kc ks (pc + 1, lv', st, M) Post) : mj_J g Y d kc ks (pc, lv, .inr (.inl x) :: st, M) Post := by
  subst hlv
  exact mj_r_lstore_n hd hi0 k
theorem mj_e_astore {i : Nat} {r : Nat × Nat} (hd : decode Y.2.2.1 pc = .ok (.astore i, 2)) (hi0 : Nat.blt i lv.length = true) (hlv : mj_st1 lv i (.inr (.inr (.inl (some r)))) = lv') (k : mj_J g Y d kc ks (pc + 2, lv', st, M) Post) : mj_J g Y d kc ks (pc, lv, .inr (.inr (.inl (some r))) :: st, M) Post := by
  subst hlv
  exact mj_r_astore hd hi0 k
theorem mj_e_astore_n {i : Fin 4} {r : Nat × Nat} (hd : decode Y.2.2.1 pc = .ok (.astore_n i, 1)) (hi0 : Nat.blt (i : Nat) lv.length = true) (hlv : mj_st1 lv (i : Nat) (.inr (.inr (.inl (some r)))) = lv') (k : mj_J g Y d kc ks (pc + 1, lv', st, M) Post) : mj_J g Y d kc ks (pc, lv, .inr (.inr (.inl (some r))) :: st, M) Post := by
  subst hlv
  exact mj_r_astore_n hd hi0 k
theorem mj_e_iinc {i : Nat} {n x : Int} (hd : decode Y.2.2.1 pc = .ok (.iinc i n, 3)) (hl : lv[i]? = some (some (.inl x))) (hlv : mj_st1 lv i (.inl (x + n)) = lv') (k : mj_J g Y d kc ks (pc + 3, lv', st, M) Post) : mj_J g Y d kc ks (pc, lv, st, M) Post := by
  subst hlv
  exact mj_r_iinc hd hl k
end MJS
