/-! ===== a long constant whose word is spelled otherwise ===== -/
theorem mj_r_ldc2v {g : mj_G} {Y : mj_Y} {d kc ks pc : Nat} {lv : mj_L} {st : List mj_V} {M : mj_M} {Post : mj_O → mj_M → Prop} {n : Nat} {x : Int} {v : Int64} (hd : decode Y.2.2.1 pc = .ok (.ldc2_w n, 3)) (hw : Cond.constantLong Y.1 n v ∈ mj_tbl) (hv : v = Int64.ofInt x) (k : mj_J g Y d kc ks (pc + 3, lv, .inr (.inl x) :: st, M) Post) : mj_J g Y d kc ks (pc, lv, st, M) Post := by
  subst hv
  exact mj_r_ldc2_w hd hw k
