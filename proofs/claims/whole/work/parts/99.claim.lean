/-! ===== the claim ===== -/
theorem mj_law : mj_Law := by
  intro g
  refine mj_J.of fun hG => ?_
  have hlen : g.2.2.2.2.1 ≤ 2561 := hG.2.2.2.1
  have hlp : mj_lp g = 0 ∨ mj_lp g = 1 := by
    unfold mj_lp
    split
    · exact Or.inl rfl
    · exact Or.inr rfl
  have h := law_entry (g := g) (d := 2) (kc := 1 + (600 + 600363)) (ks := 6 + (6 * 600 + 7269237)) (Post := mj_PL (fun x => x = 1))
    (c_openFirst (d := 3) (by decide) (mL_GI0 (mj_lp g)) (by
      show mj_lp g = 0 ∨ mj_lp g = 1
      exact hlp) (fun w1 f1 C1 => ⟨rfl, c_M_makeSet (d := 3) (by decide) (by decide) (by decide) (mL_MG hlp w1) (fun z => absurd z (by decide)) (fun z => absurd z (by decide)) (fun w2 f2 e9 C2 => ⟨rfl, mL_loop (by decide) hlen 600 1 [] (mj_w2 w2) 0 (by decide) (by decide) (by omega) (mL_start hlp f1 C1 f2 e9 C2)⟩)⟩))
  exact h
theorem i_vc : Claimed_1_1 ∧ Claimed_1_2 := mj_claim mj_law
