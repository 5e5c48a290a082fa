/-! ===== the law's own rows (by program) ===== -/
theorem v_La_law_33 {g : mj_G} {nn d kc ks : Nat} {xs : mj_M} {Post : Int → Prop} (hn : 34 ≤ nn) {w : mj_w} {l4 : Int}
    (h : mj_i l4 ∧ mj_i ((g.2.2.2.2.1 : Int) - 5) ∧ (((g.2.2.2.2.1 : Int) - 5) < l4 → (Post (1))) ∧ (¬ ((g.2.2.2.2.1 : Int) - 5) < l4 → (0 ≤ l4 ∧ l4 < (g.2.2.2.2.1 : Int) ∧ mj_i (mj_and ((g.2.2.2.2.2 (l4).toNat).toInt) 15) ∧ ((mj_and ((g.2.2.2.2.2 (l4).toNat).toInt) 15) < 0 ∨ 12 < (mj_and ((g.2.2.2.2.2 (l4).toNat).toInt) 15) → (mj_J g y_La_law (d + 8) kc ks (33, [some (.inr (.inr (.inr ()))), some (mj_R 0), some (mj_R 21), some (mj_R 33), some (.inl (l4 + 5)), none, none, none], [], mj_mem nn xs w) (mj_PL Post))) ∧ ((mj_and ((g.2.2.2.2.2 (l4).toNat).toInt) 15) = 0 → (mj_i (l4 + 1) ∧ 0 ≤ (l4 + 1) ∧ (l4 + 1) < (g.2.2.2.2.1 : Int) ∧ mj_i (l4 + 2) ∧ 0 ≤ (l4 + 2) ∧ (l4 + 2) < (g.2.2.2.2.1 : Int) ∧ mj_i (l4 + 3) ∧ 0 ≤ (l4 + 3) ∧ (l4 + 3) < (g.2.2.2.2.1 : Int) ∧ mj_J g y_La_rule (d + 7) 1 6 (0, [some (mj_R 0), some (.inl ((g.2.2.2.2.2 (l4 + 1).toNat).toInt)), some (.inl ((g.2.2.2.2.2 (l4 + 2).toNat).toInt)), some (.inl ((g.2.2.2.2.2 (l4 + 3).toNat).toInt)), some (mj_R 33), none], [], mj_mem nn xs w) (mj_PX nn xs (fun v w17 => ∃ x18 : Int, v = some (.inl x18) ∧ ∀ xs19 : mj_M, xs19.length ≤ xs.length + 1 → (mj_J g y_Mo_rule (d + 7) 0 0 (0, [some (mj_R 21), some (.inl ((g.2.2.2.2.2 (l4 + 1).toNat).toInt)), some (.inl ((g.2.2.2.2.2 (l4 + 2).toNat).toInt)), some (.inl ((g.2.2.2.2.2 (l4 + 3).toNat).toInt)), none, none], [], mj_mem nn xs19 w17) (mj_P nn xs19 (fun v w21 => ∃ x22 : Int, v = some (.inl x22) ∧ (mj_J g y_Mo_thrown (d + 7) 0 0 (0, [some (mj_R 21)], [], mj_mem nn xs19 w21) (mj_P nn xs19 (fun v w23 => ∃ x24 : Int, v = some (.inl x24) ∧ (mj_i x24 ∧ mj_i x18 ∧ (x24 = x18 → ((x18 = 0 → (mj_i x22 ∧ mj_l (w23 33 0 0) ∧ mj_l x22 ∧ ((w23 33 0 0) = x22 → (mj_J g y_La_law (d + 8) kc ks (33, [some (.inr (.inr (.inr ()))), some (mj_R 0), some (mj_R 21), some (mj_R 33), some (.inl (l4 + 5)), none, none, none], [], mj_mem nn xs19 w23) (mj_PL Post))) ∧ (¬ (w23 33 0 0) = x22 → (Post (0))))) ∧ (¬ x18 = 0 → (mj_J g y_La_law (d + 8) kc ks (33, [some (.inr (.inr (.inr ()))), some (mj_R 0), some (mj_R 21), some (mj_R 33), some (.inl (l4 + 5)), none, none, none], [], mj_mem nn xs19 w23) (mj_PL Post))))) ∧ (¬ x24 = x18 → (Post (0)))))))))))))) ∧ ((mj_and ((g.2.2.2.2.2 (l4).toNat).toInt) 15) = 1 → (mj_i (l4 + 1) ∧ 0 ≤ (l4 + 1) ∧ (l4 + 1) < (g.2.2.2.2.1 : Int) ∧ mj_J g y_La_feed (d + 7) 1 6 (0, [some (mj_R 0), some (.inl ((g.2.2.2.2.2 (l4 + 1).toNat).toInt)), some (mj_R 33), none], [], mj_mem nn xs w) (mj_PX nn xs (fun v w36 => ∃ x37 : Int, v = some (.inl x37) ∧ ∀ xs38 : mj_M, xs38.length ≤ xs.length + 1 → (mj_J g y_Mo_feed (d + 7) 0 0 (0, [some (mj_R 21), some (.inl ((g.2.2.2.2.2 (l4 + 1).toNat).toInt))], [], mj_mem nn xs38 w36) (mj_P nn xs38 (fun v w40 => ∃ x41 : Int, v = some (.inl x41) ∧ (mj_J g y_Mo_thrown (d + 7) 0 0 (0, [some (mj_R 21)], [], mj_mem nn xs38 w40) (mj_P nn xs38 (fun v w42 => ∃ x43 : Int, v = some (.inl x43) ∧ (mj_i x43 ∧ mj_i x37 ∧ (x43 = x37 → ((x37 = 0 → (mj_i x41 ∧ mj_l (w42 33 0 0) ∧ mj_l x41 ∧ ((w42 33 0 0) = x41 → (mj_J g y_La_law (d + 8) kc ks (33, [some (.inr (.inr (.inr ()))), some (mj_R 0), some (mj_R 21), some (mj_R 33), some (.inl (l4 + 5)), none, none, none], [], mj_mem nn xs38 w42) (mj_PL Post))) ∧ (¬ (w42 33 0 0) = x41 → (Post (0))))) ∧ (¬ x37 = 0 → (mj_J g y_La_law (d + 8) kc ks (33, [some (.inr (.inr (.inr ()))), some (mj_R 0), some (mj_R 21), some (mj_R 33), some (.inl (l4 + 5)), none, none, none], [], mj_mem nn xs38 w42) (mj_PL Post))))) ∧ (¬ x43 = x37 → (Post (0)))))))))))))) ∧ ((mj_and ((g.2.2.2.2.2 (l4).toNat).toInt) 15) = 2 → (mj_i (l4 + 1) ∧ 0 ≤ (l4 + 1) ∧ (l4 + 1) < (g.2.2.2.2.1 : Int) ∧ mj_J g y_La_back (d + 7) 1 6 (0, [some (mj_R 0), some (.inl ((g.2.2.2.2.2 (l4 + 1).toNat).toInt)), some (mj_R 33), none], [], mj_mem nn xs w) (mj_PX nn xs (fun v w55 => ∃ x56 : Int, v = some (.inl x56) ∧ ∀ xs57 : mj_M, xs57.length ≤ xs.length + 1 → (mj_J g y_Mo_back (d + 7) 0 0 (0, [some (mj_R 21), some (.inl ((g.2.2.2.2.2 (l4 + 1).toNat).toInt))], [], mj_mem nn xs57 w55) (mj_P nn xs57 (fun v w59 => ∃ x60 : Int, v = some (.inl x60) ∧ (mj_J g y_Mo_thrown (d + 7) 0 0 (0, [some (mj_R 21)], [], mj_mem nn xs57 w59) (mj_P nn xs57 (fun v w61 => ∃ x62 : Int, v = some (.inl x62) ∧ (mj_i x62 ∧ mj_i x56 ∧ (x62 = x56 → ((x56 = 0 → (mj_i x60 ∧ mj_l (w61 33 0 0) ∧ mj_l x60 ∧ ((w61 33 0 0) = x60 → (mj_J g y_La_law (d + 8) kc ks (33, [some (.inr (.inr (.inr ()))), some (mj_R 0), some (mj_R 21), some (mj_R 33), some (.inl (l4 + 5)), none, none, none], [], mj_mem nn xs57 w61) (mj_PL Post))) ∧ (¬ (w61 33 0 0) = x60 → (Post (0))))) ∧ (¬ x56 = 0 → (mj_J g y_La_law (d + 8) kc ks (33, [some (.inr (.inr (.inr ()))), some (mj_R 0), some (mj_R 21), some (mj_R 33), some (.inl (l4 + 5)), none, none, none], [], mj_mem nn xs57 w61) (mj_PL Post))))) ∧ (¬ x62 = x56 → (Post (0)))))))))))))) ∧ ((mj_and ((g.2.2.2.2.2 (l4).toNat).toInt) 15) = 3 → (mj_J g y_CF_fed (d + 7) 0 0 (0, [some (mj_R 0)], [], mj_mem nn xs w) (mj_P nn xs (fun v w71 => ∃ x72 : Int, v = some (.inl x72) ∧ (mj_J g y_Mo_fed (d + 7) 0 0 (0, [some (mj_R 21)], [], mj_mem nn xs w71) (mj_P nn xs (fun v w73 => ∃ x74 : Int, v = some (.inl x74) ∧ (mj_i x72 ∧ mj_i x74 ∧ (x72 = x74 → (mj_J g y_La_law (d + 8) kc ks (33, [some (.inr (.inr (.inr ()))), some (mj_R 0), some (mj_R 21), some (mj_R 33), some (.inl (l4 + 5)), none, none, none], [], mj_mem nn xs w73) (mj_PL Post))) ∧ (¬ x72 = x74 → (Post (0))))))))))) ∧ ((mj_and ((g.2.2.2.2.2 (l4).toNat).toInt) 15) = 4 → (mj_J g y_CF_accepts (d + 7) 0 0 (0, [some (mj_R 0)], [], mj_mem nn xs w) (mj_P nn xs (fun v w78 => ∃ x79 : Int, v = some (.inl x79) ∧ (mj_J g y_Mo_accepts (d + 7) 0 0 (0, [some (mj_R 21)], [], mj_mem nn xs w78) (mj_P nn xs (fun v w80 => ∃ x81 : Int, v = some (.inl x81) ∧ (mj_i x79 ∧ mj_i x81 ∧ (x79 = x81 → (mj_J g y_La_law (d + 8) kc ks (33, [some (.inr (.inr (.inr ()))), some (mj_R 0), some (mj_R 21), some (mj_R 33), some (.inl (l4 + 5)), none, none, none], [], mj_mem nn xs w80) (mj_PL Post))) ∧ (¬ x79 = x81 → (Post (0))))))))))) ∧ ((mj_and ((g.2.2.2.2.2 (l4).toNat).toInt) 15) = 5 → (mj_J g y_CF_expected (d + 7) 0 0 (0, [some (mj_R 0)], [], mj_mem nn xs w) (mj_P nn xs (fun v w85 => ∃ x86 : Int, v = some (.inl x86) ∧ (mj_J g y_Mo_expected (d + 7) 0 0 (0, [some (mj_R 21)], [], mj_mem nn xs w85) (mj_P nn xs (fun v w87 => ∃ x88 : Int, v = some (.inl x88) ∧ (mj_i x86 ∧ mj_i x88 ∧ (x86 = x88 → (mj_J g y_La_law (d + 8) kc ks (33, [some (.inr (.inr (.inr ()))), some (mj_R 0), some (mj_R 21), some (mj_R 33), some (.inl (l4 + 5)), none, none, none], [], mj_mem nn xs w87) (mj_PL Post))) ∧ (¬ x86 = x88 → (Post (0))))))))))) ∧ ((mj_and ((g.2.2.2.2.2 (l4).toNat).toInt) 15) = 6 → (mj_i (l4 + 1) ∧ 0 ≤ (l4 + 1) ∧ (l4 + 1) < (g.2.2.2.2.1 : Int) ∧ mj_J g y_La_items (d + 7) 1 6 (0, [some (mj_R 0), some (.inl ((g.2.2.2.2.2 (l4 + 1).toNat).toInt)), some (mj_R 33), none], [], mj_mem nn xs w) (mj_PX nn xs (fun v w95 => ∃ x96 : Int, v = some (.inl x96) ∧ ∀ xs97 : mj_M, xs97.length ≤ xs.length + 1 → (mj_J g y_Mo_items (d + 7) 0 0 (0, [some (mj_R 21), some (.inl ((g.2.2.2.2.2 (l4 + 1).toNat).toInt))], [], mj_mem nn xs97 w95) (mj_P nn xs97 (fun v w99 => ∃ x100 : Int, v = some (.inl x100) ∧ (mj_J g y_Mo_thrown (d + 7) 0 0 (0, [some (mj_R 21)], [], mj_mem nn xs97 w99) (mj_P nn xs97 (fun v w101 => ∃ x102 : Int, v = some (.inl x102) ∧ (mj_i x102 ∧ mj_i x96 ∧ (x102 = x96 → ((x96 = 0 → (mj_i x100 ∧ mj_l (w101 33 0 0) ∧ mj_l x100 ∧ ((w101 33 0 0) = x100 → (mj_J g y_La_law (d + 8) kc ks (33, [some (.inr (.inr (.inr ()))), some (mj_R 0), some (mj_R 21), some (mj_R 33), some (.inl (l4 + 5)), none, none, none], [], mj_mem nn xs97 w101) (mj_PL Post))) ∧ (¬ (w101 33 0 0) = x100 → (Post (0))))) ∧ (¬ x96 = 0 → (mj_J g y_La_law (d + 8) kc ks (33, [some (.inr (.inr (.inr ()))), some (mj_R 0), some (mj_R 21), some (mj_R 33), some (.inl (l4 + 5)), none, none, none], [], mj_mem nn xs97 w101) (mj_PL Post))))) ∧ (¬ x102 = x96 → (Post (0)))))))))))))) ∧ ((mj_and ((g.2.2.2.2.2 (l4).toNat).toInt) 15) = 7 → (mj_i (l4 + 1) ∧ 0 ≤ (l4 + 1) ∧ (l4 + 1) < (g.2.2.2.2.1 : Int) ∧ mj_i (l4 + 2) ∧ 0 ≤ (l4 + 2) ∧ (l4 + 2) < (g.2.2.2.2.1 : Int) ∧ mj_i (l4 + 3) ∧ 0 ≤ (l4 + 3) ∧ (l4 + 3) < (g.2.2.2.2.1 : Int) ∧ mj_i (l4 + 4) ∧ 0 ≤ (l4 + 4) ∧ (l4 + 4) < (g.2.2.2.2.1 : Int) ∧ mj_J g y_La_has (d + 7) 1 6 (0, [some (mj_R 0), some (.inl ((g.2.2.2.2.2 (l4 + 1).toNat).toInt)), some (.inl ((g.2.2.2.2.2 (l4 + 2).toNat).toInt)), some (.inl ((g.2.2.2.2.2 (l4 + 3).toNat).toInt)), some (.inl ((g.2.2.2.2.2 (l4 + 4).toNat).toInt)), some (mj_R 33), none], [], mj_mem nn xs w) (mj_PX nn xs (fun v w123 => ∃ x124 : Int, v = some (.inl x124) ∧ ∀ xs125 : mj_M, xs125.length ≤ xs.length + 1 → (mj_J g y_Mo_has (d + 7) 0 0 (0, [some (mj_R 21), some (.inl ((g.2.2.2.2.2 (l4 + 1).toNat).toInt)), some (.inl ((g.2.2.2.2.2 (l4 + 2).toNat).toInt)), some (.inl ((g.2.2.2.2.2 (l4 + 3).toNat).toInt)), some (.inl ((g.2.2.2.2.2 (l4 + 4).toNat).toInt))], [], mj_mem nn xs125 w123) (mj_P nn xs125 (fun v w127 => ∃ x128 : Int, v = some (.inl x128) ∧ (mj_J g y_Mo_thrown (d + 7) 0 0 (0, [some (mj_R 21)], [], mj_mem nn xs125 w127) (mj_P nn xs125 (fun v w129 => ∃ x130 : Int, v = some (.inl x130) ∧ (mj_i x130 ∧ mj_i x124 ∧ (x130 = x124 → ((x124 = 0 → (mj_i x128 ∧ (x128 = 0 → (mj_l (w129 33 0 0) ∧ ((w129 33 0 0) = 0 → (mj_J g y_La_law (d + 8) kc ks (33, [some (.inr (.inr (.inr ()))), some (mj_R 0), some (mj_R 21), some (mj_R 33), some (.inl (l4 + 5)), none, none, none], [], mj_mem nn xs125 w129) (mj_PL Post))) ∧ (¬ (w129 33 0 0) = 0 → (Post (0))))) ∧ (¬ x128 = 0 → (mj_l (w129 33 0 0) ∧ ((w129 33 0 0) = 1 → (mj_J g y_La_law (d + 8) kc ks (33, [some (.inr (.inr (.inr ()))), some (mj_R 0), some (mj_R 21), some (mj_R 33), some (.inl (l4 + 5)), none, none, none], [], mj_mem nn xs125 w129) (mj_PL Post))) ∧ (¬ (w129 33 0 0) = 1 → (Post (0))))))) ∧ (¬ x124 = 0 → (mj_J g y_La_law (d + 8) kc ks (33, [some (.inr (.inr (.inr ()))), some (mj_R 0), some (mj_R 21), some (mj_R 33), some (.inl (l4 + 5)), none, none, none], [], mj_mem nn xs125 w129) (mj_PL Post))))) ∧ (¬ x130 = x124 → (Post (0)))))))))))))) ∧ ((mj_and ((g.2.2.2.2.2 (l4).toNat).toInt) 15) = 8 → (mj_i (l4 + 1) ∧ 0 ≤ (l4 + 1) ∧ (l4 + 1) < (g.2.2.2.2.1 : Int) ∧ mj_i (l4 + 2) ∧ 0 ≤ (l4 + 2) ∧ (l4 + 2) < (g.2.2.2.2.1 : Int) ∧ mj_J g y_La_leap (d + 7) 1 6 (0, [some (mj_R 0), some (.inl ((g.2.2.2.2.2 (l4 + 1).toNat).toInt)), some (.inl ((g.2.2.2.2.2 (l4 + 2).toNat).toInt)), some (mj_R 33), none], [], mj_mem nn xs w) (mj_PX nn xs (fun v w147 => ∃ x148 : Int, v = some (.inl x148) ∧ ∀ xs149 : mj_M, xs149.length ≤ xs.length + 1 → (mj_J g y_Mo_leap (d + 7) 0 0 (0, [some (mj_R 21), some (.inl ((g.2.2.2.2.2 (l4 + 1).toNat).toInt)), some (.inl ((g.2.2.2.2.2 (l4 + 2).toNat).toInt)), none], [], mj_mem nn xs149 w147) (mj_P nn xs149 (fun v w151 => ∃ x152 : Int, v = some (.inl x152) ∧ (mj_J g y_Mo_thrown (d + 7) 0 0 (0, [some (mj_R 21)], [], mj_mem nn xs149 w151) (mj_P nn xs149 (fun v w153 => ∃ x154 : Int, v = some (.inl x154) ∧ (mj_i x154 ∧ mj_i x148 ∧ (x154 = x148 → ((x148 = 0 → (mj_i x152 ∧ mj_l (w153 33 0 0) ∧ mj_l x152 ∧ ((w153 33 0 0) = x152 → (mj_J g y_La_law (d + 8) kc ks (33, [some (.inr (.inr (.inr ()))), some (mj_R 0), some (mj_R 21), some (mj_R 33), some (.inl (l4 + 5)), none, none, none], [], mj_mem nn xs149 w153) (mj_PL Post))) ∧ (¬ (w153 33 0 0) = x152 → (Post (0))))) ∧ (¬ x148 = 0 → (mj_J g y_La_law (d + 8) kc ks (33, [some (.inr (.inr (.inr ()))), some (mj_R 0), some (mj_R 21), some (mj_R 33), some (.inl (l4 + 5)), none, none, none], [], mj_mem nn xs149 w153) (mj_PL Post))))) ∧ (¬ x154 = x148 → (Post (0)))))))))))))) ∧ ((mj_and ((g.2.2.2.2.2 (l4).toNat).toInt) 15) = 9 → (mj_i (l4 + 1) ∧ 0 ≤ (l4 + 1) ∧ (l4 + 1) < (g.2.2.2.2.1 : Int) ∧ mj_i (l4 + 2) ∧ 0 ≤ (l4 + 2) ∧ (l4 + 2) < (g.2.2.2.2.1 : Int) ∧ mj_i (l4 + 3) ∧ 0 ≤ (l4 + 3) ∧ (l4 + 3) < (g.2.2.2.2.1 : Int) ∧ mj_J g y_La_ways (d + 7) 1 6 (0, [some (mj_R 0), some (.inl ((g.2.2.2.2.2 (l4 + 1).toNat).toInt)), some (.inl ((g.2.2.2.2.2 (l4 + 2).toNat).toInt)), some (.inl ((g.2.2.2.2.2 (l4 + 3).toNat).toInt)), some (mj_R 33), none], [], mj_mem nn xs w) (mj_PX nn xs (fun v w172 => ∃ x173 : Int, v = some (.inl x173) ∧ ∀ xs174 : mj_M, xs174.length ≤ xs.length + 1 → (mj_J g y_Mo_ways (d + 7) 0 0 (0, [some (mj_R 21), some (.inl ((g.2.2.2.2.2 (l4 + 1).toNat).toInt)), some (.inl ((g.2.2.2.2.2 (l4 + 2).toNat).toInt)), some (.inl ((g.2.2.2.2.2 (l4 + 3).toNat).toInt)), none, none], [], mj_mem nn xs174 w172) (mj_P nn xs174 (fun v w176 => ∃ x177 : Int, v = some (.inl x177) ∧ (mj_J g y_Mo_thrown (d + 7) 0 0 (0, [some (mj_R 21)], [], mj_mem nn xs174 w176) (mj_P nn xs174 (fun v w178 => ∃ x179 : Int, v = some (.inl x179) ∧ (mj_i x179 ∧ mj_i x173 ∧ (x179 = x173 → ((x173 = 0 → (mj_i x177 ∧ mj_l (w178 33 0 0) ∧ mj_l x177 ∧ ((w178 33 0 0) = x177 → (mj_J g y_La_law (d + 8) kc ks (33, [some (.inr (.inr (.inr ()))), some (mj_R 0), some (mj_R 21), some (mj_R 33), some (.inl (l4 + 5)), none, none, none], [], mj_mem nn xs174 w178) (mj_PL Post))) ∧ (¬ (w178 33 0 0) = x177 → (Post (0))))) ∧ (¬ x173 = 0 → (mj_J g y_La_law (d + 8) kc ks (33, [some (.inr (.inr (.inr ()))), some (mj_R 0), some (mj_R 21), some (mj_R 33), some (.inl (l4 + 5)), none, none, none], [], mj_mem nn xs174 w178) (mj_PL Post))))) ∧ (¬ x179 = x173 → (Post (0)))))))))))))) ∧ ((mj_and ((g.2.2.2.2.2 (l4).toNat).toInt) 15) = 10 → (mj_i (l4 + 1) ∧ 0 ≤ (l4 + 1) ∧ (l4 + 1) < (g.2.2.2.2.1 : Int) ∧ mj_i (l4 + 2) ∧ 0 ≤ (l4 + 2) ∧ (l4 + 2) < (g.2.2.2.2.1 : Int) ∧ mj_i (l4 + 3) ∧ 0 ≤ (l4 + 3) ∧ (l4 + 3) < (g.2.2.2.2.1 : Int) ∧ mj_J g y_La_trees (d + 7) 1 6 (0, [some (mj_R 0), some (.inl ((g.2.2.2.2.2 (l4 + 1).toNat).toInt)), some (.inl ((g.2.2.2.2.2 (l4 + 2).toNat).toInt)), some (.inl ((g.2.2.2.2.2 (l4 + 3).toNat).toInt)), some (mj_R 33), none], [], mj_mem nn xs w) (mj_PX nn xs (fun v w197 => ∃ x198 : Int, v = some (.inl x198) ∧ ∀ xs199 : mj_M, xs199.length ≤ xs.length + 1 → (mj_J g y_Mo_trees (d + 7) 0 0 (0, [some (mj_R 21), some (.inl ((g.2.2.2.2.2 (l4 + 1).toNat).toInt)), some (.inl ((g.2.2.2.2.2 (l4 + 2).toNat).toInt)), some (.inl ((g.2.2.2.2.2 (l4 + 3).toNat).toInt))], [], mj_mem nn xs199 w197) (mj_P nn xs199 (fun v w201 => ∃ x202 : Int, v = some (.inr (.inl x202)) ∧ (mj_J g y_Mo_thrown (d + 7) 0 0 (0, [some (mj_R 21)], [], mj_mem nn xs199 w201) (mj_P nn xs199 (fun v w203 => ∃ x204 : Int, v = some (.inl x204) ∧ (mj_i x204 ∧ mj_i x198 ∧ (x204 = x198 → ((x198 = 0 → (mj_l (w203 33 0 0) ∧ mj_l x202 ∧ ((w203 33 0 0) = x202 → (mj_J g y_La_law (d + 8) kc ks (33, [some (.inr (.inr (.inr ()))), some (mj_R 0), some (mj_R 21), some (mj_R 33), some (.inl (l4 + 5)), none, none, none], [], mj_mem nn xs199 w203) (mj_PL Post))) ∧ (¬ (w203 33 0 0) = x202 → (Post (0))))) ∧ (¬ x198 = 0 → (mj_J g y_La_law (d + 8) kc ks (33, [some (.inr (.inr (.inr ()))), some (mj_R 0), some (mj_R 21), some (mj_R 33), some (.inl (l4 + 5)), none, none, none], [], mj_mem nn xs199 w203) (mj_PL Post))))) ∧ (¬ x204 = x198 → (Post (0)))))))))))))) ∧ ((mj_and ((g.2.2.2.2.2 (l4).toNat).toInt) 15) = 11 → (mj_J g y_CF_nodes (d + 7) 0 0 (0, [some (mj_R 0)], [], mj_mem nn xs w) (mj_P nn xs (fun v w212 => ∃ x213 : Int, v = some (.inl x213) ∧ (mj_J g y_Mo_nodes (d + 7) 0 0 (0, [some (mj_R 21), none, none, none], [], mj_mem nn xs w212) (mj_P nn xs (fun v w214 => ∃ x215 : Int, v = some (.inl x215) ∧ (mj_i x213 ∧ mj_i x215 ∧ (x213 = x215 → (mj_J g y_La_law (d + 8) kc ks (33, [some (.inr (.inr (.inr ()))), some (mj_R 0), some (mj_R 21), some (mj_R 33), some (.inl (l4 + 5)), none, none, none], [], mj_mem nn xs w214) (mj_PL Post))) ∧ (¬ x213 = x215 → (Post (0))))))))))) ∧ ((mj_and ((g.2.2.2.2.2 (l4).toNat).toInt) 15) = 12 → (mj_i (l4 + 1) ∧ 0 ≤ (l4 + 1) ∧ (l4 + 1) < (g.2.2.2.2.1 : Int) ∧ mj_i ((g.2.2.2.2.2 (l4 + 1).toNat).toInt) ∧ mj_i (l4 + 2) ∧ 0 ≤ (l4 + 2) ∧ (l4 + 2) < (g.2.2.2.2.1 : Int) ∧ mj_i ((g.2.2.2.2.2 (l4 + 2).toNat).toInt) ∧ mj_i (l4 + 3) ∧ 0 ≤ (l4 + 3) ∧ (l4 + 3) < (g.2.2.2.2.1 : Int) ∧ mj_J g y_La_tree (d + 7) 1 6 (0, [some (mj_R 0), some (.inr (.inl (mj_lor (mj_lsh ((g.2.2.2.2.2 (l4 + 1).toNat).toInt) 32) (mj_lan ((g.2.2.2.2.2 (l4 + 2).toNat).toInt) 4294967295)))), none, some (.inl ((g.2.2.2.2.2 (l4 + 3).toNat).toInt)), some (mj_R 33), none], [], mj_mem nn xs w) (mj_PX nn xs (fun v w230 => ∃ x231 : Int, v = some (.inl x231) ∧ ∀ xs232 : mj_M, xs232.length ≤ xs.length + 1 → (mj_J g y_Mo_tree (d + 7) 0 0 (0, [some (mj_R 21), some (.inr (.inl (mj_lor (mj_lsh ((g.2.2.2.2.2 (l4 + 1).toNat).toInt) 32) (mj_lan ((g.2.2.2.2.2 (l4 + 2).toNat).toInt) 4294967295)))), none, some (.inl ((g.2.2.2.2.2 (l4 + 3).toNat).toInt)), none, none, none, none], [], mj_mem nn xs232 w230) (mj_P nn xs232 (fun v w234 => ∃ x235 : Int, v = some (.inl x235) ∧ (mj_J g y_Mo_thrown (d + 7) 0 0 (0, [some (mj_R 21)], [], mj_mem nn xs232 w234) (mj_P nn xs232 (fun v w236 => ∃ x237 : Int, v = some (.inl x237) ∧ (mj_i x237 ∧ mj_i x231 ∧ (x237 = x231 → ((x231 = 0 → (mj_i x235 ∧ mj_l (w236 33 0 0) ∧ mj_l x235 ∧ ((w236 33 0 0) = x235 → (mj_J g y_La_law (d + 8) kc ks (33, [some (.inr (.inr (.inr ()))), some (mj_R 0), some (mj_R 21), some (mj_R 33), some (.inl (l4 + 5)), none, none, none], [], mj_mem nn xs232 w236) (mj_PL Post))) ∧ (¬ (w236 33 0 0) = x235 → (Post (0))))) ∧ (¬ x231 = 0 → (mj_J g y_La_law (d + 8) kc ks (33, [some (.inr (.inr (.inr ()))), some (mj_R 0), some (mj_R 21), some (mj_R 33), some (.inl (l4 + 5)), none, none, none], [], mj_mem nn xs232 w236) (mj_PL Post))))) ∧ (¬ x237 = x231 → (Post (0))))))))))))))))) :
    mj_J g y_La_law (d + 8) (1 + kc) (6 + ks) (33, [some (.inr (.inr (.inr ()))), some (mj_R 0), some (mj_R 21), some (mj_R 33), some (.inl l4), none, none, none], [], mj_mem nn xs w) (mj_PL Post) := by
  refine mj_r_iload d_La_law_33 rfl ?_
  refine mj_r_aload_nS d_La_law_35 rfl ?_
  refine mj_r_slen d_La_law_36 ?_
  refine mj_r_iconst (x := 5) d_La_law_37 rfl ?_
  refine mj_r_isub d_La_law_38 ?_
  obtain ⟨q1, h⟩ := h
  obtain ⟨q2, h⟩ := h
  refine mj_s_icmp_gt (tgt := 848) d_La_law_39 (by decide) q1 q2 (fun q3 => ?_) (fun q3 => ?_)
  · have h := h.1 q3
    refine mj_r_iconst (x := 1) d_La_law_848 rfl ?_
    exact mj_r_zret d_La_law_849 rfl (by decide) (mj_q_retL h)
  · have h := h.2 q3
    refine mj_r_aload_nS d_La_law_42 rfl ?_
    refine mj_r_iload d_La_law_43 rfl ?_
    obtain ⟨q4, h⟩ := h
    obtain ⟨q5, h⟩ := h
    refine mj_r_sald d_La_law_45 q1 q4 q5 ?_
    refine mj_r_bipush (x := 15) d_La_law_46 (by decide) ?_
    refine mj_r_iand d_La_law_48 ?_
    obtain ⟨q6, h⟩ := h
    refine mj_s_table d_La_law_49 q6 (fun q7 => ⟨842, by decide, ?_⟩) (fun j hj q7 => ?_)
    · have h := h.1 q7
      refine mj_e_iinc (lv' := [some (.inr (.inr (.inr ()))), some (mj_R 0), some (mj_R 21), some (mj_R 33), some (.inl (l4 + 5)), none, none, none]) d_La_law_842 rfl rfl ?_
      refine mj_r_goto (tgt := 33) d_La_law_845 (by decide) ?_
      refine mj_q_more ?_
      exact h
    · have hj2 : j = 0 ∨ j = 1 ∨ j = 2 ∨ j = 3 ∨ j = 4 ∨ j = 5 ∨ j = 6 ∨ j = 7 ∨ j = 8 ∨ j = 9 ∨ j = 10 ∨ j = 11 ∨ j = 12 := by omega
      rcases hj2 with rfl | rfl | rfl | rfl | rfl | rfl | rfl | rfl | rfl | rfl | rfl | rfl | rfl
      · refine ⟨_, 116, rfl, by decide, ?_⟩
        have h := h.2.1 (by omega)
        refine mj_r_aload_n d_La_law_116 rfl ?_
        refine mj_r_aload_nS d_La_law_117 rfl ?_
        refine mj_r_iload d_La_law_118 rfl ?_
        refine mj_r_iconst (x := 1) d_La_law_120 rfl ?_
        refine mj_r_iadd d_La_law_121 ?_
        obtain ⟨q8, h⟩ := h
        obtain ⟨q9, h⟩ := h
        obtain ⟨q10, h⟩ := h
        refine mj_r_sald d_La_law_122 q8 q9 q10 ?_
        refine mj_r_aload_nS d_La_law_123 rfl ?_
        refine mj_r_iload d_La_law_124 rfl ?_
        refine mj_r_iconst (x := 2) d_La_law_126 rfl ?_
        refine mj_r_iadd d_La_law_127 ?_
        obtain ⟨q11, h⟩ := h
        obtain ⟨q12, h⟩ := h
        obtain ⟨q13, h⟩ := h
        refine mj_r_sald d_La_law_128 q11 q12 q13 ?_
        refine mj_r_aload_nS d_La_law_129 rfl ?_
        refine mj_r_iload d_La_law_130 rfl ?_
        refine mj_r_iconst (x := 3) d_La_law_132 rfl ?_
        refine mj_r_iadd d_La_law_133 ?_
        obtain ⟨q14, h⟩ := h
        obtain ⟨q15, h⟩ := h
        obtain ⟨q16, h⟩ := h
        refine mj_r_sald d_La_law_134 q14 q15 q16 ?_
        refine mj_r_aload_n d_La_law_135 rfl ?_
        refine mj_q_SW5 d_La_law_136 h_La_rule mw_409 mw_410 rfl rfl (mj_wkX h (fun v w17 h => ?_))
        obtain ⟨x18, rfl, h⟩ := h
        refine ⟨x18, rfl, fun xs19 hx20 => ?_⟩
        have h := h xs19 hx20
        refine mj_e_istore (lv' := [some (.inr (.inr (.inr ()))), some (mj_R 0), some (mj_R 21), some (mj_R 33), some (.inl l4), some (.inl x18), none, none]) d_La_law_139 rfl rfl ?_
        refine mj_r_aload_n d_La_law_141 rfl ?_
        refine mj_r_aload_nS d_La_law_142 rfl ?_
        refine mj_r_iload d_La_law_143 rfl ?_
        refine mj_r_iconst (x := 1) d_La_law_145 rfl ?_
        refine mj_r_iadd d_La_law_146 ?_
        refine mj_r_sald d_La_law_147 q8 q9 q10 ?_
        refine mj_r_aload_nS d_La_law_148 rfl ?_
        refine mj_r_iload d_La_law_149 rfl ?_
        refine mj_r_iconst (x := 2) d_La_law_151 rfl ?_
        refine mj_r_iadd d_La_law_152 ?_
        refine mj_r_sald d_La_law_153 q11 q12 q13 ?_
        refine mj_r_aload_nS d_La_law_154 rfl ?_
        refine mj_r_iload d_La_law_155 rfl ?_
        refine mj_r_iconst (x := 3) d_La_law_157 rfl ?_
        refine mj_r_iadd d_La_law_158 ?_
        refine mj_r_sald d_La_law_159 q14 q15 q16 ?_
        refine mj_q_V3i d_La_law_160 h_Mo_rule (.inl mw_770) mw_771 mw_772 rfl rfl rfl hn rfl rfl (mj_wk h (fun v w21 h => ?_))
        obtain ⟨x22, rfl, h⟩ := h
        refine ⟨x22, rfl, ?_⟩
        refine mj_e_istore (lv' := [some (.inr (.inr (.inr ()))), some (mj_R 0), some (mj_R 21), some (mj_R 33), some (.inl l4), some (.inl x18), some (.inl x22), none]) d_La_law_163 rfl rfl ?_
        refine mj_r_aload_n d_La_law_165 rfl ?_
        refine mj_q_V0i d_La_law_166 h_Mo_thrown (.inl mw_766) mw_767 mw_768 rfl rfl rfl hn rfl rfl (mj_wk h (fun v w23 h => ?_))
        obtain ⟨x24, rfl, h⟩ := h
        refine ⟨x24, rfl, ?_⟩
        refine mj_r_iload d_La_law_169 rfl ?_
        obtain ⟨q25, h⟩ := h
        obtain ⟨q26, h⟩ := h
        refine mj_s_icmp_eq (tgt := 176) d_La_law_171 (by decide) q25 q26 (fun q27 => ?_) (fun q27 => ?_)
        · have h := h.1 q27
          refine mj_r_iload d_La_law_176 rfl ?_
          refine mj_s_if_ne (tgt := 193) d_La_law_178 (by decide) q26 (fun q28 => ?_) (fun q28 => ?_)
          · have h := h.1 q28
            refine mj_r_aload_n d_La_law_181 rfl ?_
            refine mj_r_iconst (x := 0) d_La_law_182 rfl ?_
            refine mj_q_lald d_La_law_183 rfl rfl hn rfl (by decide) (by decide) ?_
            refine mj_r_iload d_La_law_184 rfl ?_
            obtain ⟨q29, h⟩ := h
            refine mj_r_i2l d_La_law_186 q29 ?_
            obtain ⟨q30, h⟩ := h
            obtain ⟨q31, h⟩ := h
            refine mj_s_l_eq (tgt := 193) d_La_law_187 d_La_law_188 (by decide) q30 q31 (fun q32 => ?_) (fun q32 => ?_)
            · have h := h.1 q32
              refine mj_r_goto (tgt := 842) d_La_law_193 (by decide) ?_
              refine mj_e_iinc (lv' := [some (.inr (.inr (.inr ()))), some (mj_R 0), some (mj_R 21), some (mj_R 33), some (.inl (l4 + 5)), some (.inl x18), some (.inl x22), none]) d_La_law_842 rfl rfl ?_
              refine mj_r_goto (tgt := 33) d_La_law_845 (by decide) ?_
              refine mj_r_sub (lv' := [some (.inr (.inr (.inr ()))), some (mj_R 0), some (mj_R 21), some (mj_R 33), some (.inl (l4 + 5)), none, none, none]) ⟨.inr rfl, .inr rfl, .inr rfl, .inr rfl, .inr rfl, .inl rfl, .inl rfl, .inl rfl, trivial⟩ ?_
              exact h
            · have h := h.2 q32
              refine mj_r_iconst (x := 0) d_La_law_191 rfl ?_
              exact mj_r_zret d_La_law_192 rfl (by decide) (mj_q_retL h)
          · have h := h.2 q28
            refine mj_r_goto (tgt := 842) d_La_law_193 (by decide) ?_
            refine mj_e_iinc (lv' := [some (.inr (.inr (.inr ()))), some (mj_R 0), some (mj_R 21), some (mj_R 33), some (.inl (l4 + 5)), some (.inl x18), some (.inl x22), none]) d_La_law_842 rfl rfl ?_
            refine mj_r_goto (tgt := 33) d_La_law_845 (by decide) ?_
            refine mj_r_sub (lv' := [some (.inr (.inr (.inr ()))), some (mj_R 0), some (mj_R 21), some (mj_R 33), some (.inl (l4 + 5)), none, none, none]) ⟨.inr rfl, .inr rfl, .inr rfl, .inr rfl, .inr rfl, .inl rfl, .inl rfl, .inl rfl, trivial⟩ ?_
            exact h
        · have h := h.2 q27
          refine mj_r_iconst (x := 0) d_La_law_174 rfl ?_
          exact mj_r_zret d_La_law_175 rfl (by decide) (mj_q_retL h)
      · refine ⟨_, 196, rfl, by decide, ?_⟩
        have h := h.2.2.1 (by omega)
        refine mj_r_aload_n d_La_law_196 rfl ?_
        refine mj_r_aload_nS d_La_law_197 rfl ?_
        refine mj_r_iload d_La_law_198 rfl ?_
        refine mj_r_iconst (x := 1) d_La_law_200 rfl ?_
        refine mj_r_iadd d_La_law_201 ?_
        obtain ⟨q33, h⟩ := h
        obtain ⟨q34, h⟩ := h
        obtain ⟨q35, h⟩ := h
        refine mj_r_sald d_La_law_202 q33 q34 q35 ?_
        refine mj_r_aload_n d_La_law_203 rfl ?_
        refine mj_q_SW3 d_La_law_204 h_La_feed mw_517 mw_518 rfl rfl (mj_wkX h (fun v w36 h => ?_))
        obtain ⟨x37, rfl, h⟩ := h
        refine ⟨x37, rfl, fun xs38 hx39 => ?_⟩
        have h := h xs38 hx39
        refine mj_e_istore (lv' := [some (.inr (.inr (.inr ()))), some (mj_R 0), some (mj_R 21), some (mj_R 33), some (.inl l4), some (.inl x37), none, none]) d_La_law_207 rfl rfl ?_
        refine mj_r_aload_n d_La_law_209 rfl ?_
        refine mj_r_aload_nS d_La_law_210 rfl ?_
        refine mj_r_iload d_La_law_211 rfl ?_
        refine mj_r_iconst (x := 1) d_La_law_213 rfl ?_
        refine mj_r_iadd d_La_law_214 ?_
        refine mj_r_sald d_La_law_215 q33 q34 q35 ?_
        refine mj_q_V1i d_La_law_216 h_Mo_feed (.inl mw_781) mw_782 mw_783 rfl rfl rfl hn rfl rfl (mj_wk h (fun v w40 h => ?_))
        obtain ⟨x41, rfl, h⟩ := h
        refine ⟨x41, rfl, ?_⟩
        refine mj_e_istore (lv' := [some (.inr (.inr (.inr ()))), some (mj_R 0), some (mj_R 21), some (mj_R 33), some (.inl l4), some (.inl x37), some (.inl x41), none]) d_La_law_219 rfl rfl ?_
        refine mj_r_aload_n d_La_law_221 rfl ?_
        refine mj_q_V0i d_La_law_222 h_Mo_thrown (.inl mw_766) mw_767 mw_768 rfl rfl rfl hn rfl rfl (mj_wk h (fun v w42 h => ?_))
        obtain ⟨x43, rfl, h⟩ := h
        refine ⟨x43, rfl, ?_⟩
        refine mj_r_iload d_La_law_225 rfl ?_
        obtain ⟨q44, h⟩ := h
        obtain ⟨q45, h⟩ := h
        refine mj_s_icmp_eq (tgt := 232) d_La_law_227 (by decide) q44 q45 (fun q46 => ?_) (fun q46 => ?_)
        · have h := h.1 q46
          refine mj_r_iload d_La_law_232 rfl ?_
          refine mj_s_if_ne (tgt := 249) d_La_law_234 (by decide) q45 (fun q47 => ?_) (fun q47 => ?_)
          · have h := h.1 q47
            refine mj_r_aload_n d_La_law_237 rfl ?_
            refine mj_r_iconst (x := 0) d_La_law_238 rfl ?_
            refine mj_q_lald d_La_law_239 rfl rfl hn rfl (by decide) (by decide) ?_
            refine mj_r_iload d_La_law_240 rfl ?_
            obtain ⟨q48, h⟩ := h
            refine mj_r_i2l d_La_law_242 q48 ?_
            obtain ⟨q49, h⟩ := h
            obtain ⟨q50, h⟩ := h
            refine mj_s_l_eq (tgt := 249) d_La_law_243 d_La_law_244 (by decide) q49 q50 (fun q51 => ?_) (fun q51 => ?_)
            · have h := h.1 q51
              refine mj_r_goto (tgt := 842) d_La_law_249 (by decide) ?_
              refine mj_e_iinc (lv' := [some (.inr (.inr (.inr ()))), some (mj_R 0), some (mj_R 21), some (mj_R 33), some (.inl (l4 + 5)), some (.inl x37), some (.inl x41), none]) d_La_law_842 rfl rfl ?_
              refine mj_r_goto (tgt := 33) d_La_law_845 (by decide) ?_
              refine mj_r_sub (lv' := [some (.inr (.inr (.inr ()))), some (mj_R 0), some (mj_R 21), some (mj_R 33), some (.inl (l4 + 5)), none, none, none]) ⟨.inr rfl, .inr rfl, .inr rfl, .inr rfl, .inr rfl, .inl rfl, .inl rfl, .inl rfl, trivial⟩ ?_
              exact h
            · have h := h.2 q51
              refine mj_r_iconst (x := 0) d_La_law_247 rfl ?_
              exact mj_r_zret d_La_law_248 rfl (by decide) (mj_q_retL h)
          · have h := h.2 q47
            refine mj_r_goto (tgt := 842) d_La_law_249 (by decide) ?_
            refine mj_e_iinc (lv' := [some (.inr (.inr (.inr ()))), some (mj_R 0), some (mj_R 21), some (mj_R 33), some (.inl (l4 + 5)), some (.inl x37), some (.inl x41), none]) d_La_law_842 rfl rfl ?_
            refine mj_r_goto (tgt := 33) d_La_law_845 (by decide) ?_
            refine mj_r_sub (lv' := [some (.inr (.inr (.inr ()))), some (mj_R 0), some (mj_R 21), some (mj_R 33), some (.inl (l4 + 5)), none, none, none]) ⟨.inr rfl, .inr rfl, .inr rfl, .inr rfl, .inr rfl, .inl rfl, .inl rfl, .inl rfl, trivial⟩ ?_
            exact h
        · have h := h.2 q46
          refine mj_r_iconst (x := 0) d_La_law_230 rfl ?_
          exact mj_r_zret d_La_law_231 rfl (by decide) (mj_q_retL h)
      · refine ⟨_, 252, rfl, by decide, ?_⟩
        have h := h.2.2.2.1 (by omega)
        refine mj_r_aload_n d_La_law_252 rfl ?_
        refine mj_r_aload_nS d_La_law_253 rfl ?_
        refine mj_r_iload d_La_law_254 rfl ?_
        refine mj_r_iconst (x := 1) d_La_law_256 rfl ?_
        refine mj_r_iadd d_La_law_257 ?_
        obtain ⟨q52, h⟩ := h
        obtain ⟨q53, h⟩ := h
        obtain ⟨q54, h⟩ := h
        refine mj_r_sald d_La_law_258 q52 q53 q54 ?_
        refine mj_r_aload_n d_La_law_259 rfl ?_
        refine mj_q_SW3 d_La_law_260 h_La_back mw_567 mw_568 rfl rfl (mj_wkX h (fun v w55 h => ?_))
        obtain ⟨x56, rfl, h⟩ := h
        refine ⟨x56, rfl, fun xs57 hx58 => ?_⟩
        have h := h xs57 hx58
        refine mj_e_istore (lv' := [some (.inr (.inr (.inr ()))), some (mj_R 0), some (mj_R 21), some (mj_R 33), some (.inl l4), some (.inl x56), none, none]) d_La_law_263 rfl rfl ?_
        refine mj_r_aload_n d_La_law_265 rfl ?_
        refine mj_r_aload_nS d_La_law_266 rfl ?_
        refine mj_r_iload d_La_law_267 rfl ?_
        refine mj_r_iconst (x := 1) d_La_law_269 rfl ?_
        refine mj_r_iadd d_La_law_270 ?_
        refine mj_r_sald d_La_law_271 q52 q53 q54 ?_
        refine mj_q_V1i d_La_law_272 h_Mo_back (.inl mw_793) mw_794 mw_795 rfl rfl rfl hn rfl rfl (mj_wk h (fun v w59 h => ?_))
        obtain ⟨x60, rfl, h⟩ := h
        refine ⟨x60, rfl, ?_⟩
        refine mj_e_istore (lv' := [some (.inr (.inr (.inr ()))), some (mj_R 0), some (mj_R 21), some (mj_R 33), some (.inl l4), some (.inl x56), some (.inl x60), none]) d_La_law_275 rfl rfl ?_
        refine mj_r_aload_n d_La_law_277 rfl ?_
        refine mj_q_V0i d_La_law_278 h_Mo_thrown (.inl mw_766) mw_767 mw_768 rfl rfl rfl hn rfl rfl (mj_wk h (fun v w61 h => ?_))
        obtain ⟨x62, rfl, h⟩ := h
        refine ⟨x62, rfl, ?_⟩
        refine mj_r_iload d_La_law_281 rfl ?_
        obtain ⟨q63, h⟩ := h
        obtain ⟨q64, h⟩ := h
        refine mj_s_icmp_eq (tgt := 288) d_La_law_283 (by decide) q63 q64 (fun q65 => ?_) (fun q65 => ?_)
        · have h := h.1 q65
          refine mj_r_iload d_La_law_288 rfl ?_
          refine mj_s_if_ne (tgt := 305) d_La_law_290 (by decide) q64 (fun q66 => ?_) (fun q66 => ?_)
          · have h := h.1 q66
            refine mj_r_aload_n d_La_law_293 rfl ?_
            refine mj_r_iconst (x := 0) d_La_law_294 rfl ?_
            refine mj_q_lald d_La_law_295 rfl rfl hn rfl (by decide) (by decide) ?_
            refine mj_r_iload d_La_law_296 rfl ?_
            obtain ⟨q67, h⟩ := h
            refine mj_r_i2l d_La_law_298 q67 ?_
            obtain ⟨q68, h⟩ := h
            obtain ⟨q69, h⟩ := h
            refine mj_s_l_eq (tgt := 305) d_La_law_299 d_La_law_300 (by decide) q68 q69 (fun q70 => ?_) (fun q70 => ?_)
            · have h := h.1 q70
              refine mj_r_goto (tgt := 842) d_La_law_305 (by decide) ?_
              refine mj_e_iinc (lv' := [some (.inr (.inr (.inr ()))), some (mj_R 0), some (mj_R 21), some (mj_R 33), some (.inl (l4 + 5)), some (.inl x56), some (.inl x60), none]) d_La_law_842 rfl rfl ?_
              refine mj_r_goto (tgt := 33) d_La_law_845 (by decide) ?_
              refine mj_r_sub (lv' := [some (.inr (.inr (.inr ()))), some (mj_R 0), some (mj_R 21), some (mj_R 33), some (.inl (l4 + 5)), none, none, none]) ⟨.inr rfl, .inr rfl, .inr rfl, .inr rfl, .inr rfl, .inl rfl, .inl rfl, .inl rfl, trivial⟩ ?_
              exact h
            · have h := h.2 q70
              refine mj_r_iconst (x := 0) d_La_law_303 rfl ?_
              exact mj_r_zret d_La_law_304 rfl (by decide) (mj_q_retL h)
          · have h := h.2 q66
            refine mj_r_goto (tgt := 842) d_La_law_305 (by decide) ?_
            refine mj_e_iinc (lv' := [some (.inr (.inr (.inr ()))), some (mj_R 0), some (mj_R 21), some (mj_R 33), some (.inl (l4 + 5)), some (.inl x56), some (.inl x60), none]) d_La_law_842 rfl rfl ?_
            refine mj_r_goto (tgt := 33) d_La_law_845 (by decide) ?_
            refine mj_r_sub (lv' := [some (.inr (.inr (.inr ()))), some (mj_R 0), some (mj_R 21), some (mj_R 33), some (.inl (l4 + 5)), none, none, none]) ⟨.inr rfl, .inr rfl, .inr rfl, .inr rfl, .inr rfl, .inl rfl, .inl rfl, .inl rfl, trivial⟩ ?_
            exact h
        · have h := h.2 q65
          refine mj_r_iconst (x := 0) d_La_law_286 rfl ?_
          exact mj_r_zret d_La_law_287 rfl (by decide) (mj_q_retL h)
      · refine ⟨_, 308, rfl, by decide, ?_⟩
        have h := h.2.2.2.2.1 (by omega)
        refine mj_r_aload_n d_La_law_308 rfl ?_
        refine mj_q_V0i d_La_law_309 h_CF_fed (.inl mw_290) mw_291 mw_292 rfl rfl rfl hn rfl rfl (mj_wk h (fun v w71 h => ?_))
        obtain ⟨x72, rfl, h⟩ := h
        refine ⟨x72, rfl, ?_⟩
        refine mj_r_aload_n d_La_law_312 rfl ?_
        refine mj_q_V0i d_La_law_313 h_Mo_fed (.inl mw_797) mw_798 mw_799 rfl rfl rfl hn rfl rfl (mj_wk h (fun v w73 h => ?_))
        obtain ⟨x74, rfl, h⟩ := h
        refine ⟨x74, rfl, ?_⟩
        obtain ⟨q75, h⟩ := h
        obtain ⟨q76, h⟩ := h
        refine mj_s_icmp_eq (tgt := 842) d_La_law_316 (by decide) q75 q76 (fun q77 => ?_) (fun q77 => ?_)
        · have h := h.1 q77
          refine mj_e_iinc (lv' := [some (.inr (.inr (.inr ()))), some (mj_R 0), some (mj_R 21), some (mj_R 33), some (.inl (l4 + 5)), none, none, none]) d_La_law_842 rfl rfl ?_
          refine mj_r_goto (tgt := 33) d_La_law_845 (by decide) ?_
          refine mj_q_more ?_
          exact h
        · have h := h.2 q77
          refine mj_r_iconst (x := 0) d_La_law_319 rfl ?_
          exact mj_r_zret d_La_law_320 rfl (by decide) (mj_q_retL h)
      · refine ⟨_, 321, rfl, by decide, ?_⟩
        have h := h.2.2.2.2.2.1 (by omega)
        refine mj_r_aload_n d_La_law_321 rfl ?_
        refine mj_q_V0i d_La_law_322 h_CF_accepts (.inl mw_294) mw_295 mw_296 rfl rfl rfl hn rfl rfl (mj_wk h (fun v w78 h => ?_))
        obtain ⟨x79, rfl, h⟩ := h
        refine ⟨x79, rfl, ?_⟩
        refine mj_r_aload_n d_La_law_325 rfl ?_
        refine mj_q_V0i d_La_law_326 h_Mo_accepts (.inl mw_801) mw_802 mw_803 rfl rfl rfl hn rfl rfl (mj_wk h (fun v w80 h => ?_))
        obtain ⟨x81, rfl, h⟩ := h
        refine ⟨x81, rfl, ?_⟩
        obtain ⟨q82, h⟩ := h
        obtain ⟨q83, h⟩ := h
        refine mj_s_icmp_eq (tgt := 842) d_La_law_329 (by decide) q82 q83 (fun q84 => ?_) (fun q84 => ?_)
        · have h := h.1 q84
          refine mj_e_iinc (lv' := [some (.inr (.inr (.inr ()))), some (mj_R 0), some (mj_R 21), some (mj_R 33), some (.inl (l4 + 5)), none, none, none]) d_La_law_842 rfl rfl ?_
          refine mj_r_goto (tgt := 33) d_La_law_845 (by decide) ?_
          refine mj_q_more ?_
          exact h
        · have h := h.2 q84
          refine mj_r_iconst (x := 0) d_La_law_332 rfl ?_
          exact mj_r_zret d_La_law_333 rfl (by decide) (mj_q_retL h)
      · refine ⟨_, 334, rfl, by decide, ?_⟩
        have h := h.2.2.2.2.2.2.1 (by omega)
        refine mj_r_aload_n d_La_law_334 rfl ?_
        refine mj_q_V0i d_La_law_335 h_CF_expected (.inl mw_300) mw_301 mw_302 rfl rfl rfl hn rfl rfl (mj_wk h (fun v w85 h => ?_))
        obtain ⟨x86, rfl, h⟩ := h
        refine ⟨x86, rfl, ?_⟩
        refine mj_r_aload_n d_La_law_338 rfl ?_
        refine mj_q_V0i d_La_law_339 h_Mo_expected (.inl mw_809) mw_810 mw_811 rfl rfl rfl hn rfl rfl (mj_wk h (fun v w87 h => ?_))
        obtain ⟨x88, rfl, h⟩ := h
        refine ⟨x88, rfl, ?_⟩
        obtain ⟨q89, h⟩ := h
        obtain ⟨q90, h⟩ := h
        refine mj_s_icmp_eq (tgt := 842) d_La_law_342 (by decide) q89 q90 (fun q91 => ?_) (fun q91 => ?_)
        · have h := h.1 q91
          refine mj_e_iinc (lv' := [some (.inr (.inr (.inr ()))), some (mj_R 0), some (mj_R 21), some (mj_R 33), some (.inl (l4 + 5)), none, none, none]) d_La_law_842 rfl rfl ?_
          refine mj_r_goto (tgt := 33) d_La_law_845 (by decide) ?_
          refine mj_q_more ?_
          exact h
        · have h := h.2 q91
          refine mj_r_iconst (x := 0) d_La_law_345 rfl ?_
          exact mj_r_zret d_La_law_346 rfl (by decide) (mj_q_retL h)
      · refine ⟨_, 347, rfl, by decide, ?_⟩
        have h := h.2.2.2.2.2.2.2.1 (by omega)
        refine mj_r_aload_n d_La_law_347 rfl ?_
        refine mj_r_aload_nS d_La_law_348 rfl ?_
        refine mj_r_iload d_La_law_349 rfl ?_
        refine mj_r_iconst (x := 1) d_La_law_351 rfl ?_
        refine mj_r_iadd d_La_law_352 ?_
        obtain ⟨q92, h⟩ := h
        obtain ⟨q93, h⟩ := h
        obtain ⟨q94, h⟩ := h
        refine mj_r_sald d_La_law_353 q92 q93 q94 ?_
        refine mj_r_aload_n d_La_law_354 rfl ?_
        refine mj_q_SW3 d_La_law_355 h_La_items mw_574 mw_575 rfl rfl (mj_wkX h (fun v w95 h => ?_))
        obtain ⟨x96, rfl, h⟩ := h
        refine ⟨x96, rfl, fun xs97 hx98 => ?_⟩
        have h := h xs97 hx98
        refine mj_e_istore (lv' := [some (.inr (.inr (.inr ()))), some (mj_R 0), some (mj_R 21), some (mj_R 33), some (.inl l4), some (.inl x96), none, none]) d_La_law_358 rfl rfl ?_
        refine mj_r_aload_n d_La_law_360 rfl ?_
        refine mj_r_aload_nS d_La_law_361 rfl ?_
        refine mj_r_iload d_La_law_362 rfl ?_
        refine mj_r_iconst (x := 1) d_La_law_364 rfl ?_
        refine mj_r_iadd d_La_law_365 ?_
        refine mj_r_sald d_La_law_366 q92 q93 q94 ?_
        refine mj_q_V1i d_La_law_367 h_Mo_items (.inl mw_813) mw_814 mw_815 rfl rfl rfl hn rfl rfl (mj_wk h (fun v w99 h => ?_))
        obtain ⟨x100, rfl, h⟩ := h
        refine ⟨x100, rfl, ?_⟩
        refine mj_e_istore (lv' := [some (.inr (.inr (.inr ()))), some (mj_R 0), some (mj_R 21), some (mj_R 33), some (.inl l4), some (.inl x96), some (.inl x100), none]) d_La_law_370 rfl rfl ?_
        refine mj_r_aload_n d_La_law_372 rfl ?_
        refine mj_q_V0i d_La_law_373 h_Mo_thrown (.inl mw_766) mw_767 mw_768 rfl rfl rfl hn rfl rfl (mj_wk h (fun v w101 h => ?_))
        obtain ⟨x102, rfl, h⟩ := h
        refine ⟨x102, rfl, ?_⟩
        refine mj_r_iload d_La_law_376 rfl ?_
        obtain ⟨q103, h⟩ := h
        obtain ⟨q104, h⟩ := h
        refine mj_s_icmp_eq (tgt := 383) d_La_law_378 (by decide) q103 q104 (fun q105 => ?_) (fun q105 => ?_)
        · have h := h.1 q105
          refine mj_r_iload d_La_law_383 rfl ?_
          refine mj_s_if_ne (tgt := 400) d_La_law_385 (by decide) q104 (fun q106 => ?_) (fun q106 => ?_)
          · have h := h.1 q106
            refine mj_r_aload_n d_La_law_388 rfl ?_
            refine mj_r_iconst (x := 0) d_La_law_389 rfl ?_
            refine mj_q_lald d_La_law_390 rfl rfl hn rfl (by decide) (by decide) ?_
            refine mj_r_iload d_La_law_391 rfl ?_
            obtain ⟨q107, h⟩ := h
            refine mj_r_i2l d_La_law_393 q107 ?_
            obtain ⟨q108, h⟩ := h
            obtain ⟨q109, h⟩ := h
            refine mj_s_l_eq (tgt := 400) d_La_law_394 d_La_law_395 (by decide) q108 q109 (fun q110 => ?_) (fun q110 => ?_)
            · have h := h.1 q110
              refine mj_r_goto (tgt := 842) d_La_law_400 (by decide) ?_
              refine mj_e_iinc (lv' := [some (.inr (.inr (.inr ()))), some (mj_R 0), some (mj_R 21), some (mj_R 33), some (.inl (l4 + 5)), some (.inl x96), some (.inl x100), none]) d_La_law_842 rfl rfl ?_
              refine mj_r_goto (tgt := 33) d_La_law_845 (by decide) ?_
              refine mj_r_sub (lv' := [some (.inr (.inr (.inr ()))), some (mj_R 0), some (mj_R 21), some (mj_R 33), some (.inl (l4 + 5)), none, none, none]) ⟨.inr rfl, .inr rfl, .inr rfl, .inr rfl, .inr rfl, .inl rfl, .inl rfl, .inl rfl, trivial⟩ ?_
              exact h
            · have h := h.2 q110
              refine mj_r_iconst (x := 0) d_La_law_398 rfl ?_
              exact mj_r_zret d_La_law_399 rfl (by decide) (mj_q_retL h)
          · have h := h.2 q106
            refine mj_r_goto (tgt := 842) d_La_law_400 (by decide) ?_
            refine mj_e_iinc (lv' := [some (.inr (.inr (.inr ()))), some (mj_R 0), some (mj_R 21), some (mj_R 33), some (.inl (l4 + 5)), some (.inl x96), some (.inl x100), none]) d_La_law_842 rfl rfl ?_
            refine mj_r_goto (tgt := 33) d_La_law_845 (by decide) ?_
            refine mj_r_sub (lv' := [some (.inr (.inr (.inr ()))), some (mj_R 0), some (mj_R 21), some (mj_R 33), some (.inl (l4 + 5)), none, none, none]) ⟨.inr rfl, .inr rfl, .inr rfl, .inr rfl, .inr rfl, .inl rfl, .inl rfl, .inl rfl, trivial⟩ ?_
            exact h
        · have h := h.2 q105
          refine mj_r_iconst (x := 0) d_La_law_381 rfl ?_
          exact mj_r_zret d_La_law_382 rfl (by decide) (mj_q_retL h)
      · refine ⟨_, 403, rfl, by decide, ?_⟩
        have h := h.2.2.2.2.2.2.2.2.1 (by omega)
        refine mj_r_aload_n d_La_law_403 rfl ?_
        refine mj_r_aload_nS d_La_law_404 rfl ?_
        refine mj_r_iload d_La_law_405 rfl ?_
        refine mj_r_iconst (x := 1) d_La_law_407 rfl ?_
        refine mj_r_iadd d_La_law_408 ?_
        obtain ⟨q111, h⟩ := h
        obtain ⟨q112, h⟩ := h
        obtain ⟨q113, h⟩ := h
        refine mj_r_sald d_La_law_409 q111 q112 q113 ?_
        refine mj_r_aload_nS d_La_law_410 rfl ?_
        refine mj_r_iload d_La_law_411 rfl ?_
        refine mj_r_iconst (x := 2) d_La_law_413 rfl ?_
        refine mj_r_iadd d_La_law_414 ?_
        obtain ⟨q114, h⟩ := h
        obtain ⟨q115, h⟩ := h
        obtain ⟨q116, h⟩ := h
        refine mj_r_sald d_La_law_415 q114 q115 q116 ?_
        refine mj_r_aload_nS d_La_law_416 rfl ?_
        refine mj_r_iload d_La_law_417 rfl ?_
        refine mj_r_iconst (x := 3) d_La_law_419 rfl ?_
        refine mj_r_iadd d_La_law_420 ?_
        obtain ⟨q117, h⟩ := h
        obtain ⟨q118, h⟩ := h
        obtain ⟨q119, h⟩ := h
        refine mj_r_sald d_La_law_421 q117 q118 q119 ?_
        refine mj_r_aload_nS d_La_law_422 rfl ?_
        refine mj_r_iload d_La_law_423 rfl ?_
        refine mj_r_iconst (x := 4) d_La_law_425 rfl ?_
        refine mj_r_iadd d_La_law_426 ?_
        obtain ⟨q120, h⟩ := h
        obtain ⟨q121, h⟩ := h
        obtain ⟨q122, h⟩ := h
        refine mj_r_sald d_La_law_427 q120 q121 q122 ?_
        refine mj_r_aload_n d_La_law_428 rfl ?_
        refine mj_q_SW6 d_La_law_429 h_La_has mw_601 mw_602 rfl rfl (mj_wkX h (fun v w123 h => ?_))
        obtain ⟨x124, rfl, h⟩ := h
        refine ⟨x124, rfl, fun xs125 hx126 => ?_⟩
        have h := h xs125 hx126
        refine mj_e_istore (lv' := [some (.inr (.inr (.inr ()))), some (mj_R 0), some (mj_R 21), some (mj_R 33), some (.inl l4), some (.inl x124), none, none]) d_La_law_432 rfl rfl ?_
        refine mj_r_aload_n d_La_law_434 rfl ?_
        refine mj_r_aload_nS d_La_law_435 rfl ?_
        refine mj_r_iload d_La_law_436 rfl ?_
        refine mj_r_iconst (x := 1) d_La_law_438 rfl ?_
        refine mj_r_iadd d_La_law_439 ?_
        refine mj_r_sald d_La_law_440 q111 q112 q113 ?_
        refine mj_r_aload_nS d_La_law_441 rfl ?_
        refine mj_r_iload d_La_law_442 rfl ?_
        refine mj_r_iconst (x := 2) d_La_law_444 rfl ?_
        refine mj_r_iadd d_La_law_445 ?_
        refine mj_r_sald d_La_law_446 q114 q115 q116 ?_
        refine mj_r_aload_nS d_La_law_447 rfl ?_
        refine mj_r_iload d_La_law_448 rfl ?_
        refine mj_r_iconst (x := 3) d_La_law_450 rfl ?_
        refine mj_r_iadd d_La_law_451 ?_
        refine mj_r_sald d_La_law_452 q117 q118 q119 ?_
        refine mj_r_aload_nS d_La_law_453 rfl ?_
        refine mj_r_iload d_La_law_454 rfl ?_
        refine mj_r_iconst (x := 4) d_La_law_456 rfl ?_
        refine mj_r_iadd d_La_law_457 ?_
        refine mj_r_sald d_La_law_458 q120 q121 q122 ?_
        refine mj_q_V4i d_La_law_459 h_Mo_has (.inl mw_821) mw_822 mw_823 rfl rfl rfl hn rfl rfl (mj_wk h (fun v w127 h => ?_))
        obtain ⟨x128, rfl, h⟩ := h
        refine ⟨x128, rfl, ?_⟩
        refine mj_e_istore (lv' := [some (.inr (.inr (.inr ()))), some (mj_R 0), some (mj_R 21), some (mj_R 33), some (.inl l4), some (.inl x124), some (.inl x128), none]) d_La_law_462 rfl rfl ?_
        refine mj_r_aload_n d_La_law_464 rfl ?_
        refine mj_q_V0i d_La_law_465 h_Mo_thrown (.inl mw_766) mw_767 mw_768 rfl rfl rfl hn rfl rfl (mj_wk h (fun v w129 h => ?_))
        obtain ⟨x130, rfl, h⟩ := h
        refine ⟨x130, rfl, ?_⟩
        refine mj_r_iload d_La_law_468 rfl ?_
        obtain ⟨q131, h⟩ := h
        obtain ⟨q132, h⟩ := h
        refine mj_s_icmp_eq (tgt := 475) d_La_law_470 (by decide) q131 q132 (fun q133 => ?_) (fun q133 => ?_)
        · have h := h.1 q133
          refine mj_r_iload d_La_law_475 rfl ?_
          refine mj_s_if_ne (tgt := 499) d_La_law_477 (by decide) q132 (fun q134 => ?_) (fun q134 => ?_)
          · have h := h.1 q134
            refine mj_r_aload_n d_La_law_480 rfl ?_
            refine mj_r_iconst (x := 0) d_La_law_481 rfl ?_
            refine mj_q_lald d_La_law_482 rfl rfl hn rfl (by decide) (by decide) ?_
            refine mj_r_iload d_La_law_483 rfl ?_
            obtain ⟨q135, h⟩ := h
            refine mj_s_if_eq (tgt := 492) d_La_law_485 (by decide) q135 (fun q136 => ?_) (fun q136 => ?_)
            · have h := h.1 q136
              refine mj_r_lconst (x := 0) d_La_law_492 rfl ?_
              obtain ⟨q137, h⟩ := h
              refine mj_s_l_eq (tgt := 499) d_La_law_493 d_La_law_494 (by decide) q137 (mj_lk (by decide)) (fun q138 => ?_) (fun q138 => ?_)
              · have h := h.1 q138
                refine mj_r_goto (tgt := 842) d_La_law_499 (by decide) ?_
                refine mj_e_iinc (lv' := [some (.inr (.inr (.inr ()))), some (mj_R 0), some (mj_R 21), some (mj_R 33), some (.inl (l4 + 5)), some (.inl x124), some (.inl x128), none]) d_La_law_842 rfl rfl ?_
                refine mj_r_goto (tgt := 33) d_La_law_845 (by decide) ?_
                refine mj_r_sub (lv' := [some (.inr (.inr (.inr ()))), some (mj_R 0), some (mj_R 21), some (mj_R 33), some (.inl (l4 + 5)), none, none, none]) ⟨.inr rfl, .inr rfl, .inr rfl, .inr rfl, .inr rfl, .inl rfl, .inl rfl, .inl rfl, trivial⟩ ?_
                exact h
              · have h := h.2 q138
                refine mj_r_iconst (x := 0) d_La_law_497 rfl ?_
                exact mj_r_zret d_La_law_498 rfl (by decide) (mj_q_retL h)
            · have h := h.2 q136
              refine mj_r_lconst (x := 1) d_La_law_488 rfl ?_
              refine mj_r_goto (tgt := 493) d_La_law_489 (by decide) ?_
              obtain ⟨q139, h⟩ := h
              refine mj_s_l_eq (tgt := 499) d_La_law_493 d_La_law_494 (by decide) q139 (mj_lk (by decide)) (fun q140 => ?_) (fun q140 => ?_)
              · have h := h.1 q140
                refine mj_r_goto (tgt := 842) d_La_law_499 (by decide) ?_
                refine mj_e_iinc (lv' := [some (.inr (.inr (.inr ()))), some (mj_R 0), some (mj_R 21), some (mj_R 33), some (.inl (l4 + 5)), some (.inl x124), some (.inl x128), none]) d_La_law_842 rfl rfl ?_
                refine mj_r_goto (tgt := 33) d_La_law_845 (by decide) ?_
                refine mj_r_sub (lv' := [some (.inr (.inr (.inr ()))), some (mj_R 0), some (mj_R 21), some (mj_R 33), some (.inl (l4 + 5)), none, none, none]) ⟨.inr rfl, .inr rfl, .inr rfl, .inr rfl, .inr rfl, .inl rfl, .inl rfl, .inl rfl, trivial⟩ ?_
                exact h
              · have h := h.2 q140
                refine mj_r_iconst (x := 0) d_La_law_497 rfl ?_
                exact mj_r_zret d_La_law_498 rfl (by decide) (mj_q_retL h)
          · have h := h.2 q134
            refine mj_r_goto (tgt := 842) d_La_law_499 (by decide) ?_
            refine mj_e_iinc (lv' := [some (.inr (.inr (.inr ()))), some (mj_R 0), some (mj_R 21), some (mj_R 33), some (.inl (l4 + 5)), some (.inl x124), some (.inl x128), none]) d_La_law_842 rfl rfl ?_
            refine mj_r_goto (tgt := 33) d_La_law_845 (by decide) ?_
            refine mj_r_sub (lv' := [some (.inr (.inr (.inr ()))), some (mj_R 0), some (mj_R 21), some (mj_R 33), some (.inl (l4 + 5)), none, none, none]) ⟨.inr rfl, .inr rfl, .inr rfl, .inr rfl, .inr rfl, .inl rfl, .inl rfl, .inl rfl, trivial⟩ ?_
            exact h
        · have h := h.2 q133
          refine mj_r_iconst (x := 0) d_La_law_473 rfl ?_
          exact mj_r_zret d_La_law_474 rfl (by decide) (mj_q_retL h)
      · refine ⟨_, 502, rfl, by decide, ?_⟩
        have h := h.2.2.2.2.2.2.2.2.2.1 (by omega)
        refine mj_r_aload_n d_La_law_502 rfl ?_
        refine mj_r_aload_nS d_La_law_503 rfl ?_
        refine mj_r_iload d_La_law_504 rfl ?_
        refine mj_r_iconst (x := 1) d_La_law_506 rfl ?_
        refine mj_r_iadd d_La_law_507 ?_
        obtain ⟨q141, h⟩ := h
        obtain ⟨q142, h⟩ := h
        obtain ⟨q143, h⟩ := h
        refine mj_r_sald d_La_law_508 q141 q142 q143 ?_
        refine mj_r_aload_nS d_La_law_509 rfl ?_
        refine mj_r_iload d_La_law_510 rfl ?_
        refine mj_r_iconst (x := 2) d_La_law_512 rfl ?_
        refine mj_r_iadd d_La_law_513 ?_
        obtain ⟨q144, h⟩ := h
        obtain ⟨q145, h⟩ := h
        obtain ⟨q146, h⟩ := h
        refine mj_r_sald d_La_law_514 q144 q145 q146 ?_
        refine mj_r_aload_n d_La_law_515 rfl ?_
        refine mj_q_SW4 d_La_law_516 h_La_leap mw_608 mw_609 rfl rfl (mj_wkX h (fun v w147 h => ?_))
        obtain ⟨x148, rfl, h⟩ := h
        refine ⟨x148, rfl, fun xs149 hx150 => ?_⟩
        have h := h xs149 hx150
        refine mj_e_istore (lv' := [some (.inr (.inr (.inr ()))), some (mj_R 0), some (mj_R 21), some (mj_R 33), some (.inl l4), some (.inl x148), none, none]) d_La_law_519 rfl rfl ?_
        refine mj_r_aload_n d_La_law_521 rfl ?_
        refine mj_r_aload_nS d_La_law_522 rfl ?_
        refine mj_r_iload d_La_law_523 rfl ?_
        refine mj_r_iconst (x := 1) d_La_law_525 rfl ?_
        refine mj_r_iadd d_La_law_526 ?_
        refine mj_r_sald d_La_law_527 q141 q142 q143 ?_
        refine mj_r_aload_nS d_La_law_528 rfl ?_
        refine mj_r_iload d_La_law_529 rfl ?_
        refine mj_r_iconst (x := 2) d_La_law_531 rfl ?_
        refine mj_r_iadd d_La_law_532 ?_
        refine mj_r_sald d_La_law_533 q144 q145 q146 ?_
        refine mj_q_V2i d_La_law_534 h_Mo_leap (.inl mw_825) mw_826 mw_827 rfl rfl rfl hn rfl rfl (mj_wk h (fun v w151 h => ?_))
        obtain ⟨x152, rfl, h⟩ := h
        refine ⟨x152, rfl, ?_⟩
        refine mj_e_istore (lv' := [some (.inr (.inr (.inr ()))), some (mj_R 0), some (mj_R 21), some (mj_R 33), some (.inl l4), some (.inl x148), some (.inl x152), none]) d_La_law_537 rfl rfl ?_
        refine mj_r_aload_n d_La_law_539 rfl ?_
        refine mj_q_V0i d_La_law_540 h_Mo_thrown (.inl mw_766) mw_767 mw_768 rfl rfl rfl hn rfl rfl (mj_wk h (fun v w153 h => ?_))
        obtain ⟨x154, rfl, h⟩ := h
        refine ⟨x154, rfl, ?_⟩
        refine mj_r_iload d_La_law_543 rfl ?_
        obtain ⟨q155, h⟩ := h
        obtain ⟨q156, h⟩ := h
        refine mj_s_icmp_eq (tgt := 550) d_La_law_545 (by decide) q155 q156 (fun q157 => ?_) (fun q157 => ?_)
        · have h := h.1 q157
          refine mj_r_iload d_La_law_550 rfl ?_
          refine mj_s_if_ne (tgt := 567) d_La_law_552 (by decide) q156 (fun q158 => ?_) (fun q158 => ?_)
          · have h := h.1 q158
            refine mj_r_aload_n d_La_law_555 rfl ?_
            refine mj_r_iconst (x := 0) d_La_law_556 rfl ?_
            refine mj_q_lald d_La_law_557 rfl rfl hn rfl (by decide) (by decide) ?_
            refine mj_r_iload d_La_law_558 rfl ?_
            obtain ⟨q159, h⟩ := h
            refine mj_r_i2l d_La_law_560 q159 ?_
            obtain ⟨q160, h⟩ := h
            obtain ⟨q161, h⟩ := h
            refine mj_s_l_eq (tgt := 567) d_La_law_561 d_La_law_562 (by decide) q160 q161 (fun q162 => ?_) (fun q162 => ?_)
            · have h := h.1 q162
              refine mj_r_goto (tgt := 842) d_La_law_567 (by decide) ?_
              refine mj_e_iinc (lv' := [some (.inr (.inr (.inr ()))), some (mj_R 0), some (mj_R 21), some (mj_R 33), some (.inl (l4 + 5)), some (.inl x148), some (.inl x152), none]) d_La_law_842 rfl rfl ?_
              refine mj_r_goto (tgt := 33) d_La_law_845 (by decide) ?_
              refine mj_r_sub (lv' := [some (.inr (.inr (.inr ()))), some (mj_R 0), some (mj_R 21), some (mj_R 33), some (.inl (l4 + 5)), none, none, none]) ⟨.inr rfl, .inr rfl, .inr rfl, .inr rfl, .inr rfl, .inl rfl, .inl rfl, .inl rfl, trivial⟩ ?_
              exact h
            · have h := h.2 q162
              refine mj_r_iconst (x := 0) d_La_law_565 rfl ?_
              exact mj_r_zret d_La_law_566 rfl (by decide) (mj_q_retL h)
          · have h := h.2 q158
            refine mj_r_goto (tgt := 842) d_La_law_567 (by decide) ?_
            refine mj_e_iinc (lv' := [some (.inr (.inr (.inr ()))), some (mj_R 0), some (mj_R 21), some (mj_R 33), some (.inl (l4 + 5)), some (.inl x148), some (.inl x152), none]) d_La_law_842 rfl rfl ?_
            refine mj_r_goto (tgt := 33) d_La_law_845 (by decide) ?_
            refine mj_r_sub (lv' := [some (.inr (.inr (.inr ()))), some (mj_R 0), some (mj_R 21), some (mj_R 33), some (.inl (l4 + 5)), none, none, none]) ⟨.inr rfl, .inr rfl, .inr rfl, .inr rfl, .inr rfl, .inl rfl, .inl rfl, .inl rfl, trivial⟩ ?_
            exact h
        · have h := h.2 q157
          refine mj_r_iconst (x := 0) d_La_law_548 rfl ?_
          exact mj_r_zret d_La_law_549 rfl (by decide) (mj_q_retL h)
      · refine ⟨_, 570, rfl, by decide, ?_⟩
        have h := h.2.2.2.2.2.2.2.2.2.2.1 (by omega)
        refine mj_r_aload_n d_La_law_570 rfl ?_
        refine mj_r_aload_nS d_La_law_571 rfl ?_
        refine mj_r_iload d_La_law_572 rfl ?_
        refine mj_r_iconst (x := 1) d_La_law_574 rfl ?_
        refine mj_r_iadd d_La_law_575 ?_
        obtain ⟨q163, h⟩ := h
        obtain ⟨q164, h⟩ := h
        obtain ⟨q165, h⟩ := h
        refine mj_r_sald d_La_law_576 q163 q164 q165 ?_
        refine mj_r_aload_nS d_La_law_577 rfl ?_
        refine mj_r_iload d_La_law_578 rfl ?_
        refine mj_r_iconst (x := 2) d_La_law_580 rfl ?_
        refine mj_r_iadd d_La_law_581 ?_
        obtain ⟨q166, h⟩ := h
        obtain ⟨q167, h⟩ := h
        obtain ⟨q168, h⟩ := h
        refine mj_r_sald d_La_law_582 q166 q167 q168 ?_
        refine mj_r_aload_nS d_La_law_583 rfl ?_
        refine mj_r_iload d_La_law_584 rfl ?_
        refine mj_r_iconst (x := 3) d_La_law_586 rfl ?_
        refine mj_r_iadd d_La_law_587 ?_
        obtain ⟨q169, h⟩ := h
        obtain ⟨q170, h⟩ := h
        obtain ⟨q171, h⟩ := h
        refine mj_r_sald d_La_law_588 q169 q170 q171 ?_
        refine mj_r_aload_n d_La_law_589 rfl ?_
        refine mj_q_SW5 d_La_law_590 h_La_ways mw_619 mw_620 rfl rfl (mj_wkX h (fun v w172 h => ?_))
        obtain ⟨x173, rfl, h⟩ := h
        refine ⟨x173, rfl, fun xs174 hx175 => ?_⟩
        have h := h xs174 hx175
        refine mj_e_istore (lv' := [some (.inr (.inr (.inr ()))), some (mj_R 0), some (mj_R 21), some (mj_R 33), some (.inl l4), some (.inl x173), none, none]) d_La_law_593 rfl rfl ?_
        refine mj_r_aload_n d_La_law_595 rfl ?_
        refine mj_r_aload_nS d_La_law_596 rfl ?_
        refine mj_r_iload d_La_law_597 rfl ?_
        refine mj_r_iconst (x := 1) d_La_law_599 rfl ?_
        refine mj_r_iadd d_La_law_600 ?_
        refine mj_r_sald d_La_law_601 q163 q164 q165 ?_
        refine mj_r_aload_nS d_La_law_602 rfl ?_
        refine mj_r_iload d_La_law_603 rfl ?_
        refine mj_r_iconst (x := 2) d_La_law_605 rfl ?_
        refine mj_r_iadd d_La_law_606 ?_
        refine mj_r_sald d_La_law_607 q166 q167 q168 ?_
        refine mj_r_aload_nS d_La_law_608 rfl ?_
        refine mj_r_iload d_La_law_609 rfl ?_
        refine mj_r_iconst (x := 3) d_La_law_611 rfl ?_
        refine mj_r_iadd d_La_law_612 ?_
        refine mj_r_sald d_La_law_613 q169 q170 q171 ?_
        refine mj_q_V3i d_La_law_614 h_Mo_ways (.inl mw_829) mw_830 mw_831 rfl rfl rfl hn rfl rfl (mj_wk h (fun v w176 h => ?_))
        obtain ⟨x177, rfl, h⟩ := h
        refine ⟨x177, rfl, ?_⟩
        refine mj_e_istore (lv' := [some (.inr (.inr (.inr ()))), some (mj_R 0), some (mj_R 21), some (mj_R 33), some (.inl l4), some (.inl x173), some (.inl x177), none]) d_La_law_617 rfl rfl ?_
        refine mj_r_aload_n d_La_law_619 rfl ?_
        refine mj_q_V0i d_La_law_620 h_Mo_thrown (.inl mw_766) mw_767 mw_768 rfl rfl rfl hn rfl rfl (mj_wk h (fun v w178 h => ?_))
        obtain ⟨x179, rfl, h⟩ := h
        refine ⟨x179, rfl, ?_⟩
        refine mj_r_iload d_La_law_623 rfl ?_
        obtain ⟨q180, h⟩ := h
        obtain ⟨q181, h⟩ := h
        refine mj_s_icmp_eq (tgt := 630) d_La_law_625 (by decide) q180 q181 (fun q182 => ?_) (fun q182 => ?_)
        · have h := h.1 q182
          refine mj_r_iload d_La_law_630 rfl ?_
          refine mj_s_if_ne (tgt := 647) d_La_law_632 (by decide) q181 (fun q183 => ?_) (fun q183 => ?_)
          · have h := h.1 q183
            refine mj_r_aload_n d_La_law_635 rfl ?_
            refine mj_r_iconst (x := 0) d_La_law_636 rfl ?_
            refine mj_q_lald d_La_law_637 rfl rfl hn rfl (by decide) (by decide) ?_
            refine mj_r_iload d_La_law_638 rfl ?_
            obtain ⟨q184, h⟩ := h
            refine mj_r_i2l d_La_law_640 q184 ?_
            obtain ⟨q185, h⟩ := h
            obtain ⟨q186, h⟩ := h
            refine mj_s_l_eq (tgt := 647) d_La_law_641 d_La_law_642 (by decide) q185 q186 (fun q187 => ?_) (fun q187 => ?_)
            · have h := h.1 q187
              refine mj_r_goto (tgt := 842) d_La_law_647 (by decide) ?_
              refine mj_e_iinc (lv' := [some (.inr (.inr (.inr ()))), some (mj_R 0), some (mj_R 21), some (mj_R 33), some (.inl (l4 + 5)), some (.inl x173), some (.inl x177), none]) d_La_law_842 rfl rfl ?_
              refine mj_r_goto (tgt := 33) d_La_law_845 (by decide) ?_
              refine mj_r_sub (lv' := [some (.inr (.inr (.inr ()))), some (mj_R 0), some (mj_R 21), some (mj_R 33), some (.inl (l4 + 5)), none, none, none]) ⟨.inr rfl, .inr rfl, .inr rfl, .inr rfl, .inr rfl, .inl rfl, .inl rfl, .inl rfl, trivial⟩ ?_
              exact h
            · have h := h.2 q187
              refine mj_r_iconst (x := 0) d_La_law_645 rfl ?_
              exact mj_r_zret d_La_law_646 rfl (by decide) (mj_q_retL h)
          · have h := h.2 q183
            refine mj_r_goto (tgt := 842) d_La_law_647 (by decide) ?_
            refine mj_e_iinc (lv' := [some (.inr (.inr (.inr ()))), some (mj_R 0), some (mj_R 21), some (mj_R 33), some (.inl (l4 + 5)), some (.inl x173), some (.inl x177), none]) d_La_law_842 rfl rfl ?_
            refine mj_r_goto (tgt := 33) d_La_law_845 (by decide) ?_
            refine mj_r_sub (lv' := [some (.inr (.inr (.inr ()))), some (mj_R 0), some (mj_R 21), some (mj_R 33), some (.inl (l4 + 5)), none, none, none]) ⟨.inr rfl, .inr rfl, .inr rfl, .inr rfl, .inr rfl, .inl rfl, .inl rfl, .inl rfl, trivial⟩ ?_
            exact h
        · have h := h.2 q182
          refine mj_r_iconst (x := 0) d_La_law_628 rfl ?_
          exact mj_r_zret d_La_law_629 rfl (by decide) (mj_q_retL h)
      · refine ⟨_, 650, rfl, by decide, ?_⟩
        have h := h.2.2.2.2.2.2.2.2.2.2.2.1 (by omega)
        refine mj_r_aload_n d_La_law_650 rfl ?_
        refine mj_r_aload_nS d_La_law_651 rfl ?_
        refine mj_r_iload d_La_law_652 rfl ?_
        refine mj_r_iconst (x := 1) d_La_law_654 rfl ?_
        refine mj_r_iadd d_La_law_655 ?_
        obtain ⟨q188, h⟩ := h
        obtain ⟨q189, h⟩ := h
        obtain ⟨q190, h⟩ := h
        refine mj_r_sald d_La_law_656 q188 q189 q190 ?_
        refine mj_r_aload_nS d_La_law_657 rfl ?_
        refine mj_r_iload d_La_law_658 rfl ?_
        refine mj_r_iconst (x := 2) d_La_law_660 rfl ?_
        refine mj_r_iadd d_La_law_661 ?_
        obtain ⟨q191, h⟩ := h
        obtain ⟨q192, h⟩ := h
        obtain ⟨q193, h⟩ := h
        refine mj_r_sald d_La_law_662 q191 q192 q193 ?_
        refine mj_r_aload_nS d_La_law_663 rfl ?_
        refine mj_r_iload d_La_law_664 rfl ?_
        refine mj_r_iconst (x := 3) d_La_law_666 rfl ?_
        refine mj_r_iadd d_La_law_667 ?_
        obtain ⟨q194, h⟩ := h
        obtain ⟨q195, h⟩ := h
        obtain ⟨q196, h⟩ := h
        refine mj_r_sald d_La_law_668 q194 q195 q196 ?_
        refine mj_r_aload_n d_La_law_669 rfl ?_
        refine mj_q_SW5 d_La_law_670 h_La_trees mw_634 mw_635 rfl rfl (mj_wkX h (fun v w197 h => ?_))
        obtain ⟨x198, rfl, h⟩ := h
        refine ⟨x198, rfl, fun xs199 hx200 => ?_⟩
        have h := h xs199 hx200
        refine mj_e_istore (lv' := [some (.inr (.inr (.inr ()))), some (mj_R 0), some (mj_R 21), some (mj_R 33), some (.inl l4), some (.inl x198), none, none]) d_La_law_673 rfl rfl ?_
        refine mj_r_aload_n d_La_law_675 rfl ?_
        refine mj_r_aload_nS d_La_law_676 rfl ?_
        refine mj_r_iload d_La_law_677 rfl ?_
        refine mj_r_iconst (x := 1) d_La_law_679 rfl ?_
        refine mj_r_iadd d_La_law_680 ?_
        refine mj_r_sald d_La_law_681 q188 q189 q190 ?_
        refine mj_r_aload_nS d_La_law_682 rfl ?_
        refine mj_r_iload d_La_law_683 rfl ?_
        refine mj_r_iconst (x := 2) d_La_law_685 rfl ?_
        refine mj_r_iadd d_La_law_686 ?_
        refine mj_r_sald d_La_law_687 q191 q192 q193 ?_
        refine mj_r_aload_nS d_La_law_688 rfl ?_
        refine mj_r_iload d_La_law_689 rfl ?_
        refine mj_r_iconst (x := 3) d_La_law_691 rfl ?_
        refine mj_r_iadd d_La_law_692 ?_
        refine mj_r_sald d_La_law_693 q194 q195 q196 ?_
        refine mj_q_V3l d_La_law_694 h_Mo_trees (.inl mw_885) mw_886 mw_887 rfl rfl rfl hn rfl rfl (mj_wk h (fun v w201 h => ?_))
        obtain ⟨x202, rfl, h⟩ := h
        refine ⟨x202, rfl, ?_⟩
        refine mj_e_lstore (lv' := [some (.inr (.inr (.inr ()))), some (mj_R 0), some (mj_R 21), some (mj_R 33), some (.inl l4), some (.inl x198), some (.inr (.inl x202)), none]) d_La_law_697 rfl rfl ?_
        refine mj_r_aload_n d_La_law_699 rfl ?_
        refine mj_q_V0i d_La_law_700 h_Mo_thrown (.inl mw_766) mw_767 mw_768 rfl rfl rfl hn rfl rfl (mj_wk h (fun v w203 h => ?_))
        obtain ⟨x204, rfl, h⟩ := h
        refine ⟨x204, rfl, ?_⟩
        refine mj_r_iload d_La_law_703 rfl ?_
        obtain ⟨q205, h⟩ := h
        obtain ⟨q206, h⟩ := h
        refine mj_s_icmp_eq (tgt := 710) d_La_law_705 (by decide) q205 q206 (fun q207 => ?_) (fun q207 => ?_)
        · have h := h.1 q207
          refine mj_r_iload d_La_law_710 rfl ?_
          refine mj_s_if_ne (tgt := 726) d_La_law_712 (by decide) q206 (fun q208 => ?_) (fun q208 => ?_)
          · have h := h.1 q208
            refine mj_r_aload_n d_La_law_715 rfl ?_
            refine mj_r_iconst (x := 0) d_La_law_716 rfl ?_
            refine mj_q_lald d_La_law_717 rfl rfl hn rfl (by decide) (by decide) ?_
            refine mj_r_lload d_La_law_718 rfl ?_
            obtain ⟨q209, h⟩ := h
            obtain ⟨q210, h⟩ := h
            refine mj_s_l_eq (tgt := 726) d_La_law_720 d_La_law_721 (by decide) q209 q210 (fun q211 => ?_) (fun q211 => ?_)
            · have h := h.1 q211
              refine mj_r_goto (tgt := 842) d_La_law_726 (by decide) ?_
              refine mj_e_iinc (lv' := [some (.inr (.inr (.inr ()))), some (mj_R 0), some (mj_R 21), some (mj_R 33), some (.inl (l4 + 5)), some (.inl x198), some (.inr (.inl x202)), none]) d_La_law_842 rfl rfl ?_
              refine mj_r_goto (tgt := 33) d_La_law_845 (by decide) ?_
              refine mj_r_sub (lv' := [some (.inr (.inr (.inr ()))), some (mj_R 0), some (mj_R 21), some (mj_R 33), some (.inl (l4 + 5)), none, none, none]) ⟨.inr rfl, .inr rfl, .inr rfl, .inr rfl, .inr rfl, .inl rfl, .inl rfl, .inl rfl, trivial⟩ ?_
              exact h
            · have h := h.2 q211
              refine mj_r_iconst (x := 0) d_La_law_724 rfl ?_
              exact mj_r_zret d_La_law_725 rfl (by decide) (mj_q_retL h)
          · have h := h.2 q208
            refine mj_r_goto (tgt := 842) d_La_law_726 (by decide) ?_
            refine mj_e_iinc (lv' := [some (.inr (.inr (.inr ()))), some (mj_R 0), some (mj_R 21), some (mj_R 33), some (.inl (l4 + 5)), some (.inl x198), some (.inr (.inl x202)), none]) d_La_law_842 rfl rfl ?_
            refine mj_r_goto (tgt := 33) d_La_law_845 (by decide) ?_
            refine mj_r_sub (lv' := [some (.inr (.inr (.inr ()))), some (mj_R 0), some (mj_R 21), some (mj_R 33), some (.inl (l4 + 5)), none, none, none]) ⟨.inr rfl, .inr rfl, .inr rfl, .inr rfl, .inr rfl, .inl rfl, .inl rfl, .inl rfl, trivial⟩ ?_
            exact h
        · have h := h.2 q207
          refine mj_r_iconst (x := 0) d_La_law_708 rfl ?_
          exact mj_r_zret d_La_law_709 rfl (by decide) (mj_q_retL h)
      · refine ⟨_, 729, rfl, by decide, ?_⟩
        have h := h.2.2.2.2.2.2.2.2.2.2.2.2.1 (by omega)
        refine mj_r_aload_n d_La_law_729 rfl ?_
        refine mj_q_V0i d_La_law_730 h_CF_nodes (.inl mw_314) mw_315 mw_316 rfl rfl rfl hn rfl rfl (mj_wk h (fun v w212 h => ?_))
        obtain ⟨x213, rfl, h⟩ := h
        refine ⟨x213, rfl, ?_⟩
        refine mj_r_aload_n d_La_law_733 rfl ?_
        refine mj_q_V0i d_La_law_734 h_Mo_nodes (.inl mw_893) mw_894 mw_895 rfl rfl rfl hn rfl rfl (mj_wk h (fun v w214 h => ?_))
        obtain ⟨x215, rfl, h⟩ := h
        refine ⟨x215, rfl, ?_⟩
        obtain ⟨q216, h⟩ := h
        obtain ⟨q217, h⟩ := h
        refine mj_s_icmp_eq (tgt := 842) d_La_law_737 (by decide) q216 q217 (fun q218 => ?_) (fun q218 => ?_)
        · have h := h.1 q218
          refine mj_e_iinc (lv' := [some (.inr (.inr (.inr ()))), some (mj_R 0), some (mj_R 21), some (mj_R 33), some (.inl (l4 + 5)), none, none, none]) d_La_law_842 rfl rfl ?_
          refine mj_r_goto (tgt := 33) d_La_law_845 (by decide) ?_
          refine mj_q_more ?_
          exact h
        · have h := h.2 q218
          refine mj_r_iconst (x := 0) d_La_law_740 rfl ?_
          exact mj_r_zret d_La_law_741 rfl (by decide) (mj_q_retL h)
      · refine ⟨_, 742, rfl, by decide, ?_⟩
        have h := h.2.2.2.2.2.2.2.2.2.2.2.2.2 (by omega)
        refine mj_r_aload_n d_La_law_742 rfl ?_
        refine mj_r_aload_nS d_La_law_743 rfl ?_
        refine mj_r_iload d_La_law_744 rfl ?_
        refine mj_r_iconst (x := 1) d_La_law_746 rfl ?_
        refine mj_r_iadd d_La_law_747 ?_
        obtain ⟨q219, h⟩ := h
        obtain ⟨q220, h⟩ := h
        obtain ⟨q221, h⟩ := h
        refine mj_r_sald d_La_law_748 q219 q220 q221 ?_
        obtain ⟨q222, h⟩ := h
        refine mj_r_i2l d_La_law_749 q222 ?_
        refine mj_r_bipush (x := 32) d_La_law_750 (by decide) ?_
        refine mj_r_lshl d_La_law_752 ?_
        refine mj_r_aload_nS d_La_law_753 rfl ?_
        refine mj_r_iload d_La_law_754 rfl ?_
        refine mj_r_iconst (x := 2) d_La_law_756 rfl ?_
        refine mj_r_iadd d_La_law_757 ?_
        obtain ⟨q223, h⟩ := h
        obtain ⟨q224, h⟩ := h
        obtain ⟨q225, h⟩ := h
        refine mj_r_sald d_La_law_758 q223 q224 q225 ?_
        obtain ⟨q226, h⟩ := h
        refine mj_r_i2l d_La_law_759 q226 ?_
        refine mj_r_ldc2v (x := 4294967295) d_La_law_760 mw_921 (by decide) ?_
        refine mj_r_land d_La_law_763 ?_
        refine mj_r_lor d_La_law_764 ?_
        refine mj_r_aload_nS d_La_law_765 rfl ?_
        refine mj_r_iload d_La_law_766 rfl ?_
        refine mj_r_iconst (x := 3) d_La_law_768 rfl ?_
        refine mj_r_iadd d_La_law_769 ?_
        obtain ⟨q227, h⟩ := h
        obtain ⟨q228, h⟩ := h
        obtain ⟨q229, h⟩ := h
        refine mj_r_sald d_La_law_770 q227 q228 q229 ?_
        refine mj_r_aload_n d_La_law_771 rfl ?_
        refine mj_q_SW4 d_La_law_772 h_La_tree mw_642 mw_643 rfl rfl (mj_wkX h (fun v w230 h => ?_))
        obtain ⟨x231, rfl, h⟩ := h
        refine ⟨x231, rfl, fun xs232 hx233 => ?_⟩
        have h := h xs232 hx233
        refine mj_e_istore (lv' := [some (.inr (.inr (.inr ()))), some (mj_R 0), some (mj_R 21), some (mj_R 33), some (.inl l4), some (.inl x231), none, none]) d_La_law_775 rfl rfl ?_
        refine mj_r_aload_n d_La_law_777 rfl ?_
        refine mj_r_aload_nS d_La_law_778 rfl ?_
        refine mj_r_iload d_La_law_779 rfl ?_
        refine mj_r_iconst (x := 1) d_La_law_781 rfl ?_
        refine mj_r_iadd d_La_law_782 ?_
        refine mj_r_sald d_La_law_783 q219 q220 q221 ?_
        refine mj_r_i2l d_La_law_784 q222 ?_
        refine mj_r_bipush (x := 32) d_La_law_785 (by decide) ?_
        refine mj_r_lshl d_La_law_787 ?_
        refine mj_r_aload_nS d_La_law_788 rfl ?_
        refine mj_r_iload d_La_law_789 rfl ?_
        refine mj_r_iconst (x := 2) d_La_law_791 rfl ?_
        refine mj_r_iadd d_La_law_792 ?_
        refine mj_r_sald d_La_law_793 q223 q224 q225 ?_
        refine mj_r_i2l d_La_law_794 q226 ?_
        refine mj_r_ldc2v (x := 4294967295) d_La_law_795 mw_921 (by decide) ?_
        refine mj_r_land d_La_law_798 ?_
        refine mj_r_lor d_La_law_799 ?_
        refine mj_r_aload_nS d_La_law_800 rfl ?_
        refine mj_r_iload d_La_law_801 rfl ?_
        refine mj_r_iconst (x := 3) d_La_law_803 rfl ?_
        refine mj_r_iadd d_La_law_804 ?_
        refine mj_r_sald d_La_law_805 q227 q228 q229 ?_
        refine mj_q_V2i d_La_law_806 h_Mo_tree (.inl mw_905) mw_906 mw_907 rfl rfl rfl hn rfl rfl (mj_wk h (fun v w234 h => ?_))
        obtain ⟨x235, rfl, h⟩ := h
        refine ⟨x235, rfl, ?_⟩
        refine mj_e_istore (lv' := [some (.inr (.inr (.inr ()))), some (mj_R 0), some (mj_R 21), some (mj_R 33), some (.inl l4), some (.inl x231), some (.inl x235), none]) d_La_law_809 rfl rfl ?_
        refine mj_r_aload_n d_La_law_811 rfl ?_
        refine mj_q_V0i d_La_law_812 h_Mo_thrown (.inl mw_766) mw_767 mw_768 rfl rfl rfl hn rfl rfl (mj_wk h (fun v w236 h => ?_))
        obtain ⟨x237, rfl, h⟩ := h
        refine ⟨x237, rfl, ?_⟩
        refine mj_r_iload d_La_law_815 rfl ?_
        obtain ⟨q238, h⟩ := h
        obtain ⟨q239, h⟩ := h
        refine mj_s_icmp_eq (tgt := 822) d_La_law_817 (by decide) q238 q239 (fun q240 => ?_) (fun q240 => ?_)
        · have h := h.1 q240
          refine mj_r_iload d_La_law_822 rfl ?_
          refine mj_s_if_ne (tgt := 839) d_La_law_824 (by decide) q239 (fun q241 => ?_) (fun q241 => ?_)
          · have h := h.1 q241
            refine mj_r_aload_n d_La_law_827 rfl ?_
            refine mj_r_iconst (x := 0) d_La_law_828 rfl ?_
            refine mj_q_lald d_La_law_829 rfl rfl hn rfl (by decide) (by decide) ?_
            refine mj_r_iload d_La_law_830 rfl ?_
            obtain ⟨q242, h⟩ := h
            refine mj_r_i2l d_La_law_832 q242 ?_
            obtain ⟨q243, h⟩ := h
            obtain ⟨q244, h⟩ := h
            refine mj_s_l_eq (tgt := 839) d_La_law_833 d_La_law_834 (by decide) q243 q244 (fun q245 => ?_) (fun q245 => ?_)
            · have h := h.1 q245
              refine mj_r_goto (tgt := 842) d_La_law_839 (by decide) ?_
              refine mj_e_iinc (lv' := [some (.inr (.inr (.inr ()))), some (mj_R 0), some (mj_R 21), some (mj_R 33), some (.inl (l4 + 5)), some (.inl x231), some (.inl x235), none]) d_La_law_842 rfl rfl ?_
              refine mj_r_goto (tgt := 33) d_La_law_845 (by decide) ?_
              refine mj_r_sub (lv' := [some (.inr (.inr (.inr ()))), some (mj_R 0), some (mj_R 21), some (mj_R 33), some (.inl (l4 + 5)), none, none, none]) ⟨.inr rfl, .inr rfl, .inr rfl, .inr rfl, .inr rfl, .inl rfl, .inl rfl, .inl rfl, trivial⟩ ?_
              exact h
            · have h := h.2 q245
              refine mj_r_iconst (x := 0) d_La_law_837 rfl ?_
              exact mj_r_zret d_La_law_838 rfl (by decide) (mj_q_retL h)
          · have h := h.2 q241
            refine mj_r_goto (tgt := 842) d_La_law_839 (by decide) ?_
            refine mj_e_iinc (lv' := [some (.inr (.inr (.inr ()))), some (mj_R 0), some (mj_R 21), some (mj_R 33), some (.inl (l4 + 5)), some (.inl x231), some (.inl x235), none]) d_La_law_842 rfl rfl ?_
            refine mj_r_goto (tgt := 33) d_La_law_845 (by decide) ?_
            refine mj_r_sub (lv' := [some (.inr (.inr (.inr ()))), some (mj_R 0), some (mj_R 21), some (mj_R 33), some (.inl (l4 + 5)), none, none, none]) ⟨.inr rfl, .inr rfl, .inr rfl, .inr rfl, .inr rfl, .inl rfl, .inl rfl, .inl rfl, trivial⟩ ?_
            exact h
        · have h := h.2 q240
          refine mj_r_iconst (x := 0) d_La_law_820 rfl ?_
          exact mj_r_zret d_La_law_821 rfl (by decide) (mj_q_retL h)
