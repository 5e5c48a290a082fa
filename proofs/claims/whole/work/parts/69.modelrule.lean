/-! ===== the reference: rule ===== -/
section C69
variable {g : mj_G} {nn d : Nat} {xs : mj_M} {Post : Option mj_V → mj_w → Prop} {w : mj_w}
theorem c_M_rule_128 (hn : 33 ≤ nn) {l n b c : Int} (n0 : 0 ≤ n) (n3 : n ≤ 3) (hb : 0 ≤ b ∧ b < 4096) (hc : w 21 2 0 = c) (c0 : 0 ≤ c) (c1 : c < 10)
    (h : ∀ w', (∀ (p : Nat) (a e : Int), ¬ (p = 21 ∧ a = 2 ∧ e = 0) → p ≠ 24 → w' p a e = w p a e) → w' 21 2 0 = c + 1 → (∀ k : Int, 0 ≤ k → k < n → w' 24 (3 * c + k) 0 = mj_sy b k) → (∀ s : Int, (s < 3 * c ∨ 3 * c + n ≤ s) → w' 24 s 0 = w 24 s 0) →
      mj_J g y_Mo_makeSet d 0 0 (0, [some (mj_R 21), some (.inl 0), none, none], [], mj_mem nn xs w') (mj_P nn xs (fun v w10 => v = none ∧ (Post (some (.inl ((w10 21 2 0) - 1))) w10)))) :
    ∀ (m : Nat) (k : Int) (w1 : mj_w), 0 ≤ k → k ≤ n → (n - k).toNat = m → (∀ (p : Nat) (a e : Int), p ≠ 24 → w1 p a e = w p a e) → (∀ j : Int, 0 ≤ j → j < k → w1 24 (3 * c + j) 0 = mj_sy b j) → (∀ s : Int, (s < 3 * c ∨ 3 * c + k ≤ s) → w1 24 s 0 = w 24 s 0) →
    mj_J g y_Mo_rule (d + 1) 0 0 (128, [some (mj_R 21), some (.inl l), some (.inl n), some (.inl b), some (.inl k), none], [], mj_mem nn xs w1) (mj_P nn xs Post) := by
  intro m
  induction m with
  | zero =>
    intro k w1 k0 k1 hm f1 f2 f3
    have ek : k = n := by omega
    subst ek
    have e2 : w1 21 2 0 = c := (f1 21 2 0 (by decide)).trans hc
    refine v_Mo_rule_128 hn ⟨⟨by omega, by omega⟩, ⟨by omega, by omega⟩, fun q => by omega, fun _ => ?_⟩
    rintro w8 rfl
    refine h _ (fun p a e z1 z2 => (mj_wu_n z1).trans (f1 p a e z2)) ?_ (fun j j0 j1 => (mj_wu_n (fun z => by cases z.1)).trans (f2 j j0 j1)) (fun s hs => (mj_wu_n (fun z => by cases z.1)).trans (f3 s hs))
    rw [e2]; unfold mj_wu; simp
  | succ m ih =>
    intro k w1 k0 k1 hm f1 f2 f3
    have e2 : w1 21 2 0 = c := (f1 21 2 0 (by decide)).trans hc
    refine v_Mo_rule_128 hn ⟨⟨by omega, by omega⟩, ⟨by omega, by omega⟩, fun q => ⟨by omega, by omega, ?_⟩, fun q => by omega⟩
    rintro w6 rfl
    rw [e2, mj_shr_ush hb.1 hb.2 k0 (by omega)]
    refine ih (k + 1) _ (by omega) (by omega) (by omega) (fun p a e z => (mj_wu_n (fun y => z y.1)).trans (f1 p a e z)) (fun j j0 j1 => ?_) (fun s hs => (mj_wu_n (fun z => by omega)).trans (f3 s (by omega)))
    by_cases e : j = k
    · rw [e]; unfold mj_wu mj_sy; simp
    · exact (mj_wu_n (fun z => by omega)).trans (f2 j j0 (by omega))
theorem c_M_rule_38 (hn : 33 ≤ nn) {l n b : Int} (n0 : 0 ≤ n) (n3 : n ≤ 3) (hb : 0 ≤ b ∧ b < 4096) (hz : mj_ush b (4 * n) = 0) {w1 : mj_w} (rf : mm_rf 0 w w1)
    (h1 : ¬ mj_body n b → ∀ w', mm_rf 1 w w' → Post (some (.inl 0)) w')
    (h : mj_body n b → mj_J g y_Mo_rule (d + 1) 0 0 (38, [some (mj_R 21), some (.inl l), some (.inl n), some (.inl b), some (.inl n), none], [], mj_mem nn xs w1) (mj_P nn xs Post)) :
    ∀ (m : Nat) (k : Int), 0 ≤ k → k ≤ n → (n - k).toNat = m → (∀ j : Int, 0 ≤ j → j < k → mj_okS (mj_sy b j)) →
    mj_J g y_Mo_rule (d + 1) 0 0 (38, [some (mj_R 21), some (.inl l), some (.inl n), some (.inl b), some (.inl k), none], [], mj_mem nn xs w1) (mj_P nn xs Post) := by
  intro m
  induction m with
  | zero =>
    intro k k0 k1 hm hk
    have ek : k = n := by omega
    subst ek
    exact h ⟨n0, n3, hk, hz⟩
  | succ m ih =>
    intro k k0 k1 hm hk
    have nxt : mj_okS (mj_sy b k) → mj_J g y_Mo_rule (d + 1) 0 0 (38, [some (mj_R 21), some (.inl l), some (.inl n), some (.inl b), some (.inl (k + 1)), none], [], mj_mem nn xs w1) (mj_P nn xs Post) := fun z =>
      ih (k + 1) (by omega) (by omega) (by omega) (fun j j0 j1 => by
        by_cases e : j = k
        · subst e; exact z
        · exact hk j j0 (by omega))
    refine v_Mo_rule_38 hn ⟨⟨by omega, by omega⟩, ⟨by omega, by omega⟩, fun q => ?_, fun q => by omega⟩
    rw [mj_shr_ush hb.1 hb.2 k0 (by omega)]
    have tt : ¬ (0 ≤ mj_and (mj_ush b (4 * k)) 15 ∧ mj_and (mj_ush b (4 * k)) 15 < 5) → mj_J g y_Mo_isTerminal d 0 0 (0, [some (.inl (mj_and (mj_ush b (4 * k)) 15))], [], mj_mem nn xs w1) (mj_P nn xs (fun v w8 => ∃ x9 : Int, v = some (.inl x9) ∧ (mj_i x9 ∧ (x9 = 0 → (mj_J g y_Mo_refuse d 0 0 (0, [some (mj_R 21), some (.inl 1)], [], mj_mem nn xs w8) (mj_P nn xs (fun v w12 => ∃ x13 : Int, v = some (.inl x13) ∧ (Post (some (.inl x13)) w12))))) ∧ (¬ x9 = 0 → (mj_J g y_Mo_rule (d + 1) 0 0 (38, [some (mj_R 21), some (.inl l), some (.inl n), some (.inl b), some (.inl (k + 1)), none], [], mj_mem nn xs w8) (mj_P nn xs Post)))))) := fun z0 => by
      have no : ¬ (8 ≤ mj_and (mj_ush b (4 * k)) 15 ∧ mj_and (mj_ush b (4 * k)) 15 ≤ 11) → mj_J g y_Mo_refuse d 0 0 (0, [some (mj_R 21), some (.inl 1)], [], mj_mem nn xs w1) (mj_P nn xs (fun v w12 => ∃ x13 : Int, v = some (.inl x13) ∧ (Post (some (.inl x13)) w12))) := fun z1 => c_M_refuse hn rf (fun w' r' => ⟨_, rfl, h1 (fun z => by
        rcases z.2.2.1 k k0 q with z | z
        · exact z0 z
        · exact z1 z) w' r'⟩)
      exact v_Mo_isTerminal_0 hn ⟨mj_and_i _ _, fun q1 => ⟨_, rfl, ⟨by decide, by decide⟩, fun _ => no (by omega), fun z => absurd rfl z⟩, fun q1 => ⟨fun q2 => ⟨_, rfl, ⟨by decide, by decide⟩, fun _ => no (by omega), fun z => absurd rfl z⟩, fun q2 => ⟨_, rfl, ⟨by decide, by decide⟩, fun z => absurd z (by decide), fun _ => nxt (Or.inr (by unfold mj_sy; omega))⟩⟩⟩
    exact v_Mo_isNonterminal_0 hn ⟨mj_and_i _ _, fun q1 => ⟨_, rfl, ⟨by decide, by decide⟩, fun _ => tt (by omega), fun z => absurd rfl z⟩, fun q1 => ⟨fun q2 => ⟨_, rfl, ⟨by decide, by decide⟩, fun _ => tt (by omega), fun z => absurd rfl z⟩, fun q2 => ⟨_, rfl, ⟨by decide, by decide⟩, fun z => absurd z (by decide), fun _ => nxt (Or.inl (by unfold mj_sy; omega))⟩⟩⟩
theorem c_M_rule (hn : 33 ≤ nn) {l n b : Int} (hl : mj_i l) (hni : mj_i n) (hbi : mj_i b) (hC : mm_CI (w 21 6 0) w)
    (h1 : ¬ ((0 ≤ l ∧ l < 5) ∧ mj_body n b) → ∀ w', mm_rf 1 w w' → Post (some (.inl 0)) w')
    (h2 : (0 ≤ l ∧ l < 5) → mj_body n b → (w 21 2 0 = 10 ∨ 0 < w 21 6 0) → ∀ w', mm_rf 2 w w' → Post (some (.inl 0)) w')
    (h : (0 ≤ l ∧ l < 5) → mj_body n b → w 21 2 0 < 10 → w 21 6 0 = 0 → ∀ w', (∀ (p : Nat) (a e : Int), ¬ (p = 21 ∧ (a = 1 ∨ a = 2 ∨ a = 9) ∧ e = 0) → p ≠ 22 → p ≠ 23 → p ≠ 24 → p ≠ 26 → w' p a e = w p a e) → w' 21 1 0 = 0 → w' 21 9 0 = 0 → mm_gram w w' l n b → mm_CI 0 w' → Post (some (.inl (w 21 2 0))) w') :
    mj_J g y_Mo_rule (d + 6) 0 0 (0, [some (mj_R 21), some (.inl l), some (.inl n), some (.inl b), none, none], [], mj_mem nn xs w) (mj_P nn xs Post) := by
  have hlen := hC.2.1
  have hcnt := hC.1.1
  refine v_Mo_rule_0 (d := d + 5) hn ?_
  rintro w1 rfl
  have rf := mm_rf_wu w 0
  have e6 := rf.e6
  have e2 : mj_wu w 21 1 0 0 21 2 0 = w 21 2 0 := mj_wu_n (fun z => by have := z.2.1; omega)
  have no : ¬ ((0 ≤ l ∧ l < 5) ∧ mj_body n b) → mj_J g y_Mo_refuse (d + 5) 0 0 (0, [some (mj_R 21), some (.inl 1)], [], mj_mem nn xs (mj_wu w 21 1 0 0)) (mj_P nn xs (fun v w13 => ∃ x14 : Int, v = some (.inl x14) ∧ Post (some (.inl x14)) w13)) := fun q => c_M_refuse hn rf (fun w' r' => ⟨_, rfl, h1 q w' r'⟩)
  refine v_Mo_isNonterminal_0 hn ⟨hl, fun q => ⟨_, rfl, ⟨by decide, by decide⟩, fun _ => no (by omega), fun z => absurd rfl z⟩, fun q => ⟨fun q1 => ⟨_, rfl, ⟨by decide, by decide⟩, fun _ => no (by omega), fun z => absurd rfl z⟩, fun q1 => ⟨_, rfl, ⟨by decide, by decide⟩, fun z => absurd z (by decide), fun _ => ⟨hni, fun q2 => no (fun z => by have := z.2.1; omega), fun q2 => ⟨fun q3 => no (fun z => by have := z.2.2.1; omega), fun q3 => ⟨mj_ush_i _ _, fun q4 => ?_, fun q4 => no (fun z => q4 z.2.2.2.2)⟩⟩⟩⟩⟩⟩
  have ql : 0 ≤ l ∧ l < 5 := by omega
  have hb := mj_ush0 hbi (by omega) (by omega) q4
  refine c_M_rule_38 hn (by omega) (by omega) hb q4 rf (fun z => h1 (fun y => z y.2)) (fun hbody => ?_) _ 0 (Int.le_refl _) (by omega) rfl (fun j a b => by omega)
  refine v_Mo_rule_38 (d := d + 5) hn ⟨⟨by omega, by omega⟩, ⟨by omega, by omega⟩, fun z => absurd z (Int.lt_irrefl _), fun _ => ?_⟩
  rw [e2, e6]
  refine ⟨⟨by omega, by omega⟩, fun q5 => c_M_refuse hn rf (fun w' r' => ⟨_, rfl, h2 ql hbody (Or.inl q5) w' r'⟩), fun q5 => ⟨⟨by omega, by omega⟩, fun q6 => c_M_refuse hn rf (fun w' r' => ⟨_, rfl, h2 ql hbody (Or.inr q6) w' r'⟩), fun q6 => ⟨by omega, by omega, ?_⟩⟩⟩
  rintro w24 rfl
  have e2a : mj_wu (mj_wu w 21 1 0 0) 22 (w 21 2 0) 0 l 21 2 0 = w 21 2 0 := (mj_wu_n (fun z => by cases z.1)).trans e2
  rw [e2a]
  refine ⟨by omega, by omega, ?_⟩
  rintro w28 rfl
  have e2b : mj_wu (mj_wu (mj_wu w 21 1 0 0) 22 (w 21 2 0) 0 l) 23 (w 21 2 0) 0 n 21 2 0 = w 21 2 0 := (mj_wu_n (fun z => by cases z.1)).trans e2a
  refine c_M_rule_128 (w := mj_wu (mj_wu (mj_wu w 21 1 0 0) 22 (w 21 2 0) 0 l) 23 (w 21 2 0) 0 n) (c := w 21 2 0) hn (by omega) (by omega) hb e2b (by omega) (by omega) (fun w' f1 f2 f3 f4 => ?_) _ 0 _ (Int.le_refl _) (by omega) rfl (fun _ _ _ _ => rfl) (fun j a b => by omega) (fun _ _ => rfl)
  have en : ∀ (p : Nat) (a e : Int), ¬ (p = 21 ∧ (a = 1 ∨ a = 2) ∧ e = 0) → ¬ (p = 22 ∧ a = w 21 2 0 ∧ e = 0) → ¬ (p = 23 ∧ a = w 21 2 0 ∧ e = 0) → p ≠ 24 → w' p a e = w p a e := fun p a e z1 z2 z3 z4 => (f1 p a e (fun y => z1 ⟨y.1, Or.inr y.2.1, y.2.2⟩) z4).trans ((mj_wu_n z3).trans ((mj_wu_n z2).trans (mj_wu_n (fun y => z1 ⟨y.1, Or.inl y.2.1, y.2.2⟩))))
  have gr : mm_gram w w' l n b := by
    refine ⟨f2, ?_, fun a ha => en 22 a 0 (fun z => by cases z.1) (fun z => ha z.2.1) (fun z => by cases z.1) (by decide), ?_, fun a ha => en 23 a 0 (fun z => by cases z.1) (fun z => by cases z.1) (fun z => ha z.2.1) (by decide), f3, fun s hs => (f4 s hs).trans ?_⟩
    · refine (f1 22 _ 0 (fun z => by cases z.1) (by decide)).trans ((mj_wu_n (fun z => by cases z.1)).trans ?_)
      unfold mj_wu; simp
    · refine (f1 23 _ 0 (fun z => by cases z.1) (by decide)).trans ?_
      unfold mj_wu; simp
    · exact (mj_wu_n (fun z => by cases z.1)).trans ((mj_wu_n (fun z => by cases z.1)).trans (mj_wu_n (fun z => by cases z.1)))
  have e26 : ∀ a b, w' 26 a b = w 26 a b := fun a b => en 26 a b (fun z => by cases z.1) (fun z => by cases z.1) (fun z => by cases z.1) (by decide)
  have G' : mm_GI w' := gr.GI hC.1 hbody ql (by omega) (en 21 0 0 (fun z => by omega) (fun z => by cases z.1) (fun z => by cases z.1) (by decide)) (fun a => e26 a 0)
  refine c_M_makeSet (d := d) hn (Int.le_refl _) (by decide) G' (fun z => absurd z (by decide)) (fun z => absurd z (by decide)) (fun w2 fr z9 C2 => ⟨rfl, ?_⟩)
  have ft : ∀ (p : Nat) (a e : Int), p ≠ 26 → ¬ (p = 21 ∧ a = 9 ∧ e = 0) → w2 p a e = w' p a e := fun p a e z1 z2 => fr p a e (fun y => z1 y.1) z2
  rw [ft 21 2 0 (by decide) (fun z => by have := z.2.1; omega), f2, show w 21 2 0 + 1 - 1 = w 21 2 0 by omega]
  refine h ql hbody (by omega) (by omega) w2 (fun p a e z1 z22 z23 z24 z26 => (ft p a e z26 (fun y => z1 ⟨y.1, Or.inr (Or.inr y.2.1), y.2.2⟩)).trans (en p a e (fun y => z1 ⟨y.1, by omega, y.2.2⟩) (fun y => z22 y.1) (fun y => z23 y.1) z24)) ?_ z9 ?_ C2
  · refine (ft 21 1 0 (by decide) (fun z => by have := z.2.1; omega)).trans ((f1 21 1 0 (fun z => by have := z.2.1; omega) (by decide)).trans ((mj_wu_n (fun z => by cases z.1)).trans ((mj_wu_n (fun z => by cases z.1)).trans ?_)))
    unfold mj_wu; simp
  · obtain ⟨g1, g2, g3, g4, g5, g6, g7⟩ := gr
    have t2 := ft 21 2 0 (by decide) (fun z => by have := z.2.1; omega)
    have t22 := fun a => ft 22 a 0 (by decide) (fun z => by cases z.1)
    have t23 := fun a => ft 23 a 0 (by decide) (fun z => by cases z.1)
    have t24 := fun a => ft 24 a 0 (by decide) (fun z => by cases z.1)
    exact ⟨t2.trans g1, (t22 _).trans g2, fun a ha => (t22 a).trans (g3 a ha), (t23 _).trans g4, fun a ha => (t23 a).trans (g5 a ha), fun k k0 k1 => (t24 _).trans (g6 k k0 k1), fun s hs => (t24 s).trans (g7 s hs)⟩
end C69
