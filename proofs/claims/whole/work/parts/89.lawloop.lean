/-! ===== the law: its loop, its start ===== -/
theorem mL_i32 (x : Int32) : mj_i x.toInt := ⟨Int32.le_toInt x, Int32.toInt_lt x⟩
theorem mL_i64 (x : Int64) : mj_l x.toInt := ⟨Int64.le_toInt x, Int64.toInt_lt x⟩
theorem mL_loop {g : mj_G} {nn d A B : Nat} (hn : 34 ≤ nn) (hlen : g.2.2.2.2.1 ≤ 2561) : ∀ (m : Nat) (l4 : Int) (xs : mj_M) (w : mj_w) (n : Int), 0 ≤ l4 → l4 ≤ 3000 → (g.2.2.2.2.1 : Int) - l4 < 5 * ((m : Int) + 1) → mL n w →
    mj_J g y_La_law (d + 8) (1 + (m + A)) (6 + (6 * m + B)) (33, [some (.inr (.inr (.inr ()))), some (mj_R 0), some (mj_R 21), some (mj_R 33), some (.inl l4), none, none, none], [], mj_mem nn xs w) (mj_PL (fun x => x = 1)) := by
  intro m
  induction m with
  | zero =>
    intro l4 xs w n l0 l1 hm hL
    exact v_La_law_33 (kc := 0 + A) (ks := 6 * 0 + B) hn ⟨⟨by omega, by omega⟩, ⟨by omega, by omega⟩, fun _ => rfl, fun q => by omega⟩
  | succ m ih =>
    intro l4 xs w n l0 l1 hm hL
    have hK : ¬ ((g.2.2.2.2.1 : Int) - 5 < l4) → ∀ (xs' : mj_M) (w' : mj_w) (n' : Int), mL n' w' → mj_J g y_La_law (d + 8) (m + 1 + A) (6 * (m + 1) + B) (33, [some (.inr (.inr (.inr ()))), some (mj_R 0), some (mj_R 21), some (mj_R 33), some (.inl (l4 + 5)), none, none, none], [], mj_mem nn xs' w') (mj_PL (fun x => x = 1)) := fun q xs' w' n' hL' => by
      have := ih (l4 + 5) xs' w' n' (by omega) (by omega) (by omega) hL'
      rw [show m + 1 + A = 1 + (m + A) by omega, show 6 * (m + 1) + B = 6 + (6 * m + B) by omega]
      exact this
    refine v_La_law_33 (kc := m + 1 + A) (ks := 6 * (m + 1) + B) hn ⟨⟨by omega, by omega⟩, ⟨by omega, by omega⟩, fun _ => rfl, fun q => ⟨l0, by omega, mL_i32 _, fun _ => hK q xs w n hL, fun _ => ?_, fun _ => ?_, fun _ => ?_, fun _ => ?_, fun _ => ?_, fun _ => ?_, fun _ => ?_, fun _ => ?_, fun _ => ?_, fun _ => ?_, fun _ => ?_, fun _ => ?_, fun _ => ?_⟩⟩
    · exact ⟨⟨by omega, by omega⟩, by omega, by omega, ⟨by omega, by omega⟩, by omega, by omega, ⟨by omega, by omega⟩, by omega, by omega, L_rule hn hL (mL_i32 _) (mL_i32 _) (mL_i32 _) (hK q)⟩
    · exact ⟨⟨by omega, by omega⟩, by omega, by omega, L_feed hn hL (mL_i32 _) (hK q)⟩
    · exact ⟨⟨by omega, by omega⟩, by omega, by omega, L_back hn hL (mL_i32 _) (hK q)⟩
    · exact L_fed hn hL (hK q)
    · exact L_accepts hn hL (hK q)
    · exact L_expected hn hL (hK q)
    · exact ⟨⟨by omega, by omega⟩, by omega, by omega, L_items hn hL (mL_i32 _) (hK q)⟩
    · exact ⟨⟨by omega, by omega⟩, by omega, by omega, ⟨by omega, by omega⟩, by omega, by omega, ⟨by omega, by omega⟩, by omega, by omega, ⟨by omega, by omega⟩, by omega, by omega, L_has hn hL (mL_i32 _) (mL_i32 _) (mL_i32 _) (mL_i32 _) (hK q)⟩
    · exact ⟨⟨by omega, by omega⟩, by omega, by omega, ⟨by omega, by omega⟩, by omega, by omega, L_leap hn hL (mL_i32 _) (mL_i32 _) (hK q)⟩
    · exact ⟨⟨by omega, by omega⟩, by omega, by omega, ⟨by omega, by omega⟩, by omega, by omega, ⟨by omega, by omega⟩, by omega, by omega, L_ways hn hL (mL_i32 _) (mL_i32 _) (mL_i32 _) (hK q)⟩
    · exact ⟨⟨by omega, by omega⟩, by omega, by omega, ⟨by omega, by omega⟩, by omega, by omega, ⟨by omega, by omega⟩, by omega, by omega, L_trees hn hL (mL_i32 _) (mL_i32 _) (mL_i32 _) (hK q)⟩
    · exact L_nodes hn hL (hK q)
    · exact ⟨⟨by omega, by omega⟩, by omega, by omega, mL_i32 _, ⟨by omega, by omega⟩, by omega, by omega, mL_i32 _, ⟨by omega, by omega⟩, by omega, by omega, L_tree hn hL (mL_i64 _) (mL_i32 _) (hK q)⟩
/-- the class as it is made -/
theorem mL_GI0 (lp : Int) : mj_GI (mj_w0 lp) := by
  refine ⟨by show (0 : Int) ≤ 0 ∧ (0 : Int) ≤ 10; decide, fun r _ _ => by show (0 : Int) ≤ 0 ∧ (0 : Int) < 5; decide, fun s s0 s1 => ?_⟩
  have e : mj_w0 lp 3 s 0 = if s = 0 then 0 else if 0 < s ∧ s < 44 then -1 else 0 := rfl
  rw [e]
  by_cases q : s = 0
  · rw [if_pos q]
    exact ⟨by decide, by decide, Or.inl (by decide), fun z => by omega⟩
  · rw [if_neg q, if_pos (by omega)]
    exact ⟨by decide, by decide, Or.inl (by decide), fun _ => rfl⟩
/-- both as they are made -/
theorem mL_start {lp : Int} (hlp : lp = 0 ∨ lp = 1) {w1 w2 : mj_w} (f1 : mj_fr 0 (mj_w0 lp) w1) (C1 : mj_CI 0 w1) (f2 : mm_fr 0 (mj_w1 w1 lp) w2) (e9 : w2 21 9 0 = 0) (C2 : mm_CI 0 w2) : mL 0 (mj_w2 w2) := by
  have el : ∀ (p : Nat) (a b : Int), p < 21 → mj_w2 w2 p a b = w1 p a b := fun p a b hp => by
    have h1 : mj_w2 w2 p a b = w2 p a b := by unfold mj_w2; rw [if_pos (by omega)]
    have h2 : w2 p a b = mj_w1 w1 lp p a b := f2 p a b (fun z => by omega) (fun z => by omega)
    have h3 : mj_w1 w1 lp p a b = w1 p a b := by unfold mj_w1; rw [if_pos hp]
    rw [h1, h2, h3]
  have eh : ∀ (p : Nat) (a b : Int), p < 33 → mj_w2 w2 p a b = w2 p a b := fun p a b hp => by unfold mj_w2; rw [if_pos hp]
  have e21 : ∀ (a : Int), a ≠ 9 → mj_w2 w2 21 a 0 = if a = 0 then lp else 0 := fun a ha => by
    rw [eh 21 a 0 (by omega), f2 21 a 0 (fun z => by omega) (fun z => ha z.2.1)]
    rfl
  have e22 : ∀ (p : Nat) (a b : Int), 22 ≤ p → p ≤ 25 → mj_w2 w2 p a b = 0 := fun p a b h1 h2 => by
    rw [eh p a b (by omega), f2 p a b (fun z => by omega) (fun z => by omega)]
    unfold mj_w1
    rw [if_neg (by omega), if_neg (by omega)]
  have g : ∀ {p : Nat}, (p ≠ 7 ∧ p ≠ 8 ∧ p ≠ 10 ∧ p ≠ 6) → p < 21 → ∀ a b : Int, mj_w2 w2 p a b = mj_w0 lp p a b := fun hp hp2 a b => (el _ a b hp2).trans (f1.gr hp a b)
  have C1' : mj_CI 0 (mj_w2 w2) := C1.congr (mL_low (fun p x y hp _ => el p x y (by omega))) (fun x _ => el 5 x 0 (by omega)) (fun f _ _ => el 8 f 0 (by omega))
  have t1 : mj_w2 w2 1 0 0 = 0 := g (by decide) (by decide) 0 0
  have t4 : mj_w2 w2 4 0 0 = 0 := g (by decide) (by decide) 0 0
  have t3 : mj_w2 w2 11 3 0 = 0 := g (by decide) (by decide) 3 0
  have t6 : mj_w2 w2 6 1 0 = lp := (el 6 1 0 (by omega)).trans (f1 6 1 0 (fun z => by omega) (fun z => by omega) (by decide) (fun z => by omega))
  have C2' : mm_CI 0 (mj_w2 w2) := C2.congr (eh 21 2 0 (by omega)) (eh 21 0 0 (by omega)) (fun p a b hp => eh p a b (by omega)) (fun a _ => eh 25 a 0 (by omega))
  have hs : mj_same 0 (mj_w2 w2) (mm_w (mj_w2 w2)) := by
    refine ⟨?_, fun r r0 r1 => ?_, fun s s0 s1 => ?_, fun x x0 x1 => by omega, ?_⟩
    · show mj_w2 w2 21 2 0 = mj_w2 w2 1 0 0
      rw [t1, e21 2 (by decide)]
      rfl
    · rw [t1] at r1; omega
    · show mm_bh (mj_w2 w2) s = mj_w2 w2 3 s 0
      rw [g (p := 3) (by decide) (by decide) s 0]
      show mm_bh (mj_w2 w2) s = if s = 0 then 0 else if 0 < s ∧ s < 44 then -1 else 0
      unfold mm_bh mm_len
      by_cases q : s / 4 - 1 < 0
      · rw [if_pos q]
        by_cases q1 : s % 4 < 1
        · rw [if_pos q1, if_pos q, if_pos (by omega)]
        · rw [if_neg q1, if_neg (by omega), if_pos (by omega)]
      · rw [if_neg q, e22 23 _ 0 (by omega) (by omega), if_neg (by omega), if_neg (by omega), if_pos (by omega)]
    · show mj_w2 w2 21 0 0 = mj_w2 w2 6 1 0
      rw [t6, e21 0 (by decide)]
      rfl
  have t9 : mj_w2 w2 21 9 0 = 0 := (eh 21 9 0 (by omega)).trans e9
  have H : mf_H (mj_w2 w2) := ⟨C1'.1, mL_cont hs C2'.1, by omega, fun a a0 a1 => by omega, fun c c0 c1 => Or.inr (by
    rw [g (p := 16) (by decide) (by decide) c 0]
    show (0 : Int) ≤ 0 ∧ (0 : Int) ≤ 1000000000000
    decide)⟩
  refine ⟨⟨C1', t4, H, by omega, fun a b a0 ab b1 => by omega⟩, ⟨C2', ?_, Or.inl t9, fun z => absurd t9 z⟩, hs⟩
  rw [e21 6 (by decide)]
  rfl
theorem mL_MG {lp : Int} (hlp : lp = 0 ∨ lp = 1) (w1 : mj_w) : mm_GI (mj_w1 w1 lp) := by
  have e2 : mj_w1 w1 lp 21 2 0 = 0 := rfl
  have e0 : mj_w1 w1 lp 21 0 0 = lp := rfl
  refine ⟨by rw [e2]; decide, fun r _ _ => ?_, fun r _ _ => ?_, fun r k _ _ k0 hk => ?_, by rw [e0]; exact hlp, fun a _ _ => Or.inl rfl⟩
  · show (0 : Int) ≤ 0 ∧ (0 : Int) < 5
    decide
  · refine ⟨?_, ?_, fun _ => rfl⟩
    · show (0 : Int) ≤ 0
      decide
    · show (0 : Int) ≤ 3
      decide
  · have : k < (0 : Int) := hk
    omega
