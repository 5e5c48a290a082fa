/-! ===== the law: call by call ===== -/
theorem mL_cont {n : Int} {u w : mj_w} (hs : mj_same n u (mm_w w)) (hG : mm_GI w) (r : Int) (r0 : 0 ≤ r) (r1 : r < u 1 0 0) : (u 3 ((r + 1) * 4) 0 = -1 → u 3 ((r + 1) * 4 + 1) 0 = -1) ∧ (u 3 ((r + 1) * 4 + 1) 0 = -1 → u 3 ((r + 1) * 4 + 2) 0 = -1) := by
  have e1 : w 21 2 0 = u 1 0 0 := hs.1
  have hc := hG.1
  have t : ∀ k : Int, 0 ≤ k → k < 3 → u 3 ((r + 1) * 4 + k) 0 = if k < w 23 r 0 then w 24 (3 * r + k) 0 else -1 := fun k k0 k1 => by
    rw [← hs.2.2.1 ((r + 1) * 4 + k) (by omega) (by omega)]
    exact mm_w_3 r0 k0 (by omega)
  have p : ∀ k : Int, 0 ≤ k → k < 3 → k < w 23 r 0 → 0 ≤ w 24 (3 * r + k) 0 := fun k k0 k1 hk => (hG.2.2.2.1 r k r0 (by omega) k0 hk).1
  have t0 := t 0 (by decide) (by decide)
  have t1 := t 1 (by decide) (by decide)
  have t2 := t 2 (by decide) (by decide)
  have p0 := p 0 (by decide) (by decide)
  have p1 := p 1 (by decide) (by decide)
  rw [Int.add_zero] at t0
  rw [t0, t1, t2]
  constructor
  · intro z
    by_cases q : (0 : Int) < w 23 r 0
    · rw [if_pos q] at z; have := p0 q; omega
    · rw [if_neg (by omega)]
  · intro z
    by_cases q : (1 : Int) < w 23 r 0
    · rw [if_pos q] at z; have := p1 q; omega
    · rw [if_neg (by omega)]
theorem mL_same_l {n : Int} {w w' v : mj_w} (h : mj_same n w v) (e : ∀ (p : Nat) (a b : Int), (p = 1 ∨ p = 2 ∨ p = 3 ∨ p = 5 ∨ (p = 6 ∧ a = 1)) → w' p a b = w p a b) : mj_same n w' v := by
  obtain ⟨h1, h2, h3, h4, h5⟩ := h
  have e1 := e 1 0 0 (by omega)
  exact ⟨by rw [e1]; exact h1, fun r r0 r1 => by rw [e 2 r 0 (by omega)]; exact h2 r r0 (by rw [← e1]; exact r1), fun s s0 s1 => by rw [e 3 s 0 (by omega)]; exact h3 s s0 s1, fun a a0 a1 => by rw [e 5 a 0 (by omega)]; exact h4 a a0 a1, by rw [e 6 1 0 (by omega)]; exact h5⟩
/-- after two calls of the forest -/
theorem mL_after {n : Int} {w w1 w4 w' : mj_w} (hL : mL n w) (k1 : mf_k w w1) (F1 : mf_FI w1) (r1 : w1 11 3 0 = w1 4 0 0 + 1) (e4 : ∀ (p : Nat) (a b : Int), p ≠ 33 → w4 p a b = w1 p a b) (k2 : mq_k w4 w') (e9 : w' 21 9 0 = 1) (O' : mq_OK (mm_w w) n w') : mL n w' ∧ (∀ s a b : Int, 0 ≤ s → s < 5 → 0 ≤ a → a ≤ b → b ≤ n → mq_V w' s a b = mf_V w1 s a b) ∧ mf_sg w1 (mm_w w) 0 n := by
  have el : ∀ (p : Nat) (a b : Int), p < 21 → w' p a b = w1 p a b := fun p a b hp => (k2 p a b (fun z => by omega) (fun z => by omega)).trans (e4 p a b (by omega))
  have eh : ∀ (p : Nat) (a b : Int), 21 ≤ p → p ≤ 26 → ¬ (p = 21 ∧ (a = 1 ∨ a = 9 ∨ a = 14 ∨ a = 15 ∨ a = 18)) → w' p a b = w p a b := fun p a b h1 h2 hz => ((k2 p a b hz (fun z => by omega)).trans (e4 p a b (by omega))).trans (k1 p a b (by omega))
  have C1 : mL_C n w1 := ⟨hL.1.1.congr (mL_low (fun p a b hp _ => k1 p a b (by omega))) (fun a _ => k1 5 a 0 (by omega)) (fun f _ _ => k1 8 f 0 (by omega)), (k1 4 0 0 (by omega)).trans hL.1.2.1, F1⟩
  have ew : mm_w w' = mm_w w := mm_w_congr (eh 21 0 0 (by omega) (by omega) (fun z => by omega)) (eh 21 2 0 (by omega) (by omega) (fun z => by omega)) (fun p a hp => eh p a 0 (by omega) (by omega) (fun z => by omega))
  have hs1 : mj_same n w1 (mm_w w) := mL_same_l hL.2.2 (fun p a b hp => k1 p a b (by omega))
  have hsg := mL_sg hs1 F1.1.1
  have en : w1 4 0 0 = n := C1.2.1
  refine ⟨⟨C1.congr el, ⟨hL.2.1.1.congr (eh 21 2 0 (by omega) (by omega) (fun z => by omega)) (eh 21 0 0 (by omega) (by omega) (fun z => by omega)) (fun p a b hp => eh p a b (by omega) (by omega) (fun z => by omega)) (fun a _ => eh 25 a 0 (by omega) (by omega) (fun z => by omega)), (eh 21 6 0 (by omega) (by omega) (fun z => by omega)).trans hL.2.1.2.1, Or.inr e9, fun _ => by rw [ew]; exact O'⟩, by rw [ew]; exact mL_same_l hs1 (fun p a b hp => el p a b (by omega))⟩, fun s a b s0 s1 a0 ab b1 => ?_, hsg⟩
  exact mL_V F1.1.1 O'.1.1 F1.1.rv O'.2.2.1.rv hsg (fun x y x0 xy y1 => F1.2.2 x y x0 xy (by omega)) O'.2.2.2.1 _ s a b rfl s0 s1 a0 ab b1
section C88
variable {g : mj_G} {nn d : Nat} {xs : mj_M} {w : mj_w} {n : Int} {K : mj_M → mj_w → Prop} {P0 : Prop}
theorem mL_thr (hn : 33 ≤ nn) {K : mj_w → Prop} {c x : Int} (e1 : w 21 1 0 = c) (hc : mj_i c) (hx : c = 0 → w 33 0 0 = x ∧ mj_i x) (hK : K w) : mj_J g y_Mo_thrown d 0 0 (0, [some (mj_R 21)], [], mj_mem nn xs w) (mj_P nn xs (fun v w23 => ∃ x24 : Int, v = some (.inl x24) ∧ (mj_i x24 ∧ mj_i c ∧ (x24 = c → ((c = 0 → (mj_i x ∧ mj_l (w23 33 0 0) ∧ mj_l x ∧ ((w23 33 0 0) = x → K w23) ∧ (¬ (w23 33 0 0) = x → P0))) ∧ (¬ c = 0 → K w23))) ∧ (¬ x24 = c → P0)))) := by
  refine v_Mo_thrown_0 hn ⟨_, rfl, by rw [e1]; exact hc, hc, fun _ => ⟨fun z => ?_, fun _ => hK⟩, fun z => absurd e1 z⟩
  obtain ⟨h1, h2⟩ := hx z
  have : mj_l x := ⟨by have := h2.1; omega, by have := h2.2; omega⟩
  exact ⟨h2, by rw [h1]; exact this, this, fun _ => hK, fun y => absurd h1 y⟩
theorem mL_thrL (hn : 33 ≤ nn) {K : mj_w → Prop} {c x : Int} (e1 : w 21 1 0 = c) (hc : mj_i c) (hx : c = 0 → w 33 0 0 = x ∧ mj_l x) (hK : K w) : mj_J g y_Mo_thrown d 0 0 (0, [some (mj_R 21)], [], mj_mem nn xs w) (mj_P nn xs (fun v w23 => ∃ x24 : Int, v = some (.inl x24) ∧ (mj_i x24 ∧ mj_i c ∧ (x24 = c → ((c = 0 → (mj_l (w23 33 0 0) ∧ mj_l x ∧ ((w23 33 0 0) = x → K w23) ∧ (¬ (w23 33 0 0) = x → P0))) ∧ (¬ c = 0 → K w23))) ∧ (¬ x24 = c → P0)))) := by
  refine v_Mo_thrown_0 hn ⟨_, rfl, by rw [e1]; exact hc, hc, fun _ => ⟨fun z => ?_, fun _ => hK⟩, fun z => absurd e1 z⟩
  obtain ⟨h1, h2⟩ := hx z
  exact ⟨by rw [h1]; exact h2, h2, fun _ => hK, fun y => absurd h1 y⟩
theorem mL_1 : mj_i 1 := ⟨by decide, by decide⟩
theorem mL_2 : mj_i 2 := ⟨by decide, by decide⟩
theorem mL_3 : mj_i 3 := ⟨by decide, by decide⟩
theorem mL_0 : mj_i 0 := ⟨by decide, by decide⟩
theorem mL.rfc {c : Int} {w' : mj_w} (hL : mL n w) (rf : mm_rf c w w') : mL n w' := hL.rf (fun p a b _ hz => rf.1 p a b (fun y => hz ⟨y.1, y.2.1⟩))
theorem mL.w33 (hL : mL n w) (x : Int) : mL n (mj_wu w 33 0 0 x) := hL.rf (fun p a b hp _ => mj_wu_n (fun z => by omega))
theorem mL.CI' (hL : mL n w) : mj_CI (w 4 0 0) w := by rw [hL.1.2.1]; exact hL.1.1
theorem mL.MI' (hL : mL n w) : mm_CI (w 21 6 0) w := by rw [hL.2.1.2.1]; exact hL.2.1.1
theorem L_fed (hn : 34 ≤ nn) (hL : mL n w) (hK : ∀ (xs' : mj_M) (w' : mj_w) (n' : Int), mL n' w' → K xs' w') :
    mj_J g y_CF_fed (d + 7) 0 0 (0, [some (mj_R 0)], [], mj_mem nn xs w) (mj_P nn xs (fun v w71 => ∃ x72 : Int, v = some (.inl x72) ∧ (mj_J g y_Mo_fed (d + 7) 0 0 (0, [some (mj_R 21)], [], mj_mem nn xs w71) (mj_P nn xs (fun v w73 => ∃ x74 : Int, v = some (.inl x74) ∧ (mj_i x72 ∧ mj_i x74 ∧ (x72 = x74 → (K xs w73)) ∧ (¬ x72 = x74 → P0))))))) := by
  have hl := hL.2.1.1.2.1
  have e4 := hL.1.2.1
  have e6 := hL.2.1.2.1
  refine v_CF_fed_0 (by omega) ⟨_, rfl, c_M_fed (by omega) (fun w' rf => ⟨_, rfl, ⟨by omega, by omega⟩, ⟨by omega, by omega⟩, fun _ => hK xs w' n (hL.rfc rf), fun z => absurd (e4.trans e6.symm) z⟩)⟩
theorem L_accepts (hn : 34 ≤ nn) (hL : mL n w) (hK : ∀ (xs' : mj_M) (w' : mj_w) (n' : Int), mL n' w' → K xs' w') :
    mj_J g y_CF_accepts (d + 7) 0 0 (0, [some (mj_R 0)], [], mj_mem nn xs w) (mj_P nn xs (fun v w78 => ∃ x79 : Int, v = some (.inl x79) ∧ (mj_J g y_Mo_accepts (d + 7) 0 0 (0, [some (mj_R 21)], [], mj_mem nn xs w78) (mj_P nn xs (fun v w80 => ∃ x81 : Int, v = some (.inl x81) ∧ (mj_i x79 ∧ mj_i x81 ∧ (x79 = x81 → (K xs w80)) ∧ (¬ x79 = x81 → P0))))))) := by
  have hl := hL.2.1.1.2.1
  have e4 := hL.1.2.1
  have e6 := hL.2.1.2.1
  have hrg : mj_rg 1 0 := by unfold mj_rg; decide
  have h26 := hL.2.1.1.1.2.2.2.2.2 (mm_at n 1 0) (by unfold mm_at; omega) (by unfold mm_at; omega)
  have hit := (hL.items.1 n 1 0 hl.1 (Int.le_refl _) hrg).trans (mm_it w n hrg)
  refine c_CF_accepts (d := d + 6) (by omega) hL.CI' ⟨_, rfl, c_M_accepts (d := d + 5) (by omega) hL.MI' (fun w' rf => ⟨_, rfl, ?_⟩)⟩
  rw [e4, e6]
  have e : mj_b (mj_t (w 7 n 1) 0) = w 26 (mm_at n 1 0) 0 := by
    unfold mj_b
    by_cases q : mj_t (w 7 n 1) 0 = true
    · rw [if_pos q]
      rcases h26 with z | z
      · exact absurd z (hit.mp q)
      · exact z.symm
    · rw [if_neg q]
      rcases h26 with z | z
      · exact z.symm
      · exact absurd (hit.mpr (by rw [z]; decide)) q
  rw [e]
  have hi : mj_i (w 26 (mm_at n 1 0) 0) := by rcases h26 with z | z <;> rw [z] <;> exact ⟨by decide, by decide⟩
  exact ⟨hi, hi, fun _ => hK xs w' n (hL.rfc rf), fun z => absurd rfl z⟩
theorem mm_rf.mw {c : Int} {w' : mj_w} (rf : mm_rf c w w') : mm_w w' = mm_w w := mm_w_congr (rf.1 21 0 0 (fun z => by omega)) (rf.1 21 2 0 (fun z => by omega)) (fun p a hp => rf.1 p a 0 (fun z => by omega))
theorem L_expected (hn : 34 ≤ nn) (hL : mL n w) (hK : ∀ (xs' : mj_M) (w' : mj_w) (n' : Int), mL n' w' → K xs' w') :
    mj_J g y_CF_expected (d + 7) 0 0 (0, [some (mj_R 0)], [], mj_mem nn xs w) (mj_P nn xs (fun v w85 => ∃ x86 : Int, v = some (.inl x86) ∧ (mj_J g y_Mo_expected (d + 7) 0 0 (0, [some (mj_R 21)], [], mj_mem nn xs w85) (mj_P nn xs (fun v w87 => ∃ x88 : Int, v = some (.inl x88) ∧ (mj_i x86 ∧ mj_i x88 ∧ (x86 = x88 → (K xs w87)) ∧ (¬ x86 = x88 → P0))))))) := by
  have hl := hL.2.1.1.2.1
  have e4 := hL.1.2.1
  have e6 := hL.2.1.2.1
  refine c_CF_expected (d := d + 5) (by omega) hL.CI' (fun x hx => ⟨_, rfl, c_M_expected (d := d + 4) (by omega) hL.MI' (fun y w' rf hy => ⟨_, rfl, ?_⟩)⟩)
  rw [e4] at hx
  rw [rf.mw, e6] at hy
  have e : x = y := hx.eq hy (fun k _ => hL.ex hl.1 (Int.le_refl _) k)
  have := hx.1
  exact ⟨⟨by omega, by omega⟩, ⟨by omega, by omega⟩, fun _ => hK xs w' n (hL.rfc rf), fun z => absurd e z⟩
theorem L_items (hn : 34 ≤ nn) (hL : mL n w) {a : Int} (ha : mj_i a) (hK : ∀ (xs' : mj_M) (w' : mj_w) (n' : Int), mL n' w' → K xs' w') :
    mj_J g y_La_items (d + 7) 1 6 (0, [some (mj_R 0), some (.inl a), some (mj_R 33), none], [], mj_mem nn xs w) (mj_PX nn xs (fun v w95 => ∃ x96 : Int, v = some (.inl x96) ∧ ∀ xs97 : mj_M, xs97.length ≤ xs.length + 1 → (mj_J g y_Mo_items (d + 7) 0 0 (0, [some (mj_R 21), some (.inl a)], [], mj_mem nn xs97 w95) (mj_P nn xs97 (fun v w99 => ∃ x100 : Int, v = some (.inl x100) ∧ (mj_J g y_Mo_thrown (d + 7) 0 0 (0, [some (mj_R 21)], [], mj_mem nn xs97 w99) (mj_P nn xs97 (fun v w101 => ∃ x102 : Int, v = some (.inl x102) ∧ (mj_i x102 ∧ mj_i x96 ∧ (x102 = x96 → ((x96 = 0 → (mj_i x100 ∧ mj_l (w101 33 0 0) ∧ mj_l x100 ∧ ((w101 33 0 0) = x100 → (K xs97 w101)) ∧ (¬ (w101 33 0 0) = x100 → P0))) ∧ (¬ x96 = 0 → (K xs97 w101)))) ∧ (¬ x102 = x96 → P0)))))))))) := by
  have hl := hL.2.1.1.2.1
  have e4 := hL.1.2.1
  have e6 := hL.2.1.2.1
  refine v_La_items_0 hn (c_CF_items (by omega) ha hL.CI' (fun z => Or.inr ⟨rfl, ⟨_, rfl, fun xs' _ => ?_⟩⟩) (fun z1 z2 => Or.inl ⟨_, rfl, ?_, ?_⟩))
  · refine c_M_items (d := d + 6) (by omega) ha hL.MI' (fun _ w' rf => ⟨_, rfl, mL_thr (by omega) rf.2 mL_1 (fun y => absurd y (by decide)) (hK xs' w' n (hL.rfc rf))⟩) (fun y1 y2 => absurd ⟨y1, by omega⟩ z)
  · have : mj_ct w a ≤ 572 := mj_cn_le _ _
    exact ⟨by omega, by omega⟩
  · rintro w4 rfl
    refine ⟨_, rfl, fun xs' _ => ?_⟩
    have hL4 := hL.w33 (mj_ct w a : Int)
    have en : ∀ (p : Nat) (x y : Int), p ≠ 33 → mj_wu w 33 0 0 (mj_ct w a : Int) p x y = w p x y := fun p x y hp => mj_wu_n (fun z => hp z.1)
    have e33 : mj_wu w 33 0 0 (mj_ct w a : Int) 33 0 0 = (mj_ct w a : Int) := by unfold mj_wu; simp
    generalize mj_wu w 33 0 0 (mj_ct w a : Int) = w4 at *
    have e64 := hL4.2.1.2.1
    refine c_M_items (d := d + 6) (by omega) ha hL4.MI' (fun y => absurd ⟨z1, by omega⟩ y) (fun y1 y2 w' rf => ⟨_, rfl, mL_thr (by omega) rf.2 mL_0 (fun _ => ⟨?_, ?_⟩) (hK xs' w' n (hL4.rfc rf))⟩)
    · rw [rf.1 33 0 0 (fun z => by cases z.1), e33]
      have e : mj_ct w4 a = mm_ct w4 a := mm_ct_eq (fun s o hr => hL4.items.1 a s o z1 (by omega) hr)
      have e2 : mj_ct w4 a = mj_ct w a := by
        unfold mj_ct
        exact mj_cn_congr 572 (fun k _ => by rw [en 7 _ _ (by decide)])
      rw [← e2, e]
    · have : mm_ct w4 a ≤ 572 := mj_cn_le _ _
      exact ⟨by omega, by omega⟩
theorem L_has (hn : 34 ≤ nn) (hL : mL n w) {a b c e : Int} (ha : mj_i a) (hb : mj_i b) (hc : mj_i c) (he : mj_i e) (hK : ∀ (xs' : mj_M) (w' : mj_w) (n' : Int), mL n' w' → K xs' w') :
    mj_J g y_La_has (d + 7) 1 6 (0, [some (mj_R 0), some (.inl a), some (.inl b), some (.inl c), some (.inl e), some (mj_R 33), none], [], mj_mem nn xs w) (mj_PX nn xs (fun v w123 => ∃ x124 : Int, v = some (.inl x124) ∧ ∀ xs125 : mj_M, xs125.length ≤ xs.length + 1 → (mj_J g y_Mo_has (d + 7) 0 0 (0, [some (mj_R 21), some (.inl a), some (.inl b), some (.inl c), some (.inl e)], [], mj_mem nn xs125 w123) (mj_P nn xs125 (fun v w127 => ∃ x128 : Int, v = some (.inl x128) ∧ (mj_J g y_Mo_thrown (d + 7) 0 0 (0, [some (mj_R 21)], [], mj_mem nn xs125 w127) (mj_P nn xs125 (fun v w129 => ∃ x130 : Int, v = some (.inl x130) ∧ (mj_i x130 ∧ mj_i x124 ∧ (x130 = x124 → ((x124 = 0 → (mj_i x128 ∧ (x128 = 0 → (mj_l (w129 33 0 0) ∧ ((w129 33 0 0) = 0 → (K xs125 w129)) ∧ (¬ (w129 33 0 0) = 0 → P0))) ∧ (¬ x128 = 0 → (mj_l (w129 33 0 0) ∧ ((w129 33 0 0) = 1 → (K xs125 w129)) ∧ (¬ (w129 33 0 0) = 1 → P0))))) ∧ (¬ x124 = 0 → (K xs125 w129)))) ∧ (¬ x130 = x124 → P0)))))))))) := by
  have hl := hL.2.1.1.2.1
  have e4 := hL.1.2.1
  have e6 := hL.2.1.2.1
  have hs := hL.2.2
  have e1 : w 21 2 0 = w 1 0 0 := hs.1
  have hcnt := hL.1.1.1.1
  -- the law's end: x is 0 or 1
  have fin : ∀ (xs' : mj_M) (w4 w' : mj_w) (x : Int), (x = 0 ∨ x = 1) → mL n w4 → mm_rf 0 w4 w' → w4 33 0 0 = x → mj_J g y_Mo_thrown (d + 7) 0 0 (0, [some (mj_R 21)], [], mj_mem nn xs' w') (mj_P nn xs' (fun v w129 => ∃ x130 : Int, v = some (.inl x130) ∧ (mj_i x130 ∧ mj_i 0 ∧ (x130 = 0 → (((0 : Int) = 0 → (mj_i x ∧ (x = 0 → (mj_l (w129 33 0 0) ∧ ((w129 33 0 0) = 0 → (K xs' w129)) ∧ (¬ (w129 33 0 0) = 0 → P0))) ∧ (¬ x = 0 → (mj_l (w129 33 0 0) ∧ ((w129 33 0 0) = 1 → (K xs' w129)) ∧ (¬ (w129 33 0 0) = 1 → P0))))) ∧ (¬ (0 : Int) = 0 → (K xs' w129)))) ∧ (¬ x130 = 0 → P0)))) := fun xs' w4 w' x hx hL4 rf h33 => by
    have t33 : w' 33 0 0 = x := (rf.1 33 0 0 (fun z => by cases z.1)).trans h33
    have k := hK xs' w' n (hL4.rfc rf)
    refine v_Mo_thrown_0 (by omega) ⟨_, rfl, by rw [rf.2]; exact mL_0, mL_0, fun _ => ⟨fun _ => ⟨?_, fun z => ⟨?_, fun _ => k, fun y => ?_⟩, fun z => ⟨?_, fun _ => k, fun y => ?_⟩⟩, fun _ => k⟩, fun z => absurd rf.2 z⟩
    · rcases hx with q | q <;> rw [q] <;> exact ⟨by decide, by decide⟩
    · rw [t33]; rcases hx with q | q <;> rw [q] <;> exact ⟨by decide, by decide⟩
    · exact absurd (t33.trans z) y
    · rw [t33]; rcases hx with q | q <;> rw [q] <;> exact ⟨by decide, by decide⟩
    · exact absurd (t33.trans (hx.resolve_left z)) y
  -- the reference's call in a world with x in the law's array
  have ref : ∀ (xs' : mj_M) (w4 : mj_w) (x : Int), mL n w4 → (∀ (p : Nat) (x y : Int), p ≠ 33 → w4 p x y = w p x y) → w4 33 0 0 = x → 0 ≤ a → a ≤ n → (¬ (-1 ≤ b ∧ b < w 1 0 0 ∧ 0 ≤ c ∧ c ≤ mm_len w b ∧ 0 ≤ e ∧ e ≤ n) → x = 0) → ((-1 ≤ b ∧ b < w 1 0 0 ∧ 0 ≤ c ∧ c ≤ mm_len w b ∧ 0 ≤ e ∧ e ≤ n) → x = w 26 (mm_at a ((b + 1) * 4 + c) e) 0) → mj_J g y_Mo_has (d + 7) 0 0 (0, [some (mj_R 21), some (.inl a), some (.inl b), some (.inl c), some (.inl e)], [], mj_mem nn xs' w4) (mj_P nn xs' (fun v w127 => ∃ x128 : Int, v = some (.inl x128) ∧ (mj_J g y_Mo_thrown (d + 7) 0 0 (0, [some (mj_R 21)], [], mj_mem nn xs' w127) (mj_P nn xs' (fun v w129 => ∃ x130 : Int, v = some (.inl x130) ∧ (mj_i x130 ∧ mj_i 0 ∧ (x130 = 0 → (((0 : Int) = 0 → (mj_i x128 ∧ (x128 = 0 → (mj_l (w129 33 0 0) ∧ ((w129 33 0 0) = 0 → (K xs' w129)) ∧ (¬ (w129 33 0 0) = 0 → P0))) ∧ (¬ x128 = 0 → (mj_l (w129 33 0 0) ∧ ((w129 33 0 0) = 1 → (K xs' w129)) ∧ (¬ (w129 33 0 0) = 1 → P0))))) ∧ (¬ (0 : Int) = 0 → (K xs' w129)))) ∧ (¬ x130 = 0 → P0))))))) := fun xs' w4 x hL4 en h33 a0 a1 hx0 hx1 => by
    have e64 := hL4.2.1.2.1
    have e24 : w4 21 2 0 = w 1 0 0 := (en 21 2 0 (by decide)).trans e1
    have eml : mm_len w4 b = mm_len w b := by
      unfold mm_len
      rw [en 23 b 0 (by decide)]
    refine c_M_has (d := d + 5) (by omega) ha hb hc he hL4.MI' (fun y => absurd ⟨a0, by omega⟩ y) (fun y1 y2 y3 w' rf => ⟨_, rfl, ?_⟩) (fun y1 y2 y3 w' rf => ⟨_, rfl, ?_⟩)
    · rw [e24, eml, e64] at y3
      have := hx0 y3
      exact fin xs' w4 w' 0 (Or.inl rfl) hL4 rf (h33.trans this)
    · rw [e24, eml, e64] at y3
      have h := hx1 y3
      have hml : 0 ≤ mm_len w b ∧ mm_len w b ≤ 3 := by
        unfold mm_len
        by_cases q : b < 0
        · rw [if_pos q]; decide
        · rw [if_neg q]
          have := hL.2.1.1.1.2.2.1 b (by omega) (by omega)
          exact ⟨this.1, this.2.1⟩
      have h26 := hL.2.1.1.1.2.2.2.2.2 (mm_at a ((b + 1) * 4 + c) e) (by unfold mm_at; omega) (by unfold mm_at; omega)
      have e26 : w4 26 (mm_at a ((b + 1) * 4 + c) e) 0 = w 26 (mm_at a ((b + 1) * 4 + c) e) 0 := en 26 _ _ (by decide)
      rw [e26]
      exact fin xs' w4 w' _ h26 hL4 rf (h33.trans h)
  refine v_La_has_0 hn (c_CF_has (by omega) ha hb hc he hL.CI' (fun z => Or.inr ⟨rfl, ⟨_, rfl, fun xs' _ => ?_⟩⟩) (fun z1 z2 z3 => Or.inl ⟨_, rfl, mL_0, fun _ => ?_, fun z => absurd rfl z⟩) (fun z1 z2 z3 => Or.inl ⟨_, rfl, ?_, fun q => ?_, fun q => ?_⟩))
  · refine c_M_has (d := d + 5) (by omega) ha hb hc he hL.MI' (fun _ w' rf => ⟨_, rfl, ?_⟩) (fun y1 y2 => absurd ⟨y1, by omega⟩ z) (fun y1 y2 => absurd ⟨y1, by omega⟩ z)
    refine v_Mo_thrown_0 (by omega) ⟨_, rfl, by rw [rf.2]; exact mL_1, mL_1, fun _ => ⟨fun y => absurd y (by decide), fun _ => hK xs' w' n (hL.rfc rf)⟩, fun z => absurd rf.2 z⟩
  · rintro w5 rfl
    refine ⟨_, rfl, fun xs' _ => ref xs' _ 0 (hL.w33 0) (fun p x y hp => mj_wu_n (fun z => hp z.1)) (by unfold mj_wu; simp) z1 (by omega) (fun _ => rfl) (fun y => ?_)⟩
    exfalso
    have hml : mm_len w b ≤ 3 := by
      unfold mm_len
      by_cases q : b < 0
      · rw [if_pos q]; decide
      · rw [if_neg q]
        exact (hL.2.1.1.1.2.2.1 b (by omega) (by omega)).2.1
    exact z3 (by omega)
  · unfold mj_b; split <;> exact ⟨by decide, by decide⟩
  · rintro w5 rfl
    refine ⟨_, rfl, fun xs' _ => ref xs' _ 0 (hL.w33 0) (fun p x y hp => mj_wu_n (fun z => hp z.1)) (by unfold mj_wu; simp) z1 (by omega) (fun _ => rfl) (fun y => ?_)⟩
    have hrg : mj_rg ((b + 1) * 4 + c) e := by unfold mj_rg; omega
    have hit := (hL.items.1 a _ e z1 (by omega) hrg).trans (mm_it w a hrg)
    have h26 := hL.2.1.1.1.2.2.2.2.2 (mm_at a ((b + 1) * 4 + c) e) (by unfold mm_at; omega) (by unfold mm_at; omega)
    rcases h26 with q2 | q2
    · exact q2.symm
    · exfalso
      have : mj_t (w 7 a ((b + 1) * 4 + c)) e = true := hit.mpr (by rw [q2]; decide)
      unfold mj_b at q
      rw [if_pos this] at q
      exact absurd q (by decide)
  · rintro w7 rfl
    have hrg : mj_rg ((b + 1) * 4 + c) e := by unfold mj_rg; omega
    have hti : mj_it w a ((b + 1) * 4 + c) e := by
      unfold mj_b at q
      unfold mj_it
      by_cases q2 : mj_t (w 7 a ((b + 1) * 4 + c)) e = true
      · exact q2
      · rw [if_neg q2] at q; exact absurd rfl q
    have hit := (hL.items.1 a _ e z1 (by omega) hrg).trans (mm_it w a hrg)
    have hd := (hL.1.1.dots (fun x x0 x1 => by have := hL.1.2.2.1.2.2.2.1 x x0 (by omega); exact this)).2 a _ e z1 (by omega) hrg hti
    have hcl : c ≤ mm_len w b := by
      by_cases q0 : c = 0
      · rw [q0]
        unfold mm_len
        by_cases q : b < 0
        · rw [if_pos q]; decide
        · rw [if_neg q]
          exact (hL.2.1.1.1.2.2.1 b (by omega) (by omega)).1
      · have h3 : w 3 ((b + 1) * 4 + c - 1) 0 ≠ -1 := hd.resolve_left (by omega)
        rw [← hs.2.2.1 ((b + 1) * 4 + c - 1) (by omega) (by omega)] at h3
        have h3' : mm_bh w ((b + 1) * 4 + c - 1) ≠ -1 := h3
        unfold mm_bh at h3'
        rw [show ((b + 1) * 4 + c - 1) % 4 = c - 1 by omega, show ((b + 1) * 4 + c - 1) / 4 - 1 = b by omega] at h3'
        by_cases q3 : c - 1 < mm_len w b
        · omega
        · rw [if_neg q3] at h3'; exact absurd rfl h3'
    refine ⟨_, rfl, fun xs' _ => ref xs' _ 1 (hL.w33 1) (fun p x y hp => mj_wu_n (fun z => hp z.1)) (by unfold mj_wu; simp) z1 (by omega) (fun y => absurd (by omega) y) (fun y => ?_)⟩
    have h26 := hL.2.1.1.1.2.2.2.2.2 (mm_at a ((b + 1) * 4 + c) e) (by unfold mm_at; omega) (by unfold mm_at; omega)
    rcases h26 with q2 | q2
    · exact absurd q2 (hit.mp hti)
    · exact q2.symm
theorem mL_wi (hL : mL n w) {a b : Int} (a0 : 0 ≤ a) (a1 : a ≤ n) (b0 : 0 ≤ b) (b1 : b < 5) : mj_i (if a = w 4 0 0 then -1 else mj_wl (w 9 a b)) := by
  have e4 := hL.1.2.1
  by_cases q : a = w 4 0 0
  · rw [if_pos q]; exact ⟨by decide, by decide⟩
  · rw [if_neg q]
    have h := hL.1.1.names _ a b rfl a0 (by omega) b0 b1
    unfold mj_wl
    rcases h with z | z
    · rw [if_pos z]; exact ⟨by decide, by decide⟩
    · rw [if_neg (by omega)]; exact ⟨by omega, by omega⟩
theorem L_leap (hn : 34 ≤ nn) (hL : mL n w) {a b : Int} (ha : mj_i a) (hb : mj_i b) (hK : ∀ (xs' : mj_M) (w' : mj_w) (n' : Int), mL n' w' → K xs' w') :
    mj_J g y_La_leap (d + 7) 1 6 (0, [some (mj_R 0), some (.inl a), some (.inl b), some (mj_R 33), none], [], mj_mem nn xs w) (mj_PX nn xs (fun v w147 => ∃ x148 : Int, v = some (.inl x148) ∧ ∀ xs149 : mj_M, xs149.length ≤ xs.length + 1 → (mj_J g y_Mo_leap (d + 7) 0 0 (0, [some (mj_R 21), some (.inl a), some (.inl b), none], [], mj_mem nn xs149 w147) (mj_P nn xs149 (fun v w151 => ∃ x152 : Int, v = some (.inl x152) ∧ (mj_J g y_Mo_thrown (d + 7) 0 0 (0, [some (mj_R 21)], [], mj_mem nn xs149 w151) (mj_P nn xs149 (fun v w153 => ∃ x154 : Int, v = some (.inl x154) ∧ (mj_i x154 ∧ mj_i x148 ∧ (x154 = x148 → ((x148 = 0 → (mj_i x152 ∧ mj_l (w153 33 0 0) ∧ mj_l x152 ∧ ((w153 33 0 0) = x152 → (K xs149 w153)) ∧ (¬ (w153 33 0 0) = x152 → P0))) ∧ (¬ x148 = 0 → (K xs149 w153)))) ∧ (¬ x154 = x148 → P0)))))))))) := by
  have hl := hL.2.1.1.2.1
  have e4 := hL.1.2.1
  have e6 := hL.2.1.2.1
  refine v_La_leap_0 hn (c_CF_leap (by omega) ha hb hL.CI' (fun z => Or.inr ⟨rfl, ⟨_, rfl, fun xs' _ => ?_⟩⟩) (fun z1 z2 z3 z4 => Or.inl ⟨_, rfl, ?_, ?_⟩))
  · refine c_M_leap (d := d + 4) (by omega) ha hb hL.MI' (fun _ w' rf => ⟨_, rfl, mL_thr (by omega) rf.2 mL_1 (fun y => absurd y (by decide)) (hK xs' w' n (hL.rfc rf))⟩) (fun y1 y2 y3 y4 => absurd ⟨⟨y1, by omega⟩, y3, y4⟩ z)
  · exact mL_wi hL z1 (by omega) z3 z4
  · rintro w4 rfl
    refine ⟨_, rfl, fun xs' _ => ?_⟩
    have hi := mL_wi hL z1 (by omega) z3 z4
    have hL4 := hL.w33 (if a = w 4 0 0 then -1 else mj_wl (w 9 a b))
    have en : ∀ (p : Nat) (x y : Int), p ≠ 33 → mj_wu w 33 0 0 (if a = w 4 0 0 then -1 else mj_wl (w 9 a b)) p x y = w p x y := fun p x y hp => mj_wu_n (fun z => hp z.1)
    have e33 : mj_wu w 33 0 0 (if a = w 4 0 0 then -1 else mj_wl (w 9 a b)) 33 0 0 = (if a = w 4 0 0 then -1 else mj_wl (w 9 a b)) := by unfold mj_wu; simp
    generalize mj_wu w 33 0 0 (if a = w 4 0 0 then -1 else mj_wl (w 9 a b)) = w4 at *
    have e64 := hL4.2.1.2.1
    have ee : ∀ w', mm_rf 0 w4 w' → (if a = w 4 0 0 then -1 else mj_wl (w 9 a b)) = (if a = w4 21 6 0 then -1 else mj_wl (mm_w w' 9 a b)) := fun w' rf => by
      rw [e4, e64]
      by_cases q : a = n
      · rw [if_pos q, if_pos q]
      · rw [if_neg q, if_neg q, rf.mw, hL4.items.2 a b z1 (by omega) z3 z4, en 9 _ _ (by decide)]
    refine c_M_leap (d := d + 4) (by omega) ha hb hL4.MI' (fun y => absurd ⟨⟨z1, by omega⟩, z3, z4⟩ y) (fun y1 y2 y3 y4 w' rf => ⟨_, rfl, mL_thr (by omega) rf.2 mL_0 (fun _ => ⟨?_, ?_⟩) (hK xs' w' n (hL4.rfc rf))⟩)
    · rw [rf.1 33 0 0 (fun z => by cases z.1), e33, ee w' rf]
    · rw [← ee w' rf]; exact hi
theorem L_ways (hn : 34 ≤ nn) (hL : mL n w) {a b c : Int} (ha : mj_i a) (hb : mj_i b) (hc : mj_i c) (hK : ∀ (xs' : mj_M) (w' : mj_w) (n' : Int), mL n' w' → K xs' w') :
    mj_J g y_La_ways (d + 7) 1 6 (0, [some (mj_R 0), some (.inl a), some (.inl b), some (.inl c), some (mj_R 33), none], [], mj_mem nn xs w) (mj_PX nn xs (fun v w172 => ∃ x173 : Int, v = some (.inl x173) ∧ ∀ xs174 : mj_M, xs174.length ≤ xs.length + 1 → (mj_J g y_Mo_ways (d + 7) 0 0 (0, [some (mj_R 21), some (.inl a), some (.inl b), some (.inl c), none, none], [], mj_mem nn xs174 w172) (mj_P nn xs174 (fun v w176 => ∃ x177 : Int, v = some (.inl x177) ∧ (mj_J g y_Mo_thrown (d + 7) 0 0 (0, [some (mj_R 21)], [], mj_mem nn xs174 w176) (mj_P nn xs174 (fun v w178 => ∃ x179 : Int, v = some (.inl x179) ∧ (mj_i x179 ∧ mj_i x173 ∧ (x179 = x173 → ((x173 = 0 → (mj_i x177 ∧ mj_l (w178 33 0 0) ∧ mj_l x177 ∧ ((w178 33 0 0) = x177 → (K xs174 w178)) ∧ (¬ (w178 33 0 0) = x177 → P0))) ∧ (¬ x173 = 0 → (K xs174 w178)))) ∧ (¬ x179 = x173 → P0)))))))))) := by
  have hl := hL.2.1.1.2.1
  have e4 := hL.1.2.1
  refine v_La_ways_0 hn (c_CF_ways (by omega) ha hb hc hL.1.2.2 (fun z => Or.inr ⟨rfl, ⟨_, rfl, fun xs' _ => ?_⟩⟩) (fun s0 i0 ij j1 w1 k1 F1 r1 => Or.inl ⟨_, rfl, ?_, ?_⟩))
  · rw [e4] at z
    exact c_M_ways (d := d + 1) (by omega) hL.KI ha hb hc (fun _ w' rf => ⟨_, rfl, mL_thr (by omega) rf.2 mL_1 (fun y => absurd y (by decide)) (hK xs' w' n (hL.rfc rf))⟩) (fun y1 y2 y3 y4 => absurd ⟨y1, y2, y3, y4⟩ z)
  · have hlen := F1.1.2.2.1
    have e41 : w1 4 0 0 = w 4 0 0 := k1 4 0 0 (by omega)
    have := mf_len (u := w1) (V := mf_V w1) (s := a) (i := b) (j := c) F1.1.1.1.1 F1.1.1.1.2 (by omega)
    exact ⟨by omega, by omega⟩
  · rw [e4] at j1
    have hlen := F1.1.2.2.1
    have e41 : w1 4 0 0 = w 4 0 0 := k1 4 0 0 (by omega)
    have hll := mf_len (u := w1) (V := mf_V w1) (s := a) (i := b) (j := c) F1.1.1.1.1 F1.1.1.1.2 (by omega)
    rintro w4 rfl
    refine ⟨_, rfl, fun xs' _ => ?_⟩
    have en : ∀ (p : Nat) (x y : Int), p ≠ 33 → mj_wu w1 33 0 0 ((mf_ways w1 (mf_V w1) a b c).length : Int) p x y = w1 p x y := fun p x y hp => mj_wu_n (fun z => hp z.1)
    have e33 : mj_wu w1 33 0 0 ((mf_ways w1 (mf_V w1) a b c).length : Int) 33 0 0 = ((mf_ways w1 (mf_V w1) a b c).length : Int) := by unfold mj_wu; simp
    generalize mj_wu w1 33 0 0 ((mf_ways w1 (mf_V w1) a b c).length : Int) = w4 at *
    have K4 : mq_KI (mm_w w) n w4 := hL.KI.same (fun p x y hp => (en p x y (by omega)).trans (k1 p x y (by omega)))
    refine c_M_ways (d := d + 1) (by omega) K4 ha hb hc (fun y => absurd ⟨s0, i0, ij, j1⟩ y) (fun _ _ _ _ w' k2 e1' e9 O' => ⟨_, rfl, ?_⟩)
    obtain ⟨hL', hV, hsg⟩ := mL_after hL k1 F1 r1 en k2 e9 O'
    have hsg2 : mf_sg w1 (mm_w w) b c := ⟨hsg.1, hsg.2.1, fun x x0 x1 => hsg.2.2 x (by omega) (by omega)⟩
    have e : mf_ways w1 (mf_V w1) a b c = mf_ways (mm_w w) (mq_V w') a b c := mf_ways_congr F1.1.1.1.1 (by omega) hsg2 (fun q hcq _ => by rw [mf_val_agree F1.1.1 hsg2 hcq (fun s x y s0 s1 x0 xy y1 => (hV s x y s0 s1 (by omega) xy (by omega)).symm)])
    rw [← e]
    refine mL_thr (by omega) e1' mL_0 (fun _ => ⟨?_, ⟨by omega, by omega⟩⟩) (hK xs' w' n hL')
    rw [k2 33 0 0 (fun z => by omega) (by decide), e33]
theorem L_trees (hn : 34 ≤ nn) (hL : mL n w) {a b c : Int} (ha : mj_i a) (hb : mj_i b) (hc : mj_i c) (hK : ∀ (xs' : mj_M) (w' : mj_w) (n' : Int), mL n' w' → K xs' w') :
    mj_J g y_La_trees (d + 7) 1 6 (0, [some (mj_R 0), some (.inl a), some (.inl b), some (.inl c), some (mj_R 33), none], [], mj_mem nn xs w) (mj_PX nn xs (fun v w197 => ∃ x198 : Int, v = some (.inl x198) ∧ ∀ xs199 : mj_M, xs199.length ≤ xs.length + 1 → (mj_J g y_Mo_trees (d + 7) 0 0 (0, [some (mj_R 21), some (.inl a), some (.inl b), some (.inl c)], [], mj_mem nn xs199 w197) (mj_P nn xs199 (fun v w201 => ∃ x202 : Int, v = some (.inr (.inl x202)) ∧ (mj_J g y_Mo_thrown (d + 7) 0 0 (0, [some (mj_R 21)], [], mj_mem nn xs199 w201) (mj_P nn xs199 (fun v w203 => ∃ x204 : Int, v = some (.inl x204) ∧ (mj_i x204 ∧ mj_i x198 ∧ (x204 = x198 → ((x198 = 0 → (mj_l (w203 33 0 0) ∧ mj_l x202 ∧ ((w203 33 0 0) = x202 → (K xs199 w203)) ∧ (¬ (w203 33 0 0) = x202 → P0))) ∧ (¬ x198 = 0 → (K xs199 w203)))) ∧ (¬ x204 = x198 → P0)))))))))) := by
  have hl := hL.2.1.1.2.1
  have e4 := hL.1.2.1
  refine v_La_trees_0 hn (c_CF_trees (by omega) ha hb hc hL.1.2.2 (fun z => Or.inr ⟨rfl, ⟨_, rfl, fun xs' _ => ?_⟩⟩) (fun s0 i0 ij j1 w1 k1 F1 r1 => Or.inl ⟨_, rfl, ?_⟩))
  · rw [e4] at z
    exact c_M_trees (d := d + 1) (by omega) hL.KI ha hb hc (fun _ w' rf => ⟨_, rfl, mL_thrL (by omega) rf.2 mL_1 (fun y => absurd y (by decide)) (hK xs' w' n (hL.rfc rf))⟩) (fun y1 y2 y3 y4 => absurd ⟨y1, y2, y3, y4⟩ z)
  · rw [e4] at j1
    rintro w4 rfl
    refine ⟨_, rfl, fun xs' _ => ?_⟩
    have en : ∀ (p : Nat) (x y : Int), p ≠ 33 → mj_wu w1 33 0 0 (mf_V w1 a b c) p x y = w1 p x y := fun p x y hp => mj_wu_n (fun z => hp z.1)
    have e33 : mj_wu w1 33 0 0 (mf_V w1 a b c) 33 0 0 = mf_V w1 a b c := by unfold mj_wu; simp
    generalize mj_wu w1 33 0 0 (mf_V w1 a b c) = w4 at *
    have K4 : mq_KI (mm_w w) n w4 := hL.KI.same (fun p x y hp => (en p x y (by omega)).trans (k1 p x y (by omega)))
    refine c_M_trees (d := d + 1) (by omega) K4 ha hb hc (fun y => absurd ⟨s0, i0, ij, j1⟩ y) (fun _ _ _ _ w' k2 e1' e9 O' => ⟨_, rfl, ?_⟩)
    obtain ⟨hL', hV, hsg⟩ := mL_after hL k1 F1 r1 en k2 e9 O'
    have hrv := F1.1.rv a b c
    rw [hV a b c s0.1 s0.2 i0 ij j1]
    refine mL_thrL (by omega) e1' mL_0 (fun _ => ⟨?_, by rcases hrv with z | z <;> exact ⟨by omega, by omega⟩⟩) (hK xs' w' n hL')
    rw [k2 33 0 0 (fun z => by omega) (by decide), e33]
theorem L_nodes (hn : 34 ≤ nn) (hL : mL n w) (hK : ∀ (xs' : mj_M) (w' : mj_w) (n' : Int), mL n' w' → K xs' w') :
    mj_J g y_CF_nodes (d + 7) 0 0 (0, [some (mj_R 0)], [], mj_mem nn xs w) (mj_P nn xs (fun v w212 => ∃ x213 : Int, v = some (.inl x213) ∧ (mj_J g y_Mo_nodes (d + 7) 0 0 (0, [some (mj_R 21), none, none, none], [], mj_mem nn xs w212) (mj_P nn xs (fun v w214 => ∃ x215 : Int, v = some (.inl x215) ∧ (mj_i x213 ∧ mj_i x215 ∧ (x213 = x215 → (K xs w214)) ∧ (¬ x213 = x215 → P0))))))) := by
  have hl := hL.2.1.1.2.1
  refine c_CF_nodes (d := d + 1) (by omega) hL.1.2.2 (fun w1 M k1 F1 r1 R1 => ⟨_, rfl, ?_⟩)
  have K1 : mq_KI (mm_w w) n w1 := hL.KI.same (fun p x y hp => k1 p x y (by omega))
  refine c_M_nodes (d := d + 1) (by omega) K1 (fun w' M' k2 e1' e9 O' R' => ⟨_, rfl, ?_⟩)
  obtain ⟨hL', hV, hsg⟩ := mL_after hL k1 F1 r1 (fun _ _ _ _ => rfl) k2 e9 O'
  have e41 : w1 4 0 0 = n := (k1 4 0 0 (by omega)).trans hL.1.2.1
  rw [e41] at R1
  have e : mj_cn (fun c : Nat => decide (M (c : Int) ≠ (0 : Int))) 845 = mj_cn (fun c : Nat => decide (M' (c : Int) ≠ (0 : Int))) 845 := mj_cn_congr 845 (fun k hk => by
    have := R1.unique F1.1.1 O'.1.1 hl hsg hV R' (c := (k : Int)) (by omega) (by omega)
    simp [this])
  rw [e]
  have hle : mj_cn (fun c : Nat => decide (M' (c : Int) ≠ (0 : Int))) 845 ≤ 845 := mj_cn_le _ _
  exact ⟨⟨by omega, by omega⟩, ⟨by omega, by omega⟩, fun _ => hK xs w' n hL', fun z => absurd rfl z⟩
theorem L_tree (hn : 34 ≤ nn) (hL : mL n w) {k c : Int} (hk : mj_l k) (hc : mj_i c) (hK : ∀ (xs' : mj_M) (w' : mj_w) (n' : Int), mL n' w' → K xs' w') :
    mj_J g y_La_tree (d + 7) 1 6 (0, [some (mj_R 0), some (.inr (.inl k)), none, some (.inl c), some (mj_R 33), none], [], mj_mem nn xs w) (mj_PX nn xs (fun v w230 => ∃ x231 : Int, v = some (.inl x231) ∧ ∀ xs232 : mj_M, xs232.length ≤ xs.length + 1 → (mj_J g y_Mo_tree (d + 7) 0 0 (0, [some (mj_R 21), some (.inr (.inl k)), none, some (.inl c), none, none, none, none], [], mj_mem nn xs232 w230) (mj_P nn xs232 (fun v w234 => ∃ x235 : Int, v = some (.inl x235) ∧ (mj_J g y_Mo_thrown (d + 7) 0 0 (0, [some (mj_R 21)], [], mj_mem nn xs232 w234) (mj_P nn xs232 (fun v w236 => ∃ x237 : Int, v = some (.inl x237) ∧ (mj_i x237 ∧ mj_i x231 ∧ (x237 = x231 → ((x231 = 0 → (mj_i x235 ∧ mj_l (w236 33 0 0) ∧ mj_l x235 ∧ ((w236 33 0 0) = x235 → (K xs232 w236)) ∧ (¬ (w236 33 0 0) = x235 → P0))) ∧ (¬ x231 = 0 → (K xs232 w236)))) ∧ (¬ x237 = x231 → P0)))))))))) := by
  have hl := hL.2.1.1.2.1
  have hrng : ∀ w1, mf_FI w1 → w1 4 0 0 = n → mj_i (mt_ans w1 (mf_V w1) n k c) := fun w1 F1 e41 => by
    unfold mt_ans
    split
    · have := mt_go_rng (V := mf_V w1) F1.1.1 hl 1000000 [(n, k)] c (mt_root_vc hl)
      rcases this with z | z <;> exact ⟨by omega, by omega⟩
    · exact ⟨by decide, by decide⟩
  refine v_La_tree_0 hn (c_CF_tree (by omega) hk hc hL.1.2.2 (fun w1 k1 F1 r1 => ⟨fun hz => Or.inr ⟨rfl, ⟨_, rfl, fun xs' _ => ?_⟩⟩, fun hz => Or.inl ⟨_, rfl, ?_, ?_⟩⟩))
  · have e41 : w1 4 0 0 = n := (k1 4 0 0 (by omega)).trans hL.1.2.1
    rw [e41] at hz
    have K1 : mq_KI (mm_w w) n w1 := hL.KI.same (fun p x y hp => k1 p x y (by omega))
    refine c_M_tree (d := d + 1) (by omega) K1 hk hc (fun w' k2 e9 O' => ?_)
    obtain ⟨hL', hV, hsg⟩ := mL_after hL k1 F1 r1 (fun _ _ _ _ => rfl) k2 e9 O'
    rw [← mt_ans_congr F1.1.1 hl hsg hV]
    exact ⟨fun _ e1' => ⟨_, rfl, mL_thr (by omega) e1' mL_1 (fun y => absurd y (by decide)) (hK xs' w' n hL')⟩, fun y => absurd hz y⟩
  · have e41 : w1 4 0 0 = n := (k1 4 0 0 (by omega)).trans hL.1.2.1
    rw [e41]
    exact hrng w1 F1 e41
  · have e41 : w1 4 0 0 = n := (k1 4 0 0 (by omega)).trans hL.1.2.1
    rw [e41] at hz ⊢
    rintro w4 rfl
    refine ⟨_, rfl, fun xs' _ => ?_⟩
    have en : ∀ (p : Nat) (x y : Int), p ≠ 33 → mj_wu w1 33 0 0 (mt_ans w1 (mf_V w1) n k c) p x y = w1 p x y := fun p x y hp => mj_wu_n (fun z => hp z.1)
    have e33 : mj_wu w1 33 0 0 (mt_ans w1 (mf_V w1) n k c) 33 0 0 = mt_ans w1 (mf_V w1) n k c := by unfold mj_wu; simp
    generalize mj_wu w1 33 0 0 (mt_ans w1 (mf_V w1) n k c) = w4 at *
    have K4 : mq_KI (mm_w w) n w4 := hL.KI.same (fun p x y hp => (en p x y (by omega)).trans (k1 p x y (by omega)))
    refine c_M_tree (d := d + 1) (by omega) K4 hk hc (fun w' k2 e9 O' => ?_)
    obtain ⟨hL', hV, hsg⟩ := mL_after hL k1 F1 r1 en k2 e9 O'
    rw [← mt_ans_congr F1.1.1 hl hsg hV]
    refine ⟨fun y => absurd y hz, fun _ e1' => ⟨_, rfl, mL_thr (by omega) e1' mL_0 (fun _ => ⟨?_, hrng w1 F1 e41⟩) (hK xs' w' n hL')⟩⟩
    rw [k2 33 0 0 (fun z => by omega) (by decide), e33]
theorem mL_FI {n : Int} {w w' : mj_w} (hF : mf_FI w) (hG : mj_GI w') (hct : ∀ r : Int, 0 ≤ r → r < w' 1 0 0 → (w' 3 ((r + 1) * 4) 0 = -1 → w' 3 ((r + 1) * 4 + 1) 0 = -1) ∧ (w' 3 ((r + 1) * 4 + 1) 0 = -1 → w' 3 ((r + 1) * 4 + 2) 0 = -1)) (hlen : 0 ≤ w' 4 0 0 ∧ w' 4 0 0 ≤ 12) (ht : ∀ a : Int, 0 ≤ a → a < w' 4 0 0 → 8 ≤ w' 5 a 0 ∧ w' 5 a 0 < 12) (h16 : ∀ a b : Int, w' 16 a b = w 16 a b) (h3 : 0 ≤ w' 11 3 0 ∧ w' 11 3 0 ≤ w' 4 0 0 + 1) (h3' : w' 11 3 0 ≤ w 11 3 0) (hsg : ∀ a b : Int, 0 ≤ a → a ≤ b → b < w' 11 3 0 → mf_sg w w' a b) : mf_FI w' := by
  have H' : mf_H w' := ⟨hG, hct, hlen, ht, fun c c0 c1 => by rw [h16]; exact hF.1.2.2.2.2 c c0 c1⟩
  refine ⟨H', h3, fun a b a0 ab b1 => ?_⟩
  exact (hF.2.2 a b a0 ab (by omega)).congr hF.1.1 H'.1 hF.1.rv H'.rv ab (hsg a b a0 ab b1) (fun s x y _ _ _ _ _ => by rw [mf_V_same (w := w) (w' := w') h16])
theorem mL_sg5 {w w' : mj_w} {i j : Int} (h : ∀ (p : Nat) (a b : Int), (p = 1 ∨ p = 2 ∨ p = 3) → w' p a b = w p a b) (h5 : ∀ a : Int, i ≤ a → a < j → w' 5 a 0 = w 5 a 0) : mf_sg w w' i j := ⟨h 1 0 0 (by omega), fun r _ _ => ⟨h 2 r 0 (by omega), fun _ _ _ => h 3 _ 0 (by omega)⟩, h5⟩
theorem L_back (hn : 34 ≤ nn) (hL : mL n w) {a : Int} (ha : mj_i a) (hK : ∀ (xs' : mj_M) (w' : mj_w) (n' : Int), mL n' w' → K xs' w') :
    mj_J g y_La_back (d + 7) 1 6 (0, [some (mj_R 0), some (.inl a), some (mj_R 33), none], [], mj_mem nn xs w) (mj_PX nn xs (fun v w55 => ∃ x56 : Int, v = some (.inl x56) ∧ ∀ xs57 : mj_M, xs57.length ≤ xs.length + 1 → (mj_J g y_Mo_back (d + 7) 0 0 (0, [some (mj_R 21), some (.inl a)], [], mj_mem nn xs57 w55) (mj_P nn xs57 (fun v w59 => ∃ x60 : Int, v = some (.inl x60) ∧ (mj_J g y_Mo_thrown (d + 7) 0 0 (0, [some (mj_R 21)], [], mj_mem nn xs57 w59) (mj_P nn xs57 (fun v w61 => ∃ x62 : Int, v = some (.inl x62) ∧ (mj_i x62 ∧ mj_i x56 ∧ (x62 = x56 → ((x56 = 0 → (mj_i x60 ∧ mj_l (w61 33 0 0) ∧ mj_l x60 ∧ ((w61 33 0 0) = x60 → (K xs57 w61)) ∧ (¬ (w61 33 0 0) = x60 → P0))) ∧ (¬ x56 = 0 → (K xs57 w61)))) ∧ (¬ x62 = x56 → P0)))))))))) := by
  have hl := hL.2.1.1.2.1
  have e4 := hL.1.2.1
  have e6 := hL.2.1.2.1
  have h3 := hL.1.2.2.2.1
  refine v_La_back_0 hn (c_CF_back (by omega) ha hL.CI' (by omega) (fun z => Or.inr ⟨rfl, ⟨_, rfl, fun xs' _ => ?_⟩⟩) (fun z1 z2 w1 f1 t4 t3 C1 => Or.inl ⟨_, rfl, ⟨by omega, by omega⟩, ?_⟩))
  · refine c_M_back (d := d + 6) (by omega) ha hL.MI' (fun _ w' rf => ⟨_, rfl, mL_thr (by omega) rf.2 mL_1 (fun y => absurd y (by decide)) (hK xs' w' n (hL.rfc rf))⟩) (fun y1 y2 => absurd ⟨y1, by omega⟩ z)
  · rw [e4] at t4 t3 C1 ⊢
    rintro w4 rfl
    refine ⟨_, rfl, fun xs' _ => ?_⟩
    have en : ∀ (p : Nat) (x y : Int), p ≠ 33 → mj_wu w1 33 0 0 (n - a) p x y = w1 p x y := fun p x y hp => mj_wu_n (fun z => hp z.1)
    have e33 : mj_wu w1 33 0 0 (n - a) 33 0 0 = n - a := by unfold mj_wu; simp
    generalize mj_wu w1 33 0 0 (n - a) = w4 at *
    have em : ∀ (p : Nat) (x y : Int), 21 ≤ p → p ≤ 32 → w4 p x y = w p x y := fun p x y h1 h2 => (en p x y (by omega)).trans (f1 p x y (fun z => by omega) (fun z => by omega))
    have M4 : mL_M n w4 := hL.2.1.congr (fun p x y h1 h2 _ => em p x y h1 h2)
    have e64 := M4.2.1
    refine c_M_back (d := d + 6) (by omega) ha (by rw [e64]; exact M4.1) (fun y => absurd ⟨z1, by omega⟩ y) (fun y1 y2 w' f2 t1 t6 t9 C2 => ⟨_, rfl, mL_thr (by omega) t1 mL_0 (fun _ => ⟨?_, ⟨by omega, by omega⟩⟩) (hK xs' w' (n - a) ?_)⟩)
    · rw [f2 33 0 0 (fun z => by omega), e33, e64]
    · rw [e64] at t6 C2
      have el : ∀ (p : Nat) (x y : Int), p < 21 → w' p x y = w1 p x y := fun p x y hp => (f2 p x y (fun z => by omega)).trans (en p x y (by omega))
      have ef : ∀ (p : Nat) (x y : Int), p < 21 → ¬ (p = 4 ∧ x = 0 ∧ y = 0) → ¬ (p = 11 ∧ x = 3 ∧ y = 0) → w' p x y = w p x y := fun p x y hp z1 z2 => (el p x y hp).trans (f1 p x y z1 z2)
      have hs : mj_same n w' (mm_w w') := mL_same hL.2.2 (fun p x y hp => ef p x y (by omega) (fun z => by omega) (fun z => by omega)) ((f2 21 0 0 (fun z => by omega)).trans (em 21 0 0 (by omega) (by omega))) ((f2 21 2 0 (fun z => by omega)).trans (em 21 2 0 (by omega) (by omega))) (fun p x hp => (f2 p x 0 (fun z => by omega)).trans (em p x 0 (by omega) (by omega)))
      have hs' : mj_same (n - a) w' (mm_w w') := ⟨hs.1, hs.2.1, hs.2.2.1, fun x x0 x1 => hs.2.2.2.1 x x0 (by omega), hs.2.2.2.2⟩
      have t4' : w' 4 0 0 = n - a := (el 4 0 0 (by omega)).trans t4
      have t3' : w' 11 3 0 = mj_min (w 11 3 0) (n - a + 1) := (el 11 3 0 (by omega)).trans t3
      have hmin : mj_min (w 11 3 0) (n - a + 1) ≤ w 11 3 0 ∧ mj_min (w 11 3 0) (n - a + 1) ≤ n - a + 1 ∧ 0 ≤ mj_min (w 11 3 0) (n - a + 1) := by
        unfold mj_min
        split <;> omega
      have C1' : mj_CI (n - a) w' := C1.congr (mL_low (fun p x y hp _ => el p x y (by omega))) (fun x _ => el 5 x 0 (by omega)) (fun f _ _ => el 8 f 0 (by omega))
      refine ⟨⟨C1', t4', mL_FI (n := n) hL.1.2.2 C1'.1 (mL_cont hs' C2.1) (by omega) (fun x x0 x1 => ?_) (fun x y => ef 16 x y (by omega) (fun z => by omega) (fun z => by omega)) (by omega) (by omega) (fun x y x0 xy y1 => mL_sg5 (fun p u v hp => ef p u v (by omega) (fun z => by omega) (fun z => by omega)) (fun u _ _ => ef 5 u 0 (by omega) (fun z => by omega) (fun z => by omega)))⟩, ⟨C2, t6, Or.inl t9, fun z => absurd t9 z⟩, hs'⟩
      · rw [ef 5 x 0 (by omega) (fun z => by omega) (fun z => by omega)]
        exact hL.1.2.2.1.2.2.2.1 x x0 (by omega)
theorem L_feed (hn : 34 ≤ nn) (hL : mL n w) {a : Int} (ha : mj_i a) (hK : ∀ (xs' : mj_M) (w' : mj_w) (n' : Int), mL n' w' → K xs' w') :
    mj_J g y_La_feed (d + 7) 1 6 (0, [some (mj_R 0), some (.inl a), some (mj_R 33), none], [], mj_mem nn xs w) (mj_PX nn xs (fun v w36 => ∃ x37 : Int, v = some (.inl x37) ∧ ∀ xs38 : mj_M, xs38.length ≤ xs.length + 1 → (mj_J g y_Mo_feed (d + 7) 0 0 (0, [some (mj_R 21), some (.inl a)], [], mj_mem nn xs38 w36) (mj_P nn xs38 (fun v w40 => ∃ x41 : Int, v = some (.inl x41) ∧ (mj_J g y_Mo_thrown (d + 7) 0 0 (0, [some (mj_R 21)], [], mj_mem nn xs38 w40) (mj_P nn xs38 (fun v w42 => ∃ x43 : Int, v = some (.inl x43) ∧ (mj_i x43 ∧ mj_i x37 ∧ (x43 = x37 → ((x37 = 0 → (mj_i x41 ∧ mj_l (w42 33 0 0) ∧ mj_l x41 ∧ ((w42 33 0 0) = x41 → (K xs38 w42)) ∧ (¬ (w42 33 0 0) = x41 → P0))) ∧ (¬ x37 = 0 → (K xs38 w42)))) ∧ (¬ x43 = x37 → P0)))))))))) := by
  have hl := hL.2.1.1.2.1
  have e4 := hL.1.2.1
  have e6 := hL.2.1.2.1
  have hs := hL.2.2
  have h3 := hL.1.2.2.2.1
  have hex : mj_ex w n (a - 8) ↔ mj_ex (mm_w (mj_wu w 21 1 0 0)) n (a - 8) := by
    rw [(mm_rf_wu w 0).mw]
    exact hL.ex hl.1 (Int.le_refl _) (a - 8)
  refine v_La_feed_0 hn (c_CF_feed (by omega) ha hL.CI' (fun z => Or.inr (Or.inl ⟨rfl, ⟨_, rfl, fun xs' _ => ?_⟩⟩)) (fun z1 z2 => Or.inr (Or.inr (Or.inl ⟨rfl, ⟨_, rfl, fun xs' _ => ?_⟩⟩))) (fun z1 z2 z3 => Or.inr (Or.inr (Or.inr ⟨rfl, ⟨_, rfl, fun xs' _ => ?_⟩⟩))) (fun z1 z2 z3 w1 f1 t4 t5 C1 => Or.inl ⟨_, rfl, ?_, ?_⟩))
  · exact c_M_feed (d := d + 1) (by omega) ha hL.MI' (fun _ w' rf => ⟨_, rfl, mL_thr (by omega) rf.2 mL_1 (fun y => absurd y (by decide)) (hK xs' w' n (hL.rfc rf))⟩) (fun y => absurd y z) (fun y => absurd y z) (fun y => absurd y z)
  · exact c_M_feed (d := d + 1) (by omega) ha hL.MI' (fun y => absurd z1 y) (fun _ _ w' rf => ⟨_, rfl, mL_thr (by omega) rf.2 mL_2 (fun y => absurd y (by decide)) (hK xs' w' n (hL.rfc rf))⟩) (fun _ y => absurd y (by omega)) (fun _ y => absurd y (by omega))
  · rw [e4] at z3
    exact c_M_feed (d := d + 1) (by omega) ha hL.MI' (fun y => absurd z1 y) (fun _ y => absurd y (by omega)) (fun _ _ _ w' rf => ⟨_, rfl, mL_thr (by omega) rf.2 mL_3 (fun y => absurd y (by decide)) (hK xs' w' n (hL.rfc rf))⟩) (fun _ _ y => by rw [e6] at y; exact absurd (hex.mpr y) z3)
  · have : mj_ct w1 (w 4 0 0 + 1) ≤ 572 := mj_cn_le _ _
    exact ⟨by omega, by omega⟩
  · rw [e4] at z3 f1 t4 t5 C1 ⊢
    rintro w4 rfl
    refine ⟨_, rfl, fun xs' _ => ?_⟩
    have en : ∀ (p : Nat) (x y : Int), p ≠ 33 → mj_wu w1 33 0 0 (mj_ct w1 (n + 1) : Int) p x y = w1 p x y := fun p x y hp => mj_wu_n (fun z => hp z.1)
    have e33 : mj_wu w1 33 0 0 (mj_ct w1 (n + 1) : Int) 33 0 0 = (mj_ct w1 (n + 1) : Int) := by unfold mj_wu; simp
    generalize mj_wu w1 33 0 0 (mj_ct w1 (n + 1) : Int) = w4 at *
    have em : ∀ (p : Nat) (x y : Int), 21 ≤ p → p ≤ 32 → w4 p x y = w p x y := fun p x y h1 h2 => (en p x y (by omega)).trans (f1 p x y (fun z => by omega) (fun z => by omega) (by omega) (by omega) (by omega) (by omega) (fun z => by omega))
    have M4 : mL_M n w4 := hL.2.1.congr (fun p x y h1 h2 _ => em p x y h1 h2)
    have e64 := M4.2.1
    have ew4 : mm_w (mj_wu w4 21 1 0 0) = mm_w w := ((mm_rf_wu w4 0).mw).trans (mm_w_congr (em 21 0 0 (by omega) (by omega)) (em 21 2 0 (by omega) (by omega)) (fun p x hp => em p x 0 (by omega) (by omega)))
    have hex4 : mj_ex (mm_w (mj_wu w4 21 1 0 0)) n (a - 8) := by rw [ew4]; exact (hL.ex hl.1 (Int.le_refl _) (a - 8)).mp z3
    refine c_M_feed (d := d + 1) (by omega) ha (by rw [e64]; exact M4.1) (fun y => absurd z1 y) (fun _ y => absurd y (by omega)) (fun _ _ y => by rw [e64] at y; exact absurd hex4 y) (fun _ _ _ w' f2 t1 t6 t9 t25 C2 => ⟨_, rfl, ?_⟩)
    rw [e64] at f2 t6 t25 C2 ⊢
    have el : ∀ (p : Nat) (x y : Int), p < 21 → w' p x y = w1 p x y := fun p x y hp => (f2 p x y (fun z => by omega) (fun z => by omega) (by omega)).trans (en p x y (by omega))
    have ef : ∀ (p : Nat) (x y : Int), p < 21 → ¬ (p = 4 ∧ x = 0 ∧ y = 0) → ¬ (p = 5 ∧ x = n ∧ y = 0) → p ≠ 7 → p ≠ 8 → p ≠ 9 → p ≠ 10 → ¬ (p = 6 ∧ (x = 6 ∨ x = 7)) → w' p x y = w p x y := fun p x y hp z1 z2 z3 z4 z5 z6 z7 => (el p x y hp).trans (f1 p x y z1 z2 z3 z4 z5 z6 z7)
    have eM : ∀ (p : Nat) (x y : Int), 21 ≤ p → p ≤ 25 → ¬ (p = 21 ∧ (x = 1 ∨ x = 6 ∨ x = 9) ∧ y = 0) → ¬ (p = 25 ∧ x = n ∧ y = 0) → w' p x y = w p x y := fun p x y h1 h2 z1 z2 => (f2 p x y z1 z2 (by omega)).trans (em p x y h1 (by omega))
    have t4' : w' 4 0 0 = n + 1 := (el 4 0 0 (by omega)).trans t4
    have t5' : w' 5 n 0 = a := (el 5 n 0 (by omega)).trans t5
    have hs' : mj_same (n + 1) w' (mm_w w') := by
      have g1 : w' 1 0 0 = w 1 0 0 := ef 1 0 0 (by omega) (fun z => by omega) (fun z => by omega) (by decide) (by decide) (by decide) (by decide) (fun z => by omega)
      refine ⟨?_, fun r r0 r1 => ?_, fun s s0 s1 => ?_, fun x x0 x1 => ?_, ?_⟩
      · show w' 21 2 0 = w' 1 0 0
        rw [g1, eM 21 2 0 (by omega) (by omega) (fun z => by omega) (fun z => by omega)]
        exact hs.1
      · show w' 22 r 0 = w' 2 r 0
        rw [eM 22 r 0 (by omega) (by omega) (fun z => by omega) (fun z => by omega), ef 2 r 0 (by omega) (fun z => by omega) (fun z => by omega) (by decide) (by decide) (by decide) (by decide) (fun z => by omega)]
        exact hs.2.1 r r0 (by rw [← g1]; exact r1)
      · show mm_bh w' s = w' 3 s 0
        rw [ef 3 s 0 (by omega) (fun z => by omega) (fun z => by omega) (by decide) (by decide) (by decide) (by decide) (fun z => by omega), ← hs.2.2.1 s s0 s1]
        show mm_bh w' s = mm_bh w s
        unfold mm_bh mm_len
        rw [eM 23 _ 0 (by omega) (by omega) (fun z => by omega) (fun z => by omega), eM 24 _ 0 (by omega) (by omega) (fun z => by omega) (fun z => by omega)]
      · show w' 25 x 0 = w' 5 x 0
        by_cases q : x = n
        · rw [q, t25, t5']
        · rw [eM 25 x 0 (by omega) (by omega) (fun z => by omega) (fun z => by omega), ef 5 x 0 (by omega) (fun z => by omega) (fun z => by omega) (by decide) (by decide) (by decide) (by decide) (fun z => by omega)]
          exact hs.2.2.2.1 x x0 (by omega)
      · show w' 21 0 0 = w' 6 1 0
        rw [eM 21 0 0 (by omega) (by omega) (fun z => by omega) (fun z => by omega), ef 6 1 0 (by omega) (fun z => by omega) (fun z => by omega) (by decide) (by decide) (by decide) (by decide) (fun z => by omega)]
        exact hs.2.2.2.2
    have C1' : mj_CI (n + 1) w' := C1.congr (mL_low (fun p x y hp _ => el p x y (by omega))) (fun x _ => el 5 x 0 (by omega)) (fun f _ _ => el 8 f 0 (by omega))
    have t3' : w' 11 3 0 = w 11 3 0 := ef 11 3 0 (by omega) (fun z => by omega) (fun z => by omega) (by decide) (by decide) (by decide) (by decide) (fun z => by omega)
    have hF' : mf_FI w' := mL_FI (n := n) hL.1.2.2 C1'.1 (mL_cont hs' C2.1) (by omega) (fun x x0 x1 => by
      by_cases q : x = n
      · rw [q, t5']; omega
      · rw [ef 5 x 0 (by omega) (fun z => by omega) (fun z => by omega) (by decide) (by decide) (by decide) (by decide) (fun z => by omega)]
        exact hL.1.2.2.1.2.2.2.1 x x0 (by omega)) (fun x y => ef 16 x y (by omega) (fun z => by omega) (fun z => by omega) (by decide) (by decide) (by decide) (by decide) (fun z => by omega)) (by omega) (by omega) (fun x y x0 xy y1 => mL_sg5 (fun p u v hp => ef p u v (by omega) (fun z => by omega) (fun z => by omega) (by omega) (by omega) (by omega) (by omega) (fun z => by omega)) (fun u u0 u1 => ef 5 u 0 (by omega) (fun z => by omega) (fun z => by omega) (by decide) (by decide) (by decide) (by decide) (fun z => by omega)))
    have hL' : mL (n + 1) w' := ⟨⟨C1', t4', hF'⟩, ⟨C2, t6, Or.inl t9, fun z => absurd t9 z⟩, hs'⟩
    refine mL_thr (by omega) t1 mL_0 (fun _ => ⟨?_, ?_⟩) (hK xs' w' (n + 1) hL')
    · rw [f2 33 0 0 (fun z => by omega) (fun z => by omega) (by decide), e33]
      have e : mj_ct w' (n + 1) = mm_ct w' (n + 1) := mm_ct_eq (fun s o hr => hL'.items.1 (n + 1) s o (by omega) (Int.le_refl _) hr)
      have e2 : mj_ct w' (n + 1) = mj_ct w1 (n + 1) := by
        unfold mj_ct
        exact mj_cn_congr 572 (fun k _ => by rw [el 7 _ _ (by omega)])
      rw [← e2, e]
    · have : mm_ct w' (n + 1) ≤ 572 := mj_cn_le _ _
      exact ⟨by omega, by omega⟩
theorem L_rule (hn : 34 ≤ nn) (hL : mL n w) {a b c : Int} (ha : mj_i a) (hb : mj_i b) (hc : mj_i c) (hK : ∀ (xs' : mj_M) (w' : mj_w) (n' : Int), mL n' w' → K xs' w') :
    mj_J g y_La_rule (d + 7) 1 6 (0, [some (mj_R 0), some (.inl a), some (.inl b), some (.inl c), some (mj_R 33), none], [], mj_mem nn xs w) (mj_PX nn xs (fun v w17 => ∃ x18 : Int, v = some (.inl x18) ∧ ∀ xs19 : mj_M, xs19.length ≤ xs.length + 1 → (mj_J g y_Mo_rule (d + 7) 0 0 (0, [some (mj_R 21), some (.inl a), some (.inl b), some (.inl c), none, none], [], mj_mem nn xs19 w17) (mj_P nn xs19 (fun v w21 => ∃ x22 : Int, v = some (.inl x22) ∧ (mj_J g y_Mo_thrown (d + 7) 0 0 (0, [some (mj_R 21)], [], mj_mem nn xs19 w21) (mj_P nn xs19 (fun v w23 => ∃ x24 : Int, v = some (.inl x24) ∧ (mj_i x24 ∧ mj_i x18 ∧ (x24 = x18 → ((x18 = 0 → (mj_i x22 ∧ mj_l (w23 33 0 0) ∧ mj_l x22 ∧ ((w23 33 0 0) = x22 → (K xs19 w23)) ∧ (¬ (w23 33 0 0) = x22 → P0))) ∧ (¬ x18 = 0 → (K xs19 w23)))) ∧ (¬ x24 = x18 → P0)))))))))) := by
  have hl := hL.2.1.1.2.1
  have e4 := hL.1.2.1
  have e6 := hL.2.1.2.1
  have hs := hL.2.2
  have h3 := hL.1.2.2.2.1
  have e1 : w 21 2 0 = w 1 0 0 := hs.1
  have hG := hL.2.1.1.1
  have hcnt := hL.1.1.1.1
  refine v_La_rule_0 hn (c_CF_rule (by omega) ha hb hL.CI' (by omega) (fun z => Or.inr (Or.inl ⟨rfl, ⟨_, rfl, fun xs' _ => ?_⟩⟩)) (fun z1 z2 z3 => Or.inr (Or.inr ⟨rfl, ⟨_, rfl, fun xs' _ => ?_⟩⟩)) (fun z1 z2 z3 z4 w1 f1 gr1 C1 t3 => Or.inl ⟨_, rfl, ⟨by omega, by omega⟩, ?_⟩))
  · exact c_M_rule (d := d + 1) (by omega) ha hb hc hL.MI' (fun _ w' rf => ⟨_, rfl, mL_thr (by omega) rf.2 mL_1 (fun y => absurd y (by decide)) (hK xs' w' n (hL.rfc rf))⟩) (fun y1 y2 => absurd ⟨y1, y2⟩ z) (fun y1 y2 => absurd ⟨y1, y2⟩ z)
  · exact c_M_rule (d := d + 1) (by omega) ha hb hc hL.MI' (fun y => absurd ⟨z1, z2⟩ y) (fun _ _ _ w' rf => ⟨_, rfl, mL_thr (by omega) rf.2 mL_2 (fun y => absurd y (by decide)) (hK xs' w' n (hL.rfc rf))⟩) (fun _ _ y1 y2 => by omega)
  · rintro w4 rfl
    refine ⟨_, rfl, fun xs' _ => ?_⟩
    have n0 : n = 0 := by omega
    have en : ∀ (p : Nat) (x y : Int), p ≠ 33 → mj_wu w1 33 0 0 (w 1 0 0) p x y = w1 p x y := fun p x y hp => mj_wu_n (fun z => hp z.1)
    have e33 : mj_wu w1 33 0 0 (w 1 0 0) 33 0 0 = w 1 0 0 := by unfold mj_wu; simp
    generalize mj_wu w1 33 0 0 (w 1 0 0) = w4 at *
    have em : ∀ (p : Nat) (x y : Int), 21 ≤ p → p ≤ 32 → w4 p x y = w p x y := fun p x y h1 h2 => (en p x y (by omega)).trans (f1 p x y (by omega) (by omega) (by omega) (by omega) (by omega) (by omega) (fun z => by omega) (fun z => by omega))
    have M4 : mL_M n w4 := hL.2.1.congr (fun p x y h1 h2 _ => em p x y h1 h2)
    have e64 := M4.2.1
    have e24 : w4 21 2 0 = w 1 0 0 := (em 21 2 0 (by omega) (by omega)).trans e1
    refine c_M_rule (d := d + 1) (by omega) ha hb hc (by rw [e64]; exact M4.1) (fun y => absurd ⟨z1, z2⟩ y) (fun _ _ y => by omega) (fun _ _ _ _ w' f2 t1 t9 gr2 C2 => ⟨_, rfl, ?_⟩)
    have el : ∀ (p : Nat) (x y : Int), p < 21 → w' p x y = w1 p x y := fun p x y hp => (f2 p x y (fun z => by omega) (by omega) (by omega) (by omega) (by omega)).trans (en p x y (by omega))
    obtain ⟨a1, a2, a3, a4, a5⟩ := gr1
    obtain ⟨b1, b2, b3, b4, b5, b6, b7⟩ := gr2
    rw [e24] at b1 b2 b3 b4 b5 b6 b7 ⊢
    have hbd : 0 ≤ b ∧ b ≤ 3 := ⟨z2.1, z2.2.1⟩
    have t4' : w' 4 0 0 = 0 := (el 4 0 0 (by omega)).trans ((f1 4 0 0 (by decide) (by decide) (by decide) (by decide) (by decide) (by decide) (fun z => by omega) (fun z => by omega)).trans z4)
    have t6' : w' 21 6 0 = 0 := (f2 21 6 0 (fun z => by omega) (by decide) (by decide) (by decide) (by decide)).trans (e64.trans n0)
    have hs' : mj_same 0 w' (mm_w w') := by
      refine ⟨?_, fun r r0 r1 => ?_, fun s s0 s1 => ?_, fun x x0 x1 => by omega, ?_⟩
      · show w' 21 2 0 = w' 1 0 0
        rw [el 1 0 0 (by omega), a1, b1]
      · show w' 22 r 0 = w' 2 r 0
        rw [el 1 0 0 (by omega), a1] at r1
        rw [el 2 r 0 (by omega)]
        by_cases q : r = w 1 0 0
        · rw [q, a2, b2]
        · rw [a3 r q, b3 r q, em 22 r 0 (by omega) (by omega)]
          exact hs.2.1 r r0 (by omega)
      · show mm_bh w' s = w' 3 s 0
        rw [el 3 s 0 (by omega)]
        by_cases q : s / 4 - 1 = w 1 0 0
        · have es : s = 4 * (w 1 0 0 + 1) + s % 4 := by omega
          have ml : mm_len w' (s / 4 - 1) = b := by
            unfold mm_len
            rw [if_neg (by omega), q]
            exact b4
          unfold mm_bh
          rw [ml]
          by_cases q1 : s % 4 < b
          · rw [if_pos q1, if_neg (by omega), q, b6 (s % 4) (by omega) q1, ← a4 (s % 4) (by omega) q1, ← es]
          · rw [if_neg q1, a5 s (Or.inr (by omega)), ← hs.2.2.1 s s0 s1]
            show -1 = mm_bh w s
            unfold mm_bh mm_len
            rw [if_neg (show ¬ s / 4 - 1 < 0 by omega), (hG.2.2.1 (s / 4 - 1) (by omega) (by omega)).2.2 (by omega), if_neg (by omega)]
        · have hsm : s < 4 * (w 1 0 0 + 1) ∨ 4 * (w 1 0 0 + 1) + b ≤ s := by omega
          rw [a5 s hsm, ← hs.2.2.1 s s0 s1]
          show mm_bh w' s = mm_bh w s
          have ml : mm_len w' (s / 4 - 1) = mm_len w (s / 4 - 1) := by
            unfold mm_len
            rw [b5 _ q, em 23 _ 0 (by omega) (by omega)]
          have mle : mm_len w (s / 4 - 1) ≤ 3 := by
            unfold mm_len
            by_cases q2 : s / 4 - 1 < 0
            · rw [if_pos q2]; decide
            · rw [if_neg q2]
              exact (hG.2.2.1 (s / 4 - 1) (by omega) (by omega)).2.1
          unfold mm_bh
          rw [ml]
          by_cases q1 : s % 4 < mm_len w (s / 4 - 1)
          · rw [if_pos q1, if_pos q1, b7 (3 * (s / 4 - 1) + s % 4) (by omega), em 24 _ 0 (by omega) (by omega)]
          · rw [if_neg q1, if_neg q1]
      · show w' 21 0 0 = w' 6 1 0
        rw [f2 21 0 0 (fun z => by omega) (by decide) (by decide) (by decide) (by decide), em 21 0 0 (by omega) (by omega), el 6 1 0 (by omega), f1 6 1 0 (by decide) (by decide) (by decide) (by decide) (by decide) (by decide) (fun z => by omega) (fun z => by omega)]
        exact hs.2.2.2.2
    have C1' : mj_CI 0 w' := C1.congr (mL_low (fun p x y hp _ => el p x y (by omega))) (fun x _ => el 5 x 0 (by omega)) (fun f _ _ => el 8 f 0 (by omega))
    have t3' : w' 11 3 0 = 0 := (el 11 3 0 (by omega)).trans t3
    have hF' : mf_FI w' := mL_FI (n := n) hL.1.2.2 C1'.1 (mL_cont hs' C2.1) (by omega) (fun x x0 x1 => by omega) (fun x y => (el 16 x y (by omega)).trans (f1 16 x y (by decide) (by decide) (by decide) (by decide) (by decide) (by decide) (fun z => by omega) (fun z => by omega))) (by omega) (by omega) (fun x y x0 xy y1 => by omega)
    have hL' : mL 0 w' := ⟨⟨C1', t4', hF'⟩, ⟨C2, t6', Or.inl t9, fun z => absurd t9 z⟩, hs'⟩
    refine mL_thr (by omega) t1 mL_0 (fun _ => ⟨?_, ⟨by omega, by omega⟩⟩) (hK xs' w' 0 hL')
    rw [f2 33 0 0 (fun z => by omega) (by decide) (by decide) (by decide) (by decide), e33]
end C88
