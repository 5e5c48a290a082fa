/-! ===== the reference: ways, trees, nodes ===== -/
theorem mq_OK.ways {u : mj_w} {n : Int} {w : mj_w} (h : mq_OK u n w) {s i j : Int} (hij : i ≤ j) : mf_ways u (mq_VD w) s i j = mf_ways u (mq_V w) s i j :=
  mf_ways_congr h.1.1.1.1 (by omega) (mq_sg_refl u i j) (fun q _ _ => by rw [mf_val_nz (mq_VD_rv w), mf_val_nz h.2.2.1.rv, h.2.2.1.nz])
theorem mq_KI.same {u : mj_w} {n : Int} {w w' : mj_w} (h : mq_KI u n w) (e : ∀ (p : Nat) (a b : Int), (p = 21 ∧ (a = 2 ∨ a = 6 ∨ a = 9)) ∨ (22 ≤ p ∧ p ≤ 25) ∨ (27 ≤ p ∧ p ≤ 29) → w' p a b = w p a b) : mq_KI u n w' := by
  obtain ⟨h1, h2, h3⟩ := h
  have e9 := e 21 9 0 (by omega)
  exact ⟨h1.same (fun p a b hp => e p a b (by omega)), by rw [e9]; exact h2, fun z => (h3 (by rw [← e9]; exact z)).same (fun p a b hp => e p a b (by omega))⟩
theorem mq_OK.KI {u : mj_w} {n : Int} {w : mj_w} (h : mq_OK u n w) (h9 : w 21 9 0 = 1) : mq_KI u n w := ⟨h.1, Or.inr h9, fun _ => h⟩
section C85
variable {g : mj_G} {nn d : Nat} {xs : mj_M} {Post : Option mj_V → mj_w → Prop} {u w : mj_w} {n : Int}
theorem c_M_isStretch (hn : 33 ≤ nn) {s i j : Int} (hs : mj_i s) (hi : mj_i i) (hj : mj_i j) (hl : w 21 6 0 = n) (hn12 : 0 ≤ n ∧ n ≤ 12) (h1 : (0 ≤ s ∧ s < 5) → 0 ≤ i → i ≤ j → j ≤ n → Post (some (.inl 1)) w) (h0 : ¬ ((0 ≤ s ∧ s < 5) ∧ 0 ≤ i ∧ i ≤ j ∧ j ≤ n) → Post (some (.inl 0)) w) :
    mj_J g y_Mo_isStretch (d + 1) 0 0 (0, [some (mj_R 21), some (.inl s), some (.inl i), some (.inl j)], [], mj_mem nn xs w) (mj_P nn xs Post) := by
  have rest : (0 ≤ s ∧ s < 5) → mj_i i ∧ (i < 0 → Post (some (.inl 0)) w) ∧ (¬ i < 0 → (mj_i j ∧ (j < i → (Post (some (.inl 0)) w)) ∧ (¬ j < i → (mj_i (w 21 6 0) ∧ ((w 21 6 0) < j → (Post (some (.inl 0)) w)) ∧ (¬ (w 21 6 0) < j → (Post (some (.inl 1)) w)))))) := fun qs =>
    ⟨hi, fun q => h0 (by omega), fun q => ⟨hj, fun q1 => h0 (by omega), fun q1 => ⟨⟨by omega, by omega⟩, fun q2 => h0 (by omega), fun q2 => h1 qs (by omega) (by omega) (by omega)⟩⟩⟩
  refine v_Mo_isStretch_0 hn (v_Mo_isNonterminal_0 hn ⟨hs, fun q => ⟨_, rfl, ⟨by decide, by decide⟩, fun _ => h0 (by omega), fun z => absurd rfl z⟩, fun q => ⟨fun q1 => ⟨_, rfl, ⟨by decide, by decide⟩, fun _ => h0 (by omega), fun z => absurd rfl z⟩, fun q1 => ⟨_, rfl, ⟨by decide, by decide⟩, fun z => absurd z (by decide), fun _ => rest (by omega)⟩⟩⟩)
theorem c_M_ways_31 (hn : 33 ≤ nn) {w0 : mj_w} (hO : mq_OK u n w0) {s i j : Int} (hs : 0 ≤ s ∧ s < 5) (hi : 0 ≤ i) (hij : i ≤ j) (hj : j ≤ n) {t : Int}
    (h : ∀ w', mq_cf w0 w' → Post (some (.inl t)) w') :
    ∀ (m : Nat) (w : mj_w) (x : Int), (m : Int) ≤ u 1 0 0 → mq_cf w0 w → x + ((mf_rl u (mq_VD w0) s i j m).length : Int) = t →
    mj_J g y_Mo_ways (d + 6) 0 0 (31, [some (mj_R 21), some (.inl s), some (.inl i), some (.inl j), some (.inl x), some (.inl (u 1 0 0 - (m : Int)))], [], mj_mem nn xs w) (mj_P nn xs Post) := by
  intro m
  have hB := hO.1
  have hcnt := hB.1.1
  have hn12 := hB.2.1
  induction m with
  | zero =>
    intro w x hm hf ht
    have e2 : w 21 2 0 = u 1 0 0 := (hf.B hB).2.2.2.1
    refine v_Mo_ways_31 (d := d + 5) hn ⟨⟨by omega, by omega⟩, ⟨by omega, by omega⟩, fun q => by omega, fun _ => ?_⟩
    have : x = t := by rw [← ht]; show x = x + 0; omega
    rw [this]
    exact h w hf
  | succ m ih =>
    intro w x hm hf ht
    have e2 : w 21 2 0 = u 1 0 0 := (hf.B hB).2.2.2.1
    have er : u 1 0 0 - ((m + 1 : Nat) : Int) = u 1 0 0 - ((m : Int) + 1) := by omega
    rw [er]
    have hrr : 0 ≤ u 1 0 0 - ((m : Int) + 1) ∧ u 1 0 0 - ((m : Int) + 1) < u 1 0 0 := by omega
    have e22 : w 22 (u 1 0 0 - ((m : Int) + 1)) 0 = u 2 (u 1 0 0 - ((m : Int) + 1)) 0 := ((hf.B hB).2.2.2.2.2.1 _ hrr.1 hrr.2).1
    have hl := hB.1.2.1 _ hrr.1 hrr.2
    have enx : u 1 0 0 - ((m : Int) + 1) + 1 = u 1 0 0 - (m : Int) := by omega
    have hlist : mf_rl u (mq_VD w0) s i j (m + 1) = (if u 2 (u 1 0 0 - ((m : Int) + 1)) 0 = s then mf_out u (mq_VD w0) (u 1 0 0 - ((m : Int) + 1)) i j (j - i + 1).toNat else []) ++ mf_rl u (mq_VD w0) s i j m := rfl
    rw [hlist, List.length_append] at ht
    refine v_Mo_ways_31 (d := d + 5) hn ⟨⟨by omega, by omega⟩, ⟨by omega, by omega⟩, fun q => ⟨by omega, by omega, by rw [e22]; exact ⟨by omega, by omega⟩, ⟨by omega, by omega⟩, fun q1 => ?_, fun q1 => ?_⟩, fun q => by omega⟩
    · rw [e22] at q1
      rw [if_pos q1] at ht
      refine c_M_waysBy (d := d + 2) hn (hf.B hB) (hf.r27 hO.2.1) hrr hi hij hj (fun w9 f9 => ⟨_, rfl, ?_⟩)
      rw [enx, hf.VD]
      exact ih w9 _ (by omega) (hf.trans f9) (by omega)
    · rw [e22] at q1
      rw [if_neg q1] at ht
      rw [enx]
      exact ih w _ (by omega) hf (by have : (([] : List (Int × Int × Int)).length : Int) = 0 := rfl; omega)
theorem c_M_ways (hn : 33 ≤ nn) (hK : mq_KI u n w) {s i j : Int} (hs : mj_i s) (hi : mj_i i) (hj : mj_i j) (h1 : ¬ ((0 ≤ s ∧ s < 5) ∧ 0 ≤ i ∧ i ≤ j ∧ j ≤ n) → ∀ w', mm_rf 1 w w' → Post (some (.inl 0)) w')
    (h : (0 ≤ s ∧ s < 5) → 0 ≤ i → i ≤ j → j ≤ n → ∀ w', mq_k w w' → w' 21 1 0 = 0 → w' 21 9 0 = 1 → mq_OK u n w' → Post (some (.inl ((mf_ways u (mq_V w') s i j).length : Int))) w') :
    mj_J g y_Mo_ways (d + 6) 0 0 (0, [some (mj_R 21), some (.inl s), some (.inl i), some (.inl j), none, none], [], mj_mem nn xs w) (mj_P nn xs Post) := by
  refine v_Mo_ways_0 (d := d + 5) hn ?_
  rintro w1 rfl
  have rf := mm_rf_wu w 0
  generalize mj_wu w 21 1 0 0 = w1 at *
  have K1 : mq_KI u n w1 := hK.same (fun p a b hp => rf.1 p a b (fun z => by omega))
  have hn12 := K1.1.2.1
  refine c_M_isStretch (d := d + 4) hn hs hi hj K1.1.2.2.2.2.1 hn12 (fun s0 i0 ij j1 => ⟨_, rfl, ⟨by decide, by decide⟩, fun z => absurd z (by decide), fun _ => ?_⟩) (fun z => ⟨_, rfl, ⟨by decide, by decide⟩, fun _ => c_M_refuse hn rf (fun w' rf' => ⟨_, rfl, h1 z w' rf'⟩), fun z => absurd rfl z⟩)
  refine c_M_work (d := d) hn K1 (fun w9 f9 e9 O9 => ⟨rfl, ?_⟩)
  have hcnt := O9.1.1.1
  have := c_M_ways_31 (d := d) (g := g) (xs := xs) (Post := Post) hn O9 s0 i0 ij j1 (fun w' f' => ?_) (u 1 0 0).toNat w9 0 (by omega) (mq_cf.refl w9) (Int.zero_add _)
  · rw [show u 1 0 0 - (((u 1 0 0).toNat : Nat) : Int) = 0 by omega] at this
    exact this
  · have O' : mq_OK u n w' := O9.same (fun p a b hp => f' p a b (fun z => by omega))
    have := h s0 i0 ij j1 w' (fun p a b z1 z2 => ((f' p a b (fun z => z1 (by omega))).trans (f9 p a b (fun z => z1 (by omega)) (fun z => z2 (by omega)))).trans (rf.1 p a b (fun z => z1 (by omega)))) (((f' 21 1 0 (fun z => by omega)).trans (f9 21 1 0 (fun z => by omega) (by decide))).trans rf.2) ((f' 21 9 0 (fun z => by omega)).trans e9) O'
    rw [f'.V, ← O9.ways ij] at this
    exact this
theorem c_M_treesOf (hn : 33 ≤ nn) (hO : mq_OK u n w) {s i j : Int} (hs : 0 ≤ s ∧ s < 5) (hi : 0 ≤ i) (hij : i ≤ j) (hj : j ≤ n) (h : Post (some (.inr (.inl (mq_V w s i j)))) w) :
    mj_J g y_Mo_treesOf (d + 1) 0 0 (0, [some (mj_R 21), some (.inl s), some (.inl i), some (.inl j), none], [], mj_mem nn xs w) (mj_P nn xs Post) := by
  have hn12 := hO.1.2.1
  have h5 := hO.2.2.2.2 s i j hs.1 hs.2 hi hij hj
  have h28 := hO.2.2.1.1 (169 * s + 13 * i + j) (by omega) (by omega)
  refine v_Mo_treesOf_0 hn (c_M_node hn ⟨_, rfl, by omega, by omega, by rcases h28 with z | z <;> rw [z] <;> exact ⟨by decide, by decide⟩, fun q => ?_, fun q => ?_⟩)
  · rw [← h5.1 q]; exact h
  · rw [← h5.2 q]; exact h
theorem c_M_trees (hn : 33 ≤ nn) (hK : mq_KI u n w) {s i j : Int} (hs : mj_i s) (hi : mj_i i) (hj : mj_i j) (h1 : ¬ ((0 ≤ s ∧ s < 5) ∧ 0 ≤ i ∧ i ≤ j ∧ j ≤ n) → ∀ w', mm_rf 1 w w' → Post (some (.inr (.inl 0))) w')
    (h : (0 ≤ s ∧ s < 5) → 0 ≤ i → i ≤ j → j ≤ n → ∀ w', mq_k w w' → w' 21 1 0 = 0 → w' 21 9 0 = 1 → mq_OK u n w' → Post (some (.inr (.inl (mq_V w' s i j)))) w') :
    mj_J g y_Mo_trees (d + 6) 0 0 (0, [some (mj_R 21), some (.inl s), some (.inl i), some (.inl j)], [], mj_mem nn xs w) (mj_P nn xs Post) := by
  refine v_Mo_trees_0 (d := d + 5) hn ?_
  rintro w1 rfl
  have rf := mm_rf_wu w 0
  generalize mj_wu w 21 1 0 0 = w1 at *
  have K1 : mq_KI u n w1 := hK.same (fun p a b hp => rf.1 p a b (fun z => by omega))
  have hn12 := K1.1.2.1
  refine c_M_isStretch (d := d + 4) hn hs hi hj K1.1.2.2.2.2.1 hn12 (fun s0 i0 ij j1 => ⟨_, rfl, ⟨by decide, by decide⟩, fun z => absurd z (by decide), fun _ => ?_⟩) (fun z => ⟨_, rfl, ⟨by decide, by decide⟩, fun _ => ?_, fun z => absurd rfl z⟩)
  · refine c_M_work (d := d) hn K1 (fun w9 f9 e9 O9 => ⟨rfl, ?_⟩)
    refine c_M_treesOf (d := d + 4) hn O9 s0 i0 ij j1 ⟨_, rfl, ?_⟩
    exact h s0 i0 ij j1 w9 (fun p a b z1 z2 => (f9 p a b (fun z => z1 (by omega)) (fun z => z2 (by omega))).trans (rf.1 p a b (fun z => z1 (by omega)))) ((f9 21 1 0 (fun z => by omega) (by decide)).trans rf.2) e9 O9
  · rintro w7 rfl
    exact h1 z _ rf.then
/-! nodes -/
def mp_K (w : mj_w) : Nat := mj_cn (fun c : Nat => decide (w 30 (c : Int) 0 ≠ 0)) 845
/-- where nodes stands -/
def mp_I (u : mj_w) (n : Int) (w0 w : mj_w) : Prop := (∀ (p : Nat) (a b : Int), ¬ (p = 21 ∧ (a = 14 ∨ a = 15)) → p ≠ 30 → w p a b = w0 p a b) ∧ (∀ c : Int, 0 ≤ c → c < 845 → w 30 c 0 = 0 ∨ w 30 c 0 = 1) ∧ ∀ T, mf_cl u (mq_V w0) n T → ∀ c : Int, 0 ≤ c → c < 845 → w 30 c 0 ≠ 0 → T c
theorem mp_I.OK {w0 : mj_w} (h : mp_I u n w0 w) (hO : mq_OK u n w0) : mq_OK u n w := hO.same (fun p a b hp => h.1 p a b (fun z => by omega) (by omega))
theorem mp_I.V {w0 : mj_w} (h : mp_I u n w0 w) : mq_V w = mq_V w0 := by
  funext s a b
  unfold mq_V
  rw [h.1 27 _ _ (fun z => by omega) (by decide), h.1 28 _ _ (fun z => by omega) (by decide), h.1 29 _ _ (fun z => by omega) (by decide)]
theorem mp_I.cf {w0 w' : mj_w} (h : mp_I u n w0 w) (hf : mq_cf w w') : mp_I u n w0 w' :=
  ⟨fun p a b z1 z2 => (hf p a b z1).trans (h.1 p a b z1 z2), fun c c0 c1 => by rw [hf.p (by decide)]; exact h.2.1 c c0 c1, fun T hT c c0 c1 hc => h.2.2 T hT c c0 c1 (by rw [← hf.p (p := 30) (by decide)]; exact hc)⟩
/-- x: was something met for the first time -/
def mp_G (x : Int) (w w' : mj_w) : Prop := (∀ c : Int, w 30 c 0 ≠ 0 → w' 30 c 0 ≠ 0) ∧ mp_K w ≤ mp_K w' ∧ ((x = 0 ∧ ∀ c : Int, w' 30 c 0 = w 30 c 0) ∨ (0 < x ∧ mp_K w + 1 ≤ mp_K w'))
theorem mp_G.refl (w : mj_w) : mp_G 0 w w := ⟨fun _ h => h, Nat.le_refl _, Or.inl ⟨rfl, fun _ => rfl⟩⟩
theorem mp_G.trans {x y : Int} {w w1 w2 : mj_w} (h : mp_G x w w1) (h' : mp_G y w1 w2) (x0 : 0 ≤ x) (y0 : 0 ≤ y) : mp_G (x + y) w w2 := by
  refine ⟨fun c hc => h'.1 c (h.1 c hc), Nat.le_trans h.2.1 h'.2.1, ?_⟩
  have k1 := h.2.1
  have k2 := h'.2.1
  rcases h.2.2 with ⟨a, b⟩ | ⟨a, b⟩
  · rcases h'.2.2 with ⟨c, e⟩ | ⟨c, e⟩
    · exact Or.inl ⟨by omega, fun k => (e k).trans (b k)⟩
    · exact Or.inr ⟨by omega, by omega⟩
  · exact Or.inr ⟨by omega, by omega⟩
theorem mp_G.cf {w w' : mj_w} (hf : mq_cf w w') : mp_G 0 w w' := by
  have e : ∀ c : Int, w' 30 c 0 = w 30 c 0 := fun c => hf.p (by decide) c 0
  refine ⟨fun c hc => by rw [e]; exact hc, ?_, Or.inl ⟨rfl, e⟩⟩
  unfold mp_K
  simp only [e]
  exact Nat.le_refl _
def mp_D (u : mj_w) (V : Int → Int → Int → Int) (c : Int) (q : Int × Int × Int) (w : mj_w) : Prop := ∀ k : Int, 0 ≤ k → k < 3 → 0 ≤ u 3 ((q.1 + 1) * 4 + k) 0 → u 3 ((q.1 + 1) * 4 + k) 0 < 5 → w 30 ((u 3 ((q.1 + 1) * 4 + k) 0 * 13 + mf_cu (c / 13 % 13) (c % 13) q k) * 13 + mf_cu (c / 13 % 13) (c % 13) q (k + 1)) 0 ≠ 0
theorem c_M_meet_6 (hn : 33 ≤ nn) {w0 w1 : mj_w} (hO : mq_OK u n w0) {c : Int} (hv : mf_vc n c) (hT : ∀ T, mf_cl u (mq_V w0) n T → T c) {r : Int} (hr : 0 ≤ r ∧ r < u 1 0 0) (hat : mq_at (c / 13 % 13) (c % 13) w1) {t : Int × Int × Int} (et : t = mq_t (w1 23 r 0) r (c % 13) (w1 21 14 0) (w1 21 15 0)) (hin : t ∈ mf_ways u (mq_V w0) (c / 169) (c / 13 % 13) (c % 13))
    (h : ∀ (w' : mj_w) (x : Int), mp_I u n w0 w' → (x = 0 ∨ x = 1) → mp_G x w1 w' → (∀ (p : Nat) (a b : Int), p ≠ 30 → w' p a b = w1 p a b) → mp_D u (mq_V w0) c t w' → Post (some (.inl x)) w') :
    ∀ (m : Nat) (k x : Int) (w : mj_w), 0 ≤ k → k ≤ w1 23 r 0 → (w1 23 r 0 - k).toNat = m → mp_I u n w0 w → (x = 0 ∨ x = 1) → mp_G x w1 w → (∀ (p : Nat) (a b : Int), p ≠ 30 → w p a b = w1 p a b) → (∀ k' : Int, 0 ≤ k' → k' < k → 0 ≤ u 3 ((r + 1) * 4 + k') 0 → u 3 ((r + 1) * 4 + k') 0 < 5 → w 30 ((u 3 ((r + 1) * 4 + k') 0 * 13 + mf_cu (c / 13 % 13) (c % 13) t k') * 13 + mf_cu (c / 13 % 13) (c % 13) t (k' + 1)) 0 ≠ 0) →
    mj_J g y_Mo_meet (d + 1) 0 0 (6, [some (mj_R 21), some (.inl r), some (.inl (c / 13 % 13)), some (.inl (c % 13)), some (.inl x), some (.inl k), none, none, none], [], mj_mem nn xs w) (mj_P nn xs Post) := by
  intro m
  have hB := hO.1
  have hcnt := hB.1.1
  have hn12 := hB.2.1
  have hv' := hv
  unfold mf_vc at hv'
  have etr : t.1 = r := by rw [et]; exact mq_t_r
  have hcut : mf_cut u (c / 13 % 13) (c % 13) t := by rw [et]; exact mq_t_cut hr hat
  induction m with
  | zero =>
    intro k x w k0 k1 hm hI hx hG hf hd
    have hBw := (hI.OK hO).1
    obtain ⟨hl, hbody⟩ := (hBw.2.2.2.2.2.1 r hr.1 hr.2).2
    have e23 : w 23 r 0 = w1 23 r 0 := hf 23 r 0 (by decide)
    refine v_Mo_meet_6 hn ⟨hr.1, by omega, ⟨by omega, by omega⟩, ⟨by omega, by omega⟩, fun q => by omega, fun _ => h w x hI hx hG hf (fun k' a b s0 s1 => ?_)⟩
    rw [etr] at s0 s1 ⊢
    by_cases e : k' < w 23 r 0
    · exact hd k' a (by omega) s0 s1
    · have := (hbody k' a b).2 e
      omega
  | succ m ih =>
    intro k x w k0 k1 hm hI hx hG hf hd
    have hBw := (hI.OK hO).1
    obtain ⟨hl, hbody⟩ := (hBw.2.2.2.2.2.1 r hr.1 hr.2).2
    have e23 : w 23 r 0 = w1 23 r 0 := hf 23 r 0 (by decide)
    have e14 : w 21 14 0 = w1 21 14 0 := hf 21 14 0 (by decide)
    have e15 : w 21 15 0 = w1 21 15 0 := hf 21 15 0 (by decide)
    obtain ⟨hs1, hs2⟩ := (hbody k k0 (by omega)).1 (by omega)
    have hsy := hB.1.2.2 ((r + 1) * 4 + k) (by omega) (by omega)
    have hcu := mf_cu_le (k := k) hcut.2 k0 (by omega)
    have et2 : mq_t (w 23 r 0) r (c % 13) (w 21 14 0) (w 21 15 0) = t := by rw [e23, e14, e15, et]
    refine v_Mo_meet_6 hn ⟨hr.1, by omega, ⟨by omega, by omega⟩, ⟨by omega, by omega⟩, fun _ => ⟨by omega, by omega, ?_⟩, fun q => by omega⟩
    refine c_M_cut hn hBw hr ⟨k0, by omega⟩ ⟨_, rfl, c_M_cut hn hBw hr ⟨by omega, by omega⟩ ⟨_, rfl, ?_⟩⟩
    rw [et2, ← hs1]
    have ecode : 169 * u 3 ((r + 1) * 4 + k) 0 + 13 * mf_cu (c / 13 % 13) (c % 13) t k + mf_cu (c / 13 % 13) (c % 13) t (k + 1) = (u 3 ((r + 1) * 4 + k) 0 * 13 + mf_cu (c / 13 % 13) (c % 13) t k) * 13 + mf_cu (c / 13 % 13) (c % 13) t (k + 1) := by omega
    refine ⟨⟨by omega, by omega⟩, fun q => c_M_node hn ⟨_, rfl, by omega, by omega, ?_, fun q1 => c_M_node hn ⟨_, rfl, by omega, by omega, ?_⟩, fun q1 => ?_⟩, fun q => ?_⟩
    · rcases hI.2.1 (169 * u 3 ((r + 1) * 4 + k) 0 + 13 * mf_cu (c / 13 % 13) (c % 13) t k + mf_cu (c / 13 % 13) (c % 13) t (k + 1)) (by omega) (by omega) with z | z <;> rw [z] <;> exact ⟨by decide, by decide⟩
    · rintro w24 rfl
      rw [ecode] at q1 ⊢
      generalize hcd : (u 3 ((r + 1) * 4 + k) 0 * 13 + mf_cu (c / 13 % 13) (c % 13) t k) * 13 + mf_cu (c / 13 % 13) (c % 13) t (k + 1) = cd at *
      have cd0 : 0 ≤ cd := by omega
      have cd1 : cd < 845 := by omega
      generalize hw' : mj_wu w 30 cd 0 1 = w'
      have em : w' 30 cd 0 = 1 := by rw [← hw']; unfold mj_wu; simp
      have eo : ∀ y : Int, y ≠ cd → w' 30 y 0 = w 30 y 0 := fun y hy => by rw [← hw']; exact mj_wu_n (fun z => hy z.2.1)
      have ef : ∀ (p : Nat) (a b : Int), p ≠ 30 → w' p a b = w p a b := fun p a b hp => by rw [← hw']; exact mj_wu_n (fun z => hp z.1)
      have mono : ∀ y : Int, w 30 y 0 ≠ 0 → w' 30 y 0 ≠ 0 := fun y hy => by
        by_cases e : y = cd
        · rw [e, em]; decide
        · rw [eo y e]; exact hy
      have hK : mp_K w' = mp_K w + 1 := by
        unfold mp_K
        refine mj_cn_set (k := cd.toNat) ?_ ?_ 845 (by omega) (fun y hy hne => ?_)
        · rw [show ((cd.toNat : Nat) : Int) = cd by omega]; simp [q1]
        · rw [show ((cd.toNat : Nat) : Int) = cd by omega]; simp [em]
        · rw [eo (y : Int) (by omega)]
      have kk := hG.2.1
      refine ih (k + 1) 1 w' (by omega) (by omega) (by omega) ⟨fun p a b z1 z2 => (ef p a b z2).trans (hI.1 p a b z1 z2), fun y y0 y1 => ?_, fun T hT' y y0 y1 hy => ?_⟩ (Or.inr rfl) ⟨fun y hy => mono y (hG.1 y hy), by omega, Or.inr ⟨by decide, by omega⟩⟩ (fun p a b hp => (ef p a b hp).trans (hf p a b hp)) (fun k' a b s0 s1 => ?_)
      · by_cases e : y = cd
        · rw [e, em]; exact Or.inr rfl
        · rw [eo y e]; exact hI.2.1 y y0 y1
      · by_cases e : y = cd
        · rw [e, ← hcd]
          have := hT'.2 c hv (hT T hT') t hin k k0 (by omega)
          rw [etr] at this
          exact this (by omega) (by omega)
        · rw [eo y e] at hy
          exact hI.2.2 T hT' y y0 y1 hy
      · by_cases e : k' = k
        · rw [e, hcd, em]; decide
        · exact mono _ (hd k' a (by omega) s0 s1)
    · rw [ecode] at q1
      refine ih (k + 1) x w (by omega) (by omega) (by omega) hI hx hG hf (fun k' a b s0 s1 => ?_)
      by_cases e : k' = k
      · rw [e]; exact q1
      · exact hd k' a (by omega) s0 s1
    · refine ih (k + 1) x w (by omega) (by omega) (by omega) hI hx hG hf (fun k' a b s0 s1 => ?_)
      by_cases e : k' = k
      · rw [e] at s1; omega
      · exact hd k' a (by omega) s0 s1
theorem mq_rem_in {V : Int → Int → Int → Int} {i j l r c1 c2 : Int} (hat : i ≤ c1 ∧ c1 ≤ c2 ∧ c2 ≤ j) (hne : mf_val u V i j (mq_t l r j c1 c2) ≠ 0) : mq_t l r j c1 c2 ∈ mq_rem u V i j l r c1 c2 := by
  unfold mq_rem
  unfold mq_t at hne ⊢
  by_cases e3 : l = 3
  · rw [if_pos e3] at hne ⊢
    rw [if_pos e3]
    exact List.mem_append_left _ ((mf_in_mem _).mpr ⟨rfl, rfl, by show _ < c2; omega, by show c2 ≤ j; omega, hne⟩)
  · rw [if_neg e3] at hne ⊢
    rw [if_neg e3]
    by_cases e2 : l = 2
    · rw [if_pos e2] at hne ⊢
      rw [if_pos e2]
      exact (mf_out_mem _).mpr ⟨rfl, by show _ < c1; omega, by show c1 ≤ j; omega, Int.le_refl _, hne⟩
    · rw [if_neg e2] at hne ⊢
      rw [if_neg e2]
      exact (mf_out_mem _).mpr ⟨rfl, by show _ < j; omega, Int.le_refl _, Int.le_refl _, hne⟩
theorem c_M_meetAll_38 (hn : 33 ≤ nn) {w0 wa : mj_w} (hO : mq_OK u n w0) {c : Int} (hv : mf_vc n c) (hT : ∀ T, mf_cl u (mq_V w0) n T → T c) {r : Int} (hr : 0 ≤ r ∧ r < u 1 0 0) (hlr : u 2 r 0 = c / 169) {R : List (Int × Int × Int)}
    (hnext : ∀ (w' : mj_w) (x : Int), mp_I u n w0 w' → 0 ≤ x → x + (R.length : Int) ≤ 910 → mp_G x wa w' → (∀ q, q ∈ mf_ways u (mq_V w0) (c / 169) (c / 13 % 13) (c % 13) → q ∉ R → mp_D u (mq_V w0) c q w') → mj_J g y_Mo_meetAll (d + 3) 0 0 (6, [some (mj_R 21), some (.inl (c / 169)), some (.inl (c / 13 % 13)), some (.inl (c % 13)), some (.inl x), some (.inl (r + 1)), none], [], mj_mem nn xs w') (mj_P nn xs Post)) :
    ∀ (m : Nat) (w : mj_w) (x : Int), mp_I u n w0 w → mq_at (c / 13 % 13) (c % 13) w → ((c % 13 - w 21 14 0) * 20 + (c % 13 - w 21 15 0)).toNat = m → 0 ≤ x → x + ((mq_rem u (mq_V w0) (c / 13 % 13) (c % 13) (w 23 r 0) r (w 21 14 0) (w 21 15 0) ++ R).length : Int) ≤ 910 → mp_G x wa w → (∀ q, q ∈ mf_ways u (mq_V w0) (c / 169) (c / 13 % 13) (c % 13) → q ∉ mq_rem u (mq_V w0) (c / 13 % 13) (c % 13) (w 23 r 0) r (w 21 14 0) (w 21 15 0) ++ R → mp_D u (mq_V w0) c q w) →
    mj_J g y_Mo_meetAll (d + 3) 0 0 (38, [some (mj_R 21), some (.inl (c / 169)), some (.inl (c / 13 % 13)), some (.inl (c % 13)), some (.inl x), some (.inl r), some (.inl 1)], [], mj_mem nn xs w) (mj_P nn xs Post) := by
  intro m
  have hv' := hv
  unfold mf_vc at hv'
  have hrv := hO.2.2.1.rv
  have hG0 := hO.1.1
  induction m using Nat.strongRecOn with
  | ind m ih =>
    intro w x hI hat hm x0 hxl hG hD
    have hOw := hI.OK hO
    have eV := hI.V
    have hat' := hat
    unfold mq_at at hat'
    have rest : ∀ (w2 : mj_w) (y : Int), mp_I u n w0 w2 → (∀ (p : Nat) (a b : Int), p ≠ 30 → w2 p a b = w p a b) → 0 ≤ y → y ≤ ((mq_hd u (mq_V w0) (c / 13 % 13) (c % 13) (mq_t (w 23 r 0) r (c % 13) (w 21 14 0) (w 21 15 0))).length : Int) → mp_G (x + y) wa w2 → (∀ c' : Int, w 30 c' 0 ≠ 0 → w2 30 c' 0 ≠ 0) → (∀ q ∈ mq_hd u (mq_V w0) (c / 13 % 13) (c % 13) (mq_t (w 23 r 0) r (c % 13) (w 21 14 0) (w 21 15 0)), mp_D u (mq_V w0) c q w2) → mj_J g y_Mo_nextCuts (d + 2) 0 0 (0, [some (mj_R 21), some (.inl r), some (.inl (c % 13))], [], mj_mem nn xs w2) (mj_P nn xs (fun v w7 => ∃ x8 : Int, v = some (.inl x8) ∧ (mj_J g y_Mo_meetAll (d + 3) 0 0 (38, [some (mj_R 21), some (.inl (c / 169)), some (.inl (c / 13 % 13)), some (.inl (c % 13)), some (.inl (x + y)), some (.inl r), some (.inl x8)], [], mj_mem nn xs w7) (mj_P nn xs Post)))) := fun w2 y hI2 hf2 y0 y1 hG2 hmono hD2 => by
      have e23 : w2 23 r 0 = w 23 r 0 := hf2 23 r 0 (by decide)
      have e14 : w2 21 14 0 = w 21 14 0 := hf2 21 14 0 (by decide)
      have e15 : w2 21 15 0 = w 21 15 0 := hf2 21 15 0 (by decide)
      have hat2 : mq_at (c / 13 % 13) (c % 13) w2 := by unfold mq_at; rw [e14, e15]; exact hat
      have hDm : ∀ (w3 : mj_w) (q : Int × Int × Int), (∀ c' : Int, w2 30 c' 0 ≠ 0 → w3 30 c' 0 ≠ 0) → mp_D u (mq_V w0) c q w2 → mp_D u (mq_V w0) c q w3 := fun w3 q hmm hq k k0 k1 s0 s1 => hmm _ (hq k k0 k1 s0 s1)
      have hall : ∀ q, q ∈ mf_ways u (mq_V w0) (c / 169) (c / 13 % 13) (c % 13) → q ∉ mq_rem u (mq_V w0) (c / 13 % 13) (c % 13) (w 23 r 0) r (w 21 14 0) (w 21 15 0) ++ R → mp_D u (mq_V w0) c q w2 := fun q hq hn' k k0 k1 s0 s1 => hmono _ (hD q hq hn' k k0 k1 s0 s1)
      refine c_M_nextCuts hn (hI2.OK hO).1 hr (by omega) (by omega) (by omega) hat2 (fun w' f' at' hlt hrem => ⟨_, rfl, ?_⟩) (fun hrem => ⟨_, rfl, ?_⟩)
      · have e23' : w' 23 r 0 = w2 23 r 0 := f'.p (by decide) r 0
        rw [e14, e15] at hlt
        have hr2 := hrem _ hrv
        rw [e23, e14, e15] at hr2
        rw [hr2, List.append_assoc, List.length_append] at hxl
        have hGf := hG2.trans (mp_G.cf f') (by omega) (by decide)
        rw [Int.add_zero] at hGf
        refine ih _ (by omega) w' (x + y) (hI2.cf f') at' rfl (by omega) (by rw [e23', e23]; omega) hGf (fun q hq hnm => ?_)
        rw [e23', e23] at hnm
        refine hDm w' q (fun c' hc' => by rw [f'.p (by decide)]; exact hc') ?_
        by_cases e : q ∈ mq_hd u (mq_V w0) (c / 13 % 13) (c % 13) (mq_t (w 23 r 0) r (c % 13) (w 21 14 0) (w 21 15 0))
        · exact hD2 q e
        · refine hall q hq (fun z => ?_)
          rw [hr2, List.append_assoc] at z
          rcases List.mem_append.mp z with z | z
          · exact e z
          · exact hnm z
      · have hr2 := hrem _ hrv
        rw [e23, e14, e15] at hr2
        rw [hr2, List.length_append] at hxl
        refine v_Mo_meetAll_38 (d := d + 2) hn ⟨⟨by decide, by decide⟩, fun _ => hnext w2 (x + y) hI2 (by omega) (by omega) hG2 (fun q hq hnR => ?_), fun z => absurd rfl z⟩
        by_cases e : q ∈ mq_hd u (mq_V w0) (c / 13 % 13) (c % 13) (mq_t (w 23 r 0) r (c % 13) (w 21 14 0) (w 21 15 0))
        · exact hD2 q e
        · refine hall q hq (fun z => ?_)
          rw [hr2] at z
          rcases List.mem_append.mp z with z | z
          · exact e z
          · exact hnR z
    refine v_Mo_meetAll_38 (d := d + 2) hn ⟨⟨by decide, by decide⟩, fun z => absurd z (by decide), fun _ => ?_⟩
    refine c_M_isWay (d := d) hn hOw.1 hOw.2.1 hr (by omega) (by omega) hat (fun z => ⟨_, rfl, ⟨by decide, by decide⟩, fun y => absurd y (by decide), fun _ => ?_⟩) (fun z => ⟨_, rfl, ⟨by decide, by decide⟩, fun _ => ?_, fun y => absurd rfl y⟩)
    · have hv0 : mf_val u (mq_V w0) (c / 13 % 13) (c % 13) (mq_t (w 23 r 0) r (c % 13) (w 21 14 0) (w 21 15 0)) ≠ 0 := by
        rw [← eV]
        exact (mf_val_nz hOw.2.2.1.rv).mpr (by rw [hOw.2.2.1.nz]; exact z)
      have hcut := mq_t_cut (l := w 23 r 0) hr hat
      have hin : mq_t (w 23 r 0) r (c % 13) (w 21 14 0) (w 21 15 0) ∈ mf_ways u (mq_V w0) (c / 169) (c / 13 % 13) (c % 13) := (mf_mem hG0.1.1 (by omega)).mpr ⟨hcut.1, by rw [mq_t_r]; exact hlr, hcut.2.1, hcut.2.2.1, hcut.2.2.2, hv0⟩
      have hl := (hOw.1.2.2.2.2.2.1 r hr.1 hr.2).2.1
      refine v_Mo_meet_0 (d := d + 1) hn (c_M_meet_6 (d := d + 1) hn hO hv hT hr hat rfl hin (fun w2 y hI2 hy hG2 hf2 hD2 => ⟨_, rfl, ?_⟩) _ 0 0 w (Int.le_refl _) hl.1 rfl hI (Or.inl rfl) (mp_G.refl w) (fun _ _ _ _ => rfl) (fun k' a b => by omega))
      have hh := (mq_hd_len (u := u) (V := mq_V w0) (i := c / 13 % 13) (j := c % 13) (t := mq_t (w 23 r 0) r (c % 13) (w 21 14 0) (w 21 15 0))).1 hv0
      refine rest w2 y hI2 hf2 (by omega) (by rw [hh]; show y ≤ 1; omega) (hG.trans hG2 x0 (by omega)) hG2.1 (fun q hq => ?_)
      rw [hh, List.mem_singleton] at hq
      rw [hq]; exact hD2
    · have hv0 : ¬ mf_val u (mq_V w0) (c / 13 % 13) (c % 13) (mq_t (w 23 r 0) r (c % 13) (w 21 14 0) (w 21 15 0)) ≠ 0 := fun y => z (by
        rw [← eV] at y
        have := (mf_val_nz hOw.2.2.1.rv).mp y
        rw [hOw.2.2.1.nz] at this
        exact this)
      have hh := (mq_hd_len (u := u) (V := mq_V w0) (i := c / 13 % 13) (j := c % 13) (t := mq_t (w 23 r 0) r (c % 13) (w 21 14 0) (w 21 15 0))).2 hv0
      exact rest w 0 hI (fun _ _ _ _ => rfl) (by decide) (by rw [hh]; exact Int.le_refl 0) (by rw [Int.add_zero]; exact hG) (fun _ hc' => hc') (fun q hq => by rw [hh] at hq; cases hq)
theorem c_M_meetAll_6 (hn : 33 ≤ nn) {w0 wa : mj_w} (hO : mq_OK u n w0) {c : Int} (hv : mf_vc n c) (hT : ∀ T, mf_cl u (mq_V w0) n T → T c)
    (h : ∀ (w' : mj_w) (x : Int), mp_I u n w0 w' → (x = 0 ∨ x = 1) → mp_G x wa w' → (∀ q, q ∈ mf_ways u (mq_V w0) (c / 169) (c / 13 % 13) (c % 13) → mp_D u (mq_V w0) c q w') → Post (some (.inl x)) w') :
    ∀ (m : Nat) (w : mj_w) (x : Int), (m : Int) ≤ u 1 0 0 → mp_I u n w0 w → 0 ≤ x → x + ((mf_rl u (mq_V w0) (c / 169) (c / 13 % 13) (c % 13) m).length : Int) ≤ 910 → mp_G x wa w → (∀ q, q ∈ mf_ways u (mq_V w0) (c / 169) (c / 13 % 13) (c % 13) → q ∉ mf_rl u (mq_V w0) (c / 169) (c / 13 % 13) (c % 13) m → mp_D u (mq_V w0) c q w) →
    mj_J g y_Mo_meetAll (d + 3) 0 0 (6, [some (mj_R 21), some (.inl (c / 169)), some (.inl (c / 13 % 13)), some (.inl (c % 13)), some (.inl x), some (.inl (u 1 0 0 - (m : Int))), none], [], mj_mem nn xs w) (mj_P nn xs Post) := by
  intro m
  have hcnt := hO.1.1.1
  have hn12 := hO.1.2.1
  have hv' := hv
  unfold mf_vc at hv'
  induction m with
  | zero =>
    intro w x hm hI x0 hxl hG hD
    have e2 : w 21 2 0 = u 1 0 0 := (hI.OK hO).1.2.2.2.1
    have hD' : ∀ q, q ∈ mf_ways u (mq_V w0) (c / 169) (c / 13 % 13) (c % 13) → mp_D u (mq_V w0) c q w := fun q hq => hD q hq (fun z => by cases z)
    refine v_Mo_meetAll_6 (d := d + 2) hn ⟨⟨by omega, by omega⟩, ⟨by omega, by omega⟩, fun q => by omega, fun _ => ⟨⟨by omega, by omega⟩, fun q => h w 1 hI (Or.inr rfl) ⟨hG.1, hG.2.1, ?_⟩ hD', fun q => h w 0 hI (Or.inl rfl) ⟨hG.1, hG.2.1, ?_⟩ hD'⟩⟩
    · rcases hG.2.2 with z | z
      · have := z.1; omega
      · exact Or.inr ⟨by decide, z.2⟩
    · rcases hG.2.2 with z | z
      · exact Or.inl ⟨rfl, z.2⟩
      · have := z.1; omega
  | succ m ih =>
    intro w x hm hI x0 hxl hG hD
    have hBw := (hI.OK hO).1
    have e2 : w 21 2 0 = u 1 0 0 := hBw.2.2.2.1
    have er : u 1 0 0 - ((m + 1 : Nat) : Int) = u 1 0 0 - ((m : Int) + 1) := by omega
    rw [er]
    have hrr : 0 ≤ u 1 0 0 - ((m : Int) + 1) ∧ u 1 0 0 - ((m : Int) + 1) < u 1 0 0 := by omega
    have e22 : w 22 (u 1 0 0 - ((m : Int) + 1)) 0 = u 2 (u 1 0 0 - ((m : Int) + 1)) 0 := (hBw.2.2.2.2.2.1 _ hrr.1 hrr.2).1
    have hl := hO.1.1.2.1 _ hrr.1 hrr.2
    have enx : u 1 0 0 - ((m : Int) + 1) + 1 = u 1 0 0 - (m : Int) := by omega
    have hlist : mf_rl u (mq_V w0) (c / 169) (c / 13 % 13) (c % 13) (m + 1) = (if u 2 (u 1 0 0 - ((m : Int) + 1)) 0 = c / 169 then mf_out u (mq_V w0) (u 1 0 0 - ((m : Int) + 1)) (c / 13 % 13) (c % 13) (c % 13 - c / 13 % 13 + 1).toNat else []) ++ mf_rl u (mq_V w0) (c / 169) (c / 13 % 13) (c % 13) m := rfl
    rw [hlist] at hxl hD
    refine v_Mo_meetAll_6 (d := d + 2) hn ⟨⟨by omega, by omega⟩, ⟨by omega, by omega⟩, fun q => ⟨by omega, by omega, by rw [e22]; exact ⟨by omega, by omega⟩, ⟨by omega, by omega⟩, fun q1 => ?_, fun q1 => ?_⟩, fun q => by omega⟩
    · rw [e22] at q1
      rw [if_pos q1] at hxl hD
      refine c_M_firstCuts hn (fun w1 f1 e14 e15 => ⟨rfl, ?_⟩)
      have hGf := hG.trans (mp_G.cf f1) x0 (by decide)
      rw [Int.add_zero] at hGf
      have er1 : mq_rem u (mq_V w0) (c / 13 % 13) (c % 13) (w1 23 (u 1 0 0 - ((m : Int) + 1)) 0) (u 1 0 0 - ((m : Int) + 1)) (w1 21 14 0) (w1 21 15 0) = mf_out u (mq_V w0) (u 1 0 0 - ((m : Int) + 1)) (c / 13 % 13) (c % 13) (c % 13 - c / 13 % 13 + 1).toNat := by rw [e14, e15, mq_rem_first (by omega)]
      refine c_M_meetAll_38 (d := d) (wa := wa) hn hO hv hT hrr q1 (R := mf_rl u (mq_V w0) (c / 169) (c / 13 % 13) (c % 13) m) (fun w' x' I' x0' hxl' G' D' => by rw [enx]; exact ih w' x' (by omega) I' x0' hxl' G' D') _ w1 x (hI.cf f1) (by unfold mq_at; omega) rfl x0 (by rw [er1]; exact hxl) hGf (fun q hq hnm => ?_)
      rw [er1] at hnm
      intro k k0 k1 s0 s1
      rw [f1.p (by decide)]
      exact hD q hq hnm k k0 k1 s0 s1
    · rw [e22] at q1
      rw [if_neg q1, List.nil_append] at hxl hD
      refine c_M_firstCuts hn (fun w1 f1 e14 e15 => ⟨rfl, ?_⟩)
      have hGf := hG.trans (mp_G.cf f1) x0 (by decide)
      rw [Int.add_zero] at hGf
      refine v_Mo_meetAll_38 (d := d + 2) hn ⟨⟨by decide, by decide⟩, fun _ => ?_, fun z => absurd rfl z⟩
      rw [enx]
      refine ih w1 x (by omega) (hI.cf f1) x0 hxl hGf (fun q hq hnm => ?_)
      intro k k0 k1 s0 s1
      rw [f1.p (by decide)]
      exact hD q hq hnm k k0 k1 s0 s1
theorem c_M_meetAll (hn : 33 ≤ nn) {w0 : mj_w} (hO : mq_OK u n w0) {c : Int} (hv : mf_vc n c) (hI : mp_I u n w0 w) (hc : w 30 c 0 ≠ 0)
    (h : ∀ (w' : mj_w) (x : Int), mp_I u n w0 w' → (x = 0 ∨ x = 1) → mp_G x w w' → (∀ q, q ∈ mf_ways u (mq_V w0) (c / 169) (c / 13 % 13) (c % 13) → mp_D u (mq_V w0) c q w') → Post (some (.inl x)) w') :
    mj_J g y_Mo_meetAll (d + 3) 0 0 (0, [some (mj_R 21), some (.inl (c / 169)), some (.inl (c / 13 % 13)), some (.inl (c % 13)), none, none, none], [], mj_mem nn xs w) (mj_P nn xs Post) := by
  have hcnt := hO.1.1.1
  have hn12 := hO.1.2.1
  have hv' := hv
  unfold mf_vc at hv'
  have hlen := mf_len (u := u) (V := mq_V w0) (s := c / 169) (i := c / 13 % 13) (j := c % 13) hcnt.1 hcnt.2 (by omega)
  have := c_M_meetAll_6 (d := d) (g := g) (xs := xs) (Post := Post) (wa := w) hn hO hv (fun T hT => hI.2.2 T hT c hv.1.1 hv.1.2 hc) h (u 1 0 0).toNat w 0 (by omega) hI (by decide) (by show 0 + ((mf_ways u (mq_V w0) (c / 169) (c / 13 % 13) (c % 13)).length : Int) ≤ 910; omega) (mp_G.refl w) (fun q hq hnm => absurd hq hnm)
  rw [show u 1 0 0 - (((u 1 0 0).toNat : Nat) : Int) = 0 by omega] at this
  exact v_Mo_meetAll_0 (d := d + 2) hn this
def mp_st (u : mj_w) (V : Int → Int → Int → Int) (K0 : Nat) (w : mj_w) (more k : Int) : Prop := (more = 0 ∧ K0 ≤ mp_K w ∧ ∀ c : Int, 0 ≤ c → c < k → w 30 c 0 ≠ 0 → ∀ q, q ∈ mf_ways u V (c / 169) (c / 13 % 13) (c % 13) → mp_D u V c q w) ∨ (more = 1 ∧ K0 + 1 ≤ mp_K w)
theorem c_M_nodes_75 (hn : 33 ≤ nn) {w0 : mj_w} (hO : mq_OK u n w0) {K0 : Nat}
    (h : ∀ (w : mj_w) (more : Int), mp_I u n w0 w → (w0 30 n 0 ≠ 0 → w 30 n 0 ≠ 0) → mp_st u (mq_V w0) K0 w more 845 → mj_J g y_Mo_nodes (d + 6) 0 0 (67, [some (mj_R 21), some (.inl more), none, none], [], mj_mem nn xs w) (mj_P nn xs Post)) :
    ∀ (m : Nat) (k more : Int) (w : mj_w), 0 ≤ k → k ≤ 845 → (845 - k).toNat = m → mp_I u n w0 w → (w0 30 n 0 ≠ 0 → w 30 n 0 ≠ 0) → mp_st u (mq_V w0) K0 w more k →
    mj_J g y_Mo_nodes (d + 6) 0 0 (75, [some (mj_R 21), some (.inl more), some (.inl k), none], [], mj_mem nn xs w) (mj_P nn xs Post) := by
  intro m
  have hn12 := hO.1.2.1
  have hcnt := hO.1.1.1
  induction m with
  | zero =>
    intro k more w k0 k1 hm hI hroot hst
    have ek : k = 845 := by omega
    subst ek
    exact v_Mo_nodes_75 (d := d + 5) hn ⟨⟨by decide, by decide⟩, fun q => absurd q (by decide), fun _ => h w more hI hroot hst⟩
  | succ m ih =>
    intro k more w k0 k1 hm hI hroot hst
    have hmi : mj_i more := by rcases hst with z | z <;> rw [z.1] <;> exact ⟨by decide, by decide⟩
    have h30 := hI.2.1 k k0 (by omega)
    refine v_Mo_nodes_75 (d := d + 5) hn ⟨⟨by omega, by omega⟩, fun q => ⟨k0, q, by rcases h30 with z | z <;> rw [z] <;> exact ⟨by decide, by decide⟩, fun q1 => ⟨hmi, fun q2 => ?_, fun q2 => ?_⟩, fun q1 => ?_⟩, fun q => by omega⟩
    · refine ih (k + 1) 0 w (by omega) (by omega) (by omega) hI hroot ?_
      rcases hst with ⟨z1, z2, z3⟩ | z
      · refine Or.inl ⟨rfl, z2, fun c c0 c1 hc => ?_⟩
        by_cases e : c = k
        · rw [e] at hc; exact absurd q1 hc
        · exact z3 c c0 (by omega) hc
      · have := z.1; omega
    · refine ih (k + 1) 1 w (by omega) (by omega) (by omega) hI hroot ?_
      rcases hst with z | z
      · exact absurd z.1 q2
      · exact Or.inr ⟨rfl, z.2⟩
    · have hv := hI.2.2 _ (mf_cl_vc hcnt.1 hn12) k k0 q q1
      rw [show k % 169 / 13 = k / 13 % 13 by omega]
      refine ⟨⟨by omega, by omega⟩, by omega, ?_⟩
      refine c_M_meetAll (d := d + 2) hn hO hv hI q1 (fun w12 x I12 hx G12 D12 => ⟨_, rfl, by rcases hx with z | z <;> rw [z] <;> exact ⟨by decide, by decide⟩, fun q2 => ⟨hmi, fun q3 => ?_, fun q3 => ?_⟩, fun q2 => ⟨hmi, fun q3 => ?_, fun q3 => ?_⟩⟩)
      · refine ih (k + 1) 0 w12 (by omega) (by omega) (by omega) I12 (fun z => G12.1 _ (hroot z)) ?_
        have hsame : ∀ c : Int, w12 30 c 0 = w 30 c 0 := by
          rcases G12.2.2 with z | z
          · exact z.2
          · have := z.1; omega
        rcases hst with ⟨z1, z2, z3⟩ | z
        · refine Or.inl ⟨rfl, Nat.le_trans z2 G12.2.1, fun c c0 c1 hc => ?_⟩
          by_cases e : c = k
          · rw [e]; exact D12
          · rw [hsame] at hc
            intro qq hq k' k0' k1' s0 s1
            rw [hsame]
            exact z3 c c0 (by omega) hc qq hq k' k0' k1' s0 s1
        · have := z.1; omega
      · refine ih (k + 1) 1 w12 (by omega) (by omega) (by omega) I12 (fun z => G12.1 _ (hroot z)) ?_
        rcases hst with z | z
        · exact absurd z.1 q3
        · exact Or.inr ⟨rfl, Nat.le_trans z.2 G12.2.1⟩
      · refine ih (k + 1) 1 w12 (by omega) (by omega) (by omega) I12 (fun z => G12.1 _ (hroot z)) (Or.inr ⟨rfl, ?_⟩)
        rcases G12.2.2 with z | z
        · exact absurd z.1 q2
        · rcases hst with y | y
          · have := y.2.1; have := z.2; omega
          · have := y.2; have := z.2; omega
      · refine ih (k + 1) 1 w12 (by omega) (by omega) (by omega) I12 (fun z => G12.1 _ (hroot z)) (Or.inr ⟨rfl, ?_⟩)
        rcases hst with y | y
        · exact absurd y.1 q3
        · exact Nat.le_trans y.2 G12.2.1
theorem c_M_nodes_148 (hn : 33 ≤ nn) {l1 : Int} (hr : ∀ c : Int, 0 ≤ c → c < 845 → w 30 c 0 = 0 ∨ w 30 c 0 = 1) (h : Post (some (.inl (mp_K w : Int))) w) :
    ∀ (m k : Nat), k + m = 845 → mj_J g y_Mo_nodes (d + 6) 0 0 (148, [some (mj_R 21), some (.inl l1), some (.inl (mj_cn (fun c : Nat => decide (w 30 (c : Int) 0 ≠ 0)) k : Int)), some (.inl (k : Int))], [], mj_mem nn xs w) (mj_P nn xs Post) := by
  intro m
  induction m with
  | zero =>
    intro k hk
    have ek : k = 845 := by omega
    subst ek
    exact v_Mo_nodes_148 (d := d + 5) hn ⟨⟨by decide, by decide⟩, fun q => absurd q (by decide), fun _ => h⟩
  | succ m ih =>
    intro k hk
    have ek : ((k + 1 : Nat) : Int) = (k : Int) + 1 := by omega
    have h30 := hr (k : Int) (by omega) (by omega)
    have := ih (k + 1) (by omega)
    rw [ek] at this
    simp only [mj_cn] at this
    refine v_Mo_nodes_148 (d := d + 5) hn ⟨⟨by omega, by omega⟩, fun q => ⟨by omega, by omega, by rcases h30 with z | z <;> rw [z] <;> exact ⟨by decide, by decide⟩, fun q1 => ?_, fun q1 => ?_⟩, fun q => by omega⟩
    · rw [if_neg (by simp [q1])] at this
      rw [Int.add_zero]
      rw [Nat.add_zero] at this
      exact this
    · rw [if_pos (by simp [q1])] at this
      rw [show ((mj_cn (fun c : Nat => decide (w 30 (c : Int) 0 ≠ 0)) k + 1 : Nat) : Int) = (mj_cn (fun c : Nat => decide (w 30 (c : Int) 0 ≠ 0)) k : Int) + 1 by omega] at this
      exact this
theorem c_M_nodes_67 (hn : 33 ≤ nn) {w0 : mj_w} (hO : mq_OK u n w0) (hroot0 : w0 30 n 0 ≠ 0)
    (h : ∀ w, mp_I u n w0 w → mf_RC u (mq_V w0) n (fun c => w 30 c 0 ≠ 0) → Post (some (.inl (mp_K w : Int))) w) :
    ∀ (m : Nat) (w : mj_w), 846 - mp_K w = m → mp_I u n w0 w → w 30 n 0 ≠ 0 →
    mj_J g y_Mo_nodes (d + 6) 0 0 (67, [some (mj_R 21), some (.inl 1), none, none], [], mj_mem nn xs w) (mj_P nn xs Post) := by
  intro m
  induction m using Nat.strongRecOn with
  | ind m ih =>
    intro w hm hI hroot
    refine v_Mo_nodes_67 (d := d + 5) hn ⟨⟨by decide, by decide⟩, fun z => absurd z (by decide), fun _ => ?_⟩
    refine c_M_nodes_75 (K0 := mp_K w) hn hO (fun w' more' I' r' st' => ?_) _ 0 0 w (Int.le_refl _) (by decide) rfl hI (fun _ => hroot) (Or.inl ⟨rfl, Nat.le_refl _, fun c c0 c1 => by omega⟩)
    have hle : mp_K w' ≤ 845 := mj_cn_le _ _
    rcases st' with ⟨z1, z2, z3⟩ | ⟨z1, z2⟩
    · rw [z1]
      refine v_Mo_nodes_67 (d := d + 5) hn ⟨⟨by decide, by decide⟩, fun _ => ?_, fun z => absurd rfl z⟩
      have := c_M_nodes_148 (d := d) (g := g) (xs := xs) (Post := Post) (w := w') (l1 := 0) hn I'.2.1 (h w' I' ⟨⟨fun _ => r' hroot0, fun c hv hc q hq k k0 k1 s0 s1 => z3 c hv.1.1 hv.1.2 hc q hq k k0 k1 s0 s1⟩, fun T hT c c0 c1 hc => I'.2.2 T hT c c0 c1 hc⟩) 845 0 rfl
      exact this
    · rw [z1]
      exact ih (846 - mp_K w') (by omega) w' rfl I' (r' hroot0)
theorem c_M_nodes_30 (hn : 33 ≤ nn) {w0 : mj_w} (hO : mq_OK u n w0) (hV0 : mq_V w0 0 0 n ≠ 0)
    (h : ∀ (w : mj_w), (∀ (p : Nat) (a b : Int), ¬ (p = 21 ∧ (a = 14 ∨ a = 15)) → p ≠ 30 → w p a b = w0 p a b) → mf_RC u (mq_V w0) n (fun c => w 30 c 0 ≠ 0) → Post (some (.inl (mp_K w : Int))) w) :
    ∀ (m : Nat) (c : Int) (w : mj_w), 0 ≤ c → c ≤ 845 → (845 - c).toNat = m → (∀ (p : Nat) (a b : Int), p ≠ 30 → w p a b = w0 p a b) → (∀ k : Int, 0 ≤ k → k < c → w 30 k 0 = 0) →
    mj_J g y_Mo_nodes (d + 6) 0 0 (30, [some (mj_R 21), some (.inl c), none, none], [], mj_mem nn xs w) (mj_P nn xs Post) := by
  intro m
  have hn12 := hO.1.2.1
  induction m with
  | zero =>
    intro c w c0 c1 hm hf hz
    have e6 : w 21 6 0 = n := (hf 21 6 0 (by decide)).trans hO.1.2.2.2.2.1
    refine v_Mo_nodes_30 (d := d + 5) hn ⟨⟨by omega, by omega⟩, fun z => by omega, fun _ => ?_⟩
    rw [e6]
    refine c_M_node hn ⟨_, rfl, by omega, by omega, ?_⟩
    rw [show 169 * (0 : Int) + 13 * 0 + n = n by omega]
    rintro w11 rfl
    generalize hw' : mj_wu w 30 n 0 1 = w'
    have em : w' 30 n 0 = 1 := by rw [← hw']; unfold mj_wu; simp
    have eo : ∀ y : Int, y ≠ n → w' 30 y 0 = w 30 y 0 := fun y hy => by rw [← hw']; exact mj_wu_n (fun z => hy z.2.1)
    have ef : ∀ (p : Nat) (a b : Int), p ≠ 30 → w' p a b = w0 p a b := fun p a b hp => by rw [← hw']; exact (mj_wu_n (fun z => hp z.1)).trans (hf p a b hp)
    have O' : mq_OK u n w' := hO.same (fun p a b hp => ef p a b (by omega))
    have eV : mq_V w' = mq_V w0 := by
      funext s a b
      unfold mq_V
      rw [ef 27 _ _ (by decide), ef 28 _ _ (by decide), ef 29 _ _ (by decide)]
    have I' : mp_I u n w' w' := by
      refine ⟨fun _ _ _ _ _ => rfl, fun y y0 y1 => ?_, fun T hT y y0 y1 hy => ?_⟩
      · by_cases e : y = n
        · rw [e, em]; exact Or.inr rfl
        · rw [eo y e]; exact Or.inl (hz y y0 (by omega))
      · by_cases e : y = n
        · rw [e]; exact hT.1 (by rw [eV]; exact hV0)
        · rw [eo y e] at hy; exact absurd (hz y y0 (by omega)) hy
    refine c_M_nodes_67 hn O' (by rw [em]; decide) (fun w2 I2 R2 => h w2 (fun p a b z1 z2 => (I2.1 p a b z1 z2).trans (ef p a b z2)) (by rw [eV] at R2; exact R2)) _ w' rfl I' (by rw [em]; decide)
  | succ m ih =>
    intro c w c0 c1 hm hf hz
    refine v_Mo_nodes_30 (d := d + 5) hn ⟨⟨by omega, by omega⟩, fun z => ⟨c0, z, ?_⟩, fun z => by omega⟩
    rintro w5 rfl
    refine ih (c + 1) _ (by omega) (by omega) (by omega) (fun p a b hp => (mj_wu_n (fun z => hp z.1)).trans (hf p a b hp)) (fun k k0 k1 => ?_)
    by_cases e : k = c
    · rw [e]; unfold mj_wu; simp
    · rw [mj_wu_n (fun z => by omega)]; exact hz k k0 (by omega)
theorem c_M_nodes (hn : 33 ≤ nn) (hK : mq_KI u n w)
    (h : ∀ (w' : mj_w) (M : Int → Int), mq_k w w' → w' 21 1 0 = 0 → w' 21 9 0 = 1 → mq_OK u n w' → mf_RC u (mq_V w') n (fun c => M c ≠ 0) → Post (some (.inl (mj_cn (fun c : Nat => decide (M (c : Int) ≠ (0 : Int))) 845 : Int))) w') :
    mj_J g y_Mo_nodes (d + 6) 0 0 (0, [some (mj_R 21), none, none, none], [], mj_mem nn xs w) (mj_P nn xs Post) := by
  refine v_Mo_nodes_0 (d := d + 5) hn ?_
  rintro w1 rfl
  have rf := mm_rf_wu w 0
  generalize mj_wu w 21 1 0 0 = w1 at *
  have K1 : mq_KI u n w1 := hK.same (fun p a b hp => rf.1 p a b (fun z => by omega))
  have hn12 := K1.1.2.1
  refine c_M_work (d := d) hn K1 (fun w3 f3 e9 O3 => ⟨rfl, ?_⟩)
  have e6 : w3 21 6 0 = n := O3.1.2.2.2.2.1
  rw [e6]
  have k3 : mq_k w w3 := fun p a b z1 z2 => (f3 p a b (fun z => z1 (by omega)) (fun z => z2 (by omega))).trans (rf.1 p a b (fun z => z1 (by omega)))
  have e1 : w3 21 1 0 = 0 := (f3 21 1 0 (fun z => by omega) (by decide)).trans rf.2
  have h27 := O3.2.1 n (by omega) (by omega)
  have hnz : mq_V w3 0 0 n ≠ 0 ↔ w3 27 n 0 ≠ 0 := by
    have : (fun s a b => mq_V w3 s a b ≠ 0) 0 0 n ↔ (fun s a b => mq_VD w3 s a b ≠ 0) 0 0 n := by rw [O3.2.2.1.nz]
    have h2 := mq_VD_nz (w := w3) (s := 0) (a := 0) (b := n) (by decide) (by decide) (by omega)
    rw [show 169 * (0 : Int) + 13 * 0 + n = n by omega] at h2
    exact this.trans h2
  refine c_M_node hn ⟨_, rfl, by omega, by omega, ?_⟩
  rw [show 169 * (0 : Int) + 13 * 0 + n = n by omega]
  refine ⟨by rcases h27 with z | z <;> rw [z] <;> exact ⟨by decide, by decide⟩, fun q => ?_, fun q => ?_⟩
  · have := h w3 (fun _ => 0) k3 e1 e9 O3 ⟨⟨fun z => absurd q (hnz.mp z), fun c _ hc => absurd rfl hc⟩, fun T _ c _ _ hc => absurd rfl hc⟩
    rw [mj_cn_zero 845 (fun k _ => by simp)] at this
    exact this
  · refine c_M_nodes_30 hn O3 (hnz.mpr q) (fun w2 f2 R2 => ?_) _ 0 w3 (Int.le_refl _) (by decide) rfl (fun _ _ _ _ => rfl) (fun k k0 k1 => by omega)
    have O2 : mq_OK u n w2 := O3.same (fun p a b hp => f2 p a b (fun z => by omega) (by omega))
    have eV : mq_V w2 = mq_V w3 := by
      funext s a b
      unfold mq_V
      rw [f2 27 _ _ (fun z => by omega) (by decide), f2 28 _ _ (fun z => by omega) (by decide), f2 29 _ _ (fun z => by omega) (by decide)]
    exact h w2 (fun c => w2 30 c 0) (k3.trans (fun p a b z1 z2 => f2 p a b (fun z => z1 (by omega)) (fun z => z2 (by omega)))) ((f2 21 1 0 (fun z => by omega) (by decide)).trans e1) ((f2 21 9 0 (fun z => by omega) (by decide)).trans e9) O2 (by rw [eV]; exact R2)
end C85
