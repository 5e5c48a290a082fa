/-! ===== the reference: byWay, sum, work ===== -/
/-- the reference's table -/
def mq_V (w : mj_w) (s a b : Int) : Int := if ((0 ≤ s ∧ s < 5) ∧ (0 ≤ a ∧ a < 13) ∧ 0 ≤ b ∧ b < 13) ∧ w 27 (169 * s + 13 * a + b) 0 ≠ 0 then (if w 28 (169 * s + 13 * a + b) 0 = 0 then -1 else w 29 (169 * s + 13 * a + b) 0) else 0
/-- its numbers -/
def mq_r (w : mj_w) : Prop := (∀ c : Int, 0 ≤ c → c < 845 → w 28 c 0 = 0 ∨ w 28 c 0 = 1) ∧ (∀ c : Int, 0 ≤ c → c < 845 → w 28 c 0 ≠ 0 → 0 ≤ w 29 c 0 ∧ w 29 c 0 ≤ 1000000000000) ∧ ∀ c : Int, 0 ≤ c → c < 845 → w 27 c 0 ≠ 0 → w 28 c 0 ≠ 0 → w 29 c 0 ≠ 0
theorem mq_r.rv {w : mj_w} (h : mq_r w) : mf_RV (mq_V w) := fun s a b => by
  unfold mq_V
  split
  · rename_i q
    split
    · exact Or.inl rfl
    · rename_i q1
      exact Or.inr (h.2.1 _ (by omega) (by omega) q1)
  · exact Or.inr (by decide)
theorem mq_r.nz {w : mj_w} (h : mq_r w) : (fun s a b => mq_V w s a b ≠ 0) = (fun s a b => mq_VD w s a b ≠ 0) := by
  funext s a b
  unfold mq_V mq_VD
  by_cases q : ((0 ≤ s ∧ s < 5) ∧ (0 ≤ a ∧ a < 13) ∧ 0 ≤ b ∧ b < 13) ∧ w 27 (169 * s + 13 * a + b) 0 ≠ 0
  · rw [if_pos q, if_pos q]
    apply propext
    refine ⟨fun _ => by decide, fun _ => ?_⟩
    split
    · decide
    · rename_i q1
      exact h.2.2 _ (by omega) (by omega) q.2 q1
  · rw [if_neg q, if_neg q]
theorem mq_cf.V {w w' : mj_w} (h : mq_cf w w') : mq_V w' = mq_V w := by
  funext s a b
  unfold mq_V
  rw [h.p (by decide), h.p (by decide), h.p (by decide)]
theorem mq_cf.r {w w' : mj_w} (h : mq_cf w w') (hr : mq_r w) : mq_r w' := by
  have e27 := fun c => h.p (p := 27) (by decide) c 0
  have e28 := fun c => h.p (p := 28) (by decide) c 0
  have e29 := fun c => h.p (p := 29) (by decide) c 0
  unfold mq_r
  simp only [e27, e28, e29]
  exact hr
theorem mq_cf.r27 {w w' : mj_w} (h : mq_cf w w') (hr : mq_r27 w) : mq_r27 w' := fun c c0 c1 => by rw [h.p (by decide)]; exact hr c c0 c1
theorem mf_pr_one {x : Int} (hx : mf_rv x) : mf_pr 1 x = x := by
  unfold mf_pr
  by_cases q : x = 0
  · rw [if_pos (Or.inr q), q]
  · rw [if_neg (by omega)]
    by_cases q1 : x = -1
    · rw [if_pos (Or.inr q1), q1]
    · have hx' := hx.resolve_left q1
      rw [if_neg (by omega), if_neg (by rw [Int.ediv_lt_iff_lt_mul (by omega)]; omega), Int.one_mul]
theorem mf_pr_one' {x : Int} (hx : 0 < x ∧ x ≤ 1000000000000) : mf_pr x 1 = x := by
  unfold mf_pr
  rw [if_neg (by omega), if_neg (by omega), Int.ediv_one, if_neg (by omega), Int.mul_one]
/-- the product of the first k parts -/
def mq_ac (o : Nat → Int) : Nat → Int
  | 0 => 1
  | k + 1 => mf_pr (mq_ac o k) (o k)
def mq_o (u : mj_w) (V : Int → Int → Int → Int) (i j : Int) (t : Int × Int × Int) (k : Nat) : Int := mf_ov u V (u 3 ((t.1 + 1) * 4 + (k : Int)) 0) (mf_cu i j t (k : Int)) (mf_cu i j t ((k : Int) + 1))
theorem mq_ac_val {u : mj_w} {V : Int → Int → Int → Int} (hV : mf_RV V) {i j : Int} {t : Int × Int × Int} : mf_val u V i j t = mq_ac (mq_o u V i j t) 3 := by
  have h0 : mf_rv (mq_o u V i j t 0) := mf_ov_rv (hV _ _ _)
  show _ = mf_pr (mf_pr (mf_pr 1 (mq_o u V i j t 0)) (mq_o u V i j t 1)) (mq_o u V i j t 2)
  rw [mf_pr_one h0]
  have e0 : mq_o u V i j t 0 = mf_ov u V (u 3 ((t.1 + 1) * 4) 0) i t.2.1 := by
    show mf_ov u V (u 3 ((t.1 + 1) * 4 + ((0 : Nat) : Int)) 0) i t.2.1 = _
    rw [show (t.1 + 1) * 4 + ((0 : Nat) : Int) = (t.1 + 1) * 4 by omega]
  rw [e0]
  rfl
theorem mq_ac_pos {o : Nat → Int} : ∀ k : Nat, (∀ m, m < k → 0 < o m ∧ o m ≤ 1000000000000) → 0 < mq_ac o k ∧ mq_ac o k ≤ 1000000000000
  | 0, _ => by show (0 : Int) < 1 ∧ (1 : Int) ≤ _; decide
  | k + 1, h => by
    have ih := mq_ac_pos k (fun m hm => h m (by omega))
    have hk := h k (by omega)
    have hm := mf_pr_min ih.1 hk.1
    have hp := Int.mul_pos ih.1 hk.1
    show 0 < mf_pr (mq_ac o k) (o k) ∧ mf_pr (mq_ac o k) (o k) ≤ _
    by_cases e : mq_ac o k * o k < 1000000000000
    · rw [hm.2 e]; omega
    · rw [hm.1 (by omega)]; decide
theorem mq_ac_end {o : Nat → Int} {k : Nat} (h : ∀ m, m < k → 0 < o m ∧ o m ≤ 1000000000000) : ∀ p : Nat, (∀ m, k ≤ m → m < k + p → o m = 1) → mq_ac o (k + p) = mq_ac o k
  | 0, _ => rfl
  | p + 1, h1 => by
    have ih := mq_ac_end h p (fun m a b => h1 m a (by omega))
    show mf_pr (mq_ac o (k + p)) (o (k + p)) = _
    rw [ih, h1 (k + p) (by omega) (by omega), mf_pr_one' (mq_ac_pos k h)]
section C83a
variable {g : mj_G} {nn d : Nat} {xs : mj_M} {Post : Option mj_V → mj_w → Prop} {u w : mj_w} {n : Int}
theorem mq_V_at {s a b : Int} (hs : 0 ≤ s ∧ s < 5) (ha : 0 ≤ a ∧ a < 13) (hb : 0 ≤ b ∧ b < 13) (h27 : w 27 (169 * s + 13 * a + b) 0 ≠ 0) : (w 28 (169 * s + 13 * a + b) 0 = 0 → mq_V w s a b = -1) ∧ (w 28 (169 * s + 13 * a + b) 0 ≠ 0 → mq_V w s a b = w 29 (169 * s + 13 * a + b) 0) := by
  unfold mq_V
  rw [if_pos ⟨⟨hs, ha, hb.1, hb.2⟩, h27⟩]
  exact ⟨fun q => by rw [if_pos q], fun q => by rw [if_neg q]⟩
theorem c_M_byWay_6 (hn : 33 ≤ nn) (hB : mq_B u n w) (hr : mq_r w) {r i j : Int} (hrr : 0 ≤ r ∧ r < u 1 0 0) (hi : 0 ≤ i) (hj : j ≤ n) (hat : mq_at i j w) {t : Int × Int × Int} (et : t = mq_t (w 23 r 0) r j (w 21 14 0) (w 21 15 0)) (hw : mf_way u (fun s a b => mq_VD w s a b ≠ 0) i j t)
    (h : Post (some (.inr (.inl (mf_val u (mq_V w) i j t)))) w) :
    ∀ (m k : Nat), (k : Int) + (m : Int) = w 23 r 0 → (∀ k' : Nat, k' < k → 0 < mq_o u (mq_V w) i j t k' ∧ mq_o u (mq_V w) i j t k' ≤ 1000000000000) →
    mj_J g y_Mo_byWay (d + 1) 0 0 (6, [some (mj_R 21), some (.inl r), some (.inl i), some (.inl j), some (.inr (.inl (mq_ac (mq_o u (mq_V w) i j t) k))), none, some (.inl (k : Int)), none, none, none], [], mj_mem nn xs w) (mj_P nn xs Post) := by
  intro m
  obtain ⟨hl, hbody⟩ := (hB.2.2.2.2.2.1 r hrr.1 hrr.2).2
  have hcnt := hB.1.1
  have hn12 := hB.2.1
  have hcut : mf_cut u i j t := by rw [et]; exact mq_t_cut hrr hat
  have etr : t.1 = r := by rw [et]; exact mq_t_r
  have hwV : mf_way u (fun s a b => mq_V w s a b ≠ 0) i j t := by rw [hr.nz]; exact hw
  have hval0 : mf_val u (mq_V w) i j t ≠ 0 := (mf_val_nz hr.rv).mpr hwV
  have hwk := mf_way_k.mp hwV
  have hwkD := mf_way_k.mp hw
  rw [etr] at hwk hwkD
  induction m with
  | zero =>
    intro k hk hpos
    refine v_Mo_byWay_6 hn ⟨hrr.1, by omega, ⟨by omega, by omega⟩, ⟨by omega, by omega⟩, fun q => by omega, fun _ => ?_⟩
    have : mq_ac (mq_o u (mq_V w) i j t) 3 = mq_ac (mq_o u (mq_V w) i j t) k := by
      have := mq_ac_end (o := mq_o u (mq_V w) i j t) hpos (3 - k) (fun p a b => ?_)
      · rwa [show k + (3 - k) = 3 by omega] at this
      · unfold mq_o
        rw [etr, (hbody (p : Int) (by omega) (by omega)).2 (by omega)]
        have hnz := hwk (p : Int) (by omega) (by omega)
        rw [(hbody (p : Int) (by omega) (by omega)).2 (by omega)] at hnz
        unfold mf_ov
        rw [if_pos rfl, if_pos (hnz.1 rfl)]
    rw [← this, ← mq_ac_val hr.rv]
    exact h
  | succ m ih =>
    intro k hk hpos
    have hkl : (k : Int) < w 23 r 0 := by omega
    obtain ⟨hs1, hs2⟩ := (hbody (k : Int) (by omega) (by omega)).1 hkl
    have hsy := hB.1.2.2 ((r + 1) * 4 + (k : Int)) (by omega) (by omega)
    have hcu := mf_cu_le (k := (k : Int)) hcut.2 (by omega) (by omega)
    have hac := mq_ac_pos k hpos
    have ek : ((k : Int) + 1) = ((k + 1 : Nat) : Int) := by omega
    refine v_Mo_byWay_6 hn ⟨hrr.1, by omega, ⟨by omega, by omega⟩, ⟨by omega, by omega⟩, fun _ => ⟨by omega, by omega, ?_⟩, fun q => by omega⟩
    refine c_M_cut hn hB hrr ⟨by omega, by omega⟩ ⟨_, rfl, c_M_cut hn hB hrr ⟨by omega, by omega⟩ ⟨_, rfl, ?_⟩⟩
    rw [← et, ← hs1]
    refine ⟨⟨by omega, by omega⟩, fun q => c_M_node hn ⟨_, rfl, by omega, by omega, ?_, fun q1 => ?_, fun q1 => ⟨fun _ => c_M_node hn ⟨_, rfl, by omega, by omega, ?_⟩, fun z => absurd q z⟩⟩, fun q => ⟨fun z => absurd z q, fun _ => ?_⟩⟩
    · rcases hr.1 (169 * u 3 ((r + 1) * 4 + (k : Int)) 0 + 13 * mf_cu i j t (k : Int) + mf_cu i j t ((k : Int) + 1)) (by omega) (by omega) with z | z <;> rw [z] <;> exact ⟨by decide, by decide⟩
    · have h27 := (mq_VD_nz (w := w) (by omega) (by omega) (by omega)).mp ((hwkD (k : Int) (by omega) (by omega)).2.2 (by omega) (by omega))
      have hv := (mq_V_at (w := w) (by omega) (by omega) (by omega) h27).1 q1
      have : mf_val u (mq_V w) i j t = -1 := by
        apply Classical.byContradiction
        intro z
        have := mf_way_k.mp ((mf_val_fin hr.rv).mp ⟨hval0, z⟩) (k : Int) (by omega) (by omega)
        rw [etr] at this
        exact (this.2.2 (by omega) (by omega)).2 hv
      rw [← this]
      exact h
    · have h27 := (mq_VD_nz (w := w) (by omega) (by omega) (by omega)).mp ((hwkD (k : Int) (by omega) (by omega)).2.2 (by omega) (by omega))
      have hv := (mq_V_at (w := w) (by omega) (by omega) (by omega) h27).2 q1
      have h29 := hr.2.1 _ (by omega) (by omega) q1
      have h29' := hr.2.2 _ (by omega) (by omega) h27 q1
      have eo : mq_o u (mq_V w) i j t k = w 29 (169 * u 3 ((r + 1) * 4 + (k : Int)) 0 + 13 * mf_cu i j t (k : Int) + mf_cu i j t ((k : Int) + 1)) 0 := by
        unfold mq_o
        rw [etr, mf_ov_V (by omega), hv]
      rw [← eo] at h29 h29' ⊢
      refine c_M_times hn hac ⟨by omega, by omega⟩ ⟨_, rfl, ?_⟩
      rw [ek]
      exact ih (k + 1) (by omega) (fun k' hk' => by
        by_cases e : k' = k
        · rw [e]; omega
        · exact hpos k' (by omega))
    · have eo : mq_o u (mq_V w) i j t k = 1 := by
        unfold mq_o
        rw [etr]
        have hnz := (hwk (k : Int) (by omega) (by omega)).2.1 (by omega)
        unfold mf_ov
        rw [if_neg (by omega), if_pos (by omega), if_pos hnz]
      rw [ek]
      have := ih (k + 1) (by omega) (fun k' hk' => by
        by_cases e : k' = k
        · rw [e, eo]; decide
        · exact hpos k' (by omega))
      rw [show mq_ac (mq_o u (mq_V w) i j t) (k + 1) = mf_pr (mq_ac (mq_o u (mq_V w) i j t) k) (mq_o u (mq_V w) i j t k) from rfl, eo, mf_pr_one' hac] at this
      exact this
theorem c_M_byWay (hn : 33 ≤ nn) (hB : mq_B u n w) (hr : mq_r w) {r i j : Int} (hrr : 0 ≤ r ∧ r < u 1 0 0) (hi : 0 ≤ i) (hj : j ≤ n) (hat : mq_at i j w) (hw : mf_way u (fun s a b => mq_VD w s a b ≠ 0) i j (mq_t (w 23 r 0) r j (w 21 14 0) (w 21 15 0)))
    (h : Post (some (.inr (.inl (mf_val u (mq_V w) i j (mq_t (w 23 r 0) r j (w 21 14 0) (w 21 15 0)))))) w) :
    mj_J g y_Mo_byWay (d + 1) 0 0 (0, [some (mj_R 21), some (.inl r), some (.inl i), some (.inl j), none, none, none, none, none, none], [], mj_mem nn xs w) (mj_P nn xs Post) := by
  have hl := (hB.2.2.2.2.2.1 r hrr.1 hrr.2).2.1
  exact v_Mo_byWay_0 hn (c_M_byWay_6 hn hB hr hrr hi hj hat rfl hw h (w 23 r 0).toNat 0 (by omega) (fun k' hk' => by omega))
theorem c_M_sum_38 (hn : 33 ≤ nn) {w0 : mj_w} (hB : mq_B u n w0) (h27 : mq_r27 w0) (hr : mq_r w0) {s r i j : Int} (hrr : 0 ≤ r ∧ r < u 1 0 0) (hi : 0 ≤ i) (hij : i ≤ j) (hj : j ≤ n) {R : List (Int × Int × Int)} (hR : ∀ q ∈ R, mf_val u (mq_V w0) i j q ≠ 0) {t : Int}
    (hend : ∀ w', mq_cf w0 w' → t = -1 → Post (some (.inr (.inl (-1)))) w')
    (hnext : ∀ (w' : mj_w) (x : Int), mq_cf w0 w' → 0 ≤ x → x ≤ 1000000000000 → mf_fs x (R.map (mf_val u (mq_V w0) i j)) = t → mj_J g y_Mo_sum (d + 3) 0 0 (6, [some (mj_R 21), some (.inl s), some (.inl i), some (.inl j), some (.inr (.inl x)), none, some (.inl (r + 1)), none, none, none], [], mj_mem nn xs w') (mj_P nn xs Post)) :
    ∀ (m : Nat) (w : mj_w) (x : Int), mq_cf w0 w → mq_at i j w → ((j - w 21 14 0) * 20 + (j - w 21 15 0)).toNat = m → 0 ≤ x → x ≤ 1000000000000 → mf_fs x ((mq_rem u (mq_V w0) i j (w 23 r 0) r (w 21 14 0) (w 21 15 0) ++ R).map (mf_val u (mq_V w0) i j)) = t →
    mj_J g y_Mo_sum (d + 3) 0 0 (38, [some (mj_R 21), some (.inl s), some (.inl i), some (.inl j), some (.inr (.inl x)), none, some (.inl r), some (.inl 1), none, none], [], mj_mem nn xs w) (mj_P nn xs Post) := by
  intro m
  induction m using Nat.strongRecOn with
  | ind m ih =>
    intro w x hf hat hm x0 x1 ht
    have hBw := hf.B hB
    have hrw := hf.r hr
    have eV : mq_V w = mq_V w0 := hf.V
    have rest : ∀ (y : Int), 0 ≤ y → y ≤ 1000000000000 → (∀ l, mf_fs x ((mq_hd u (mq_V w0) i j (mq_t (w 23 r 0) r j (w 21 14 0) (w 21 15 0)) ++ l).map (mf_val u (mq_V w0) i j)) = mf_fs y (l.map (mf_val u (mq_V w0) i j))) → mj_J g y_Mo_nextCuts (d + 2) 0 0 (0, [some (mj_R 21), some (.inl r), some (.inl j)], [], mj_mem nn xs w) (mj_P nn xs (fun v w7 => ∃ x8 : Int, v = some (.inl x8) ∧ (mj_J g y_Mo_sum (d + 3) 0 0 (38, [some (mj_R 21), some (.inl s), some (.inl i), some (.inl j), some (.inr (.inl y)), none, some (.inl r), some (.inl x8), none, none], [], mj_mem nn xs w7) (mj_P nn xs Post)))) := fun y y0 y1 hy => by
      refine c_M_nextCuts hn hBw hrr hi hij hj hat (fun w' f' at' hlt hrem => ⟨_, rfl, ?_⟩) (fun hrem => ⟨_, rfl, ?_⟩)
      · have e23 : w' 23 r 0 = w 23 r 0 := f'.p (by decide) r 0
        refine ih _ (by omega) w' y (hf.trans f') at' rfl y0 y1 ?_
        rw [e23]
        rw [hrem _ hr.rv, List.append_assoc, hy] at ht
        exact ht
      · rw [hrem _ hr.rv, hy] at ht
        exact v_Mo_sum_38 (d := d + 2) hn ⟨⟨by decide, by decide⟩, fun _ => hnext w y hf y0 y1 ht, fun z => absurd rfl z⟩
    refine v_Mo_sum_38 (d := d + 2) hn ⟨⟨by decide, by decide⟩, fun z => absurd z (by decide), fun _ => ?_⟩
    refine c_M_isWay (d := d) hn hBw (hf.r27 h27) hrr hi hj hat (fun z => ⟨_, rfl, ⟨by decide, by decide⟩, fun y => absurd y (by decide), fun _ => ?_⟩) (fun z => ⟨_, rfl, ⟨by decide, by decide⟩, fun _ => rest x x0 x1 (fun l => ?_), fun y => absurd rfl y⟩)
    · have hv0 : mf_val u (mq_V w0) i j (mq_t (w 23 r 0) r j (w 21 14 0) (w 21 15 0)) ≠ 0 := by
        rw [← eV]
        exact (mf_val_nz hrw.rv).mpr (by rw [hrw.nz]; exact z)
      have hrv := mf_val_rv (u := u) hr.rv i j (mq_t (w 23 r 0) r j (w 21 14 0) (w 21 15 0))
      refine c_M_byWay (d := d + 1) hn hBw hrw hrr hi hj hat z ⟨_, rfl, ?_⟩
      rw [eV]
      refine ⟨by rcases hrv with y | y <;> exact ⟨by omega, by omega⟩, fun q => ?_, fun q => ⟨by rcases hrv with y | y <;> exact ⟨by omega, by omega⟩, fun q1 => ?_, fun q1 => ?_⟩⟩
      · refine hend w hf ?_
        have e1 : mf_val u (mq_V w0) i j (mq_t (w 23 r 0) r j (w 21 14 0) (w 21 15 0)) = -1 := by rcases hrv with y | y <;> omega
        have hall : ∀ y ∈ (mq_rem u (mq_V w0) i j (w 23 r 0) r (w 21 14 0) (w 21 15 0) ++ R).map (mf_val u (mq_V w0) i j), mf_rv y := fun y hy => by
          obtain ⟨q', _, rfl⟩ := List.mem_map.mp hy
          exact mf_val_rv hr.rv i j q'
        rw [← ht, mf_fs_end _ _ (Or.inr ⟨x0, x1⟩) hall]
        right
        refine List.mem_map.mpr ⟨mq_t (w 23 r 0) r j (w 21 14 0) (w 21 15 0), List.mem_append_left _ ?_, e1⟩
        -- it is a way of this rule from these cuts on
        have hin : ∀ V, mf_RV V → mf_val u V i j (mq_t (w 23 r 0) r j (w 21 14 0) (w 21 15 0)) ≠ 0 → mq_t (w 23 r 0) r j (w 21 14 0) (w 21 15 0) ∈ mq_rem u V i j (w 23 r 0) r (w 21 14 0) (w 21 15 0) := fun V hV hne => by
          have hat' := hat
          unfold mq_at at hat'
          unfold mq_rem
          unfold mq_t at hne ⊢
          by_cases c3 : w 23 r 0 = 3
          · rw [if_pos c3] at hne ⊢
            rw [if_pos c3]
            exact List.mem_append_left _ ((mf_in_mem _).mpr ⟨rfl, rfl, by show _ < w 21 15 0; omega, by show w 21 15 0 ≤ j; omega, hne⟩)
          · rw [if_neg c3] at hne ⊢
            rw [if_neg c3]
            by_cases c2 : w 23 r 0 = 2
            · rw [if_pos c2] at hne ⊢
              rw [if_pos c2]
              exact (mf_out_mem _).mpr ⟨rfl, by show _ < w 21 14 0; omega, by show w 21 14 0 ≤ j; omega, Int.le_refl _, hne⟩
            · rw [if_neg c2] at hne ⊢
              rw [if_neg c2]
              exact (mf_out_mem _).mpr ⟨rfl, by show _ < j; omega, Int.le_refl _, Int.le_refl _, hne⟩
        exact hin _ hr.rv hv0
      · refine rest 1000000000000 (by decide) (by decide) (fun l => ?_)
        rw [mq_hd_len.1 hv0]
        show mf_fs (mf_sm x _) _ = _
        have : mf_sm x (mf_val u (mq_V w0) i j (mq_t (w 23 r 0) r j (w 21 14 0) (w 21 15 0))) = 1000000000000 := by
          unfold mf_sm mj_min
          rw [if_neg (by omega), if_neg (by omega), if_neg (by omega)]
        rw [this]
        rfl
      · refine rest _ (by omega) (by omega) (fun l => ?_)
        rw [mq_hd_len.1 hv0]
        show mf_fs (mf_sm x _) _ = _
        have : mf_sm x (mf_val u (mq_V w0) i j (mq_t (w 23 r 0) r j (w 21 14 0) (w 21 15 0))) = x + mf_val u (mq_V w0) i j (mq_t (w 23 r 0) r j (w 21 14 0) (w 21 15 0)) := by
          unfold mf_sm mj_min
          rw [if_neg (by omega), if_neg (by omega)]
          split <;> omega
        rw [this]
        rfl
    · have : ¬ mf_val u (mq_V w0) i j (mq_t (w 23 r 0) r j (w 21 14 0) (w 21 15 0)) ≠ 0 := fun y => z (by
        rw [← eV] at y
        have := (mf_val_nz hrw.rv).mp y
        rw [hrw.nz] at this
        exact this)
      rw [mq_hd_len.2 this]
      rfl
theorem c_M_sum_6 (hn : 33 ≤ nn) {w0 : mj_w} (hB : mq_B u n w0) (h27 : mq_r27 w0) (hr : mq_r w0) {s i j : Int} (hs : 0 ≤ s ∧ s < 5) (hi : 0 ≤ i) (hij : i ≤ j) (hj : j ≤ n) {t : Int}
    (h : ∀ w', mq_cf w0 w' → Post (some (.inr (.inl t))) w') :
    ∀ (m : Nat) (w : mj_w) (x : Int), (m : Int) ≤ u 1 0 0 → mq_cf w0 w → 0 ≤ x → x ≤ 1000000000000 → mf_fs x ((mf_rl u (mq_V w0) s i j m).map (mf_val u (mq_V w0) i j)) = t →
    mj_J g y_Mo_sum (d + 3) 0 0 (6, [some (mj_R 21), some (.inl s), some (.inl i), some (.inl j), some (.inr (.inl x)), none, some (.inl (u 1 0 0 - (m : Int))), none, none, none], [], mj_mem nn xs w) (mj_P nn xs Post) := by
  intro m
  have hcnt := hB.1.1
  have hn12 := hB.2.1
  induction m with
  | zero =>
    intro w x hm hf x0 x1 ht
    have e2 : w 21 2 0 = u 1 0 0 := (hf.B hB).2.2.2.1
    refine v_Mo_sum_6 (d := d + 2) hn ⟨⟨by omega, by omega⟩, ⟨by omega, by omega⟩, fun q => by omega, fun _ => ?_⟩
    have : x = t := ht
    rw [this]
    exact h w hf
  | succ m ih =>
    intro w x hm hf x0 x1 ht
    have e2 : w 21 2 0 = u 1 0 0 := (hf.B hB).2.2.2.1
    have er : u 1 0 0 - ((m + 1 : Nat) : Int) = u 1 0 0 - ((m : Int) + 1) := by omega
    rw [er]
    have hrr : 0 ≤ u 1 0 0 - ((m : Int) + 1) ∧ u 1 0 0 - ((m : Int) + 1) < u 1 0 0 := by omega
    have e22 : w 22 (u 1 0 0 - ((m : Int) + 1)) 0 = u 2 (u 1 0 0 - ((m : Int) + 1)) 0 := ((hf.B hB).2.2.2.2.2.1 _ hrr.1 hrr.2).1
    have hl := hB.1.2.1 _ hrr.1 hrr.2
    have enx : u 1 0 0 - ((m : Int) + 1) + 1 = u 1 0 0 - (m : Int) := by omega
    have hlist : mf_rl u (mq_V w0) s i j (m + 1) = (if u 2 (u 1 0 0 - ((m : Int) + 1)) 0 = s then mf_out u (mq_V w0) (u 1 0 0 - ((m : Int) + 1)) i j (j - i + 1).toNat else []) ++ mf_rl u (mq_V w0) s i j m := rfl
    rw [hlist] at ht
    refine v_Mo_sum_6 (d := d + 2) hn ⟨⟨by omega, by omega⟩, ⟨by omega, by omega⟩, fun q => ⟨by omega, by omega, by rw [e22]; exact ⟨by omega, by omega⟩, ⟨by omega, by omega⟩, fun q1 => ?_, fun q1 => ?_⟩, fun q => by omega⟩
    · rw [e22] at q1
      rw [if_pos q1] at ht
      refine c_M_firstCuts hn (fun w1 f1 e14 e15 => ⟨rfl, ?_⟩)
      refine c_M_sum_38 (d := d) hn hB h27 hr hrr hi hij hj (R := mf_rl u (mq_V w0) s i j m) (t := t) (fun q hq => ((mf_rl_mem (by omega) _).mp hq).2.2.2.2.2) (fun w' f' e => by rw [← e]; exact h w' f') (fun w' x' f' x0' x1' ht' => by rw [enx]; exact ih w' x' (by omega) f' x0' x1' ht') _ w1 x (hf.trans f1) (by unfold mq_at; omega) rfl x0 x1 ?_
      rw [e14, e15, mq_rem_first hij]
      exact ht
    · rw [e22] at q1
      rw [if_neg q1, List.nil_append] at ht
      refine c_M_firstCuts hn (fun w1 f1 e14 e15 => ⟨rfl, ?_⟩)
      refine v_Mo_sum_38 (d := d + 2) hn ⟨⟨by decide, by decide⟩, fun _ => ?_, fun z => absurd rfl z⟩
      rw [enx]
      exact ih w1 x (by omega) (hf.trans f1) x0 x1 ht
theorem c_M_sum (hn : 33 ≤ nn) (hB : mq_B u n w) (h27 : mq_r27 w) (hr : mq_r w) {s i j : Int} (hs : 0 ≤ s ∧ s < 5) (hi : 0 ≤ i) (hij : i ≤ j) (hj : j ≤ n)
    (h : ∀ w', mq_cf w w' → Post (some (.inr (.inl (mf_tot u (mq_V w) s i j)))) w') :
    mj_J g y_Mo_sum (d + 3) 0 0 (0, [some (mj_R 21), some (.inl s), some (.inl i), some (.inl j), none, none, none, none, none, none], [], mj_mem nn xs w) (mj_P nn xs Post) := by
  have hcnt := hB.1.1
  have := c_M_sum_6 (d := d) (g := g) (xs := xs) (Post := Post) hn hB h27 hr hs hi hij hj h (u 1 0 0).toNat w 0 (by omega) (mq_cf.refl w) (by decide) (by decide) rfl
  rw [show u 1 0 0 - (((u 1 0 0).toNat : Nat) : Int) = 0 by omega] at this
  exact v_Mo_sum_0 (d := d + 2) hn this
end C83a
