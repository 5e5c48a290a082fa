/-! ===== the reference: work ===== -/
theorem mq_inv {u w : mj_w} {n : Int} (hG : mj_GI u) (hc : mq_cD u n (fun s a b => mq_VD w s a b ≠ 0)) (hl : mq_lD u n w) {s a b : Int} (s0 : 0 ≤ s) (s1 : s < 5) (a0 : 0 ≤ a) (ab : a ≤ b) (b1 : b ≤ n) (hv : mq_VD w s a b ≠ 0) : ∃ q, mf_cut u a b q ∧ u 2 q.1 0 = s ∧ mf_way u (fun s a b => mq_VD w s a b ≠ 0) a b q := by
  have := hl (fun s a b => mq_VD w s a b ≠ 0 ∧ ∃ q, mf_cut u a b q ∧ u 2 q.1 0 = s ∧ mf_way u (fun s a b => mq_VD w s a b ≠ 0) a b q) (fun i j q hi hij hj hcq hw => ?_) s a b s0 s1 a0 ab b1 hv
  · exact this.2
  · have hw2 : mf_way u (fun s a b => mq_VD w s a b ≠ 0) i j q := hw.mono hcq.2 (fun _ _ _ => rfl) (fun k k0 k1 => hG.sy hcq.1 k k0 k1) (fun _ _ _ => rfl) (fun s a b _ _ _ _ _ hN => hN.1)
    exact ⟨hc i j q hi hij hj hcq hw2, q, hcq, rfl, hw2⟩
def mq_val (u : mj_w) (n : Int) (w : mj_w) : Prop := ∀ s a b : Int, 0 ≤ s → s < 5 → 0 ≤ a → a ≤ b → b ≤ n → w 28 (169 * s + 13 * a + b) 0 ≠ 0 → w 29 (169 * s + 13 * a + b) 0 = mf_tot u (mq_V w) s a b
def mq_lC (u : mj_w) (n : Int) (w : mj_w) : Prop := ∀ T : Int → Int → Int → Prop, (∀ s a b : Int, 0 ≤ s → s < 5 → 0 ≤ a → a ≤ b → b ≤ n → mq_V w s a b ≠ -1 → (∀ q, mf_cut u a b q → u 2 q.1 0 = s → mf_way u (fun s a b => mq_VD w s a b ≠ 0) a b q → mf_way u T a b q) → T s a b) → ∀ s a b : Int, 0 ≤ s → s < 5 → 0 ≤ a → a ≤ b → b ≤ n → mq_V w s a b ≠ -1 → T s a b
/-- where work stands -/
def mq_W (u : mj_w) (n : Int) (w0 w : mj_w) : Prop := (∀ (p : Nat) (a b : Int), ¬ (p = 21 ∧ (a = 14 ∨ a = 15)) → p ≠ 28 → p ≠ 29 → w p a b = w0 p a b) ∧ mq_r w ∧ mq_val u n w ∧ mq_lC u n w
theorem mq_W.VD {u : mj_w} {n : Int} {w0 w : mj_w} (h : mq_W u n w0 w) : mq_VD w = mq_VD w0 := mq_VD_same (fun a b => h.1 27 a b (fun z => by omega) (by decide) (by decide))
theorem mq_W.B {u : mj_w} {n : Int} {w0 w : mj_w} (h : mq_W u n w0 w) (hB : mq_B u n w0) : mq_B u n w := hB.same (fun p a b hp => h.1 p a b (by omega) (by omega) (by omega))
theorem mq_W.r27 {u : mj_w} {n : Int} {w0 w : mj_w} (h : mq_W u n w0 w) (h27 : mq_r27 w0) : mq_r27 w := fun c c0 c1 => by rw [h.1 27 c 0 (fun z => by omega) (by decide) (by decide)]; exact h27 c c0 c1
theorem mq_W.cf {u : mj_w} {n : Int} {w0 w w' : mj_w} (h : mq_W u n w0 w) (hf : mq_cf w w') : mq_W u n w0 w' := by
  obtain ⟨h1, h2, h3, h4⟩ := h
  refine ⟨fun p a b z1 z2 z3 => (hf p a b z1).trans (h1 p a b z1 z2 z3), hf.r h2, ?_, ?_⟩
  · intro s a b s0 s1 a0 ab b1 hc
    rw [hf.p (by decide)] at hc ⊢
    rw [hf.V]
    exact h3 s a b s0 s1 a0 ab b1 hc
  · unfold mq_lC at *
    rw [hf.V, hf.VD]
    exact h4
def mq_M (w : mj_w) : Nat := mj_cn (fun c : Nat => decide (w 28 (c : Int) 0 ≠ 0)) 845
theorem mq_M_cf {w w' : mj_w} (hf : mq_cf w w') : mq_M w' = mq_M w := by
  unfold mq_M
  exact mj_cn_congr 845 (fun k _ => by rw [hf.p (by decide)])
def mq_wn (u w : mj_w) (s i j : Int) : Prop := w 28 (169 * s + 13 * i + j) 0 ≠ 0 ∨ mf_tot u (mq_V w) s i j = -1
def mq_wst (u : mj_w) (n : Int) (N0 : Nat) (w : mj_w) (more s i j : Int) : Prop := (more = 0 ∧ N0 ≤ mq_M w ∧ ∀ s' i' j' : Int, 0 ≤ s' → s' < 5 → 0 ≤ i' → i' ≤ j' → j' ≤ n → mq_vis s i j s' i' j' → mq_wn u w s' i' j') ∨ (more = 1 ∧ N0 + 1 ≤ mq_M w)
theorem mq_wst.cf {u : mj_w} {n : Int} {N0 : Nat} {w w' : mj_w} {more s i j : Int} (h : mq_wst u n N0 w more s i j) (hf : mq_cf w w') : mq_wst u n N0 w' more s i j := by
  have e28 := fun c => hf.p (p := 28) (by decide) c 0
  unfold mq_wst mq_wn at *
  rw [mq_M_cf hf, hf.V]
  simp only [e28]
  exact h
theorem mq_wst.go {u : mj_w} {n : Int} {N0 : Nat} {w : mj_w} {more s i j s2 i2 j2 : Int} (h : mq_wst u n N0 w more s i j) (hv : ∀ s' i' j' : Int, 0 ≤ s' → s' < 5 → 0 ≤ i' → i' ≤ j' → j' ≤ n → mq_vis s2 i2 j2 s' i' j' → mq_vis s i j s' i' j' ∨ mq_wn u w s' i' j') : mq_wst u n N0 w more s2 i2 j2 := by
  rcases h with ⟨h1, h2, h3⟩ | h
  · exact Or.inl ⟨h1, h2, fun s' i' j' a b c d e f => (hv s' i' j' a b c d e f).elim (h3 s' i' j' a b c d e) id⟩
  · exact Or.inr h
/-- the reference's tables, when its work is done -/
def mq_OK (u : mj_w) (n : Int) (w : mj_w) : Prop := mq_B u n w ∧ mq_r27 w ∧ mq_r w ∧ (∀ a b : Int, 0 ≤ a → a ≤ b → b ≤ n → mf_TB u (mq_V w) a b) ∧ ∀ s a b : Int, 0 ≤ s → s < 5 → 0 ≤ a → a ≤ b → b ≤ n → (w 28 (169 * s + 13 * a + b) 0 = 0 → mq_V w s a b = -1) ∧ (w 28 (169 * s + 13 * a + b) 0 ≠ 0 → mq_V w s a b = w 29 (169 * s + 13 * a + b) 0)
theorem mq_sg_refl (u : mj_w) (i j : Int) : mf_sg u u i j := mf_sg.of i j (fun _ _ _ _ => rfl)
theorem mq_W.step {u : mj_w} {n : Int} {w0 w w10 : mj_w} (h : mq_W u n w0 w) (hB : mq_B u n w0) (hc : mq_cD u n (fun s a b => mq_VD w0 s a b ≠ 0)) (hl : mq_lD u n w0) (f10 : mq_cf w w10) {s i j x : Int} (hs : 0 ≤ s ∧ s < 5) (hi : 0 ≤ i) (hij : i ≤ j) (hj : j ≤ n) (hz : w 28 (169 * s + 13 * i + j) 0 = 0) (ex : x = mf_tot u (mq_V w) s i j) (x0 : 0 ≤ x) :
    mq_W u n w0 (mj_wu (mj_wu w10 28 (169 * s + 13 * i + j) 0 1) 29 (169 * s + 13 * i + j) 0 x) ∧ mq_M (mj_wu (mj_wu w10 28 (169 * s + 13 * i + j) 0 1) 29 (169 * s + 13 * i + j) 0 x) = mq_M w + 1 := by
  have hn12 := hB.2.1
  have hG := hB.1
  have h' := h.cf f10
  have eVD0 := h.VD
  generalize hw' : mj_wu (mj_wu w10 28 (169 * s + 13 * i + j) 0 1) 29 (169 * s + 13 * i + j) 0 x = w'
  have fr : ∀ (p : Nat) (a b : Int), ¬ (p = 28 ∧ a = 169 * s + 13 * i + j ∧ b = 0) → ¬ (p = 29 ∧ a = 169 * s + 13 * i + j ∧ b = 0) → w' p a b = w10 p a b := fun p a b z1 z2 => by
    rw [← hw']; exact (mj_wu_n z2).trans (mj_wu_n z1)
  have e28 : w' 28 (169 * s + 13 * i + j) 0 = 1 := by rw [← hw']; refine (mj_wu_n (fun z => by cases z.1)).trans ?_; unfold mj_wu; simp
  have e29 : w' 29 (169 * s + 13 * i + j) 0 = x := by rw [← hw']; unfold mj_wu; simp
  have o27 : ∀ a b : Int, w' 27 a b = w 27 a b := fun a b => (fr 27 a b (fun z => by cases z.1) (fun z => by cases z.1)).trans (f10.p (by decide) a b)
  have o28 : ∀ c : Int, c ≠ 169 * s + 13 * i + j → w' 28 c 0 = w 28 c 0 := fun c hcc => (fr 28 c 0 (fun z => hcc z.2.1) (fun z => by cases z.1)).trans (f10.p (by decide) c 0)
  have o29 : ∀ c : Int, c ≠ 169 * s + 13 * i + j → w' 29 c 0 = w 29 c 0 := fun c hcc => (fr 29 c 0 (fun z => by cases z.1) (fun z => hcc z.2.1)).trans (f10.p (by decide) c 0)
  have eVD : mq_VD w' = mq_VD w := mq_VD_same o27
  have hrv := h.2.1.rv
  have hwV : (fun s a b => mq_V w s a b ≠ 0) = (fun s a b => mq_VD w s a b ≠ 0) := h.2.1.nz
  have xr := mf_tot_rv (u := u) hrv s i j
  rw [← ex] at xr
  have xne : w 27 (169 * s + 13 * i + j) 0 ≠ 0 → x ≠ 0 := fun h27 => by
    rw [ex, Ne, mf_tot_zero hrv hG.1.1 (by omega)]
    intro z
    obtain ⟨q, c1, c2, c3⟩ := mq_inv hG hc hl hs.1 hs.2 hi hij hj (by rw [← eVD0]; exact (mq_VD_nz hs (by omega) (by omega)).mpr h27)
    rw [← eVD0, ← hwV] at c3
    have : q ∈ mf_ways u (mq_V w) s i j := (mf_mem hG.1.1 (by omega)).mpr ⟨c1.1, c2, c1.2.1, c1.2.2.1, c1.2.2.2, (mf_val_nz hrv).mpr c3⟩
    rw [z] at this
    cases this
  have hr' : mq_r w' := by
    obtain ⟨r1, r2, r3⟩ := h.2.1
    refine ⟨fun c c0 c1 => ?_, fun c c0 c1 hcc => ?_, fun c c0 c1 h27 hcc => ?_⟩
    · by_cases e : c = 169 * s + 13 * i + j
      · rw [e, e28]; exact Or.inr rfl
      · rw [o28 c e]; exact r1 c c0 c1
    · by_cases e : c = 169 * s + 13 * i + j
      · rw [e, e29]; rcases xr with z | z <;> omega
      · rw [o28 c e] at hcc
        rw [o29 c e]; exact r2 c c0 c1 hcc
    · rw [o27] at h27
      by_cases e : c = 169 * s + 13 * i + j
      · rw [e, e29]; rw [e] at h27; exact xne h27
      · rw [o28 c e] at hcc
        rw [o29 c e]; exact r3 c c0 c1 h27 hcc
  have hrv' := hr'.rv
  have eVo : ∀ s' a b : Int, ¬ (169 * s' + 13 * a + b = 169 * s + 13 * i + j) → mq_V w' s' a b = mq_V w s' a b := fun s' a b hne => by
    unfold mq_V
    rw [o27, o28 _ hne, o29 _ hne]
  have hne : ∀ s' a b : Int, mq_V w s' a b ≠ -1 → mq_V w s' a b = mq_V w' s' a b := fun s' a b hv => by
    by_cases e : 169 * s' + 13 * a + b = 169 * s + 13 * i + j
    · unfold mq_V at hv ⊢
      rw [o27]
      by_cases q : ((0 ≤ s' ∧ s' < 5) ∧ (0 ≤ a ∧ a < 13) ∧ 0 ≤ b ∧ b < 13) ∧ w 27 (169 * s' + 13 * a + b) 0 ≠ 0
      · rw [if_pos q] at hv
        rw [e, if_pos hz] at hv
        exact absurd rfl hv
      · rw [if_neg q, if_neg q]
    · exact (eVo s' a b e).symm
  have hpat : (fun s a b => mq_V w' s a b ≠ 0) = (fun s a b => mq_V w s a b ≠ 0) := by
    rw [hr'.nz, hwV, eVD]
  have htot : ∀ k a b : Int, a ≤ b → mf_tot u (mq_V w) k a b ≠ -1 → mf_tot u (mq_V w) k a b = mf_tot u (mq_V w') k a b := fun k a b hab hk => by
    refine mf_tot_congr hG.1.1 (by omega) (mq_sg_refl u a b) (fun q hcq hlq => ?_) (fun q hcq hlq hv => ?_)
    · rw [mf_val_nz hrv, mf_val_nz hrv', hpat]
    · have hv2 : mf_val u (mq_V w) a b q ≠ -1 := fun z => hk ((mf_tot_end hrv).mpr ⟨q, (mf_mem hG.1.1 (by omega)).mpr ⟨hcq.1, hlq, hcq.2.1, hcq.2.2.1, hcq.2.2.2, hv⟩, z⟩)
      exact mf_val_eq hG (mq_sg_refl u a b) hcq ((mf_val_fin hrv).mp ⟨hv, hv2⟩) (fun k a b _ _ _ _ _ hN => hne k a b hN.2)
  refine ⟨⟨fun p a b z1 z2 z3 => (fr p a b (fun z => z2 z.1) (fun z => z3 z.1)).trans (h'.1 p a b z1 z2 z3), hr', fun s' a b s0 s1 a0 ab b1 hcc => ?_, fun T hT => ?_⟩, ?_⟩
  · by_cases e : 169 * s' + 13 * a + b = 169 * s + 13 * i + j
    · have es : s' = s := by omega
      have ea : a = i := by omega
      have eb : b = j := by omega
      rw [es, ea, eb, e29, ← htot s i j hij (by rw [← ex]; omega)]
      exact ex
    · rw [o28 _ e] at hcc
      rw [o29 _ e]
      have h29 := h.2.1.2.1 (169 * s' + 13 * a + b) (by omega) (by omega) hcc
      have := h.2.2.1 s' a b s0 s1 a0 ab b1 hcc
      rw [← htot s' a b ab (by rw [← this]; omega)]
      exact this
  · have hold := h.2.2.2 T (fun s' a b s0 s1 a0 ab b1 hv hq => hT s' a b s0 s1 a0 ab b1 (by rw [← hne s' a b hv]; exact hv) (by rw [eVD]; exact hq))
    intro s' a b s0 s1 a0 ab b1 hv
    by_cases e : mq_V w s' a b = -1
    · refine hT s' a b s0 s1 a0 ab b1 hv (fun q hcq hlq hwq => ?_)
      have ec : 169 * s' + 13 * a + b = 169 * s + 13 * i + j := by
        apply Classical.byContradiction
        intro z
        rw [eVo s' a b z] at hv
        exact hv e
      have es : s' = s := by omega
      have ea : a = i := by omega
      have eb : b = j := by omega
      rw [eVD, ← hwV] at hwq
      have hv1 : mf_val u (mq_V w) a b q ≠ 0 := (mf_val_nz hrv).mpr hwq
      have hv2 : mf_val u (mq_V w) a b q ≠ -1 := fun z => by
        have : mf_tot u (mq_V w) s' a b = -1 := (mf_tot_end hrv).mpr ⟨q, (mf_mem hG.1.1 (by omega)).mpr ⟨hcq.1, hlq, hcq.2.1, hcq.2.2.1, hcq.2.2.2, hv1⟩, z⟩
        rw [es, ea, eb, ← ex] at this
        omega
      exact ((mf_val_fin hrv).mp ⟨hv1, hv2⟩).mono hcq.2 (fun _ _ _ => rfl) (fun k k0 k1 => hG.sy hcq.1 k k0 k1) (fun _ _ _ => rfl) (fun k x y k0 k1 x0 xy y1 hN => hold k x y k0 k1 (by omega) xy (by omega) hN.2)
    · exact hold s' a b s0 s1 a0 ab b1 e
  · unfold mq_M
    refine mj_cn_set (k := (169 * s + 13 * i + j).toNat) ?_ ?_ 845 (by omega) (fun k hk hne => ?_)
    · rw [show (((169 * s + 13 * i + j).toNat : Nat) : Int) = 169 * s + 13 * i + j by omega]; simp [hz]
    · rw [show (((169 * s + 13 * i + j).toNat : Nat) : Int) = 169 * s + 13 * i + j by omega]; simp [e28]
    · rw [o28 (k : Int) (by omega)]
theorem mq_W.OK {u : mj_w} {n : Int} {w0 w : mj_w} (h : mq_W u n w0 w) (hB : mq_B u n w0) (h27 : mq_r27 w0) (hc : mq_cD u n (fun s a b => mq_VD w0 s a b ≠ 0)) (hl : mq_lD u n w0) (hd : ∀ s i j : Int, 0 ≤ s → s < 5 → 0 ≤ i → i ≤ j → j ≤ n → mq_wn u w s i j) : mq_OK u n w := by
  have hn12 := hB.2.1
  have hG := hB.1
  have hrv := h.2.1.rv
  have hwV : (fun s a b => mq_V w s a b ≠ 0) = (fun s a b => mq_VD w s a b ≠ 0) := h.2.1.nz
  have eVD := h.VD
  -- nothing derived: no ways
  have hno : ∀ s a b : Int, 0 ≤ s → s < 5 → 0 ≤ a → a ≤ b → b ≤ n → w 27 (169 * s + 13 * a + b) 0 = 0 → mf_tot u (mq_V w) s a b = 0 := fun s a b s0 s1 a0 ab b1 hz => by
    rw [mf_tot_zero hrv hG.1.1 (by omega)]
    apply List.eq_nil_iff_forall_not_mem.mpr
    intro q hq
    obtain ⟨m1, m2, m3, m4, m5, m6⟩ := (mf_mem hG.1.1 (by omega)).mp hq
    have hw := (mf_val_nz hrv).mp m6
    rw [hwV, eVD] at hw
    have := hc a b q a0 ab b1 ⟨m1, m3, m4, m5⟩ hw
    rw [m2] at this
    have := (mq_VD_nz ⟨s0, s1⟩ (by omega) (by omega)).mp this
    rw [h.1 27 _ _ (fun z => by omega) (by decide) (by decide)] at hz
    exact this hz
  have hV0 : ∀ s a b : Int, w 27 (169 * s + 13 * a + b) 0 = 0 → mq_V w s a b = 0 := fun s a b hz => by
    unfold mq_V
    rw [if_neg (fun z => z.2 hz)]
  have hfix : ∀ s a b : Int, 0 ≤ s → s < 5 → 0 ≤ a → a ≤ b → b ≤ n → (mq_V w s a b = mf_tot u (mq_V w) s a b) ∧ (w 28 (169 * s + 13 * a + b) 0 = 0 → mq_V w s a b = -1) ∧ (w 28 (169 * s + 13 * a + b) 0 ≠ 0 → mq_V w s a b = w 29 (169 * s + 13 * a + b) 0) := fun s a b s0 s1 a0 ab b1 => by
    by_cases q : w 27 (169 * s + 13 * a + b) 0 = 0
    · have t0 := hno s a b s0 s1 a0 ab b1 q
      have v0 := hV0 s a b q
      refine ⟨by rw [t0, v0], fun z => ?_, fun z => ?_⟩
      · rcases hd s a b s0 s1 a0 ab b1 with y | y
        · exact absurd z y
        · rw [t0] at y; exact absurd y (by decide)
      · rw [h.2.2.1 s a b s0 s1 a0 ab b1 z, t0, v0]
    · have hv := mq_V_at (w := w) ⟨s0, s1⟩ (show 0 ≤ a ∧ a < 13 by omega) (show 0 ≤ b ∧ b < 13 by omega) q
      refine ⟨?_, hv.1, hv.2⟩
      by_cases q1 : w 28 (169 * s + 13 * a + b) 0 = 0
      · rcases hd s a b s0 s1 a0 ab b1 with y | y
        · exact absurd q1 y
        · rw [y, hv.1 q1]
      · rw [hv.2 q1, h.2.2.1 s a b s0 s1 a0 ab b1 q1]
  refine ⟨h.B hB, h.r27 h27, h.2.1, fun i j hi hij hj => ⟨fun s s0 s1 => (hfix s i j s0 s1 hi hij hj).1, fun S hS s s0 s1 hv => ?_, fun S hS s s0 s1 hv => ?_⟩, fun s a b s0 s1 a0 ab b1 => (hfix s a b s0 s1 a0 ab b1).2⟩
  · -- least, for all stretches at once
    have hv' : mq_VD w0 s i j ≠ 0 := by
      have : (fun s a b => mq_V w s a b ≠ 0) s i j := hv
      rw [hwV, eVD] at this
      exact this
    have := hl (fun s a b => mq_VD w0 s a b ≠ 0 ∧ (a = i ∧ b = j → S s)) (fun a b q a0 ab b1 hcq hw => ⟨?_, fun e => ?_⟩) s i j s0 s1 hi hij hj hv'
    · exact this.2 ⟨rfl, rfl⟩
    · exact hc a b q a0 ab b1 hcq (hw.mono hcq.2 (fun _ _ _ => rfl) (fun k k0 k1 => hG.sy hcq.1 k k0 k1) (fun _ _ _ => rfl) (fun _ _ _ _ _ _ _ _ hN => hN.1))
    · rw [e.1, e.2] at hcq hw
      refine hS q hcq (hw.mono hcq.2 (fun _ _ _ => rfl) (fun k k0 k1 => hG.sy hcq.1 k k0 k1) (fun _ _ _ => rfl) (fun k x y _ _ _ _ _ hN => ?_))
      unfold mf_N
      by_cases e2 : x = i ∧ y = j
      · rw [if_pos e2]; exact hN.2 e2
      · rw [if_neg e2]
        have : (fun s a b => mq_VD w s a b ≠ 0) k x y := by rw [eVD]; exact hN.1
        rw [← hwV] at this
        exact this
  · have := h.2.2.2 (fun s a b => a = i ∧ b = j → S s) (fun k a b k0 k1 a0 ab b1 hk hq e => ?_) s i j s0 s1 hi hij hj hv
    · exact this ⟨rfl, rfl⟩
    · rw [e.1, e.2] at hk hq
      exact hS k k0 k1 hk (fun q hcq hlq hwq => hq q hcq hlq (by rw [← hwV]; exact hwq))
section C84
variable {g : mj_G} {nn d : Nat} {xs : mj_M} {Post : Option mj_V → mj_w → Prop} {u w0 : mj_w} {n : Int}
theorem c_M_work_67 (hn : 33 ≤ nn) (hB : mq_B u n w0) (h27 : mq_r27 w0) (hc : mq_cD u n (fun s a b => mq_VD w0 s a b ≠ 0)) (hl : mq_lD u n w0) {s i : Int} {N0 : Nat} (hs : 0 ≤ s ∧ s < 5) (hi : 0 ≤ i) (hin : i ≤ n)
    (h : ∀ (w : mj_w) (more : Int), mq_W u n w0 w → mq_wst u n N0 w more s (i + 1) (i + 1) → mj_J g y_Mo_work (d + 5) 0 0 (56, [some (mj_R 21), some (.inl more), some (.inl s), some (.inl (i + 1)), none, none, none, none], [], mj_mem nn xs w) (mj_P nn xs Post)) :
    ∀ (m : Nat) (j more : Int) (w : mj_w), i ≤ j → j ≤ n + 1 → (n + 1 - j).toNat = m → mq_W u n w0 w → mq_wst u n N0 w more s i j →
    mj_J g y_Mo_work (d + 5) 0 0 (67, [some (mj_R 21), some (.inl more), some (.inl s), some (.inl i), some (.inl j), none, none, none], [], mj_mem nn xs w) (mj_P nn xs Post) := by
  intro m
  have hn12 := hB.2.1
  induction m with
  | zero =>
    intro j more w hij hj hm hW hst
    have e6 : w 21 6 0 = n := (hW.B hB).2.2.2.2.1
    refine v_Mo_work_67 (d := d + 4) hn ⟨⟨by omega, by omega⟩, ⟨by omega, by omega⟩, fun _ => h w more hW (hst.go (fun r' i' j' a b c e f v => Or.inl ?_)), fun q => by omega⟩
    unfold mq_vis at *
    omega
  | succ m ih =>
    intro j more w hij hj hm hW hst
    have hBw := hW.B hB
    have e6 : w 21 6 0 = n := hBw.2.2.2.2.1
    have hv : ∀ (w' : mj_w), mq_wn u w' s i j → ∀ s' i' j' : Int, mq_vis s i (j + 1) s' i' j' → mq_vis s i j s' i' j' ∨ mq_wn u w' s' i' j' := fun w' hd s' i' j' v => by
      by_cases e : s' = s ∧ i' = i ∧ j' = j
      · rw [e.1, e.2.1, e.2.2]; exact Or.inr hd
      · left; unfold mq_vis at *; omega
    have h28 := hW.2.1.1 (169 * s + 13 * i + j) (by omega) (by omega)
    refine v_Mo_work_67 (d := d + 4) hn ⟨⟨by omega, by omega⟩, ⟨by omega, by omega⟩, fun q => by omega, fun _ => ?_⟩
    refine c_M_node hn ⟨_, rfl, by omega, by omega, by rcases h28 with z | z <;> rw [z] <;> exact ⟨by decide, by decide⟩, fun q1 => ?_, fun q1 => ?_⟩
    · refine c_M_sum (d := d + 1) hn hBw (hW.r27 h27) hW.2.1 hs hi hij (by omega) (fun w10 f10 => ⟨_, rfl, ?_⟩)
      have tr := mf_tot_rv (u := u) hW.2.1.rv s i j
      refine ⟨by rcases tr with z | z <;> exact ⟨by omega, by omega⟩, fun q2 => ?_, fun q2 => ?_⟩
      · have e1 : mf_tot u (mq_V w) s i j = -1 := by rcases tr with z | z <;> omega
        exact ih (j + 1) more w10 (by omega) (by omega) (by omega) (hW.cf f10) ((hst.cf f10).go (fun s' i' j' _ _ _ _ _ v => hv w10 (Or.inr (by rw [f10.V]; exact e1)) s' i' j' v))
      · rintro w14 rfl w16 rfl
        obtain ⟨s1, s2⟩ := hW.step hB hc hl f10 hs hi hij (by omega) q1 rfl (by omega)
        refine ih (j + 1) 1 _ (by omega) (by omega) (by omega) s1 (Or.inr ⟨rfl, ?_⟩)
        rw [s2]
        rcases hst with z | z
        · have := z.2.1; omega
        · have := z.2; omega
    · exact ih (j + 1) more w (by omega) (by omega) (by omega) hW (hst.go (fun s' i' j' _ _ _ _ _ v => hv w (Or.inl q1) s' i' j' v))
theorem c_M_work_56 (hn : 33 ≤ nn) (hB : mq_B u n w0) (h27 : mq_r27 w0) (hc : mq_cD u n (fun s a b => mq_VD w0 s a b ≠ 0)) (hl : mq_lD u n w0) {s : Int} {N0 : Nat} (hs : 0 ≤ s ∧ s < 5)
    (h : ∀ (w : mj_w) (more : Int), mq_W u n w0 w → mq_wst u n N0 w more (s + 1) 0 0 → mj_J g y_Mo_work (d + 5) 0 0 (49, [some (mj_R 21), some (.inl more), some (.inl (s + 1)), none, none, none, none, none], [], mj_mem nn xs w) (mj_P nn xs Post)) :
    ∀ (m : Nat) (i more : Int) (w : mj_w), 0 ≤ i → i ≤ n + 1 → (n + 1 - i).toNat = m → mq_W u n w0 w → mq_wst u n N0 w more s i i →
    mj_J g y_Mo_work (d + 5) 0 0 (56, [some (mj_R 21), some (.inl more), some (.inl s), some (.inl i), none, none, none, none], [], mj_mem nn xs w) (mj_P nn xs Post) := by
  intro m
  have hn12 := hB.2.1
  induction m with
  | zero =>
    intro i more w hi0 hi hm hW hst
    have e6 : w 21 6 0 = n := (hW.B hB).2.2.2.2.1
    refine v_Mo_work_56 (d := d + 4) hn ⟨⟨by omega, by omega⟩, ⟨by omega, by omega⟩, fun _ => h w more hW (hst.go (fun r' i' j' a b c e f v => Or.inl ?_)), fun q => by omega⟩
    unfold mq_vis at *
    omega
  | succ m ih =>
    intro i more w hi0 hi hm hW hst
    have e6 : w 21 6 0 = n := (hW.B hB).2.2.2.2.1
    refine v_Mo_work_56 (d := d + 4) hn ⟨⟨by omega, by omega⟩, ⟨by omega, by omega⟩, fun q => by omega, fun _ => ?_⟩
    exact c_M_work_67 hn hB h27 hc hl hs hi0 (by omega) (fun w' more' hW' hst' => ih (i + 1) more' w' (by omega) (by omega) (by omega) hW' hst') _ i more w (Int.le_refl _) (by omega) rfl hW hst
theorem c_M_work_49 (hn : 33 ≤ nn) (hB : mq_B u n w0) (h27 : mq_r27 w0) (hc : mq_cD u n (fun s a b => mq_VD w0 s a b ≠ 0)) (hl : mq_lD u n w0) {N0 : Nat}
    (h : ∀ (w : mj_w) (more : Int), mq_W u n w0 w → mq_wst u n N0 w more 5 0 0 → mj_J g y_Mo_work (d + 5) 0 0 (41, [some (mj_R 21), some (.inl more), none, none, none, none, none, none], [], mj_mem nn xs w) (mj_P nn xs Post)) :
    ∀ (m : Nat) (s more : Int) (w : mj_w), 0 ≤ s → s ≤ 5 → (5 - s).toNat = m → mq_W u n w0 w → mq_wst u n N0 w more s 0 0 →
    mj_J g y_Mo_work (d + 5) 0 0 (49, [some (mj_R 21), some (.inl more), some (.inl s), none, none, none, none, none], [], mj_mem nn xs w) (mj_P nn xs Post) := by
  intro m
  have hn12 := hB.2.1
  induction m with
  | zero =>
    intro s more w s0 s1 hm hW hst
    have es : s = 5 := by omega
    subst es
    exact v_Mo_work_49 (d := d + 4) hn ⟨⟨by decide, by decide⟩, fun q => absurd q (by decide), fun _ => h w more hW hst⟩
  | succ m ih =>
    intro s more w s0 s1 hm hW hst
    refine v_Mo_work_49 (d := d + 4) hn ⟨⟨by omega, by omega⟩, fun q => ?_, fun q => by omega⟩
    exact c_M_work_56 hn hB h27 hc hl ⟨s0, q⟩ (fun w' more' hW' hst' => ih (s + 1) more' w' (by omega) (by omega) (by omega) hW' hst') _ 0 more w (Int.le_refl _) (by omega) rfl hW hst
theorem c_M_work_41 (hn : 33 ≤ nn) (hB : mq_B u n w0) (h27 : mq_r27 w0) (hc : mq_cD u n (fun s a b => mq_VD w0 s a b ≠ 0)) (hl : mq_lD u n w0)
    (h : ∀ w, mq_W u n w0 w → mq_OK u n w → Post none w) :
    ∀ (m : Nat) (w : mj_w), 846 - mq_M w = m → mq_W u n w0 w →
    mj_J g y_Mo_work (d + 5) 0 0 (41, [some (mj_R 21), some (.inl 1), none, none, none, none, none, none], [], mj_mem nn xs w) (mj_P nn xs Post) := by
  intro m
  induction m using Nat.strongRecOn with
  | ind m ih =>
    intro w hm hW
    refine v_Mo_work_41 (d := d + 4) hn ⟨⟨by decide, by decide⟩, fun z => absurd z (by decide), fun _ => ?_⟩
    refine c_M_work_49 (N0 := mq_M w) hn hB h27 hc hl (fun w' more' hW' hst' => ?_) _ 0 0 w (Int.le_refl _) (by decide) rfl hW (Or.inl ⟨rfl, Nat.le_refl _, fun r' i' j' a b c e f v => by unfold mq_vis at v; omega⟩)
    have hle : mq_M w' ≤ 845 := mj_cn_le _ _
    rcases hst' with ⟨z1, z2, z3⟩ | ⟨z1, z2⟩
    · rw [z1]
      exact v_Mo_work_41 (d := d + 4) hn ⟨⟨by decide, by decide⟩, fun _ => h w' hW' (hW'.OK hB h27 hc hl (fun s i j s0 s1 hi hij hj => z3 s i j s0 s1 hi hij hj (Or.inl s1))), fun z => absurd rfl z⟩
    · rw [z1]
      exact ih (846 - mq_M w') (by omega) w' rfl hW'
theorem c_M_work_19 (hn : 33 ≤ nn) (hB : mq_B u n w0) (h27 : mq_r27 w0) (hc : mq_cD u n (fun s a b => mq_VD w0 s a b ≠ 0)) (hl : mq_lD u n w0)
    (h : ∀ w, (∀ (p : Nat) (a b : Int), ¬ (p = 21 ∧ (a = 14 ∨ a = 15)) → p ≠ 28 → p ≠ 29 → w p a b = w0 p a b) → mq_OK u n w → Post none w) :
    ∀ (m : Nat) (c : Int) (w : mj_w), 0 ≤ c → c ≤ 845 → (845 - c).toNat = m → (∀ (p : Nat) (a b : Int), p ≠ 28 → w p a b = w0 p a b) → (∀ k : Int, 0 ≤ k → k < c → w 28 k 0 = 0) →
    mj_J g y_Mo_work (d + 5) 0 0 (19, [some (mj_R 21), some (.inl c), none, none, none, none, none, none], [], mj_mem nn xs w) (mj_P nn xs Post) := by
  intro m
  have hn12 := hB.2.1
  induction m with
  | zero =>
    intro c w c0 c1 hm hf hz
    refine v_Mo_work_19 (d := d + 4) hn ⟨⟨by omega, by omega⟩, fun z => by omega, fun _ => ?_⟩
    have hz' : ∀ k : Int, 0 ≤ k → k < 845 → w 28 k 0 = 0 := fun k k0 k1 => hz k k0 (by omega)
    have hr : mq_r w := ⟨fun k k0 k1 => Or.inl (hz' k k0 k1), fun k k0 k1 hk => absurd (hz' k k0 k1) hk, fun k k0 k1 _ hk => absurd (hz' k k0 k1) hk⟩
    have eVD : mq_VD w = mq_VD w0 := mq_VD_same (fun a b => hf 27 a b (by decide))
    refine c_M_work_41 hn hB h27 hc hl (fun w' hW' hO' => h w' hW'.1 hO') _ w rfl ⟨fun p a b _ z2 _ => hf p a b z2, hr, fun s a b s0 s1 a0 ab b1 hk => absurd (hz' _ (by omega) (by omega)) hk, fun T hT s a b s0 s1 a0 ab b1 hv => ?_⟩
    refine hT s a b s0 s1 a0 ab b1 hv (fun q hcq hlq hwq => ?_)
    exfalso
    rw [eVD] at hwq
    have hd := hc a b q a0 ab b1 hcq hwq
    rw [hlq] at hd
    have hd2 := (mq_VD_nz ⟨s0, s1⟩ (by omega) (by omega)).mp hd
    rw [← hf 27 _ _ (by decide)] at hd2
    exact hv ((mq_V_at (w := w) ⟨s0, s1⟩ (by omega) (by omega) hd2).1 (hz' _ (by omega) (by omega)))
  | succ m ih =>
    intro c w c0 c1 hm hf hz
    refine v_Mo_work_19 (d := d + 4) hn ⟨⟨by omega, by omega⟩, fun z => ⟨c0, z, ?_⟩, fun z => by omega⟩
    rintro w5 rfl
    refine ih (c + 1) _ (by omega) (by omega) (by omega) (fun p a b hp => (mj_wu_n (fun z => hp z.1)).trans (hf p a b hp)) (fun k k0 k1 => ?_)
    by_cases e : k = c
    · rw [e]; unfold mj_wu; simp
    · rw [mj_wu_n (fun z => by omega)]; exact hz k k0 (by omega)
/-- what work may change -/
def mq_k (w w' : mj_w) : Prop := ∀ (p : Nat) (a b : Int), ¬ (p = 21 ∧ (a = 1 ∨ a = 9 ∨ a = 14 ∨ a = 15 ∨ a = 18)) → ¬ (27 ≤ p ∧ p ≤ 32) → w' p a b = w p a b
theorem mq_k.refl (w : mj_w) : mq_k w w := fun _ _ _ _ _ => rfl
theorem mq_k.trans {w w1 w2 : mj_w} (h : mq_k w w1) (h' : mq_k w1 w2) : mq_k w w2 := fun p a b z1 z2 => (h' p a b z1 z2).trans (h p a b z1 z2)
theorem mq_cf.k {w w' : mj_w} (h : mq_cf w w') : mq_k w w' := fun p a b z1 _ => h p a b (fun z => z1 (by omega))
theorem mq_OK.same {u : mj_w} {n : Int} {w w' : mj_w} (h : mq_OK u n w) (e : ∀ (p : Nat) (a b : Int), (p = 21 ∧ (a = 2 ∨ a = 6)) ∨ (22 ≤ p ∧ p ≤ 25) ∨ (27 ≤ p ∧ p ≤ 29) → w' p a b = w p a b) : mq_OK u n w' := by
  obtain ⟨h1, h2, h3, h4, h5⟩ := h
  have e27 := fun c => e 27 c 0 (by omega)
  have e28 := fun c => e 28 c 0 (by omega)
  have e29 := fun c => e 29 c 0 (by omega)
  have eV : mq_V w' = mq_V w := by
    funext s a b
    unfold mq_V
    rw [e27, e28, e29]
  refine ⟨h1.same (fun p a b hp => e p a b (by omega)), fun c c0 c1 => by rw [e27]; exact h2 c c0 c1, by unfold mq_r; simp only [e27, e28, e29]; exact h3, by rw [eV]; exact h4, ?_⟩
  rw [eV]
  simp only [e28, e29]
  exact h5
/-- the reference's tables stand, if it has worked -/
def mq_KI (u : mj_w) (n : Int) (w : mj_w) : Prop := mq_B u n w ∧ (w 21 9 0 = 0 ∨ w 21 9 0 = 1) ∧ (w 21 9 0 ≠ 0 → mq_OK u n w)
theorem c_M_work (hn : 33 ≤ nn) (hK : mq_KI u n w0)
    (h : ∀ w, (∀ (p : Nat) (a b : Int), ¬ (p = 21 ∧ (a = 9 ∨ a = 14 ∨ a = 15)) → ¬ (27 ≤ p ∧ p ≤ 29) → w p a b = w0 p a b) → w 21 9 0 = 1 → mq_OK u n w → Post none w) :
    mj_J g y_Mo_work (d + 5) 0 0 (0, [some (mj_R 21), none, none, none, none, none, none, none], [], mj_mem nn xs w0) (mj_P nn xs Post) := by
  obtain ⟨hB, h9, hO⟩ := hK
  refine v_Mo_work_0 (d := d + 4) hn ⟨by rcases h9 with z | z <;> rw [z] <;> exact ⟨by decide, by decide⟩, fun q => ?_, fun q => h w0 (fun _ _ _ _ _ => rfl) (h9.resolve_left q) (hO q)⟩
  rintro w3 rfl
  have e3 : ∀ (p : Nat) (a b : Int), ¬ (p = 21 ∧ a = 9 ∧ b = 0) → mj_wu w0 21 9 0 1 p a b = w0 p a b := fun p a b z => mj_wu_n z
  have hB3 : mq_B u n (mj_wu w0 21 9 0 1) := hB.same (fun p a b hp => e3 p a b (fun z => by omega))
  have t9 : mj_wu w0 21 9 0 1 21 9 0 = 1 := by unfold mj_wu; simp
  refine c_M_findDerived (d := d) hn hB3 (fun w5 hfd hcD => ⟨rfl, ?_⟩)
  refine c_M_work_19 hn (hfd.B hB3) hfd.2.1 hcD hfd.2.2 (fun w f hOK => h w (fun p a b z1 z2 => ?_) ?_ hOK) _ 0 w5 (Int.le_refl _) (by decide) rfl (fun _ _ _ _ => rfl) (fun k k0 k1 => by omega)
  · rw [f p a b (fun z => z1 (by omega)) (by omega) (by omega), hfd.1 p a b (fun z => z1 (by omega)) (by omega)]
    exact e3 p a b (fun z => z1 ⟨z.1, Or.inl z.2.1⟩)
  · rw [f 21 9 0 (fun z => by omega) (by decide) (by decide), hfd.1 21 9 0 (fun z => by omega) (by decide)]
    exact t9
end C84
