/-! ===== the class: findDeriving ===== -/
/-- symbol s is there over a..b; N: the nonterminals -/
def mf_nz (u : mj_w) (N : Int → Int → Int → Prop) (s a b : Int) : Prop := (s = -1 → a = b) ∧ (8 ≤ s → b = a + 1 ∧ u 5 a 0 = s) ∧ (s ≠ -1 → s < 8 → N s a b)
def mf_way (u : mj_w) (N : Int → Int → Int → Prop) (i j : Int) (q : Int × Int × Int) : Prop :=
  mf_nz u N (u 3 ((q.1 + 1) * 4) 0) i q.2.1 ∧ mf_nz u N (u 3 ((q.1 + 1) * 4 + 1) 0) q.2.1 q.2.2 ∧ mf_nz u N (u 3 ((q.1 + 1) * 4 + 2) 0) q.2.2 j
theorem mf_ov_nz {u : mj_w} {V : Int → Int → Int → Int} {s a b : Int} : mf_ov u V s a b ≠ 0 ↔ mf_nz u (fun s a b => V s a b ≠ 0) s a b := by
  unfold mf_ov mf_nz
  by_cases q : s = -1
  · rw [if_pos q]
    by_cases q1 : a = b
    · rw [if_pos q1]; exact ⟨fun _ => ⟨fun _ => q1, fun z => by omega, fun z => absurd q z⟩, fun _ => by decide⟩
    · rw [if_neg q1]; exact ⟨fun z => absurd rfl z, fun z => absurd (z.1 q) q1⟩
  · rw [if_neg q]
    by_cases q1 : 8 ≤ s
    · rw [if_pos q1]
      by_cases q2 : b = a + 1 ∧ u 5 a 0 = s
      · rw [if_pos q2]; exact ⟨fun _ => ⟨fun z => absurd z q, fun _ => q2, fun _ z => by omega⟩, fun _ => by decide⟩
      · rw [if_neg q2]; exact ⟨fun z => absurd rfl z, fun z => absurd (z.2.1 q1) q2⟩
    · rw [if_neg q1]; exact ⟨fun z => ⟨fun y => absurd y q, fun y => absurd y q1, fun _ _ => z⟩, fun z => z.2.2 q (by omega)⟩
theorem mf_val_nz {u : mj_w} {V : Int → Int → Int → Int} (hV : mf_RV V) {i j : Int} {q : Int × Int × Int} : mf_val u V i j q ≠ 0 ↔ mf_way u (fun s a b => V s a b ≠ 0) i j q := by
  unfold mf_val mf_way
  rw [← mf_ov_nz, ← mf_ov_nz, ← mf_ov_nz, Ne, mf_pr_zero (mf_pr_rv (mf_ov_rv (hV _ _ _)) (mf_ov_rv (hV _ _ _))) (mf_ov_rv (hV _ _ _)), mf_pr_zero (mf_ov_rv (hV _ _ _)) (mf_ov_rv (hV _ _ _)), not_or, not_or, and_assoc]
theorem mf_nz.mono {u u' : mj_w} {N N' : Int → Int → Int → Prop} {s a b : Int} (h : mf_nz u N s a b) (e5 : 8 ≤ s → b = a + 1 → u' 5 a 0 = u 5 a 0) (hN : s ≠ -1 → s < 8 → N s a b → N' s a b) : mf_nz u' N' s a b :=
  ⟨h.1, fun z => ⟨(h.2.1 z).1, (e5 z (h.2.1 z).1).trans (h.2.1 z).2⟩, fun z1 z2 => hN z1 z2 (h.2.2 z1 z2)⟩
/-- one symbol more or less, the same grammar -/
theorem mf_way.mono {u u' : mj_w} {N N' : Int → Int → Int → Prop} {i j : Int} {q : Int × Int × Int} (h : mf_way u N i j q) (hq : i ≤ q.2.1 ∧ q.2.1 ≤ q.2.2 ∧ q.2.2 ≤ j) (e3 : ∀ k : Int, 0 ≤ k → k < 3 → u' 3 ((q.1 + 1) * 4 + k) 0 = u 3 ((q.1 + 1) * 4 + k) 0) (hs : ∀ k : Int, 0 ≤ k → k < 3 → -1 ≤ u 3 ((q.1 + 1) * 4 + k) 0 ∧ (u 3 ((q.1 + 1) * 4 + k) 0 < 5 ∨ 8 ≤ u 3 ((q.1 + 1) * 4 + k) 0)) (e5 : ∀ a : Int, i ≤ a → a < j → u' 5 a 0 = u 5 a 0) (hN : ∀ s a b : Int, 0 ≤ s → s < 5 → i ≤ a → a ≤ b → b ≤ j → N s a b → N' s a b) : mf_way u' N' i j q := by
  obtain ⟨h1, h2, h3⟩ := h
  have t0 := e3 0 (by decide) (by decide)
  have t1 := e3 1 (by decide) (by decide)
  have t2 := e3 2 (by decide) (by decide)
  have s0 := hs 0 (by decide) (by decide)
  have s1 := hs 1 (by decide) (by decide)
  have s2 := hs 2 (by decide) (by decide)
  rw [Int.add_zero] at t0 s0
  refine ⟨?_, ?_, ?_⟩
  · rw [t0]
    exact h1.mono (fun _ z => e5 _ (by omega) (by omega)) (fun z1 z2 => hN _ _ _ (by omega) (by omega) (by omega) (by omega) (by omega))
  · rw [t1]
    exact h2.mono (fun _ z => e5 _ (by omega) (by omega)) (fun z1 z2 => hN _ _ _ (by omega) (by omega) (by omega) (by omega) (by omega))
  · rw [t2]
    exact h3.mono (fun _ z => e5 _ (by omega) (by omega)) (fun z1 z2 => hN _ _ _ (by omega) (by omega) (by omega) (by omega) (by omega))
theorem mj_GI.sy {w : mj_w} (hG : mj_GI w) {r : Int} (hr : 0 ≤ r ∧ r < w 1 0 0) (k : Int) (k0 : 0 ≤ k) (k1 : k < 3) : -1 ≤ w 3 ((r + 1) * 4 + k) 0 ∧ (w 3 ((r + 1) * 4 + k) 0 < 5 ∨ 8 ≤ w 3 ((r + 1) * 4 + k) 0) := by
  have := hG.1
  have := hG.2.2 ((r + 1) * 4 + k) (by omega) (by omega)
  exact ⟨this.1, this.2.2.1⟩
/-- a rule and two cuts of i..j -/
def mf_cut (u : mj_w) (i j : Int) (q : Int × Int × Int) : Prop := (0 ≤ q.1 ∧ q.1 < u 1 0 0) ∧ i ≤ q.2.1 ∧ q.2.1 ≤ q.2.2 ∧ q.2.2 ≤ j
/-- within i..j the symbols of S, elsewhere those that V has -/
def mf_N (V : Int → Int → Int → Int) (i j : Int) (S : Int → Prop) : Int → Int → Int → Prop := fun s a b => if a = i ∧ b = j then S s else V s a b ≠ 0
/-- what derives i..j -/
def mf_LD (u : mj_w) (V : Int → Int → Int → Int) (i j : Int) : Prop :=
  (∀ q, mf_cut u i j q → mf_way u (fun s a b => V s a b ≠ 0) i j q → V (u 2 q.1 0) i j ≠ 0) ∧
  ∀ S : Int → Prop, (∀ q, mf_cut u i j q → mf_way u (mf_N V i j S) i j q → S (u 2 q.1 0)) → ∀ s : Int, 0 ≤ s → s < 5 → V s i j ≠ 0 → S s
/-- outside i..j and the list of ways, nothing has changed -/
def mf_g (i j : Int) (w w' : mj_w) : Prop := ∀ (p : Nat) (a b : Int), p ≠ 17 → p ≠ 18 → p ≠ 19 → p ≠ 20 → ¬ (p = 16 ∧ (∃ s : Int, 0 ≤ s ∧ s < 5 ∧ a = (s * 13 + i) * 13 + j) ∧ b = 0) → w' p a b = w p a b
theorem mf_g.refl (i j : Int) (w : mj_w) : mf_g i j w w := fun _ _ _ _ _ _ _ _ => rfl
theorem mf_g.trans {i j : Int} {w w1 w2 : mj_w} (h : mf_g i j w w1) (h' : mf_g i j w1 w2) : mf_g i j w w2 := fun p a b c1 c2 c3 c4 c5 => (h' p a b c1 c2 c3 c4 c5).trans (h p a b c1 c2 c3 c4 c5)
theorem mf_g.le {i j : Int} {w w' : mj_w} (h : mf_g i j w w') {p : Nat} (hp : p ≤ 15) (a b : Int) : w' p a b = w p a b := h p a b (by omega) (by omega) (by omega) (by omega) (fun z => by omega)
theorem mf_g.V {i j : Int} {w w' : mj_w} (h : mf_g i j w w') (hi : 0 ≤ i ∧ i < 13) (hj : 0 ≤ j ∧ j < 13) {s a b : Int} (hne : ¬ (a = i ∧ b = j)) : mf_V w' s a b = mf_V w s a b := by
  unfold mf_V
  by_cases q : (0 ≤ s ∧ s < 5) ∧ (0 ≤ a ∧ a < 13) ∧ 0 ≤ b ∧ b < 13
  · rw [if_pos q, if_pos q]
    refine h 16 _ 0 (by decide) (by decide) (by decide) (by decide) (fun z => ?_)
    obtain ⟨s', z1, z2, z3⟩ := z.2.1
    omega
  · rw [if_neg q, if_neg q]
theorem mf_g.H {i j : Int} {w w' : mj_w} (h : mf_g i j w w') (hH : mf_H w) (h16 : ∀ s : Int, 0 ≤ s → s < 5 → mf_rv (w' 16 ((s * 13 + i) * 13 + j) 0)) : mf_H w' := by
  have e1 := fun a b => h.le (p := 1) (by decide) a b
  have e2 := fun a b => h.le (p := 2) (by decide) a b
  have e3 := fun a b => h.le (p := 3) (by decide) a b
  have e4 := fun a b => h.le (p := 4) (by decide) a b
  have e5 := fun a b => h.le (p := 5) (by decide) a b
  obtain ⟨a1, a2, a3, a4, a5⟩ := hH
  unfold mf_H mj_GI
  simp only [e1, e2, e3, e4, e5]
  refine ⟨a1, a2, a3, a4, fun c c0 c1 => ?_⟩
  by_cases q : ∃ s : Int, 0 ≤ s ∧ s < 5 ∧ c = (s * 13 + i) * 13 + j
  · obtain ⟨s, s0, s1, s2⟩ := q
    rw [s2]
    exact h16 s s0 s1
  · rw [h 16 c 0 (by decide) (by decide) (by decide) (by decide) (fun z => q z.2.1)]
    exact a5 c c0 c1
theorem mf_V_at {w : mj_w} {s i j : Int} (hs : 0 ≤ s ∧ s < 5) (hi : 0 ≤ i ∧ i < 13) (hj : 0 ≤ j ∧ j < 13) : mf_V w s i j = w 16 ((s * 13 + i) * 13 + j) 0 := by
  unfold mf_V
  rw [if_pos ⟨hs, hi, hj.1, hj.2⟩]
/-- how many symbols pass the test -/
def mf_cnt (f : Int → Prop) [DecidablePred f] : Nat := mj_cn (fun k : Nat => decide (f (k : Int))) 5
theorem mf_cnt_all {f : Int → Prop} [DecidablePred f] (h : 5 ≤ mf_cnt f) {s : Int} (h0 : 0 ≤ s) (h1 : s < 5) : f s := by
  apply Classical.byContradiction
  intro q
  have := mj_cn_lt (f := fun k : Nat => decide (f (k : Int))) (k := s.toNat) (by rw [show ((s.toNat : Nat) : Int) = s by omega]; simp [q]) 5 (by omega)
  unfold mf_cnt at h
  omega
theorem mf_cnt_up {f f' : Int → Prop} [DecidablePred f] [DecidablePred f'] {s : Int} (h0 : 0 ≤ s) (h1 : s < 5) (hf : ¬ f s) (hf' : f' s) (ho : ∀ k : Int, 0 ≤ k → k < 5 → k ≠ s → (f' k ↔ f k)) : mf_cnt f' = mf_cnt f + 1 := by
  unfold mf_cnt
  have e : ((s.toNat : Nat) : Int) = s := by omega
  refine mj_cn_set (k := s.toNat) ?_ ?_ 5 (by omega) (fun j hj hne => ?_)
  · rw [e]; simp [hf]
  · rw [e]; simp [hf']
  · have := ho (j : Int) (by omega) (by omega) (by omega)
    simp [this]
/-- where findDeriving stands -/
def mf_fd (i j : Int) (u w : mj_w) : Prop := mf_g i j u w ∧ (∀ s : Int, 0 ≤ s → s < 5 → mf_V w s i j = 0 ∨ mf_V w s i j = -1) ∧ ∀ S : Int → Prop, (∀ q, mf_cut u i j q → mf_way u (mf_N (mf_V u) i j S) i j q → S (u 2 q.1 0)) → ∀ s : Int, 0 ≤ s → s < 5 → mf_V w s i j ≠ 0 → S s
theorem mf_fd.H {i j : Int} {u w : mj_w} (h : mf_fd i j u w) (hH : mf_H u) (hi : 0 ≤ i ∧ i < 13) (hj : 0 ≤ j ∧ j < 13) : mf_H w :=
  h.1.H hH (fun s s0 s1 => by
    have := h.2.1 s s0 s1
    rw [mf_V_at ⟨s0, s1⟩ hi hj] at this
    rcases this with z | z
    · rw [z]; exact Or.inr (by decide)
    · exact Or.inl z)
theorem mf_g.wayN {i j : Int} {u w : mj_w} (h : mf_g i j u w) (hG : mj_GI u) (hi : 0 ≤ i ∧ i < 13) (hj : 0 ≤ j ∧ j < 13) {q : Int × Int × Int} (hq : mf_cut w i j q) {S : Int → Prop} (hS : ∀ s : Int, 0 ≤ s → s < 5 → mf_V w s i j ≠ 0 → S s) (hw : mf_way w (fun s a b => mf_V w s a b ≠ 0) i j q) : mf_way u (mf_N (mf_V u) i j S) i j q := by
  have e1 : w 1 0 0 = u 1 0 0 := h.le (by decide) 0 0
  have e3 : ∀ s, w 3 s 0 = u 3 s 0 := fun s => h.le (by decide) s 0
  have hr : 0 ≤ q.1 ∧ q.1 < u 1 0 0 := by have := hq.1; omega
  refine hw.mono hq.2 (fun k _ _ => (e3 _).symm) (fun k k0 k1 => by rw [e3]; exact hG.sy hr k k0 k1) (fun a _ _ => (h.le (p := 5) (by decide) a 0).symm) (fun s a b s0 s1 a0 ab b1 hN => ?_)
  unfold mf_N
  by_cases e : a = i ∧ b = j
  · rw [if_pos e]
    rw [e.1, e.2] at hN
    exact hS s s0 s1 hN
  · rw [if_neg e]
    rw [h.V hi hj e] at hN
    exact hN
/-- at the end -/
theorem mf_fd.LD {i j : Int} {u w : mj_w} (h : mf_fd i j u w) (hH : mf_H u) (hi : 0 ≤ i ∧ i < 13) (hj : 0 ≤ j ∧ j < 13) (hc : ∀ s : Int, 0 ≤ s → s < 5 → mf_V w s i j = 0 → mf_ways w (mf_V w) s i j = []) (hij : i ≤ j) : mf_LD w (mf_V w) i j := by
  have hHw := h.H hH hi hj
  have hG := hHw.1
  refine ⟨fun q hq hw z => ?_, fun S hS s s0 s1 hv => h.2.2 S (fun q hq hw => ?_) s s0 s1 hv⟩
  · have hl := hG.2.1 q.1 hq.1.1 hq.1.2
    have hm := hc (w 2 q.1 0) hl.1 hl.2 z
    have : q ∈ mf_ways w (mf_V w) (w 2 q.1 0) i j := (mf_mem hG.1.1 (by omega)).mpr ⟨hq.1, rfl, hq.2.1, hq.2.2.1, hq.2.2.2, (mf_val_nz hHw.rv).mpr hw⟩
    rw [hm] at this
    cases this
  · have e1 : w 1 0 0 = u 1 0 0 := h.1.le (by decide) 0 0
    have e2 : w 2 q.1 0 = u 2 q.1 0 := h.1.le (by decide) q.1 0
    have e3 : ∀ s, w 3 s 0 = u 3 s 0 := fun s => h.1.le (by decide) s 0
    rw [← e2]
    refine hS q ⟨by rw [e1]; exact hq.1, hq.2⟩ (hw.mono hq.2 (fun k _ _ => e3 _) (fun k k0 k1 => hH.1.sy hq.1 k k0 k1) (fun a _ _ => h.1.le (p := 5) (by decide) a 0) (fun s a b s0 s1 a0 ab b1 hN => ?_))
    unfold mf_N at hN ⊢
    by_cases e : a = i ∧ b = j
    · rw [if_pos e] at hN ⊢; exact hN
    · rw [if_neg e] at hN ⊢
      rw [h.1.V hi hj e]; exact hN
