/-! ===== sums of ways; what a stretch's row is ===== -/
def mf_sm (x y : Int) : Int := if x = -1 then -1 else if y = -1 then -1 else mj_min 1000000000000 (x + y)
theorem mf_sm_rv {x y : Int} (hx : mf_rv x) (hy : mf_rv y) : mf_rv (mf_sm x y) := by
  unfold mf_sm mj_min
  by_cases q : x = -1
  · rw [if_pos q]; exact Or.inl rfl
  · rw [if_neg q]
    by_cases q1 : y = -1
    · rw [if_pos q1]; exact Or.inl rfl
    · rw [if_neg q1]
      have h1 := hx.resolve_left q
      have h2 := hy.resolve_left q1
      split
      · exact Or.inr ⟨by omega, by omega⟩
      · exact Or.inr (by decide)
theorem mf_sm_end {x y : Int} (hx : mf_rv x) (hy : mf_rv y) : mf_sm x y = -1 ↔ x = -1 ∨ y = -1 := by
  unfold mf_sm mj_min
  by_cases q : x = -1
  · rw [if_pos q]; exact ⟨fun _ => Or.inl q, fun _ => rfl⟩
  · rw [if_neg q]
    by_cases q1 : y = -1
    · rw [if_pos q1]; exact ⟨fun _ => Or.inr q1, fun _ => rfl⟩
    · rw [if_neg q1]
      have h1 := hx.resolve_left q
      have h2 := hy.resolve_left q1
      split <;> omega
theorem mf_sm_zero {x y : Int} (hx : mf_rv x) (hy : mf_rv y) : mf_sm x y = 0 ↔ x = 0 ∧ y = 0 := by
  unfold mf_sm mj_min
  by_cases q : x = -1
  · rw [if_pos q]; omega
  · rw [if_neg q]
    by_cases q1 : y = -1
    · rw [if_pos q1]; omega
    · rw [if_neg q1]
      have h1 := hx.resolve_left q
      have h2 := hy.resolve_left q1
      split <;> omega
def mf_fs (x : Int) (l : List Int) : Int := l.foldl mf_sm x
theorem mf_fs_rv : ∀ (l : List Int) (x : Int), mf_rv x → (∀ y ∈ l, mf_rv y) → mf_rv (mf_fs x l)
  | [], _, hx, _ => hx
  | y :: l, x, hx, hl => mf_fs_rv l (mf_sm x y) (mf_sm_rv hx (hl y (List.mem_cons_self ..))) (fun z hz => hl z (List.mem_cons_of_mem _ hz))
theorem mf_fs_end : ∀ (l : List Int) (x : Int), mf_rv x → (∀ y ∈ l, mf_rv y) → (mf_fs x l = -1 ↔ x = -1 ∨ -1 ∈ l)
  | [], _, _, _ => by simp [mf_fs]
  | y :: l, x, hx, hl => by
    have h := mf_fs_end l (mf_sm x y) (mf_sm_rv hx (hl y (List.mem_cons_self ..))) (fun z hz => hl z (List.mem_cons_of_mem _ hz))
    rw [show mf_fs x (y :: l) = mf_fs (mf_sm x y) l from rfl, h, mf_sm_end hx (hl y (List.mem_cons_self ..)), List.mem_cons, or_assoc]
    constructor
    · rintro (z | z | z)
      · exact Or.inl z
      · exact Or.inr (Or.inl z.symm)
      · exact Or.inr (Or.inr z)
    · rintro (z | z | z)
      · exact Or.inl z
      · exact Or.inr (Or.inl z.symm)
      · exact Or.inr (Or.inr z)
theorem mf_fs_zero : ∀ (l : List Int) (x : Int), mf_rv x → (∀ y ∈ l, mf_rv y) → (mf_fs x l = 0 ↔ x = 0 ∧ ∀ y ∈ l, y = 0)
  | [], _, _, _ => by simp [mf_fs]
  | y :: l, x, hx, hl => by
    have h := mf_fs_zero l (mf_sm x y) (mf_sm_rv hx (hl y (List.mem_cons_self ..))) (fun z hz => hl z (List.mem_cons_of_mem _ hz))
    rw [show mf_fs x (y :: l) = mf_fs (mf_sm x y) l from rfl, h, mf_sm_zero hx (hl y (List.mem_cons_self ..)), and_assoc]
    constructor
    · rintro ⟨a, b, c⟩
      refine ⟨a, fun z hz => ?_⟩
      rcases List.mem_cons.mp hz with e | e
      · rw [e]; exact b
      · exact c z e
    · rintro ⟨a, b⟩
      exact ⟨a, b y (List.mem_cons_self ..), fun z hz => b z (List.mem_cons_of_mem _ hz)⟩
theorem mf_val_rv {u : mj_w} {V : Int → Int → Int → Int} (hV : mf_RV V) (i j : Int) (q : Int × Int × Int) : mf_rv (mf_val u V i j q) := mf_pr_rv (mf_pr_rv (mf_ov_rv (hV _ _ _)) (mf_ov_rv (hV _ _ _))) (mf_ov_rv (hV _ _ _))
/-- all trees of s over i..j -/
def mf_tot (u : mj_w) (V : Int → Int → Int → Int) (s i j : Int) : Int := mf_fs 0 ((mf_ways u V s i j).map (mf_val u V i j))
theorem mf_tot_rv {u : mj_w} {V : Int → Int → Int → Int} (hV : mf_RV V) (s i j : Int) : mf_rv (mf_tot u V s i j) := by
  refine mf_fs_rv _ _ (Or.inr (by decide)) (fun y hy => ?_)
  obtain ⟨q, _, rfl⟩ := List.mem_map.mp hy
  exact mf_val_rv hV i j q
theorem mf_tot_end {u : mj_w} {V : Int → Int → Int → Int} (hV : mf_RV V) {s i j : Int} : mf_tot u V s i j = -1 ↔ ∃ q, q ∈ mf_ways u V s i j ∧ mf_val u V i j q = -1 := by
  unfold mf_tot
  rw [mf_fs_end _ _ (Or.inr (by decide)) (fun y hy => by
    obtain ⟨q, _, rfl⟩ := List.mem_map.mp hy
    exact mf_val_rv hV i j q)]
  constructor
  · rintro (z | z)
    · exact absurd z (by decide)
    · exact List.mem_map.mp z
  · intro z
    exact Or.inr (List.mem_map.mpr z)
theorem mf_tot_zero {u : mj_w} {V : Int → Int → Int → Int} (hV : mf_RV V) {s i j : Int} (hc : 0 ≤ u 1 0 0) (hij : i ≤ j + 1) : mf_tot u V s i j = 0 ↔ mf_ways u V s i j = [] := by
  unfold mf_tot
  rw [mf_fs_zero _ _ (Or.inr (by decide)) (fun y hy => by
    obtain ⟨q, _, rfl⟩ := List.mem_map.mp hy
    exact mf_val_rv hV i j q)]
  constructor
  · rintro ⟨_, z⟩
    apply List.eq_nil_iff_forall_not_mem.mpr
    intro q hq
    exact ((mf_mem hc hij).mp hq).2.2.2.2.2 (z _ (List.mem_map.mpr ⟨q, hq, rfl⟩))
  · intro z
    rw [z]
    exact ⟨rfl, fun y hy => by cases hy⟩
/-! lists that agree -/
theorem mf_in_congr {u u' : mj_w} {V V' : Int → Int → Int → Int} {r i j a : Int} : ∀ m : Nat, (∀ b : Int, j - (m : Int) < b → b ≤ j → (mf_val u V i j (r, a, b) ≠ 0 ↔ mf_val u' V' i j (r, a, b) ≠ 0)) → mf_in u V r i j a m = mf_in u' V' r i j a m
  | 0, _ => rfl
  | m + 1, h => by
    have ih := mf_in_congr (u := u) (u' := u') (V := V) (V' := V') (r := r) (i := i) (j := j) (a := a) m (fun b b1 b2 => h b (by omega) b2)
    have h0 := h (j - (m : Int)) (by omega) (by omega)
    simp only [mf_in]
    rw [ih]
    by_cases q : mf_val u V i j (r, a, j - (m : Int)) ≠ 0
    · rw [if_pos q, if_pos (h0.mp q)]
    · rw [if_neg q, if_neg (fun z => q (h0.mpr z))]
theorem mf_out_congr {u u' : mj_w} {V V' : Int → Int → Int → Int} {r i j : Int} : ∀ m : Nat, (∀ a b : Int, j - (m : Int) < a → a ≤ b → b ≤ j → (mf_val u V i j (r, a, b) ≠ 0 ↔ mf_val u' V' i j (r, a, b) ≠ 0)) → mf_out u V r i j m = mf_out u' V' r i j m
  | 0, _ => rfl
  | m + 1, h => by
    have ih := mf_out_congr (u := u) (u' := u') (V := V) (V' := V') (r := r) (i := i) (j := j) m (fun a b b1 b2 b3 => h a b (by omega) b2 b3)
    simp only [mf_out]
    rw [ih, mf_in_congr (m + 1) (fun b b1 b2 => h (j - (m : Int)) b (by omega) (by omega) b2)]
theorem mf_rl_congr {u u' : mj_w} {V V' : Int → Int → Int → Int} {s i j : Int} (e1 : u' 1 0 0 = u 1 0 0) (hij : i ≤ j + 1) : ∀ m : Nat, (∀ r : Int, u 1 0 0 - (m : Int) ≤ r → r < u 1 0 0 → u' 2 r 0 = u 2 r 0 ∧ (u 2 r 0 = s → ∀ a b : Int, i ≤ a → a ≤ b → b ≤ j → (mf_val u V i j (r, a, b) ≠ 0 ↔ mf_val u' V' i j (r, a, b) ≠ 0))) → mf_rl u V s i j m = mf_rl u' V' s i j m
  | 0, _ => rfl
  | m + 1, h => by
    have ih := mf_rl_congr (u := u) (u' := u') (V := V) (V' := V') (s := s) (i := i) (j := j) e1 hij m (fun r r0 r1 => h r (by omega) r1)
    have h0 := h (u 1 0 0 - ((m : Int) + 1)) (by omega) (by omega)
    simp only [mf_rl]
    rw [ih, e1, h0.1]
    by_cases q : u 2 (u 1 0 0 - ((m : Int) + 1)) 0 = s
    · rw [if_pos q, if_pos q, mf_out_congr _ (fun a b a0 ab b1 => h0.2 q a b (by omega) ab b1)]
    · rw [if_neg q, if_neg q]
/-- the same rules, the same terminals within i..j -/
def mf_sg (u u' : mj_w) (i j : Int) : Prop := u' 1 0 0 = u 1 0 0 ∧ (∀ r : Int, 0 ≤ r → r < u 1 0 0 → u' 2 r 0 = u 2 r 0 ∧ ∀ k : Int, 0 ≤ k → k < 3 → u' 3 ((r + 1) * 4 + k) 0 = u 3 ((r + 1) * 4 + k) 0) ∧ ∀ a : Int, i ≤ a → a < j → u' 5 a 0 = u 5 a 0
theorem mf_sg.symm {u u' : mj_w} {i j : Int} (h : mf_sg u u' i j) : mf_sg u' u i j := by
  refine ⟨h.1.symm, fun r r0 r1 => ?_, fun a a0 a1 => (h.2.2 a a0 a1).symm⟩
  rw [h.1] at r1
  have := h.2.1 r r0 r1
  exact ⟨this.1.symm, fun k k0 k1 => (this.2 k k0 k1).symm⟩
theorem mf_sg.cut {u u' : mj_w} {i j : Int} (h : mf_sg u u' i j) {q : Int × Int × Int} (hc : mf_cut u i j q) : mf_cut u' i j q := ⟨by rw [h.1]; exact hc.1, hc.2⟩
theorem mf_way.sg {u u' : mj_w} {N N' : Int → Int → Int → Prop} {i j : Int} {q : Int × Int × Int} (h : mf_way u N i j q) (hG : mj_GI u) (hsg : mf_sg u u' i j) (hc : mf_cut u i j q) (hN : ∀ s a b : Int, 0 ≤ s → s < 5 → i ≤ a → a ≤ b → b ≤ j → N s a b → N' s a b) : mf_way u' N' i j q := h.mono hc.2 (fun k k0 k1 => (hsg.2.1 q.1 hc.1.1 hc.1.2).2 k k0 k1) (fun k k0 k1 => hG.sy hc.1 k k0 k1) hsg.2.2 hN
theorem mf_ways_congr {u u' : mj_w} {V V' : Int → Int → Int → Int} {s i j : Int} (hc : 0 ≤ u 1 0 0) (hij : i ≤ j + 1) (hsg : mf_sg u u' i j) (h : ∀ q, mf_cut u i j q → u 2 q.1 0 = s → (mf_val u V i j q ≠ 0 ↔ mf_val u' V' i j q ≠ 0)) : mf_ways u V s i j = mf_ways u' V' s i j := by
  unfold mf_ways
  rw [hsg.1]
  exact mf_rl_congr hsg.1 hij _ (fun r r0 r1 => ⟨(hsg.2.1 r (by omega) r1).1, fun hl a b a0 ab b1 => h (r, a, b) ⟨⟨by show 0 ≤ r; omega, r1⟩, a0, ab, b1⟩ hl⟩)
theorem mf_tot_congr {u u' : mj_w} {V V' : Int → Int → Int → Int} {s i j : Int} (hc : 0 ≤ u 1 0 0) (hij : i ≤ j + 1) (hsg : mf_sg u u' i j) (h : ∀ q, mf_cut u i j q → u 2 q.1 0 = s → (mf_val u V i j q ≠ 0 ↔ mf_val u' V' i j q ≠ 0)) (h2 : ∀ q, mf_cut u i j q → u 2 q.1 0 = s → mf_val u V i j q ≠ 0 → mf_val u V i j q = mf_val u' V' i j q) : mf_tot u V s i j = mf_tot u' V' s i j := by
  unfold mf_tot
  rw [← mf_ways_congr hc hij hsg h]
  congr 1
  apply List.map_congr_left
  intro q hq
  obtain ⟨m1, m2, m3, m4, m5, m6⟩ := (mf_mem hc hij).mp hq
  exact h2 q ⟨m1, m3, m4, m5⟩ m2 m6
theorem mf_ov_eq {u u' : mj_w} {V V' : Int → Int → Int → Int} {s s' a b : Int} (es : s' = s) (hs : -1 ≤ s ∧ (s < 5 ∨ 8 ≤ s)) (e5 : b = a + 1 → u' 5 a 0 = u 5 a 0) (h : 0 ≤ s → s < 5 → V s a b = V' s a b) : mf_ov u V s a b = mf_ov u' V' s' a b := by
  rw [es]
  unfold mf_ov
  by_cases q : s = -1
  · rw [if_pos q, if_pos q]
  · rw [if_neg q, if_neg q]
    by_cases q1 : 8 ≤ s
    · rw [if_pos q1, if_pos q1]
      by_cases q2 : b = a + 1
      · rw [e5 q2]
      · rw [if_neg (fun z => q2 z.1), if_neg (fun z => q2 z.1)]
    · rw [if_neg q1, if_neg q1]
      exact h (by omega) (by omega)
theorem mf_val_eq {u u' : mj_w} {V V' : Int → Int → Int → Int} {i j : Int} {q : Int × Int × Int} (hG : mj_GI u) (hsg : mf_sg u u' i j) (hc : mf_cut u i j q) {N : Int → Int → Int → Prop} (hw : mf_way u N i j q) (h : ∀ s a b : Int, 0 ≤ s → s < 5 → i ≤ a → a ≤ b → b ≤ j → N s a b → V s a b = V' s a b) : mf_val u V i j q = mf_val u' V' i j q := by
  obtain ⟨h0, h1, h2⟩ := hw
  have t := (hsg.2.1 q.1 hc.1.1 hc.1.2).2
  have t0 := t 0 (by decide) (by decide)
  have t1 := t 1 (by decide) (by decide)
  have t2 := t 2 (by decide) (by decide)
  have s0 := hG.sy hc.1 0 (by decide) (by decide)
  have s1 := hG.sy hc.1 1 (by decide) (by decide)
  have s2 := hG.sy hc.1 2 (by decide) (by decide)
  rw [Int.add_zero] at t0 s0
  obtain ⟨c1, c2, c3, c4⟩ := hc
  unfold mf_val
  rw [mf_ov_eq t0 s0 (fun z => hsg.2.2 _ (by omega) (by omega)) (fun z1 z2 => h _ _ _ z1 z2 (by omega) (by omega) (by omega) (h0.2.2 (by omega) (by omega))), mf_ov_eq t1 s1 (fun z => hsg.2.2 _ (by omega) (by omega)) (fun z1 z2 => h _ _ _ z1 z2 (by omega) (by omega) (by omega) (h1.2.2 (by omega) (by omega))), mf_ov_eq t2 s2 (fun z => hsg.2.2 _ (by omega) (by omega)) (fun z1 z2 => h _ _ _ z1 z2 (by omega) (by omega) (by omega) (h2.2.2 (by omega) (by omega)))]
theorem mf_val_agree {u u' : mj_w} {V V' : Int → Int → Int → Int} {i j : Int} {q : Int × Int × Int} (hG : mj_GI u) (hsg : mf_sg u u' i j) (hc : mf_cut u i j q) (h : ∀ s a b : Int, 0 ≤ s → s < 5 → i ≤ a → a ≤ b → b ≤ j → V s a b = V' s a b) : mf_val u V i j q = mf_val u' V' i j q := by
  have t := (hsg.2.1 q.1 hc.1.1 hc.1.2).2
  have t0 := t 0 (by decide) (by decide)
  have t1 := t 1 (by decide) (by decide)
  have t2 := t 2 (by decide) (by decide)
  have s0 := hG.sy hc.1 0 (by decide) (by decide)
  have s1 := hG.sy hc.1 1 (by decide) (by decide)
  have s2 := hG.sy hc.1 2 (by decide) (by decide)
  rw [Int.add_zero] at t0 s0
  obtain ⟨c1, c2, c3, c4⟩ := hc
  unfold mf_val
  rw [mf_ov_eq t0 s0 (fun z => hsg.2.2 _ (by omega) (by omega)) (fun z1 z2 => h _ _ _ z1 z2 (by omega) (by omega) (by omega)), mf_ov_eq t1 s1 (fun z => hsg.2.2 _ (by omega) (by omega)) (fun z1 z2 => h _ _ _ z1 z2 (by omega) (by omega) (by omega)), mf_ov_eq t2 s2 (fun z => hsg.2.2 _ (by omega) (by omega)) (fun z1 z2 => h _ _ _ z1 z2 (by omega) (by omega) (by omega))]
/-! ways all of whose parts are counted -/
theorem mf_pr_fin {x y : Int} (hx : mf_rv x) (hy : mf_rv y) : (mf_pr x y ≠ 0 ∧ mf_pr x y ≠ -1) ↔ (x ≠ 0 ∧ x ≠ -1) ∧ y ≠ 0 ∧ y ≠ -1 := by
  rw [Ne, mf_pr_zero hx hy]
  constructor
  · rintro ⟨a, b⟩
    rw [Ne, mf_pr_end hx hy a] at b
    rw [not_or] at a b
    exact ⟨⟨a.1, b.1⟩, a.2, b.2⟩
  · rintro ⟨⟨a, b⟩, c, e⟩
    have h0 : ¬ (x = 0 ∨ y = 0) := not_or.mpr ⟨a, c⟩
    refine ⟨h0, ?_⟩
    rw [Ne, mf_pr_end hx hy h0]
    exact not_or.mpr ⟨b, e⟩
theorem mf_ov_fin {u : mj_w} {V : Int → Int → Int → Int} {s a b : Int} : (mf_ov u V s a b ≠ 0 ∧ mf_ov u V s a b ≠ -1) ↔ mf_nz u (fun s a b => V s a b ≠ 0 ∧ V s a b ≠ -1) s a b := by
  unfold mf_ov mf_nz
  by_cases q : s = -1
  · rw [if_pos q]
    by_cases q1 : a = b
    · rw [if_pos q1]; exact ⟨fun _ => ⟨fun _ => q1, fun z => by omega, fun z => absurd q z⟩, fun _ => by decide⟩
    · rw [if_neg q1]; exact ⟨fun z => absurd rfl z.1, fun z => absurd (z.1 q) q1⟩
  · rw [if_neg q]
    by_cases q1 : 8 ≤ s
    · rw [if_pos q1]
      by_cases q2 : b = a + 1 ∧ u 5 a 0 = s
      · rw [if_pos q2]; exact ⟨fun _ => ⟨fun z => absurd z q, fun _ => q2, fun _ z => by omega⟩, fun _ => by decide⟩
      · rw [if_neg q2]; exact ⟨fun z => absurd rfl z.1, fun z => absurd (z.2.1 q1) q2⟩
    · rw [if_neg q1]; exact ⟨fun z => ⟨fun y => absurd y q, fun y => absurd y q1, fun _ _ => z⟩, fun z => z.2.2 q (by omega)⟩
theorem mf_val_fin {u : mj_w} {V : Int → Int → Int → Int} (hV : mf_RV V) {i j : Int} {q : Int × Int × Int} : (mf_val u V i j q ≠ 0 ∧ mf_val u V i j q ≠ -1) ↔ mf_way u (fun s a b => V s a b ≠ 0 ∧ V s a b ≠ -1) i j q := by
  unfold mf_val mf_way
  rw [← mf_ov_fin, ← mf_ov_fin, ← mf_ov_fin, mf_pr_fin (mf_pr_rv (mf_ov_rv (hV _ _ _)) (mf_ov_rv (hV _ _ _))) (mf_ov_rv (hV _ _ _)), mf_pr_fin (mf_ov_rv (hV _ _ _)) (mf_ov_rv (hV _ _ _)), and_assoc]
/-- the row of a stretch: each number is the sum over its ways; what has trees is least; what is counted is least -/
def mf_TB (u : mj_w) (V : Int → Int → Int → Int) (i j : Int) : Prop :=
  (∀ s : Int, 0 ≤ s → s < 5 → V s i j = mf_tot u V s i j) ∧
  (∀ S : Int → Prop, (∀ q, mf_cut u i j q → mf_way u (mf_N V i j S) i j q → S (u 2 q.1 0)) → ∀ s : Int, 0 ≤ s → s < 5 → V s i j ≠ 0 → S s) ∧
  ∀ S : Int → Prop, (∀ s : Int, 0 ≤ s → s < 5 → V s i j ≠ -1 → (∀ q, mf_cut u i j q → u 2 q.1 0 = s → mf_way u (fun s a b => V s a b ≠ 0) i j q → mf_way u (fun s' a b => a = i ∧ b = j → S s') i j q) → S s) → ∀ s : Int, 0 ≤ s → s < 5 → V s i j ≠ -1 → S s
theorem mf_TB.closed {u : mj_w} {V : Int → Int → Int → Int} {i j : Int} (h : mf_TB u V i j) (hG : mj_GI u) (hV : mf_RV V) (hij : i ≤ j) {q : Int × Int × Int} (hc : mf_cut u i j q) (hw : mf_way u (fun s a b => V s a b ≠ 0) i j q) : V (u 2 q.1 0) i j ≠ 0 := by
  have hl := hG.2.1 q.1 hc.1.1 hc.1.2
  rw [h.1 _ hl.1 hl.2, Ne, mf_tot_zero hV hG.1.1 (by omega)]
  intro z
  have : q ∈ mf_ways u V (u 2 q.1 0) i j := (mf_mem hG.1.1 (by omega)).mpr ⟨hc.1, rfl, hc.2.1, hc.2.2.1, hc.2.2.2, (mf_val_nz hV).mpr hw⟩
  rw [z] at this
  cases this
/-- a way of s, and s is counted: its parts are counted -/
theorem mf_TB.fin {u : mj_w} {V : Int → Int → Int → Int} {i j : Int} (h : ∀ s : Int, 0 ≤ s → s < 5 → V s i j ≠ -1 → V s i j = mf_tot u V s i j) (hG : mj_GI u) (hV : mf_RV V) (hij : i ≤ j) {q : Int × Int × Int} (hc : mf_cut u i j q) (hw : mf_way u (fun s a b => V s a b ≠ 0) i j q) (hv : V (u 2 q.1 0) i j ≠ -1) : mf_way u (fun s a b => V s a b ≠ 0 ∧ V s a b ≠ -1) i j q := by
  have hl := hG.2.1 q.1 hc.1.1 hc.1.2
  have h0 := (mf_val_nz hV).mpr hw
  refine (mf_val_fin hV).mp ⟨h0, fun z => ?_⟩
  have e := h _ hl.1 hl.2 hv
  rw [e] at hv
  exact hv ((mf_tot_end hV).mpr ⟨q, (mf_mem hG.1.1 (by omega)).mpr ⟨hc.1, rfl, hc.2.1, hc.2.2.1, hc.2.2.2, h0⟩, z⟩)
theorem mf_TB.unique {u u' : mj_w} {V V' : Int → Int → Int → Int} {i j : Int} (h : mf_TB u V i j) (h' : mf_TB u' V' i j) (hG : mj_GI u) (hG' : mj_GI u') (hV : mf_RV V) (hV' : mf_RV V') (hij : i ≤ j) (hsg : mf_sg u u' i j) (ha : ∀ s a b : Int, 0 ≤ s → s < 5 → i ≤ a → a ≤ b → b ≤ j → ¬ (a = i ∧ b = j) → V s a b = V' s a b) : ∀ s : Int, 0 ≤ s → s < 5 → V s i j = V' s i j := by
  -- first what has trees, then what is counted: each from one side, for both sides
  have D : ∀ {u u' : mj_w} {V V' : Int → Int → Int → Int}, mf_TB u V i j → mf_TB u' V' i j → mj_GI u → mj_GI u' → mf_RV V → mf_RV V' → mf_sg u u' i j → (∀ s a b : Int, 0 ≤ s → s < 5 → i ≤ a → a ≤ b → b ≤ j → ¬ (a = i ∧ b = j) → V s a b = V' s a b) → ∀ s : Int, 0 ≤ s → s < 5 → V s i j ≠ 0 → V' s i j ≠ 0 := by
    intro u u' V V' h h' hG hG' hV hV' hsg ha
    refine h.2.1 (fun s => V' s i j ≠ 0) (fun q hc hw => ?_)
    rw [← (hsg.2.1 q.1 hc.1.1 hc.1.2).1]
    refine h'.closed hG' hV' hij (hsg.cut hc) (hw.sg hG hsg hc (fun s a b s0 s1 a0 ab b1 hN => ?_))
    unfold mf_N at hN
    by_cases e : a = i ∧ b = j
    · rw [if_pos e] at hN
      rw [e.1, e.2]; exact hN
    · rw [if_neg e] at hN
      show V' s a b ≠ 0
      rw [← ha s a b s0 s1 a0 ab b1 e]; exact hN
  have ha' : ∀ s a b : Int, 0 ≤ s → s < 5 → i ≤ a → a ≤ b → b ≤ j → ¬ (a = i ∧ b = j) → V' s a b = V s a b := fun s a b s0 s1 a0 ab b1 e => (ha s a b s0 s1 a0 ab b1 e).symm
  have D1 := D h h' hG hG' hV hV' hsg ha
  have D2 := D h' h hG' hG hV' hV hsg.symm ha'
  have C : ∀ {u u' : mj_w} {V V' : Int → Int → Int → Int}, mf_TB u V i j → mf_TB u' V' i j → mj_GI u → mj_GI u' → mf_RV V → mf_RV V' → mf_sg u u' i j → (∀ s a b : Int, 0 ≤ s → s < 5 → i ≤ a → a ≤ b → b ≤ j → ¬ (a = i ∧ b = j) → V s a b = V' s a b) → (∀ s : Int, 0 ≤ s → s < 5 → V s i j ≠ 0 → V' s i j ≠ 0) → (∀ s : Int, 0 ≤ s → s < 5 → V' s i j ≠ 0 → V s i j ≠ 0) → ∀ s : Int, 0 ≤ s → s < 5 → V s i j ≠ -1 → V s i j = V' s i j := by
    intro u u' V V' h h' hG hG' hV hV' hsg ha D1 D2
    refine h.2.2 (fun s => V s i j = V' s i j) (fun s s0 s1 hv hq => ?_)
    rw [h.1 s s0 s1, h'.1 s s0 s1]
    refine mf_tot_congr hG.1.1 (by omega) hsg (fun q hc hl => ?_) (fun q hc hl hz => ?_)
    · rw [mf_val_nz hV, mf_val_nz hV']
      constructor
      · intro hw
        refine hw.sg hG hsg hc (fun s a b s0 s1 a0 ab b1 hN => ?_)
        by_cases e : a = i ∧ b = j
        · rw [e.1, e.2] at hN ⊢; exact D1 s s0 s1 hN
        · show V' s a b ≠ 0
          rw [← ha s a b s0 s1 a0 ab b1 e]; exact hN
      · intro hw
        refine hw.sg hG' hsg.symm (hsg.cut hc) (fun s a b s0 s1 a0 ab b1 hN => ?_)
        by_cases e : a = i ∧ b = j
        · rw [e.1, e.2] at hN ⊢; exact D2 s s0 s1 hN
        · show V s a b ≠ 0
          rw [ha s a b s0 s1 a0 ab b1 e]; exact hN
    · refine mf_val_eq hG hsg hc (hq q hc hl ((mf_val_nz hV).mp hz)) (fun s' a b s0 s1 a0 ab b1 hN => ?_)
      by_cases e : a = i ∧ b = j
      · rw [e.1, e.2]; exact hN e
      · exact ha s' a b s0 s1 a0 ab b1 e
  intro s s0 s1
  by_cases e : V s i j = -1
  · by_cases e' : V' s i j = -1
    · rw [e, e']
    · exact (C h' h hG' hG hV' hV hsg.symm ha' D2 D1 s s0 s1 e').symm
  · exact C h h' hG hG' hV hV' hsg ha D1 D2 s s0 s1 e
theorem mf_TB.congr {u u' : mj_w} {V V' : Int → Int → Int → Int} {i j : Int} (h : mf_TB u V i j) (hG : mj_GI u) (hG' : mj_GI u') (hV : mf_RV V) (hV' : mf_RV V') (hij : i ≤ j) (hsg : mf_sg u u' i j) (ha : ∀ s a b : Int, 0 ≤ s → s < 5 → i ≤ a → a ≤ b → b ≤ j → V' s a b = V s a b) : mf_TB u' V' i j := by
  have aij := fun s s0 s1 => ha s i j s0 s1 (Int.le_refl _) hij (Int.le_refl _)
  refine ⟨fun s s0 s1 => ?_, fun S hS s s0 s1 hv => ?_, fun S hS s s0 s1 hv => ?_⟩
  · rw [aij s s0 s1, h.1 s s0 s1]
    have e : ∀ q, mf_cut u i j q → mf_val u V i j q = mf_val u' V' i j q := fun q hc => mf_val_agree hG hsg hc (fun s a b s0 s1 a0 ab b1 => (ha s a b s0 s1 a0 ab b1).symm)
    exact mf_tot_congr hG.1.1 (by omega) hsg (fun q hc _ => by rw [e q hc]) (fun q hc _ _ => e q hc)
  · rw [aij s s0 s1] at hv
    refine h.2.1 S (fun q hc hw => ?_) s s0 s1 hv
    rw [← (hsg.2.1 q.1 hc.1.1 hc.1.2).1]
    refine hS q (hsg.cut hc) (hw.sg hG hsg hc (fun s a b s0 s1 a0 ab b1 hN => ?_))
    unfold mf_N at hN ⊢
    by_cases e : a = i ∧ b = j
    · rw [if_pos e] at hN ⊢; exact hN
    · rw [if_neg e] at hN ⊢
      rw [ha s a b s0 s1 a0 ab b1]; exact hN
  · rw [aij s s0 s1] at hv
    refine h.2.2 S (fun k k0 k1 hk hq => ?_) s s0 s1 hv
    refine hS k k0 k1 (by rw [aij k k0 k1]; exact hk) (fun q hc hl hw => ?_)
    have hc2 := hsg.symm.cut hc
    refine (hq q hc2 (by rw [← (hsg.2.1 q.1 hc2.1.1 hc2.1.2).1]; exact hl) (hw.sg hG' hsg.symm hc (fun s a b s0 s1 a0 ab b1 hN => by rw [← ha s a b s0 s1 a0 ab b1]; exact hN))).sg hG hsg hc2 (fun s a b s0 s1 a0 ab b1 hN => hN)
