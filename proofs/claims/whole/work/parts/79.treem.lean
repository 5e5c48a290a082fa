/-! ===== trees one by one: the stack, its height, how long it lasts ===== -/
theorem mj_cn_mono {f g : Nat → Bool} : ∀ n, (∀ k, k < n → f k = true → g k = true) → mj_cn f n ≤ mj_cn g n
  | 0, _ => Nat.le_refl _
  | n + 1, h => by
    have ih := mj_cn_mono n (fun k hk => h k (by omega))
    simp only [mj_cn]
    by_cases e : f n = true
    · rw [if_pos e, if_pos (h n (by omega) e)]; omega
    · rw [if_neg e]; omega
theorem mj_cn_more {f g : Nat → Bool} : ∀ n, (∀ k, k < n → f k = true → g k = true) → (∃ k, k < n ∧ f k = false ∧ g k = true) → mj_cn f n + 1 ≤ mj_cn g n
  | 0, _, ⟨k, hk, _⟩ => by omega
  | n + 1, h, ⟨k, hk, h1, h2⟩ => by
    simp only [mj_cn]
    by_cases e : k = n
    · have ih := mj_cn_mono (f := f) (g := g) n (fun k hk => h k (by omega))
      rw [e] at h1 h2
      rw [if_neg (by rw [h1]; decide), if_pos h2]; omega
    · have ih := mj_cn_more (f := f) (g := g) n (fun k hk => h k (by omega)) ⟨k, by omega, h1, h2⟩
      by_cases e2 : f n = true
      · rw [if_pos e2, if_pos (h n (by omega) e2)]; omega
      · rw [if_neg e2]; omega
/-- told as a Bool -/
noncomputable def mt_d (P : Prop) : Bool := @decide P (Classical.propDecidable P)
theorem mt_d_t {P : Prop} : mt_d P = true ↔ P := @decide_eq_true_iff P (Classical.propDecidable P)
theorem mt_d_f {P : Prop} : mt_d P = false ↔ ¬ P := @decide_eq_false_iff_not P (Classical.propDecidable P)
/-- counted in so many rounds -/
def mt_S (u : mj_w) (V : Int → Int → Int → Int) (i j : Int) : Nat → Int → Prop
  | 0, _ => False
  | n + 1, s => ∀ q, mf_cut u i j q → u 2 q.1 0 = s → mf_way u (fun s a b => V s a b ≠ 0) i j q → mf_way u (fun s' a b => a = i ∧ b = j → mt_S u V i j n s') i j q
theorem mt_S_succ {u : mj_w} {V : Int → Int → Int → Int} {i j : Int} (hG : mj_GI u) : ∀ (n : Nat) (s : Int), mt_S u V i j n s → mt_S u V i j (n + 1) s
  | 0, _, h => h.elim
  | n + 1, s, h => fun q hc hl hw => (h q hc hl hw).mono hc.2 (fun _ _ _ => rfl) (fun k k0 k1 => hG.sy hc.1 k k0 k1) (fun _ _ _ => rfl) (fun s' a b _ _ _ _ _ hN e => mt_S_succ hG n s' (hN e))
theorem mt_S_le {u : mj_w} {V : Int → Int → Int → Int} {i j : Int} (hG : mj_GI u) {n : Nat} : ∀ (k : Nat) (s : Int), mt_S u V i j n s → mt_S u V i j (n + k) s
  | 0, _, h => h
  | k + 1, s, h => mt_S_succ hG (n + k) s (mt_S_le hG k s h)
theorem mt_S_chain {u : mj_w} {V : Int → Int → Int → Int} {i j : Int} (hG : mj_GI u) : ∀ n : Nat, (∃ m, m ≤ n ∧ ∀ s : Int, 0 ≤ s → s < 5 → mt_S u V i j (m + 1) s → mt_S u V i j m s) ∨ n ≤ mj_cn (fun k : Nat => mt_d (mt_S u V i j n (k : Int))) 5
  | 0 => Or.inr (Nat.zero_le _)
  | n + 1 => by
    rcases mt_S_chain (V := V) (i := i) (j := j) hG n with ⟨m, hm, h⟩ | h
    · exact Or.inl ⟨m, by omega, h⟩
    · by_cases e : ∀ s : Int, 0 ≤ s → s < 5 → mt_S u V i j (n + 1) s → mt_S u V i j n s
      · exact Or.inl ⟨n, by omega, e⟩
      · right
        have e' : ∃ s : Int, 0 ≤ s ∧ s < 5 ∧ mt_S u V i j (n + 1) s ∧ ¬ mt_S u V i j n s := by
          apply Classical.byContradiction
          intro z
          refine e (fun s s0 s1 h1 => Classical.byContradiction fun h2 => z ⟨s, s0, s1, h1, h2⟩)
        obtain ⟨s, s0, s1, h1, h2⟩ := e'
        have := mj_cn_more (f := fun k : Nat => mt_d (mt_S u V i j n (k : Int))) (g := fun k : Nat => mt_d (mt_S u V i j (n + 1) (k : Int))) 5 (fun k _ hk => mt_d_t.mpr (mt_S_succ hG n _ (mt_d_t.mp hk))) ⟨s.toNat, by omega, by
          rw [show ((s.toNat : Nat) : Int) = s by omega]
          exact ⟨mt_d_f.mpr h2, mt_d_t.mpr h1⟩⟩
        omega
/-- five rounds do -/
theorem mt_S_all {u : mj_w} {V : Int → Int → Int → Int} {i j : Int} (hG : mj_GI u) (hT : mf_TB u V i j) {s : Int} (s0 : 0 ≤ s) (s1 : s < 5) (hv : V s i j ≠ -1) : mt_S u V i j 5 s := by
  rcases mt_S_chain (V := V) (i := i) (j := j) hG 5 with ⟨m, hm, h⟩ | h
  · have := hT.2.2 (mt_S u V i j m) (fun s s0 s1 _ hq => h s s0 s1 hq) s s0 s1 hv
    have h5 := mt_S_le hG (5 - m) s this
    rwa [show m + (5 - m) = 5 by omega] at h5
  · apply Classical.byContradiction
    intro z
    have := mj_cn_lt (f := fun k : Nat => mt_d (mt_S u V i j 5 (k : Int))) (k := s.toNat) (by
      rw [show ((s.toNat : Nat) : Int) = s by omega]
      exact mt_d_f.mpr z) 5 (by omega)
    omega
/-- how many nodes a tree may have -/
def mt_w0 : Nat → Nat
  | 0 => 0
  | n + 1 => 1 + 3 * mt_w0 n
def mt_wt (l L : Nat) : Nat := if L = 0 then mt_w0 l else 243 * l + 1215 * (2 * L - 2)
/-- the sum of a list -/
def mt_sum : List Int → Int
  | [] => 0
  | x :: l => x + mt_sum l
theorem mt_sum_nn : ∀ l : List Int, (∀ y ∈ l, 0 ≤ y) → 0 ≤ mt_sum l
  | [], _ => Int.le_refl _
  | x :: l, h => by
    have := mt_sum_nn l (fun y hy => h y (List.mem_cons_of_mem _ hy))
    have := h x (List.mem_cons_self ..)
    simp only [mt_sum]
    omega
theorem mf_fs_exact : ∀ (l : List Int) (x : Int), mf_rv x → (∀ y ∈ l, mf_rv y) → mf_fs x l ≠ -1 → mf_fs x l < 1000000000000 → mf_fs x l = x + mt_sum l ∧ (∀ y ∈ l, 0 ≤ y) ∧ 0 ≤ x
  | [], x, hx, _, h1, _ => ⟨by show x = x + 0; omega, fun y hy => (by cases hy), by have : x ≠ -1 := h1; rcases hx with z | z <;> omega⟩
  | y :: l, x, hx, hl, h1, h2 => by
    have hy := hl y (List.mem_cons_self ..)
    have ih := mf_fs_exact l (mf_sm x y) (mf_sm_rv hx hy) (fun z hz => hl z (List.mem_cons_of_mem _ hz)) h1 h2
    rw [show mf_fs x (y :: l) = mf_fs (mf_sm x y) l from rfl] at h1 h2 ⊢
    obtain ⟨i1, i2, i3⟩ := ih
    have hs := mt_sum_nn l i2
    have ne : mf_sm x y ≠ -1 := by omega
    rw [Ne, mf_sm_end hx hy, not_or] at ne
    have hx' := hx.resolve_left ne.1
    have hy' := hy.resolve_left ne.2
    have e : mf_sm x y = x + y := by
      have e1 : mf_sm x y = mj_min 1000000000000 (x + y) := by
        unfold mf_sm
        rw [if_neg ne.1, if_neg ne.2]
      by_cases z : x + y < 1000000000000
      · rw [e1]; unfold mj_min; rw [if_pos z]
      · exfalso
        have e2 : mf_sm x y = 1000000000000 := by rw [e1]; unfold mj_min; rw [if_neg z]
        omega
    refine ⟨by simp only [mt_sum]; omega, fun z hz => ?_, hx'.1⟩
    rcases List.mem_cons.mp hz with z1 | z1
    · rw [z1]; exact hy'.1
    · exact i2 z z1
/-- the way that tree k goes, and what is left of k -/
def mt_pick (f : Int × Int × Int → Int) : List (Int × Int × Int) → Int → Option ((Int × Int × Int) × Int)
  | [], _ => none
  | q :: R, k => if k < f q then some (q, k) else mt_pick f R (k - f q)
theorem mt_pick_some (f : Int × Int × Int → Int) : ∀ (L : List (Int × Int × Int)) (k : Int), 0 ≤ k → k < mt_sum (L.map f) → ∃ q k', mt_pick f L k = some (q, k') ∧ q ∈ L ∧ 0 ≤ k' ∧ k' < f q
  | [], k, h0, h1 => by simp only [List.map_nil, mt_sum] at h1; omega
  | q :: R, k, h0, h1 => by
    simp only [List.map_cons, mt_sum] at h1
    by_cases e : k < f q
    · exact ⟨q, k, by simp only [mt_pick]; rw [if_pos e], List.mem_cons_self .., h0, e⟩
    · obtain ⟨q', k', a, b, c, e2⟩ := mt_pick_some f R (k - f q) (by omega) (by omega)
      exact ⟨q', k', by simp only [mt_pick]; rw [if_neg e]; exact a, List.mem_cons_of_mem _ b, c, e2⟩
theorem mf_pr_exact {x y : Int} (hx : mf_rv x) (hy : mf_rv y) (h0 : mf_pr x y ≠ 0) (h1 : mf_pr x y ≠ -1) (h2 : mf_pr x y < 1000000000000) : mf_pr x y = x * y ∧ 0 < x ∧ 0 < y ∧ x ≤ mf_pr x y ∧ y ≤ mf_pr x y := by
  have h := (mf_pr_fin hx hy).mp ⟨h0, h1⟩
  have hx' : 0 < x := by rcases hx with z | z <;> omega
  have hy' : 0 < y := by rcases hy with z | z <;> omega
  have e : mf_pr x y = x * y := by
    unfold mf_pr at h2 ⊢
    rw [if_neg (by omega), if_neg (by omega)] at h2 ⊢
    split
    · rename_i z
      rw [if_pos z] at h2
      omega
    · rfl
  refine ⟨e, hx', hy', ?_, ?_⟩
  · rw [e]
    have := Int.mul_le_mul_of_nonneg_left (show (1 : Int) ≤ y by omega) (Int.le_of_lt hx')
    omega
  · rw [e]
    have := Int.mul_le_mul_of_nonneg_right (show (1 : Int) ≤ x by omega) (Int.le_of_lt hy')
    omega
theorem mf_val_exact {u : mj_w} {V : Int → Int → Int → Int} (hV : mf_RV V) {i j : Int} {q : Int × Int × Int} (h0 : mf_val u V i j q ≠ 0) (h1 : mf_val u V i j q ≠ -1) (h2 : mf_val u V i j q < 1000000000000) (k : Int) (k0 : 0 ≤ k) (k1 : k < 3) : 0 < mf_ov u V (u 3 ((q.1 + 1) * 4 + k) 0) (mf_cu i j q k) (mf_cu i j q (k + 1)) ∧ mf_ov u V (u 3 ((q.1 + 1) * 4 + k) 0) (mf_cu i j q k) (mf_cu i j q (k + 1)) ≤ mf_val u V i j q := by
  have a := mf_pr_exact (mf_pr_rv (mf_ov_rv (hV _ _ _)) (mf_ov_rv (hV _ _ _))) (mf_ov_rv (hV _ _ _)) h0 h1 h2
  have hx : mf_rv (mf_pr (mf_ov u V (u 3 ((q.1 + 1) * 4) 0) i q.2.1) (mf_ov u V (u 3 ((q.1 + 1) * 4 + 1) 0) q.2.1 q.2.2)) := mf_pr_rv (mf_ov_rv (hV _ _ _)) (mf_ov_rv (hV _ _ _))
  have b := mf_pr_exact (mf_ov_rv (u := u) (hV (u 3 ((q.1 + 1) * 4) 0) i q.2.1)) (mf_ov_rv (u := u) (hV (u 3 ((q.1 + 1) * 4 + 1) 0) q.2.1 q.2.2)) (by omega) (by omega) (by have := a.2.2.2.1; unfold mf_val at h2; omega)
  have e : mf_val u V i j q = mf_pr (mf_pr (mf_ov u V (u 3 ((q.1 + 1) * 4) 0) i q.2.1) (mf_ov u V (u 3 ((q.1 + 1) * 4 + 1) 0) q.2.1 q.2.2)) (mf_ov u V (u 3 ((q.1 + 1) * 4 + 2) 0) q.2.2 j) := rfl
  rw [e]
  have : k = 0 ∨ k = 1 ∨ k = 2 := by omega
  rcases this with rfl | rfl | rfl
  · rw [Int.add_zero]
    show 0 < mf_ov u V (u 3 ((q.1 + 1) * 4) 0) i q.2.1 ∧ mf_ov u V (u 3 ((q.1 + 1) * 4) 0) i q.2.1 ≤ _
    omega
  · show 0 < mf_ov u V (u 3 ((q.1 + 1) * 4 + 1) 0) q.2.1 q.2.2 ∧ mf_ov u V (u 3 ((q.1 + 1) * 4 + 1) 0) q.2.1 q.2.2 ≤ _
    omega
  · show 0 < mf_ov u V (u 3 ((q.1 + 1) * 4 + 2) 0) q.2.2 j ∧ mf_ov u V (u 3 ((q.1 + 1) * 4 + 2) 0) q.2.2 j ≤ _
    omega
/-- the parts onto the stack, the last first -/
def mt_ps (u : mj_w) (V : Int → Int → Int → Int) (i j : Int) (q : Int × Int × Int) : Nat → Int → List (Int × Int) → List (Int × Int)
  | 0, _, st => st
  | p + 1, k, st => if 0 ≤ u 3 ((q.1 + 1) * 4 + (p : Int)) 0 ∧ u 3 ((q.1 + 1) * 4 + (p : Int)) 0 < 5 then mt_ps u V i j q p (k / V (u 3 ((q.1 + 1) * 4 + (p : Int)) 0) (mf_cu i j q (p : Int)) (mf_cu i j q ((p : Int) + 1))) (((u 3 ((q.1 + 1) * 4 + (p : Int)) 0 * 13 + mf_cu i j q (p : Int)) * 13 + mf_cu i j q ((p : Int) + 1), k % V (u 3 ((q.1 + 1) * 4 + (p : Int)) 0) (mf_cu i j q (p : Int)) (mf_cu i j q ((p : Int) + 1))) :: st) else mt_ps u V i j q p k st
/-- what stands at place p of the tree; -1: nothing -/
def mt_go (u : mj_w) (V : Int → Int → Int → Int) : Nat → List (Int × Int) → Int → Int
  | 0, _, _ => -1
  | _ + 1, [], _ => -1
  | F + 1, e :: st, p => match mt_pick (mf_val u V (e.1 / 13 % 13) (e.1 % 13)) (mf_ways u V (e.1 / 169) (e.1 / 13 % 13) (e.1 % 13)) e.2 with
    | none => -1
    | some qk => if p = 0 then qk.1.1 else mt_go u V F (mt_ps u V (e.1 / 13 % 13) (e.1 % 13) qk.1 3 qk.2 st) (p - 1)
/-- an entry of the stack -/
def mt_ok (V : Int → Int → Int → Int) (n : Int) (e : Int × Int) : Prop := mf_vc n e.1 ∧ 0 ≤ e.2 ∧ e.2 < V (e.1 / 169) (e.1 / 13 % 13) (e.1 % 13) ∧ V (e.1 / 169) (e.1 / 13 % 13) (e.1 % 13) < 1000000000000
def mt_SV (u : mj_w) (V : Int → Int → Int → Int) (n : Int) : List (Int × Int) → Nat → Prop
  | [], _ => True
  | e :: st, φ => ∃ (l φ' : Nat), l ≤ 5 ∧ mt_S u V (e.1 / 13 % 13) (e.1 % 13) l (e.1 / 169) ∧ mt_ok V n e ∧ st.length + 2 * (5 * (e.1 % 13 - e.1 / 13 % 13).toNat + l) ≤ 130 ∧ mt_wt l (e.1 % 13 - e.1 / 13 % 13).toNat + φ' ≤ φ ∧ mt_SV u V n st φ'
theorem mt_SV_len {u : mj_w} {V : Int → Int → Int → Int} {n : Int} {st : List (Int × Int)} {φ : Nat} (h : mt_SV u V n st φ) : st.length ≤ 131 := by
  cases st with
  | nil => exact Nat.zero_le _
  | cons e st =>
    obtain ⟨l, φ', h1, h2, h3, h4, h5⟩ := h
    simp only [List.length_cons]
    omega
theorem mt_SV_le {u : mj_w} {V : Int → Int → Int → Int} {n : Int} {st : List (Int × Int)} {φ φ2 : Nat} (h : mt_SV u V n st φ) (hle : φ ≤ φ2) : mt_SV u V n st φ2 := by
  cases st with
  | nil => exact trivial
  | cons e st =>
    obtain ⟨l, φ', h1, h2, h3, h4, h5, h6⟩ := h
    exact ⟨l, φ', h1, h2, h3, h4, by omega, h6⟩
/-- what one part weighs -/
def mt_x (u : mj_w) (i j : Int) (m : Nat) (q : Int × Int × Int) (p : Nat) : Nat := if 0 ≤ u 3 ((q.1 + 1) * 4 + (p : Int)) 0 ∧ u 3 ((q.1 + 1) * 4 + (p : Int)) 0 < 5 then mt_wt (if mf_cu i j q (p : Int) = i ∧ mf_cu i j q ((p : Int) + 1) = j then m else 5) (mf_cu i j q ((p : Int) + 1) - mf_cu i j q (p : Int)).toNat else 0
def mt_X (u : mj_w) (i j : Int) (m : Nat) (q : Int × Int × Int) : Nat → Nat
  | 0 => 0
  | p + 1 => mt_x u i j m q p + mt_X u i j m q p
theorem mt_x_le {u : mj_w} {i j : Int} {m : Nat} {q : Int × Int × Int} {p : Nat} {a b : Int} (ea : mf_cu i j q (p : Int) = a) (eb : mf_cu i j q ((p : Int) + 1) = b) (ha : i ≤ a) (hab : a ≤ b) (hb : b ≤ j) : (i = j → mt_x u i j m q p ≤ mt_w0 m) ∧ (i < j → (b = a → mt_x u i j m q p ≤ 121) ∧ (a < b → ¬ (a = i ∧ b = j) → mt_x u i j m q p ≤ 1215 * (2 * (b - a).toNat - 1)) ∧ (a = i → b = j → mt_x u i j m q p ≤ 243 * m + 1215 * (2 * (j - i).toNat - 2))) := by
  unfold mt_x
  rw [ea, eb]
  by_cases qn : 0 ≤ u 3 ((q.1 + 1) * 4 + (p : Int)) 0 ∧ u 3 ((q.1 + 1) * 4 + (p : Int)) 0 < 5
  · rw [if_pos qn]
    refine ⟨fun e => ?_, fun e => ⟨fun e2 => ?_, fun e2 e3 => ?_, fun e2 e3 => ?_⟩⟩
    · rw [if_pos (by omega)]
      unfold mt_wt
      rw [if_pos (by omega)]
      exact Nat.le_refl _
    · rw [if_neg (by omega)]
      unfold mt_wt
      rw [if_pos (by omega)]
      exact Nat.le_refl 121
    · rw [if_neg e3]
      unfold mt_wt
      rw [if_neg (by omega)]
      omega
    · rw [if_pos ⟨e2, e3⟩, e2, e3]
      unfold mt_wt
      rw [if_neg (by omega)]
      exact Nat.le_refl _
  · rw [if_neg qn]
    exact ⟨fun _ => Nat.zero_le _, fun _ => ⟨fun _ => Nat.zero_le _, fun _ _ => Nat.zero_le _, fun _ _ => Nat.zero_le _⟩⟩
theorem mt_X_le {u : mj_w} {i j : Int} {m : Nat} {q : Int × Int × Int} (hq : i ≤ q.2.1 ∧ q.2.1 ≤ q.2.2 ∧ q.2.2 ≤ j) : mt_X u i j m q 3 + 1 ≤ mt_wt (m + 1) (j - i).toNat := by
  have x0 := mt_x_le (u := u) (m := m) (p := 0) (q := q) (i := i) (j := j) (a := i) (b := q.2.1) rfl rfl (by omega) (by omega) (by omega)
  have x1 := mt_x_le (u := u) (m := m) (p := 1) (q := q) (i := i) (j := j) (a := q.2.1) (b := q.2.2) rfl rfl (by omega) (by omega) (by omega)
  have x2 := mt_x_le (u := u) (m := m) (p := 2) (q := q) (i := i) (j := j) (a := q.2.2) (b := j) rfl rfl (by omega) (by omega) (by omega)
  show mt_x u i j m q 2 + (mt_x u i j m q 1 + (mt_x u i j m q 0 + 0)) + 1 ≤ _
  generalize mt_x u i j m q 0 = y0 at *
  generalize mt_x u i j m q 1 = y1 at *
  generalize mt_x u i j m q 2 = y2 at *
  obtain ⟨h1, h2, h3⟩ := hq
  by_cases e : i = j
  · have a0 := x0.1 e
    have a1 := x1.1 e
    have a2 := x2.1 e
    unfold mt_wt
    rw [if_pos (by omega)]
    show _ ≤ 1 + 3 * mt_w0 m
    omega
  · obtain ⟨a0, b0, c0⟩ := x0.2 (by omega)
    obtain ⟨a1, b1, c1⟩ := x1.2 (by omega)
    obtain ⟨a2, b2, c2⟩ := x2.2 (by omega)
    unfold mt_wt
    rw [if_neg (by omega)]
    generalize q.2.1 = a at *
    generalize q.2.2 = b at *
    clear x0 x1 x2
    by_cases f0 : a = i
    · have t0 := a0 f0
      by_cases f1 : b = a
      · have t1 := a1 f1
        have t2 := c2 (by omega) rfl
        omega
      · by_cases f2 : b = j
        · have t1 := c1 f0 f2
          have t2 := a2 f2.symm
          omega
        · have t1 := b1 (by omega) (by omega)
          have t2 := b2 (by omega) (by omega)
          omega
    · by_cases f1 : b = a
      · have t1 := a1 f1
        by_cases f2 : b = j
        · have t0 := c0 rfl (by omega)
          have t2 := a2 f2.symm
          omega
        · have t0 := b0 (by omega) (by omega)
          have t2 := b2 (by omega) (by omega)
          omega
      · have t0 := b0 (by omega) (by omega)
        have t1 := b1 (by omega) (by omega)
        by_cases f2 : b = j
        · have t2 := a2 f2.symm
          omega
        · have t2 := b2 (by omega) (by omega)
          omega
/-- the stack after one step -/
theorem mt_SV_ps {u : mj_w} {V : Int → Int → Int → Int} {n i j : Int} {q : Int × Int × Int} {m h0 : Nat} (hn : n ≤ 12) (hi : 0 ≤ i) (hj : j ≤ n) (hij : i ≤ j) (hq : i ≤ q.2.1 ∧ q.2.1 ≤ q.2.2 ∧ q.2.2 ≤ j) (hm : m ≤ 4) (hh : h0 + 2 * (5 * (j - i).toNat + (m + 1)) ≤ 130)
    (hP : ∀ p : Nat, p < 3 → 0 ≤ u 3 ((q.1 + 1) * 4 + (p : Int)) 0 → u 3 ((q.1 + 1) * 4 + (p : Int)) 0 < 5 → (0 < V (u 3 ((q.1 + 1) * 4 + (p : Int)) 0) (mf_cu i j q (p : Int)) (mf_cu i j q ((p : Int) + 1)) ∧ V (u 3 ((q.1 + 1) * 4 + (p : Int)) 0) (mf_cu i j q (p : Int)) (mf_cu i j q ((p : Int) + 1)) < 1000000000000) ∧ mt_S u V (mf_cu i j q (p : Int)) (mf_cu i j q ((p : Int) + 1)) (if mf_cu i j q (p : Int) = i ∧ mf_cu i j q ((p : Int) + 1) = j then m else 5) (u 3 ((q.1 + 1) * 4 + (p : Int)) 0)) :
    ∀ (p : Nat) (k : Int) (st : List (Int × Int)) (φ : Nat), p ≤ 3 → 0 ≤ k → mt_SV u V n st φ → st.length + p ≤ h0 + 3 → mt_SV u V n (mt_ps u V i j q p k st) (φ + mt_X u i j m q p)
  | 0, _, _, _, _, _, hs, _ => hs
  | p + 1, k, st, φ, hp, hk, hs, hl => by
    simp only [mt_ps, mt_X]
    by_cases qn : 0 ≤ u 3 ((q.1 + 1) * 4 + (p : Int)) 0 ∧ u 3 ((q.1 + 1) * 4 + (p : Int)) 0 < 5
    · rw [if_pos qn]
      obtain ⟨⟨v0, v1⟩, hS⟩ := hP p (by omega) qn.1 qn.2
      have hcu := mf_cu_le (k := (p : Int)) hq (by omega) (by omega)
      have hvc := mf_vc_of hn qn (show 0 ≤ mf_cu i j q (p : Int) by omega) hcu.2.1 (show mf_cu i j q ((p : Int) + 1) ≤ n by omega)
      have ex : mt_x u i j m q p = mt_wt (if mf_cu i j q (p : Int) = i ∧ mf_cu i j q ((p : Int) + 1) = j then m else 5) (mf_cu i j q ((p : Int) + 1) - mf_cu i j q (p : Int)).toNat := by
        unfold mt_x
        rw [if_pos qn]
      have := mt_SV_ps hn hi hj hij hq hm hh hP p (k / V (u 3 ((q.1 + 1) * 4 + (p : Int)) 0) (mf_cu i j q (p : Int)) (mf_cu i j q ((p : Int) + 1))) (((u 3 ((q.1 + 1) * 4 + (p : Int)) 0 * 13 + mf_cu i j q (p : Int)) * 13 + mf_cu i j q ((p : Int) + 1), k % V (u 3 ((q.1 + 1) * 4 + (p : Int)) 0) (mf_cu i j q (p : Int)) (mf_cu i j q ((p : Int) + 1))) :: st) (φ + mt_x u i j m q p) (by omega) (Int.ediv_nonneg hk (by omega)) (by
          refine ⟨if mf_cu i j q (p : Int) = i ∧ mf_cu i j q ((p : Int) + 1) = j then m else 5, φ, by split <;> omega, ?_, ?_, ?_, ?_, hs⟩
          · show mt_S u V (((u 3 ((q.1 + 1) * 4 + (p : Int)) 0 * 13 + mf_cu i j q (p : Int)) * 13 + mf_cu i j q ((p : Int) + 1)) / 13 % 13) (((u 3 ((q.1 + 1) * 4 + (p : Int)) 0 * 13 + mf_cu i j q (p : Int)) * 13 + mf_cu i j q ((p : Int) + 1)) % 13) _ (((u 3 ((q.1 + 1) * 4 + (p : Int)) 0 * 13 + mf_cu i j q (p : Int)) * 13 + mf_cu i j q ((p : Int) + 1)) / 169)
            rw [hvc.2.1, hvc.2.2.1, hvc.2.2.2]
            exact hS
          · refine ⟨hvc.1, Int.emod_nonneg _ (by omega), ?_, ?_⟩
            · show _ < V (((u 3 ((q.1 + 1) * 4 + (p : Int)) 0 * 13 + mf_cu i j q (p : Int)) * 13 + mf_cu i j q ((p : Int) + 1)) / 169) (((u 3 ((q.1 + 1) * 4 + (p : Int)) 0 * 13 + mf_cu i j q (p : Int)) * 13 + mf_cu i j q ((p : Int) + 1)) / 13 % 13) (((u 3 ((q.1 + 1) * 4 + (p : Int)) 0 * 13 + mf_cu i j q (p : Int)) * 13 + mf_cu i j q ((p : Int) + 1)) % 13)
              rw [hvc.2.1, hvc.2.2.1, hvc.2.2.2]
              exact Int.emod_lt_of_pos _ v0
            · show V (((u 3 ((q.1 + 1) * 4 + (p : Int)) 0 * 13 + mf_cu i j q (p : Int)) * 13 + mf_cu i j q ((p : Int) + 1)) / 169) (((u 3 ((q.1 + 1) * 4 + (p : Int)) 0 * 13 + mf_cu i j q (p : Int)) * 13 + mf_cu i j q ((p : Int) + 1)) / 13 % 13) (((u 3 ((q.1 + 1) * 4 + (p : Int)) 0 * 13 + mf_cu i j q (p : Int)) * 13 + mf_cu i j q ((p : Int) + 1)) % 13) < _
              rw [hvc.2.1, hvc.2.2.1, hvc.2.2.2]
              exact v1
          · show st.length + 2 * (5 * (((u 3 ((q.1 + 1) * 4 + (p : Int)) 0 * 13 + mf_cu i j q (p : Int)) * 13 + mf_cu i j q ((p : Int) + 1)) % 13 - ((u 3 ((q.1 + 1) * 4 + (p : Int)) 0 * 13 + mf_cu i j q (p : Int)) * 13 + mf_cu i j q ((p : Int) + 1)) / 13 % 13).toNat + _) ≤ 130
            rw [hvc.2.2.1, hvc.2.2.2]
            by_cases e : mf_cu i j q (p : Int) = i ∧ mf_cu i j q ((p : Int) + 1) = j
            · rw [if_pos e, e.1, e.2]; omega
            · rw [if_neg e]
              have : mf_cu i j q ((p : Int) + 1) - mf_cu i j q (p : Int) < j - i := by omega
              omega
          · show mt_wt _ (((u 3 ((q.1 + 1) * 4 + (p : Int)) 0 * 13 + mf_cu i j q (p : Int)) * 13 + mf_cu i j q ((p : Int) + 1)) % 13 - ((u 3 ((q.1 + 1) * 4 + (p : Int)) 0 * 13 + mf_cu i j q (p : Int)) * 13 + mf_cu i j q ((p : Int) + 1)) / 13 % 13).toNat + φ ≤ _
            rw [hvc.2.2.1, hvc.2.2.2, ex]
            omega) (by simp only [List.length_cons]; omega)
      rw [show φ + (mt_x u i j m q p + mt_X u i j m q p) = φ + mt_x u i j m q p + mt_X u i j m q p by omega]
      exact this
    · rw [if_neg qn]
      exact mt_SV_le (mt_SV_ps hn hi hj hij hq hm hh hP p k st φ (by omega) hk hs (by omega)) (by omega)
/-- one step: the way is there, and the stack lasts less long -/
theorem mt_SV_step {u : mj_w} {V : Int → Int → Int → Int} {n : Int} (hG : mj_GI u) (hV : mf_RV V) (hn : 0 ≤ n ∧ n ≤ 12) (hT : ∀ a b : Int, 0 ≤ a → a ≤ b → b ≤ n → mf_TB u V a b) {e : Int × Int} {st : List (Int × Int)} {φ : Nat} (h : mt_SV u V n (e :: st) φ) :
    mt_ok V n e ∧ st.length ≤ 130 ∧ 0 < φ ∧ (∀ q, q ∈ mf_ways u V (e.1 / 169) (e.1 / 13 % 13) (e.1 % 13) → 0 < mf_val u V (e.1 / 13 % 13) (e.1 % 13) q ∧ mf_val u V (e.1 / 13 % 13) (e.1 % 13) q < 1000000000000) ∧ e.2 < mt_sum ((mf_ways u V (e.1 / 169) (e.1 / 13 % 13) (e.1 % 13)).map (mf_val u V (e.1 / 13 % 13) (e.1 % 13))) ∧
    ∀ q, q ∈ mf_ways u V (e.1 / 169) (e.1 / 13 % 13) (e.1 % 13) → (∀ p : Nat, p < 3 → 0 ≤ u 3 ((q.1 + 1) * 4 + (p : Int)) 0 → u 3 ((q.1 + 1) * 4 + (p : Int)) 0 < 5 → 0 < V (u 3 ((q.1 + 1) * 4 + (p : Int)) 0) (mf_cu (e.1 / 13 % 13) (e.1 % 13) q (p : Int)) (mf_cu (e.1 / 13 % 13) (e.1 % 13) q ((p : Int) + 1)) ∧ V (u 3 ((q.1 + 1) * 4 + (p : Int)) 0) (mf_cu (e.1 / 13 % 13) (e.1 % 13) q (p : Int)) (mf_cu (e.1 / 13 % 13) (e.1 % 13) q ((p : Int) + 1)) < 1000000000000) ∧ ∀ k : Int, 0 ≤ k → mt_SV u V n (mt_ps u V (e.1 / 13 % 13) (e.1 % 13) q 3 k st) (φ - 1) := by
  obtain ⟨l, φ', h1, h2, h3, h4, h5, h6⟩ := h
  have hvc := h3.1
  unfold mf_vc at hvc
  have hTe := hT (e.1 / 13 % 13) (e.1 % 13) (by omega) (by omega) (by omega)
  have hs : 0 ≤ e.1 / 169 ∧ e.1 / 169 < 5 := by omega
  have ev := hTe.1 (e.1 / 169) hs.1 hs.2
  obtain ⟨c1, c2, c3, c4⟩ := h3
  rw [ev] at c3 c4
  have hne : mf_tot u V (e.1 / 169) (e.1 / 13 % 13) (e.1 % 13) ≠ -1 := by omega
  have hrv : ∀ y ∈ (mf_ways u V (e.1 / 169) (e.1 / 13 % 13) (e.1 % 13)).map (mf_val u V (e.1 / 13 % 13) (e.1 % 13)), mf_rv y := fun y hy => by
    obtain ⟨q, _, rfl⟩ := List.mem_map.mp hy
    exact mf_val_rv hV _ _ q
  have ex := mf_fs_exact _ 0 (Or.inr (by decide)) hrv hne c4
  have hsum : mf_tot u V (e.1 / 169) (e.1 / 13 % 13) (e.1 % 13) = mt_sum ((mf_ways u V (e.1 / 169) (e.1 / 13 % 13) (e.1 % 13)).map (mf_val u V (e.1 / 13 % 13) (e.1 % 13))) := by
    have := ex.1
    rw [Int.zero_add] at this
    exact this
  have sumle : ∀ (l : List Int), (∀ y ∈ l, 0 ≤ y) → ∀ y ∈ l, y ≤ mt_sum l := by
    intro l
    induction l with
    | nil => intro _ y hy; cases hy
    | cons x l ih =>
      intro hl y hy
      have i1 := mt_sum_nn l (fun z hz => hl z (List.mem_cons_of_mem _ hz))
      have i2 := hl x (List.mem_cons_self ..)
      simp only [mt_sum]
      rcases List.mem_cons.mp hy with z | z
      · omega
      · have := ih (fun z hz => hl z (List.mem_cons_of_mem _ hz)) y z
        omega
  have hval : ∀ q, q ∈ mf_ways u V (e.1 / 169) (e.1 / 13 % 13) (e.1 % 13) → 0 < mf_val u V (e.1 / 13 % 13) (e.1 % 13) q ∧ mf_val u V (e.1 / 13 % 13) (e.1 % 13) q < 1000000000000 := fun q hq => by
    have m6 := ((mf_mem hG.1.1 (by omega)).mp hq).2.2.2.2.2
    have hin : mf_val u V (e.1 / 13 % 13) (e.1 % 13) q ∈ (mf_ways u V (e.1 / 169) (e.1 / 13 % 13) (e.1 % 13)).map (mf_val u V (e.1 / 13 % 13) (e.1 % 13)) := List.mem_map.mpr ⟨q, hq, rfl⟩
    have a1 := ex.2.1 _ hin
    have a2 := sumle _ ex.2.1 _ hin
    omega
  have hparts : ∀ q, q ∈ mf_ways u V (e.1 / 169) (e.1 / 13 % 13) (e.1 % 13) → ∀ p : Nat, p < 3 → 0 ≤ u 3 ((q.1 + 1) * 4 + (p : Int)) 0 → u 3 ((q.1 + 1) * 4 + (p : Int)) 0 < 5 → 0 < V (u 3 ((q.1 + 1) * 4 + (p : Int)) 0) (mf_cu (e.1 / 13 % 13) (e.1 % 13) q (p : Int)) (mf_cu (e.1 / 13 % 13) (e.1 % 13) q ((p : Int) + 1)) ∧ V (u 3 ((q.1 + 1) * 4 + (p : Int)) 0) (mf_cu (e.1 / 13 % 13) (e.1 % 13) q (p : Int)) (mf_cu (e.1 / 13 % 13) (e.1 % 13) q ((p : Int) + 1)) < 1000000000000 := fun q hq p hp s0 s1 => by
    have hv := hval q hq
    have := mf_val_exact hV (u := u) (q := q) (i := e.1 / 13 % 13) (j := e.1 % 13) (by omega) (by omega) hv.2 (p : Int) (by omega) (by omega)
    rw [mf_ov_V ⟨s0, s1⟩] at this
    omega
  have hl0 : ∀ q, q ∈ mf_ways u V (e.1 / 169) (e.1 / 13 % 13) (e.1 % 13) → ∃ m, l = m + 1 := fun q hq => by
    cases l with
    | zero => exact h2.elim
    | succ m => exact ⟨m, rfl⟩
  have hpos : 0 < mt_wt l (e.1 % 13 - e.1 / 13 % 13).toNat := by
    cases l with
    | zero => exact h2.elim
    | succ m =>
      unfold mt_wt
      split
      · show 0 < 1 + 3 * mt_w0 m
        omega
      · omega
  refine ⟨⟨c1, c2, by rw [ev]; exact c3, by rw [ev]; exact c4⟩, by omega, by omega, hval, by rw [← hsum]; exact c3, fun q hq => ⟨hparts q hq, fun k hk => ?_⟩⟩
  obtain ⟨m, rfl⟩ := hl0 q hq
  obtain ⟨m1, m2, m3, m4, m5, m6⟩ := (mf_mem hG.1.1 (by omega)).mp hq
  have hw := h2 q ⟨m1, m3, m4, m5⟩ m2 ((mf_val_nz hV).mp m6)
  have hX := mt_X_le (u := u) (m := m) (q := q) (i := e.1 / 13 % 13) (j := e.1 % 13) ⟨m3, m4, m5⟩
  refine mt_SV_le (mt_SV_ps (h0 := st.length) hn.2 (by omega) (by omega) (by omega) ⟨m3, m4, m5⟩ (by omega) h4 (fun p hp s0 s1 => ⟨hparts q hq p hp s0 s1, ?_⟩) 3 k st φ' (Nat.le_refl _) hk h6 (Nat.le_refl _)) (by omega)
  have hcu := mf_cu_le (k := (p : Int)) (q := q) (i := e.1 / 13 % 13) (j := e.1 % 13) ⟨m3, m4, m5⟩ (by omega) (by omega)
  by_cases ee : mf_cu (e.1 / 13 % 13) (e.1 % 13) q (p : Int) = e.1 / 13 % 13 ∧ mf_cu (e.1 / 13 % 13) (e.1 % 13) q ((p : Int) + 1) = e.1 % 13
  · rw [if_pos ee, ee.1, ee.2]
    obtain ⟨w0, w1, w2⟩ := hw
    have : p = 0 ∨ p = 1 ∨ p = 2 := by omega
    rcases this with rfl | rfl | rfl
    · have e00 : (q.1 + 1) * 4 + ((0 : Nat) : Int) = (q.1 + 1) * 4 := by omega
      rw [e00] at s0 s1 ⊢
      exact w0.2.2 (by omega) (by omega) ⟨rfl, ee.2⟩
    · exact w1.2.2 (by have : u 3 ((q.1 + 1) * 4 + 1) 0 = u 3 ((q.1 + 1) * 4 + ((1 : Nat) : Int)) 0 := rfl; omega) (by have : u 3 ((q.1 + 1) * 4 + 1) 0 = u 3 ((q.1 + 1) * 4 + ((1 : Nat) : Int)) 0 := rfl; omega) ⟨ee.1, ee.2⟩
    · exact w2.2.2 (by have : u 3 ((q.1 + 1) * 4 + 2) 0 = u 3 ((q.1 + 1) * 4 + ((2 : Nat) : Int)) 0 := rfl; omega) (by have : u 3 ((q.1 + 1) * 4 + 2) 0 = u 3 ((q.1 + 1) * 4 + ((2 : Nat) : Int)) 0 := rfl; omega) ⟨ee.1, rfl⟩
  · rw [if_neg ee]
    exact mt_S_all hG (hT _ _ (by omega) hcu.2.1 (by omega)) s0 s1 (by have := hparts q hq p hp s0 s1; omega)
theorem mt_SV_root {u : mj_w} {V : Int → Int → Int → Int} {n : Int} (hG : mj_GI u) (hn : 0 ≤ n ∧ n ≤ 12) (hT : mf_TB u V 0 n) {k : Int} (k0 : 0 ≤ k) (k1 : k < V 0 0 n) (k2 : V 0 0 n < 1000000000000) : mt_SV u V n [(n, k)] 999999 := by
  have e1 : n / 169 = 0 := by omega
  have e2 : n / 13 % 13 = 0 := by omega
  have e3 : n % 13 = n := by omega
  refine ⟨5, 0, Nat.le_refl _, ?_, ⟨by unfold mf_vc; show (0 ≤ n ∧ n < 845) ∧ n / 13 % 13 ≤ n % 13 ∧ n % 13 ≤ n; omega, k0, ?_, ?_⟩, ?_, ?_, trivial⟩
  · show mt_S u V (n / 13 % 13) (n % 13) 5 (n / 169)
    rw [e1, e2, e3]
    exact mt_S_all hG hT (by decide) (by decide) (by omega)
  · show k < V (n / 169) (n / 13 % 13) (n % 13)
    rw [e1, e2, e3]; exact k1
  · show V (n / 169) (n / 13 % 13) (n % 13) < _
    rw [e1, e2, e3]; exact k2
  · show 0 + 2 * (5 * (n % 13 - n / 13 % 13).toNat + 5) ≤ 130
    omega
  · show mt_wt 5 (n % 13 - n / 13 % 13).toNat + 0 ≤ 999999
    unfold mt_wt
    split
    · show 121 + 0 ≤ 999999
      omega
    · omega
/-- longer than it lasts is long enough -/
theorem mt_go_enough {u : mj_w} {V : Int → Int → Int → Int} {n : Int} (hG : mj_GI u) (hV : mf_RV V) (hn : 0 ≤ n ∧ n ≤ 12) (hT : ∀ a b : Int, 0 ≤ a → a ≤ b → b ≤ n → mf_TB u V a b) : ∀ (φ F F' : Nat) (st : List (Int × Int)) (p : Int), mt_SV u V n st φ → φ < F → φ < F' → mt_go u V F st p = mt_go u V F' st p
  | φ, 0, _, _, _, _, h, _ => by omega
  | φ, _ + 1, 0, _, _, _, _, h => by omega
  | φ, F + 1, F' + 1, [], p, _, _, _ => rfl
  | φ, F + 1, F' + 1, e :: st, p, hs, h1, h2 => by
    obtain ⟨a1, a2, a3, a4, a5, a6⟩ := mt_SV_step hG hV hn hT hs
    obtain ⟨q, k', b1, b2, b3, b4⟩ := mt_pick_some _ _ _ a1.2.1 a5
    simp only [mt_go]
    rw [b1]
    show (if p = 0 then q.1 else _) = (if p = 0 then q.1 else _)
    by_cases e0 : p = 0
    · rw [if_pos e0, if_pos e0]
    · rw [if_neg e0, if_neg e0]
      exact mt_go_enough hG hV hn hT (φ - 1) F F' _ _ ((a6 q b2).2 k' b3) (by omega) (by omega)
termination_by φ => φ
