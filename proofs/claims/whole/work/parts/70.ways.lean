/-! ===== ways: lists in their order ===== -/
/-- how many trees symbol s has over a..b; V: the nonterminals' -/
def mf_ov (u : mj_w) (V : Int → Int → Int → Int) (s a b : Int) : Int := if s = -1 then (if a = b then 1 else 0) else if 8 ≤ s then (if b = a + 1 ∧ u 5 a 0 = s then 1 else 0) else V s a b
def mf_pr (x y : Int) : Int := if x = 0 ∨ y = 0 then 0 else if x = -1 ∨ y = -1 then -1 else if 1000000000000 / y < x then 1000000000000 else x * y
def mf_val (u : mj_w) (V : Int → Int → Int → Int) (i j : Int) (q : Int × Int × Int) : Int :=
  mf_pr (mf_pr (mf_ov u V (u 3 ((q.1 + 1) * 4) 0) i q.2.1) (mf_ov u V (u 3 ((q.1 + 1) * 4 + 1) 0) q.2.1 q.2.2)) (mf_ov u V (u 3 ((q.1 + 1) * 4 + 2) 0) q.2.2 j)
def mf_in (u : mj_w) (V : Int → Int → Int → Int) (r i j a : Int) : Nat → List (Int × Int × Int)
  | 0 => []
  | m + 1 => (if mf_val u V i j (r, a, j - (m : Int)) ≠ 0 then [(r, a, j - (m : Int))] else []) ++ mf_in u V r i j a m
def mf_out (u : mj_w) (V : Int → Int → Int → Int) (r i j : Int) : Nat → List (Int × Int × Int)
  | 0 => []
  | m + 1 => mf_in u V r i j (j - (m : Int)) (m + 1) ++ mf_out u V r i j m
def mf_rl (u : mj_w) (V : Int → Int → Int → Int) (s i j : Int) : Nat → List (Int × Int × Int)
  | 0 => []
  | m + 1 => (if u 2 (u 1 0 0 - ((m : Int) + 1)) 0 = s then mf_out u V (u 1 0 0 - ((m : Int) + 1)) i j (j - i + 1).toNat else []) ++ mf_rl u V s i j m
/-- the ways of s over i..j, in order -/
def mf_ways (u : mj_w) (V : Int → Int → Int → Int) (s i j : Int) : List (Int × Int × Int) := mf_rl u V s i j (u 1 0 0).toNat
/-- values: endless, or 0 .. MANY -/
def mf_rv (x : Int) : Prop := x = -1 ∨ (0 ≤ x ∧ x ≤ 1000000000000)
theorem mf_pr_rv {x y : Int} (hx : mf_rv x) (hy : mf_rv y) : mf_rv (mf_pr x y) := by
  unfold mf_pr
  by_cases q : x = 0 ∨ y = 0
  · rw [if_pos q]; exact Or.inr (by decide)
  · rw [if_neg q]
    by_cases q1 : x = -1 ∨ y = -1
    · rw [if_pos q1]; exact Or.inl rfl
    · rw [if_neg q1]
      have hy' : 0 < y := by rcases hy with h | h <;> omega
      have hx' : 0 < x := by rcases hx with h | h <;> omega
      by_cases q2 : 1000000000000 / y < x
      · rw [if_pos q2]; exact Or.inr (by decide)
      · rw [if_neg q2]
        refine Or.inr ⟨Int.le_of_lt (Int.mul_pos hx' hy'), ?_⟩
        have h1 : x ≤ 1000000000000 / y := by omega
        have h2 := Int.mul_le_mul_of_nonneg_right h1 (Int.le_of_lt hy')
        have h3 := Int.ediv_mul_le 1000000000000 (show y ≠ 0 by omega)
        omega
theorem mf_pr_zero {x y : Int} (hx : mf_rv x) (hy : mf_rv y) : mf_pr x y = 0 ↔ x = 0 ∨ y = 0 := by
  unfold mf_pr
  by_cases q : x = 0 ∨ y = 0
  · rw [if_pos q]; exact ⟨fun _ => q, fun _ => rfl⟩
  · rw [if_neg q]
    refine ⟨fun h => ?_, fun h => absurd h q⟩
    exfalso
    split at h
    · omega
    · split at h
      · omega
      · rcases Int.mul_eq_zero.mp h with h | h
        · exact q (Or.inl h)
        · exact q (Or.inr h)
theorem mf_pr_end {x y : Int} (hx : mf_rv x) (hy : mf_rv y) (h0 : ¬ (x = 0 ∨ y = 0)) : mf_pr x y = -1 ↔ x = -1 ∨ y = -1 := by
  unfold mf_pr
  rw [if_neg h0]
  by_cases q : x = -1 ∨ y = -1
  · rw [if_pos q]; exact ⟨fun _ => q, fun _ => rfl⟩
  · rw [if_neg q]
    refine ⟨fun h => ?_, fun h => absurd h q⟩
    exfalso
    have hy' : 0 < y := by rcases hy with h | h <;> omega
    have hx' : 0 < x := by rcases hx with h | h <;> omega
    have := Int.mul_pos hx' hy'
    split at h <;> omega
def mf_RV (V : Int → Int → Int → Int) : Prop := ∀ s a b : Int, mf_rv (V s a b)
theorem mf_ov_rv {u : mj_w} {V : Int → Int → Int → Int} {s a b : Int} (h : mf_rv (V s a b)) : mf_rv (mf_ov u V s a b) := by
  unfold mf_ov
  split
  · split
    · exact Or.inr (by decide)
    · exact Or.inr (by decide)
  · split
    · split
      · exact Or.inr (by decide)
      · exact Or.inr (by decide)
    · exact h
theorem mf_in_len (u : mj_w) (V : Int → Int → Int → Int) (r i j a : Int) : ∀ m, (mf_in u V r i j a m).length ≤ m
  | 0 => Nat.le_refl _
  | m + 1 => by
    have h := mf_in_len u V r i j a m
    simp only [mf_in, List.length_append]
    split
    · simp only [List.length_singleton]; omega
    · simp only [List.length_nil]; omega
theorem mf_out_len (u : mj_w) (V : Int → Int → Int → Int) (r i j : Int) : ∀ m, 2 * (mf_out u V r i j m).length ≤ m * (m + 1)
  | 0 => Nat.le_refl _
  | m + 1 => by
    have h := mf_out_len u V r i j m
    have h2 := mf_in_len u V r i j (j - (m : Int)) (m + 1)
    simp only [mf_out, List.length_append]
    have e : (m + 1) * (m + 1 + 1) = m * (m + 1) + 2 * (m + 1) := by rw [Nat.mul_comm, ← Nat.add_mul]
    omega
theorem mf_out_91 (u : mj_w) (V : Int → Int → Int → Int) (r i j : Int) {m : Nat} (hm : m ≤ 13) : (mf_out u V r i j m).length ≤ 91 := by
  have h := mf_out_len u V r i j m
  have h2 : m * (m + 1) ≤ 13 * 14 := Nat.mul_le_mul hm (by omega)
  omega
theorem mf_rl_len (u : mj_w) (V : Int → Int → Int → Int) (s i j : Int) (hij : j - i < 13) : ∀ m, (mf_rl u V s i j m).length ≤ 91 * m
  | 0 => Nat.le_refl _
  | m + 1 => by
    have h := mf_rl_len u V s i j hij m
    have h2 := mf_out_91 u V (u 1 0 0 - ((m : Int) + 1)) i j (m := (j - i + 1).toNat) (by omega)
    simp only [mf_rl, List.length_append]
    split
    · omega
    · simp only [List.length_nil]; omega
theorem mf_in_mem {u : mj_w} {V : Int → Int → Int → Int} {r i j a : Int} {q : Int × Int × Int} : ∀ m, q ∈ mf_in u V r i j a m ↔ q.1 = r ∧ q.2.1 = a ∧ j - (m : Int) < q.2.2 ∧ q.2.2 ≤ j ∧ mf_val u V i j q ≠ 0
  | 0 => by
    simp only [mf_in, List.not_mem_nil, false_iff]
    rintro ⟨_, _, h1, h2, _⟩
    omega
  | m + 1 => by
    have h := mf_in_mem (u := u) (V := V) (r := r) (i := i) (j := j) (a := a) (q := q) m
    simp only [mf_in, List.mem_append, h]
    constructor
    · rintro (h1 | ⟨a1, a2, a3, a4, a5⟩)
      · split at h1
        · rename_i q1
          rw [List.mem_singleton] at h1
          subst h1
          exact ⟨rfl, rfl, by show j - ((m + 1 : Nat) : Int) < j - (m : Int); omega, by show j - (m : Int) ≤ j; omega, q1⟩
        · cases h1
      · exact ⟨a1, a2, by omega, a4, a5⟩
    · rintro ⟨a1, a2, a3, a4, a5⟩
      by_cases e : q.2.2 = j - (m : Int)
      · left
        have eq : q = (r, a, j - (m : Int)) := by
          obtain ⟨x, y, z⟩ := q
          simp only at a1 a2 e
          rw [a1, a2, e]
        rw [← eq, if_pos a5]
        exact List.mem_singleton.mpr rfl
      · exact Or.inr ⟨a1, a2, by omega, a4, a5⟩
theorem mf_out_mem {u : mj_w} {V : Int → Int → Int → Int} {r i j : Int} {q : Int × Int × Int} : ∀ m, q ∈ mf_out u V r i j m ↔ q.1 = r ∧ j - (m : Int) < q.2.1 ∧ q.2.1 ≤ q.2.2 ∧ q.2.2 ≤ j ∧ mf_val u V i j q ≠ 0
  | 0 => by
    simp only [mf_out, List.not_mem_nil, false_iff]
    rintro ⟨_, h1, h2, h3, _⟩
    omega
  | m + 1 => by
    have h := mf_out_mem (u := u) (V := V) (r := r) (i := i) (j := j) (q := q) m
    simp only [mf_out, List.mem_append, h, mf_in_mem]
    constructor
    · rintro (⟨a1, a2, a3, a4, a5⟩ | ⟨a1, a2, a3, a4, a5⟩)
      · exact ⟨a1, by omega, by omega, a4, a5⟩
      · exact ⟨a1, by omega, a3, a4, a5⟩
    · rintro ⟨a1, a2, a3, a4, a5⟩
      by_cases e : q.2.1 = j - (m : Int)
      · exact Or.inl ⟨a1, e, by omega, a4, a5⟩
      · exact Or.inr ⟨a1, by omega, a3, a4, a5⟩
theorem mf_rl_mem {u : mj_w} {V : Int → Int → Int → Int} {s i j : Int} (hij : i ≤ j + 1) {q : Int × Int × Int} : ∀ m, q ∈ mf_rl u V s i j m ↔ (u 1 0 0 - (m : Int) ≤ q.1 ∧ q.1 < u 1 0 0) ∧ u 2 q.1 0 = s ∧ i ≤ q.2.1 ∧ q.2.1 ≤ q.2.2 ∧ q.2.2 ≤ j ∧ mf_val u V i j q ≠ 0
  | 0 => by
    simp only [mf_rl, List.not_mem_nil, false_iff]
    rintro ⟨⟨_, _⟩, _⟩
    omega
  | m + 1 => by
    have h := mf_rl_mem (u := u) (V := V) (s := s) (i := i) (j := j) hij (q := q) m
    simp only [mf_rl, List.mem_append, h]
    constructor
    · rintro (h1 | ⟨a1, a2⟩)
      · split at h1
        · rename_i q1
          obtain ⟨b1, b2, b3, b4, b5⟩ := (mf_out_mem _).mp h1
          exact ⟨by omega, by rw [b1]; exact q1, by omega, b3, b4, b5⟩
        · cases h1
      · exact ⟨by omega, a2⟩
    · rintro ⟨a1, a2, a3, a4, a5, a6⟩
      by_cases e : q.1 = u 1 0 0 - ((m : Int) + 1)
      · left
        rw [if_pos (by rw [← e]; exact a2)]
        exact (mf_out_mem _).mpr ⟨e, by omega, a4, a5, a6⟩
      · exact Or.inr ⟨by omega, a2, a3, a4, a5, a6⟩
theorem mf_mem {u : mj_w} {V : Int → Int → Int → Int} {s i j : Int} (hc : 0 ≤ u 1 0 0) (hij : i ≤ j + 1) {q : Int × Int × Int} : q ∈ mf_ways u V s i j ↔ (0 ≤ q.1 ∧ q.1 < u 1 0 0) ∧ u 2 q.1 0 = s ∧ i ≤ q.2.1 ∧ q.2.1 ≤ q.2.2 ∧ q.2.2 ≤ j ∧ mf_val u V i j q ≠ 0 := by
  unfold mf_ways
  rw [mf_rl_mem hij, show u 1 0 0 - (((u 1 0 0).toNat : Nat) : Int) = 0 by omega]
theorem mf_len {u : mj_w} {V : Int → Int → Int → Int} {s i j : Int} (hc : 0 ≤ u 1 0 0) (hc1 : u 1 0 0 ≤ 10) (hij : j - i < 13) : (mf_ways u V s i j).length ≤ 910 := by
  have h := mf_rl_len u V s i j hij (u 1 0 0).toNat
  unfold mf_ways
  omega
/-- without a symbol in the second place, and so none in the third, the first cut is the end -/
theorem mf_val_ab {u : mj_w} {V : Int → Int → Int → Int} {r i j a b : Int} (hV : mf_RV V) (h1 : u 3 ((r + 1) * 4 + 1) 0 = -1) (h2 : u 3 ((r + 1) * 4 + 2) 0 = -1) (hab : a ≤ b) (hne : a ≠ j) : mf_val u V i j (r, a, b) = 0 := by
  unfold mf_val
  rw [mf_pr_zero (mf_pr_rv (mf_ov_rv (hV _ _ _)) (mf_ov_rv (hV _ _ _))) (mf_ov_rv (hV _ _ _)), mf_pr_zero (mf_ov_rv (hV _ _ _)) (mf_ov_rv (hV _ _ _))]
  show (_ ∨ mf_ov u V (u 3 ((r + 1) * 4 + 1) 0) a b = 0) ∨ mf_ov u V (u 3 ((r + 1) * 4 + 2) 0) b j = 0
  rw [h1, h2]
  by_cases e : b = j
  · left; right
    unfold mf_ov
    rw [if_pos rfl, if_neg (by omega)]
  · right
    unfold mf_ov
    rw [if_pos rfl, if_neg e]
theorem mf_val_b {u : mj_w} {V : Int → Int → Int → Int} {r i j a b : Int} (hV : mf_RV V) (h2 : u 3 ((r + 1) * 4 + 2) 0 = -1) (hne : b ≠ j) : mf_val u V i j (r, a, b) = 0 := by
  unfold mf_val
  rw [mf_pr_zero (mf_pr_rv (mf_ov_rv (hV _ _ _)) (mf_ov_rv (hV _ _ _))) (mf_ov_rv (hV _ _ _))]
  right
  show mf_ov u V (u 3 ((r + 1) * 4 + 2) 0) b j = 0
  rw [h2]
  unfold mf_ov
  rw [if_pos rfl, if_neg hne]
theorem mf_val_a {u : mj_w} {V : Int → Int → Int → Int} {r i j a b : Int} (h : mf_ov u V (u 3 ((r + 1) * 4) 0) i a = 0) : mf_val u V i j (r, a, b) = 0 := by
  unfold mf_val
  show mf_pr (mf_pr (mf_ov u V (u 3 ((r + 1) * 4) 0) i a) _) _ = 0
  rw [h]
  have e : ∀ y, mf_pr 0 y = 0 := fun y => by unfold mf_pr; rw [if_pos (Or.inl rfl)]
  rw [e, e]
theorem mf_in_nil {u : mj_w} {V : Int → Int → Int → Int} {r i j a : Int} : ∀ m : Nat, (∀ b : Int, j - (m : Int) < b → b ≤ j → mf_val u V i j (r, a, b) = 0) → mf_in u V r i j a m = []
  | 0, _ => rfl
  | m + 1, h => by
    simp only [mf_in]
    rw [if_neg (fun z => z (h _ (by omega) (by omega))), mf_in_nil m (fun b h1 h2 => h b (by omega) h2)]
    rfl
theorem mf_in_one {u : mj_w} {V : Int → Int → Int → Int} {r i j a : Int} (hV : mf_RV V) (h2 : u 3 ((r + 1) * 4 + 2) 0 = -1) : ∀ m, mf_in u V r i j a (m + 1) = mf_in u V r i j a 1
  | 0 => rfl
  | m + 1 => by
    rw [show mf_in u V r i j a (m + 1 + 1) = (if mf_val u V i j (r, a, j - ((m + 1 : Nat) : Int)) ≠ 0 then [(r, a, j - ((m + 1 : Nat) : Int))] else []) ++ mf_in u V r i j a (m + 1) from rfl, if_neg (fun z => z (mf_val_b hV h2 (by omega))), mf_in_one hV h2 m]
    rfl
theorem mf_out_one {u : mj_w} {V : Int → Int → Int → Int} {r i j : Int} (hV : mf_RV V) (h1 : u 3 ((r + 1) * 4 + 1) 0 = -1) (h2 : u 3 ((r + 1) * 4 + 2) 0 = -1) : ∀ m, mf_out u V r i j (m + 1) = mf_out u V r i j 1
  | 0 => rfl
  | m + 1 => by
    rw [show mf_out u V r i j (m + 1 + 1) = mf_in u V r i j (j - ((m + 1 : Nat) : Int)) (m + 1 + 1) ++ mf_out u V r i j (m + 1) from rfl, mf_in_nil (m + 1 + 1) (fun b b1 b2 => mf_val_ab hV h1 h2 (by omega) (by omega)), mf_out_one hV h1 h2 m]
    rfl
