/-! ===== how many below n ===== -/
def mj_cn (f : Nat → Bool) : Nat → Nat
  | 0 => 0
  | n + 1 => mj_cn f n + (if f n then 1 else 0)
theorem mj_cn_le (f : Nat → Bool) : ∀ n, mj_cn f n ≤ n
  | 0 => Nat.le_refl _
  | n + 1 => by
    have h := mj_cn_le f n
    simp only [mj_cn]
    split <;> omega
theorem mj_cn_lt {f : Nat → Bool} {k : Nat} (hk : f k = false) : ∀ n, k < n → mj_cn f n < n
  | 0, h => by omega
  | n + 1, h => by
    simp only [mj_cn]
    by_cases e : k = n
    · subst e
      have := mj_cn_le f k
      simp [hk]
      omega
    · have := mj_cn_lt hk n (by omega)
      split <;> omega
theorem mj_cn_congr {f g : Nat → Bool} : ∀ n, (∀ k, k < n → f k = g k) → mj_cn f n = mj_cn g n
  | 0, _ => rfl
  | n + 1, h => by
    simp only [mj_cn]
    rw [mj_cn_congr n (fun k hk => h k (by omega)), h n (by omega)]
theorem mj_cn_set {f g : Nat → Bool} {k : Nat} (hk : f k = false) (hg : g k = true) : ∀ n, k < n → (∀ j, j < n → j ≠ k → g j = f j) → mj_cn g n = mj_cn f n + 1
  | 0, h, _ => by omega
  | n + 1, h, ho => by
    simp only [mj_cn]
    by_cases e : k = n
    · subst e
      rw [mj_cn_congr (f := g) (g := f) k (fun j hj => ho j (by omega) (by omega))]
      simp [hk, hg]
    · rw [mj_cn_set hk hg n (by omega) (fun j hj => ho j (by omega)), ho n (by omega) (fun q => e q.symm)]
      omega
theorem mj_cn_zero {f : Nat → Bool} (n : Nat) (h : ∀ k, k < n → f k = false) : mj_cn f n = 0 := by
  induction n with
  | zero => rfl
  | succ n ih => simp [mj_cn, ih (fun k hk => h k (by omega)), h n (by omega)]
