/-! ===== numbers and bits ===== -/
theorem mj_bv {x : Int} (h0 : 0 ≤ x) (h1 : x < 4294967296) : (BitVec.ofInt 32 x).toNat = x.toNat := by
  rw [BitVec.toNat_ofInt]
  congr 1
  exact Int.emod_eq_of_lt h0 h1
theorem mj_bvI {v : BitVec 32} (h : v.toNat < 2147483648) : v.toInt = (v.toNat : Int) := BitVec.toInt_eq_toNat_of_lt (by omega)
theorem mj_and_nat {x y : Int} (hx0 : 0 ≤ x) (hx : x < 2147483648) (hy0 : 0 ≤ y) (hy : y < 2147483648) : mj_and x y = ((x.toNat &&& y.toNat : Nat) : Int) := by
  show (BitVec.ofInt 32 x &&& BitVec.ofInt 32 y).toInt = _
  have h : (BitVec.ofInt 32 x &&& BitVec.ofInt 32 y).toNat = x.toNat &&& y.toNat := by
    rw [BitVec.toNat_and, mj_bv hx0 (by omega), mj_bv hy0 (by omega)]
  have h2 : x.toNat &&& y.toNat ≤ x.toNat := Nat.and_le_left
  rw [mj_bvI (by omega), h]
theorem mj_ior_nat {x y : Int} (hx0 : 0 ≤ x) (hx : x < 2147483648) (hy0 : 0 ≤ y) (hy : y < 2147483648) : mj_ior x y = ((x.toNat ||| y.toNat : Nat) : Int) := by
  show (BitVec.ofInt 32 x ||| BitVec.ofInt 32 y).toInt = _
  have h : (BitVec.ofInt 32 x ||| BitVec.ofInt 32 y).toNat = x.toNat ||| y.toNat := by
    rw [BitVec.toNat_or, mj_bv hx0 (by omega), mj_bv hy0 (by omega)]
  have h2 : x.toNat ||| y.toNat < 2 ^ 31 := Nat.or_lt_two_pow (by omega) (by omega)
  rw [mj_bvI (by omega), h]
theorem mj_ush_nat {x k : Int} (hx0 : 0 ≤ x) (hx : x < 2147483648) (hk0 : 0 ≤ k) (hk : k < 32) : mj_ush x k = ((x.toNat >>> k.toNat : Nat) : Int) := by
  show (BitVec.ofInt 32 x >>> ((BitVec.ofInt 32 k &&& 31#32) % 32#32)).toInt = _
  have hk2 : ((BitVec.ofInt 32 k &&& 31#32) % 32#32).toNat = k.toNat := by
    rw [BitVec.toNat_umod, BitVec.toNat_and, mj_bv hk0 (by omega)]
    show (k.toNat &&& 31) % 32 = k.toNat
    rw [show (31 : Nat) = 2 ^ 5 - 1 by decide, Nat.and_two_pow_sub_one_eq_mod]
    omega
  have h : (BitVec.ofInt 32 x >>> ((BitVec.ofInt 32 k &&& 31#32) % 32#32)).toNat = x.toNat >>> k.toNat := by
    rw [BitVec.ushiftRight_eq', BitVec.toNat_ushiftRight, mj_bv hx0 (by omega), hk2]
  have h2 : x.toNat >>> k.toNat ≤ x.toNat := by
    rw [Nat.shiftRight_eq_div_pow]
    exact Nat.div_le_self _ _
  rw [mj_bvI (by omega), h]
theorem mj_and1 {x : Int} (hx0 : 0 ≤ x) (hx : x < 2147483648) : mj_and x 1 = x % 2 := by
  rw [mj_and_nat hx0 hx (by decide) (by decide)]
  show ((x.toNat &&& 1 : Nat) : Int) = _
  rw [Nat.and_one_is_mod]
  omega
theorem mj_and15 {x : Int} (hx0 : 0 ≤ x) (hx : x < 2147483648) : mj_and x 15 = x % 16 := by
  rw [mj_and_nat hx0 hx (by decide) (by decide)]
  show ((x.toNat &&& (2 ^ 4 - 1) : Nat) : Int) = _
  rw [Nat.and_two_pow_sub_one_eq_mod]
  omega
/-- bit o of x -/
def mj_t (x o : Int) : Bool := x.toNat.testBit o.toNat
theorem mj_bit_of {x o : Int} (hx0 : 0 ≤ x) (hx : x < 2147483648) (ho0 : 0 ≤ o) (ho : o < 32) : mj_and (mj_ush x o) 1 = if mj_t x o then 1 else 0 := by
  rw [mj_ush_nat hx0 hx ho0 ho]
  have h2 : x.toNat >>> o.toNat ≤ x.toNat := by
    rw [Nat.shiftRight_eq_div_pow]
    exact Nat.div_le_self _ _
  unfold mj_t
  rw [Nat.testBit_eq_decide_div_mod_eq, ← Nat.shiftRight_eq_div_pow]
  generalize x.toNat >>> o.toNat = q at h2
  rw [mj_and1 (by omega) (by omega)]
  by_cases e : q % 2 = 1
  · rw [if_pos (by simp [e])]
    omega
  · rw [if_neg (by simp [e])]
    omega
theorem mj_shl1 {k : Int} (h0 : 0 ≤ k) (h1 : k < 13) : mj_shl 1 k = 2 ^ k.toNat := by
  have h : k = 0 ∨ k = 1 ∨ k = 2 ∨ k = 3 ∨ k = 4 ∨ k = 5 ∨ k = 6 ∨ k = 7 ∨ k = 8 ∨ k = 9 ∨ k = 10 ∨ k = 11 ∨ k = 12 := by omega
  rcases h with rfl | rfl | rfl | rfl | rfl | rfl | rfl | rfl | rfl | rfl | rfl | rfl | rfl <;> decide
theorem mj_t_or {x o k : Int} (hx0 : 0 ≤ x) (hx : x < 8192) (ho0 : 0 ≤ o) (ho : o < 13) : mj_t (mj_ior x (mj_shl 1 o)) k = (mj_t x k || decide (k.toNat = o.toNat)) ∧ 0 ≤ mj_ior x (mj_shl 1 o) ∧ mj_ior x (mj_shl 1 o) < 8192 := by
  rw [mj_shl1 ho0 ho]
  have hp : (2 : Int) ^ o.toNat = ((2 ^ o.toNat : Nat) : Int) := by simp
  have hlt : 2 ^ o.toNat < 2 ^ 13 := Nat.pow_lt_pow_right (by decide) (by omega)
  have ht : ∀ k : Nat, (2 ^ o.toNat).testBit k = decide (o.toNat = k) := fun k => Nat.testBit_two_pow
  rw [hp]
  generalize 2 ^ o.toNat = P at hlt ht
  have hP : P < 8192 := hlt
  have e : (P : Int).toNat = P := Int.toNat_natCast P
  rw [mj_ior_nat hx0 (by omega) (by omega) (by omega), e]
  unfold mj_t
  refine ⟨?_, by omega, ?_⟩
  · rw [Int.toNat_natCast, Nat.testBit_or, ht]
    congr 1
    simp [eq_comm]
  · have h2 : x.toNat ||| P < 2 ^ 13 := Nat.or_lt_two_pow (by omega) hlt
    omega
theorem mj_t_zero (k : Int) : mj_t 0 k = false := by simp [mj_t]
theorem mj_t_ne {x : Int} (hx0 : 0 ≤ x) (hx : x < 8192) : x ≠ 0 ↔ ∃ o : Int, 0 ≤ o ∧ o < 13 ∧ mj_t x o = true := by
  constructor
  · intro h
    obtain ⟨i, hi⟩ := Nat.exists_testBit_of_ne_zero (x := x.toNat) (by omega)
    refine ⟨(i : Int), by omega, ?_, by unfold mj_t; simpa using hi⟩
    by_cases e : i < 13
    · omega
    · exfalso
      have h2 : x.toNat < 2 ^ i := Nat.lt_of_lt_of_le (by omega : x.toNat < 2 ^ 13) (Nat.pow_le_pow_right (by decide) (by omega))
      rw [Nat.testBit_lt_two_pow h2] at hi
      cases hi
  · rintro ⟨o, -, -, h⟩ rfl
    rw [mj_t_zero] at h
    cases h
