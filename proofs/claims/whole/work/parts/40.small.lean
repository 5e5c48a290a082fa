/-! ===== contracts: the small ones ===== -/
section C40
variable {g : mj_G} {nn d : Nat} {xs : mj_M} {Post : Option mj_V → mj_w → Prop} {w : mj_w}
theorem c_slotOf (hn : 21 ≤ nn) {a b : Int} (h : Post (some (.inl (((a + 1) * 4) + b))) w) : mj_J g y_CF_slotOf d 0 0 (0, [some (.inl a), some (.inl b)], [], mj_mem nn xs w) (mj_P nn xs Post) := v_CF_slotOf_0 hn h
theorem c_cellOf (hn : 21 ≤ nn) {a b c : Int} (h : Post (some (.inl ((((a * 13) + b) * 13) + c))) w) : mj_J g y_CF_cellOf d 0 0 (0, [some (.inl a), some (.inl b), some (.inl c)], [], mj_mem nn xs w) (mj_P nn xs Post) := v_CF_cellOf_0 hn h
def mj_isN (a : Int) : Int := if 0 ≤ a ∧ a < 5 then 1 else 0
def mj_isT (a : Int) : Int := if 8 ≤ a ∧ a ≤ 11 then 1 else 0
theorem c_isNonterminal (hn : 21 ≤ nn) {a : Int} (hi : mj_i a) (h : Post (some (.inl (mj_isN a))) w) : mj_J g y_CF_isNonterminal d 0 0 (0, [some (.inl a)], [], mj_mem nn xs w) (mj_P nn xs Post) := by
  refine v_CF_isNonterminal_0 hn ⟨hi, fun q => ?_, fun q => ⟨fun q2 => ?_, fun q2 => ?_⟩⟩
  · rwa [mj_isN, if_neg (by omega)] at h
  · rwa [mj_isN, if_pos (by omega)] at h
  · rwa [mj_isN, if_neg (by omega)] at h
theorem c_isTerminal (hn : 21 ≤ nn) {a : Int} (hi : mj_i a) (h : Post (some (.inl (mj_isT a))) w) : mj_J g y_CF_isTerminal d 0 0 (0, [some (.inl a)], [], mj_mem nn xs w) (mj_P nn xs Post) := by
  refine v_CF_isTerminal_0 hn ⟨hi, fun q => ?_, fun q => ⟨fun q2 => ?_, fun q2 => ?_⟩⟩
  · rwa [mj_isT, if_neg (by omega)] at h
  · rwa [mj_isT, if_neg (by omega)] at h
  · rwa [mj_isT, if_pos (by omega)] at h
/-- the left side of a rule, -1 for the goal -/
def mj_lo (w : mj_w) (r : Int) : Int := if 0 ≤ r ∧ r < w 1 0 0 then w 2 r 0 else -1
theorem c_leftOf (hn : 21 ≤ nn) {r : Int} (hr : mj_i r) (h0 : 0 ≤ w 1 0 0) (h1 : w 1 0 0 ≤ 10) (h : Post (some (.inl (mj_lo w r))) w) : mj_J g y_Gr_leftOf d 0 0 (0, [some (mj_R 1), some (.inl r)], [], mj_mem nn xs w) (mj_P nn xs Post) := by
  refine v_Gr_leftOf_0 hn ⟨hr, fun q => ?_, fun q => ⟨⟨by omega, by omega⟩, fun q2 => ⟨by omega, by omega, ?_⟩, fun q2 => ?_⟩⟩
  · rwa [mj_lo, if_neg (by omega)] at h
  · rwa [mj_lo, if_pos (by omega)] at h
  · rwa [mj_lo, if_neg (by omega)] at h
def mj_ls_ (w : mj_w) (s : Int) : Int := mj_lo w (s / 4 - 1)
theorem c_leftSide (hn : 21 ≤ nn) {s : Int} (h0 : 0 ≤ s) (h1 : s < 44) (hc0 : 0 ≤ w 1 0 0) (hc1 : w 1 0 0 ≤ 10) (h : Post (some (.inl (mj_ls_ w s))) w) : mj_J g y_Ch_leftSide (d + 1) 0 0 (0, [some (mj_R 6), some (.inl s)], [], mj_mem nn xs w) (mj_P nn xs Post) :=
  v_Ch_leftSide_0 hn ⟨⟨by omega, by omega⟩, h0, c_leftOf hn ⟨by omega, by omega⟩ hc0 hc1 ⟨_, rfl, h⟩⟩
def mj_b (x : Bool) : Int := if x then 1 else 0
theorem c_holds (hn : 21 ≤ nn) {i s o : Int} (hi0 : 0 ≤ i) (hi1 : i < 13) (hs0 : 0 ≤ s) (hs1 : s < 44) (ho0 : 0 ≤ o) (ho1 : o < 32) (hx0 : 0 ≤ w 7 i s) (hx1 : w 7 i s < 8192) (h : Post (some (.inl (mj_b (mj_t (w 7 i s) o)))) w) :
    mj_J g y_Ch_holds d 0 0 (0, [some (mj_R 6), some (.inl i), some (.inl s), some (.inl o)], [], mj_mem nn xs w) (mj_P nn xs Post) := by
  have e := mj_bit_of hx0 (by omega) ho0 ho1
  refine v_Ch_holds_0 hn ⟨hi0, hi1, hs0, hs1, ?_, fun q => ?_, fun q => ?_⟩
  · rw [e]
    split <;> exact ⟨by decide, by decide⟩
  · rw [e] at q
    unfold mj_b at h
    split at q
    · omega
    · rename_i q2
      rwa [if_neg q2] at h
  · rw [e] at q
    unfold mj_b at h
    split at q
    · rename_i q2
      rwa [if_pos q2] at h
    · omega
/-- an item is put: the four writes -/
def mj_put (w : mj_w) (i s o : Int) : mj_w := if mj_t (w 7 i s) o then w else
  mj_wu (mj_wu (mj_wu (mj_wu w 7 i s (mj_ior (w 7 i s) (mj_shl 1 o))) 8 i 0 (w 8 i 0 + 1)) 10 (w 6 6 0) 0 (s * 13 + o)) 6 6 0 (w 6 6 0 + 1)
theorem c_put (hn : 21 ≤ nn) {i s o : Int} (hi0 : 0 ≤ i) (hi1 : i < 13) (hs0 : 0 ≤ s) (hs1 : s < 44) (ho0 : 0 ≤ o) (ho1 : o < 32) (hx0 : 0 ≤ w 7 i s) (hx1 : w 7 i s < 8192) (ha0 : 0 ≤ w 6 6 0) (ha1 : mj_t (w 7 i s) o = false → w 6 6 0 < 572) (ha2 : w 6 6 0 ≤ 572) (h : Post none (mj_put w i s o)) :
    mj_J g y_Ch_put (d + 1) 0 0 (0, [some (mj_R 6), some (.inl i), some (.inl s), some (.inl o)], [], mj_mem nn xs w) (mj_P nn xs Post) := by
  refine v_Ch_put_0 hn (c_holds hn hi0 hi1 hs0 hs1 ho0 ho1 hx0 hx1 ⟨_, rfl, ?_⟩)
  unfold mj_b
  by_cases q : mj_t (w 7 i s) o = true
  · rw [if_pos q]
    refine ⟨⟨by decide, by decide⟩, fun q2 => absurd q2 (by decide), fun _ => ?_⟩
    rwa [mj_put, if_pos q] at h
  · rw [if_neg q]
    have hlt := ha1 (by simpa using q)
    refine ⟨⟨by decide, by decide⟩, fun _ => ⟨⟨by omega, by omega⟩, fun _ => ⟨hi0, hi1, hs0, hs1, ?_⟩, fun q2 => absurd hlt q2⟩, fun q2 => absurd rfl q2⟩
    rw [mj_put, if_neg q] at h
    rintro w1 rfl w2 rfl
    have e1 : (mj_wu (mj_wu w 7 i s (mj_ior (w 7 i s) (mj_shl 1 o))) 8 i 0 ((mj_wu w 7 i s (mj_ior (w 7 i s) (mj_shl 1 o))) 8 i 0 + 1)) 6 6 0 = w 6 6 0 := by simp [mj_wu]
    have e2 : (mj_wu w 7 i s (mj_ior (w 7 i s) (mj_shl 1 o))) 8 i 0 = w 8 i 0 := by simp [mj_wu]
    rw [e1]
    refine ⟨ha0, hlt, ?_⟩
    rintro w3 rfl w4 rfl
    have e3 : ∀ x, (mj_wu (mj_wu (mj_wu w 7 i s (mj_ior (w 7 i s) (mj_shl 1 o))) 8 i 0 x) 10 (w 6 6 0) 0 (s * 13 + o)) 6 6 0 = w 6 6 0 := by intro x; simp [mj_wu]
    rw [e2, e3]
    exact h
/-- a set is emptied -/
def mj_emp (w : mj_w) (i : Int) : mj_w := fun q a b => if q = 7 ∧ a = i ∧ 0 ≤ b ∧ b < 44 then 0 else if q = 8 ∧ a = i ∧ b = 0 then 0 else if q = 6 ∧ (a = 6 ∨ a = 7) ∧ b = 0 then 0 else w q a b
theorem c_empty_loop (hn : 21 ≤ nn) {i : Int} (hi0 : 0 ≤ i) (hi1 : i < 13) : ∀ (n : Nat) (s : Int) (w : mj_w), 0 ≤ s → (44 - s).toNat = n → s ≤ 44 → (Post none (fun q a b => if q = 7 ∧ a = i ∧ s ≤ b ∧ b < 44 then 0 else if q = 8 ∧ a = i ∧ b = 0 then 0 else if q = 6 ∧ (a = 6 ∨ a = 7) ∧ b = 0 then 0 else w q a b)) →
    mj_J g y_Ch_empty d 0 0 (2, [some (mj_R 6), some (.inl i), some (.inl s)], [], mj_mem nn xs w) (mj_P nn xs Post) := by
  intro n
  induction n with
  | zero =>
    intro s w h0 h1 h2 h
    refine v_Ch_empty_2 hn ⟨⟨by omega, by omega⟩, fun q => by omega, fun q => ⟨hi0, hi1, ?_⟩⟩
    rintro w1 rfl w2 rfl w3 rfl
    have e : mj_wu (mj_wu (mj_wu w 8 i 0 0) 6 6 0 0) 6 7 0 0 = (fun q a b => if q = 7 ∧ a = i ∧ s ≤ b ∧ b < 44 then 0 else if q = 8 ∧ a = i ∧ b = 0 then 0 else if q = 6 ∧ (a = 6 ∨ a = 7) ∧ b = 0 then 0 else w q a b) := by
      funext q a b
      unfold mj_wu
      have hs : ¬ (q = 7 ∧ a = i ∧ s ≤ b ∧ b < 44) := by omega
      rw [if_neg hs]
      by_cases c1 : q = 8 ∧ a = i ∧ b = 0
      · rw [if_pos c1, if_neg (by omega), if_neg (by omega), if_pos c1]
      · rw [if_neg c1]
        by_cases c2 : q = 6 ∧ (a = 6 ∨ a = 7) ∧ b = 0
        · rw [if_pos c2]
          by_cases c3 : a = 7
          · rw [if_pos (by omega)]
            simp
          · rw [if_neg (by omega), if_pos (by omega)]
            simp
        · rw [if_neg c2, if_neg (by omega), if_neg (by omega), if_neg c1]
    rw [e]
    exact h
  | succ n ih =>
    intro s w h0 h1 h2 h
    refine v_Ch_empty_2 hn ⟨⟨by omega, by omega⟩, fun q => ⟨hi0, hi1, h0, q, ?_⟩, fun q => by omega⟩
    rintro w1 rfl
    refine ih (s + 1) _ (by omega) (by omega) (by omega) ?_
    have e : (fun q a b => if q = 7 ∧ a = i ∧ s + 1 ≤ b ∧ b < 44 then 0 else if q = 8 ∧ a = i ∧ b = 0 then 0 else if q = 6 ∧ (a = 6 ∨ a = 7) ∧ b = 0 then 0 else mj_wu w 7 i s 0 q a b) = (fun q a b => if q = 7 ∧ a = i ∧ s ≤ b ∧ b < 44 then 0 else if q = 8 ∧ a = i ∧ b = 0 then 0 else if q = 6 ∧ (a = 6 ∨ a = 7) ∧ b = 0 then (0 : Int) else w q a b) := by
      funext q a b
      unfold mj_wu
      by_cases c1 : q = 7 ∧ a = i ∧ s + 1 ≤ b ∧ b < 44
      · rw [if_pos c1, if_pos (by omega)]
      · rw [if_neg c1]
        by_cases c2 : q = 7 ∧ a = i ∧ b = s
        · rw [if_pos (show q = 7 ∧ a = i ∧ s ≤ b ∧ b < 44 by omega), if_neg (by omega), if_neg (by omega), if_pos c2]
        · rw [if_neg (show ¬ (q = 7 ∧ a = i ∧ s ≤ b ∧ b < 44) by omega), if_neg c2]
    rw [e]
    exact h
theorem c_empty (hn : 21 ≤ nn) {i : Int} (hi0 : 0 ≤ i) (hi1 : i < 13) (h : Post none (mj_emp w i)) : mj_J g y_Ch_empty d 0 0 (0, [some (mj_R 6), some (.inl i), none], [], mj_mem nn xs w) (mj_P nn xs Post) :=
  v_Ch_empty_0 hn (c_empty_loop hn hi0 hi1 44 0 w (by decide) (by decide) (by decide) h)
end C40
