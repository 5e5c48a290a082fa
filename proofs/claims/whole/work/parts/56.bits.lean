/-! ===== Integer.bitCount on rows of 13 bits ===== -/
def mj_bc (l0 : Int) : Int := (mj_and (((mj_and (((mj_and (l0 - (mj_and (mj_ush l0 1) 1431655765)) 858993459) + (mj_and (mj_ush (l0 - (mj_and (mj_ush l0 1) 1431655765)) 2) 858993459)) + (mj_ush ((mj_and (l0 - (mj_and (mj_ush l0 1) 1431655765)) 858993459) + (mj_and (mj_ush (l0 - (mj_and (mj_ush l0 1) 1431655765)) 2) 858993459)) 4)) 252645135) + (mj_ush (mj_and (((mj_and (l0 - (mj_and (mj_ush l0 1) 1431655765)) 858993459) + (mj_and (mj_ush (l0 - (mj_and (mj_ush l0 1) 1431655765)) 2) 858993459)) + (mj_ush ((mj_and (l0 - (mj_and (mj_ush l0 1) 1431655765)) 858993459) + (mj_and (mj_ush (l0 - (mj_and (mj_ush l0 1) 1431655765)) 2) 858993459)) 4)) 252645135) 8)) + (mj_ush ((mj_and (((mj_and (l0 - (mj_and (mj_ush l0 1) 1431655765)) 858993459) + (mj_and (mj_ush (l0 - (mj_and (mj_ush l0 1) 1431655765)) 2) 858993459)) + (mj_ush ((mj_and (l0 - (mj_and (mj_ush l0 1) 1431655765)) 858993459) + (mj_and (mj_ush (l0 - (mj_and (mj_ush l0 1) 1431655765)) 2) 858993459)) 4)) 252645135) + (mj_ush (mj_and (((mj_and (l0 - (mj_and (mj_ush l0 1) 1431655765)) 858993459) + (mj_and (mj_ush (l0 - (mj_and (mj_ush l0 1) 1431655765)) 2) 858993459)) + (mj_ush ((mj_and (l0 - (mj_and (mj_ush l0 1) 1431655765)) 858993459) + (mj_and (mj_ush (l0 - (mj_and (mj_ush l0 1) 1431655765)) 2) 858993459)) 4)) 252645135) 8)) 16)) 63)
def mj_bcOk (x : Nat) : Bool := decide (mj_bc (x : Int) = (mj_cn (fun o => x.testBit o) 13 : Int)) && (!decide (mj_cn (fun o => x.testBit o) 13 = 1) || (decide (0 ≤ mj_bc ((x : Int) - 1)) && decide (mj_bc ((x : Int) - 1) < 13) && x.testBit (mj_bc ((x : Int) - 1)).toNat))
theorem mj_bc_all : ∀ a, a < 64 → ∀ b, b < 128 → mj_bcOk (128 * a + b) = true := by decide +kernel
theorem mj_bc_ok {x : Int} (h0 : 0 ≤ x) (h1 : x < 8192) : mj_bc x = (mj_cn (fun o => x.toNat.testBit o) 13 : Int) ∧ (mj_cn (fun o => x.toNat.testBit o) 13 = 1 → 0 ≤ mj_bc (x - 1) ∧ mj_bc (x - 1) < 13 ∧ mj_t x (mj_bc (x - 1)) = true) := by
  have h := mj_bc_all (x.toNat / 128) (by omega) (x.toNat % 128) (by omega)
  rw [Nat.div_add_mod] at h
  unfold mj_bcOk at h
  rw [show ((x.toNat : Nat) : Int) = x by omega] at h
  simp only [Bool.and_eq_true, Bool.or_eq_true, Bool.not_eq_true', decide_eq_true_eq, decide_eq_false_iff_not] at h
  refine ⟨h.1, fun q => ?_⟩
  rcases h.2 with h2 | h2
  · exact absurd q h2
  · exact ⟨h2.1.1, h2.1.2, h2.2⟩
theorem mj_cn_tri (f : Nat → Bool) : ∀ n, (mj_cn f n = 0 ∧ ∀ k, k < n → f k = false) ∨ (mj_cn f n = 1 ∧ ∃ k, k < n ∧ f k = true ∧ ∀ j, j < n → f j = true → j = k) ∨ (2 ≤ mj_cn f n ∧ ∃ j k, j < k ∧ k < n ∧ f j = true ∧ f k = true)
  | 0 => Or.inl ⟨rfl, fun k h => by omega⟩
  | n + 1 => by
    have h := mj_cn_tri f n
    simp only [mj_cn]
    cases e : f n with
    | false =>
      simp only [Bool.false_eq_true, if_false, Nat.add_zero]
      rcases h with ⟨h1, h2⟩ | ⟨h1, k, h2, h3, h4⟩ | ⟨h1, j, k, h2, h3, h4, h5⟩
      · refine Or.inl ⟨h1, fun k hk => ?_⟩
        by_cases q : k = n
        · rw [q, e]
        · exact h2 k (by omega)
      · refine Or.inr (Or.inl ⟨h1, k, by omega, h3, fun j hj hf => ?_⟩)
        by_cases q : j = n
        · rw [q, e] at hf; cases hf
        · exact h4 j (by omega) hf
      · exact Or.inr (Or.inr ⟨h1, j, k, h2, by omega, h4, h5⟩)
    | true =>
      simp only [if_true]
      rcases h with ⟨h1, h2⟩ | ⟨h1, k, h2, h3, h4⟩ | ⟨h1, j, k, h2, h3, h4, h5⟩
      · refine Or.inr (Or.inl ⟨by omega, n, by omega, e, fun j hj hf => ?_⟩)
        by_cases q : j = n
        · exact q
        · rw [h2 j (by omega)] at hf; cases hf
      · exact Or.inr (Or.inr ⟨by omega, k, n, h2, by omega, h3, e⟩)
      · exact Or.inr (Or.inr ⟨by omega, j, k, h2, by omega, h4, h5⟩)
/-- the one item of set i with b behind its dot -/
def mj_lone (w : mj_w) (i b s o : Int) : Prop := mj_rg s o ∧ mj_it w i s o ∧ w 3 s 0 = b ∧ ∀ s' o' : Int, mj_rg s' o' → mj_it w i s' o' → w 3 s' 0 = b → s' = s ∧ o' = o
/-- loneSlot before slot k -/
def mj_ln (w : mj_w) (i b k f l : Int) : Prop :=
  (0 ≤ f ∧ f ≤ 13 * k) ∧
  ((f = 0 ∧ ∀ s o : Int, mj_rg s o → s < k → mj_it w i s o → w 3 s 0 = b → False) ∨
  (f = 1 ∧ ∃ o : Int, mj_rg l o ∧ l < k ∧ mj_it w i l o ∧ w 3 l 0 = b ∧ mj_cn (fun o => (w 7 i l).toNat.testBit o) 13 = 1 ∧ ∀ s' o' : Int, mj_rg s' o' → s' < k → mj_it w i s' o' → w 3 s' 0 = b → s' = l ∧ o' = o) ∨
  (2 ≤ f ∧ ∃ s o s' o' : Int, mj_rg s o ∧ mj_rg s' o' ∧ mj_it w i s o ∧ mj_it w i s' o' ∧ w 3 s 0 = b ∧ w 3 s' 0 = b ∧ (s ≠ s' ∨ o ≠ o')))
theorem mj_ln.skip {w : mj_w} {i b k f l : Int} (h : mj_ln w i b k f l) (hk : 0 ≤ k) (hno : ∀ o : Int, mj_rg k o → mj_it w i k o → w 3 k 0 = b → False) : mj_ln w i b (k + 1) f l := by
  obtain ⟨h0, h⟩ := h
  refine ⟨⟨h0.1, by omega⟩, ?_⟩
  rcases h with ⟨h1, h2⟩ | ⟨h1, o, h2, h3, h4, h5, h6, h7⟩ | h1
  · refine Or.inl ⟨h1, fun s o hr hs hit hb => ?_⟩
    by_cases e : s = k
    · subst e; exact hno o hr hit hb
    · exact h2 s o hr (by omega) hit hb
  · refine Or.inr (Or.inl ⟨h1, o, h2, by omega, h4, h5, h6, fun s' o' hr hs hit hb => ?_⟩)
    by_cases e : s' = k
    · subst e; exact (hno o' hr hit hb).elim
    · exact h7 s' o' hr (by omega) hit hb
  · exact Or.inr (Or.inr h1)
theorem mj_ln.take {w : mj_w} {i b k f l : Int} (h : mj_ln w i b k f l) (hk : 0 ≤ k) (hk1 : k < 44) (hx : 0 ≤ w 7 i k ∧ w 7 i k < 8192) (hne : w 7 i k ≠ 0) (hb : w 3 k 0 = b) : mj_ln w i b (k + 1) (f + mj_bc (w 7 i k)) k := by
  have hbc := (mj_bc_ok hx.1 hx.2).1
  have hle := mj_cn_le (fun o => (w 7 i k).toNat.testBit o) 13
  have htri := mj_cn_tri (fun o => (w 7 i k).toNat.testBit o) 13
  obtain ⟨oo, oo0, oo1, oot⟩ := (mj_t_ne hx.1 hx.2).mp hne
  have itk : ∀ o : Nat, (w 7 i k).toNat.testBit o = true → mj_it w i k (o : Int) := fun o h => by unfold mj_it mj_t; simpa using h
  obtain ⟨h0, h⟩ := h
  refine ⟨⟨by omega, by omega⟩, ?_⟩
  rcases htri with ⟨t1, t2⟩ | ⟨t1, o, t2, t3, t4⟩ | ⟨t1, j, o, t2, t3, t4, t5⟩
  · have := t2 oo.toNat (by omega)
    unfold mj_t at oot
    rw [oot] at this
    cases this
  · have uq : ∀ o' : Int, mj_rg k o' → mj_it w i k o' → o' = (o : Int) := fun o' hr hit => by
      have := t4 o'.toNat (by have := hr.2.2.2; omega) hit
      have := hr.2.2.1
      omega
    have hro : mj_rg k (o : Int) := ⟨hk, hk1, by omega, by omega⟩
    rcases h with ⟨h1, h2⟩ | ⟨h1, p, h2, h3, h4, h5, h6, h7⟩ | ⟨h1, h2⟩
    · refine Or.inr (Or.inl ⟨by omega, (o : Int), hro, by omega, itk o t3, hb, t1, fun s' o' hr hs hit hb' => ?_⟩)
      by_cases e : s' = k
      · subst e; exact ⟨rfl, uq o' hr hit⟩
      · exact (h2 s' o' hr (by omega) hit hb').elim
    · exact Or.inr (Or.inr ⟨by omega, l, p, k, (o : Int), h2, hro, h4, itk o t3, h5, hb, Or.inl (by omega)⟩)
    · exact Or.inr (Or.inr ⟨by omega, h2⟩)
  · exact Or.inr (Or.inr ⟨by omega, k, (j : Int), k, (o : Int), ⟨hk, hk1, by omega, by omega⟩, ⟨hk, hk1, by omega, by omega⟩, itk j t4, itk o t5, hb, hb, Or.inr (by omega)⟩)
section C56
variable {g : mj_G} {nn d : Nat} {xs : mj_M} {Post : Option mj_V → mj_w → Prop} {w : mj_w}
theorem c_bitCount (hn : 21 ≤ nn) {x : Int} (h : Post (some (.inl (mj_bc x))) w) : mj_J g y_J_Integer_bitCount_I d 0 0 (0, [some (.inl x)], [], mj_mem nn xs w) (mj_P nn xs Post) := v_J_Integer_bitCount_I_0 hn h
theorem c_loneSlot_loop (hn : 21 ≤ nn) {i b : Int} (hi0 : 0 ≤ i) (hi1 : i < 13) (hb0 : 0 ≤ b) (hb1 : b < 12) (hG : mj_GI w) (hrow : ∀ s : Int, 0 ≤ s → s < 44 → 0 ≤ w 7 i s ∧ w 7 i s < 8192)
    (h1 : ∀ s o, mj_lone w i b s o → mj_cn (fun o => (w 7 i s).toNat.testBit o) 13 = 1 → Post (some (.inl s)) w) (h2 : (∀ s o, ¬ mj_lone w i b s o) → Post (some (.inl (-1))) w) :
    ∀ (n : Nat) (k f l : Int), 0 ≤ k → k ≤ 44 → (44 - k).toNat = n → mj_ln w i b k f l →
    mj_J g y_Ch_loneSlot (d + 1) 0 0 (8, [some (mj_R 6), some (.inl i), some (.inl b), some (.inl f), some (.inl l), some (.inl k)], [], mj_mem nn xs w) (mj_P nn xs Post) := by
  intro n
  induction n with
  | zero =>
    intro k f l k0 k1 k2 hl
    have ek : k = 44 := by omega
    subst ek
    obtain ⟨h0, hl⟩ := hl
    refine v_Ch_loneSlot_8 hn ⟨⟨by decide, by decide⟩, fun q => absurd q (by decide), fun _ => ⟨⟨by omega, by omega⟩, fun q => ?_, fun q => ?_⟩⟩
    · rcases hl with ⟨t1, _⟩ | ⟨t1, o, t2, t3, t4, t5, t6, t7⟩ | ⟨t1, _⟩
      · omega
      · exact h1 l o ⟨t2, t4, t5, fun s' o' hr hit hb => t7 s' o' hr (by have := hr.2.1; omega) hit hb⟩ t6
      · omega
    · refine h2 fun s o hlo => ?_
      obtain ⟨g1, g2, g3, g4⟩ := hlo
      rcases hl with ⟨t1, t2⟩ | ⟨t1, _⟩ | ⟨t1, s1, o1, s2, o2, r1, r2, i1, i2, b1, b2, ne⟩
      · exact t2 s o g1 (by have := g1.2.1; omega) g2 g3
      · omega
      · have := g4 s1 o1 r1 i1 b1
        have := g4 s2 o2 r2 i2 b2
        omega
  | succ n ih =>
    intro k f l k0 k1 k2 hl
    have hx := hrow k k0 (by omega)
    have hg3 := hG.2.2 k k0 (by omega)
    refine v_Ch_loneSlot_8 hn ⟨⟨by omega, by omega⟩, fun q => ⟨hi0, hi1, k0, q, ⟨by omega, by omega⟩, fun q1 => ?_, fun q1 => ⟨⟨by omega, by omega⟩, ⟨by omega, by omega⟩, fun q2 => ?_, fun q2 => ?_⟩⟩, fun q => by omega⟩
    · refine ih (k + 1) f l (by omega) (by omega) (by omega) (hl.skip k0 fun o hr hit _ => ?_)
      unfold mj_it at hit
      rw [q1, mj_t_zero] at hit
      cases hit
    · exact c_bitCount hn ⟨_, rfl, ih (k + 1) _ k (by omega) (by omega) (by omega) (hl.take k0 (by omega) hx q1 q2)⟩
    · exact ih (k + 1) f l (by omega) (by omega) (by omega) (hl.skip k0 fun o hr hit hb => q2 hb)
theorem c_loneSlot (hn : 21 ≤ nn) {i b : Int} (hi0 : 0 ≤ i) (hi1 : i < 13) (hb0 : 0 ≤ b) (hb1 : b < 12) (hG : mj_GI w) (hrow : ∀ s : Int, 0 ≤ s → s < 44 → 0 ≤ w 7 i s ∧ w 7 i s < 8192)
    (h1 : ∀ s o, mj_lone w i b s o → mj_cn (fun o => (w 7 i s).toNat.testBit o) 13 = 1 → Post (some (.inl s)) w) (h2 : (∀ s o, ¬ mj_lone w i b s o) → Post (some (.inl (-1))) w) :
    mj_J g y_Ch_loneSlot (d + 1) 0 0 (0, [some (mj_R 6), some (.inl i), some (.inl b), none, none, none], [], mj_mem nn xs w) (mj_P nn xs Post) :=
  v_Ch_loneSlot_0 hn (c_loneSlot_loop hn hi0 hi1 hb0 hb1 hG hrow h1 h2 _ 0 0 (-1) (Int.le_refl _) (by decide) rfl ⟨⟨by decide, by decide⟩, Or.inl ⟨rfl, fun s o hr hs => by have := hr.1; omega⟩⟩)
/-- what is named where the one item is (s, o) -/
def mj_nm (w : mj_w) (i s o : Int) : Int := if o < i ∧ mj_ls_ w s ≠ -1 ∧ w 9 o (mj_ls_ w s) ≠ -1 then w 9 o (mj_ls_ w s) else (s + 1) * 13 + o
theorem c_leapItem (hn : 21 ≤ nn) {i b : Int} (hi0 : 0 ≤ i) (hi1 : i < 13) (hb0 : 0 ≤ b) (hb1 : b < 12) (hG : mj_GI w) (hrow : ∀ s : Int, 0 ≤ s → s < 44 → 0 ≤ w 7 i s ∧ w 7 i s < 8192) (h9 : ∀ o l : Int, 0 ≤ o → o < i → 0 ≤ l → l < 5 → mj_i (w 9 o l))
    (h1 : ∀ s o, mj_lone w i b s o → w 3 (s + 1) 0 = -1 → Post (some (.inl (mj_nm w i s o))) w) (h2 : (∀ s o, mj_lone w i b s o → w 3 (s + 1) 0 ≠ -1) → Post (some (.inl (-1))) w) :
    mj_J g y_Ch_leapItem (d + 2) 0 0 (0, [some (mj_R 6), some (.inl i), some (.inl b), none, none, none], [], mj_mem nn xs w) (mj_P nn xs Post) := by
  refine v_Ch_leapItem_0 (d := d + 1) hn (c_loneSlot hn hi0 hi1 hb0 hb1 hG hrow (fun s o hl hc => ⟨_, rfl, ?_⟩) (fun hno => ⟨_, rfl, ⟨by decide, by decide⟩, fun _ => h2 fun s o hl => absurd hl (hno s o), fun q => absurd rfl q⟩))
  have hl' := hl
  obtain ⟨⟨r1, r2, r3, r4⟩, t2, t3, t4⟩ := hl'
  have hnx := hG.nx ⟨r1, r2, r3, r4⟩ (show w 3 s 0 ≠ -1 by omega)
  have hg := hG.2.2 (s + 1) hnx.1 hnx.2.1
  have uq : ∀ s' o', mj_lone w i b s' o' → s' = s ∧ o' = o := fun s' o' h => t4 s' o' h.1 h.2.1 h.2.2.1
  refine ⟨⟨by omega, by omega⟩, fun q => by omega, fun q => ⟨hnx.1, hnx.2.1, ⟨by omega, by omega⟩, fun q1 => ⟨hi0, hi1, r1, r2, c_bitCount hn ⟨_, rfl, ?_⟩⟩, fun q1 => h2 fun s' o' h' => by rw [(uq s' o' h').1]; exact q1⟩⟩
  obtain ⟨e0, e1, e2⟩ := (mj_bc_ok (hrow s r1 r2).1 (hrow s r1 r2).2).2 hc
  have eo : mj_bc (w 7 i s - 1) = o := (t4 s _ ⟨r1, r2, e0, e1⟩ e2 t3).2
  rw [eo]
  have hls := mj_lo_r hG (s / 4 - 1)
  refine c_leftSide hn r1 r2 hG.1.1 hG.1.2 ⟨_, rfl, ⟨by omega, by omega⟩, ⟨by omega, by omega⟩, fun q2 => ⟨?_, fun q3 => ?_, fun q3 => ⟨r3, r4, ?_, ?_, ?_, fun q4 => ?_, fun q4 => ?_⟩⟩, fun q2 => ?_⟩
  · unfold mj_ls_; exact ⟨by omega, by omega⟩
  · have := h1 s o hl q1
    rwa [mj_nm, if_neg (fun z => z.2.1 q3)] at this
  · unfold mj_ls_ at q3 ⊢; omega
  · unfold mj_ls_ at q3 ⊢; omega
  · unfold mj_ls_ at q3 ⊢; exact h9 o _ r3 q2 (by omega) (by omega)
  · have := h1 s o hl q1
    rwa [mj_nm, if_neg (fun z => z.2.2 q4)] at this
  · have := h1 s o hl q1
    rwa [mj_nm, if_pos ⟨q2, q3, q4⟩] at this
  · have := h1 s o hl q1
    rwa [mj_nm, if_neg (fun z => q2 z.1)] at this
end C56
