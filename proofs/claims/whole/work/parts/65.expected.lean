/-! ===== what may come next; sizes ===== -/
def mj_ex (w : mj_w) (i k : Int) : Prop := ∃ s o : Int, mj_rg s o ∧ mj_it w i s o ∧ w 3 s 0 = 8 + k
/-- x is the mask of P -/
def mj_mk (x : Int) (P : Int → Prop) : Prop := (0 ≤ x ∧ x < 8192) ∧ ∀ k : Int, 0 ≤ k → (mj_t x k = true ↔ P k)
theorem mj_mk.eq {x y : Int} {P Q : Int → Prop} (hx : mj_mk x P) (hy : mj_mk y Q) (h : ∀ k, 0 ≤ k → (P k ↔ Q k)) : x = y := by
  have e : x.toNat = y.toNat := by
    apply Nat.eq_of_testBit_eq
    intro i
    have h1 := hx.2 (i : Int) (by omega)
    have h2 := hy.2 (i : Int) (by omega)
    unfold mj_t at h1 h2
    rw [Int.toNat_natCast] at h1 h2
    have h3 := h (i : Int) (by omega)
    rw [Bool.eq_iff_iff, h1, h2, h3]
  have := hx.1
  have := hy.1
  omega
theorem mj_mk.lt {x : Int} {P : Int → Prop} (hx : mj_mk x P) (h : ∀ k, 4 ≤ k → ¬ P k) : x < 16 := by
  have e : x.toNat < 2 ^ 4 := by
    apply Nat.lt_pow_two_of_testBit
    intro i hi
    have h1 := hx.2 (i : Int) (by omega)
    unfold mj_t at h1
    rw [Int.toNat_natCast] at h1
    cases q : x.toNat.testBit i with
    | false => rfl
    | true => exact absurd (h1.mp q) (h _ (by omega))
  have := hx.1
  omega
theorem mj_mk.zero : mj_mk 0 (fun _ => False) := ⟨by decide, fun k _ => by rw [mj_t_zero]; simp⟩
theorem mj_mk.put {x : Int} {P : Int → Prop} (hx : mj_mk x P) {o : Int} (h0 : 0 ≤ o) (h1 : o < 13) : mj_mk (mj_ior x (mj_shl 1 o)) (fun k => P k ∨ k = o) := by
  have hor := fun k => mj_t_or (x := x) (o := o) (k := k) hx.1.1 hx.1.2 h0 h1
  refine ⟨(hor 0).2, fun k k0 => ?_⟩
  rw [(hor k).1, Bool.or_eq_true_iff, decide_eq_true_eq, hx.2 k k0]
  have : k.toNat = o.toNat ↔ k = o := by omega
  rw [this]
theorem mj_mk.to {x : Int} {P Q : Int → Prop} (hx : mj_mk x P) (h : ∀ k, 0 ≤ k → (P k ↔ Q k)) : mj_mk x Q := ⟨hx.1, fun k k0 => (hx.2 k k0).trans (h k k0)⟩
theorem mj_bit16 : ∀ x : Fin 16, ∀ k : Fin 4, (mj_and (x.val : Int) (mj_shl 1 (k.val : Int)) = 0 ↔ mj_t (x.val : Int) (k.val : Int) = false) ∧ (mj_and (mj_shr (x.val : Int) (k.val : Int)) 1 = 0 ↔ mj_t (x.val : Int) (k.val : Int) = false) ∧ (-2147483648 ≤ mj_and (x.val : Int) (mj_shl 1 (k.val : Int)) ∧ mj_and (x.val : Int) (mj_shl 1 (k.val : Int)) < 2147483648) ∧ (-2147483648 ≤ mj_and (mj_shr (x.val : Int) (k.val : Int)) 1 ∧ mj_and (mj_shr (x.val : Int) (k.val : Int)) 1 < 2147483648) := by decide +kernel
theorem mj_bit16' {x k : Int} (h0 : 0 ≤ x) (h1 : x < 16) (k0 : 0 ≤ k) (k1 : k < 4) : (mj_and x (mj_shl 1 k) = 0 ↔ mj_t x k = false) ∧ (mj_and (mj_shr x k) 1 = 0 ↔ mj_t x k = false) ∧ mj_i (mj_and x (mj_shl 1 k)) ∧ mj_i (mj_and (mj_shr x k) 1) := by
  have h := mj_bit16 ⟨x.toNat, by omega⟩ ⟨k.toNat, by omega⟩
  simp only at h
  rw [show ((x.toNat : Nat) : Int) = x by omega, show ((k.toNat : Nat) : Int) = k by omega] at h
  exact h
theorem mj_ior0 {x : Int} (h0 : 0 ≤ x) (h1 : x < 8192) : mj_ior x 0 = x := by
  rw [mj_ior_nat h0 (by omega) (by decide) (by decide)]
  show ((x.toNat ||| 0 : Nat) : Int) = x
  rw [Nat.or_zero]
  omega
theorem mj_row_any {w : mj_w} {i s : Int} (hx : 0 ≤ w 7 i s ∧ w 7 i s < 8192) (h0 : 0 ≤ s) (h1 : s < 44) : w 7 i s ≠ 0 ↔ ∃ o : Int, mj_rg s o ∧ mj_it w i s o := by
  rw [mj_t_ne hx.1 hx.2]
  exact ⟨fun ⟨o, a, b, c⟩ => ⟨o, ⟨h0, h1, a, b⟩, c⟩, fun ⟨o, a, c⟩ => ⟨o, a.2.2.1, a.2.2.2, c⟩⟩
section C65
variable {g : mj_G} {nn d : Nat} {xs : mj_M} {Post : Option mj_V → mj_w → Prop} {w : mj_w}
theorem c_tbd_loop (hn : 21 ≤ nn) {i : Int} (hi0 : 0 ≤ i) (hi1 : i < 13) (hG : mj_GI w) (hrow : ∀ s : Int, 0 ≤ s → s < 44 → 0 ≤ w 7 i s ∧ w 7 i s < 8192) (h : ∀ x, mj_mk x (mj_ex w i) → Post (some (.inl x)) w) :
    ∀ (n : Nat) (k x : Int), 0 ≤ k → k ≤ 44 → (44 - k).toNat = n → mj_mk x (fun t => ∃ s o : Int, s < k ∧ mj_rg s o ∧ mj_it w i s o ∧ w 3 s 0 = 8 + t) →
    mj_J g y_Ch_terminalsBehindDots (d + 1) 0 0 (4, [some (mj_R 6), some (.inl i), some (.inl x), some (.inl k), none], [], mj_mem nn xs w) (mj_P nn xs Post) := by
  intro n
  induction n with
  | zero =>
    intro k x k0 k1 k2 hx
    have ek : k = 44 := by omega
    subst ek
    exact v_Ch_terminalsBehindDots_4 hn ⟨⟨by decide, by decide⟩, fun q => absurd q (by decide), fun _ => h x (hx.to fun t _ => ⟨fun ⟨s, o, _, a, b, c⟩ => ⟨s, o, a, b, c⟩, fun ⟨s, o, a, b, c⟩ => ⟨s, o, a.2.1, a, b, c⟩⟩)⟩
  | succ n ih =>
    intro k x k0 k1 k2 hx
    have hr := hrow k k0 (by omega)
    have hg := hG.2.2 k k0 (by omega)
    have skip : (∀ t : Int, 0 ≤ t → ∀ o : Int, mj_rg k o → mj_it w i k o → w 3 k 0 = 8 + t → False) → mj_J g y_Ch_terminalsBehindDots (d + 1) 0 0 (4, [some (mj_R 6), some (.inl i), some (.inl x), some (.inl (k + 1)), none], [], mj_mem nn xs w) (mj_P nn xs Post) := fun hno =>
      ih (k + 1) x (by omega) (by omega) (by omega) (hx.to fun t t0 => ⟨fun ⟨s, o, a, b⟩ => ⟨s, o, by omega, b⟩, fun ⟨s, o, a, b, c, e⟩ => by
        by_cases q : s = k
        · subst q; exact (hno t t0 o b c e).elim
        · exact ⟨s, o, by omega, b, c, e⟩⟩)
    refine v_Ch_terminalsBehindDots_4 hn ⟨⟨by omega, by omega⟩, fun q => ⟨k0, q, hi0, hi1, ⟨by omega, by omega⟩, fun q1 => skip fun t t0 o a b c => (mj_row_any hr k0 (by omega)).mpr ⟨o, a, b⟩ q1, fun q1 => c_isTerminal hn ⟨by omega, by omega⟩ ⟨_, rfl, ?_⟩⟩, fun q => by omega⟩
    unfold mj_isT
    by_cases q2 : 8 ≤ w 3 k 0 ∧ w 3 k 0 ≤ 11
    · rw [if_pos q2]
      refine ⟨⟨by decide, by decide⟩, fun z => absurd z (by decide), fun _ => v_CF_terminalBit_0 hn ⟨_, rfl, ?_⟩⟩
      obtain ⟨oo, oa, ob⟩ := (mj_row_any hr k0 (by omega)).mp q1
      refine ih (k + 1) _ (by omega) (by omega) (by omega) ((hx.put (o := w 3 k 0 - 8) (by omega) (by omega)).to fun t t0 => ⟨?_, ?_⟩)
      · rintro (⟨s, o, a, b⟩ | q)
        · exact ⟨s, o, by omega, b⟩
        · exact ⟨k, oo, by omega, oa, ob, by omega⟩
      · rintro ⟨s, o, a, b, c, e⟩
        by_cases q : s = k
        · subst q; exact Or.inr (by omega)
        · exact Or.inl ⟨s, o, by omega, b, c, e⟩
    · rw [if_neg q2]
      exact ⟨⟨by decide, by decide⟩, fun _ => skip fun t t0 o a b c => q2 (by omega), fun z => absurd rfl z⟩
theorem c_tbd (hn : 21 ≤ nn) {i : Int} (hi0 : 0 ≤ i) (hi1 : i < 13) (hG : mj_GI w) (hrow : ∀ s : Int, 0 ≤ s → s < 44 → 0 ≤ w 7 i s ∧ w 7 i s < 8192) (h : ∀ x, mj_mk x (mj_ex w i) → Post (some (.inl x)) w) :
    mj_J g y_Ch_terminalsBehindDots (d + 1) 0 0 (0, [some (mj_R 6), some (.inl i), none, none, none], [], mj_mem nn xs w) (mj_P nn xs Post) :=
  v_Ch_terminalsBehindDots_0 hn (c_tbd_loop hn hi0 hi1 hG hrow h _ 0 0 (Int.le_refl _) (by decide) rfl (mj_mk.zero.to fun t _ => ⟨fun q => q.elim, fun ⟨s, o, a, b, _⟩ => by have := b.1; omega⟩))
theorem c_M_expectedIn_loop (hn : 33 ≤ nn) {i : Int} (hi0 : 0 ≤ i) (hi1 : i < 13) (hG : mm_GI w) (h : ∀ x, mj_mk x (mj_ex (mm_w w) i) → Post (some (.inl x)) w) :
    ∀ (n k : Nat) (x : Int), k + n = 572 → mj_mk x (fun t => ∃ j : Nat, j < k ∧ w 26 (572 * i + (j : Int)) 0 ≠ 0 ∧ mm_bh w ((j : Int) / 13) = 8 + t) →
    mj_J g y_Mo_expectedIn (d + 2) 0 0 (4, [some (mj_R 21), some (.inl i), some (.inl x), some (.inl (k : Int)), none], [], mj_mem nn xs w) (mj_P nn xs Post) := by
  intro n
  induction n with
  | zero =>
    intro k x hk hx
    have ek : k = 572 := by omega
    subst ek
    refine v_Mo_expectedIn_4 (d := d + 1) hn ⟨⟨by omega, by omega⟩, fun q => absurd q (by decide), fun _ => h x (hx.to fun t _ => ⟨?_, ?_⟩)⟩
    · rintro ⟨j, a, b, c⟩
      have hr : mj_rg ((j : Int) / 13) ((j : Int) % 13) := ⟨by omega, by omega, by omega, by omega⟩
      refine ⟨(j : Int) / 13, (j : Int) % 13, hr, (mm_it w i hr).mpr ?_, c⟩
      rw [show mm_at i ((j : Int) / 13) ((j : Int) % 13) = 572 * i + (j : Int) by unfold mm_at; omega]
      exact b
    · rintro ⟨s, o, hr, b, c⟩
      have hb := (mm_it w i hr).mp b
      obtain ⟨r1, r2, r3, r4⟩ := hr
      refine ⟨(s * 13 + o).toNat, by omega, ?_, ?_⟩
      · rw [show 572 * i + (((s * 13 + o).toNat : Nat) : Int) = mm_at i s o by unfold mm_at; omega]; exact hb
      · rw [show (((s * 13 + o).toNat : Nat) : Int) / 13 = s by omega]; exact c
  | succ n ih =>
    intro k x hk hx
    have hs0 : (0 : Int) ≤ (k : Int) / 13 := by omega
    have hs1 : (k : Int) / 13 < 44 := by omega
    have hbool := hG.2.2.2.2.2 (572 * i + (k : Int)) (by omega) (by omega)
    have hbh := hG.bh hs0 hs1
    have skip : (∀ t : Int, 0 ≤ t → w 26 (572 * i + (k : Int)) 0 ≠ 0 → mm_bh w ((k : Int) / 13) = 8 + t → False) → mj_J g y_Mo_expectedIn (d + 2) 0 0 (4, [some (mj_R 21), some (.inl i), some (.inl (mj_ior x 0)), some (.inl ((k : Int) + 1)), none], [], mj_mem nn xs w) (mj_P nn xs Post) := fun hno => by
      rw [mj_ior0 hx.1.1 hx.1.2]
      have := ih (k + 1) x (by omega) (hx.to fun t t0 => ⟨fun ⟨j, a, b⟩ => ⟨j, by omega, b⟩, fun ⟨j, a, b, c⟩ => by
        by_cases q : j = k
        · subst q; exact (hno t t0 b c).elim
        · exact ⟨j, by omega, b, c⟩⟩)
      rw [show (((k + 1 : Nat) : Int)) = (k : Int) + 1 by omega] at this
      exact this
    refine v_Mo_expectedIn_4 (d := d + 1) hn ⟨⟨by omega, by omega⟩, fun q => ⟨by omega, by omega, ⟨by omega, by omega⟩, fun q1 => skip fun _ _ b _ => b q1, fun q1 => ⟨by omega, ⟨by omega, by omega⟩, by omega, c_M_behind (d := d) hn hG hs0 hs1 (by omega) (by omega) ⟨_, rfl, ⟨by omega, by omega⟩, fun q2 => skip fun t t0 _ c => by omega, fun q2 => ?_⟩⟩⟩, fun q => by omega⟩
    have := ih (k + 1) _ (by omega) ((hx.put (o := mm_bh w ((k : Int) / 13) - 8) (by omega) (by omega)).to fun t t0 => ⟨fun z => by
      rcases z with ⟨j, a, b⟩ | z
      · exact ⟨j, by omega, b⟩
      · exact ⟨k, by omega, q1, by omega⟩, fun ⟨j, a, b, c⟩ => by
      by_cases q : j = k
      · subst q; exact Or.inr (by omega)
      · exact Or.inl ⟨j, by omega, b, c⟩⟩)
    rw [show (((k + 1 : Nat) : Int)) = (k : Int) + 1 by omega] at this
    exact this
theorem c_M_expectedIn (hn : 33 ≤ nn) {i : Int} (hi0 : 0 ≤ i) (hi1 : i < 13) (hG : mm_GI w) (h : ∀ x, mj_mk x (mj_ex (mm_w w) i) → Post (some (.inl x)) w) :
    mj_J g y_Mo_expectedIn (d + 2) 0 0 (0, [some (mj_R 21), some (.inl i), none, none, none], [], mj_mem nn xs w) (mj_P nn xs Post) :=
  v_Mo_expectedIn_0 (d := d + 1) hn (c_M_expectedIn_loop hn hi0 hi1 hG h 572 0 0 rfl (mj_mk.zero.to fun t _ => ⟨fun q => q.elim, fun ⟨j, a, _⟩ => by omega⟩))
theorem c_M_sizeOf_loop (hn : 33 ≤ nn) {i : Int} (hi0 : 0 ≤ i) (hi1 : i < 13) (hG : mm_GI w) (h : Post (some (.inl (mm_ct w i : Int))) w) :
    ∀ (n k : Nat) (x : Int), k + n = 572 → x = (mj_cn (fun k : Nat => decide (w 26 (572 * i + (k : Int)) 0 ≠ 0)) k : Int) →
    mj_J g y_Mo_sizeOf d 0 0 (4, [some (mj_R 21), some (.inl i), some (.inl x), some (.inl (k : Int))], [], mj_mem nn xs w) (mj_P nn xs Post) := by
  intro n
  induction n with
  | zero =>
    intro k x hk hx
    have ek : k = 572 := by omega
    subst ek
    refine v_Mo_sizeOf_4 hn ⟨⟨by omega, by omega⟩, fun q => absurd q (by decide), fun _ => ?_⟩
    rw [hx]
    exact h
  | succ n ih =>
    intro k x hk hx
    have hbool := hG.2.2.2.2.2 (572 * i + (k : Int)) (by omega) (by omega)
    have es : mj_cn (fun k : Nat => decide (w 26 (572 * i + (k : Int)) 0 ≠ 0)) (k + 1) = mj_cn (fun k : Nat => decide (w 26 (572 * i + (k : Int)) 0 ≠ 0)) k + (if decide (w 26 (572 * i + (k : Int)) 0 ≠ 0) then 1 else 0) := rfl
    refine v_Mo_sizeOf_4 hn ⟨⟨by omega, by omega⟩, fun q => ⟨by omega, by omega, ⟨by omega, by omega⟩, fun q1 => ?_, fun q1 => ?_⟩, fun q => by omega⟩
    · have := ih (k + 1) (x + 0) (by omega) (by rw [es, if_neg (by simp [q1])]; omega)
      rw [show (((k + 1 : Nat) : Int)) = (k : Int) + 1 by omega] at this
      exact this
    · have := ih (k + 1) (x + 1) (by omega) (by rw [es, if_pos (by simp [q1])]; omega)
      rw [show (((k + 1 : Nat) : Int)) = (k : Int) + 1 by omega] at this
      exact this
theorem c_M_sizeOf (hn : 33 ≤ nn) {i : Int} (hi0 : 0 ≤ i) (hi1 : i < 13) (hG : mm_GI w) (h : Post (some (.inl (mm_ct w i : Int))) w) :
    mj_J g y_Mo_sizeOf d 0 0 (0, [some (mj_R 21), some (.inl i), none, none], [], mj_mem nn xs w) (mj_P nn xs Post) :=
  v_Mo_sizeOf_0 hn (c_M_sizeOf_loop hn hi0 hi1 hG h 572 0 0 rfl rfl)
end C65
theorem mm_ct_eq {u w : mj_w} {i : Int} (h : ∀ s o : Int, mj_rg s o → (mj_it u i s o ↔ mj_it (mm_w w) i s o)) : mj_ct u i = mm_ct w i := by
  unfold mj_ct mm_ct
  refine mj_cn_congr 572 (fun k hk => ?_)
  have hr : mj_rg ((k / 13 : Nat) : Int) ((k % 13 : Nat) : Int) := ⟨by omega, by omega, by omega, by omega⟩
  have h1 := h _ _ hr
  rw [mm_it w i hr, show mm_at i ((k / 13 : Nat) : Int) ((k % 13 : Nat) : Int) = 572 * i + (k : Int) by unfold mm_at; omega] at h1
  unfold mj_it at h1
  rw [Bool.eq_iff_iff, h1]
  simp
