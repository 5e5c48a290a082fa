/-! ===== a set of items that grows by put ===== -/
def mj_rg (s o : Int) : Prop := 0 ≤ s ∧ s < 44 ∧ 0 ≤ o ∧ o < 13
def mj_it (w : mj_w) (i s o : Int) : Prop := mj_t (w 7 i s) o = true
/-- every row of origins is a number of 13 bits -/
def mj_SI (w : mj_w) : Prop := ∀ i s : Int, 0 ≤ i → i < 13 → 0 ≤ s → s < 44 → 0 ≤ w 7 i s ∧ w 7 i s < 8192
/-- how many items -/
def mj_ct (w : mj_w) (i : Int) : Nat := mj_cn (fun c : Nat => mj_t (w 7 i ((c / 13 : Nat) : Int)) ((c % 13 : Nat) : Int)) 572
/-- the agenda lists the set's items, each once -/
def mj_AG (i : Int) (w : mj_w) : Prop := w 6 6 0 = (mj_ct w i : Int) ∧ w 8 i 0 = (mj_ct w i : Int) ∧ (∀ k : Int, 0 ≤ k → k < w 6 6 0 → ∃ s o, mj_rg s o ∧ mj_it w i s o ∧ w 10 k 0 = s * 13 + o) ∧ ∀ s o : Int, mj_rg s o → mj_it w i s o → ∃ k : Int, 0 ≤ k ∧ k < w 6 6 0 ∧ w 10 k 0 = s * 13 + o
theorem mj_AG.size {i : Int} {w : mj_w} (h : mj_AG i w) : 0 ≤ w 6 6 0 ∧ w 6 6 0 ≤ 572 := by
  have h1 := mj_cn_le (fun c : Nat => mj_t (w 7 i ((c / 13 : Nat) : Int)) ((c % 13 : Nat) : Int)) 572
  have h2 := h.1
  unfold mj_ct at h2
  omega
theorem mj_code {s o : Int} (h : mj_rg s o) : ∃ c : Nat, c < 572 ∧ (c : Int) = s * 13 + o ∧ ((c / 13 : Nat) : Int) = s ∧ ((c % 13 : Nat) : Int) = o := by
  obtain ⟨h1, h2, h3, h4⟩ := h
  exact ⟨(s * 13 + o).toNat, by omega, by omega, by omega, by omega⟩
theorem mj_AG.room {i s o : Int} {w : mj_w} (h : mj_AG i w) (hr : mj_rg s o) (hn : mj_t (w 7 i s) o = false) : w 6 6 0 < 572 := by
  obtain ⟨c, h1, -, h3, h4⟩ := mj_code hr
  have h5 := mj_cn_lt (f := fun c : Nat => mj_t (w 7 i ((c / 13 : Nat) : Int)) ((c % 13 : Nat) : Int)) (k := c) (by simp only [h3, h4]; exact hn) 572 h1
  have h6 := h.1
  unfold mj_ct at h6
  omega
/-- items A were put into set i -/
def mj_add (i : Int) (A : Int → Int → Prop) (w w' : mj_w) : Prop :=
  (∀ (p : Nat) (a b : Int), ¬ (p = 7 ∧ a = i) → ¬ (p = 8 ∧ a = i) → p ≠ 10 → ¬ (p = 6 ∧ a = 6) → w' p a b = w p a b) ∧ (∀ s o : Int, mj_rg s o → (mj_it w' i s o ↔ mj_it w i s o ∨ A s o)) ∧ (∀ s : Int, 0 ≤ s → s < 44 → 0 ≤ w' 7 i s ∧ w' 7 i s < 8192) ∧ mj_AG i w' ∧ w 6 6 0 ≤ w' 6 6 0 ∧ ∀ k : Int, 0 ≤ k → k < w 6 6 0 → w' 10 k 0 = w 10 k 0
theorem mj_add.refl {i : Int} {w : mj_w} (h1 : ∀ s : Int, 0 ≤ s → s < 44 → 0 ≤ w 7 i s ∧ w 7 i s < 8192) (h2 : mj_AG i w) : mj_add i (fun _ _ => False) w w :=
  ⟨fun _ _ _ _ _ _ _ => rfl, fun s o _ => by simp, h1, h2, Int.le_refl _, fun _ _ _ => rfl⟩
theorem mj_add.trans {i : Int} {A B : Int → Int → Prop} {w w1 w2 : mj_w} (h : mj_add i A w w1) (h' : mj_add i B w1 w2) : mj_add i (fun s o => A s o ∨ B s o) w w2 := by
  obtain ⟨a1, a2, a3, a4, a5, a6⟩ := h
  obtain ⟨b1, b2, b3, b4, b5, b6⟩ := h'
  refine ⟨fun p a b c1 c2 c3 c4 => (b1 p a b c1 c2 c3 c4).trans (a1 p a b c1 c2 c3 c4), fun s o hr => ?_, b3, b4, by omega, fun k k0 k1 => (b6 k k0 (by omega)).trans (a6 k k0 k1)⟩
  rw [b2 s o hr, a2 s o hr, or_assoc]
theorem mj_add.to {i : Int} {A B : Int → Int → Prop} {w w1 : mj_w} (h : mj_add i A w w1) (e : ∀ s o, mj_rg s o → (A s o ↔ B s o)) : mj_add i B w w1 := by
  obtain ⟨a1, a2, a3, a4, a5, a6⟩ := h
  exact ⟨a1, fun s o hr => by rw [a2 s o hr, e s o hr], a3, a4, a5, a6⟩
theorem mj_put_add {i s o : Int} {w : mj_w} (h1 : ∀ s : Int, 0 ≤ s → s < 44 → 0 ≤ w 7 i s ∧ w 7 i s < 8192) (h2 : mj_AG i w) (hr : mj_rg s o) : mj_add i (fun s' o' => s' = s ∧ o' = o) w (mj_put w i s o) := by
  obtain ⟨r1, r2, r3, r4⟩ := hr
  by_cases q : mj_t (w 7 i s) o = true
  · have e : mj_put w i s o = w := by unfold mj_put; rw [if_pos q]
    rw [e]
    refine ⟨fun _ _ _ _ _ _ _ => rfl, fun s' o' _ => ⟨fun h => Or.inl h, fun h => ?_⟩, h1, h2, Int.le_refl _, fun _ _ _ => rfl⟩
    rcases h with h | ⟨rfl, rfl⟩
    · exact h
    · exact q
  · have q' : mj_t (w 7 i s) o = false := by simpa using q
    have hx := h1 s r1 r2
    have hlt := h2.room ⟨r1, r2, r3, r4⟩ q'
    have hsz := h2.size
    have hor := fun k => mj_t_or (x := w 7 i s) (o := o) (k := k) hx.1 hx.2 r3 r4
    have e7 : ∀ s' : Int, mj_put w i s o 7 i s' = if s' = s then mj_ior (w 7 i s) (mj_shl 1 o) else w 7 i s' := by
      intro s'
      unfold mj_put
      rw [if_neg q]
      by_cases e : s' = s
      · subst e; simp [mj_wu]
      · simp [mj_wu, e]
    have e6 : mj_put w i s o 6 6 0 = w 6 6 0 + 1 := by
      unfold mj_put
      rw [if_neg q]
      simp [mj_wu]
    have e8 : mj_put w i s o 8 i 0 = w 8 i 0 + 1 := by
      unfold mj_put
      rw [if_neg q]
      simp [mj_wu]
    have e10 : ∀ k : Int, mj_put w i s o 10 k 0 = if k = w 6 6 0 then s * 13 + o else w 10 k 0 := by
      intro k
      unfold mj_put
      rw [if_neg q]
      by_cases e : k = w 6 6 0
      · simp [mj_wu, e]
      · simp [mj_wu, e]
    have hbits : ∀ s' o' : Int, mj_rg s' o' → (mj_it (mj_put w i s o) i s' o' ↔ mj_it w i s' o' ∨ (s' = s ∧ o' = o)) := by
      intro s' o' hr'
      unfold mj_it
      rw [e7]
      by_cases e : s' = s
      · subst e
        rw [if_pos rfl, (hor o').1, Bool.or_eq_true_iff, decide_eq_true_eq]
        have : o'.toNat = o.toNat ↔ o' = o := by
          have h3 := hr'.2.2.1
          omega
        simp [this]
      · rw [if_neg e]
        simp [e]
    have hct : mj_ct (mj_put w i s o) i = mj_ct w i + 1 := by
      obtain ⟨c, c1, c2, c3, c4⟩ := mj_code ⟨r1, r2, r3, r4⟩
      unfold mj_ct
      refine mj_cn_set (k := c) ?_ ?_ 572 c1 ?_
      · simp only [c3, c4]; exact q'
      · simp only [c3, c4]
        exact (hbits s o ⟨r1, r2, r3, r4⟩).mpr (Or.inr ⟨rfl, rfl⟩)
      · intro j hj hne
        have hr' : mj_rg ((j / 13 : Nat) : Int) ((j % 13 : Nat) : Int) := ⟨by omega, by omega, by omega, by omega⟩
        have hb := hbits _ _ hr'
        have hn : ¬ (((j / 13 : Nat) : Int) = s ∧ ((j % 13 : Nat) : Int) = o) := by omega
        unfold mj_it at hb
        by_cases e : mj_t (w 7 i ((j / 13 : Nat) : Int)) ((j % 13 : Nat) : Int) = true
        · simp only [e, hb.mpr (Or.inl e)]
        · have e' : ¬ mj_t (mj_put w i s o 7 i ((j / 13 : Nat) : Int)) ((j % 13 : Nat) : Int) = true := fun h => (hb.mp h).elim e hn
          simp only [Bool.not_eq_true] at e e'
          rw [e, e']
    refine ⟨fun p a b c1 c2 c3 c4 => ?_, hbits, fun s' s0 s1 => ?_, ⟨?_, ?_, ?_, ?_⟩, by rw [e6]; omega, fun k k0 k1 => ?_⟩
    · unfold mj_put
      rw [if_neg q]
      unfold mj_wu
      rw [if_neg (fun h => c4 ⟨h.1, h.2.1⟩), if_neg (fun h => c3 h.1), if_neg (fun h => c2 ⟨h.1, h.2.1⟩), if_neg (fun h => c1 ⟨h.1, h.2.1⟩)]
    · rw [e7]
      by_cases e : s' = s
      · rw [if_pos e]; exact ⟨(hor 0).2.1, (hor 0).2.2⟩
      · rw [if_neg e]; exact h1 s' s0 s1
    · rw [e6, hct, h2.1]; omega
    · rw [e8, hct, h2.2.1]; omega
    · intro k k0 k1
      rw [e6] at k1
      rw [e10]
      by_cases e : k = w 6 6 0
      · rw [if_pos e]
        exact ⟨s, o, ⟨r1, r2, r3, r4⟩, (hbits s o ⟨r1, r2, r3, r4⟩).mpr (Or.inr ⟨rfl, rfl⟩), rfl⟩
      · rw [if_neg e]
        obtain ⟨s', o', g1, g2, g3⟩ := h2.2.2.1 k k0 (by omega)
        exact ⟨s', o', g1, (hbits s' o' g1).mpr (Or.inl g2), g3⟩
    · intro s' o' hr' hh
      rcases (hbits s' o' hr').mp hh with h | ⟨rfl, rfl⟩
      · obtain ⟨k, k0, k1, k2⟩ := h2.2.2.2 s' o' hr' h
        exact ⟨k, k0, by rw [e6]; omega, by rw [e10, if_neg (by omega)]; exact k2⟩
      · exact ⟨w 6 6 0, hsz.1, by rw [e6]; omega, by rw [e10, if_pos rfl]⟩
    · rw [e10, if_neg (by omega)]
section C51
variable {g : mj_G} {nn d : Nat} {xs : mj_M} {Post : Option mj_V → mj_w → Prop} {w : mj_w}
theorem c_put' (hn : 21 ≤ nn) {i s o : Int} (hi0 : 0 ≤ i) (hi1 : i < 13) (hr : mj_rg s o) (h1 : ∀ s : Int, 0 ≤ s → s < 44 → 0 ≤ w 7 i s ∧ w 7 i s < 8192) (h2 : mj_AG i w) (h : ∀ w', mj_add i (fun s' o' => s' = s ∧ o' = o) w w' → Post none w') :
    mj_J g y_Ch_put (d + 1) 0 0 (0, [some (mj_R 6), some (.inl i), some (.inl s), some (.inl o)], [], mj_mem nn xs w) (mj_P nn xs Post) :=
  c_put hn hi0 hi1 hr.1 hr.2.1 hr.2.2.1 (by have := hr.2.2.2; omega) (h1 s hr.1 hr.2.1).1 (h1 s hr.1 hr.2.1).2 h2.size.1 (fun q => h2.room hr q) h2.size.2 (h _ (mj_put_add h1 h2 hr))
end C51
