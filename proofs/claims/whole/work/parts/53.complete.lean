/-! ===== complete ===== -/
/-- outside set i, its size, the agenda and what is complete here, nothing has changed -/
def mj_fr (i : Int) (w w' : mj_w) : Prop := ∀ (p : Nat) (a b : Int), ¬ (p = 7 ∧ a = i) → ¬ (p = 8 ∧ a = i) → p ≠ 10 → ¬ (p = 6 ∧ (a = 6 ∨ a = 7)) → w' p a b = w p a b
theorem mj_fr.refl (i : Int) (w : mj_w) : mj_fr i w w := fun _ _ _ _ _ _ _ => rfl
theorem mj_fr.trans {i : Int} {w w1 w2 : mj_w} (h : mj_fr i w w1) (h' : mj_fr i w1 w2) : mj_fr i w w2 := fun p a b c1 c2 c3 c4 => (h' p a b c1 c2 c3 c4).trans (h p a b c1 c2 c3 c4)
theorem mj_add.fr {i : Int} {A : Int → Int → Prop} {w w' : mj_w} (h : mj_add i A w w') : mj_fr i w w' := fun p a b c1 c2 c3 c4 => h.1 p a b c1 c2 c3 (fun q => c4 ⟨q.1, Or.inl q.2⟩)
theorem mj_fr.gr {i : Int} {w w' : mj_w} (h : mj_fr i w w') {p : Nat} (hp : p ≠ 7 ∧ p ≠ 8 ∧ p ≠ 10 ∧ p ≠ 6) (a b : Int) : w' p a b = w p a b :=
  h p a b (fun q => hp.1 q.1) (fun q => hp.2.1 q.1) hp.2.2.1 (fun q => hp.2.2.2 q.1)
theorem mj_fr.GI {i : Int} {w w' : mj_w} (h : mj_fr i w w') (hG : mj_GI w) : mj_GI w' := by
  have e1 := h.gr (p := 1) (by decide)
  have e2 := h.gr (p := 2) (by decide)
  have e3 := h.gr (p := 3) (by decide)
  unfold mj_GI
  simp only [e1, e2, e3]
  exact hG
theorem mj_fr.row {i f : Int} {w w' : mj_w} (h : mj_fr i w w') (e : f ≠ i) (s : Int) : w' 7 f s = w 7 f s := h 7 f s (fun q => e q.2) (fun q => by cases q.1) (by decide) (fun q => by cases q.1)
theorem mj_fr.lo {i : Int} {w w' : mj_w} (h : mj_fr i w w') (r : Int) : mj_lo w' r = mj_lo w r := by
  unfold mj_lo
  rw [h.gr (p := 1) (by decide), h.gr (p := 2) (by decide)]
theorem mj_fr.ls {i : Int} {w w' : mj_w} (h : mj_fr i w w') (s : Int) : mj_ls_ w' s = mj_ls_ w s := h.lo _
theorem mj_AG.of {i : Int} {w w' : mj_w} (h : mj_AG i w) (e7 : ∀ s, w' 7 i s = w 7 i s) (e8 : w' 8 i 0 = w 8 i 0) (e10 : ∀ k, w' 10 k 0 = w 10 k 0) (e6 : w' 6 6 0 = w 6 6 0) : mj_AG i w' := by
  unfold mj_AG mj_ct mj_it at *
  simp only [e7, e8, e10, e6]
  exact h
/-- the left side is complete in the set that is being made -/
def mj_mark (w : mj_w) (l : Int) : mj_w := mj_wu w 6 7 0 (mj_ior (w 6 7 0) (mj_shl 1 l))
theorem mj_mark_ne (w : mj_w) (l : Int) {p : Nat} {a b : Int} (h : ¬ (p = 6 ∧ a = 7 ∧ b = 0)) : mj_mark w l p a b = w p a b := mj_wu_n h
theorem mj_mark_fr (i : Int) (w : mj_w) (l : Int) : mj_fr i w (mj_mark w l) := fun p a b _ _ _ c4 => mj_mark_ne w l (fun q => c4 ⟨q.1, Or.inr q.2.1⟩)
theorem mj_mark_AG {i : Int} {w : mj_w} (l : Int) (h : mj_AG i w) : mj_AG i (mj_mark w l) :=
  h.of (fun s => mj_mark_ne w l (fun q => by cases q.1)) (mj_mark_ne w l (fun q => by cases q.1)) (fun k => mj_mark_ne w l (fun q => by cases q.1)) (mj_mark_ne w l (fun q => by have := q.2.1; omega))
def mj_ch (w : mj_w) (l : Int) : Prop := mj_t (w 6 7 0) l = true
theorem mj_lo_r {w : mj_w} (hG : mj_GI w) (r : Int) : mj_lo w r = -1 ∨ (0 ≤ mj_lo w r ∧ mj_lo w r < 5) := by
  unfold mj_lo
  split
  · rename_i q
    exact Or.inr (hG.2.1 r q.1 q.2)
  · exact Or.inl rfl
section C53
variable {g : mj_G} {nn d : Nat} {xs : mj_M} {Post : Option mj_V → mj_w → Prop}
theorem c_complete (hn : 21 ≤ nn) {i l o : Int} {w : mj_w} (hi1 : i < 13) (ho0 : 0 ≤ o) (ho1 : o ≤ i) (hl : l = -1 ∨ (0 ≤ l ∧ l < 5)) (hG : mj_GI w) (hS : ∀ f s : Int, 0 ≤ f → f ≤ i → 0 ≤ s → s < 44 → 0 ≤ w 7 f s ∧ w 7 f s < 8192) (hA : mj_AG i w) (hnm : o < i → l ≠ -1 → w 9 o l = -1 ∨ (0 ≤ w 9 o l ∧ w 9 o l < 572))
    (k0 : l = -1 → Post none w)
    (k1 : l ≠ -1 → o = i → ∀ w' A, mj_add i A (mj_mark w l) w' → (∀ s q : Int, mj_rg s q → q ≤ i → mj_it w i s q → w 3 s 0 = l → A (s + 1) q) → (∀ s q : Int, mj_rg s q → A s q → ∃ s0 : Int, s = s0 + 1 ∧ mj_rg s0 q ∧ w 3 s0 0 = l ∧ mj_it w' i s0 q) → Post none w')
    (k2 : l ≠ -1 → o < i → w 9 o l ≠ -1 → ∀ w', mj_add i (fun s q => s = w 9 o l / 13 ∧ q = w 9 o l % 13) w w' → Post none w')
    (k3 : l ≠ -1 → o < i → w 9 o l = -1 → ∀ w' A, mj_add i A w w' → (∀ s q : Int, mj_rg s q → q ≤ o → mj_it w o s q → w 3 s 0 = l → A (s + 1) q) → (∀ s q : Int, mj_rg s q → A s q → ∃ s0 : Int, s = s0 + 1 ∧ mj_rg s0 q ∧ w 3 s0 0 = l ∧ mj_it w o s0 q) → Post none w') :
    mj_J g y_Ch_complete (d + 3) 0 0 (0, [some (mj_R 6), some (.inl i), some (.inl l), some (.inl o)], [], mj_mem nn xs w) (mj_P nn xs Post) := by
  have hi0 : 0 ≤ i := by omega
  refine v_Ch_complete_0 (d := d + 2) hn ⟨⟨by omega, by omega⟩, k0, fun q => ⟨⟨by omega, by omega⟩, ⟨by omega, by omega⟩, fun q1 => ?_, fun q1 => ?_⟩⟩
  · subst q1
    rintro w6 rfl
    refine ⟨fun q2 => by omega, fun _ => ?_⟩
    have e7 : ∀ f s, mj_mark w l 7 f s = w 7 f s := fun f s => mj_mark_ne w l (fun q => by cases q.1)
    have hr : ∀ s : Int, 0 ≤ s → s < 44 → 0 ≤ mj_mark w l 7 o s ∧ mj_mark w l 7 o s < 8192 := fun s s0 s1 => by rw [e7]; exact hS o s ho0 (Int.le_refl _) s0 s1
    refine c_advance hn ho0 hi1 ho0 hi1 (by omega) (by omega) ((mj_mark_fr o w l).GI hG) hr hr (mj_mark_AG l hA) (fun w' A a1 a2 a3 => ⟨rfl, k1 q rfl w' A a1 (fun s p hr hp hit hsl => a2 s p hr hp ?_ ?_) (fun s p hr hA' => ?_)⟩)
    · show mj_t (mj_mark w l 7 o s) p = true
      rw [e7]
      exact hit
    · exact (mj_mark_ne w l (fun q => by cases q.1)).trans hsl
    · obtain ⟨s0, e1, e2, e3, e4⟩ := a3 s p hr hA'
      exact ⟨s0, e1, e2, (mj_mark_ne w l (fun q => by cases q.1)).symm.trans e3, e4⟩
  · have hlt : o < i := by omega
    refine ⟨fun _ => ⟨ho0, by omega, by omega, by omega, ?_, fun q2 => ?_, fun q2 => ⟨?_, ?_⟩⟩, fun q2 => absurd hlt q2⟩
    · rcases hnm hlt q with h | h
      · rw [h]; exact ⟨by decide, by decide⟩
      · exact ⟨by omega, by omega⟩
    · refine c_advance hn ho0 (by omega) hi0 hi1 (by omega) (by omega) hG (fun s s0 s1 => hS o s ho0 ho1 s0 s1) (fun s s0 s1 => hS i s hi0 (Int.le_refl _) s0 s1) hA (fun w' A a1 a2 a3 => ⟨rfl, k3 q hlt q2 w' A a1 a2 (fun s p hr hA' => ?_)⟩)
      obtain ⟨s0, e1, e2, e3, e4⟩ := a3 s p hr hA'
      refine ⟨s0, e1, e2, e3, ?_⟩
      unfold mj_it at *
      rw [a1.fr.row (by omega)] at e4
      exact e4
    · rcases hnm hlt q with h | h
      · exact absurd h q2
      · exact h.1
    · rcases hnm hlt q with h | h
      · exact absurd h q2
      · exact c_put' (d := d + 1) hn hi0 hi1 ⟨by omega, by omega, by omega, by omega⟩ (fun s s0 s1 => hS i s hi0 (Int.le_refl _) s0 s1) hA (fun w' a1 => ⟨rfl, k2 q hlt q2 w' a1⟩)
end C53
