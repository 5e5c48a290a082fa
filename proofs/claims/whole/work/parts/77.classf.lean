/-! ===== the class: ways and trees ===== -/
theorem mf_H.same {w w' : mj_w} (hH : mf_H w) (h : ∀ (p : Nat) (a b : Int), (p ≤ 5 ∨ p = 16) → w' p a b = w p a b) : mf_H w' := by
  have e1 := fun a b => h 1 a b (by omega)
  have e2 := fun a b => h 2 a b (by omega)
  have e3 := fun a b => h 3 a b (by omega)
  have e4 := fun a b => h 4 a b (by omega)
  have e5 := fun a b => h 5 a b (by omega)
  have e16 := fun a b => h 16 a b (by omega)
  unfold mf_H mj_GI
  simp only [e1, e2, e3, e4, e5, e16]
  exact hH
theorem mf_V_same {w w' : mj_w} (h : ∀ a b : Int, w' 16 a b = w 16 a b) : mf_V w' = mf_V w := by
  funext s a b
  unfold mf_V
  rw [h]
theorem mf_val_same {w w' : mj_w} (hG : mj_GI w) {i j : Int} (h : ∀ (p : Nat) (a b : Int), (p ≤ 5 ∨ p = 16) → w' p a b = w p a b) {q : Int × Int × Int} (hc : mf_cut w i j q) : mf_val w (mf_V w) i j q = mf_val w' (mf_V w') i j q :=
  mf_val_agree (V := mf_V w) (V' := mf_V w') hG (mf_sg.of i j (fun p a b hp => h p a b (by omega))) hc (fun s a b _ _ _ _ _ => by rw [mf_V_same (w := w) (w' := w') (fun a b => h 16 a b (by omega))])
theorem mf_ways_same {w w' : mj_w} (hG : mj_GI w) {s i j : Int} (hij : i ≤ j) (h : ∀ (p : Nat) (a b : Int), (p ≤ 5 ∨ p = 16) → w' p a b = w p a b) : mf_ways w (mf_V w) s i j = mf_ways w' (mf_V w') s i j :=
  mf_ways_congr hG.1.1 (by omega) (mf_sg.of i j (fun p a b hp => h p a b (by omega))) (fun q hc _ => by rw [mf_val_same hG h hc])
/-- the forest: what is below readyEnds stands -/
def mf_FI (w : mj_w) : Prop := mf_H w ∧ (0 ≤ w 11 3 0 ∧ w 11 3 0 ≤ w 4 0 0 + 1) ∧ ∀ a b : Int, 0 ≤ a → a ≤ b → b < w 11 3 0 → mf_TB w (mf_V w) a b
theorem mf_FI.same {w w' : mj_w} (hF : mf_FI w) (h : ∀ (p : Nat) (a b : Int), (p ≤ 5 ∨ p = 16) → w' p a b = w p a b) (h3 : w' 11 3 0 = w 11 3 0) : mf_FI w' := by
  have H' := hF.1.same h
  have e4 := h 4 0 0 (by omega)
  refine ⟨H', by rw [h3, e4]; exact hF.2.1, fun a b a0 ab b1 => ?_⟩
  rw [h3] at b1
  exact (hF.2.2 a b a0 ab b1).congr hF.1.1 H'.1 hF.1.rv H'.rv ab (mf_sg.of a b (fun p x y hp => h p x y (by omega))) (fun s x y _ _ _ _ _ => by rw [mf_V_same (fun a b => h 16 a b (by omega))])
/-- what the forest's methods may change -/
def mf_k (w w' : mj_w) : Prop := ∀ (p : Nat) (a b : Int), (p ≤ 10 ∨ p = 15 ∨ 21 ≤ p) → w' p a b = w p a b
theorem mf_k.trans {w w1 w2 : mj_w} (h : mf_k w w1) (h' : mf_k w1 w2) : mf_k w w2 := fun p a b c => (h' p a b c).trans (h p a b c)
section C77
variable {g : mj_G} {nn d : Nat} {xs : mj_M} {u w : mj_w}
section
variable {Post : Option mj_V → mj_w → Prop}
theorem c_ready (hn : 21 ≤ nn) (hF : mf_FI u)
    (h : ∀ w, mf_k u w → mf_FI w → w 11 3 0 = w 4 0 0 + 1 → Post none w) :
    mj_J g y_Fo_makeReady (d + 5) 0 0 (0, [some (mj_R 11), none, none], [], mj_mem nn xs u) (mj_P nn xs Post) := by
  refine c_makeReady hn hF.1 hF.2.1 hF.2.2 (fun w f e H T => ?_)
  have e4 : w 4 0 0 = u 4 0 0 := f 4 0 0 (by decide) (by decide) (by decide) (by decide) (by decide) (fun z => by omega)
  have hlen := H.2.2.1
  refine h w (fun p a b hp => f p a b (by omega) (by omega) (by omega) (by omega) (by omega) (fun z => by omega)) ⟨H, by omega, fun a b a0 ab b1 => T a b a0 ab (by omega)⟩ (by omega)
theorem c_waysOver (hn : 21 ≤ nn) (hH : mf_H w) {s i j : Int} (hs : 0 ≤ s ∧ s < 5) (hi0 : 0 ≤ i) (hij : i ≤ j) (hj : j ≤ w 4 0 0)
    (h : ∀ w', (∀ (p : Nat) (a b : Int), p ≠ 17 → p ≠ 18 → p ≠ 19 → p ≠ 20 → w' p a b = w p a b) → Post (some (.inl ((mf_ways w (mf_V w) s i j).length : Int))) w') :
    mj_J g y_Fo_waysOver (d + 4) 0 0 (0, [some (mj_R 11), some (.inl s), some (.inl i), some (.inl j)], [], mj_mem nn xs w) (mj_P nn xs Post) := by
  refine v_Fo_waysOver_0 (d := d + 3) hn (c_gather hn hH hs hi0 hij hj (fun w' f _ _ a => ⟨rfl, ?_⟩))
  rw [a.1]
  exact h w' f
theorem mf_ov_V {V : Int → Int → Int → Int} {s a b : Int} (hs : 0 ≤ s ∧ s < 5) : mf_ov w V s a b = V s a b := by
  unfold mf_ov
  rw [if_neg (by omega), if_neg (by omega)]
theorem c_treesOver (hn : 21 ≤ nn) (hH : mf_H w) {s i j : Int} (hs : 0 ≤ s ∧ s < 5) (hi0 : 0 ≤ i) (hij : i ≤ j) (hj : j ≤ w 4 0 0)
    (h : Post (some (.inr (.inl (mf_V w s i j)))) w) :
    mj_J g y_Fo_treesOver (d + 2) 0 0 (0, [some (mj_R 11), some (.inl s), some (.inl i), some (.inl j)], [], mj_mem nn xs w) (mj_P nn xs Post) := by
  refine v_Fo_treesOver_0 (d := d + 1) hn (c_over (d := d) hn hH ⟨by omega, by omega, by omega⟩ hi0 hij hj ⟨_, rfl, ?_⟩)
  rw [mf_ov_V hs]
  exact h
theorem c_isStretch (hn : 21 ≤ nn) {i j : Int} (hi : mj_i i) (hj : mj_i j) (hl : 0 ≤ w 4 0 0 ∧ w 4 0 0 ≤ 12) (h1 : 0 ≤ i → i ≤ j → j ≤ w 4 0 0 → Post (some (.inl 1)) w) (h0 : ¬ (0 ≤ i ∧ i ≤ j ∧ j ≤ w 4 0 0) → Post (some (.inl 0)) w) :
    mj_J g y_CF_isStretch d 0 0 (0, [some (mj_R 0), some (.inl i), some (.inl j)], [], mj_mem nn xs w) (mj_P nn xs Post) :=
  v_CF_isStretch_0 hn ⟨hi, fun q => h0 (by omega), fun q => ⟨hj, fun q1 => h0 (by omega), fun q1 => ⟨⟨by omega, by omega⟩, fun q2 => h0 (by omega), fun q2 => h1 (by omega) (by omega) (by omega)⟩⟩⟩
end
variable {Post : Option mj_V ⊕ Nat → mj_w → Prop}
theorem c_CF_ways (hn : 21 ≤ nn) {s i j : Int} (hs : mj_i s) (hi : mj_i i) (hj : mj_i j) (hF : mf_FI w) (h10 : ¬ ((0 ≤ s ∧ s < 5) ∧ 0 ≤ i ∧ i ≤ j ∧ j ≤ w 4 0 0) → Post (.inr 10) w)
    (h : (0 ≤ s ∧ s < 5) → 0 ≤ i → i ≤ j → j ≤ w 4 0 0 → ∀ w', mf_k w w' → mf_FI w' → w' 11 3 0 = w' 4 0 0 + 1 → Post (.inl (some (.inl ((mf_ways w' (mf_V w') s i j).length : Int)))) w') :
    mj_J g y_CF_ways (d + 6) 1 6 (0, [some (mj_R 0), some (.inl s), some (.inl i), some (.inl j)], [], mj_mem nn xs w) (mj_PT nn xs Post) := by
  refine v_CF_ways_0 hn (c_isNonterminal hn hs ⟨_, rfl, ?_⟩)
  unfold mj_isN
  by_cases q : 0 ≤ s ∧ s < 5
  · rw [if_pos q]
    refine ⟨⟨by decide, by decide⟩, fun z => absurd z (by decide), fun _ => c_isStretch hn hi hj hF.1.2.2.1 (fun i0 ij j1 => ⟨_, rfl, ⟨by decide, by decide⟩, fun z => absurd z (by decide), fun _ => ?_⟩) (fun z => ⟨_, rfl, ⟨by decide, by decide⟩, fun _ => h10 (fun y => z y.2), fun z => absurd rfl z⟩)⟩
    refine c_ready hn hF (fun w1 k1 F1 e1 => ⟨rfl, ?_⟩)
    have e4 : w1 4 0 0 = w 4 0 0 := k1 4 0 0 (by omega)
    refine c_waysOver (d := d + 1) hn F1.1 q i0 ij (by omega) (fun w2 f2 => ⟨_, rfl, ?_⟩)
    have hle : ∀ (p : Nat) (a b : Int), (p ≤ 5 ∨ p = 16) → w2 p a b = w1 p a b := fun p a b hp => f2 p a b (by omega) (by omega) (by omega) (by omega)
    have F2 := F1.same hle (f2 11 3 0 (by decide) (by decide) (by decide) (by decide))
    have := h q i0 ij j1 w2 (k1.trans (fun p a b hp => f2 p a b (by omega) (by omega) (by omega) (by omega))) F2 (by rw [f2 11 3 0 (by decide) (by decide) (by decide) (by decide), f2 4 0 0 (by decide) (by decide) (by decide) (by decide)]; exact e1)
    rw [mf_ways_same F1.1.1 ij hle]
    exact this
  · rw [if_neg q]
    exact ⟨⟨by decide, by decide⟩, fun _ => h10 (fun z => q z.1), fun z => absurd rfl z⟩
theorem c_CF_trees (hn : 21 ≤ nn) {s i j : Int} (hs : mj_i s) (hi : mj_i i) (hj : mj_i j) (hF : mf_FI w) (h10 : ¬ ((0 ≤ s ∧ s < 5) ∧ 0 ≤ i ∧ i ≤ j ∧ j ≤ w 4 0 0) → Post (.inr 10) w)
    (h : (0 ≤ s ∧ s < 5) → 0 ≤ i → i ≤ j → j ≤ w 4 0 0 → ∀ w', mf_k w w' → mf_FI w' → w' 11 3 0 = w' 4 0 0 + 1 → Post (.inl (some (.inr (.inl (mf_V w' s i j))))) w') :
    mj_J g y_CF_trees (d + 6) 1 6 (0, [some (mj_R 0), some (.inl s), some (.inl i), some (.inl j)], [], mj_mem nn xs w) (mj_PT nn xs Post) := by
  refine v_CF_trees_0 hn (c_isNonterminal hn hs ⟨_, rfl, ?_⟩)
  unfold mj_isN
  by_cases q : 0 ≤ s ∧ s < 5
  · rw [if_pos q]
    refine ⟨⟨by decide, by decide⟩, fun z => absurd z (by decide), fun _ => c_isStretch hn hi hj hF.1.2.2.1 (fun i0 ij j1 => ⟨_, rfl, ⟨by decide, by decide⟩, fun z => absurd z (by decide), fun _ => ?_⟩) (fun z => ⟨_, rfl, ⟨by decide, by decide⟩, fun _ => h10 (fun y => z y.2), fun z => absurd rfl z⟩)⟩
    refine c_ready hn hF (fun w1 k1 F1 e1 => ⟨rfl, ?_⟩)
    have e4 : w1 4 0 0 = w 4 0 0 := k1 4 0 0 (by omega)
    exact c_treesOver (d := d + 3) hn F1.1 q i0 ij (by omega) ⟨_, rfl, h q i0 ij j1 w1 k1 F1 e1⟩
  · rw [if_neg q]
    exact ⟨⟨by decide, by decide⟩, fun _ => h10 (fun z => q z.1), fun z => absurd rfl z⟩
end C77
