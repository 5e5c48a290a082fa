/-! ===== the class: makeReady ===== -/
/-- nothing but the table and the list of ways has changed -/
def mf_f (w w' : mj_w) : Prop := ∀ (p : Nat) (a b : Int), p ≠ 16 → p ≠ 17 → p ≠ 18 → p ≠ 19 → p ≠ 20 → w' p a b = w p a b
theorem mf_g.f {i j : Int} {w w' : mj_w} (h : mf_g i j w w') : mf_f w w' := fun p a b c0 c1 c2 c3 c4 => h p a b c1 c2 c3 c4 (fun z => c0 z.1)
theorem mf_f.trans {w w1 w2 : mj_w} (h : mf_f w w1) (h' : mf_f w1 w2) : mf_f w w2 := fun p a b c0 c1 c2 c3 c4 => (h' p a b c0 c1 c2 c3 c4).trans (h p a b c0 c1 c2 c3 c4)
/-- the rows of a stretch that another stretch's row does not touch -/
theorem mf_TB.g {i j a b : Int} {w w' : mj_w} (hg : mf_g i j w w') (hH : mf_H w) (hH' : mf_H w') (hi : 0 ≤ i ∧ i < 13) (hj : 0 ≤ j ∧ j < 13) (hab : a ≤ b) (hne : ¬ (a ≤ i ∧ j ≤ b)) (h : mf_TB w (mf_V w) a b) : mf_TB w' (mf_V w') a b :=
  h.congr hH.1 hH'.1 hH.rv hH'.rv hab (hg.sg a b) (fun s x y _ _ x0 _ y1 => hg.V hi hj (fun z => hne ⟨by omega, by omega⟩))
section C76
variable {g : mj_G} {nn d : Nat} {xs : mj_M} {Post : Option mj_V → mj_w → Prop} {u : mj_w}
theorem c_makeReady_18 (hn : 21 ≤ nn) {j : Int} (hj0 : 0 ≤ j) (hj : j ≤ u 4 0 0)
    (h : ∀ w, mf_f u w → mf_H w → (∀ a b : Int, 0 ≤ a → a ≤ b → b < j + 1 → mf_TB w (mf_V w) a b) → mj_J g y_Fo_makeReady (d + 5) 0 0 (5, [some (mj_R 11), some (.inl (j + 1)), none], [], mj_mem nn xs w) (mj_P nn xs Post)) :
    ∀ (m : Nat) (i : Int) (w : mj_w), -1 ≤ i → i ≤ j → (i + 1).toNat = m → mf_f u w → mf_H w → (∀ a b : Int, 0 ≤ a → a ≤ b → (b < j ∨ (b = j ∧ i < a)) → mf_TB w (mf_V w) a b) →
    mj_J g y_Fo_makeReady (d + 5) 0 0 (18, [some (mj_R 11), some (.inl j), some (.inl i)], [], mj_mem nn xs w) (mj_P nn xs Post) := by
  intro m
  induction m with
  | zero =>
    intro i w i0 i1 hm hf hH hT
    have hlen := hH.2.2.1
    have e4 : w 4 0 0 = u 4 0 0 := hf 4 0 0 (by decide) (by decide) (by decide) (by decide) (by decide)
    exact v_Fo_makeReady_18 (d := d + 4) hn ⟨⟨by omega, by omega⟩, fun _ => h w hf hH (fun a b a0 ab b1 => hT a b a0 ab (by omega)), fun q => by omega⟩
  | succ m ih =>
    intro i w i0 i1 hm hf hH hT
    have hlen := hH.2.2.1
    have e4 : w 4 0 0 = u 4 0 0 := hf 4 0 0 (by decide) (by decide) (by decide) (by decide) (by decide)
    have hi : 0 ≤ i ∧ i < 13 := ⟨by omega, by omega⟩
    have hjj : 0 ≤ j ∧ j < 13 := ⟨by omega, by omega⟩
    refine v_Fo_makeReady_18 (d := d + 4) hn ⟨⟨by omega, by omega⟩, fun q => by omega, fun _ => ?_⟩
    refine c_findDeriving (d := d) hn hH hi.1 i1 (by omega) (fun w3 g3 H3 v3 L3 => ⟨rfl, ?_⟩)
    have e43 : w3 4 0 0 = w 4 0 0 := g3.le (by decide) 0 0
    refine c_countTrees (d := d) hn H3 hi.1 i1 (by omega) v3 L3 (fun w5 g5 H5 T5 => ⟨rfl, ?_⟩)
    have g35 := g3.trans g5
    refine ih (i + -1) w5 (by omega) (by omega) (by omega) (hf.trans g35.f) H5 (fun a b a0 ab hb => ?_)
    by_cases e : a = i ∧ b = j
    · rw [e.1, e.2]; exact T5
    · exact mf_TB.g g35 hH H5 hi hjj ab (fun z => by omega) (hT a b a0 ab (by omega))
theorem c_makeReady_5 (hn : 21 ≤ nn)
    (h : ∀ w, mf_f u w → mf_H w → (∀ a b : Int, 0 ≤ a → a ≤ b → b ≤ u 4 0 0 → mf_TB w (mf_V w) a b) → Post none (mj_wu w 11 3 0 (w 4 0 0 + 1))) :
    ∀ (m : Nat) (j : Int) (w : mj_w), 0 ≤ j → (u 4 0 0 + 1 - j).toNat = m → j ≤ u 4 0 0 + 1 → mf_f u w → mf_H w → (∀ a b : Int, 0 ≤ a → a ≤ b → b < j → mf_TB w (mf_V w) a b) →
    mj_J g y_Fo_makeReady (d + 5) 0 0 (5, [some (mj_R 11), some (.inl j), none], [], mj_mem nn xs w) (mj_P nn xs Post) := by
  intro m
  induction m with
  | zero =>
    intro j w j0 hm j1 hf hH hT
    have hlen := hH.2.2.1
    have e4 : w 4 0 0 = u 4 0 0 := hf 4 0 0 (by decide) (by decide) (by decide) (by decide) (by decide)
    refine v_Fo_makeReady_5 (d := d + 4) hn ⟨⟨by omega, by omega⟩, ⟨by omega, by omega⟩, fun _ => ?_, fun q => by omega⟩
    rintro w4 rfl
    exact h w hf hH (fun a b a0 ab b1 => hT a b a0 ab (by omega))
  | succ m ih =>
    intro j w j0 hm j1 hf hH hT
    have hlen := hH.2.2.1
    have e4 : w 4 0 0 = u 4 0 0 := hf 4 0 0 (by decide) (by decide) (by decide) (by decide) (by decide)
    refine v_Fo_makeReady_5 (d := d + 4) hn ⟨⟨by omega, by omega⟩, ⟨by omega, by omega⟩, fun q => by omega, fun _ => ?_⟩
    exact c_makeReady_18 (d := d) hn j0 (by omega) (fun w' f' H' T' => ih (j + 1) w' (by omega) (by omega) (by omega) f' H' T') _ j w (by omega) (Int.le_refl _) rfl hf hH (fun a b a0 ab hb => hT a b a0 ab (by omega))
/-- makeReady: every row stands -/
theorem c_makeReady (hn : 21 ≤ nn) (hH : mf_H u) (h3 : 0 ≤ u 11 3 0 ∧ u 11 3 0 ≤ u 4 0 0 + 1) (hT : ∀ a b : Int, 0 ≤ a → a ≤ b → b < u 11 3 0 → mf_TB u (mf_V u) a b)
    (h : ∀ w, (∀ (p : Nat) (a b : Int), p ≠ 16 → p ≠ 17 → p ≠ 18 → p ≠ 19 → p ≠ 20 → ¬ (p = 11 ∧ a = 3 ∧ b = 0) → w p a b = u p a b) → w 11 3 0 = u 4 0 0 + 1 → mf_H w → (∀ a b : Int, 0 ≤ a → a ≤ b → b ≤ u 4 0 0 → mf_TB w (mf_V w) a b) → Post none w) :
    mj_J g y_Fo_makeReady (d + 5) 0 0 (0, [some (mj_R 11), none, none], [], mj_mem nn xs u) (mj_P nn xs Post) := by
  refine v_Fo_makeReady_0 (d := d + 4) hn (c_makeReady_5 hn (fun w f H T => ?_) _ (u 11 3 0) u h3.1 rfl h3.2 (fun _ _ _ _ _ _ _ _ => rfl) hH hT)
  have e4 : w 4 0 0 = u 4 0 0 := f 4 0 0 (by decide) (by decide) (by decide) (by decide) (by decide)
  have en : ∀ {p : Nat}, p ≠ 11 → ∀ a b, mj_wu w 11 3 0 (w 4 0 0 + 1) p a b = w p a b := fun hp a b => mj_wu_n (fun z => hp z.1)
  have eV : mf_V (mj_wu w 11 3 0 (w 4 0 0 + 1)) = mf_V w := by
    funext s a b
    unfold mf_V
    rw [en (by decide)]
  have H' : mf_H (mj_wu w 11 3 0 (w 4 0 0 + 1)) := by
    unfold mf_H mj_GI
    simp only [en (show (1 : Nat) ≠ 11 by decide), en (show (2 : Nat) ≠ 11 by decide), en (show (3 : Nat) ≠ 11 by decide), en (show (4 : Nat) ≠ 11 by decide), en (show (5 : Nat) ≠ 11 by decide), en (show (16 : Nat) ≠ 11 by decide)]
    exact H
  refine h _ (fun p a b c0 c1 c2 c3 c4 c5 => (mj_wu_n c5).trans (f p a b c0 c1 c2 c3 c4)) ?_ H' (fun a b a0 ab b1 => ?_)
  · rw [← e4]; unfold mj_wu; simp
  · exact (T a b a0 ab b1).congr H.1 H'.1 H.rv H'.rv ab (mf_sg.of a b (fun p x y hp => en (by omega) x y)) (fun s x y _ _ _ _ _ => by rw [eV])
end C76
