/-! ===== nameLeaps, openFirst, openNext ===== -/
/-- x is what set i names for l -/
def mj_nmOK (w : mj_w) (i l x : Int) : Prop := (w 6 1 0 = 0 → x = -1) ∧ (w 6 1 0 ≠ 0 → (∀ s o, mj_lone w i l s o → w 3 (s + 1) 0 = -1 → x = mj_nm w i s o) ∧ ((∀ s o, mj_lone w i l s o → w 3 (s + 1) 0 ≠ -1) → x = -1))
/-- all that a set's items and names hang on -/
def mj_low (f : Int) (w w' : mj_w) : Prop := w' 1 0 0 = w 1 0 0 ∧ (∀ a, w' 2 a 0 = w 2 a 0) ∧ (∀ a, w' 3 a 0 = w 3 a 0) ∧ w' 6 1 0 = w 6 1 0 ∧ (∀ a b : Int, a ≤ f → w' 7 a b = w 7 a b) ∧ ∀ a b : Int, a < f → w' 9 a b = w 9 a b
theorem mj_low.symm {f : Int} {w w' : mj_w} (h : mj_low f w w') : mj_low f w' w :=
  ⟨h.1.symm, fun a => (h.2.1 a).symm, fun a => (h.2.2.1 a).symm, h.2.2.2.1.symm, fun a b q => (h.2.2.2.2.1 a b q).symm, fun a b q => (h.2.2.2.2.2 a b q).symm⟩
theorem mj_low.le {f k : Int} {w w' : mj_w} (h : mj_low f w w') (hk : k ≤ f) : mj_low k w w' :=
  ⟨h.1, h.2.1, h.2.2.1, h.2.2.2.1, fun a b q => h.2.2.2.2.1 a b (by omega), fun a b q => h.2.2.2.2.2 a b (by omega)⟩
theorem mj_low.GI {f : Int} {w w' : mj_w} (h : mj_low f w w') (hG : mj_GI w) : mj_GI w' := by
  unfold mj_GI
  simp only [h.1, h.2.1, h.2.2.1]
  exact hG
theorem mj_low.lo {f : Int} {w w' : mj_w} (h : mj_low f w w') (r : Int) : mj_lo w' r = mj_lo w r := by
  unfold mj_lo
  rw [h.1, h.2.1]
theorem mj_low.ls {f : Int} {w w' : mj_w} (h : mj_low f w w') (s : Int) : mj_ls_ w' s = mj_ls_ w s := h.lo _
theorem mj_low.it {f : Int} {w w' : mj_w} (h : mj_low f w w') {i : Int} (hi : i ≤ f) (s o : Int) : mj_it w' i s o = mj_it w i s o := by
  unfold mj_it
  rw [h.2.2.2.2.1 i s hi]
theorem mj_low.lone {f : Int} {w w' : mj_w} (h : mj_low f w w') {i : Int} (hi : i ≤ f) (b s o : Int) : mj_lone w' i b s o = mj_lone w i b s o := by
  unfold mj_lone
  simp only [h.it hi, h.2.2.1]
theorem mj_low.nm {f : Int} {w w' : mj_w} (h : mj_low f w w') {i : Int} (hi : i ≤ f) (s o : Int) : mj_nm w' i s o = mj_nm w i s o := by
  unfold mj_nm
  by_cases q : o < i
  · rw [h.ls, h.2.2.2.2.2 o _ (by omega)]
  · rw [if_neg (fun z => q z.1), if_neg (fun z => q z.1)]
theorem mj_low.nmOK {f : Int} {w w' : mj_w} (h : mj_low f w w') {i : Int} (hi : i ≤ f) (l x : Int) : mj_nmOK w' i l x = mj_nmOK w i l x := by
  unfold mj_nmOK
  simp only [h.lone hi, h.nm hi, h.2.2.1, h.2.2.2.1]
theorem mj_low.closed {f : Int} {w w' : mj_w} (h : mj_low f w w') {T : Int → Int → Prop} (hc : mj_closed f w T) : mj_closed f w' T := by
  refine ⟨fun s o hr ho ht r r0 r1 r2 => hc.1 s o hr ho ht r r0 (by rw [← h.1]; exact r1) (by rw [← h.2.1, ← h.2.2.1]; exact r2), fun s o hr ho ht q1 q2 => ?_⟩
  rw [h.ls] at q2 ⊢
  rw [h.2.2.1] at q1
  obtain ⟨c1, c2, c3⟩ := hc.2 s o hr ho ht q1 q2
  refine ⟨fun x => ?_, fun x => ?_, fun x s' o' => ?_⟩
  · rw [h.2.2.2.2.2 o _ x]; exact c1 x
  · rw [h.2.2.2.2.2 o _ x]
    intro y s' o'
    rw [h.it ho, h.2.2.1]
    exact c2 x y s' o'
  · rw [h.2.2.1]; exact c3 x s' o'
def mj_seed (f : Int) (w : mj_w) (T : Int → Int → Prop) : Prop := (f = 0 → T 0 0) ∧ (0 < f → ∀ s o : Int, mj_rg s o → o ≤ f - 1 → mj_it w (f - 1) s o → w 3 s 0 = w 5 (f - 1) 0 → T (s + 1) o)
/-- set f is the least closed one over its seeds -/
def mj_set (f : Int) (w : mj_w) : Prop := mj_closed f w (mj_it w f) ∧ mj_seed f w (mj_it w f) ∧ ∀ T : Int → Int → Prop, mj_closed f w T → mj_seed f w T → ∀ s o : Int, mj_rg s o → mj_it w f s o → T s o
theorem mj_low.seed {f : Int} {w w' : mj_w} (h : mj_low f w w') (h5 : w' 5 (f - 1) 0 = w 5 (f - 1) 0) {T : Int → Int → Prop} (hc : mj_seed f w T) : mj_seed f w' T :=
  ⟨hc.1, fun q s o hr ho hit hb => hc.2 q s o hr ho (by rw [← h.it (by omega)]; exact hit) (by rw [← h.2.2.1, ← h5]; exact hb)⟩
theorem mj_low.set {f : Int} {w w' : mj_w} (h : mj_low f w w') (h5 : w' 5 (f - 1) 0 = w 5 (f - 1) 0) (hs : mj_set f w) : mj_set f w' := by
  have e : mj_it w' f = mj_it w f := by funext s o; exact h.it (Int.le_refl _) s o
  obtain ⟨s1, s2, s3⟩ := hs
  refine ⟨by rw [e]; exact h.closed s1, by rw [e]; exact h.seed h5 s2, fun T hT hS s o hr hit => s3 T (h.symm.closed hT) (h.symm.seed h5.symm hS) s o hr ?_⟩
  rw [e] at hit
  exact hit
/-- the class's chart with n terminals fed -/
def mj_CI (n : Int) (w : mj_w) : Prop := mj_GI w ∧ (0 ≤ n ∧ n ≤ 12) ∧ (w 6 1 0 = 0 ∨ w 6 1 0 = 1) ∧ (∀ f s : Int, 0 ≤ f → f ≤ n → 0 ≤ s → s < 44 → 0 ≤ w 7 f s ∧ w 7 f s < 8192) ∧ (∀ f s o : Int, 0 ≤ f → f ≤ n → mj_rg s o → mj_it w f s o → o ≤ f) ∧ (∀ f : Int, 0 ≤ f → f ≤ n → w 8 f 0 = (mj_ct w f : Int)) ∧ (∀ f l : Int, 0 ≤ f → f < n → 0 ≤ l → l < 5 → mj_nmOK w f l (w 9 f l)) ∧ ∀ f : Int, 0 ≤ f → f ≤ n → mj_set f w
theorem mj_nmOK.rg {w : mj_w} {f l x : Int} (h : mj_nmOK w f l x) (h6 : w 6 1 0 = 0 ∨ w 6 1 0 = 1) (hl : 0 ≤ l) (hG : mj_GI w) (hO : ∀ s o : Int, mj_rg s o → mj_it w f s o → o ≤ f) (hb : ∀ o k : Int, 0 ≤ o → o < f → 0 ≤ k → k < 5 → w 9 o k = -1 ∨ (0 ≤ w 9 o k ∧ w 9 o k < 572 ∧ w 9 o k % 13 ≤ o)) : x = -1 ∨ (0 ≤ x ∧ x < 572 ∧ x % 13 ≤ f) := by
  rcases h6 with h6 | h6
  · exact Or.inl (h.1 h6)
  · obtain ⟨h1, h2⟩ := h.2 (by omega)
    by_cases q : ∃ s o, mj_lone w f l s o ∧ w 3 (s + 1) 0 = -1
    · obtain ⟨s, o, q1, q2⟩ := q
      rw [h1 s o q1 q2]
      have ho := hO s o q1.1 q1.2.1
      have hnx := hG.nx q1.1 (by have := q1.2.2.1; omega)
      obtain ⟨r1, r2, r3, r4⟩ := q1.1
      unfold mj_nm
      split
      · rename_i z
        have hls := (mj_lo_r hG (s / 4 - 1)).resolve_left z.2.1
        have := hb o (mj_ls_ w s) r3 z.1 hls.1 hls.2
        omega
      · have := hnx.2.1
        omega
    · exact Or.inl (h2 fun s o z1 z2 => q ⟨s, o, z1, z2⟩)
theorem mj_CI.names {n : Int} {w : mj_w} (h : mj_CI n w) : ∀ (m : Nat) (f l : Int), f.toNat = m → 0 ≤ f → f < n → 0 ≤ l → l < 5 → w 9 f l = -1 ∨ (0 ≤ w 9 f l ∧ w 9 f l < 572 ∧ w 9 f l % 13 ≤ f) := by
  intro m
  induction m using Nat.strongRecOn with
  | ind m ih =>
    intro f l hm f0 f1 l0 l1
    obtain ⟨c1, c2, c3, c4, c5, c6, c7, c8⟩ := h
    exact (c7 f l f0 f1 l0 l1).rg c3 l0 c1 (fun s o => c5 f s o f0 (by omega)) (fun o k o0 o1 k0 k1 => ih o.toNat (by omega) o k rfl o0 (by omega) k0 k1)
section C57
variable {g : mj_G} {nn d : Nat} {xs : mj_M} {Post : Option mj_V → mj_w → Prop}
theorem c_nameLeaps_loop (hn : 21 ≤ nn) {i : Int} {w : mj_w} (hi0 : 0 ≤ i) (hi1 : i < 13) (h6 : w 6 1 0 = 0 ∨ w 6 1 0 = 1) (hG : mj_GI w) (hrow : ∀ s : Int, 0 ≤ s → s < 44 → 0 ≤ w 7 i s ∧ w 7 i s < 8192) (h9 : ∀ o l : Int, 0 ≤ o → o < i → 0 ≤ l → l < 5 → mj_i (w 9 o l))
    (h : ∀ w' : mj_w, (∀ (p : Nat) (a b : Int), ¬ (p = 9 ∧ a = i) → w' p a b = w p a b) → (∀ l : Int, 0 ≤ l → l < 5 → mj_nmOK w i l (w' 9 i l)) → Post none w') :
    ∀ (n : Nat) (k : Int) (w1 : mj_w), 0 ≤ k → k ≤ 5 → (5 - k).toNat = n → (∀ (p : Nat) (a b : Int), ¬ (p = 9 ∧ a = i) → w1 p a b = w p a b) → (∀ l : Int, 0 ≤ l → l < k → mj_nmOK w i l (w1 9 i l)) →
    mj_J g y_Ch_nameLeaps (d + 3) 0 0 (2, [some (mj_R 6), some (.inl i), some (.inl k)], [], mj_mem nn xs w1) (mj_P nn xs Post) := by
  intro n
  induction n with
  | zero =>
    intro k w1 k0 k1 k2 hf hd
    have ek : k = 5 := by omega
    subst ek
    exact v_Ch_nameLeaps_2 (d := d + 2) hn ⟨⟨by decide, by decide⟩, fun q => absurd q (by decide), fun _ => h w1 hf hd⟩
  | succ n ih =>
    intro k w1 k0 k1 k2 hf hd
    have hlow : mj_low i w w1 := ⟨hf 1 0 0 (fun q => by cases q.1), fun a => hf 2 a 0 (fun q => by cases q.1), fun a => hf 3 a 0 (fun q => by cases q.1), hf 6 1 0 (fun q => by cases q.1), fun a b _ => hf 7 a b (fun q => by cases q.1), fun a b q => hf 9 a b (fun z => by have := z.2; omega)⟩
    have step : ∀ x, mj_nmOK w i k x → mj_J g y_Ch_nameLeaps (d + 3) 0 0 (2, [some (mj_R 6), some (.inl i), some (.inl (k + 1))], [], mj_mem nn xs (mj_wu w1 9 i k x)) (mj_P nn xs Post) := by
      intro x hx
      refine ih (k + 1) _ (by omega) (by omega) (by omega) (fun p a b q => ?_) (fun l l0 l1 => ?_)
      · rw [mj_wu_n (fun z => q ⟨z.1, z.2.1⟩)]
        exact hf p a b q
      · by_cases e : l = k
        · subst e
          have : mj_wu w1 9 i l x 9 i l = x := by unfold mj_wu; simp
          rw [this]
          exact hx
        · rw [mj_wu_n (fun z => e z.2.2)]
          exact hd l l0 (by omega)
    refine v_Ch_nameLeaps_2 (d := d + 2) hn ⟨⟨by omega, by omega⟩, fun q => ⟨hi0, hi1, ?_, fun q1 => ⟨k0, q, ?_⟩, fun q1 => ?_⟩, fun q => by omega⟩
    · rw [hlow.2.2.2.1]
      exact ⟨by omega, by omega⟩
    · rw [hlow.2.2.2.1] at q1
      rintro w2 rfl
      exact step (-1) ⟨fun _ => rfl, fun z => absurd q1 z⟩
    · rw [hlow.2.2.2.1] at q1
      refine c_leapItem (d := d) hn hi0 hi1 k0 (by omega) (hlow.GI hG) (fun s s0 s1 => by rw [hlow.2.2.2.2.1 i s (Int.le_refl _)]; exact hrow s s0 s1) (fun o l o0 o1 l0 l1 => by rw [hlow.2.2.2.2.2 o l o1]; exact h9 o l o0 o1 l0 l1) (fun s o hl hb => ⟨_, rfl, k0, q, ?_⟩) (fun hno => ⟨_, rfl, k0, q, ?_⟩)
      · rw [hlow.lone (Int.le_refl _)] at hl
        rw [hlow.2.2.1] at hb
        rw [hlow.nm (Int.le_refl _)]
        rintro w2 rfl
        refine step _ ⟨fun z => absurd z q1, fun _ => ⟨fun s' o' hl' _ => ?_, fun z => absurd hb (z s o hl)⟩⟩
        obtain ⟨e1, e2⟩ := hl.2.2.2 s' o' hl'.1 hl'.2.1 hl'.2.2.1
        rw [e1, e2]
      · rintro w2 rfl
        refine step _ ⟨fun _ => rfl, fun _ => ⟨fun s o hl hb => ?_, fun _ => rfl⟩⟩
        exact absurd ((hlow.2.2.1 _).trans hb) (hno s o (by rw [hlow.lone (Int.le_refl _)]; exact hl))
theorem c_nameLeaps (hn : 21 ≤ nn) {i : Int} {w : mj_w} (hi0 : 0 ≤ i) (hi1 : i < 13) (h6 : w 6 1 0 = 0 ∨ w 6 1 0 = 1) (hG : mj_GI w) (hrow : ∀ s : Int, 0 ≤ s → s < 44 → 0 ≤ w 7 i s ∧ w 7 i s < 8192) (h9 : ∀ o l : Int, 0 ≤ o → o < i → 0 ≤ l → l < 5 → mj_i (w 9 o l))
    (h : ∀ w' : mj_w, (∀ (p : Nat) (a b : Int), ¬ (p = 9 ∧ a = i) → w' p a b = w p a b) → (∀ l : Int, 0 ≤ l → l < 5 → mj_nmOK w i l (w' 9 i l)) → Post none w') :
    mj_J g y_Ch_nameLeaps (d + 3) 0 0 (0, [some (mj_R 6), some (.inl i), none], [], mj_mem nn xs w) (mj_P nn xs Post) :=
  v_Ch_nameLeaps_0 (d := d + 2) hn (c_nameLeaps_loop hn hi0 hi1 h6 hG hrow h9 h _ 0 w (Int.le_refl _) (by decide) rfl (fun _ _ _ _ => rfl) (fun l l0 l1 => by omega))
end C57
