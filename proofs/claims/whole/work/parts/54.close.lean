/-! ===== close: the set becomes the least closed one that holds what was put ===== -/
/-- T is closed as set i must be; what lies outside set i is taken from w -/
def mj_closed (i : Int) (w : mj_w) (T : Int → Int → Prop) : Prop :=
  (∀ s o : Int, mj_rg s o → o ≤ i → T s o → ∀ r : Int, 0 ≤ r → r < w 1 0 0 → w 2 r 0 = w 3 s 0 → T ((r + 1) * 4) i) ∧
  ∀ s o : Int, mj_rg s o → o ≤ i → T s o → w 3 s 0 = -1 → mj_ls_ w s ≠ -1 →
    (o < i → w 9 o (mj_ls_ w s) ≠ -1 → T (w 9 o (mj_ls_ w s) / 13) (w 9 o (mj_ls_ w s) % 13)) ∧
    (o < i → w 9 o (mj_ls_ w s) = -1 → ∀ s' o' : Int, mj_rg s' o' → o' ≤ o → mj_it w o s' o' → w 3 s' 0 = mj_ls_ w s → T (s' + 1) o') ∧
    (o = i → ∀ s' o' : Int, mj_rg s' o' → o' ≤ i → T s' o' → w 3 s' 0 = mj_ls_ w s → T (s' + 1) o')
/-- names of earlier sets are items -/
def mj_NI (i : Int) (w : mj_w) : Prop := ∀ o l : Int, 0 ≤ o → o < i → 0 ≤ l → l < 5 → w 9 o l = -1 ∨ (0 ≤ w 9 o l ∧ w 9 o l < 572 ∧ w 9 o l % 13 ≤ i)
/-- where close stands: k items are done -/
def mj_clo (i : Int) (w0 : mj_w) (k : Int) (w : mj_w) : Prop :=
  (mj_fr i w0 w ∧ mj_AG i w ∧ (∀ s : Int, 0 ≤ s → s < 44 → 0 ≤ w 7 i s ∧ w 7 i s < 8192) ∧ (0 ≤ w 6 7 0 ∧ w 6 7 0 < 8192) ∧ (∀ s o : Int, mj_rg s o → mj_it w i s o → o ≤ i) ∧ ∀ s o : Int, mj_rg s o → mj_it w0 i s o → mj_it w i s o) ∧
  (∀ T : Int → Int → Prop, mj_closed i w0 T → (∀ s o : Int, mj_rg s o → mj_it w0 i s o → T s o) → ∀ s o : Int, mj_rg s o → mj_it w i s o → T s o) ∧
  (∀ j : Int, 0 ≤ j → j < k → ∀ s o : Int, mj_rg s o → w 10 j 0 = s * 13 + o →
    (∀ r : Int, 0 ≤ r → r < w0 1 0 0 → w0 2 r 0 = w0 3 s 0 → mj_it w i ((r + 1) * 4) i) ∧
    (w0 3 s 0 = -1 → mj_ls_ w0 s ≠ -1 → (o < i → w0 9 o (mj_ls_ w0 s) ≠ -1 → mj_it w i (w0 9 o (mj_ls_ w0 s) / 13) (w0 9 o (mj_ls_ w0 s) % 13)) ∧ (o < i → w0 9 o (mj_ls_ w0 s) = -1 → ∀ s' o' : Int, mj_rg s' o' → o' ≤ o → mj_it w0 o s' o' → w0 3 s' 0 = mj_ls_ w0 s → mj_it w i (s' + 1) o') ∧ (o = i → mj_ch w (mj_ls_ w0 s))) ∧
    ∀ l : Int, 0 ≤ l → l < 5 → mj_ch w l → w0 3 s 0 = l → mj_it w i (s + 1) o) ∧
  ∀ l : Int, 0 ≤ l → l < 5 → mj_ch w l → ∃ s1 : Int, mj_rg s1 i ∧ mj_it w i s1 i ∧ w0 3 s1 0 = -1 ∧ mj_ls_ w0 s1 = l
theorem mj_GI.nx {w : mj_w} (hG : mj_GI w) {s o : Int} (hr : mj_rg s o) (h : w 3 s 0 ≠ -1) : mj_rg (s + 1) o := by
  have h1 := hG.2.2 s hr.1 hr.2.1
  obtain ⟨r1, r2, r3, r4⟩ := hr
  have : s % 4 ≠ 3 := fun q => h (h1.2.2.2 q)
  exact ⟨by omega, by omega, r3, r4⟩
/-- a step of close: it may mark, then it puts items -/
theorem mj_clo.step {i k s0 o0 : Int} {w0 w w1 w' : mj_w} {A : Int → Int → Prop} (hc : mj_clo i w0 k w) (ha : mj_add i A w1 w') (hi0 : 0 ≤ i) (hi1 : i < 13) (hk : 0 ≤ k) (hks : k < w 6 6 0) (hr : mj_rg s0 o0) (he : w 10 k 0 = s0 * 13 + o0)
    (hw1 : ∀ (p : Nat) (a b : Int), ¬ (p = 6 ∧ a = 7 ∧ b = 0) → w1 p a b = w p a b) (h67 : 0 ≤ w1 6 7 0 ∧ w1 6 7 0 < 8192)
    (hc1 : ∀ l : Int, 0 ≤ l → l < 5 → mj_ch w1 l → mj_ch w l ∨ (w0 3 s0 0 = -1 ∧ l = mj_ls_ w0 s0 ∧ o0 = i ∧ ∀ s q : Int, mj_rg s q → q ≤ i → mj_it w i s q → w0 3 s 0 = l → A (s + 1) q))
    (hc2 : ∀ l : Int, 0 ≤ l → l < 5 → mj_ch w l → mj_ch w1 l)
    (hle : ∀ s o : Int, mj_rg s o → A s o → o ≤ i)
    (hin : ∀ T : Int → Int → Prop, mj_closed i w0 T → (∀ s o : Int, mj_rg s o → mj_it w0 i s o → T s o) → (∀ s o : Int, mj_rg s o → mj_it w i s o → T s o) → (∀ s o : Int, mj_rg s o → A s o → T s o))
    (hp : ∀ r : Int, 0 ≤ r → r < w0 1 0 0 → w0 2 r 0 = w0 3 s0 0 → mj_it w' i ((r + 1) * 4) i)
    (hcm : w0 3 s0 0 = -1 → mj_ls_ w0 s0 ≠ -1 → (o0 < i → w0 9 o0 (mj_ls_ w0 s0) ≠ -1 → mj_it w' i (w0 9 o0 (mj_ls_ w0 s0) / 13) (w0 9 o0 (mj_ls_ w0 s0) % 13)) ∧ (o0 < i → w0 9 o0 (mj_ls_ w0 s0) = -1 → ∀ s' o' : Int, mj_rg s' o' → o' ≤ o0 → mj_it w0 o0 s' o' → w0 3 s' 0 = mj_ls_ w0 s0 → mj_it w' i (s' + 1) o') ∧ (o0 = i → mj_ch w1 (mj_ls_ w0 s0)))
    (hch : ∀ l : Int, 0 ≤ l → l < 5 → mj_ch w l → w0 3 s0 0 = l → mj_it w' i (s0 + 1) o0) (hNI : mj_NI i w0) (hG : mj_GI w0) : mj_clo i w0 (k + 1) w' := by
  obtain ⟨⟨c1, c2, c3, c4, c5, c6⟩, c7, c8, c9⟩ := hc
  have e67 : w' 6 7 0 = w1 6 7 0 := ha.1 6 7 0 (fun q => by cases q.1) (fun q => by cases q.1) (by decide) (fun q => by have := q.2; omega)
  have chE : ∀ l, mj_ch w' l ↔ mj_ch w1 l := fun l => by unfold mj_ch; rw [e67]
  have e7 : ∀ s, w1 7 i s = w 7 i s := fun s => hw1 7 i s (fun q => by cases q.1)
  have it1 : ∀ s o : Int, mj_it w1 i s o ↔ mj_it w i s o := fun s o => by unfold mj_it; rw [e7]
  have e10 : ∀ j : Int, 0 ≤ j → j < w 6 6 0 → w' 10 j 0 = w 10 j 0 := fun j j0 j1 => (ha.2.2.2.2.2 j j0 (by rw [hw1 6 6 0 (fun q => by have := q.2.1; omega)]; exact j1)).trans (hw1 10 j 0 (fun q => by cases q.1))
  have up : ∀ {s o : Int}, mj_rg s o → mj_it w i s o → mj_it w' i s o := fun hr h => ha.it hr ((it1 _ _).mpr h)
  have dn : ∀ {s o : Int}, mj_rg s o → mj_it w' i s o → mj_it w i s o ∨ A s o := fun {s o} hr h => ((ha.2.1 s o hr).mp h).imp (it1 s o).mp id
  have f1 : mj_fr i w w1 := fun p a b _ _ _ q4 => hw1 p a b (fun q => q4 ⟨q.1, Or.inr q.2.1⟩)
  have hrow := hw1
  refine ⟨⟨(c1.trans f1).trans ha.fr, ha.2.2.2.1, ha.2.2.1, by rw [e67]; exact h67, fun s o hr' h => ?_, fun s o hr' h => up hr' (c6 s o hr' h)⟩, fun T hT hs s o hr' h => ?_, fun j j0 j1 s o hr' hj => ?_, fun l l0 l1 h => ?_⟩
  · rcases dn hr' h with h | h
    · exact c5 s o hr' h
    · exact hle s o hr' h
  · rcases dn hr' h with h | h
    · exact c7 T hT hs s o hr' h
    · exact hin T hT hs (c7 T hT hs) s o hr' h
  · by_cases ej : j = k
    · subst ej
      rw [e10 j j0 hks, he] at hj
      have e1 : s = s0 ∧ o = o0 := by
        obtain ⟨_, _, _, _⟩ := hr
        obtain ⟨_, _, _, _⟩ := hr'
        omega
      obtain ⟨rfl, rfl⟩ := e1
      refine ⟨hp, fun q1 q2 => ⟨(hcm q1 q2).1, (hcm q1 q2).2.1, fun q3 => (chE _).mpr ((hcm q1 q2).2.2 q3)⟩, fun l l0 l1 hl hsl => ?_⟩
      rcases hc1 l l0 l1 ((chE l).mp hl) with h | h
      · exact hch l l0 l1 h hsl
      · omega
    · have hjk : j < w 6 6 0 := by omega
      rw [e10 j j0 hjk] at hj
      obtain ⟨p1, p2, p3⟩ := c8 j j0 (by omega) s o hr' hj
      obtain ⟨s2, o2, hr2, hit2, hj2⟩ := c2.2.2.1 j j0 hjk
      have e2 : s2 = s ∧ o2 = o := by
        obtain ⟨_, _, _, _⟩ := hr2
        obtain ⟨_, _, _, _⟩ := hr'
        omega
      obtain ⟨rfl, rfl⟩ := e2
      refine ⟨fun r r0 r1 r2 => up ⟨by have := hG.1; omega, by have := hG.1; omega, hi0, hi1⟩ (p1 r r0 r1 r2), fun q1 q2 => ?_, fun l l0 l1 hl hsl => ?_⟩
      · obtain ⟨g1, g2, g3⟩ := p2 q1 q2
        have hl := (mj_lo_r hG (s2 / 4 - 1)).resolve_left q2
        refine ⟨fun x1 x2 => ?_, fun x1 x2 s' o' hr2 ho' hit hsb => up (hG.nx hr2 (by rw [hsb]; exact q2)) (g2 x1 x2 s' o' hr2 ho' hit hsb), fun x1 => (chE _).mpr (hc2 _ hl.1 hl.2 (g3 x1))⟩
        have hn := (hNI o2 (mj_ls_ w0 s2) hr'.2.2.1 x1 hl.1 hl.2).resolve_left x2
        exact up ⟨by omega, by omega, by omega, by omega⟩ (g1 x1 x2)
      · have hnx := hG.nx hr' (show w0 3 s2 0 ≠ -1 by omega)
        rcases hc1 l l0 l1 ((chE l).mp hl) with h | h
        · exact up hnx (p3 l l0 l1 h hsl)
        · exact (ha.2.1 _ _ hnx).mpr (Or.inr (h.2.2.2 s2 o2 hr' (c5 s2 o2 hr' hit2) hit2 hsl))
  · rcases hc1 l l0 l1 ((chE l).mp h) with h | ⟨q1, q2, q3, _⟩
    · obtain ⟨s1, t1, t2, t3, t4⟩ := c9 l l0 l1 h
      exact ⟨s1, t1, up t1 t2, t3, t4⟩
    · obtain ⟨s2, o2, hr2, hit2, hj2⟩ := c2.2.2.1 k hk hks
      have e2 : s2 = s0 ∧ o2 = o0 := by
        obtain ⟨_, _, _, _⟩ := hr2
        obtain ⟨_, _, _, _⟩ := hr
        omega
      obtain ⟨rfl, rfl⟩ := e2
      subst q3
      exact ⟨s2, hr, up hr hit2, q1, q2.symm⟩
/-- at the end the set is closed -/
theorem mj_clo.end {i k : Int} {w0 w : mj_w} (hc : mj_clo i w0 k w) (hk : w 6 6 0 ≤ k) (hi0 : 0 ≤ i) (hG : mj_GI w0) : mj_closed i w0 (mj_it w i) := by
  obtain ⟨⟨c1, c2, c3, c4, c5, c6⟩, c7, c8, c9⟩ := hc
  refine ⟨fun s o hr ho hit r r0 r1 r2 => ?_, fun s o hr ho hit q1 q2 => ?_⟩
  · obtain ⟨j, j0, j1, j2⟩ := c2.2.2.2 s o hr hit
    exact (c8 j j0 (by omega) s o hr j2).1 r r0 r1 r2
  · obtain ⟨j, j0, j1, j2⟩ := c2.2.2.2 s o hr hit
    obtain ⟨g1, g2, g3⟩ := (c8 j j0 (by omega) s o hr j2).2.1 q1 q2
    refine ⟨g1, g2, fun x s' o' hr' ho' hit' hsl => ?_⟩
    obtain ⟨j', k0, k1, k2⟩ := c2.2.2.2 s' o' hr' hit'
    have hl := (mj_lo_r hG (s / 4 - 1)).resolve_left q2
    exact (c8 j' k0 (by omega) s' o' hr' k2).2.2 _ hl.1 hl.2 (g3 x) hsl
