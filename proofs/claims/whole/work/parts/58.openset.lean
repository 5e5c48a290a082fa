/-! ===== openFirst, openNext ===== -/
theorem mj_fr.closed {i : Int} {w w' : mj_w} (h : mj_fr i w w') {T : Int → Int → Prop} (hc : mj_closed i w T) : mj_closed i w' T := by
  have e1 : w' 1 0 0 = w 1 0 0 := h.gr (by decide) 0 0
  have e2 : ∀ r, w' 2 r 0 = w 2 r 0 := fun r => h.gr (by decide) r 0
  have e3 : ∀ s, w' 3 s 0 = w 3 s 0 := fun s => h.gr (by decide) s 0
  have e9 : ∀ a b, w' 9 a b = w 9 a b := fun a b => h.gr (by decide) a b
  refine ⟨fun s o hr ho ht r r0 r1 r2 => hc.1 s o hr ho ht r r0 (by rw [← e1]; exact r1) (by rw [← e2, ← e3]; exact r2), fun s o hr ho ht q1 q2 => ?_⟩
  rw [h.ls] at q2 ⊢
  rw [e3] at q1
  obtain ⟨c1, c2, c3⟩ := hc.2 s o hr ho ht q1 q2
  rw [e9]
  refine ⟨c1, fun x y s' o' => ?_, fun x s' o' => ?_⟩
  · unfold mj_it
    rw [h.row (by omega), e3]
    exact c2 x y s' o'
  · rw [e3]; exact c3 x s' o'
theorem mj_fr.symm {i : Int} {w w' : mj_w} (h : mj_fr i w w') : mj_fr i w' w := fun p a b c1 c2 c3 c4 => (h p a b c1 c2 c3 c4).symm
theorem mj_fr.seed {i : Int} {w w' : mj_w} (h : mj_fr i w w') {T : Int → Int → Prop} (hc : mj_seed i w T) : mj_seed i w' T := by
  refine ⟨hc.1, fun q s o hr ho hit hb => hc.2 q s o hr ho ?_ ?_⟩
  · unfold mj_it at hit ⊢
    rw [h.row (by omega)] at hit
    exact hit
  · rw [← h.gr (p := 3) (by decide), ← h.gr (p := 5) (by decide)]
    exact hb
theorem mj_emp_fr (w : mj_w) (i : Int) : mj_fr i w (mj_emp w i) := by
  intro p a b c1 c2 c3 c4
  unfold mj_emp
  rw [if_neg (fun q => c1 ⟨q.1, q.2.1⟩), if_neg (fun q => c2 ⟨q.1, q.2.1⟩), if_neg (fun q => c4 ⟨q.1, q.2.1⟩)]
theorem mj_emp_row (w : mj_w) (i s : Int) (h0 : 0 ≤ s) (h1 : s < 44) : mj_emp w i 7 i s = 0 := by
  unfold mj_emp
  rw [if_pos ⟨rfl, rfl, h0, h1⟩]
theorem mj_emp_AG (w : mj_w) (i : Int) : mj_AG i (mj_emp w i) := by
  have e6 : mj_emp w i 6 6 0 = 0 := by unfold mj_emp; simp
  have e8 : mj_emp w i 8 i 0 = 0 := by unfold mj_emp; simp
  have ec : mj_ct (mj_emp w i) i = 0 := mj_cn_zero 572 (fun k hk => by
    show mj_t (mj_emp w i 7 i ((k / 13 : Nat) : Int)) ((k % 13 : Nat) : Int) = false
    rw [mj_emp_row w i _ (by omega) (by omega), mj_t_zero])
  refine ⟨by rw [e6, ec]; rfl, by rw [e8, ec]; rfl, fun k k0 k1 => by omega, fun s o hr hit => ?_⟩
  unfold mj_it at hit
  rw [mj_emp_row w i s hr.1 hr.2.1, mj_t_zero] at hit
  cases hit
theorem mj_emp_no {w : mj_w} {i s o : Int} (hr : mj_rg s o) : ¬ mj_it (mj_emp w i) i s o := fun hit => by
  unfold mj_it at hit
  rw [mj_emp_row w i s hr.1 hr.2.1, mj_t_zero] at hit
  cases hit
theorem mj_add.seed {i : Int} {A : Int → Int → Prop} {w w' : mj_w} (h : mj_add i A (mj_emp w i) w') {s o : Int} (hr : mj_rg s o) : mj_it w' i s o ↔ A s o := by
  rw [h.2.1 s o hr]
  exact ⟨fun q => q.resolve_left (mj_emp_no hr), Or.inr⟩
theorem mj_emp_67 (w : mj_w) (i : Int) : mj_emp w i 6 7 0 = 0 := by unfold mj_emp; simp
section C58
variable {g : mj_G} {nn d : Nat} {xs : mj_M} {Post : Option mj_V → mj_w → Prop}
theorem c_openFirst (hn : 21 ≤ nn) {w : mj_w} (hG : mj_GI w) (h6 : w 6 1 0 = 0 ∨ w 6 1 0 = 1) (h : ∀ w', mj_fr 0 w w' → mj_CI 0 w' → Post none w') :
    mj_J g y_Ch_openFirst (d + 5) 0 0 (0, [some (mj_R 6)], [], mj_mem nn xs w) (mj_P nn xs Post) := by
  refine v_Ch_openFirst_0 (d := d + 4) hn (c_empty hn (by decide) (by decide) ⟨rfl, c_slotOf hn ⟨_, rfl, ?_⟩⟩)
  have hz : ∀ s : Int, 0 ≤ s → s < 44 → 0 ≤ mj_emp w 0 7 0 s ∧ mj_emp w 0 7 0 s < 8192 := fun s s0 s1 => by rw [mj_emp_row w 0 s s0 s1]; decide
  refine c_put' (d := d + 3) hn (by decide) (by decide) (by unfold mj_rg; decide) hz (mj_emp_AG w 0) (fun w1 a1 => ⟨rfl, ?_⟩)
  have f1 : mj_fr 0 w w1 := (mj_emp_fr w 0).trans a1.fr
  have hG1 := f1.GI hG
  have h67 : w1 6 7 0 = 0 := (a1.1 6 7 0 (fun q => by cases q.1) (fun q => by cases q.1) (by decide) (fun q => by have := q.2; omega)).trans (mj_emp_67 w 0)
  have it1 : ∀ s o : Int, mj_rg s o → (mj_it w1 0 s o ↔ s = 0 ∧ o = 0) := fun s o hr => by
    rw [a1.seed hr]
    exact ⟨fun q => ⟨by omega, q.2⟩, fun q => ⟨by omega, q.2⟩⟩
  refine c_close (d := d) hn (by decide) (by decide) hG1 (fun f s f0 f1 s0 s1 => ?_) (fun o l o0 o1 => by omega) (fun f s o f0 f1 hr hit => ?_) a1.2.2.2.1 h67 (fun w' b1 b2 b3 b4 b5 b6 b7 => ⟨rfl, ?_⟩)
  · have : f = 0 := by omega
    subst this
    exact a1.2.2.1 s s0 s1
  · have : f = 0 := by omega
    subst this
    have := (it1 s o hr).mp hit
    omega
  · have h6' : w' 6 1 0 = w 6 1 0 := (f1.trans b1) 6 1 0 (fun q => by cases q.1) (fun q => by cases q.1) (by decide) (fun q => by have := q.2; omega)
    have r00 : mj_rg 0 0 := by unfold mj_rg; decide
    refine h w' (f1.trans b1) ⟨b1.GI hG1, by decide, by rw [h6']; exact h6, fun f s f0 f1 s0 s1 => ?_, fun f s o f0 f1 hr hit => ?_, fun f f0 f1 => ?_, fun f l f0 f1 => by omega, fun f f0 f1 => ?_⟩
    all_goals
      have ef : f = 0 := by omega
      subst ef
    · exact b3 s s0 s1
    · exact b4 s o hr hit
    · exact b2.2.1
    · refine ⟨b1.closed b6, ⟨fun _ => b5 0 0 r00 ((it1 0 0 r00).mpr ⟨rfl, rfl⟩), fun q => absurd q (by decide)⟩, fun T hT hS s o hr hit => b7 T (b1.symm.closed hT) (fun s' o' hr' hit' => ?_) s o hr hit⟩
      obtain ⟨rfl, rfl⟩ := (it1 s' o' hr').mp hit'
      exact hS.1 rfl
/-- the next set: n + 1 terminals are fed, the last of them t -/
theorem c_openNext (hn : 21 ≤ nn) {n t : Int} {w : mj_w} (hC : mj_CI n w) (hn1 : n < 12) (ht0 : 8 ≤ t) (ht1 : t < 12) (h5 : w 5 n 0 = t)
    (h : ∀ w', (∀ (p : Nat) (a b : Int), ¬ (p = 7 ∧ a = n + 1) → ¬ (p = 8 ∧ a = n + 1) → ¬ (p = 9 ∧ a = n) → p ≠ 10 → ¬ (p = 6 ∧ (a = 6 ∨ a = 7)) → w' p a b = w p a b) → mj_CI (n + 1) w' → Post none w') :
    mj_J g y_Ch_openNext (d + 5) 0 0 (0, [some (mj_R 6), some (.inl (n + 1)), some (.inl t)], [], mj_mem nn xs w) (mj_P nn xs Post) := by
  have hC' := hC
  obtain ⟨hG, hnr, h6, hrow, hor, hsz, hnm, hset⟩ := hC'
  refine v_Ch_openNext_0 (d := d + 4) hn ?_
  rw [show n + 1 - 1 = n by omega]
  refine c_nameLeaps (d := d + 1) hn hnr.1 (by omega) h6 hG (fun s s0 s1 => hrow n s hnr.1 (Int.le_refl _) s0 s1) (fun o l o0 o1 l0 l1 => ?_) (fun w1 a1 a2 => ⟨rfl, ?_⟩)
  · have := hC.names _ o l rfl o0 o1 l0 l1
    exact ⟨by omega, by omega⟩
  have low1 : mj_low n w w1 := ⟨a1 1 0 0 (fun q => by cases q.1), fun a => a1 2 a 0 (fun q => by cases q.1), fun a => a1 3 a 0 (fun q => by cases q.1), a1 6 1 0 (fun q => by cases q.1), fun a b _ => a1 7 a b (fun q => by cases q.1), fun a b q => a1 9 a b (fun z => by have := z.2; omega)⟩
  refine c_empty hn (by omega) (by omega) ⟨rfl, ?_⟩
  have f2 := mj_emp_fr w1 (n + 1)
  have hG2 := f2.GI (low1.GI hG)
  have e7 : ∀ s, mj_emp w1 (n + 1) 7 n s = w 7 n s := fun s => (f2.row (by omega) s).trans (low1.2.2.2.2.1 n s (Int.le_refl _))
  refine c_advance (d := d + 2) hn hnr.1 (by omega) (by omega) (by omega) (by omega) ht1 hG2 (fun s s0 s1 => by rw [e7]; exact hrow n s hnr.1 (Int.le_refl _) s0 s1) (fun s s0 s1 => by rw [mj_emp_row w1 (n + 1) s s0 s1]; decide) (mj_emp_AG w1 (n + 1)) (fun w3 A b1 b2 b3 => ⟨rfl, ?_⟩)
  have f3 : mj_fr (n + 1) w1 w3 := f2.trans b1.fr
  have hG3 := b1.fr.GI hG2
  have h67 : w3 6 7 0 = 0 := (b1.1 6 7 0 (fun q => by cases q.1) (fun q => by cases q.1) (by decide) (fun q => by have := q.2; omega)).trans (mj_emp_67 w1 (n + 1))
  have r3 : ∀ f s : Int, f ≤ n → w3 7 f s = w 7 f s := fun f s hf => (f3.row (by omega) s).trans (low1.2.2.2.2.1 f s hf)
  have i3 : ∀ f s o : Int, f ≤ n → (mj_it w3 f s o ↔ mj_it w f s o) := fun f s o hf => by unfold mj_it; rw [r3 f s hf]
  have g3 : ∀ s, w3 3 s 0 = w 3 s 0 := fun s => (f3.gr (by decide) s 0).trans (low1.2.2.1 s)
  have g2 : ∀ s, mj_emp w1 (n + 1) 3 s 0 = w 3 s 0 := fun s => (f2.gr (by decide) s 0).trans (low1.2.2.1 s)
  have n3 : ∀ o l : Int, o < n → w3 9 o l = w 9 o l := fun o l ho => (f3.gr (by decide) o l).trans (low1.2.2.2.2.2 o l ho)
  have n3' : ∀ l : Int, w3 9 n l = w1 9 n l := fun l => f3.gr (by decide) n l
  have itA : ∀ s o : Int, mj_rg s o → (mj_it w3 (n + 1) s o ↔ A s o) := fun s o hr => b1.seed hr
  have aOf : ∀ s o : Int, mj_rg s o → A s o → ∃ s0 : Int, s = s0 + 1 ∧ mj_rg s0 o ∧ w 3 s0 0 = t ∧ mj_it w n s0 o := fun s o hr hA => by
    obtain ⟨s0, z1, z2, z3, z4⟩ := b3 s o hr hA
    exact ⟨s0, z1, z2, (g2 s0).symm.trans z3, (i3 n s0 o (Int.le_refl _)).mp z4⟩
  have nmw : ∀ f l : Int, 0 ≤ f → f < n + 1 → 0 ≤ l → l < 5 → w3 9 f l = -1 ∨ (0 ≤ w3 9 f l ∧ w3 9 f l < 572 ∧ w3 9 f l % 13 ≤ f) := fun f l f0 f1 l0 l1 => by
    by_cases e : f = n
    · subst e
      rw [n3']
      exact (a2 l l0 l1).rg h6 l0 hG (fun s o => hor f s o f0 (Int.le_refl _)) (fun o k o0 o1 k0 k1 => hC.names _ o k rfl o0 o1 k0 k1)
    · rw [n3 f l (by omega)]
      exact hC.names _ f l rfl f0 (by omega) l0 l1
  refine c_close (d := d) hn (by omega) (by omega) hG3 (fun f s f0 f1 s0 s1 => ?_) (fun o l o0 o1 l0 l1 => ?_) (fun f s o f0 f1 hr hit => ?_) b1.2.2.2.1 h67 (fun w' c1 c2 c3 c4 c5 c6 c7 => ⟨rfl, ?_⟩)
  · by_cases e : f = n + 1
    · subst e; exact b1.2.2.1 s s0 s1
    · rw [r3 f s (by omega)]; exact hrow f s f0 (by omega) s0 s1
  · rcases nmw o l o0 o1 l0 l1 with z | z
    · exact Or.inl z
    · exact Or.inr ⟨z.1, z.2.1, by omega⟩
  · by_cases e : f = n + 1
    · subst e
      obtain ⟨s0, z1, z2, z3, z4⟩ := aOf s o hr ((itA s o hr).mp hit)
      have := hor n s0 o hnr.1 (Int.le_refl _) z2 z4
      omega
    · exact hor f s o f0 (by omega) hr ((i3 f s o (by omega)).mp hit)
  · have f4 : mj_fr (n + 1) w1 w' := f3.trans c1
    have low4 : mj_low n w w' := ⟨(f4.gr (by decide) 0 0).trans low1.1, fun a => (f4.gr (by decide) a 0).trans (low1.2.1 a), fun a => (f4.gr (by decide) a 0).trans (low1.2.2.1 a), (f4 6 1 0 (fun q => by cases q.1) (fun q => by cases q.1) (by decide) (fun q => by have := q.2; omega)).trans low1.2.2.2.1, fun a b hab => (f4.row (by omega) b).trans (low1.2.2.2.2.1 a b hab), fun a b hab => (f4.gr (by decide) a b).trans (low1.2.2.2.2.2 a b hab)⟩
    have h54 : ∀ a, w' 5 a 0 = w 5 a 0 := fun a => (f4.gr (by decide) a 0).trans (a1 5 a 0 (fun q => by cases q.1))
    refine h w' (fun p a b q1 q2 q3 q4 q5 => (f4 p a b q1 q2 q4 q5).trans (a1 p a b q3)) ⟨c1.GI hG3, by omega, by rw [low4.2.2.2.1]; exact h6, fun f s f0 f1 s0 s1 => ?_, fun f s o f0 f1 hr hit => ?_, fun f f0 f1 => ?_, fun f l f0 f1 l0 l1 => ?_, fun f f0 f1 => ?_⟩
    · by_cases e : f = n + 1
      · subst e; exact c3 s s0 s1
      · rw [low4.2.2.2.2.1 f s (by omega)]; exact hrow f s f0 (by omega) s0 s1
    · by_cases e : f = n + 1
      · subst e; exact c4 s o hr hit
      · rw [low4.it (by omega)] at hit; exact hor f s o f0 (by omega) hr hit
    · by_cases e : f = n + 1
      · subst e; exact c2.2.1
      · have e8 : w' 8 f 0 = w 8 f 0 := (f4 8 f 0 (fun q => by cases q.1) (fun q => e q.2) (by decide) (fun q => by cases q.1)).trans (a1 8 f 0 (fun q => by cases q.1))
        have ec : mj_ct w' f = mj_ct w f := by
          unfold mj_ct
          simp only [low4.2.2.2.2.1 f _ (show f ≤ n by omega)]
        rw [e8, ec]
        exact hsz f f0 (by omega)
    · rw [low4.nmOK (by omega)]
      by_cases e : f = n
      · subst e
        rw [f4.gr (by decide)]
        exact a2 l l0 l1
      · rw [low4.2.2.2.2.2 f l (by omega)]
        exact hnm f l f0 (by omega) l0 l1
    · by_cases e : f = n + 1
      · subst e
        refine ⟨c1.closed c6, ⟨fun q => by omega, fun _ s o hr ho hit hb => ?_⟩, fun T hT hS s o hr hit => c7 T (c1.symm.closed hT) (fun s' o' hr' hit' => ?_) s o hr hit⟩
        · rw [show n + 1 - 1 = n by omega] at hit hb ho
          rw [low4.it (Int.le_refl _)] at hit
          rw [low4.2.2.1, h54, h5] at hb
          have hnx := hG.nx hr (by omega)
          refine c5 (s + 1) o hnx ((itA _ _ hnx).mpr (b2 s o hr ho ?_ ((g2 s).trans hb)))
          unfold mj_it
          rw [e7]
          exact hit
        · obtain ⟨s0, z1, z2, z3, z4⟩ := aOf s' o' hr' ((itA s' o' hr').mp hit')
          subst z1
          refine hS.2 (by omega) s0 o' z2 ?_ ?_ ?_
          · have := hor n s0 o' hnr.1 (Int.le_refl _) z2 z4; omega
          · rw [show n + 1 - 1 = n by omega, low4.it (Int.le_refl _)]; exact z4
          · rw [show n + 1 - 1 = n by omega, low4.2.2.1, h54, h5]; exact z3
      · exact (low4.le (show f ≤ n by omega)).set (h54 _) (hset f f0 (by omega))
end C58
