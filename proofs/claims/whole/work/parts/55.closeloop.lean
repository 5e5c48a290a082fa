/-! ===== close: its loop ===== -/
section C55
variable {g : mj_G} {nn d : Nat} {xs : mj_M} {Post : Option mj_V → mj_w → Prop}
theorem c_close_loop (hn : 21 ≤ nn) {i : Int} {w0 : mj_w} (hi0 : 0 ≤ i) (hi1 : i < 13) (hG : mj_GI w0) (hS : ∀ f s : Int, 0 ≤ f → f ≤ i → 0 ≤ s → s < 44 → 0 ≤ w0 7 f s ∧ w0 7 f s < 8192) (hNI : mj_NI i w0) (hO : ∀ f s o : Int, 0 ≤ f → f < i → mj_rg s o → mj_it w0 f s o → o ≤ f) (h : ∀ w k, mj_clo i w0 k w → w 6 6 0 ≤ k → Post none w) :
    ∀ (n : Nat) (k : Int) (w : mj_w), 0 ≤ k → k ≤ 572 → (572 - k).toNat = n → mj_clo i w0 k w →
    mj_J g y_Ch_close (d + 4) 0 0 (2, [some (mj_R 6), some (.inl i), some (.inl k), none, none, none], [], mj_mem nn xs w) (mj_P nn xs Post) := by
  intro n
  induction n with
  | zero =>
    intro k w k0 k1 k2 hc
    have hsz := hc.1.2.1.size
    exact v_Ch_close_2 (d := d + 3) hn ⟨⟨by omega, by omega⟩, ⟨by omega, by omega⟩, fun q => by omega, fun q => h w k hc (by omega)⟩
  | succ n ih =>
    intro k w k0 k1 k2 hc
    have hsz := hc.1.2.1.size
    refine v_Ch_close_2 (d := d + 3) hn ⟨⟨by omega, by omega⟩, ⟨by omega, by omega⟩, fun q => ⟨fun q1 => ?_, fun q1 => by omega⟩, fun q => h w k hc (by omega)⟩
    obtain ⟨s, o, hr, hit, he⟩ := hc.1.2.1.2.2.1 k k0 q
    have hr' := hr
    obtain ⟨r1, r2, r3, r4⟩ := hr'
    have ho := hc.1.2.2.2.2.1 s o hr hit
    have es : w 10 k 0 / 13 = s := by omega
    have eo : w 10 k 0 % 13 = o := by omega
    have fr := hc.1.1
    have e3 : ∀ s, w 3 s 0 = w0 3 s 0 := fun s => fr.gr (by decide) s 0
    have e9 : ∀ a b, w 9 a b = w0 9 a b := fun a b => fr.gr (by decide) a b
    have hGw := fr.GI hG
    have hSw : ∀ f s : Int, 0 ≤ f → f ≤ i → 0 ≤ s → s < 44 → 0 ≤ w 7 f s ∧ w 7 f s < 8192 := fun f s f0 f1 s0 s1 => by
      by_cases e : f = i
      · subst e; exact hc.1.2.2.1 s s0 s1
      · rw [fr.row e]; exact hS f s f0 f1 s0 s1
    have h67 := hc.1.2.2.2.1
    rw [es, eo]
    have hg3 := hGw.2.2 s r1 r2
    refine ⟨k0, q1, ⟨by omega, by omega⟩, by omega, r1, r2, ⟨by omega, by omega⟩, fun q2 => ?_, fun q2 => ?_⟩
    · -- complete
      rw [e3] at q2
      refine c_leftSide (d := d + 2) hn r1 r2 hGw.1.1 hGw.1.2 ⟨_, rfl, ?_⟩
      have els := fr.ls s
      rw [els]
      have hl := mj_lo_r hG (s / 4 - 1)
      have hnorule : ∀ r : Int, 0 ≤ r → r < w0 1 0 0 → w0 2 r 0 = w0 3 s 0 → False := fun r r0 r1 r2 => by have := hG.2.1 r r0 r1; omega
      refine c_complete (d := d) hn hi1 r3 ho hl hGw hSw hc.1.2.1 (fun x1 x2 => ?_) (fun x => ⟨rfl, ?_⟩) (fun x x1 w' A a1 a2 a3 => ⟨rfl, ?_⟩) (fun x x1 x2 w' a1 => ⟨rfl, ?_⟩) (fun x x1 x2 w' A a1 a2 a3 => ⟨rfl, ?_⟩)
      · rw [e9]
        have hl' := hl.resolve_left x2
        exact (hNI o _ r3 x1 hl'.1 hl'.2).imp id (fun z => ⟨z.1, z.2.1⟩)
      · refine ih (k + 1) w (by omega) (by omega) (by omega) (hc.step (mj_add.refl (fun s s0 s1 => hSw i s hi0 (Int.le_refl _) s0 s1) hc.1.2.1) hi0 hi1 k0 q hr he (fun _ _ _ _ => rfl) h67 (fun l _ _ z => Or.inl z) (fun l _ _ z => z) (fun _ _ _ z => z.elim) (fun _ _ _ _ _ _ _ z => z.elim) (fun r r0 r1 r2 => (hnorule r r0 r1 r2).elim) (fun _ z => absurd x z) (fun l l0 l1 _ z => by omega) hNI hG)
      · subst x1
        have hl' := hl.resolve_left x
        have hor := fun k => mj_t_or (x := w 6 7 0) (o := mj_ls_ w0 s) (k := k) h67.1 h67.2 hl'.1 (by have := hl'.2; unfold mj_ls_; omega)
        have em : mj_mark w (mj_ls_ w0 s) 6 7 0 = mj_ior (w 6 7 0) (mj_shl 1 (mj_ls_ w0 s)) := by unfold mj_mark mj_wu; simp
        have key : ∀ (P : Int → Int → Prop), (∀ s1 o1 : Int, mj_rg s1 o1 → mj_it w o s1 o1 → P s1 o1) → (∀ s1 o1 : Int, mj_rg s1 o1 → w0 3 s1 0 = mj_ls_ w0 s → P s1 o1 → P (s1 + 1) o1) → ∀ (m : Nat) (s' o' : Int), s'.toNat = m → mj_rg s' o' → A s' o' → P s' o' := by
          intro P p1 p2 m
          induction m with
          | zero =>
            intro s' o' hm hr' z
            obtain ⟨s1, e1, hr1, e2, e4⟩ := a3 s' o' hr' z
            have := hr1.1
            omega
          | succ m ihm =>
            intro s' o' hm hr' z
            obtain ⟨s1, e1, hr1, e2, e4⟩ := a3 s' o' hr' z
            subst e1
            rw [e3] at e2
            refine p2 s1 o' hr1 e2 ?_
            rcases (a1.2.1 s1 o' hr1).mp e4 with h4 | h4
            · refine p1 s1 o' hr1 ?_
              unfold mj_it at h4 ⊢
              rwa [mj_mark_ne w _ (fun q => by cases q.1)] at h4
            · exact ihm s1 o' (by have := hr1.1; omega) hr1 h4
        refine ih (k + 1) w' (by omega) (by omega) (by omega) (hc.step a1 hi0 hi1 k0 q hr he (fun p a b z => mj_mark_ne w _ z) (by rw [em]; exact (hor 0).2) (fun l l0 l1 z => ?_) (fun l l0 l1 z => ?_) (fun s' o' hr' z => ?_) (fun T hT hs hw => ?_) (fun r r0 r1 r2 => (hnorule r r0 r1 r2).elim) (fun _ _ => ⟨fun z => absurd z (Int.lt_irrefl _), fun z => absurd z (Int.lt_irrefl _), fun _ => ?_⟩) (fun l l0 l1 _ z => by omega) hNI hG)
        · unfold mj_ch at z ⊢
          rw [em, (hor l).1, Bool.or_eq_true_iff, decide_eq_true_eq] at z
          rcases z with z | z
          · exact Or.inl z
          · refine Or.inr ⟨q2, ?_, rfl, fun s' q' hr' hq' hit' hsl => a2 s' q' hr' hq' hit' ?_⟩
            · have := hl'.1; unfold mj_ls_ at z ⊢; omega
            · rw [e3, hsl]; have := hl'.1; unfold mj_ls_ at z ⊢; omega
        · unfold mj_ch at z ⊢
          rw [em, (hor l).1, z]; rfl
        · exact key (fun _ o' => o' ≤ o) (fun s1 o1 hr1 hit1 => hc.1.2.2.2.2.1 s1 o1 hr1 hit1) (fun s1 o1 _ _ z => z) _ s' o' rfl hr' z
        · have hTs : T s o := hw s o hr hit
          intro s' o' hr' z
          refine (key (fun s' o' => o' ≤ o ∧ T s' o') (fun s1 o1 hr1 hit1 => ⟨hc.1.2.2.2.2.1 s1 o1 hr1 hit1, hw s1 o1 hr1 hit1⟩) (fun s1 o1 hr1 hsl z => ⟨z.1, ?_⟩) _ s' o' rfl hr' z).2
          exact (hT.2 s o hr ho hTs q2 x).2.2 rfl s1 o1 hr1 z.1 z.2 hsl
        · unfold mj_ch
          rw [em, (hor _).1]
          simp
      · have hl' := hl.resolve_left x
        rw [e9] at x2 a1
        have hnn := (hNI o _ r3 x1 hl'.1 hl'.2).resolve_left x2
        have hrn : mj_rg (w0 9 o (mj_ls_ w0 s) / 13) (w0 9 o (mj_ls_ w0 s) % 13) := by unfold mj_ls_; exact ⟨by omega, by omega, by omega, by omega⟩
        refine ih (k + 1) w' (by omega) (by omega) (by omega) (hc.step a1 hi0 hi1 k0 q hr he (fun _ _ _ _ => rfl) h67 (fun l _ _ z => Or.inl z) (fun l _ _ z => z) (fun s' o' _ z => ?_) (fun T hT hs hw s' o' hr' z => ?_) (fun r r0 r1 r2 => (hnorule r r0 r1 r2).elim) (fun _ _ => ⟨fun _ _ => ?_, fun _ z => absurd z x2, fun z => by omega⟩) (fun l l0 l1 _ z => by omega) hNI hG)
        · rw [z.2]; unfold mj_ls_; exact hnn.2.2
        · rw [z.1, z.2]
          exact (hT.2 s o hr ho (hw s o hr hit) q2 x).1 x1 x2
        · exact (a1.2.1 _ _ hrn).mpr (Or.inr ⟨rfl, rfl⟩)
      · have hl' := hl.resolve_left x
        rw [e9] at x2
        have ito : ∀ s' o', mj_it w o s' o' ↔ mj_it w0 o s' o' := fun s' o' => by unfold mj_it; rw [fr.row (by omega)]
        refine ih (k + 1) w' (by omega) (by omega) (by omega) (hc.step a1 hi0 hi1 k0 q hr he (fun _ _ _ _ => rfl) h67 (fun l _ _ z => Or.inl z) (fun l _ _ z => z) (fun s' o' hr' z => ?_) (fun T hT hs hw s' o' hr' z => ?_) (fun r r0 r1 r2 => (hnorule r r0 r1 r2).elim) (fun _ _ => ⟨fun _ z => absurd x2 z, fun _ _ s' o' hr' ho' hit' hsl => ?_, fun z => by omega⟩) (fun l l0 l1 _ z => by omega) hNI hG)
        · obtain ⟨s1, e1, hr1, e2, e4⟩ := a3 s' o' hr' z
          have := hO o s1 o' r3 x1 hr1 ((ito s1 o').mp e4)
          omega
        · obtain ⟨s1, e1, hr1, e2, e4⟩ := a3 s' o' hr' z
          subst e1
          have e5 := (ito s1 o').mp e4
          exact (hT.2 s o hr ho (hw s o hr hit) q2 x).2.1 x1 x2 s1 o' hr1 (hO o s1 o' r3 x1 hr1 e5) e5 (by rw [← e3]; exact e2)
        · exact (a1.2.1 _ _ (hG.nx hr' (by rw [hsl]; exact x))).mpr (Or.inr (a2 s' o' hr' ho' ((ito s' o').mpr hit') (by rw [e3]; exact hsl)))
    · rw [e3] at q2 ⊢
      have hg30 := hG.2.2 s r1 r2
      refine c_isNonterminal hn ⟨by omega, by omega⟩ ⟨_, rfl, ?_⟩
      unfold mj_isN
      by_cases q3 : 0 ≤ w0 3 s 0 ∧ w0 3 s 0 < 5
      · rw [if_pos q3]
        refine ⟨⟨by decide, by decide⟩, fun z => absurd z (by decide), fun _ => ?_⟩
        refine c_predict (d := d + 1) hn hi0 hi1 ⟨by omega, by omega⟩ hGw (fun s s0 s1 => hSw i s hi0 (Int.le_refl _) s0 s1) hc.1.2.1 (fun w' a1 => ⟨rfl, ?_⟩)
        have e67 : w' 6 7 0 = w 6 7 0 := a1.1 6 7 0 (fun q => by cases q.1) (fun q => by cases q.1) (by decide) (fun q => by have := q.2; omega)
        rw [e67, mj_bit_of h67.1 (by omega) q3.1 (by omega)]
        have e1 : w 1 0 0 = w0 1 0 0 := fr.gr (by decide) 0 0
        have e2 : ∀ r, w 2 r 0 = w0 2 r 0 := fun r => fr.gr (by decide) r 0
        have hr8 : ∀ r : Int, 0 ≤ r → r < w0 1 0 0 → mj_rg ((r + 1) * 4) i := fun r r0 r1 => ⟨by omega, by have := hG.1; omega, hi0, hi1⟩
        have hpre : ∀ r : Int, 0 ≤ r → r < w0 1 0 0 → w0 2 r 0 = w0 3 s 0 → mj_it w' i ((r + 1) * 4) i := fun r r0 r1 r2 =>
          (a1.2.1 _ _ (hr8 r r0 r1)).mpr (Or.inr ⟨rfl, r, r0, by rw [e1]; exact r1, by rw [e2]; exact r2, rfl⟩)
        have hpT : ∀ T : Int → Int → Prop, mj_closed i w0 T → T s o → ∀ s' o', (o' = i ∧ ∃ r : Int, 0 ≤ r ∧ r < w 1 0 0 ∧ w 2 r 0 = w0 3 s 0 ∧ s' = (r + 1) * 4) → T s' o' := by
          rintro T hT hTs s' o' ⟨rfl, r, r0, r1, r2, rfl⟩
          exact hT.1 s o hr ho hTs r r0 (by rw [← e1]; exact r1) (by rw [← e2]; exact r2)
        by_cases q4 : mj_t (w 6 7 0) (w0 3 s 0) = true
        · rw [if_pos q4]
          refine ⟨⟨by decide, by decide⟩, fun z => absurd z (by decide), fun _ => ?_⟩
          have hnx := hG.nx hr q2
          refine c_put' (d := d + 2) hn hi0 hi1 hnx a1.2.2.1 a1.2.2.2.1 (fun w2 a2 => ⟨rfl, ?_⟩)
          refine ih (k + 1) w2 (by omega) (by omega) (by omega) (hc.step (a1.trans a2) hi0 hi1 k0 q hr he (fun _ _ _ _ => rfl) h67 (fun l _ _ z => Or.inl z) (fun l _ _ z => z) (fun s' o' hr' z => ?_) (fun T hT hs hw s' o' hr' z => ?_) (fun r r0 r1 r2 => a2.it (hr8 r r0 r1) (hpre r r0 r1 r2)) (fun z => absurd z q2) (fun l l0 l1 _ z => (a2.2.1 _ _ hnx).mpr (Or.inr ⟨rfl, rfl⟩)) hNI hG)
          · rcases z with z | z
            · exact Int.le_of_eq z.1
            · rw [z.2]; exact ho
          · rcases z with z | z
            · exact hpT T hT (hw s o hr hit) s' o' z
            · obtain ⟨rfl, rfl⟩ := z
              obtain ⟨s1, t1, t2, t3, t4⟩ := hc.2.2.2 (w0 3 s 0) q3.1 q3.2 q4
              exact (hT.2 s1 i t1 (Int.le_refl _) (hw s1 i t1 t2) t3 (by rw [t4]; omega)).2.2 rfl s o' hr ho (hw s o' hr hit) t4.symm
        · rw [if_neg q4]
          refine ⟨⟨by decide, by decide⟩, fun _ => ?_, fun z => absurd rfl z⟩
          refine ih (k + 1) w' (by omega) (by omega) (by omega) (hc.step a1 hi0 hi1 k0 q hr he (fun _ _ _ _ => rfl) h67 (fun l _ _ z => Or.inl z) (fun l _ _ z => z) (fun s' o' hr' z => Int.le_of_eq z.1) (fun T hT hs hw s' o' hr' z => hpT T hT (hw s o hr hit) s' o' z) hpre (fun z => absurd z q2) (fun l l0 l1 z1 z => ?_) hNI hG)
          subst z
          exact absurd z1 q4
      · rw [if_neg q3]
        refine ⟨⟨by decide, by decide⟩, fun _ => ?_, fun z => absurd rfl z⟩
        refine ih (k + 1) w (by omega) (by omega) (by omega) (hc.step (mj_add.refl (fun s s0 s1 => hSw i s hi0 (Int.le_refl _) s0 s1) hc.1.2.1) hi0 hi1 k0 q hr he (fun _ _ _ _ => rfl) h67 (fun l _ _ z => Or.inl z) (fun l _ _ z => z) (fun _ _ _ z => z.elim) (fun _ _ _ _ _ _ _ z => z.elim) (fun r r0 r1 r2 => ?_) (fun z => absurd z q2) (fun l l0 l1 _ z => by omega) hNI hG)
        have := hG.2.1 r r0 r1
        omega
/-- close: the set becomes the least closed one over what it held -/
theorem c_close (hn : 21 ≤ nn) {i : Int} {w0 : mj_w} (hi0 : 0 ≤ i) (hi1 : i < 13) (hG : mj_GI w0) (hS : ∀ f s : Int, 0 ≤ f → f ≤ i → 0 ≤ s → s < 44 → 0 ≤ w0 7 f s ∧ w0 7 f s < 8192) (hNI : mj_NI i w0) (hO : ∀ f s o : Int, 0 ≤ f → f ≤ i → mj_rg s o → mj_it w0 f s o → o ≤ f) (hA : mj_AG i w0) (h67 : w0 6 7 0 = 0)
    (h : ∀ w, mj_fr i w0 w → mj_AG i w → (∀ s : Int, 0 ≤ s → s < 44 → 0 ≤ w 7 i s ∧ w 7 i s < 8192) → (∀ s o : Int, mj_rg s o → mj_it w i s o → o ≤ i) → (∀ s o : Int, mj_rg s o → mj_it w0 i s o → mj_it w i s o) → mj_closed i w0 (mj_it w i) → (∀ T : Int → Int → Prop, mj_closed i w0 T → (∀ s o : Int, mj_rg s o → mj_it w0 i s o → T s o) → ∀ s o : Int, mj_rg s o → mj_it w i s o → T s o) → Post none w) :
    mj_J g y_Ch_close (d + 4) 0 0 (0, [some (mj_R 6), some (.inl i), none, none, none, none], [], mj_mem nn xs w0) (mj_P nn xs Post) := by
  refine v_Ch_close_0 (d := d + 3) hn (c_close_loop hn hi0 hi1 hG hS hNI (fun f s o f0 f1 => hO f s o f0 (by omega)) (fun w k hc hk => h w hc.1.1 hc.1.2.1 hc.1.2.2.1 hc.1.2.2.2.2.1 hc.1.2.2.2.2.2 (hc.end hk hi0 hG) hc.2.1) _ 0 w0 (Int.le_refl _) (by decide) rfl ⟨⟨mj_fr.refl i w0, hA, fun s s0 s1 => hS i s hi0 (Int.le_refl _) s0 s1, by rw [h67]; decide, fun s o hr hit => hO i s o hi0 (Int.le_refl _) hr hit, fun s o _ z => z⟩, fun T _ hs => hs, fun j j0 j1 => by omega, fun l l0 l1 z => ?_⟩)
  unfold mj_ch at z
  rw [h67, mj_t_zero] at z
  cases z
end C55
