/-! ===== the class: sum, treesOfAll, countTrees ===== -/
theorem mf_sg.of {w w' : mj_w} (i j : Int) (h : ∀ (p : Nat) (a b : Int), p ≤ 5 → w' p a b = w p a b) : mf_sg w w' i j := ⟨h 1 0 0 (by decide), fun r _ _ => ⟨h 2 r 0 (by decide), fun _ _ _ => h 3 _ 0 (by decide)⟩, fun a _ _ => h 5 a 0 (by decide)⟩
theorem mf_LD.inv {u : mj_w} {V : Int → Int → Int → Int} {i j : Int} (h : mf_LD u V i j) (hG : mj_GI u) {s : Int} (s0 : 0 ≤ s) (s1 : s < 5) (hv : V s i j ≠ 0) : ∃ q, mf_cut u i j q ∧ u 2 q.1 0 = s ∧ mf_way u (fun s a b => V s a b ≠ 0) i j q := by
  have := h.2 (fun s => V s i j ≠ 0 ∧ ∃ q, mf_cut u i j q ∧ u 2 q.1 0 = s ∧ mf_way u (fun s a b => V s a b ≠ 0) i j q) (fun q hc hw => ?_) s s0 s1 hv
  · exact this.2
  · have hw2 : mf_way u (fun s a b => V s a b ≠ 0) i j q := hw.mono hc.2 (fun _ _ _ => rfl) (fun k k0 k1 => hG.sy hc.1 k k0 k1) (fun _ _ _ => rfl) (fun s a b s0 s1 a0 ab b1 hN => by
      unfold mf_N at hN
      by_cases e : a = i ∧ b = j
      · rw [if_pos e] at hN
        rw [e.1, e.2]; exact hN.1
      · rw [if_neg e] at hN; exact hN)
    exact ⟨h.1 q hc hw2, q, hc, rfl, hw2⟩
/-- where countTrees stands -/
def mf_ct (i j : Int) (u w : mj_w) : Prop := mf_g i j u w ∧ (∀ s : Int, 0 ≤ s → s < 5 → mf_rv (mf_V w s i j)) ∧ (∀ s : Int, 0 ≤ s → s < 5 → (mf_V w s i j ≠ 0 ↔ mf_V u s i j ≠ 0)) ∧ (∀ s : Int, 0 ≤ s → s < 5 → mf_V w s i j ≠ -1 → mf_V w s i j = mf_tot w (mf_V w) s i j) ∧
  ∀ S : Int → Prop, (∀ s : Int, 0 ≤ s → s < 5 → mf_V w s i j ≠ -1 → (∀ q, mf_cut u i j q → u 2 q.1 0 = s → mf_way u (fun s a b => mf_V u s a b ≠ 0) i j q → mf_way u (fun s' a b => a = i ∧ b = j → S s') i j q) → S s) → ∀ s : Int, 0 ≤ s → s < 5 → mf_V w s i j ≠ -1 → S s
theorem mf_ct.H {i j : Int} {u w : mj_w} (h : mf_ct i j u w) (hH : mf_H u) (hi : 0 ≤ i ∧ i < 13) (hj : 0 ≤ j ∧ j < 13) : mf_H w :=
  h.1.H hH (fun s s0 s1 => by
    have := h.2.1 s s0 s1
    rw [mf_V_at ⟨s0, s1⟩ hi hj] at this
    exact this)
theorem mf_g.sg {i j : Int} {u w : mj_w} (h : mf_g i j u w) (a b : Int) : mf_sg u w a b := mf_sg.of a b (fun p x y hp => h.le (by omega) x y)
/-- the ways are the same -/
theorem mf_ct.way {i j : Int} {u w : mj_w} (h : mf_ct i j u w) (hG : mj_GI u) (hi : 0 ≤ i ∧ i < 13) (hj : 0 ≤ j ∧ j < 13) {q : Int × Int × Int} (hc : mf_cut u i j q) : mf_way u (fun s a b => mf_V u s a b ≠ 0) i j q → mf_way w (fun s a b => mf_V w s a b ≠ 0) i j q := fun hw =>
  hw.sg hG (h.1.sg i j) hc (fun s a b s0 s1 _ _ _ hN => by
    by_cases e : a = i ∧ b = j
    · rw [e.1, e.2] at hN ⊢; exact (h.2.2.1 s s0 s1).mpr hN
    · rw [h.1.V hi hj e]; exact hN)
theorem mf_ct.way' {i j : Int} {u w : mj_w} (h : mf_ct i j u w) (hG : mj_GI w) (hi : 0 ≤ i ∧ i < 13) (hj : 0 ≤ j ∧ j < 13) {q : Int × Int × Int} (hc : mf_cut w i j q) : mf_way w (fun s a b => mf_V w s a b ≠ 0) i j q → mf_way u (fun s a b => mf_V u s a b ≠ 0) i j q := fun hw =>
  hw.sg hG (h.1.sg i j).symm hc (fun s a b s0 s1 _ _ _ hN => by
    by_cases e : a = i ∧ b = j
    · rw [e.1, e.2] at hN ⊢; exact (h.2.2.1 s s0 s1).mp hN
    · rw [← h.1.V hi hj e]; exact hN)
theorem mf_ct.start {i j : Int} {u : mj_w} (hH : mf_H u) (hij : i ≤ j) (hv : ∀ s : Int, 0 ≤ s → s < 5 → mf_V u s i j = 0 ∨ mf_V u s i j = -1) (hL : mf_LD u (mf_V u) i j) : mf_ct i j u u := by
  have hn : ∀ s : Int, 0 ≤ s → s < 5 → mf_V u s i j ≠ -1 → ∀ q, mf_cut u i j q → u 2 q.1 0 = s → ¬ mf_way u (fun s a b => mf_V u s a b ≠ 0) i j q := fun s s0 s1 h q hc hl hw => by
    have := hL.1 q hc hw
    rw [hl] at this
    exact h ((hv s s0 s1).resolve_left this)
  refine ⟨mf_g.refl i j u, fun s s0 s1 => hH.rv s i j, fun _ _ _ => Iff.rfl, fun s s0 s1 h => ?_, fun S hS s s0 s1 h => hS s s0 s1 h (fun q hc hl hw => absurd hw (hn s s0 s1 h q hc hl))⟩
  rw [(hv s s0 s1).resolve_right h, eq_comm, mf_tot_zero hH.rv hH.1.1.1 (by omega)]
  apply List.eq_nil_iff_forall_not_mem.mpr
  intro q hq
  obtain ⟨m1, m2, m3, m4, m5, m6⟩ := (mf_mem hH.1.1.1 (by omega)).mp hq
  exact hn s s0 s1 h q ⟨m1, m3, m4, m5⟩ m2 ((mf_val_nz hH.rv).mp m6)
theorem mf_ct.step {i j : Int} {u w w9 : mj_w} (h : mf_ct i j u w) (hH : mf_H u) (hL : mf_LD u (mf_V u) i j) (hi : 0 ≤ i ∧ i < 13) (hj : 0 ≤ j ∧ j < 13) (hij : i ≤ j) {s : Int} (hs : 0 ≤ s ∧ s < 5) (h9 : ∀ (p : Nat) (a b : Int), p ≠ 17 → p ≠ 18 → p ≠ 19 → p ≠ 20 → w9 p a b = w p a b) (hz : mf_V w s i j = -1) {x : Int} (hx : x = mf_tot w (mf_V w) s i j) : mf_ct i j u (mj_wu w9 16 ((s * 13 + i) * 13 + j) 0 x) ∧ mf_V (mj_wu w9 16 ((s * 13 + i) * 13 + j) 0 x) s i j = x ∧ (∀ k : Int, 0 ≤ k → k < 5 → k ≠ s → mf_V (mj_wu w9 16 ((s * 13 + i) * 13 + j) 0 x) k i j = mf_V w k i j) ∧ (x = -1 → mf_V (mj_wu w9 16 ((s * 13 + i) * 13 + j) 0 x) = mf_V w) := by
  have hHw := h.H hH hi hj
  generalize hw' : mj_wu w9 16 ((s * 13 + i) * 13 + j) 0 x = w'
  have ev : mf_V w' s i j = x := by
    rw [mf_V_at hs hi hj, ← hw']; unfold mj_wu; simp
  have eo : ∀ k : Int, 0 ≤ k → k < 5 → k ≠ s → mf_V w' k i j = mf_V w k i j := fun k k0 k1 hk => by
    rw [mf_V_at ⟨k0, k1⟩ hi hj, mf_V_at ⟨k0, k1⟩ hi hj, ← hw', mj_wu_n (fun z => by omega), h9 16 _ _ (by decide) (by decide) (by decide) (by decide)]
  have hg : mf_g i j w w' := fun p a b c1 c2 c3 c4 c5 => by
    rw [← hw', mj_wu_n (fun z => c5 ⟨z.1, ⟨s, hs.1, hs.2, z.2.1⟩, z.2.2⟩), h9 p a b c1 c2 c3 c4]
  have hgu := h.1.trans hg
  have x0 : x ≠ 0 := by
    rw [hx, Ne, mf_tot_zero hHw.rv hHw.1.1.1 (by omega)]
    intro z
    obtain ⟨q, hc, hl, hw⟩ := hL.inv hH.1 hs.1 hs.2 ((h.2.2.1 s hs.1 hs.2).mp (by rw [hz]; decide))
    have hw2 := h.way hH.1 hi hj hc hw
    have hc2 := (h.1.sg i j).cut hc
    have : q ∈ mf_ways w (mf_V w) s i j := (mf_mem hHw.1.1.1 (by omega)).mpr ⟨hc2.1, by rw [← hl]; exact h.1.le (by decide) q.1 0, hc2.2.1, hc2.2.2.1, hc2.2.2.2, (mf_val_nz hHw.rv).mpr hw2⟩
    rw [z] at this
    cases this
  have xr : mf_rv x := by rw [hx]; exact mf_tot_rv hHw.rv s i j
  have hr' : ∀ k : Int, 0 ≤ k → k < 5 → mf_rv (mf_V w' k i j) := fun k k0 k1 => by
    by_cases e : k = s
    · rw [e, ev]; exact xr
    · rw [eo k k0 k1 e]; exact h.2.1 k k0 k1
  have hHw' : mf_H w' := hg.H hHw (fun k k0 k1 => by rw [← mf_V_at (w := w') ⟨k0, k1⟩ hi hj]; exact hr' k k0 k1)
  have hnz : ∀ k a b : Int, 0 ≤ k → k < 5 → (mf_V w' k a b ≠ 0 ↔ mf_V w k a b ≠ 0) := fun k a b k0 k1 => by
    by_cases e : a = i ∧ b = j
    · rw [e.1, e.2]
      by_cases e2 : k = s
      · rw [e2, ev, hz]; exact ⟨fun _ => by decide, fun _ => x0⟩
      · rw [eo k k0 k1 e2]
    · rw [hg.V hi hj e]
  have hne : ∀ k a b : Int, 0 ≤ k → k < 5 → mf_V w k a b ≠ -1 → mf_V w k a b = mf_V w' k a b := fun k a b k0 k1 hk => by
    by_cases e : a = i ∧ b = j
    · rw [e.1, e.2] at hk ⊢
      by_cases e2 : k = s
      · rw [e2] at hk; exact absurd hz hk
      · rw [eo k k0 k1 e2]
    · rw [hg.V hi hj e]
  have htot : ∀ k : Int, mf_tot w (mf_V w) k i j ≠ -1 → mf_tot w (mf_V w) k i j = mf_tot w' (mf_V w') k i j := fun k hk => by
    refine mf_tot_congr hHw.1.1.1 (by omega) (hg.sg i j) (fun q hc hl => ?_) (fun q hc hl hv => ?_)
    · rw [mf_val_nz hHw.rv, mf_val_nz hHw'.rv]
      exact ⟨fun z => z.sg hHw.1 (hg.sg i j) hc (fun k a b k0 k1 _ _ _ hN => (hnz k a b k0 k1).mpr hN), fun z => z.sg hHw'.1 (hg.sg i j).symm ((hg.sg i j).cut hc) (fun k a b k0 k1 _ _ _ hN => (hnz k a b k0 k1).mp hN)⟩
    · have hv2 : mf_val w (mf_V w) i j q ≠ -1 := fun z => hk ((mf_tot_end hHw.rv).mpr ⟨q, (mf_mem hHw.1.1.1 (by omega)).mpr ⟨hc.1, hl, hc.2.1, hc.2.2.1, hc.2.2.2, hv⟩, z⟩)
      exact mf_val_eq hHw.1 (hg.sg i j) hc ((mf_val_fin hHw.rv).mp ⟨hv, hv2⟩) (fun k a b k0 k1 _ _ _ hN => hne k a b k0 k1 hN.2)
  refine ⟨⟨hgu, hr', fun k k0 k1 => (hnz k i j k0 k1).trans (h.2.2.1 k k0 k1), fun k k0 k1 hk => ?_, fun S hS => ?_⟩, ev, eo, fun hx1 => ?_⟩
  · by_cases e : k = s
    · rw [e, ev] at hk ⊢
      rw [← htot s (by rw [← hx]; exact hk)]
      exact hx
    · rw [eo k k0 k1 e] at hk ⊢
      have := h.2.2.2.1 k k0 k1 hk
      rw [← htot k (by rw [← this]; exact hk)]
      exact this
  · have hold := h.2.2.2.2 S (fun k k0 k1 hk hq => hS k k0 k1 (by rw [← hne k i j k0 k1 hk]; exact hk) hq)
    intro k k0 k1 hk
    by_cases e : k = s
    · refine hS k k0 k1 hk (fun q hc hl hw => ?_)
      rw [e] at hl
      rw [e, ev] at hk
      have hc2 := (h.1.sg i j).cut hc
      have hv : mf_val w (mf_V w) i j q ≠ 0 := (mf_val_nz hHw.rv).mpr (h.way hH.1 hi hj hc hw)
      have hv2 : mf_val w (mf_V w) i j q ≠ -1 := fun z => hk (by rw [hx]; exact (mf_tot_end hHw.rv).mpr ⟨q, (mf_mem hHw.1.1.1 (by omega)).mpr ⟨hc2.1, by rw [← hl]; exact h.1.le (by decide) q.1 0, hc2.2.1, hc2.2.2.1, hc2.2.2.2, hv⟩, z⟩)
      exact ((mf_val_fin hHw.rv).mp ⟨hv, hv2⟩).sg hHw.1 (h.1.sg i j).symm hc2 (fun k' a b k0 k1 _ _ _ hN e2 => hold k' k0 k1 (by rw [← e2.1, ← e2.2]; exact hN.2))
    · rw [eo k k0 k1 e] at hk
      exact hold k k0 k1 hk
  · funext k a b
    by_cases q3 : (0 ≤ k ∧ k < 5) ∧ (0 ≤ a ∧ a < 13) ∧ 0 ≤ b ∧ b < 13
    · by_cases q4 : a = i ∧ b = j
      · rw [q4.1, q4.2]
        by_cases e : k = s
        · rw [e, ev, hz, hx1]
        · exact eo k q3.1.1 q3.1.2 e
      · rw [hg.V hi hj q4]
    · unfold mf_V; rw [if_neg q3, if_neg q3]
theorem mf_ct.TB {i j : Int} {u w : mj_w} (h : mf_ct i j u w) (hH : mf_H u) (hL : mf_LD u (mf_V u) i j) (hi : 0 ≤ i ∧ i < 13) (hj : 0 ≤ j ∧ j < 13) (hc : ∀ s : Int, 0 ≤ s → s < 5 → mf_V w s i j = -1 → mf_tot w (mf_V w) s i j = -1) : mf_TB w (mf_V w) i j := by
  have hHw := h.H hH hi hj
  refine ⟨fun s s0 s1 => ?_, fun S hS s s0 s1 hv => ?_, fun S hS s s0 s1 hv => ?_⟩
  · by_cases e : mf_V w s i j = -1
    · rw [hc s s0 s1 e, e]
    · exact h.2.2.2.1 s s0 s1 e
  · refine hL.2 S (fun q hq hw => ?_) s s0 s1 ((h.2.2.1 s s0 s1).mp hv)
    have hc2 := (h.1.sg i j).cut hq
    rw [← h.1.le (p := 2) (by decide) q.1 0]
    refine hS q hc2 (hw.sg hH.1 (h.1.sg i j) hq (fun k a b k0 k1 _ _ _ hN => ?_))
    unfold mf_N at hN ⊢
    by_cases e : a = i ∧ b = j
    · rw [if_pos e] at hN ⊢; exact hN
    · rw [if_neg e] at hN ⊢
      rw [h.1.V hi hj e]; exact hN
  · refine h.2.2.2.2 S (fun k k0 k1 hk hq => hS k k0 k1 hk (fun q hcw hl hw => ?_)) s s0 s1 hv
    have hcu := (h.1.sg i j).symm.cut hcw
    exact (hq q hcu (by rw [← hl]; exact (h.1.le (by decide) q.1 0).symm) (h.way' hHw.1 hi hj hcw hw)).sg hH.1 (h.1.sg i j) hcu (fun _ _ _ _ _ _ _ _ hN => hN)
section C75
variable {g : mj_G} {nn d : Nat} {xs : mj_M} {Post : Option mj_V → mj_w → Prop} {u w : mj_w}
theorem c_sum (hn : 21 ≤ nn) {x y : Int} (hx : mf_rv x) (hy : mf_rv y) (h : Post (some (.inr (.inl (mf_sm x y)))) w) :
    mj_J g y_CF_sum (d + 1) 0 0 (0, [some (.inr (.inl x)), none, some (.inr (.inl y)), none], [], mj_mem nn xs w) (mj_P nn xs Post) := by
  have lx : mj_l x := by rcases hx with h | h <;> exact ⟨by omega, by omega⟩
  have ly : mj_l y := by rcases hy with h | h <;> exact ⟨by omega, by omega⟩
  unfold mf_sm at h
  refine v_CF_sum_0 hn ⟨lx, fun q => ?_, fun q => ⟨ly, fun q1 => ?_, fun q1 => ⟨?_, ?_⟩⟩⟩
  · rwa [if_pos q] at h
  · rwa [if_neg q, if_pos q1] at h
  · have h1 := hx.resolve_left q
    have h2 := hy.resolve_left q1
    exact ⟨by omega, by omega⟩
  · rwa [if_neg q, if_neg q1] at h
theorem c_treesOfAll_4 (hn : 21 ≤ nn) {L : List (Int × Int × Int)} {f : Int × Int × Int → Int} (hP : mf_arr w L f) (hr : ∀ q, mf_rv (f q)) (hL : L.length ≤ 910) {t : Int} (h : Post (some (.inr (.inl t))) w) :
    ∀ (R P : List (Int × Int × Int)) (x : Int), P ++ R = L → mf_rv x → mf_fs x (R.map f) = t → mj_J g y_Wa_treesOfAll (d + 2) 0 0 (4, [some (mj_R 17), some (.inr (.inl x)), none, some (.inl (P.length : Int))], [], mj_mem nn xs w) (mj_P nn xs Post) := by
  intro R
  have e4 := hP.1
  induction R with
  | nil =>
    intro P x hl hx ht
    rw [List.append_nil] at hl
    rw [hl]
    have ht2 : x = t := ht
    rw [ht2]
    exact v_Wa_treesOfAll_4 (d := d + 1) hn ⟨⟨by omega, by omega⟩, ⟨by omega, by omega⟩, fun q => by omega, fun q => h⟩
  | cons q0 R ih =>
    intro P x hl hx ht
    have hk : L[P.length]? = some q0 := by rw [← hl, List.getElem?_append_right (Nat.le_refl _), Nat.sub_self]; rfl
    have hlen : P.length + (R.length + 1) = L.length := by rw [← hl, List.length_append, List.length_cons]
    obtain ⟨t1, t2, t3⟩ := hP.2 _ _ hk
    refine v_Wa_treesOfAll_4 (d := d + 1) hn ⟨⟨by omega, by omega⟩, ⟨by omega, by omega⟩, fun q => ⟨by omega, by omega, ?_⟩, fun q => by omega⟩
    rw [t3]
    refine c_sum hn hx (hr _) ⟨_, rfl, ?_⟩
    have := ih (P ++ [q0]) (mf_sm x (f q0)) (by rw [List.append_assoc]; exact hl) (mf_sm_rv hx (hr _)) ht
    rw [List.length_append, List.length_singleton] at this
    rw [show ((P.length + 1 : Nat) : Int) = (P.length : Int) + 1 by omega] at this
    exact this
theorem c_treesOfAll (hn : 21 ≤ nn) {L : List (Int × Int × Int)} {f : Int × Int × Int → Int} (hP : mf_arr w L f) (hr : ∀ q, mf_rv (f q)) (hL : L.length ≤ 910) (h : Post (some (.inr (.inl (mf_fs 0 (L.map f))))) w) :
    mj_J g y_Wa_treesOfAll (d + 2) 0 0 (0, [some (mj_R 17), none, none, none], [], mj_mem nn xs w) (mj_P nn xs Post) :=
  v_Wa_treesOfAll_0 (d := d + 1) hn (c_treesOfAll_4 hn hP hr hL h L [] 0 rfl (Or.inr (by decide)) rfl)
theorem c_countTrees_20 (hn : 21 ≤ nn) (hH : mf_H u) {i j c : Int} (hL : mf_LD u (mf_V u) i j) (hi0 : 0 ≤ i) (hij : i ≤ j) (hj : j ≤ u 4 0 0) (hc0 : 0 ≤ c) (hc5 : c < 5)
    (h0 : ∀ w, mf_ct i j u w → (∀ s : Int, 0 ≤ s → s < 5 → mf_V w s i j = -1 → mf_tot w (mf_V w) s i j = -1) → mj_J g y_Fo_countTrees (d + 4) 0 0 (5, [some (mj_R 11), some (.inl i), some (.inl j), some (.inl 0), some (.inl (c + 1)), none, none], [], mj_mem nn xs w) (mj_P nn xs Post))
    (h1 : ∀ w, mf_ct i j u w → c + 1 ≤ (mf_cnt (fun s => mf_V w s i j ≠ -1) : Int) → mj_J g y_Fo_countTrees (d + 4) 0 0 (5, [some (mj_R 11), some (.inl i), some (.inl j), some (.inl 1), some (.inl (c + 1)), none, none], [], mj_mem nn xs w) (mj_P nn xs Post)) :
    ∀ (m : Nat) (s ch : Int) (w : mj_w), 0 ≤ s → s ≤ 5 → (5 - s).toNat = m → mf_ct i j u w → ((ch = 0 ∧ c ≤ (mf_cnt (fun s => mf_V w s i j ≠ -1) : Int) ∧ ∀ k : Int, 0 ≤ k → k < s → mf_V w k i j = -1 → mf_tot w (mf_V w) k i j = -1) ∨ (ch = 1 ∧ c + 1 ≤ (mf_cnt (fun s => mf_V w s i j ≠ -1) : Int))) →
    mj_J g y_Fo_countTrees (d + 4) 0 0 (20, [some (mj_R 11), some (.inl i), some (.inl j), some (.inl ch), some (.inl c), some (.inl s), none], [], mj_mem nn xs w) (mj_P nn xs Post) := by
  intro m
  have hlen := hH.2.2.1
  have hi : 0 ≤ i ∧ i < 13 := ⟨hi0, by omega⟩
  have hjj : 0 ≤ j ∧ j < 13 := ⟨by omega, by omega⟩
  induction m with
  | zero =>
    intro s ch w s0 s1 hm hf hch
    have es : s = 5 := by omega
    subst es
    refine v_Fo_countTrees_20 (d := d + 3) hn ⟨⟨by decide, by decide⟩, fun q => absurd q (by decide), fun _ => ?_⟩
    rcases hch with ⟨rfl, _, z⟩ | ⟨rfl, z⟩
    · exact h0 w hf (fun k k0 k1 => z k k0 k1)
    · exact h1 w hf z
  | succ m ih =>
    intro s ch w s0 s1 hm hf hch
    have hs : 0 ≤ s ∧ s < 5 := ⟨s0, by omega⟩
    have hHw := hf.H hH hi hjj
    have e4 : w 4 0 0 = u 4 0 0 := hf.1.le (by decide) 0 0
    have eV : mf_V w s i j = w 16 ((s * 13 + i) * 13 + j) 0 := mf_V_at hs hi hjj
    have hv := hf.2.1 s s0 hs.2
    refine v_Fo_countTrees_20 (d := d + 3) hn ⟨⟨by omega, by omega⟩, fun q => c_cellOf hn ⟨_, rfl, by omega, by omega, ?_, fun q1 => ?_, fun q1 => ?_⟩, fun q => by omega⟩
    · rw [← eV]
      rcases hv with z | z <;> exact ⟨by omega, by omega⟩
    · rw [← eV] at q1
      refine c_gather (d := d) hn hHw hs hi0 hij (by rw [e4]; exact hj) (fun w9 f9 _ _ a9 => ⟨rfl, ?_⟩)
      have hl9 := mf_len (u := w) (V := mf_V w) (s := s) (i := i) (j := j) hHw.1.1.1 hHw.1.1.2 (by omega)
      refine c_treesOfAll (d := d + 1) hn a9 (fun q => mf_val_rv hHw.rv i j q) hl9 ⟨_, rfl, ?_⟩
      rw [show mf_fs 0 ((mf_ways w (mf_V w) s i j).map (mf_val w (mf_V w) i j)) = mf_tot w (mf_V w) s i j from rfl]
      rintro w13 rfl
      obtain ⟨t1, t2, t3, t4⟩ := hf.step hH hL hi hjj hij hs f9 q1 rfl
      have tr := mf_tot_rv (u := w) hHw.rv s i j
      have own : mj_wu w9 16 ((s * 13 + i) * 13 + j) 0 (mf_tot w (mf_V w) s i j) 16 ((s * 13 + i) * 13 + j) 0 = mf_tot w (mf_V w) s i j := by unfold mj_wu; simp
      by_cases hx : mf_tot w (mf_V w) s i j = -1
      · have eVV := t4 hx
        have etot : ∀ k, mf_tot (mj_wu w9 16 ((s * 13 + i) * 13 + j) 0 (mf_tot w (mf_V w) s i j)) (mf_V (mj_wu w9 16 ((s * 13 + i) * 13 + j) 0 (mf_tot w (mf_V w) s i j))) k i j = mf_tot w (mf_V w) k i j := fun k => by
          have hsg : mf_sg w (mj_wu w9 16 ((s * 13 + i) * 13 + j) 0 (mf_tot w (mf_V w) s i j)) i j := mf_sg.of i j (fun p a b hp => (mj_wu_n (fun z => by omega)).trans (f9 p a b (by omega) (by omega) (by omega) (by omega)))
          have e : ∀ q, mf_cut w i j q → mf_val w (mf_V w) i j q = mf_val (mj_wu w9 16 ((s * 13 + i) * 13 + j) 0 (mf_tot w (mf_V w) s i j)) (mf_V (mj_wu w9 16 ((s * 13 + i) * 13 + j) 0 (mf_tot w (mf_V w) s i j))) i j q := fun q hc => mf_val_agree hHw.1 hsg hc (fun s a b _ _ _ _ _ => by rw [eVV])
          exact (mf_tot_congr hHw.1.1.1 (by omega) hsg (fun q hc _ => by rw [e q hc]) (fun q hc _ _ => e q hc)).symm
        have hch' : (ch = 0 ∧ c ≤ (mf_cnt (fun s' => mf_V (mj_wu w9 16 ((s * 13 + i) * 13 + j) 0 (mf_tot w (mf_V w) s i j)) s' i j ≠ -1) : Int) ∧ ∀ k : Int, 0 ≤ k → k < s + 1 → mf_V (mj_wu w9 16 ((s * 13 + i) * 13 + j) 0 (mf_tot w (mf_V w) s i j)) k i j = -1 → mf_tot (mj_wu w9 16 ((s * 13 + i) * 13 + j) 0 (mf_tot w (mf_V w) s i j)) (mf_V (mj_wu w9 16 ((s * 13 + i) * 13 + j) 0 (mf_tot w (mf_V w) s i j))) k i j = -1) ∨ (ch = 1 ∧ c + 1 ≤ (mf_cnt (fun s' => mf_V (mj_wu w9 16 ((s * 13 + i) * 13 + j) 0 (mf_tot w (mf_V w) s i j)) s' i j ≠ -1) : Int)) := by
          rcases hch with ⟨z1, z2, z3⟩ | ⟨z1, z2⟩
          · refine Or.inl ⟨z1, by simp only [eVV]; exact z2, fun k k0 k1 hk => ?_⟩
            rw [etot k]
            rw [eVV] at hk
            by_cases e : k = s
            · rw [e]; exact hx
            · exact z3 k k0 (by omega) hk
          · exact Or.inr ⟨z1, by simp only [eVV]; exact z2⟩
        have nxt := ih (s + 1) ch _ (by omega) (by omega) (by omega) t1 hch'
        rw [own]
        rcases hch with ⟨rfl, _⟩ | ⟨rfl, _⟩
        · exact ⟨⟨by decide, by decide⟩, fun _ => ⟨by rcases tr with z | z <;> exact ⟨by omega, by omega⟩, fun _ => nxt, fun z => absurd hx z⟩, fun z => absurd rfl z⟩
        · exact ⟨⟨by decide, by decide⟩, fun z => absurd z (by decide), fun _ => nxt⟩
      · have hcnt := mf_cnt_up (f := fun k => mf_V w k i j ≠ -1) (f' := fun k => mf_V (mj_wu w9 16 ((s * 13 + i) * 13 + j) 0 (mf_tot w (mf_V w) s i j)) k i j ≠ -1) s0 hs.2 (fun z => z q1) (by rw [t2]; exact hx) (fun k k0 k1 hk => by rw [t3 k k0 k1 hk])
        have nxt := ih (s + 1) 1 _ (by omega) (by omega) (by omega) t1 (Or.inr ⟨rfl, by rw [hcnt]; rcases hch with z | z <;> omega⟩)
        rw [own]
        rcases hch with ⟨rfl, _⟩ | ⟨rfl, _⟩
        · exact ⟨⟨by decide, by decide⟩, fun _ => ⟨by rcases tr with z | z <;> exact ⟨by omega, by omega⟩, fun z => absurd z hx, fun _ => nxt⟩, fun z => absurd rfl z⟩
        · exact ⟨⟨by decide, by decide⟩, fun z => absurd z (by decide), fun _ => nxt⟩
    · rw [← eV] at q1
      refine ih (s + 1) ch w (by omega) (by omega) (by omega) hf ?_
      rcases hch with ⟨z1, z2, z3⟩ | z
      · refine Or.inl ⟨z1, z2, fun k k0 k1 hk => ?_⟩
        by_cases e : k = s
        · rw [e] at hk; exact absurd hk q1
        · exact z3 k k0 (by omega) hk
      · exact Or.inr z
theorem c_countTrees_5 (hn : 21 ≤ nn) (hH : mf_H u) {i j : Int} (hL : mf_LD u (mf_V u) i j) (hi0 : 0 ≤ i) (hij : i ≤ j) (hj : j ≤ u 4 0 0)
    (h : ∀ w, mf_ct i j u w → (∀ s : Int, 0 ≤ s → s < 5 → mf_V w s i j = -1 → mf_tot w (mf_V w) s i j = -1) → Post none w) :
    ∀ (m : Nat) (c : Int) (w : mj_w), 0 ≤ c → c ≤ 5 → (5 - c).toNat = m → mf_ct i j u w → c ≤ (mf_cnt (fun s => mf_V w s i j ≠ -1) : Int) →
    mj_J g y_Fo_countTrees (d + 4) 0 0 (5, [some (mj_R 11), some (.inl i), some (.inl j), some (.inl 1), some (.inl c), none, none], [], mj_mem nn xs w) (mj_P nn xs Post) := by
  intro m
  induction m with
  | zero =>
    intro c w c0 c1 hm hf hc
    have ec : c = 5 := by omega
    subst ec
    refine v_Fo_countTrees_5 (d := d + 3) hn ⟨⟨by decide, by decide⟩, fun q => absurd q (by decide), fun _ => ⟨⟨by decide, by decide⟩, fun q => absurd q (by decide), fun _ => h w hf (fun s s0 s1 hz => ?_)⟩⟩
    exact absurd hz (mf_cnt_all (f := fun s => mf_V w s i j ≠ -1) (by omega) s0 s1)
  | succ m ih =>
    intro c w c0 c1 hm hf hc
    refine v_Fo_countTrees_5 (d := d + 3) hn ⟨⟨by decide, by decide⟩, fun q => absurd q (by decide), fun _ => ⟨⟨by omega, by omega⟩, fun q => ?_, fun q => by omega⟩⟩
    refine c_countTrees_20 hn hH hL hi0 hij hj c0 (by omega) (fun w' hf' hz' => ?_) (fun w' hf' hc' => ih (c + 1) w' (by omega) (by omega) (by omega) hf' hc') _ 0 0 w (Int.le_refl _) (by decide) rfl hf (Or.inl ⟨rfl, hc, fun k k0 k1 => by omega⟩)
    exact v_Fo_countTrees_5 (d := d + 3) hn ⟨⟨by decide, by decide⟩, fun _ => h w' hf' hz', fun q => absurd rfl q⟩
/-- countTrees -/
theorem c_countTrees (hn : 21 ≤ nn) (hH : mf_H u) {i j : Int} (hi0 : 0 ≤ i) (hij : i ≤ j) (hj : j ≤ u 4 0 0) (hv : ∀ s : Int, 0 ≤ s → s < 5 → mf_V u s i j = 0 ∨ mf_V u s i j = -1) (hL : mf_LD u (mf_V u) i j)
    (h : ∀ w, mf_g i j u w → mf_H w → mf_TB w (mf_V w) i j → Post none w) :
    mj_J g y_Fo_countTrees (d + 4) 0 0 (0, [some (mj_R 11), some (.inl i), some (.inl j), none, none, none, none], [], mj_mem nn xs u) (mj_P nn xs Post) := by
  have hlen := hH.2.2.1
  have hi : 0 ≤ i ∧ i < 13 := ⟨hi0, by omega⟩
  have hjj : 0 ≤ j ∧ j < 13 := ⟨by omega, by omega⟩
  exact v_Fo_countTrees_0 (d := d + 3) hn (c_countTrees_5 hn hH hL hi0 hij hj (fun w hf hz => h w hf.1 (hf.H hH hi hjj) (hf.TB hH hL hi hjj hz)) _ 0 u (Int.le_refl _) (by decide) rfl (mf_ct.start hH hij hv hL) (by omega))
end C75
