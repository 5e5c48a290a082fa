/-! ===== the class: findDeriving's loops ===== -/
theorem mf_arr_pos {w : mj_w} {P : List (Int × Int × Int)} {f : Int × Int × Int → Int} (h : mf_arr w P f) : (0 < w 17 4 0 ↔ P ≠ []) ∧ 0 ≤ w 17 4 0 := by
  have := h.1
  cases P with
  | nil =>
    have e : w 17 4 0 = 0 := this
    rw [e]
    exact ⟨⟨fun z => absurd z (by decide), fun z => absurd rfl z⟩, Int.le_refl _⟩
  | cons a l => simp only [List.length_cons] at this; simp; omega
theorem mf_ways_nil {w w' : mj_w} {s i j : Int} (e1 : w' 1 0 0 = w 1 0 0) (e2 : ∀ r, w' 2 r 0 = w 2 r 0) (h : ∀ q, (mf_val w' (mf_V w') i j q ≠ 0 ↔ mf_val w (mf_V w) i j q ≠ 0)) (hc : 0 ≤ w 1 0 0) (hij : i ≤ j + 1) : mf_ways w' (mf_V w') s i j = [] ↔ mf_ways w (mf_V w) s i j = [] := by
  constructor
  · intro z
    apply List.eq_nil_iff_forall_not_mem.mpr
    intro q hq
    have := (mf_mem hc hij).mp hq
    have : q ∈ mf_ways w' (mf_V w') s i j := (mf_mem (by rw [e1]; exact hc) hij).mpr (by rw [e1, e2, h]; exact this)
    rw [z] at this
    cases this
  · intro z
    apply List.eq_nil_iff_forall_not_mem.mpr
    intro q hq
    have := (mf_mem (by rw [e1]; exact hc) hij).mp hq
    rw [e1, e2, h] at this
    have : q ∈ mf_ways w (mf_V w) s i j := (mf_mem hc hij).mpr this
    rw [z] at this
    cases this
theorem mf_val_congr {u u' : mj_w} {V V' : Int → Int → Int → Int} {i j : Int} {q : Int × Int × Int} (e3 : ∀ s, u' 3 s 0 = u 3 s 0) (e5 : ∀ a, u' 5 a 0 = u 5 a 0) (eV : V' = V) : mf_val u' V' i j q = mf_val u V i j q := by
  unfold mf_val mf_ov
  simp only [e3, e5, eV]
section C73
variable {g : mj_G} {nn d : Nat} {xs : mj_M} {Post : Option mj_V → mj_w → Prop} {u : mj_w}
theorem mf_fd_step {i j : Int} {w w9 : mj_w} (h : mf_fd i j u w) (hH : mf_H u) (hi : 0 ≤ i ∧ i < 13) (hj : 0 ≤ j ∧ j < 13) (hij : i ≤ j) {s x : Int} (hs : 0 ≤ s ∧ s < 5) (h9 : ∀ (p : Nat) (a b : Int), p ≠ 17 → p ≠ 18 → p ≠ 19 → p ≠ 20 → w9 p a b = w p a b) (hx : x = 0 ∨ (x = -1 ∧ mf_ways w (mf_V w) s i j ≠ [])) (hz : mf_V w s i j = 0) : mf_fd i j u (mj_wu w9 16 ((s * 13 + i) * 13 + j) 0 x) ∧ mf_V (mj_wu w9 16 ((s * 13 + i) * 13 + j) 0 x) s i j = x ∧ ∀ k : Int, 0 ≤ k → k < 5 → k ≠ s → mf_V (mj_wu w9 16 ((s * 13 + i) * 13 + j) 0 x) k i j = mf_V w k i j := by
  have ev : mf_V (mj_wu w9 16 ((s * 13 + i) * 13 + j) 0 x) s i j = x := by
    rw [mf_V_at hs hi hj]; unfold mj_wu; simp
  have eo : ∀ k : Int, 0 ≤ k → k < 5 → k ≠ s → mf_V (mj_wu w9 16 ((s * 13 + i) * 13 + j) 0 x) k i j = mf_V w k i j := fun k k0 k1 hk => by
    rw [mf_V_at ⟨k0, k1⟩ hi hj, mf_V_at ⟨k0, k1⟩ hi hj, mj_wu_n (fun z => by omega), h9 16 _ _ (by decide) (by decide) (by decide) (by decide)]
  refine ⟨⟨fun p a b c1 c2 c3 c4 c5 => ?_, fun k k0 k1 => ?_, fun S hS k k0 k1 hv => ?_⟩, ev, eo⟩
  · rw [mj_wu_n (fun z => c5 ⟨z.1, ⟨s, hs.1, hs.2, z.2.1⟩, z.2.2⟩), h9 p a b c1 c2 c3 c4]
    exact h.1 p a b c1 c2 c3 c4 c5
  · by_cases e : k = s
    · rw [e, ev]
      rcases hx with z | z
      · exact Or.inl z
      · exact Or.inr z.1
    · rw [eo k k0 k1 e]; exact h.2.1 k k0 k1
  · by_cases e : k = s
    · rw [e, ev] at hv
      have hne := (hx.resolve_left hv).2
      have hHw := h.H hH hi hj
      obtain ⟨q, hq⟩ := List.exists_mem_of_ne_nil _ hne
      obtain ⟨m1, m2, m3, m4, m5, m6⟩ := (mf_mem hHw.1.1.1 (by omega)).mp hq
      have e1 : w 1 0 0 = u 1 0 0 := h.1.le (by decide) 0 0
      have e2 : w 2 q.1 0 = u 2 q.1 0 := h.1.le (by decide) q.1 0
      have := hS q ⟨by rw [← e1]; exact m1, m3, m4, m5⟩ (h.1.wayN hH.1 hi hj ⟨m1, m3, m4, m5⟩ (fun s' a b c => h.2.2 S hS s' a b c) ((mf_val_nz hHw.rv).mp m6))
      rw [← e2, m2] at this
      rw [e]; exact this
    · rw [eo k k0 k1 e] at hv
      exact h.2.2 S hS k k0 k1 hv
theorem c_findDeriving_48 (hn : 21 ≤ nn) (hH : mf_H u) {i j c : Int} (hi0 : 0 ≤ i) (hij : i ≤ j) (hj : j ≤ u 4 0 0) (hc0 : 0 ≤ c) (hc5 : c < 5)
    (h0 : ∀ w, mf_fd i j u w → (∀ s : Int, 0 ≤ s → s < 5 → mf_V w s i j = 0 → mf_ways w (mf_V w) s i j = []) → mj_J g y_Fo_findDeriving (d + 4) 0 0 (33, [some (mj_R 11), some (.inl i), some (.inl j), some (.inl 0), some (.inl (c + 1)), none, none], [], mj_mem nn xs w) (mj_P nn xs Post))
    (h1 : ∀ w, mf_fd i j u w → c + 1 ≤ (mf_cnt (fun s => mf_V w s i j ≠ 0) : Int) → mj_J g y_Fo_findDeriving (d + 4) 0 0 (33, [some (mj_R 11), some (.inl i), some (.inl j), some (.inl 1), some (.inl (c + 1)), none, none], [], mj_mem nn xs w) (mj_P nn xs Post)) :
    ∀ (m : Nat) (s ch : Int) (w : mj_w), 0 ≤ s → s ≤ 5 → (5 - s).toNat = m → mf_fd i j u w → ((ch = 0 ∧ c ≤ (mf_cnt (fun s => mf_V w s i j ≠ 0) : Int) ∧ ∀ k : Int, 0 ≤ k → k < s → mf_V w k i j = 0 → mf_ways w (mf_V w) k i j = []) ∨ (ch = 1 ∧ c + 1 ≤ (mf_cnt (fun s => mf_V w s i j ≠ 0) : Int))) →
    mj_J g y_Fo_findDeriving (d + 4) 0 0 (48, [some (mj_R 11), some (.inl i), some (.inl j), some (.inl ch), some (.inl c), some (.inl s), none], [], mj_mem nn xs w) (mj_P nn xs Post) := by
  intro m
  have hlen := hH.2.2.1
  have hi : 0 ≤ i ∧ i < 13 := ⟨hi0, by omega⟩
  have hjj : 0 ≤ j ∧ j < 13 := ⟨by omega, by omega⟩
  induction m with
  | zero =>
    intro s ch w s0 s1 hm hf hch
    have es : s = 5 := by omega
    subst es
    refine v_Fo_findDeriving_48 (d := d + 3) hn ⟨⟨by decide, by decide⟩, fun q => absurd q (by decide), fun _ => ?_⟩
    rcases hch with ⟨rfl, _, z⟩ | ⟨rfl, z⟩
    · exact h0 w hf (fun k k0 k1 => z k k0 k1)
    · exact h1 w hf z
  | succ m ih =>
    intro s ch w s0 s1 hm hf hch
    have hs : 0 ≤ s ∧ s < 5 := ⟨s0, by omega⟩
    have hHw := hf.H hH hi hjj
    have e4 : w 4 0 0 = u 4 0 0 := hf.1.le (by decide) 0 0
    have eV : mf_V w s i j = w 16 ((s * 13 + i) * 13 + j) 0 := mf_V_at hs hi hjj
    have hv := hf.2.1 s s0 hs.2
    refine v_Fo_findDeriving_48 (d := d + 3) hn ⟨⟨by omega, by omega⟩, fun q => c_cellOf hn ⟨_, rfl, by omega, by omega, ?_, fun q1 => ?_, fun q1 => ?_⟩, fun q => by omega⟩
    · rw [← eV]
      rcases hv with z | z <;> rw [z] <;> exact ⟨by decide, by decide⟩
    · rw [← eV] at q1
      refine c_gather (d := d) hn hHw hs hi0 hij (by rw [e4]; exact hj) (fun w9 f9 _ _ a9 => ⟨rfl, ?_⟩)
      have hpos := mf_arr_pos a9
      have hlen9 : (w9 17 4 0) ≤ 910 := by
        rw [a9.1]
        have := mf_len (u := w) (V := mf_V w) (s := s) (i := i) (j := j) hHw.1.1.1 hHw.1.1.2 (by omega)
        omega
      have nw : ∀ x : Int, mj_wu w9 16 ((s * 13 + i) * 13 + j) 0 x 17 4 0 = w9 17 4 0 := fun x => mj_wu_n (fun z => by cases z.1)
      refine ⟨⟨by omega, by omega⟩, fun q2 => ?_, fun q2 => ?_⟩
      · rintro w13 rfl
        obtain ⟨t1, t2, t3⟩ := mf_fd_step hf hH hi hjj hij hs f9 (Or.inr ⟨rfl, hpos.1.mp q2⟩) q1
        have hcnt := mf_cnt_up (f := fun k => mf_V w k i j ≠ 0) (f' := fun k => mf_V (mj_wu w9 16 ((s * 13 + i) * 13 + j) 0 (-1)) k i j ≠ 0) s0 hs.2 (fun z => z q1) (by rw [t2]; decide) (fun k k0 k1 hk => by rw [t3 k k0 k1 hk])
        have nxt := ih (s + 1) 1 _ (by omega) (by omega) (by omega) t1 (Or.inr ⟨rfl, by rw [hcnt]; rcases hch with z | z <;> omega⟩)
        rw [nw]
        rcases hch with ⟨rfl, _⟩ | ⟨rfl, _⟩
        · exact ⟨⟨by decide, by decide⟩, fun _ => ⟨⟨by omega, by omega⟩, fun _ => nxt, fun z => absurd q2 z⟩, fun z => absurd rfl z⟩
        · exact ⟨⟨by decide, by decide⟩, fun z => absurd z (by decide), fun _ => nxt⟩
      · rintro w19 rfl
        obtain ⟨t1, t2, t3⟩ := mf_fd_step hf hH hi hjj hij hs f9 (x := 0) (Or.inl rfl) q1
        have hnil : mf_ways w (mf_V w) s i j = [] := Classical.byContradiction fun z => q2 (hpos.1.mpr z)
        have eVV : mf_V (mj_wu w9 16 ((s * 13 + i) * 13 + j) 0 0) = mf_V w := by
          funext k a b
          by_cases q3 : (0 ≤ k ∧ k < 5) ∧ (0 ≤ a ∧ a < 13) ∧ 0 ≤ b ∧ b < 13
          · by_cases q4 : a = i ∧ b = j
            · rw [q4.1, q4.2]
              by_cases e : k = s
              · rw [e, t2, q1]
              · exact t3 k q3.1.1 q3.1.2 e
            · rw [t1.1.V hi hjj q4, hf.1.V hi hjj q4]
          · unfold mf_V; rw [if_neg q3, if_neg q3]
        have ew : ∀ k, mf_ways (mj_wu w9 16 ((s * 13 + i) * 13 + j) 0 0) (mf_V (mj_wu w9 16 ((s * 13 + i) * 13 + j) 0 0)) k i j = [] ↔ mf_ways w (mf_V w) k i j = [] := fun k => by
          have ef : ∀ {p : Nat}, p ≤ 15 → ∀ a b, mj_wu w9 16 ((s * 13 + i) * 13 + j) 0 0 p a b = w p a b := fun {p} hp a b => (mj_wu_n (fun z => by omega)).trans (f9 p a b (by omega) (by omega) (by omega) (by omega))
          exact mf_ways_nil (ef (by decide) 0 0) (fun r => ef (by decide) r 0) (fun q => by rw [mf_val_congr (fun s => ef (by decide) s 0) (fun a => ef (by decide) a 0) eVV]) hHw.1.1.1 (by omega)
        have hch' : (ch = 0 ∧ c ≤ (mf_cnt (fun s' => mf_V (mj_wu w9 16 ((s * 13 + i) * 13 + j) 0 0) s' i j ≠ 0) : Int) ∧ ∀ k : Int, 0 ≤ k → k < s + 1 → mf_V (mj_wu w9 16 ((s * 13 + i) * 13 + j) 0 0) k i j = 0 → mf_ways (mj_wu w9 16 ((s * 13 + i) * 13 + j) 0 0) (mf_V (mj_wu w9 16 ((s * 13 + i) * 13 + j) 0 0)) k i j = []) ∨ (ch = 1 ∧ c + 1 ≤ (mf_cnt (fun s' => mf_V (mj_wu w9 16 ((s * 13 + i) * 13 + j) 0 0) s' i j ≠ 0) : Int)) := by
          rcases hch with ⟨z1, z2, z3⟩ | ⟨z1, z2⟩
          · refine Or.inl ⟨z1, by simp only [eVV]; exact z2, fun k k0 k1 hk => (ew k).mpr ?_⟩
            rw [eVV] at hk
            by_cases e : k = s
            · rw [e]; exact hnil
            · exact z3 k k0 (by omega) hk
          · exact Or.inr ⟨z1, by simp only [eVV]; exact z2⟩
        have nxt := ih (s + 1) ch _ (by omega) (by omega) (by omega) t1 hch'
        rw [nw]
        rcases hch with ⟨rfl, _⟩ | ⟨rfl, _⟩
        · exact ⟨⟨by decide, by decide⟩, fun _ => ⟨⟨by omega, by omega⟩, fun z => absurd z q2, fun _ => nxt⟩, fun z => absurd rfl z⟩
        · exact ⟨⟨by decide, by decide⟩, fun z => absurd z (by decide), fun _ => nxt⟩
    · rw [← eV] at q1
      refine ih (s + 1) ch w (by omega) (by omega) (by omega) hf ?_
      rcases hch with ⟨z1, z2, z3⟩ | z
      · refine Or.inl ⟨z1, z2, fun k k0 k1 hk => ?_⟩
        by_cases e : k = s
        · rw [e] at hk; exact absurd hk q1
        · exact z3 k k0 (by omega) hk
      · exact Or.inr z
theorem c_findDeriving_33 (hn : 21 ≤ nn) (hH : mf_H u) {i j : Int} (hi0 : 0 ≤ i) (hij : i ≤ j) (hj : j ≤ u 4 0 0)
    (h : ∀ w, mf_fd i j u w → (∀ s : Int, 0 ≤ s → s < 5 → mf_V w s i j = 0 → mf_ways w (mf_V w) s i j = []) → Post none w) :
    ∀ (m : Nat) (c : Int) (w : mj_w), 0 ≤ c → c ≤ 5 → (5 - c).toNat = m → mf_fd i j u w → c ≤ (mf_cnt (fun s => mf_V w s i j ≠ 0) : Int) →
    mj_J g y_Fo_findDeriving (d + 4) 0 0 (33, [some (mj_R 11), some (.inl i), some (.inl j), some (.inl 1), some (.inl c), none, none], [], mj_mem nn xs w) (mj_P nn xs Post) := by
  intro m
  induction m with
  | zero =>
    intro c w c0 c1 hm hf hc
    have ec : c = 5 := by omega
    subst ec
    refine v_Fo_findDeriving_33 (d := d + 3) hn ⟨⟨by decide, by decide⟩, fun q => absurd q (by decide), fun _ => ⟨⟨by decide, by decide⟩, fun q => absurd q (by decide), fun _ => h w hf (fun s s0 s1 hz => ?_)⟩⟩
    exact absurd hz (mf_cnt_all (f := fun s => mf_V w s i j ≠ 0) (by omega) s0 s1)
  | succ m ih =>
    intro c w c0 c1 hm hf hc
    refine v_Fo_findDeriving_33 (d := d + 3) hn ⟨⟨by decide, by decide⟩, fun q => absurd q (by decide), fun _ => ⟨⟨by omega, by omega⟩, fun q => ?_, fun q => by omega⟩⟩
    refine c_findDeriving_48 hn hH hi0 hij hj c0 (by omega) (fun w' hf' hz' => ?_) (fun w' hf' hc' => ih (c + 1) w' (by omega) (by omega) (by omega) hf' hc') _ 0 0 w (Int.le_refl _) (by decide) rfl hf (Or.inl ⟨rfl, hc, fun k k0 k1 => by omega⟩)
    exact v_Fo_findDeriving_33 (d := d + 3) hn ⟨⟨by decide, by decide⟩, fun _ => h w' hf' hz', fun q => absurd rfl q⟩
theorem c_findDeriving_2 (hn : 21 ≤ nn) (hH : mf_H u) {i j : Int} (hi0 : 0 ≤ i) (hij : i ≤ j) (hj : j ≤ u 4 0 0)
    (h : ∀ w, mf_g i j u w → (∀ s : Int, 0 ≤ s → s < 5 → w 16 ((s * 13 + i) * 13 + j) 0 = 0) → mj_J g y_Fo_findDeriving (d + 4) 0 0 (33, [some (mj_R 11), some (.inl i), some (.inl j), some (.inl 1), some (.inl 0), none, none], [], mj_mem nn xs w) (mj_P nn xs Post)) :
    ∀ (m : Nat) (s : Int) (w : mj_w), 0 ≤ s → s ≤ 5 → (5 - s).toNat = m → mf_g i j u w → (∀ k : Int, 0 ≤ k → k < s → w 16 ((k * 13 + i) * 13 + j) 0 = 0) →
    mj_J g y_Fo_findDeriving (d + 4) 0 0 (2, [some (mj_R 11), some (.inl i), some (.inl j), some (.inl s), none, none, none], [], mj_mem nn xs w) (mj_P nn xs Post) := by
  intro m
  have hlen := hH.2.2.1
  induction m with
  | zero =>
    intro s w s0 s1 hm hg hz
    have es : s = 5 := by omega
    subst es
    exact v_Fo_findDeriving_2 (d := d + 3) hn ⟨⟨by decide, by decide⟩, fun q => absurd q (by decide), fun _ => h w hg hz⟩
  | succ m ih =>
    intro s w s0 s1 hm hg hz
    refine v_Fo_findDeriving_2 (d := d + 3) hn ⟨⟨by omega, by omega⟩, fun q => c_cellOf hn ⟨_, rfl, by omega, by omega, ?_⟩, fun q => by omega⟩
    rintro w7 rfl
    refine ih (s + 1) _ (by omega) (by omega) (by omega) (fun p a b c1 c2 c3 c4 c5 => (mj_wu_n (fun z => c5 ⟨z.1, ⟨s, s0, q, z.2.1⟩, z.2.2⟩)).trans (hg p a b c1 c2 c3 c4 c5)) (fun k k0 k1 => ?_)
    by_cases e : k = s
    · rw [e]; unfold mj_wu; simp
    · rw [mj_wu_n (fun z => by omega)]; exact hz k k0 (by omega)
/-- findDeriving -/
theorem c_findDeriving (hn : 21 ≤ nn) (hH : mf_H u) {i j : Int} (hi0 : 0 ≤ i) (hij : i ≤ j) (hj : j ≤ u 4 0 0)
    (h : ∀ w, mf_g i j u w → mf_H w → (∀ s : Int, 0 ≤ s → s < 5 → mf_V w s i j = 0 ∨ mf_V w s i j = -1) → mf_LD w (mf_V w) i j → Post none w) :
    mj_J g y_Fo_findDeriving (d + 4) 0 0 (0, [some (mj_R 11), some (.inl i), some (.inl j), none, none, none, none], [], mj_mem nn xs u) (mj_P nn xs Post) := by
  have hlen := hH.2.2.1
  have hi : 0 ≤ i ∧ i < 13 := ⟨hi0, by omega⟩
  have hjj : 0 ≤ j ∧ j < 13 := ⟨by omega, by omega⟩
  refine v_Fo_findDeriving_0 (d := d + 3) hn (c_findDeriving_2 hn hH hi0 hij hj (fun w hg hz => ?_) _ 0 u (Int.le_refl _) (by decide) rfl (mf_g.refl i j u) (fun k k0 k1 => by omega))
  have hv : ∀ s : Int, 0 ≤ s → s < 5 → mf_V w s i j = 0 := fun s s0 s1 => by rw [mf_V_at ⟨s0, s1⟩ hi hjj]; exact hz s s0 s1
  refine c_findDeriving_33 hn hH hi0 hij hj (fun w' hf' hz' => h w' hf'.1 (hf'.H hH hi hjj) hf'.2.1 (hf'.LD hH hi hjj hz' hij)) _ 0 w (Int.le_refl _) (by decide) rfl ⟨hg, fun s s0 s1 => Or.inl (hv s s0 s1), fun S _ s s0 s1 z => absurd (hv s s0 s1) z⟩ (by omega)
end C73
