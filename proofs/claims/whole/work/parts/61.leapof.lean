/-! ===== the reference: behind, add, leapOf ===== -/
def mm_ct (w : mj_w) (i : Int) : Nat := mj_cn (fun k : Nat => decide (w 26 (572 * i + (k : Int)) 0 ≠ 0)) 572
/-- n items were added to set i -/
def mm_gr (i n : Int) (w w' : mj_w) : Prop := (∀ (p : Nat) (a b : Int), ¬ (p = 26 ∧ 572 * i ≤ a ∧ a < 572 * i + 572 ∧ b = 0) → w' p a b = w p a b) ∧ (∀ a : Int, w 26 a 0 ≠ 0 → w' 26 a 0 ≠ 0) ∧ mm_GI w' ∧ (mm_ct w' i : Int) = (mm_ct w i : Int) + n ∧ 0 ≤ n ∧ (n = 0 → w' = w)
theorem mm_gr.refl (i : Int) {w : mj_w} (h : mm_GI w) : mm_gr i 0 w w := ⟨fun _ _ _ _ => rfl, fun _ q => q, h, by omega, Int.le_refl _, fun _ => rfl⟩
theorem mm_gr.trans {i n m : Int} {w w1 w2 : mj_w} (h : mm_gr i n w w1) (h' : mm_gr i m w1 w2) : mm_gr i (n + m) w w2 := by
  obtain ⟨a1, a2, a3, a4, a5, a6⟩ := h
  obtain ⟨b1, b2, b3, b4, b5, b6⟩ := h'
  exact ⟨fun p a b q => (b1 p a b q).trans (a1 p a b q), fun a q => b2 a (a2 a q), b3, by omega, by omega, fun q => (b6 (by omega)).trans (a6 (by omega))⟩
theorem mm_gr.eq {i n : Int} {w w' : mj_w} (h : mm_gr i n w w') : mm_eq i w w' := fun p a b _ q _ _ => h.1 p a b (fun z => q ⟨z.1, z.2.1⟩)
theorem mm_at_r {i s o : Int} (h0 : 0 ≤ i) (h1 : i < 13) (hr : mj_rg s o) : 0 ≤ mm_at i s o ∧ mm_at i s o < 7436 ∧ 572 * i ≤ mm_at i s o ∧ mm_at i s o < 572 * i + 572 := by
  obtain ⟨r1, r2, r3, r4⟩ := hr
  unfold mm_at
  omega
theorem mm_gr_one {i s o : Int} {w : mj_w} (h : mm_GI w) (h0 : 0 ≤ i) (h1 : i < 13) (hr : mj_rg s o) (hz : w 26 (mm_at i s o) 0 = 0) : mm_gr i 1 w (mj_wu w 26 (mm_at i s o) 0 1) := by
  have ha := mm_at_r h0 h1 hr
  have en : ∀ {p : Nat} {a b : Int}, ¬ (p = 26 ∧ a = mm_at i s o ∧ b = 0) → mj_wu w 26 (mm_at i s o) 0 1 p a b = w p a b := fun q => mj_wu_n q
  have ey : mj_wu w 26 (mm_at i s o) 0 1 26 (mm_at i s o) 0 = 1 := by unfold mj_wu; simp
  refine ⟨fun p a b q => en (fun z => q ⟨z.1, by omega, by omega, z.2.2⟩), fun a q => ?_, ?_, ?_, by decide, fun q => absurd q (by decide)⟩
  · by_cases e : a = mm_at i s o
    · rw [e, ey]; decide
    · rw [en (fun z => e z.2.1)]; exact q
  · obtain ⟨g1, g2, g3, g4, g5, g6⟩ := h
    unfold mm_GI
    have e21 : ∀ a, mj_wu w 26 (mm_at i s o) 0 1 21 a 0 = w 21 a 0 := fun a => en (fun q => by cases q.1)
    have e22 : ∀ a, mj_wu w 26 (mm_at i s o) 0 1 22 a 0 = w 22 a 0 := fun a => en (fun q => by cases q.1)
    have e23 : ∀ a, mj_wu w 26 (mm_at i s o) 0 1 23 a 0 = w 23 a 0 := fun a => en (fun q => by cases q.1)
    have e24 : ∀ a, mj_wu w 26 (mm_at i s o) 0 1 24 a 0 = w 24 a 0 := fun a => en (fun q => by cases q.1)
    simp only [e21, e22, e23, e24]
    refine ⟨g1, g2, g3, g4, g5, fun a a0 a1 => ?_⟩
    by_cases e : a = mm_at i s o
    · rw [e, ey]; exact Or.inr rfl
    · rw [en (fun z => e z.2.1)]; exact g6 a a0 a1
  · have hc : mm_ct (mj_wu w 26 (mm_at i s o) 0 1) i = mm_ct w i + 1 := by
      unfold mm_ct
      have ek : (572 * i + ((mm_at i s o - 572 * i).toNat : Int)) = mm_at i s o := by omega
      refine mj_cn_set (k := (mm_at i s o - 572 * i).toNat) ?_ ?_ 572 (by omega) (fun j hj hne => ?_)
      · simp only [ek, hz]; rfl
      · simp only [ek, ey]; rfl
      · have e := en (p := 26) (a := 572 * i + (j : Int)) (b := 0) (fun z => by omega)
        simp only [e]
    omega
section C61
variable {g : mj_G} {nn d : Nat} {xs : mj_M} {Post : Option mj_V → mj_w → Prop} {w : mj_w}
theorem c_M_lengthOf (hn : 33 ≤ nn) {r : Int} (h0 : -1 ≤ r) (h1 : r < 10) (h : Post (some (.inl (mm_len w r))) w) :
    mj_J g y_Mo_lengthOf d 0 0 (0, [some (mj_R 21), some (.inl r)], [], mj_mem nn xs w) (mj_P nn xs Post) := by
  refine v_Mo_lengthOf_0 hn ⟨⟨by omega, by omega⟩, fun q => ?_, fun q => ⟨by omega, h1, ?_⟩⟩
  · rwa [mm_len, if_pos q] at h
  · rwa [mm_len, if_neg q] at h
theorem mm_len_r (hG : mm_GI w) {r : Int} (h1 : r < 10) : 0 ≤ mm_len w r ∧ mm_len w r ≤ 3 := by
  unfold mm_len
  split
  · decide
  · have := hG.2.2.1 r (by omega) h1; omega
theorem c_M_behind (hn : 33 ≤ nn) (hG : mm_GI w) {s r t : Int} (h0 : 0 ≤ s) (h1 : s < 44) (er : r = s / 4 - 1) (et : t = s % 4) (h : Post (some (.inl (mm_bh w s))) w) :
    mj_J g y_Mo_behind (d + 1) 0 0 (0, [some (mj_R 21), some (.inl r), some (.inl t)], [], mj_mem nn xs w) (mj_P nn xs Post) := by
  subst er et
  have hl := mm_len_r hG (r := s / 4 - 1) (by omega)
  refine v_Mo_behind_0 hn (c_M_lengthOf hn (by omega) (by omega) ⟨_, rfl, ⟨by omega, by omega⟩, ⟨by omega, by omega⟩, fun q => ⟨⟨by omega, by omega⟩, fun q1 => ?_, fun q1 => ⟨by omega, by omega, ?_⟩⟩, fun q => ?_⟩)
  · rwa [mm_bh, if_pos q, if_pos q1] at h
  · rwa [mm_bh, if_pos q, if_neg q1] at h
  · rwa [mm_bh, if_neg q] at h
theorem c_M_add (hn : 33 ≤ nn) (hG : mm_GI w) {i r t s o : Int} (h0 : 0 ≤ i) (h1 : i < 13) (hr : mj_rg s o) (es : 4 * (r + 1) + t = s)
    (hz : w 26 (mm_at i s o) 0 = 0 → Post (some (.inl 1)) (mj_wu w 26 (mm_at i s o) 0 1)) (hy : w 26 (mm_at i s o) 0 ≠ 0 → Post (some (.inl 0)) w) :
    mj_J g y_Mo_add (d + 1) 0 0 (0, [some (mj_R 21), some (.inl i), some (.inl r), some (.inl t), some (.inl o), none], [], mj_mem nn xs w) (mj_P nn xs Post) := by
  have ha := mm_at_r h0 h1 hr
  have e : 572 * i + 52 * (r + 1) + 13 * t + o = mm_at i s o := by unfold mm_at; omega
  refine v_Mo_add_0 hn (v_Mo_place_0 hn ⟨_, rfl, ?_⟩)
  rw [e]
  have hb := hG.2.2.2.2.2 (mm_at i s o) ha.1 ha.2.1
  refine ⟨ha.1, ha.2.1, ⟨by omega, by omega⟩, fun q => ?_, fun q => hy q⟩
  rintro w7 rfl
  exact hz q
/-- add, as growth -/
theorem c_M_add' (hn : 33 ≤ nn) (hG : mm_GI w) {i r t s o : Int} (h0 : 0 ≤ i) (h1 : i < 13) (hr : mj_rg s o) (es : 4 * (r + 1) + t = s)
    (h : ∀ n w', mm_gr i n w w' → w' 26 (mm_at i s o) 0 ≠ 0 → (∀ a : Int, w' 26 a 0 ≠ 0 → w 26 a 0 ≠ 0 ∨ a = mm_at i s o) → Post (some (.inl n)) w') :
    mj_J g y_Mo_add (d + 1) 0 0 (0, [some (mj_R 21), some (.inl i), some (.inl r), some (.inl t), some (.inl o), none], [], mj_mem nn xs w) (mj_P nn xs Post) := by
  refine c_M_add hn hG h0 h1 hr es (fun q => h 1 _ (mm_gr_one hG h0 h1 hr q) ?_ (fun a ha => ?_)) (fun q => h 0 w (mm_gr.refl i hG) q (fun a ha => Or.inl ha))
  · unfold mj_wu; simp
  · by_cases e : a = mm_at i s o
    · exact Or.inr e
    · rw [mj_wu_n (fun z => e z.2.1)] at ha
      exact Or.inl ha
/-- which codes of a set have b behind the dot -/
def mm_F (w : mj_w) (f b : Int) (k : Nat) : Bool := decide (w 26 (572 * f + (k : Int)) 0 ≠ 0 ∧ mm_bh w ((k : Int) / 13) = b)
theorem mm_F_it {f b : Int} {k : Nat} (hk : k < 572) : mm_F w f b k = true ↔ mj_it (mm_w w) f ((k : Int) / 13) ((k : Int) % 13) ∧ mm_w w 3 ((k : Int) / 13) 0 = b := by
  have hr : mj_rg ((k : Int) / 13) ((k : Int) % 13) := ⟨by omega, by omega, by omega, by omega⟩
  rw [mm_it w f hr]
  unfold mm_F
  rw [decide_eq_true_eq, show mm_at f ((k : Int) / 13) ((k : Int) % 13) = 572 * f + (k : Int) by unfold mm_at; omega]
  exact Iff.rfl
theorem mm_F_lone {f b : Int} {k : Nat} (hk : k < 572) (h : mm_F w f b k = true) (hu : ∀ j, j < 572 → mm_F w f b j = true → j = k) : mj_lone (mm_w w) f b ((k : Int) / 13) ((k : Int) % 13) := by
  have h1 := (mm_F_it hk).mp h
  refine ⟨⟨by omega, by omega, by omega, by omega⟩, h1.1, h1.2, fun s' o' hr hit hb => ?_⟩
  obtain ⟨r1, r2, r3, r4⟩ := hr
  have e1 : (((s' * 13 + o').toNat : Nat) : Int) / 13 = s' := by omega
  have e2 : (((s' * 13 + o').toNat : Nat) : Int) % 13 = o' := by omega
  have h2 := hu (s' * 13 + o').toNat (by omega) ((mm_F_it (by omega)).mpr (by rw [e1, e2]; exact ⟨hit, hb⟩))
  omega
theorem mm_F_not {f b : Int} (h : mj_cn (mm_F w f b) 572 ≠ 1) : ∀ s o, ¬ mj_lone (mm_w w) f b s o := by
  rintro s o ⟨⟨r1, r2, r3, r4⟩, h2, h3, h4⟩
  have e1 : (((s * 13 + o).toNat : Nat) : Int) / 13 = s := by omega
  have e2 : (((s * 13 + o).toNat : Nat) : Int) % 13 = o := by omega
  have hk : mm_F w f b (s * 13 + o).toNat = true := (mm_F_it (by omega)).mpr (by rw [e1, e2]; exact ⟨h2, h3⟩)
  rcases mj_cn_tri (mm_F w f b) 572 with ⟨t1, t2⟩ | ⟨t1, _⟩ | ⟨t1, j, k, t2, t3, t4, t5⟩
  · rw [t2 _ (by omega)] at hk; cases hk
  · exact h t1
  · have p1 := (mm_F_it (by omega)).mp t4
    have p2 := (mm_F_it (by omega)).mp t5
    have q1 := h4 _ _ ⟨by omega, by omega, by omega, by omega⟩ p1.1 p1.2
    have q2 := h4 _ _ ⟨by omega, by omega, by omega, by omega⟩ p2.1 p2.2
    omega
theorem c_M_leapOf_inner (hn : 33 ≤ nn) (hG : mm_GI w) {f0 b0 nm f b : Int} (hf0 : 0 ≤ f) (hf1 : f < 13) (hb0 : 0 ≤ b) (hb1 : b < 5)
    (hno : mj_cn (mm_F w f b) 572 ≠ 1 → Post (some (.inl nm)) w)
    (hone : ∀ k : Nat, k < 572 → mm_F w f b k = true → (∀ j, j < 572 → mm_F w f b j = true → j = k) →
      mj_J g y_Mo_leapOf (d + 2) 0 0 (22, [some (mj_R 21), some (.inl f0), some (.inl b0), some (.inl nm), some (.inl f), some (.inl b), some (.inl 1), some (.inl (k : Int)), some (.inl 572), none, none, none], [], mj_mem nn xs w) (mj_P nn xs Post)) :
    ∀ (n k : Nat) (l : Int), k + n = 572 → 0 ≤ l → l < 572 → (mj_cn (mm_F w f b) k = 0 → l = 0) → (mj_cn (mm_F w f b) k ≠ 0 → mm_F w f b l.toNat = true) →
      mj_J g y_Mo_leapOf (d + 2) 0 0 (22, [some (mj_R 21), some (.inl f0), some (.inl b0), some (.inl nm), some (.inl f), some (.inl b), some (.inl (mj_cn (mm_F w f b) k : Int)), some (.inl l), some (.inl (k : Int)), none, none, none], [], mj_mem nn xs w) (mj_P nn xs Post) := by
  intro n
  induction n with
  | zero =>
    intro k l hk l0 l1 hl hl'
    have ek : k = 572 := by omega
    subst ek
    by_cases e : mj_cn (mm_F w f b) 572 = 1
    · rcases mj_cn_tri (mm_F w f b) 572 with ⟨t1, t2⟩ | ⟨t1, j, t2, t3, t4⟩ | ⟨t1, _⟩
      · omega
      · have hj := t4 l.toNat (by omega) (hl' (by omega))
        have el : l = (j : Int) := by omega
        rw [e, el]
        exact hone j t2 t3 t4
      · omega
    · have hle := mj_cn_le (mm_F w f b) 572
      refine v_Mo_leapOf_22 (d := d + 1) hn ⟨⟨by omega, by omega⟩, fun q => absurd q (by decide), fun _ => ⟨⟨by omega, by omega⟩, l0, ⟨by omega, by omega⟩, by omega, ⟨by omega, by omega⟩, fun q => by omega, fun _ => hno e⟩⟩
  | succ n ih =>
    intro k l hk l0 l1 hl hl'
    have hle := mj_cn_le (mm_F w f b) k
    have hbool := hG.2.2.2.2.2 (572 * f + (k : Int)) (by omega) (by omega)
    have es : mj_cn (mm_F w f b) (k + 1) = mj_cn (mm_F w f b) k + (if mm_F w f b k then 1 else 0) := rfl
    have ek : ((k : Int) + 1) = ((k + 1 : Nat) : Int) := by omega
    have hs0 : (0 : Int) ≤ (k : Int) / 13 := by omega
    have hs1 : (k : Int) / 13 < 44 := by omega
    have hbh := hG.bh hs0 hs1
    refine v_Mo_leapOf_22 (d := d + 1) hn ⟨⟨by omega, by omega⟩, fun q => ⟨by omega, by omega, ⟨by omega, by omega⟩, fun q1 => ?_, fun q1 => ⟨by omega, ⟨by omega, by omega⟩, by omega, ?_⟩⟩, fun q => by omega⟩
    · have eF : mm_F w f b k = false := by unfold mm_F; simp [q1]
      rw [eF] at es
      simp only [Bool.false_eq_true, if_false, Nat.add_zero] at es
      have := ih (k + 1) l (by omega) l0 l1 (by rw [es]; exact hl) (by rw [es]; exact hl')
      rw [es, ← ek] at this
      exact this
    · refine c_M_behind hn hG hs0 hs1 (by omega) (by omega) ⟨_, rfl, ⟨by omega, by omega⟩, ⟨by omega, by omega⟩, fun q2 => ?_, fun q2 => ?_⟩
      · have eF : mm_F w f b k = true := by unfold mm_F; simp [q1, q2]
        rw [eF] at es
        simp only [if_true] at es
        have := ih (k + 1) (k : Int) (by omega) (by omega) (by omega) (fun z => by omega) (fun _ => by rw [Int.toNat_natCast]; exact eF)
        rw [es, ← ek, show ((mj_cn (mm_F w f b) k + 1 : Nat) : Int) = (mj_cn (mm_F w f b) k : Int) + 1 by omega] at this
        exact this
      · have eF : mm_F w f b k = false := by unfold mm_F; simp [q2]
        rw [eF] at es
        simp only [Bool.false_eq_true, if_false, Nat.add_zero] at es
        have := ih (k + 1) l (by omega) l0 l1 (by rw [es]; exact hl) (by rw [es]; exact hl')
        rw [es, ← ek] at this
        exact this
/-- rules of items are rules -/
def mm_RI (f : Int) (w : mj_w) : Prop := ∀ i s o : Int, 0 ≤ i → i ≤ f → mj_rg s o → w 26 (mm_at i s o) 0 ≠ 0 → s < 4 * (w 21 2 0 + 1)
theorem mm_last (hG : mm_GI w) {s : Int} (h0 : 0 ≤ s) (h1 : s < 44) (hb : mm_bh w s ≠ -1) : s % 4 + 1 = mm_len w (s / 4 - 1) ↔ mm_bh w (s + 1) = -1 := by
  have h3 := hG.bh h0 h1
  have hm : s % 4 ≠ 3 := fun q => hb (h3.2.2.2.1 q)
  have e1 : (s + 1) / 4 = s / 4 := by omega
  have e2 : (s + 1) % 4 = s % 4 + 1 := by omega
  have hlt : s % 4 < mm_len w (s / 4 - 1) := by
    apply Classical.byContradiction
    intro q
    apply hb
    unfold mm_bh
    rw [if_neg q]
  constructor
  · intro q
    unfold mm_bh
    rw [e1, e2, if_neg (by omega)]
  · intro q
    apply Classical.byContradiction
    intro q2
    have q3 : s % 4 + 1 < mm_len w (s / 4 - 1) := by omega
    unfold mm_bh at q
    rw [e1, e2, if_pos q3] at q
    split at q
    · omega
    · rename_i q4
      have q5 : s / 4 - 1 < 10 := by omega
      unfold mm_len at q3
      rw [if_neg q4] at q3
      have := hG.2.2.2.1 (s / 4 - 1) (s % 4 + 1) (by omega) q5 (by omega) q3
      omega
theorem c_M_leapOf_loop (hn : 33 ≤ nn) (hG : mm_GI w) (hL : w 21 0 0 = 1) {f0 b0 : Int} :
    ∀ (m : Nat) (nm f b : Int), f.toNat = m → 0 ≤ f → f < 13 → mm_RI f w → 0 ≤ b → b < 5 → Post (some (.inl (if mm_w w 9 f b ≠ -1 then mm_w w 9 f b else nm))) w →
      mj_J g y_Mo_leapOf (d + 2) 0 0 (8, [some (mj_R 21), some (.inl f0), some (.inl b0), some (.inl nm), some (.inl f), some (.inl b), none, none, none, none, none, none], [], mj_mem nn xs w) (mj_P nn xs Post) := by
  intro m
  induction m using Nat.strongRecOn with
  | ind m ih =>
    intro nm f b hm hf0 hf1 hR hb0 hb1 h
    have hnm := (mm_names w hf0 hf1 b).2 (show mm_w w 6 1 0 ≠ 0 from by show w 21 0 0 ≠ 0; omega)
    refine v_Mo_leapOf_8 (d := d + 1) hn ⟨⟨by omega, by omega⟩, fun q => by omega, fun _ => ?_⟩
    refine c_M_leapOf_inner hn hG hf0 hf1 hb0 hb1 (fun q => ?_) (fun k hk hF hu => ?_) 572 0 0 rfl (by decide) (by decide) (fun _ => rfl) (fun z => absurd rfl z)
    · have e := hnm.2 (fun s o hl => absurd hl (mm_F_not q s o))
      rwa [if_neg (fun z => z e)] at h
    · have hlone := mm_F_lone hk hF hu
      have hs0 : (0 : Int) ≤ (k : Int) / 13 := by omega
      have hs1 : (k : Int) / 13 < 44 := by omega
      have hF' := (mm_F_it hk).mp hF
      have hrk : mj_rg ((k : Int) / 13) ((k : Int) % 13) := ⟨hs0, hs1, by omega, by omega⟩
      have hbs : mm_bh w ((k : Int) / 13) = b := hF'.2
      have hrule := hR f _ _ hf0 (Int.le_refl _) hrk ((mm_it w f hrk).mp hF'.1)
      have hcnt := hG.1
      have hlen := mm_len_r hG (r := (k : Int) / 52 - 1) (by omega)
      have hlast := mm_last hG hs0 hs1 (by omega)
      have e4 : (k : Int) / 13 / 4 = (k : Int) / 52 := by omega
      have e5 : (k : Int) / 13 % 4 = (k : Int) % 52 / 13 := by omega
      rw [e4, e5] at hlast
      refine v_Mo_leapOf_22 (d := d + 1) hn ⟨⟨by decide, by decide⟩, fun q => absurd q (by decide), fun _ => ⟨⟨by omega, by omega⟩, by omega, ⟨by omega, by omega⟩, by omega, ⟨by decide, by decide⟩, fun _ => ?_, fun q => absurd rfl q⟩⟩
      refine c_M_lengthOf hn (by omega) (by omega) ⟨_, rfl, ⟨by omega, by omega⟩, ⟨by omega, by omega⟩, fun q1 => ⟨⟨by omega, by omega⟩, ⟨by omega, by omega⟩, fun q2 => ⟨⟨by omega, by omega⟩, fun q3 => ?_, fun q3 => ⟨by omega, by omega, ?_⟩⟩, fun q2 => ?_⟩, fun q1 => ?_⟩
      · have e := hnm.1 _ _ hlone (hlast.mp q1)
        rw [mj_nm, if_neg (fun z => z.2.1 (mm_ls_goal (by omega)))] at e
        refine v_Mo_leapOf_8 (d := d + 1) hn ⟨⟨by decide, by decide⟩, fun _ => ?_, fun q => absurd (by decide) q⟩
        rw [e, if_pos (by omega), show ((k : Int) / 13 + 1) * 13 + (k : Int) % 13 = (k : Int) + 13 by omega] at h
        exact h
      · have e := hnm.1 _ _ hlone (hlast.mp q1)
        have els : mj_ls_ (mm_w w) ((k : Int) / 13) = w 22 ((k : Int) / 52 - 1) 0 := by
          rw [mm_ls (by omega) hrule, e4]
        have hlr := hG.2.1 ((k : Int) / 52 - 1) (by omega) (by omega)
        refine ih ((k : Int) % 13).toNat (by omega) _ _ _ rfl (by omega) (by omega) (fun i s o i0 i1 => hR i s o i0 (by omega)) hlr.1 hlr.2 ?_
        rw [mj_nm, els] at e
        by_cases q5 : mm_w w 9 ((k : Int) % 13) (w 22 ((k : Int) / 52 - 1) 0) = -1
        · rw [if_neg (fun z => z.2.2 q5)] at e
          rw [e, if_pos (by omega), show ((k : Int) / 13 + 1) * 13 + (k : Int) % 13 = (k : Int) + 13 by omega] at h
          rw [if_neg (fun z => z q5)]
          exact h
        · rw [if_pos ⟨q2, by omega, q5⟩] at e
          rw [e, if_pos q5] at h
          rw [if_pos q5]
          exact h
      · have e := hnm.1 _ _ hlone (hlast.mp q1)
        rw [mj_nm, if_neg (fun z => q2 z.1)] at e
        refine v_Mo_leapOf_8 (d := d + 1) hn ⟨⟨by decide, by decide⟩, fun _ => ?_, fun q => absurd (by decide) q⟩
        rw [e, if_pos (by omega), show ((k : Int) / 13 + 1) * 13 + (k : Int) % 13 = (k : Int) + 13 by omega] at h
        exact h
      · have e := hnm.2 (fun s o hl z => by
          obtain ⟨e1, e2⟩ := hlone.2.2.2 s o hl.1 hl.2.1 hl.2.2.1
          rw [e1] at z
          exact q1 (hlast.mpr z))
        rwa [if_neg (fun z => z e)] at h
theorem c_M_leapOf (hn : 33 ≤ nn) (hG : mm_GI w) (hL : w 21 0 0 = 1) {f b : Int} (hf0 : 0 ≤ f) (hf1 : f < 13) (hR : mm_RI f w) (hb0 : 0 ≤ b) (hb1 : b < 5) (h : Post (some (.inl (mm_w w 9 f b))) w) :
    mj_J g y_Mo_leapOf (d + 2) 0 0 (0, [some (mj_R 21), some (.inl f), some (.inl b), none, none, none, none, none, none, none, none, none], [], mj_mem nn xs w) (mj_P nn xs Post) := by
  refine v_Mo_leapOf_0 (d := d + 1) hn (c_M_leapOf_loop hn hG hL _ (-1) f b rfl hf0 hf1 hR hb0 hb1 ?_)
  by_cases q : mm_w w 9 f b = -1
  · rw [if_neg (fun z => z q), ← q]; exact h
  · rw [if_pos q]; exact h
end C61
