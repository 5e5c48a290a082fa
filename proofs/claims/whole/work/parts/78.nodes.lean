/-! ===== the class: the nodes that are met ===== -/
/-- the cuts of a way -/
def mf_cu (i j : Int) (q : Int × Int × Int) (k : Int) : Int := if k = 0 then i else if k = 1 then q.2.1 else if k = 2 then q.2.2 else j
theorem mf_cu_0 {i j : Int} {q : Int × Int × Int} : mf_cu i j q 0 = i := rfl
theorem mf_cu_1 {i j : Int} {q : Int × Int × Int} : mf_cu i j q 1 = q.2.1 := rfl
theorem mf_cu_2 {i j : Int} {q : Int × Int × Int} : mf_cu i j q 2 = q.2.2 := rfl
theorem mf_cu_3 {i j : Int} {q : Int × Int × Int} : mf_cu i j q 3 = j := rfl
theorem mf_cu_le {i j k : Int} {q : Int × Int × Int} (h : i ≤ q.2.1 ∧ q.2.1 ≤ q.2.2 ∧ q.2.2 ≤ j) (k0 : 0 ≤ k) (k1 : k < 3) : i ≤ mf_cu i j q k ∧ mf_cu i j q k ≤ mf_cu i j q (k + 1) ∧ mf_cu i j q (k + 1) ≤ j := by
  have : k = 0 ∨ k = 1 ∨ k = 2 := by omega
  rcases this with rfl | rfl | rfl
  · show i ≤ i ∧ i ≤ q.2.1 ∧ q.2.1 ≤ j
    omega
  · show i ≤ q.2.1 ∧ q.2.1 ≤ q.2.2 ∧ q.2.2 ≤ j
    omega
  · show i ≤ q.2.2 ∧ q.2.2 ≤ j ∧ j ≤ j
    omega
/-- a cell of a stretch within 0..n -/
def mf_vc (n c : Int) : Prop := (0 ≤ c ∧ c < 845) ∧ c / 13 % 13 ≤ c % 13 ∧ c % 13 ≤ n
theorem mf_vc_of {n s a b : Int} (hn : n ≤ 12) (hs : 0 ≤ s ∧ s < 5) (ha : 0 ≤ a) (hab : a ≤ b) (hb : b ≤ n) : mf_vc n ((s * 13 + a) * 13 + b) ∧ ((s * 13 + a) * 13 + b) / 169 = s ∧ ((s * 13 + a) * 13 + b) / 13 % 13 = a ∧ ((s * 13 + a) * 13 + b) % 13 = b := by
  unfold mf_vc
  omega
/-- with the root, and with each node the parts of its ways -/
def mf_cl (u : mj_w) (V : Int → Int → Int → Int) (n : Int) (T : Int → Prop) : Prop := (V 0 0 n ≠ 0 → T n) ∧ ∀ c : Int, mf_vc n c → T c → ∀ q, q ∈ mf_ways u V (c / 169) (c / 13 % 13) (c % 13) → ∀ k : Int, 0 ≤ k → k < 3 → 0 ≤ u 3 ((q.1 + 1) * 4 + k) 0 → u 3 ((q.1 + 1) * 4 + k) 0 < 5 → T ((u 3 ((q.1 + 1) * 4 + k) 0 * 13 + mf_cu (c / 13 % 13) (c % 13) q k) * 13 + mf_cu (c / 13 % 13) (c % 13) q (k + 1))
/-- the nodes -/
def mf_RC (u : mj_w) (V : Int → Int → Int → Int) (n : Int) (M : Int → Prop) : Prop := mf_cl u V n M ∧ ∀ T, mf_cl u V n T → ∀ c : Int, 0 ≤ c → c < 845 → M c → T c
theorem mf_cl_vc {u : mj_w} {V : Int → Int → Int → Int} {n : Int} (hc : 0 ≤ u 1 0 0) (hn : 0 ≤ n ∧ n ≤ 12) : mf_cl u V n (mf_vc n) := by
  refine ⟨fun _ => by unfold mf_vc; omega, fun c hv _ q hq k k0 k1 s0 s1 => ?_⟩
  have hv' := hv
  unfold mf_vc at hv'
  obtain ⟨m1, m2, m3, m4, m5, m6⟩ := (mf_mem hc (by omega)).mp hq
  have := mf_cu_le (k := k) ⟨m3, m4, m5⟩ k0 k1
  exact (mf_vc_of hn.2 ⟨s0, s1⟩ (by omega) this.2.1 (by omega)).1
theorem mf_cl_congr {u u' : mj_w} {V V' : Int → Int → Int → Int} {n : Int} (hG : mj_GI u) (hn : 0 ≤ n ∧ n ≤ 12) (hsg : mf_sg u u' 0 n) (hV : ∀ s a b : Int, 0 ≤ s → s < 5 → 0 ≤ a → a ≤ b → b ≤ n → V' s a b = V s a b) {T : Int → Prop} (h : mf_cl u V n T) : mf_cl u' V' n T := by
  refine ⟨fun z => h.1 (by rw [← hV 0 0 n (by decide) (by decide) (by decide) hn.1 (Int.le_refl _)]; exact z), fun c hv hT q hq k k0 k1 s0 s1 => ?_⟩
  have hv' := hv
  unfold mf_vc at hv'
  have hsg2 : mf_sg u u' (c / 13 % 13) (c % 13) := ⟨hsg.1, hsg.2.1, fun a a0 a1 => hsg.2.2 a (by omega) (by omega)⟩
  have e : mf_ways u V (c / 169) (c / 13 % 13) (c % 13) = mf_ways u' V' (c / 169) (c / 13 % 13) (c % 13) := mf_ways_congr hG.1.1 (by omega) hsg2 (fun q hc _ => by rw [mf_val_agree hG hsg2 hc (fun s a b s0 s1 a0 ab b1 => (hV s a b s0 s1 (by omega) ab (by omega)).symm)])
  rw [← e] at hq
  obtain ⟨m1, m2, m3, m4, m5, m6⟩ := (mf_mem hG.1.1 (by omega)).mp hq
  have e3 := (hsg.2.1 q.1 m1.1 m1.2).2 k k0 k1
  rw [e3] at s0 s1 ⊢
  exact h.2 c hv hT q hq k k0 k1 s0 s1
theorem mf_RC.unique {u u' : mj_w} {V V' : Int → Int → Int → Int} {n : Int} {M M' : Int → Prop} (hG : mj_GI u) (hG' : mj_GI u') (hn : 0 ≤ n ∧ n ≤ 12) (hsg : mf_sg u u' 0 n) (hV : ∀ s a b : Int, 0 ≤ s → s < 5 → 0 ≤ a → a ≤ b → b ≤ n → V' s a b = V s a b) (h : mf_RC u V n M) (h' : mf_RC u' V' n M') {c : Int} (c0 : 0 ≤ c) (c1 : c < 845) : M c ↔ M' c :=
  ⟨fun z => h.2 M' (mf_cl_congr hG' hn hsg.symm (fun s a b s0 s1 a0 ab b1 => (hV s a b s0 s1 a0 ab b1).symm) h'.1) c c0 c1 z, fun z => h'.2 M (mf_cl_congr hG hn hsg hV h.1) c c0 c1 z⟩
/-- where nodesMet stands -/
def mn_I (u w : mj_w) : Prop := (∀ (p : Nat) (a b : Int), (p ≤ 10 ∨ p = 14 ∨ p = 15 ∨ p = 16 ∨ 21 ≤ p ∨ (p = 11 ∧ a ≠ 6)) → w p a b = u p a b) ∧ w 11 6 0 = (mj_cn (fun c : Nat => decide (w 13 (c : Int) 0 ≠ 0)) 845 : Int) ∧ (∀ m : Int, 0 ≤ m → m < w 11 6 0 → (0 ≤ w 12 m 0 ∧ w 12 m 0 < 845) ∧ w 13 (w 12 m 0) 0 ≠ 0) ∧ (∀ c : Int, 0 ≤ c → c < 845 → w 13 c 0 ≠ 0 → ∃ m : Int, 0 ≤ m ∧ m < w 11 6 0 ∧ w 12 m 0 = c) ∧ (∀ c : Int, 0 ≤ c → c < 845 → w 13 c 0 = 0 ∨ w 13 c 0 = 1) ∧ ∀ T, mf_cl u (mf_V u) (u 4 0 0) T → ∀ c : Int, 0 ≤ c → c < 845 → w 13 c 0 ≠ 0 → T c
/-- more was met -/
def mn_L (w w' : mj_w) : Prop := (∀ c : Int, w 13 c 0 ≠ 0 → w' 13 c 0 ≠ 0) ∧ (∀ m : Int, 0 ≤ m → m < w 11 6 0 → w' 12 m 0 = w 12 m 0) ∧ w 11 6 0 ≤ w' 11 6 0 ∧ ∀ (p : Nat) (a b : Int), p ≠ 12 → p ≠ 13 → ¬ (p = 11 ∧ a = 6 ∧ b = 0) → w' p a b = w p a b
theorem mn_L.refl (w : mj_w) : mn_L w w := ⟨fun _ h => h, fun _ _ _ => rfl, Int.le_refl _, fun _ _ _ _ _ _ => rfl⟩
theorem mn_L.trans {w w1 w2 : mj_w} (h : mn_L w w1) (h' : mn_L w1 w2) : mn_L w w2 := ⟨fun c z => h'.1 c (h.1 c z), fun m m0 m1 => (h'.2.1 m m0 (by have := h.2.2.1; omega)).trans (h.2.1 m m0 m1), Int.le_trans h.2.2.1 h'.2.2.1, fun p a b c0 c1 c2 => (h'.2.2.2 p a b c0 c1 c2).trans (h.2.2.2 p a b c0 c1 c2)⟩
theorem mn_L.arr {w w' : mj_w} (h : mn_L w w') {L : List (Int × Int × Int)} {f : Int × Int × Int → Int} (ha : mf_arr w L f) : mf_arr w' L f := by
  have e : ∀ (p : Nat) (a b : Int), 17 ≤ p → w' p a b = w p a b := fun p a b hp => h.2.2.2 p a b (by omega) (by omega) (fun z => by omega)
  refine ⟨by rw [e 17 4 0 (by omega)]; exact ha.1, fun k q hq => ?_⟩
  rw [e 18 _ _ (by omega), e 19 _ _ (by omega), e 20 _ _ (by omega)]
  exact ha.2 k q hq
theorem mf_H.I {u w : mj_w} (hH : mf_H u) (h : mn_I u w) : mf_H w := hH.same (fun p a b hp => h.1 p a b (by omega))
section C78
variable {g : mj_G} {nn d : Nat} {xs : mj_M} {Post : Option mj_V → mj_w → Prop} {u w : mj_w}
theorem c_symbolOf (hn : 21 ≤ nn) {L : List (Int × Int × Int)} {f : Int × Int × Int → Int} (ha : mf_arr w L f) {m : Nat} {q : Int × Int × Int} (hm : m < 910) (hq : L[m]? = some q) (hr : 0 ≤ q.1 ∧ q.1 < 10) {k : Int} (hk : 0 ≤ k ∧ k < 3) (h : Post (some (.inl (w 3 ((q.1 + 1) * 4 + k) 0))) w) :
    mj_J g y_Wa_symbolOf (d + 1) 0 0 (0, [some (mj_R 17), some (.inl (m : Int)), some (.inl k)], [], mj_mem nn xs w) (mj_P nn xs Post) := by
  refine v_Wa_symbolOf_0 hn ⟨by omega, by omega, c_slotOf hn ⟨_, rfl, ?_⟩⟩
  rw [(ha.2 m q hq).1]
  exact ⟨by omega, by omega, h⟩
theorem c_cutOf (hn : 21 ≤ nn) {L : List (Int × Int × Int)} {f : Int × Int × Int → Int} (ha : mf_arr w L f) {m : Nat} {q : Int × Int × Int} (hm : m < 910) (hq : L[m]? = some q) (hc : (0 ≤ q.2.1 ∧ q.2.1 < 13) ∧ 0 ≤ q.2.2 ∧ q.2.2 < 13) {i j k : Int} (hk : 0 ≤ k ∧ k < 4) (ei : w 17 2 0 = i) (ej : w 17 3 0 = j) (h : Post (some (.inl (mf_cu i j q k))) w) :
    mj_J g y_Wa_cutOf d 0 0 (0, [some (mj_R 17), some (.inl (m : Int)), some (.inl k)], [], mj_mem nn xs w) (mj_P nn xs Post) := by
  have e := (ha.2 m q hq).2.1
  refine v_Wa_cutOf_0 hn ⟨⟨by omega, by omega⟩, fun z => ?_, fun z => ?_, fun z => ?_, fun z => ?_⟩
  · have : k = 3 := by omega
    rw [this, mf_cu_3] at h
    rw [ej]; exact h
  · rw [z, mf_cu_0] at h
    rw [ei]; exact h
  · rw [z, mf_cu_1] at h
    rw [e, show (q.2.1 * 13 + q.2.2) / 13 = q.2.1 by omega]
    exact ⟨by omega, by omega, ⟨by omega, by omega⟩, by omega, h⟩
  · rw [z, mf_cu_2] at h
    rw [e, show (q.2.1 * 13 + q.2.2) % 13 = q.2.2 by omega]
    exact ⟨by omega, by omega, ⟨by omega, by omega⟩, by omega, h⟩
theorem c_partCell (hn : 21 ≤ nn) {L : List (Int × Int × Int)} {f : Int × Int × Int → Int} (ha : mf_arr w L f) {m : Nat} {q : Int × Int × Int} (hm : m < 910) (hq : L[m]? = some q) (hr : 0 ≤ q.1 ∧ q.1 < 10) (hc : (0 ≤ q.2.1 ∧ q.2.1 < 13) ∧ 0 ≤ q.2.2 ∧ q.2.2 < 13) {i j k : Int} (hk : 0 ≤ k ∧ k < 3) (ei : w 17 2 0 = i) (ej : w 17 3 0 = j) (h : Post (some (.inl ((w 3 ((q.1 + 1) * 4 + k) 0 * 13 + mf_cu i j q k) * 13 + mf_cu i j q (k + 1)))) w) :
    mj_J g y_Fo_partCell (d + 2) 0 0 (0, [some (mj_R 11), some (.inl (m : Int)), some (.inl k)], [], mj_mem nn xs w) (mj_P nn xs Post) :=
  v_Fo_partCell_0 (d := d + 1) hn (c_symbolOf hn ha hm hq hr hk ⟨_, rfl, c_cutOf hn ha hm hq hc ⟨hk.1, by omega⟩ ei ej ⟨_, rfl, c_cutOf hn ha hm hq hc ⟨by omega, by omega⟩ ei ej ⟨_, rfl, c_cellOf hn ⟨_, rfl, h⟩⟩⟩⟩)
theorem c_meet (hn : 21 ≤ nn) (hI : mn_I u w) {c : Int} (c0 : 0 ≤ c) (c1 : c < 845) (hT : ∀ T, mf_cl u (mf_V u) (u 4 0 0) T → T c) (h : ∀ w', mn_I u w' → mn_L w w' → w' 13 c 0 ≠ 0 → Post none w') :
    mj_J g y_Fo_meet d 0 0 (0, [some (mj_R 11), some (.inl c)], [], mj_mem nn xs w) (mj_P nn xs Post) := by
  obtain ⟨i1, i2, i3, i4, i5, i6⟩ := hI
  have hle : mj_cn (fun c : Nat => decide (w 13 (c : Int) 0 ≠ 0)) 845 ≤ 845 := mj_cn_le _ _
  refine v_Fo_meet_0 hn ⟨c0, c1, by rcases i5 c c0 c1 with z | z <;> exact ⟨by omega, by omega⟩, fun q => ⟨⟨by omega, by omega⟩, fun q1 => ?_, fun q1 => ?_⟩, fun q => h w ⟨i1, i2, i3, i4, i5, i6⟩ (mn_L.refl w) q⟩
  · rintro w7 rfl
    have e7 : mj_wu w 13 c 0 1 11 6 0 = w 11 6 0 := mj_wu_n (fun z => by cases z.1)
    rw [e7]
    refine ⟨by omega, q1, ?_⟩
    rintro w11 rfl w13 rfl
    have e11 : mj_wu (mj_wu w 13 c 0 1) 12 (w 11 6 0) 0 c 11 6 0 = w 11 6 0 := (mj_wu_n (fun z => by cases z.1)).trans e7
    rw [e11]
    generalize hw' : mj_wu (mj_wu (mj_wu w 13 c 0 1) 12 (w 11 6 0) 0 c) 11 6 0 (w 11 6 0 + 1) = w'
    have f : ∀ (p : Nat) (a b : Int), ¬ (p = 12 ∧ a = w 11 6 0 ∧ b = 0) → ¬ (p = 13 ∧ a = c ∧ b = 0) → ¬ (p = 11 ∧ a = 6 ∧ b = 0) → w' p a b = w p a b := fun p a b z1 z2 z3 => by
      rw [← hw']; exact (mj_wu_n z3).trans ((mj_wu_n z1).trans (mj_wu_n z2))
    have e6 : w' 11 6 0 = w 11 6 0 + 1 := by rw [← hw']; unfold mj_wu; simp
    have em : w' 13 c 0 = 1 := by rw [← hw']; refine (mj_wu_n (fun z => by cases z.1)).trans ((mj_wu_n (fun z => by cases z.1)).trans ?_); unfold mj_wu; simp
    have el : w' 12 (w 11 6 0) 0 = c := by rw [← hw']; refine (mj_wu_n (fun z => by cases z.1)).trans ?_; unfold mj_wu; simp
    have eo : ∀ x : Int, x ≠ c → w' 13 x 0 = w 13 x 0 := fun x hx => f 13 x 0 (fun z => by cases z.1) (fun z => hx z.2.1) (fun z => by cases z.1)
    have ek : ∀ m : Int, m ≠ w 11 6 0 → w' 12 m 0 = w 12 m 0 := fun m hm => f 12 m 0 (fun z => hm z.2.1) (fun z => by cases z.1) (fun z => by cases z.1)
    have mono : ∀ x : Int, w 13 x 0 ≠ 0 → w' 13 x 0 ≠ 0 := fun x hx => by
      by_cases e : x = c
      · rw [e, em]; decide
      · rw [eo x e]; exact hx
    refine h w' ⟨fun p a b hp => (f p a b (fun z => by omega) (fun z => by omega) (fun z => by omega)).trans (i1 p a b hp), ?_, fun m m0 m1 => ?_, fun x x0 x1 hx => ?_, fun x x0 x1 => ?_, fun T hT' x x0 x1 hx => ?_⟩ ⟨mono, fun m m0 m1 => ek m (by omega), by omega, fun p a b z1 z2 z3 => f p a b (fun z => z1 z.1) (fun z => z2 z.1) z3⟩ (by rw [em]; decide)
    · have := mj_cn_set (f := fun c : Nat => decide (w 13 (c : Int) 0 ≠ 0)) (g := fun c : Nat => decide (w' 13 (c : Int) 0 ≠ 0)) (k := c.toNat) (by rw [show ((c.toNat : Nat) : Int) = c by omega]; simp [q]) (by rw [show ((c.toNat : Nat) : Int) = c by omega]; simp [em]) 845 (by omega) (fun j hj hne => by rw [eo (j : Int) (by omega)])
      rw [this, e6, i2]
      omega
    · by_cases e : m = w 11 6 0
      · rw [e, el, em]; exact ⟨⟨c0, c1⟩, by decide⟩
      · rw [ek m e]
        have := i3 m m0 (by omega)
        exact ⟨this.1, mono _ this.2⟩
    · by_cases e : x = c
      · exact ⟨w 11 6 0, by omega, by omega, by rw [el, e]⟩
      · rw [eo x e] at hx
        obtain ⟨m, m0, m1, m2⟩ := i4 x x0 x1 hx
        exact ⟨m, m0, by omega, by rw [ek m (by omega)]; exact m2⟩
    · by_cases e : x = c
      · rw [e, em]; exact Or.inr rfl
      · rw [eo x e]; exact i5 x x0 x1
    · by_cases e : x = c
      · rw [e]; exact hT T hT'
      · rw [eo x e] at hx
        exact i6 T hT' x x0 x1 hx
  · exfalso
    have := mj_cn_lt (f := fun c : Nat => decide (w 13 (c : Int) 0 ≠ 0)) (k := c.toNat) (by rw [show ((c.toNat : Nat) : Int) = c by omega]; simp [q]) 845 (by omega)
    omega
theorem c_meetParts_2 (hn : 21 ≤ nn) (hG : mj_GI u) (hl : 0 ≤ u 4 0 0 ∧ u 4 0 0 ≤ 12) {c : Int} (hv : mf_vc (u 4 0 0) c) (hT : ∀ T, mf_cl u (mf_V u) (u 4 0 0) T → T c) {L : List (Int × Int × Int)} {f : Int × Int × Int → Int} {m : Nat} {q : Int × Int × Int} (hm : m < 910) (hq : L[m]? = some q) (hin : q ∈ mf_ways u (mf_V u) (c / 169) (c / 13 % 13) (c % 13))
    {w0 : mj_w} (h : ∀ w', mn_I u w' → mn_L w0 w' → mf_arr w' L f → (∀ k : Int, 0 ≤ k → k < 3 → 0 ≤ u 3 ((q.1 + 1) * 4 + k) 0 → u 3 ((q.1 + 1) * 4 + k) 0 < 5 → w' 13 ((u 3 ((q.1 + 1) * 4 + k) 0 * 13 + mf_cu (c / 13 % 13) (c % 13) q k) * 13 + mf_cu (c / 13 % 13) (c % 13) q (k + 1)) 0 ≠ 0) → Post none w') (ei : w0 17 2 0 = c / 13 % 13) (ej : w0 17 3 0 = c % 13) :
    ∀ (n : Nat) (k : Int) (w : mj_w), 0 ≤ k → k ≤ 3 → (3 - k).toNat = n → mn_I u w → mn_L w0 w → mf_arr w L f → (∀ k' : Int, 0 ≤ k' → k' < k → 0 ≤ u 3 ((q.1 + 1) * 4 + k') 0 → u 3 ((q.1 + 1) * 4 + k') 0 < 5 → w 13 ((u 3 ((q.1 + 1) * 4 + k') 0 * 13 + mf_cu (c / 13 % 13) (c % 13) q k') * 13 + mf_cu (c / 13 % 13) (c % 13) q (k' + 1)) 0 ≠ 0) →
    mj_J g y_Fo_meetParts (d + 3) 0 0 (2, [some (mj_R 11), some (.inl (m : Int)), some (.inl k)], [], mj_mem nn xs w) (mj_P nn xs Post) := by
  intro n
  have hv' := hv
  unfold mf_vc at hv'
  obtain ⟨m1, m2, m3, m4, m5, m6⟩ := (mf_mem hG.1.1 (by omega)).mp hin
  have hcnt := hG.1
  induction n with
  | zero =>
    intro k w k0 k1 hk hI hL ha hd
    exact v_Fo_meetParts_2 (d := d + 2) hn ⟨⟨by omega, by omega⟩, fun z => by omega, fun _ => h w hI hL ha (fun k' a b => hd k' a (by omega))⟩
  | succ n ih =>
    intro k w k0 k1 hk hI hL ha hd
    have e3 : ∀ x, w 3 x 0 = u 3 x 0 := fun x => hI.1 3 x 0 (by omega)
    have e172 : w 17 2 0 = c / 13 % 13 := (hL.2.2.2 17 2 0 (by decide) (by decide) (fun z => by cases z.1)).trans ei
    have e173 : w 17 3 0 = c % 13 := (hL.2.2.2 17 3 0 (by decide) (by decide) (fun z => by cases z.1)).trans ej
    have g3 := hG.sy m1 k k0 (by omega)
    have g4 := hG.2.2 ((q.1 + 1) * 4 + k) (by omega) (by omega)
    refine v_Fo_meetParts_2 (d := d + 2) hn ⟨⟨by omega, by omega⟩, fun z => c_symbolOf (d := d + 1) hn ha hm hq (by omega) ⟨k0, z⟩ ⟨_, rfl, c_isNonterminal hn (by rw [e3]; exact ⟨by omega, by omega⟩) ⟨_, rfl, ?_⟩⟩, fun z => by omega⟩
    rw [e3]
    unfold mj_isN
    by_cases qn : 0 ≤ u 3 ((q.1 + 1) * 4 + k) 0 ∧ u 3 ((q.1 + 1) * 4 + k) 0 < 5
    · rw [if_pos qn]
      refine ⟨⟨by decide, by decide⟩, fun z => absurd z (by decide), fun _ => ?_⟩
      refine c_partCell (d := d) hn ha hm hq (by omega) (by omega) ⟨k0, by omega⟩ e172 e173 ⟨_, rfl, ?_⟩
      rw [e3]
      have hcu := mf_cu_le (k := k) ⟨m3, m4, m5⟩ k0 (by omega)
      have hvc := mf_vc_of hl.2 qn (show 0 ≤ mf_cu (c / 13 % 13) (c % 13) q k by omega) hcu.2.1 (by omega)
      refine c_meet hn hI hvc.1.1.1 hvc.1.1.2 (fun T hT' => hT'.2 c hv (hT T hT') q hin k k0 (by omega) qn.1 qn.2) (fun w' I' L' hmet => ⟨rfl, ?_⟩)
      refine ih (k + 1) w' (by omega) (by omega) (by omega) I' (hL.trans L') (L'.arr ha) (fun k' a b s0 s1 => ?_)
      by_cases e : k' = k
      · rw [e]; exact hmet
      · exact L'.1 _ (hd k' a (by omega) s0 s1)
    · rw [if_neg qn]
      refine ⟨⟨by decide, by decide⟩, fun _ => ?_, fun z => absurd rfl z⟩
      refine ih (k + 1) w (by omega) (by omega) (by omega) hI hL ha (fun k' a b s0 s1 => ?_)
      by_cases e : k' = k
      · rw [e] at s0 s1; exact absurd ⟨s0, s1⟩ qn
      · exact hd k' a (by omega) s0 s1
theorem c_meetParts (hn : 21 ≤ nn) (hG : mj_GI u) (hl : 0 ≤ u 4 0 0 ∧ u 4 0 0 ≤ 12) {c : Int} (hv : mf_vc (u 4 0 0) c) (hT : ∀ T, mf_cl u (mf_V u) (u 4 0 0) T → T c) {L : List (Int × Int × Int)} {f : Int × Int × Int → Int} {m : Nat} {q : Int × Int × Int} (hm : m < 910) (hq : L[m]? = some q) (hin : q ∈ mf_ways u (mf_V u) (c / 169) (c / 13 % 13) (c % 13)) (hI : mn_I u w) (ha : mf_arr w L f) (ei : w 17 2 0 = c / 13 % 13) (ej : w 17 3 0 = c % 13)
    (h : ∀ w', mn_I u w' → mn_L w w' → mf_arr w' L f → (∀ k : Int, 0 ≤ k → k < 3 → 0 ≤ u 3 ((q.1 + 1) * 4 + k) 0 → u 3 ((q.1 + 1) * 4 + k) 0 < 5 → w' 13 ((u 3 ((q.1 + 1) * 4 + k) 0 * 13 + mf_cu (c / 13 % 13) (c % 13) q k) * 13 + mf_cu (c / 13 % 13) (c % 13) q (k + 1)) 0 ≠ 0) → Post none w') :
    mj_J g y_Fo_meetParts (d + 3) 0 0 (0, [some (mj_R 11), some (.inl (m : Int)), none], [], mj_mem nn xs w) (mj_P nn xs Post) :=
  v_Fo_meetParts_0 (d := d + 2) hn (c_meetParts_2 hn hG hl hv hT hm hq hin h ei ej _ 0 w (Int.le_refl _) (by decide) rfl hI (mn_L.refl w) ha (fun k a b => by omega))
theorem c_gatherCell (hn : 21 ≤ nn) (hH : mf_H w) {c : Int} (hv : mf_vc (w 4 0 0) c)
    (h : ∀ w', (∀ (p : Nat) (a b : Int), p ≠ 17 → p ≠ 18 → p ≠ 19 → p ≠ 20 → w' p a b = w p a b) → w' 17 2 0 = c / 13 % 13 → w' 17 3 0 = c % 13 → mf_arr w' (mf_ways w (mf_V w) (c / 169) (c / 13 % 13) (c % 13)) (mf_val w (mf_V w) (c / 13 % 13) (c % 13)) → Post none w') :
    mj_J g y_Fo_gatherCell (d + 4) 0 0 (0, [some (mj_R 11), some (.inl c)], [], mj_mem nn xs w) (mj_P nn xs Post) := by
  unfold mf_vc at hv
  exact v_Fo_gatherCell_0 (d := d + 3) hn ⟨⟨by omega, by omega⟩, by omega, ⟨by omega, by omega⟩, by omega, c_gather hn hH (by omega) (by omega) (by omega) (by omega) (fun w' f e2 e3 a => ⟨rfl, h w' f e2 e3 a⟩)⟩
/-- all parts of the ways of c are met -/
def mn_D (u : mj_w) (c : Int) (w : mj_w) : Prop := ∀ q, q ∈ mf_ways u (mf_V u) (c / 169) (c / 13 % 13) (c % 13) → ∀ k : Int, 0 ≤ k → k < 3 → 0 ≤ u 3 ((q.1 + 1) * 4 + k) 0 → u 3 ((q.1 + 1) * 4 + k) 0 < 5 → w 13 ((u 3 ((q.1 + 1) * 4 + k) 0 * 13 + mf_cu (c / 13 % 13) (c % 13) q k) * 13 + mf_cu (c / 13 % 13) (c % 13) q (k + 1)) 0 ≠ 0
theorem c_nodesMet_90 (hn : 21 ≤ nn) (hG : mj_GI u) (hl : 0 ≤ u 4 0 0 ∧ u 4 0 0 ≤ 12) {c at_ : Int} (hv : mf_vc (u 4 0 0) c) (hT : ∀ T, mf_cl u (mf_V u) (u 4 0 0) T → T c) {L : List (Int × Int × Int)} {f : Int × Int × Int → Int} (hLu : L = mf_ways u (mf_V u) (c / 169) (c / 13 % 13) (c % 13)) (hLl : L.length ≤ 910)
    {w0 : mj_w} (ei : w0 17 2 0 = c / 13 % 13) (ej : w0 17 3 0 = c % 13) (h : ∀ w', mn_I u w' → mn_L w0 w' → mn_D u c w' → mj_J g y_Fo_nodesMet (d + 5) 0 0 (63, [some (mj_R 11), some (.inl (at_ + 1)), none], [], mj_mem nn xs w') (mj_P nn xs Post)) :
    ∀ (R P : List (Int × Int × Int)) (w : mj_w), P ++ R = L → mn_I u w → mn_L w0 w → mf_arr w L f → (∀ q ∈ P, ∀ k : Int, 0 ≤ k → k < 3 → 0 ≤ u 3 ((q.1 + 1) * 4 + k) 0 → u 3 ((q.1 + 1) * 4 + k) 0 < 5 → w 13 ((u 3 ((q.1 + 1) * 4 + k) 0 * 13 + mf_cu (c / 13 % 13) (c % 13) q k) * 13 + mf_cu (c / 13 % 13) (c % 13) q (k + 1)) 0 ≠ 0) →
    mj_J g y_Fo_nodesMet (d + 5) 0 0 (90, [some (mj_R 11), some (.inl at_), some (.inl (P.length : Int))], [], mj_mem nn xs w) (mj_P nn xs Post) := by
  intro R
  induction R with
  | nil =>
    intro P w hl' hI hL ha hd
    rw [List.append_nil] at hl'
    have e4 := ha.1
    rw [← hl'] at e4 hLl
    refine v_Fo_nodesMet_90 (d := d + 4) hn ⟨⟨by omega, by omega⟩, ⟨by omega, by omega⟩, fun z => by omega, fun _ => h w hI hL (fun q hq => hd q (by rw [hl', hLu]; exact hq))⟩
  | cons q0 R ih =>
    intro P w hl' hI hL ha hd
    have hk : L[P.length]? = some q0 := by rw [← hl', List.getElem?_append_right (Nat.le_refl _), Nat.sub_self]; rfl
    have hlen : P.length + (R.length + 1) = L.length := by rw [← hl', List.length_append, List.length_cons]
    have e4 := ha.1
    have e172 : w 17 2 0 = c / 13 % 13 := (hL.2.2.2 17 2 0 (by decide) (by decide) (fun z => by cases z.1)).trans ei
    have e173 : w 17 3 0 = c % 13 := (hL.2.2.2 17 3 0 (by decide) (by decide) (fun z => by cases z.1)).trans ej
    refine v_Fo_nodesMet_90 (d := d + 4) hn ⟨⟨by omega, by omega⟩, ⟨by omega, by omega⟩, fun z => ?_, fun z => by omega⟩
    refine c_meetParts (d := d + 1) hn hG hl hv hT (by omega) hk (by rw [← hLu]; exact List.mem_of_getElem? hk) hI ha e172 e173 (fun w' I' L' a' hm' => ⟨rfl, ?_⟩)
    have := ih (P ++ [q0]) w' (by rw [List.append_assoc]; exact hl') I' (hL.trans L') a' (fun q hq k k0 k1 s0 s1 => by
      rcases List.mem_append.mp hq with z | z
      · exact L'.1 _ (hd q z k k0 k1 s0 s1)
      · rw [List.mem_singleton] at z
        rw [z] at s0 s1 ⊢
        exact hm' k k0 k1 s0 s1)
    rw [List.length_append, List.length_singleton] at this
    rw [show ((P.length + 1 : Nat) : Int) = (P.length : Int) + 1 by omega] at this
    exact this
theorem c_nodesMet_63 (hn : 21 ≤ nn) (hH : mf_H u)
    (h : ∀ w', mn_I u w' → mf_RC u (mf_V u) (u 4 0 0) (fun c => w' 13 c 0 ≠ 0) → Post (some (.inl (w' 11 6 0))) w') :
    ∀ (m : Nat) (at_ : Int) (w : mj_w), 0 ≤ at_ → at_ ≤ 845 → (845 - at_).toNat = m → mn_I u w → (mf_V u 0 0 (u 4 0 0) ≠ 0 → w 13 (u 4 0 0) 0 ≠ 0) → at_ ≤ w 11 6 0 → (∀ k : Int, 0 ≤ k → k < at_ → mn_D u (w 12 k 0) w) →
    mj_J g y_Fo_nodesMet (d + 5) 0 0 (63, [some (mj_R 11), some (.inl at_), none], [], mj_mem nn xs w) (mj_P nn xs Post) := by
  intro m
  have hlen := hH.2.2.1
  have fin : ∀ (w : mj_w), mn_I u w → (mf_V u 0 0 (u 4 0 0) ≠ 0 → w 13 (u 4 0 0) 0 ≠ 0) → (∀ k : Int, 0 ≤ k → k < w 11 6 0 → mn_D u (w 12 k 0) w) → Post (some (.inl (w 11 6 0))) w := fun w hI hr hD => by
    refine h w hI ⟨⟨hr, fun c hv hc q hq k k0 k1 s0 s1 => ?_⟩, fun T hT c c0 c1 hc => hI.2.2.2.2.2 T hT c c0 c1 hc⟩
    obtain ⟨m, m0, m1, m2⟩ := hI.2.2.2.1 c hv.1.1 hv.1.2 hc
    have := hD m m0 m1
    rw [m2] at this
    exact this q hq k k0 k1 s0 s1
  induction m with
  | zero =>
    intro at_ w a0 a1 hm hI hr hat hD
    have hle : mj_cn (fun c : Nat => decide (w 13 (c : Int) 0 ≠ 0)) 845 ≤ 845 := mj_cn_le _ _
    have e6 := hI.2.1
    exact v_Fo_nodesMet_63 (d := d + 4) hn ⟨⟨by omega, by omega⟩, ⟨by omega, by omega⟩, fun z => by omega, fun _ => fin w hI hr (fun k k0 k1 => hD k k0 (by omega))⟩
  | succ m ih =>
    intro at_ w a0 a1 hm hI hr hat hD
    have hle : mj_cn (fun c : Nat => decide (w 13 (c : Int) 0 ≠ 0)) 845 ≤ 845 := mj_cn_le _ _
    have e6 := hI.2.1
    refine v_Fo_nodesMet_63 (d := d + 4) hn ⟨⟨by omega, by omega⟩, ⟨by omega, by omega⟩, fun z => ⟨fun z1 => ⟨a0, z1, ?_⟩, fun z1 => by omega⟩, fun z => fin w hI hr (fun k k0 k1 => hD k k0 (by omega))⟩
    have hHw := hH.I hI
    have e4 : w 4 0 0 = u 4 0 0 := hI.1 4 0 0 (by omega)
    have hci := hI.2.2.1 at_ a0 z
    have hT : ∀ T, mf_cl u (mf_V u) (u 4 0 0) T → T (w 12 at_ 0) := fun T hT => hI.2.2.2.2.2 T hT _ hci.1.1 hci.1.2 hci.2
    have hv := hT _ (mf_cl_vc hH.1.1.1 hlen)
    refine c_gatherCell (d := d) hn hHw (by rw [e4]; exact hv) (fun w' f' e2 e3 a' => ⟨rfl, ?_⟩)
    have hv' := hv
    unfold mf_vc at hv'
    have esame : ∀ (p : Nat) (a b : Int), (p ≤ 5 ∨ p = 16) → w p a b = u p a b := fun p a b hp => hI.1 p a b (by omega)
    have hw := mf_ways_same hH.1 (s := w 12 at_ 0 / 169) (i := w 12 at_ 0 / 13 % 13) (j := w 12 at_ 0 % 13) (by omega) esame
    have I' : mn_I u w' := by
      have t13 : ∀ c : Int, w' 13 c 0 = w 13 c 0 := fun c => f' 13 c 0 (by decide) (by decide) (by decide) (by decide)
      have t12 : ∀ c : Int, w' 12 c 0 = w 12 c 0 := fun c => f' 12 c 0 (by decide) (by decide) (by decide) (by decide)
      have t11 : w' 11 6 0 = w 11 6 0 := f' 11 6 0 (by decide) (by decide) (by decide) (by decide)
      obtain ⟨i1, i2, i3, i4, i5, i6⟩ := hI
      unfold mn_I
      simp only [t11, t12, t13]
      exact ⟨fun p a b hp => (f' p a b (by omega) (by omega) (by omega) (by omega)).trans (i1 p a b hp), i2, i3, i4, i5, i6⟩
    have hll := mf_len (u := w) (V := mf_V w) (s := w 12 at_ 0 / 169) (i := w 12 at_ 0 / 13 % 13) (j := w 12 at_ 0 % 13) hHw.1.1.1 hHw.1.1.2 (by omega)
    refine c_nodesMet_90 (d := d) hn hH.1 hlen hv hT hw.symm hll e2 e3 (fun w2 I2 L2 D2 => ?_) _ [] w' rfl I' (mn_L.refl w') a' (fun q hq => by cases hq)
    have t12 : ∀ c : Int, w' 12 c 0 = w 12 c 0 := fun c => f' 12 c 0 (by decide) (by decide) (by decide) (by decide)
    have t13 : ∀ c : Int, w' 13 c 0 = w 13 c 0 := fun c => f' 13 c 0 (by decide) (by decide) (by decide) (by decide)
    have t11 : w' 11 6 0 = w 11 6 0 := f' 11 6 0 (by decide) (by decide) (by decide) (by decide)
    have l3 := L2.2.2.1
    refine ih (at_ + 1) w2 (by omega) (by omega) (by omega) I2 (fun hz => L2.1 _ (by rw [t13]; exact hr hz)) (by omega) (fun k k0 k1 => ?_)
    have ek : w2 12 k 0 = w 12 k 0 := (L2.2.1 k k0 (by omega)).trans (t12 k)
    rw [ek]
    by_cases e : k = at_
    · rw [e]; exact D2
    · intro q hq k' k0' k1' s0 s1
      exact L2.1 _ (by rw [t13]; exact hD k k0 (by omega) q hq k' k0' k1' s0 s1)
theorem c_nodesMet_2 (hn : 21 ≤ nn) (hH : mf_H u)
    (h : ∀ w', mn_I u w' → mf_RC u (mf_V u) (u 4 0 0) (fun c => w' 13 c 0 ≠ 0) → Post (some (.inl (w' 11 6 0))) w') :
    ∀ (m : Nat) (c : Int) (w : mj_w), 0 ≤ c → c ≤ 845 → (845 - c).toNat = m → (∀ (p : Nat) (a b : Int), p ≠ 13 → w p a b = u p a b) → (∀ k : Int, 0 ≤ k → k < c → w 13 k 0 = 0) →
    mj_J g y_Fo_nodesMet (d + 5) 0 0 (2, [some (mj_R 11), some (.inl c), none], [], mj_mem nn xs w) (mj_P nn xs Post) := by
  intro m
  have hlen := hH.2.2.1
  induction m with
  | zero =>
    intro c w c0 c1 hm hf hz
    refine v_Fo_nodesMet_2 (d := d + 4) hn ⟨⟨by omega, by omega⟩, fun z => by omega, fun _ => ?_⟩
    rintro w7 rfl
    have en : ∀ (p : Nat) (a b : Int), ¬ (p = 11 ∧ a = 6 ∧ b = 0) → p ≠ 13 → mj_wu w 11 6 0 0 p a b = u p a b := fun p a b z1 z2 => (mj_wu_n z1).trans (hf p a b z2)
    have e13 : ∀ k : Int, mj_wu w 11 6 0 0 13 k 0 = w 13 k 0 := fun k => mj_wu_n (fun z => by cases z.1)
    have e6 : mj_wu w 11 6 0 0 11 6 0 = 0 := by unfold mj_wu; simp
    have hH7 : mf_H (mj_wu w 11 6 0 0) := hH.same (fun p a b hp => en p a b (fun z => by omega) (by omega))
    have eV : mf_V (mj_wu w 11 6 0 0) = mf_V u := mf_V_same (fun a b => en 16 a b (fun z => by omega) (by decide))
    have e4 : mj_wu w 11 6 0 0 4 0 0 = u 4 0 0 := en 4 0 0 (fun z => by omega) (by decide)
    have hz' : ∀ k : Int, 0 ≤ k → k < 845 → mj_wu w 11 6 0 0 13 k 0 = 0 := fun k k0 k1 => by rw [e13]; exact hz k k0 (by omega)
    have I7 : mn_I u (mj_wu w 11 6 0 0) := by
      refine ⟨fun p a b hp => en p a b (fun z => by omega) (by omega), ?_, fun m m0 m1 => by omega, fun x x0 x1 hx => absurd (hz' x x0 x1) hx, fun x x0 x1 => Or.inl (hz' x x0 x1), fun T _ x x0 x1 hx => absurd (hz' x x0 x1) hx⟩
      rw [e6, mj_cn_zero 845 (fun k hk => by rw [hz' (k : Int) (by omega) (by omega)]; rfl)]
      rfl
    rw [e4]
    refine c_treesOver (d := d + 2) hn hH7 (by decide) (by decide) hlen.1 (by omega) ⟨_, rfl, ?_⟩
    rw [eV]
    have hrv := hH.rv 0 0 (u 4 0 0)
    refine ⟨by rcases hrv with z | z <;> exact ⟨by omega, by omega⟩, fun q => ?_, fun q => ?_⟩
    · exact c_nodesMet_63 hn hH h _ 0 _ (Int.le_refl _) (by decide) rfl I7 (fun z => absurd q z) (by omega) (fun k k0 k1 => by omega)
    · rw [e4]
      refine c_cellOf hn ⟨_, rfl, ?_⟩
      rw [show ((0 : Int) * 13 + 0) * 13 + u 4 0 0 = u 4 0 0 by omega]
      refine c_meet hn I7 hlen.1 (by omega) (fun T hT => hT.1 q) (fun w' I' L' hm' => ⟨rfl, ?_⟩)
      exact c_nodesMet_63 hn hH h _ 0 _ (Int.le_refl _) (by decide) rfl I' (fun _ => hm') (by have := I'.2.1; omega) (fun k k0 k1 => by omega)
  | succ m ih =>
    intro c w c0 c1 hm hf hz
    refine v_Fo_nodesMet_2 (d := d + 4) hn ⟨⟨by omega, by omega⟩, fun z => ⟨c0, z, ?_⟩, fun z => by omega⟩
    rintro w5 rfl
    refine ih (c + 1) _ (by omega) (by omega) (by omega) (fun p a b hp => (mj_wu_n (fun z => hp z.1)).trans (hf p a b hp)) (fun k k0 k1 => ?_)
    by_cases e : k = c
    · rw [e]; unfold mj_wu; simp
    · rw [mj_wu_n (fun z => by omega)]; exact hz k k0 (by omega)
theorem c_CF_nodes (hn : 21 ≤ nn) (hF : mf_FI w)
    (h : ∀ (w' : mj_w) (M : Int → Int), mf_k w w' → mf_FI w' → w' 11 3 0 = w' 4 0 0 + 1 → mf_RC w' (mf_V w') (w' 4 0 0) (fun c => M c ≠ 0) → Post (some (.inl (mj_cn (fun c : Nat => decide (M (c : Int) ≠ (0 : Int))) 845 : Int))) w') :
    mj_J g y_CF_nodes (d + 6) 0 0 (0, [some (mj_R 0)], [], mj_mem nn xs w) (mj_P nn xs Post) := by
  refine v_CF_nodes_0 (d := d + 5) hn (c_ready hn hF (fun w1 k1 F1 e1 => ⟨rfl, ?_⟩))
  refine v_Fo_nodesMet_0 (d := d + 4) hn (c_nodesMet_2 hn F1.1 (fun w2 I2 R2 => ⟨_, rfl, ?_⟩) _ 0 w1 (Int.le_refl _) (by decide) rfl (fun _ _ _ _ => rfl) (fun k k0 k1 => by omega))
  have hs : ∀ (p : Nat) (a b : Int), (p ≤ 5 ∨ p = 16) → w2 p a b = w1 p a b := fun p a b hp => I2.1 p a b (by omega)
  have F2 := F1.same hs (I2.1 11 3 0 (by omega))
  have e4 : w2 4 0 0 = w1 4 0 0 := I2.1 4 0 0 (by omega)
  have hV := mf_V_same (w := w1) (w' := w2) (fun a b => hs 16 a b (by omega))
  have hsg : mf_sg w1 w2 0 (w1 4 0 0) := mf_sg.of 0 (w1 4 0 0) (fun p a b hp => hs p a b (by omega))
  have hlen := F1.1.2.2.1
  rw [I2.2.1]
  refine h w2 (fun c => w2 13 c 0) (k1.trans (fun p a b hp => I2.1 p a b (by omega))) F2 (by rw [I2.1 11 3 0 (by omega), e4]; exact e1) ?_
  rw [e4]
  exact ⟨mf_cl_congr F1.1.1 hlen hsg (fun s a b _ _ _ _ _ => by rw [hV]) R2.1, fun T hT => R2.2 T (mf_cl_congr F2.1.1 hlen hsg.symm (fun s a b _ _ _ _ _ => by rw [hV]) hT)⟩
end C78
